/-! SQUARES: the arrangements of all rows are all fours -/
def gS : Nat → (Nat → Nat) → Nat
  | 0, _ => 0
  | m + 1, f => f m + gS m f
theorem gS_congr {f g : Nat → Nat} : ∀ {m : Nat}, (∀ i, i < m → f i = g i) → gS m f = gS m g := by
  intro m
  induction m with
  | zero => intro _; rfl
  | succ m ih =>
    intro h
    unfold gS
    rw [h m (by omega), ih (fun i hi => h i (by omega))]
theorem gS_zero {f : Nat → Nat} : ∀ {m : Nat}, (∀ i, i < m → f i = 0) → gS m f = 0 := by
  intro m
  induction m with
  | zero => intro _; rfl
  | succ m ih =>
    intro h
    unfold gS
    rw [h m (by omega), ih (fun i hi => h i (by omega))]
theorem gS_one {f : Nat → Nat} {k : Nat} : ∀ {m : Nat}, k < m → (∀ i, i < m → ¬ i = k → f i = 0) → gS m f = f k := by
  intro m
  induction m with
  | zero => intro h; omega
  | succ m ih =>
    intro h hz
    unfold gS
    by_cases e : k = m
    · subst e
      rw [gS_zero (fun i hi => hz i (by omega) (by omega))]; rfl
    · rw [hz m (by omega) (by omega), ih (by omega) (fun i hi => hz i (by omega)), Nat.zero_add]
theorem gS_fm {h : ZQ → Nat} {g : Nat → List ZQ} : ∀ m, (((nL m).flatMap g).map h).sum = gS m fun i => ((g i).map h).sum := by
  intro m
  induction m with
  | zero => rfl
  | succ m ih =>
    rw [nL, List.flatMap_cons, List.map_append, List.sum_append, ih]
    rfl
theorem gS_pC {n : Nat} {g : Nat → List Nat} : ∀ m, pC n ((nL m).flatMap g) = gS m fun i => pC n (g i) := by
  intro m
  induction m with
  | zero => rfl
  | succ m ih =>
    rw [nL, List.flatMap_cons, pC_app, ih]
    rfl
theorem gS_pS {X : Nat} {g : Nat → List Nat} : ∀ m, pS X ((nL m).flatMap g) = gS m fun i => pS X (g i) := by
  intro m
  induction m with
  | zero => rfl
  | succ m ih =>
    rw [nL, List.flatMap_cons, pS_app, ih]
    rfl
theorem gS_len {g : Nat → List Nat} : ∀ m, ((nL m).flatMap g).length = gS m fun i => (g i).length := by
  intro m
  induction m with
  | zero => rfl
  | succ m ih =>
    rw [nL, List.flatMap_cons, List.length_append, ih]
    rfl
theorem pC_rep (n e : Nat) : ∀ k, pC n (List.replicate k e) = if e = n then k else 0 := by
  intro k
  induction k with
  | zero => show 0 = _; split <;> rfl
  | succ k ih =>
    rw [List.replicate_succ, pC_cons, ih]
    split <;> omega
theorem pS_rep (X e : Nat) : ∀ k, pS X (List.replicate k e) = k * X ^ e := by
  intro k
  induction k with
  | zero => rw [Nat.zero_mul]; rfl
  | succ k ih => rw [List.replicate_succ, pS_cons, ih, Nat.add_mul, Nat.one_mul, Nat.add_comm]
/-- over all rows: a weight, by the sum of squares -/
def tL (f : Nat → Nat → Nat → Nat → Nat) : List Nat := (nL 13).flatMap fun a => (nL (a + 1)).flatMap fun b => (nL (b + 1)).flatMap fun c => (nL (c + 1)).flatMap fun d => List.replicate (f a b c d) (a * a + b * b + c * c + d * d)
def tS (f : Nat → Nat → Nat → Nat → Nat) : Nat := gS 13 fun a => gS (a + 1) fun b => gS (b + 1) fun c => gS (c + 1) fun d => f a b c d
def tN (f : Nat → Nat → Nat → Nat → Nat) : Nat := gS 13 fun a => gS (a + 1) fun b => gS (b + 1) fun c => gS (c + 1) fun d => f a b c d * 4294967296 ^ (a * a + b * b + c * c + d * d)
theorem tL_len (f : Nat → Nat → Nat → Nat → Nat) : (tL f).length = tS f := by
  unfold tL tS
  simp only [gS_len, List.length_replicate]
theorem tL_pS (f : Nat → Nat → Nat → Nat → Nat) : pS 4294967296 (tL f) = tN f := by
  unfold tL tN
  simp only [gS_pS, pS_rep]
theorem tL_pC (n : Nat) (f : Nat → Nat → Nat → Nat → Nat) : pC n (tL f) = gS 13 fun a => gS (a + 1) fun b => gS (b + 1) fun c => gS (c + 1) fun d => if a * a + b * b + c * c + d * d = n then f a b c d else 0 := by
  unfold tL
  simp only [gS_pC, pC_rep]
def qf (h : ZQ → Nat) (a b c d : Nat) : Nat := h ((a : Int), (b : Int), (c : Int), (d : Int))
theorem sqB_sum {n a b c : Nat} (hb : b ≤ a) (hc : c ≤ b) (h : ZQ → Nat) : ((sqB n a b c).map h).sum = gS (c + 1) fun d => if a * a + b * b + c * c + d * d = n then qf h a b c d else 0 := by
  have root : ∀ d : Nat, a * a + b * b + c * c + d * d = n → rI (sqR n a b c) = d := by
    intro d hd
    have e : sqR n a b c = (d : Int) * d := by
      have h2 : ((a * a + b * b + c * c + d * d : Nat) : Int) = n := by rw [hd]
      rw [Int.natCast_add, Int.natCast_add, Int.natCast_add, Int.natCast_mul, Int.natCast_mul, Int.natCast_mul, Int.natCast_mul] at h2
      unfold sqR
      omega
    have nn := sq_nn (d : Int)
    unfold rI
    rw [if_pos (by omega), zRt_sq (d := (d : Int)) (by omega)]
    omega
  unfold sqB
  by_cases g : (a : Int) < b ∨ (b : Int) < c ∨ (c : Int) < rI (sqR n a b c) ∨ rI (sqR n a b c) < 0
  · rw [if_pos g, gS_zero]
    · rfl
    · intro d hd
      rw [if_neg]
      intro z
      have := root d z
      omega
  · rw [if_neg g]
    obtain ⟨k, hk⟩ : ∃ k : Nat, rI (sqR n a b c) = k := ⟨(rI (sqR n a b c)).toNat, by omega⟩
    have e := sqB_root hk (by omega)
    have e' : a * a + b * b + c * c + k * k = n := by
      have : ((a * a + b * b + c * c + k * k : Nat) : Int) = (n : Int) := by
        rw [Int.natCast_add, Int.natCast_add, Int.natCast_add, Int.natCast_mul, Int.natCast_mul, Int.natCast_mul, Int.natCast_mul]
        exact e.symm
      exact Int.ofNat_inj.mp this
    rw [gS_one (k := k) (by omega) (fun i hi hik => by
      rw [if_neg]
      intro z
      have := root i z
      omega), if_pos e', hk]
    show h _ + 0 = _
    rfl
theorem dBs_sum (n : Nat) (h : ZQ → Nat) : ((dBs n).map h).sum = pC n (tL (qf h)) := by
  rw [tL_pC]
  unfold dBs
  rw [gS_fm]
  refine gS_congr (fun a ha => ?_)
  unfold dB1
  rw [gS_fm]
  refine gS_congr (fun b hb => ?_)
  unfold dB2
  rw [gS_fm]
  refine gS_congr (fun c hc => ?_)
  exact sqB_sum (by omega) (by omega) h
theorem qf_arQ : qf arQ = arN := by
  funext a b c d
  rfl
theorem qf_1 : qf (fun _ => 1) = fun _ _ _ _ => 1 := rfl
theorem tS_ar : tS arN = 390625 := by decide +kernel
theorem tS_1 : tS (fun _ _ _ _ => 1) = 1820 := by decide +kernel
theorem dB_40 : ∀ n, n < 151 → tN (fun _ _ _ _ => 1) / 4294967296 ^ n % 4294967296 ≤ 40 := by decide +kernel
theorem dBs_40 {n : Nat} (hn : n < 151) : (dBs n).length ≤ 40 := by
  have h := dBs_sum n (fun _ => 1)
  have e : ((dBs n).map fun _ => 1).sum = (dBs n).length := by
    generalize dBs n = l
    induction l with
    | nil => rfl
    | cons x t ih => rw [List.map_cons, List.sum_cons, ih, List.length_cons, Nat.add_comm]
  rw [← e, h, qf_1, ← pS_get (X := 4294967296) (by rw [tL_len, tS_1]; decide), tL_pS]
  exact dB_40 n hn
def sqD : List Nat := sqL (dL 25)
def sqDN : Nat := pS 4294967296 sqD
theorem tN_ar : tN arN = sqDN * (sqDN * (sqDN * sqDN)) := by decide +kernel
theorem dBs_all (n : Nat) : ((dBs n).map arQ).sum = pC n (pM sqD (pM sqD (pM sqD sqD))) := by
  rw [dBs_sum, qf_arQ, ← pS_get (X := 4294967296) (by rw [tL_len, tS_ar]; decide), tL_pS, tN_ar]
  unfold sqDN
  rw [← pS_M, ← pS_M, ← pS_M, pS_get]
  rw [pM_len, pM_len, pM_len]
  decide
