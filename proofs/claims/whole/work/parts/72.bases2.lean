/-! SQUARES: both lists are one; the arrangements -/
theorem dL_neg {g : Int → List ZQ} (h : ∀ x : Int, x < 0 → g x = []) : ∀ m, m ≤ 12 → (dL m).flatMap g = [] := by
  intro m
  induction m with
  | zero => intro _; rfl
  | succ m ih =>
    intro hm
    rw [dL, List.flatMap_cons, h _ (by omega), ih (by omega)]
    rfl
theorem dL_nL {g : Int → List ZQ} (h : ∀ x : Int, x < 0 → g x = []) : ∀ m, (dL (m + 12)).flatMap g = (nL m).flatMap fun i : Nat => g i := by
  intro m
  induction m with
  | zero => exact dL_neg h 12 (Nat.le_refl _)
  | succ m ih =>
    rw [show m + 1 + 12 = (m + 12) + 1 by omega, dL, List.flatMap_cons, ih, nL, List.flatMap_cons, show ((m + 12 : Nat) : Int) - 12 = (m : Int) by omega]
theorem nL_cut {g : Nat → List ZQ} {k : Nat} (h : ∀ i, k < i → g i = []) : ∀ m, k ≤ m → (nL (m + 1)).flatMap g = (nL (k + 1)).flatMap g := by
  intro m hm
  obtain ⟨e, rfl⟩ : ∃ e, m = k + e := ⟨m - k, by omega⟩
  induction e with
  | zero => rfl
  | succ e ih =>
    rw [show k + (e + 1) + 1 = (k + e + 1) + 1 by omega, nL, List.flatMap_cons, h _ (by omega), List.nil_append]
    exact ih (by omega)
theorem dL_cut {g : Int → List ZQ} {k : Nat} (hk : k ≤ 12) (h : ∀ x : Int, x < 0 ∨ (k : Int) < x → g x = []) : (dL 25).flatMap g = (nL (k + 1)).flatMap fun i : Nat => g i := by
  rw [show 25 = 13 + 12 from rfl, dL_nL (fun x hx => h x (Or.inl hx)) 13]
  exact nL_cut (g := fun i : Nat => g i) (fun i hi => h i (Or.inr (by omega))) 12 hk
theorem sqB_no {n : Nat} {a b c : Int} (h : a < b ∨ b < c ∨ c < 0) : sqB n a b c = [] := by
  unfold sqB
  rw [if_pos (by omega)]
theorem sB2_eq {n a b : Nat} (hb : b ≤ 12) : sB2 n a b = dB2 n a b :=
  dL_cut hb (fun x hx => sqB_no (by omega))
theorem sB2_no {n : Nat} {a b : Int} (h : a < b ∨ b < 0) : sB2 n a b = [] := by
  unfold sB2
  rw [List.flatMap_eq_nil_iff]
  intro c _
  exact sqB_no (by omega)
theorem nL_mem {m i : Nat} (h : i ∈ nL m) : i < m := by
  induction m with
  | zero => exact absurd h (by simp [nL])
  | succ m ih =>
    rw [nL, List.mem_cons] at h
    rcases h with h | h
    · omega
    · have := ih h; omega
theorem fm_congr {l : List Nat} {g h : Nat → List ZQ} (e : ∀ i, i ∈ l → g i = h i) : l.flatMap g = l.flatMap h := by
  induction l with
  | nil => rfl
  | cons x t ih => rw [List.flatMap_cons, List.flatMap_cons, e x (List.mem_cons_self ..), ih (fun i hi => e i (List.mem_cons_of_mem _ hi))]
theorem sB1_eq {n a : Nat} (ha : a ≤ 12) : sB1 n a = dB1 n a := by
  have e : sB1 n a = (nL (a + 1)).flatMap fun i : Nat => sB2 n a i := dL_cut ha (fun x hx => sB2_no (by omega))
  rw [e]
  unfold dB1
  exact fm_congr (fun i hi => sB2_eq (by have := nL_mem hi; omega))
theorem sB1_neg {n : Nat} {x : Int} (h : x < 0) : sB1 n x = [] := by
  unfold sB1
  rw [List.flatMap_eq_nil_iff]
  intro b _
  exact sB2_no (by omega)
theorem sBs_eq (n : Nat) : sBs n = dBs n := by
  have e : sBs n = (nL 13).flatMap fun i : Nat => sB1 n i := dL_nL (fun x hx => sB1_neg hx) 13
  rw [e]
  unfold dBs
  exact fm_congr (fun i hi => sB1_eq (by have := nL_mem hi; omega))
/-- the arrangements of one row -/
def arW (x : Nat) : Nat := if x = 0 then 1 else 2
def arR (r x y : Nat) : Nat := if y = x then r + 1 else 1
def arN (a b c d : Nat) : Nat := ((1 * 1 / 1 * arW a) * 2 / arR 1 a b * arW b) * 3 / arR (arR 1 a b) b c * arW c * 4 / arR (arR (arR 1 a b) b c) c d * arW d
def arQ (x : ZQ) : Nat := arN x.1.toNat x.2.1.toNat x.2.2.1.toNat x.2.2.2.toNat
theorem ar_fin {i A j y r : Nat} {f : Nat} {τ : QMem} (hA : A ≤ 1000) (hj : j < 4) (hr : 1 ≤ r ∧ r ≤ 10) (hy : y < 1000) : fX0_arrangementsOf_J54 (nI i) (fX0_arrangementsOf_L7 (nI i) f) (nI A) (nI j) (nI y) (nI r) τ = fX0_arrangementsOf_L7 (nI i) f (nI (A * (j + 1) / r * arW y)) (nI r) (nI (j + 1)) τ := by
  unfold fX0_arrangementsOf_J54 fX0_arrangementsOf_J77
  have r1 : ¬ nI r < 1 := nI_nlt (a := r) (b := 1) (by omega) (by omega)
  have r0 : ¬ nI r = 0 := nI_ne0 (by omega) (by omega)
  have hm : A * (j + 1) ≤ 1000 * 4 := Nat.mul_le_mul hA (by omega)
  rw [if_neg r1, if_neg r0, show nI j + 1 = nI (j + 1) from nI_1 j, nI_mulM, nI_div (by omega) ⟨by omega, by omega⟩]
  unfold arW
  by_cases h : y = 0
  · have e : nI y = 0 := by rw [h]; rfl
    rw [if_pos e, if_pos h, show (1 : Int32) = nI 1 from rfl, nI_mulM]
  · have e : ¬ nI y = 0 := nI_ne0 (by omega) (by omega)
    rw [if_neg e, if_neg h, show (2 : Int32) = nI 2 from rfl, nI_mulM]
theorem ar_0 {i A x r f : Nat} {τ : QMem} {L : List ZQ} (hx : xRw τ 58 L) (hi : i < L.length) (hv : τ 69 (4 * i + 0) = nI x) (bx : x < 1000) (hA : A ≤ 1000) : fX0_arrangementsOf_L7 (nI i) (f + 1) (nI A) (nI r) (nI 0) τ = fX0_arrangementsOf_L7 (nI i) f (nI (A * (0 + 1) / 1 * arW x)) (nI 1) (nI (0 + 1)) τ := by
  rw [fX0_arrangementsOf_L7, if_neg (by decide), c_rpart hx hi (show 0 < 4 by decide), Option.bind_some]
  simp only
  rw [if_pos (by decide), show 58 + 11 = 69 from rfl, hv]
  unfold fX0_arrangementsOf_J53
  rw [show (1 : Int32) = nI 1 from rfl]
  exact ar_fin hA (by decide) (by decide) bx
theorem ar_s {i A x y r j f : Nat} {τ : QMem} {L : List ZQ} (hx : xRw τ 58 L) (hi : i < L.length) (hj : j + 1 < 4) (hv : τ 69 (4 * i + j) = nI x) (hw : τ 69 (4 * i + (j + 1)) = nI y) (bx : x < 1000) (bY : y < 1000) (hA : A ≤ 1000) (hr : 1 ≤ r ∧ r ≤ 9) : fX0_arrangementsOf_L7 (nI i) (f + 1) (nI A) (nI r) (nI (j + 1)) τ = fX0_arrangementsOf_L7 (nI i) f (nI (A * (j + 1 + 1) / arR r x y * arW y)) (nI (arR r x y)) (nI (j + 1 + 1)) τ := by
  have c4 : ¬ (4 : Int32) ≤ nI (j + 1) := nI_ge (b := 4) (by omega) (by decide)
  have c0 : ¬ nI (j + 1) ≤ 0 := nI_ge (b := j + 1) (a := 0) (by omega) (by omega)
  have em : nI (j + 1) - 1 = nI j := by
    rw [Int32.sub_eq_add_neg]; exact nI_m1 (by omega)
  rw [fX0_arrangementsOf_L7, if_neg c4, c_rpart hx hi hj, Option.bind_some]
  simp only
  rw [if_neg c0, em, c_rpart hx hi (show j < 4 by omega), Option.bind_some]
  simp only
  rw [show 58 + 11 = 69 from rfl, hv, hw]
  unfold arR
  by_cases h : y = x
  · have e : nI y = nI x := by rw [h]
    rw [if_pos e, if_pos h, show nI r + 1 = nI (r + 1) from nI_1 r]
    exact ar_fin hA hj (by omega) bY
  · have e : ¬ nI y = nI x := fun z => h ((nI_eq (by omega) (by omega)).mp z)
    rw [if_neg e, if_neg h]
    unfold fX0_arrangementsOf_J53
    rw [show (1 : Int32) = nI 1 from rfl]
    exact ar_fin hA hj (by decide) bY
theorem arW_le (x : Nat) : arW x ≤ 2 := by unfold arW; split <;> omega
theorem arR_b {r x y : Nat} (h : 1 ≤ r) : 1 ≤ arR r x y ∧ arR r x y ≤ r + 1 := by unfold arR; split <;> omega
theorem ar_bd {A j r w B : Nat} (hA : A ≤ B) (hw : w ≤ 2) : A * j / r * w ≤ B * j * 2 :=
  Nat.mul_le_mul (Nat.le_trans (Nat.div_le_self _ _) (Nat.mul_le_mul_right _ hA)) hw
theorem c_arr {i : Nat} {τ : QMem} {L : List ZQ} (hx : xRw τ 58 L) (hi : i < L.length) (hq : 0 ≤ (L.getD i z0).1 ∧ (L.getD i z0).1 < 1000 ∧ 0 ≤ (L.getD i z0).2.1 ∧ (L.getD i z0).2.1 < 1000 ∧ 0 ≤ (L.getD i z0).2.2.1 ∧ (L.getD i z0).2.2.1 < 1000 ∧ 0 ≤ (L.getD i z0).2.2.2 ∧ (L.getD i z0).2.2.2 < 1000) : fX0_arrangementsOf (nI i) τ = some (nI (arQ (L.getD i z0)), τ) := by
  obtain ⟨w0, w1, w2, w3⟩ := hx.2.2 i hi
  generalize hX : L.getD i z0 = X at *
  obtain ⟨b1, b2, b3, b4, b5, b6, b7, b8⟩ := hq
  have v0 : τ 69 (4 * i + 0) = nI X.1.toNat := by rw [qj_nat, Int.toNat_of_nonneg b1]; exact w0
  have v1 : τ 69 (4 * i + (0 + 1)) = nI X.2.1.toNat := by rw [qj_nat, Int.toNat_of_nonneg b3]; exact w1
  have v2 : τ 69 (4 * i + (0 + 1 + 1)) = nI X.2.2.1.toNat := by rw [qj_nat, Int.toNat_of_nonneg b5]; exact w2
  have v3 : τ 69 (4 * i + (0 + 1 + 1 + 1)) = nI X.2.2.2.toNat := by rw [qj_nat, Int.toNat_of_nonneg b7]; exact w3
  unfold arQ arN
  generalize ha : X.1.toNat = a at *
  generalize hb : X.2.1.toNat = b at *
  generalize hc : X.2.2.1.toNat = c at *
  generalize hd : X.2.2.2.toNat = d at *
  have r2 := arR_b (r := 1) (x := a) (y := b) (Nat.le_refl _)
  have r3 := arR_b (r := arR 1 a b) (x := b) (y := c) r2.1
  have r4 := arR_b (r := arR (arR 1 a b) b c) (x := c) (y := d) r3.1
  have A1 : 1 * 1 / 1 * arW a ≤ 2 := by have := arW_le a; omega
  have A2 : (1 * 1 / 1 * arW a) * 2 / arR 1 a b * arW b ≤ 2 * 2 * 2 := ar_bd A1 (arW_le b)
  have A3 : ((1 * 1 / 1 * arW a) * 2 / arR 1 a b * arW b) * 3 / arR (arR 1 a b) b c * arW c ≤ (2 * 2 * 2) * 3 * 2 := ar_bd A2 (arW_le c)
  unfold fX0_arrangementsOf
  have e0 := ar_0 (A := 1) (r := 0) (f := 1999) hx hi v0 (by omega) (by decide)
  have e1 := ar_s (A := 1 * 1 / 1 * arW a) (r := 1) (f := 1998) hx hi (show 0 + 1 < 4 by decide) v0 v1 (by omega) (by omega) (by omega) (by decide)
  have e2 := ar_s (A := (1 * 1 / 1 * arW a) * 2 / arR 1 a b * arW b) (r := arR 1 a b) (f := 1997) hx hi (show 0 + 1 + 1 < 4 by decide) v1 v2 (by omega) (by omega) (by omega) (by omega)
  have e3 := ar_s (A := ((1 * 1 / 1 * arW a) * 2 / arR 1 a b * arW b) * 3 / arR (arR 1 a b) b c * arW c) (r := arR (arR 1 a b) b c) (f := 1996) hx hi (show 0 + 1 + 1 + 1 < 4 by decide) v2 v3 (by omega) (by omega) (by omega) (by omega)
  show fX0_arrangementsOf_L7 (nI i) (1999 + 1) (nI 1) (nI 0) (nI 0) τ = _
  rw [e0, show 1999 = 1998 + 1 from rfl]
  refine Eq.trans e1 ?_
  rw [show 1998 = 1997 + 1 from rfl]
  refine Eq.trans e2 ?_
  rw [show 1997 = 1996 + 1 from rfl]
  refine Eq.trans e3 ?_
  rw [show 1996 = 1995 + 1 from rfl, fX0_arrangementsOf_L7, if_pos (by decide)]
def smQ (x : ZQ) : Prop := 0 ≤ x.1 ∧ x.1 < 1000 ∧ 0 ≤ x.2.1 ∧ x.2.1 < 1000 ∧ 0 ≤ x.2.2.1 ∧ x.2.2.1 < 1000 ∧ 0 ≤ x.2.2.2 ∧ x.2.2.2 < 1000
theorem c_arrs {τ : QMem} {L : List ZQ} (hx : xRw τ 58 L) (hl : L.length ≤ 40) (hs : ∀ x, x ∈ L → smQ x) : ∀ (m i f A : Nat), i + m = L.length → m < f → fX0_arrangements_L4 f (nI A) (nI i) τ = some (nI (A + ((L.drop i).map arQ).sum), τ) := by
  intro m
  induction m with
  | zero =>
    intro i f A hi hf
    obtain ⟨f, rfl⟩ : ∃ k, f = k + 1 := ⟨f - 1, by omega⟩
    have : i = L.length := by omega
    subst this
    rw [fX0_arrangements_L4, c_size hx, Option.bind_some]
    simp only
    rw [if_pos (nI_le (Nat.le_refl _) (by omega)), List.drop_length]
    rfl
  | succ m ih =>
    intro i f A hi hf
    obtain ⟨f, rfl⟩ : ∃ k, f = k + 1 := ⟨f - 1, by omega⟩
    have hiL : i < L.length := by omega
    rw [fX0_arrangements_L4, c_size hx, Option.bind_some]
    simp only
    rw [if_neg (nI_ge hiL (by omega)), c_arr hx hiL (hs _ (getD_mem hiL)), Option.bind_some]
    simp only
    rw [show nI i + 1 = nI (i + 1) from nI_1 i, nI_add, ih (i + 1) f _ (by omega) (by omega), drop_D hiL, List.map_cons, List.sum_cons, Nat.add_assoc]
theorem c_arrT {τ : QMem} {L : List ZQ} (hx : xRw τ 58 L) (hl : L.length ≤ 40) (hs : ∀ x, x ∈ L → smQ x) : fX0_arrangements τ = some (nI ((L.map arQ).sum), τ) := by
  have h := c_arrs hx hl hs L.length 0 FU 0 (by omega) (by unfold FU; omega)
  rw [Nat.zero_add, List.drop_zero] at h
  exact h
