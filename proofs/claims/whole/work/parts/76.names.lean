/-! THE TEXT: names, numbers, signs; on the desk's side -/
def qnm (w : Nat) : List Nat := if w = 0 then [97, 108, 108] else if w = 1 then [112, 117, 116] else if w = 2 then [117, 110, 105, 116] else [99, 111, 112, 121]
theorem c_len (σ : QMem) : ∀ w, w < 4 → fJ0_length_8abf5 w σ = some (nI (qnm w).length, σ) := by
  intro w hw
  have s3 : Int32.ofNat 3 >>> ((0 : Int32) &&& 31) = nI 3 := by decide
  have s4 : Int32.ofNat 4 >>> ((0 : Int32) &&& 31) = nI 4 := by decide
  have co : ∀ w, fJ0_coder_7d493 w σ = some (0, σ) := fun w => rfl
  unfold fJ0_length_8abf5
  rw [co, Option.bind_some]
  simp only
  rcases (show w = 0 ∨ w = 1 ∨ w = 2 ∨ w = 3 by omega) with rfl | rfl | rfl | rfl
  · exact congrArg (fun z => some (z, σ)) s3
  · exact congrArg (fun z => some (z, σ)) s3
  · exact congrArg (fun z => some (z, σ)) s4
  · exact congrArg (fun z => some (z, σ)) s4
theorem c_char (σ : QMem) : ∀ w, w < 4 → ∀ v, v < (qnm w).length → fJ0_charAt_5068e w (nI v) σ = some (nI ((qnm w).getD v 0), σ) := by
  intro w hw v hv
  rcases (show w = 0 ∨ w = 1 ∨ w = 2 ∨ w = 3 by omega) with rfl | rfl | rfl | rfl
  · have : v < 3 := hv
    rcases (show v = 0 ∨ v = 1 ∨ v = 2 by omega) with rfl | rfl | rfl <;> rfl
  · have : v < 3 := hv
    rcases (show v = 0 ∨ v = 1 ∨ v = 2 by omega) with rfl | rfl | rfl <;> rfl
  · have : v < 4 := hv
    rcases (show v = 0 ∨ v = 1 ∨ v = 2 ∨ v = 3 by omega) with rfl | rfl | rfl | rfl <;> rfl
  · have : v < 4 := hv
    rcases (show v = 0 ∨ v = 1 ∨ v = 2 ∨ v = 3 by omega) with rfl | rfl | rfl | rfl <;> rfl
theorem qnm_b : ∀ w, w < 4 → 3 ≤ (qnm w).length ∧ (qnm w).length ≤ 4 ∧ ∀ v, v < (qnm w).length → 97 ≤ (qnm w).getD v 0 ∧ (qnm w).getD v 0 ≤ 122 := by decide
/-- the name w at s -/
def gnm (n : Nat) (g : Nat → Nat) (s w : Nat) : Prop := gk n g s = 1 ∧ gte n g s = s + (qnm w).length ∧ ∀ v, v < (qnm w).length → g (s + v) = (qnm w).getD v 0
noncomputable def gnb (n : Nat) (g : Nat → Nat) (s w : Nat) : Bool := @decide (gnm n g s w) (Classical.propDecidable _)
theorem gnb_t {n : Nat} {g : Nat → Nat} {s w : Nat} (h : gnm n g s w) : gnb n g s w = true := @decide_eq_true _ (Classical.propDecidable _) h
theorem gnb_f {n : Nat} {g : Nat → Nat} {s w : Nat} (h : ¬ gnm n g s w) : gnb n g s w = false := @decide_eq_false _ (Classical.propDecidable _) h
theorem c_name {n : Nat} {g : Nat → Nat} (ho : gOk n g) {σ : QMem} (hx : xTx σ n g) {s : Nat} (hs : s ≤ n) (hk : xTk σ n g s) {w : Nat} (hw : w < 4) : fX8_isName w σ = some (bI (gnb n g s w), σ) := by
  have h200 := ho.1
  obtain ⟨k4, k5, k6⟩ := hk
  obtain ⟨l3, l4, lc⟩ := qnm_b w hw
  obtain ⟨t1, t2⟩ := gte_b (g := g) hs
  have k3 := gk_3 n g s
  unfold fX8_isName
  rw [k4, k5, k6]
  by_cases h1 : gk n g s = 1
  · have c1 : nI (gk n g s) = 1 := by rw [h1]; rfl
    have e : nI (gte n g s) - nI s = nI (gte n g s - s) := by
      rw [qj_nat, qj_nat, qj_nat, qj_sub]; congr 1; omega
    rw [if_pos c1, c_len σ w hw, Option.bind_some, e]
    simp only
    by_cases h2 : gte n g s = s + (qnm w).length
    · have c2 : nI (gte n g s - s) = nI (qnm w).length := by congr 1; omega
      rw [if_pos c2]
      have loop : ∀ (m v f : Nat), v + m = (qnm w).length → m < f → (∀ u, u < v → g (s + u) = (qnm w).getD u 0) → fX8_isName_L28 w f (nI v) σ = some (bI (gnb n g s w), σ) := by
        intro m
        induction m with
        | zero =>
          intro v f hv hf hu
          obtain ⟨f, rfl⟩ : ∃ k, f = k + 1 := ⟨f - 1, by omega⟩
          rw [fX8_isName_L28, c_len σ w hw, Option.bind_some]
          simp only
          rw [if_pos (nI_le (by omega) (by omega)), gnb_t ⟨h1, h2, fun u hu' => hu u (by omega)⟩]
          rfl
        | succ m ih =>
          intro v f hv hf hu
          obtain ⟨f, rfl⟩ : ∃ k, f = k + 1 := ⟨f - 1, by omega⟩
          have hvl : v < (qnm w).length := by omega
          have b := ho.2 (s + v) (by omega)
          have lv := lc v hvl
          rw [fX8_isName_L28, c_len σ w hw, Option.bind_some]
          simp only
          rw [if_neg (nI_ge hvl (by omega)), k5, nI_add, c_letter ho hx (by omega), Option.bind_some, if_pos (show s + v < n by omega), c_char σ w hw v hvl, Option.bind_some]
          simp only
          by_cases e3 : g (s + v) = (qnm w).getD v 0
          · rw [if_pos (by rw [e3]), show nI v + 1 = nI (v + 1) from nI_1 v]
            exact ih (v + 1) f (by omega) (by omega) (fun u hu' => by
              by_cases eu : u = v
              · rw [eu]; exact e3
              · exact hu u (by omega))
          · have ne : ¬ nI (g (s + v)) = nI ((qnm w).getD v 0) := fun z => e3 ((nI_eq (by omega) (by omega)).mp z)
            rw [if_neg ne, gnb_f (fun z => e3 (z.2.2 v hvl))]
            rfl
      exact loop (qnm w).length 0 FU (by omega) (by unfold FU; omega) (fun u hu => by omega)
    · have c2 : ¬ nI (gte n g s - s) = nI (qnm w).length := fun z => h2 (by have := (nI_eq (by omega) (by omega)).mp z; omega)
      rw [if_neg c2, gnb_f (fun z => h2 z.2.1)]
      rfl
  · have c1 : ¬ nI (gk n g s) = 1 := fun z => h1 ((nI_eq (a := gk n g s) (b := 1) (by omega) (by decide)).mp z)
    rw [if_neg c1, gnb_f (fun z => h1 z.1)]
    rfl
/-- the number at s, at most b: what it is, or none -/
def gnu (n : Nat) (g : Nat → Nat) (s b : Nat) : Option Nat :=
  if gk n g s = 2 ∧ gte n g s = s + 1 ∧ g s - 48 ≤ b then some (g s - 48)
  else if gk n g s = 2 ∧ gte n g s = s + 2 ∧ 10 * (g s - 48) + (g (s + 1) - 48) ≤ b then some (10 * (g s - 48) + (g (s + 1) - 48))
  else none
def gnV (o : Option Nat) : Int32 :=
  match o with
  | some v => nI v
  | none => -1
theorem gk_2 {n : Nat} {g : Nat → Nat} {i : Nat} (h : gk n g i = 2) : i < n ∧ 48 ≤ g i ∧ g i ≤ 57 := by
  unfold gk at h
  split at h
  · omega
  · split at h
    · omega
    · split at h
      · omega
      · omega
theorem gk_1 {n : Nat} {g : Nat → Nat} {i : Nat} (h : gk n g i = 1) : i < n ∧ 97 ≤ g i ∧ g i ≤ 122 := by
  unfold gk at h
  split at h
  · omega
  · split at h
    · omega
    · split at h
      · omega
      · omega
/-- inside of a token all are of its kind -/
theorem gtk_in {n : Nat} {g : Nat → Nat} {k : Nat} : ∀ m i j, i + m = n → i ≤ j → j < gtk n g k m i → gk n g j = k := by
  intro m
  induction m with
  | zero => intro i j hi h1 h2; unfold gtk at h2; omega
  | succ m ih =>
    intro i j hi h1 h2
    unfold gtk at h2
    split at h2
    · rename_i e
      by_cases c : j = i
      · rw [c]; exact e
      · exact ih (i + 1) j (by omega) (by omega) h2
    · omega
theorem gtk_end {n : Nat} {g : Nat → Nat} {k : Nat} : ∀ m i, i + m = n → gtk n g k m i < n → ¬ gk n g (gtk n g k m i) = k := by
  intro m
  induction m with
  | zero => intro i hi h; unfold gtk at h; omega
  | succ m ih =>
    intro i hi h
    unfold gtk at h ⊢
    split
    · rename_i e
      rw [if_pos e] at h
      exact ih (i + 1) (by omega) h
    · rename_i e
      exact e
theorem gte_in {n : Nat} {g : Nat → Nat} {s j : Nat} (h1 : s ≤ j) (h2 : j < gte n g s) : gk n g j = gk n g s := by
  unfold gte at h2
  by_cases e : j = s
  · rw [e]
  · split at h2
    · omega
    · rename_i h0
      have sn : s < n := Nat.lt_of_not_le fun z => h0 (gk_0.mpr z)
      split at h2
      · omega
      · exact gtk_in (n - (s + 1)) (s + 1) j (by omega) (by omega) h2
theorem gte_12 {n : Nat} {g : Nat → Nat} {s : Nat} (h : gk n g s = 1 ∨ gk n g s = 2) : s + 1 ≤ gte n g s ∧ (gte n g s < n → ¬ gk n g (gte n g s) = gk n g s) := by
  have h0 : ¬ gk n g s = 0 := by omega
  have h3 : ¬ gk n g s = 3 := by omega
  have sn : s < n := Nat.lt_of_not_le fun z => h0 (gk_0.mpr z)
  unfold gte
  rw [if_neg h0, if_neg h3]
  have b := gtk_b (n := n) (g := g) (k := gk n g s) (n - (s + 1)) (s + 1) (by omega)
  exact ⟨b.1, gtk_end (n - (s + 1)) (s + 1) (by omega)⟩
theorem c_toknum {n : Nat} {g : Nat → Nat} (ho : gOk n g) {σ : QMem} (hx : xTx σ n g) {s : Nat} (hs : s ≤ n) (hk : xTk σ n g s) {b : Nat} (hb : b < 1000) : fX8_tokenNumber (nI b) σ = some (gnV (gnu n g s b), σ) := by
  have h200 := ho.1
  obtain ⟨k4, k5, k6⟩ := hk
  obtain ⟨t1, t2⟩ := gte_b (g := g) hs
  have k3 := gk_3 n g s
  unfold fX8_tokenNumber fX8_tokenNumber_J66 gnu
  rw [k4, k5, k6]
  by_cases h1 : gk n g s = 2
  · have c1 : nI (gk n g s) = 2 := by rw [h1]; rfl
    have e : nI (gte n g s) - nI s = nI (gte n g s - s) := by
      rw [qj_nat, qj_nat, qj_nat, qj_sub]; congr 1; omega
    obtain ⟨e1, -⟩ := gte_12 (Or.inr h1)
    obtain ⟨g1, g2, g3⟩ := gk_2 h1
    have c2 : ¬ nI (gte n g s - s) < 1 := nI_nlt (a := gte n g s - s) (b := 1) (by omega) (by omega)
    rw [if_pos c1, e, if_neg c2]
    by_cases h2 : gte n g s - s ≤ 2
    · have c3 : nI (gte n g s - s) ≤ 2 := nI_le (b := 2) h2 (by decide)
      rw [if_pos c3, c_letter ho hx (by omega), Option.bind_some]
      simp only
      rw [if_pos g1, k5]
      by_cases h3 : gte n g s = s + 2
      · have c4 : nI (gte n g s - s) = 2 := by rw [show gte n g s - s = 2 by omega]; rfl
        have in2 : gk n g (s + 1) = 2 := by rw [gte_in (show s ≤ s + 1 by omega) (by omega), h1]
        obtain ⟨d1, d2, d3⟩ := gk_2 in2
        have ev : 10 * (nI (g s) - 48) + nI (g (s + 1)) - 48 = nI (10 * (g s - 48) + (g (s + 1) - 48)) := by
          rw [show (48 : Int32) = qj 48 from rfl, show (10 : Int32) = qj 10 from rfl, qj_nat, qj_nat, qj_nat, qj_sub, qj_mul, qj_add, qj_sub]; congr 1; omega
        rw [if_pos c4, show nI s + 1 = nI (s + 1) from nI_1 s, c_letter ho hx (by omega), Option.bind_some]
        simp only
        rw [if_pos d1, ev, if_neg (show ¬ (gk n g s = 2 ∧ gte n g s = s + 1 ∧ g s - 48 ≤ b) by omega)]
        by_cases h4 : 10 * (g s - 48) + (g (s + 1) - 48) ≤ b
        · rw [if_neg (nI_nlt h4 (by omega)), if_pos ⟨h1, h3, h4⟩]; rfl
        · rw [if_pos (nI_lt (by omega) (by omega)), if_neg (fun z => h4 z.2.2)]; rfl
      · have c4 : ¬ nI (gte n g s - s) = 2 := fun z => h3 (by have := (nI_eq (a := gte n g s - s) (b := 2) (by omega) (by decide)).mp z; omega)
        have ev : nI (g s) - 48 = nI (g s - 48) := by
          rw [show (48 : Int32) = qj 48 from rfl, qj_nat, qj_nat, qj_sub]; congr 1; omega
        rw [if_neg c4, ev]
        by_cases h4 : g s - 48 ≤ b
        · rw [if_neg (nI_nlt h4 (by omega)), if_pos ⟨h1, by omega, h4⟩]; rfl
        · rw [if_pos (nI_lt (by omega) (by omega)), if_neg (fun z => h4 z.2.2), if_neg (fun z => h3 z.2.1)]; rfl
    · have c3 : ¬ nI (gte n g s - s) ≤ 2 := nI_ge (b := gte n g s - s) (a := 2) (by omega) (by omega)
      rw [if_neg c3, if_neg (by omega), if_neg (by omega)]; rfl
  · have c1 : ¬ nI (gk n g s) = 2 := fun z => h1 ((nI_eq (a := gk n g s) (b := 2) (by omega) (by decide)).mp z)
    rw [if_neg c1, if_neg (fun z => h1 z.1), if_neg (fun z => h1 z.1)]; rfl
/-- the sign x at s -/
theorem c_sign {n : Nat} {g : Nat → Nat} (ho : gOk n g) {σ : QMem} (hx : xTx σ n g) {s : Nat} (hs : s ≤ n) (hk : xTk σ n g s) {x : Nat} (hb : x < 48 ∨ (57 < x ∧ x < 97)) : fX8_isSign (nI x) σ = some (bI (decide (s < n ∧ g s = x)), σ) := by
  have h200 := ho.1
  obtain ⟨k4, k5, k6⟩ := hk
  have k3 := gk_3 n g s
  unfold fX8_isSign
  rw [k4, k5]
  by_cases h1 : gk n g s = 3
  · have c1 : nI (gk n g s) = 3 := by rw [h1]; rfl
    have sn : s < n := Nat.lt_of_not_le fun z => by have := (gk_0 (g := g)).mpr z; omega
    have b := ho.2 s sn
    rw [if_pos c1, c_letter ho hx (by omega), Option.bind_some]
    simp only
    rw [if_pos sn]
    by_cases e : g s = x
    · rw [if_pos (by rw [e]), decide_eq_true ⟨sn, e⟩]; rfl
    · rw [if_neg (fun z => e ((nI_eq (by omega) (by omega)).mp z)), decide_eq_false (fun z => e z.2)]; rfl
  · have c1 : ¬ nI (gk n g s) = 3 := fun z => h1 ((nI_eq (a := gk n g s) (b := 3) (by omega) (by decide)).mp z)
    rw [if_neg c1, decide_eq_false]
    · rfl
    · rintro ⟨z1, z2⟩
      apply h1
      unfold gk
      rw [if_neg (by omega), if_neg (by omega), if_neg (by omega)]
