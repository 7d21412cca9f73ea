/-! STAGE 2, THE FUNCTIONS ALONE. Ints as Java's ints: qj z -/
def qj (z : Int) : Int32 := Int32.ofInt z
def qR (z : Int) : Prop := -2147483648 ≤ z ∧ z < 2147483648
theorem qj_add (a b : Int) : qj a + qj b = qj (a + b) := (Int32.ofInt_add a b).symm
theorem qj_sub (a b : Int) : qj a - qj b = qj (a - b) := (Int32.ofInt_sub a b).symm
theorem qj_mul (a b : Int) : qj a * qj b = qj (a * b) := (Int32.ofInt_mul a b).symm
theorem qj_neg (a : Int) : -qj a = qj (-a) := (Int32.ofInt_neg a).symm
theorem qj_toInt {z : Int} (h : qR z) : (qj z).toInt = z := Int32.toInt_ofInt_of_le (by have := h.1; omega) (by have := h.2; omega)
theorem qj_lt {a b : Int} (ha : qR a) (hb : qR b) : qj a < qj b ↔ a < b := by rw [Int32.lt_iff_toInt_lt, qj_toInt ha, qj_toInt hb]
theorem qj_le {a b : Int} (ha : qR a) (hb : qR b) : qj a ≤ qj b ↔ a ≤ b := by rw [Int32.le_iff_toInt_le, qj_toInt ha, qj_toInt hb]
theorem qj_eq {a b : Int} (ha : qR a) (hb : qR b) : qj a = qj b ↔ a = b := by rw [← Int32.toInt_inj, qj_toInt ha, qj_toInt hb]
theorem qj_nat (n : Nat) : nI n = qj (n : Int) := by unfold nI qj; rw [Int32.ofInt_eq_ofNat]
theorem qj_clamp {z : Int} (h : qR z) : (qj z).toNatClampNeg = z.toNat := by unfold Int32.toNatClampNeg; rw [qj_toInt h]
theorem qj_of (x : Int32) : ∃ z, qR z ∧ x = qj z := ⟨x.toInt, ⟨by have := Int32.le_toInt x; simpa using this, by have := Int32.toInt_lt x; simpa using this⟩, (Int32.ofInt_toInt x).symm⟩
theorem qj_div {a b : Int} (ha : qR a) (hb : qR b) (h : b ≠ -1) : qj a / qj b = qj (a.tdiv b) := by
  apply Int32.toInt_inj.mp
  have hb1 : qj b ≠ -1 := by
    intro q
    apply h
    have := congrArg Int32.toInt q
    rw [qj_toInt hb] at this
    exact this
  rw [Int32.toInt_div_of_ne_right _ _ hb1, qj_toInt ha, qj_toInt hb, qj_toInt]
  have h1 := Int.natAbs_tdiv_le_natAbs a b
  obtain ⟨a1, a2⟩ := ha
  by_cases hm : a = -2147483648
  · by_cases hb0 : b = 1
    · subst hb0; subst hm; exact ⟨by decide, by decide⟩
    · have h2 : (a.tdiv b).natAbs ≤ 1073741824 := by
        rw [Int.natAbs_tdiv]
        by_cases hz : b = 0
        · subst hz; show a.natAbs / 0 ≤ 1073741824; rw [Nat.div_zero]; omega
        · have : 2 ≤ b.natAbs := by omega
          have h3 : a.natAbs = 2147483648 := by omega
          rw [h3]
          exact Nat.le_trans (Nat.div_le_div_left this (by omega)) (by omega)
      exact ⟨by omega, by omega⟩
  · exact ⟨by omega, by omega⟩
/-! memories -/
theorem ms_get (σ : QMem) (k j : Nat) (v : Int32) (k2 j2 : Nat) : ms σ k j v k2 j2 = if k2 = k ∧ j2 = j then v else σ k2 j2 := by
  unfold ms mu upd
  by_cases h : k2 = k
  · subst h
    by_cases h2 : j2 = j
    · simp [h2]
    · simp [h2]
  · simp [h]
theorem ms_same (σ : QMem) (k j : Nat) (v : Int32) : ms σ k j v k j = v := by rw [ms_get, if_pos ⟨rfl, rfl⟩]
theorem ms_cell (σ : QMem) {k k2 : Nat} (h : ¬ k2 = k) (j : Nat) (v : Int32) : ms σ k j v k2 = σ k2 := by unfold ms mu; rw [if_neg h]
theorem ms_place (σ : QMem) (k : Nat) {j j2 : Nat} (h : ¬ j2 = j) (v : Int32) : ms σ k j v k j2 = σ k j2 := by rw [ms_get, if_neg (fun q => h q.2)]
/-- a quaternion, doubled -/
abbrev ZQ : Type := Int × Int × Int × Int
def qAt (σ : QMem) (k : Nat) (q : ZQ) : Prop := σ k 0 = qj q.1 ∧ σ k 1 = qj q.2.1 ∧ σ k 2 = qj q.2.2.1 ∧ σ k 3 = qj q.2.2.2
/-- nothing changes but the cells of P -/
def qSame (P : Nat → Prop) (σ τ : QMem) : Prop := ∀ k, ¬ P k → τ k = σ k
theorem qSame.refl (P : Nat → Prop) (σ : QMem) : qSame P σ σ := fun _ _ => rfl
theorem qSame.trans {P : Nat → Prop} {σ τ ρ : QMem} (h1 : qSame P σ τ) (h2 : qSame P τ ρ) : qSame P σ ρ := fun k hk => (h2 k hk).trans (h1 k hk)
theorem qSame.weaken {P Q : Nat → Prop} {σ τ : QMem} (h : qSame P σ τ) (hPQ : ∀ k, P k → Q k) : qSame Q σ τ := fun k hk => h k (fun q => hk (hPQ k q))
theorem qSame.at {P : Nat → Prop} {σ τ : QMem} (h : qSame P σ τ) {k : Nat} (hk : ¬ P k) {q : ZQ} (hq : qAt σ k q) : qAt τ k q := by unfold qAt; rw [h k hk]; exact hq
def qPut (σ : QMem) (k : Nat) (q : ZQ) : QMem := ms (ms (ms (ms σ k 0 (qj q.1)) k 1 (qj q.2.1)) k 2 (qj q.2.2.1)) k 3 (qj q.2.2.2)
theorem qPut_at (σ : QMem) (k : Nat) (q : ZQ) : qAt (qPut σ k q) k q := by
  unfold qAt qPut
  refine ⟨?_, ?_, ?_, ?_⟩ <;> simp [ms_get]
theorem qPut_same (σ : QMem) (k : Nat) (q : ZQ) : qSame (fun c => c = k) σ (qPut σ k q) := fun c hc => by
  unfold qPut
  rw [ms_cell _ hc, ms_cell _ hc, ms_cell _ hc, ms_cell _ hc]
/-! quaternions -/
def zN4 (q : ZQ) : Int := q.1 * q.1 + q.2.1 * q.2.1 + q.2.2.1 * q.2.2.1 + q.2.2.2 * q.2.2.2
/-- all even or all odd -/
def zL (q : ZQ) : Prop := (q.1 - q.2.1) % 2 = 0 ∧ (q.1 - q.2.2.1) % 2 = 0 ∧ (q.1 - q.2.2.2) % 2 = 0
/-- numbers of a size -/
def zB (n : Int) (q : ZQ) : Prop := (-n ≤ q.1 ∧ q.1 ≤ n) ∧ (-n ≤ q.2.1 ∧ q.2.1 ≤ n) ∧ (-n ≤ q.2.2.1 ∧ q.2.2.1 ≤ n) ∧ -n ≤ q.2.2.2 ∧ q.2.2.2 ≤ n
/-- twice the product -/
def zM2 (x y : ZQ) : ZQ := (x.1 * y.1 - x.2.1 * y.2.1 - x.2.2.1 * y.2.2.1 - x.2.2.2 * y.2.2.2, x.1 * y.2.1 + x.2.1 * y.1 + x.2.2.1 * y.2.2.2 - x.2.2.2 * y.2.2.1, x.1 * y.2.2.1 - x.2.1 * y.2.2.2 + x.2.2.1 * y.1 + x.2.2.2 * y.2.1, x.1 * y.2.2.2 + x.2.1 * y.2.2.1 - x.2.2.1 * y.2.1 + x.2.2.2 * y.1)
def zM (x y : ZQ) : ZQ := ((zM2 x y).1 / 2, (zM2 x y).2.1 / 2, (zM2 x y).2.2.1 / 2, (zM2 x y).2.2.2 / 2)
def zC (x : ZQ) : ZQ := (x.1, -x.2.1, -x.2.2.1, -x.2.2.2)
def zGt (x y : ZQ) : Prop := x.1 > y.1 ∨ x.1 = y.1 ∧ (x.2.1 > y.2.1 ∨ x.2.1 = y.2.1 ∧ (x.2.2.1 > y.2.2.1 ∨ x.2.2.1 = y.2.2.1 ∧ x.2.2.2 > y.2.2.2))
def z0 : ZQ := (0, 0, 0, 0)
theorem sq_nn (a : Int) : 0 ≤ a * a := by
  rcases Int.le_total 0 a with h | h
  · exact Int.mul_nonneg h h
  · have := Int.mul_nonneg (Int.neg_nonneg_of_nonpos h) (Int.neg_nonneg_of_nonpos h)
    rwa [Int.neg_mul_neg] at this
theorem sq_le {a n : Int} (hn : 0 ≤ n) (h : a * a ≤ n * n) : -n ≤ a ∧ a ≤ n := by
  constructor
  · apply Classical.byContradiction
    intro q
    have h1 : n < -a := by omega
    have h2 : n * n < (-a) * (-a) := Int.mul_self_lt_mul_self hn h1
    rw [Int.neg_mul_neg] at h2
    omega
  · apply Classical.byContradiction
    intro q
    have h1 : n < a := by omega
    have h2 : n * n < a * a := Int.mul_self_lt_mul_self hn h1
    omega
theorem zM_even {x y : ZQ} (hx : zL x) (hy : zL y) : (zM2 x y).1 % 2 = 0 ∧ (zM2 x y).2.1 % 2 = 0 ∧ (zM2 x y).2.2.1 % 2 = 0 ∧ (zM2 x y).2.2.2 % 2 = 0 := by
  obtain ⟨a, b, c, d⟩ := x
  obtain ⟨e, f, g, h⟩ := y
  unfold zL at hx hy
  simp only at hx hy
  obtain ⟨b2, hb⟩ : ∃ t, b = a + 2 * t := ⟨(b - a) / 2, by omega⟩
  obtain ⟨c2, hc⟩ : ∃ t, c = a + 2 * t := ⟨(c - a) / 2, by omega⟩
  obtain ⟨d2, hd⟩ : ∃ t, d = a + 2 * t := ⟨(d - a) / 2, by omega⟩
  obtain ⟨f2, hf⟩ : ∃ t, f = e + 2 * t := ⟨(f - e) / 2, by omega⟩
  obtain ⟨g2, hg⟩ : ∃ t, g = e + 2 * t := ⟨(g - e) / 2, by omega⟩
  obtain ⟨h2, hh⟩ : ∃ t, h = e + 2 * t := ⟨(h - e) / 2, by omega⟩
  subst hb; subst hc; subst hd; subst hf; subst hg; subst hh
  unfold zM2
  refine ⟨Int.emod_eq_zero_of_dvd ⟨-(a * e) - a * (f2 + g2 + h2) - e * (b2 + c2 + d2) - 2 * (b2 * f2 + c2 * g2 + d2 * h2), ?_⟩, Int.emod_eq_zero_of_dvd ⟨a * e + a * f2 + b2 * e + a * h2 + c2 * e + 2 * (c2 * h2) - a * g2 - d2 * e - 2 * (d2 * g2), ?_⟩, Int.emod_eq_zero_of_dvd ⟨a * e + a * g2 - a * h2 - b2 * e - 2 * (b2 * h2) + c2 * e + a * f2 + d2 * e + 2 * (d2 * f2), ?_⟩, Int.emod_eq_zero_of_dvd ⟨a * e + a * h2 + a * g2 + b2 * e + 2 * (b2 * g2) - a * f2 - c2 * e - 2 * (c2 * f2) + d2 * e, ?_⟩⟩ <;> grind
/-- the product, without halves -/
theorem zM_two {x y : ZQ} (hx : zL x) (hy : zL y) : zM2 x y = (2 * (zM x y).1, 2 * (zM x y).2.1, 2 * (zM x y).2.2.1, 2 * (zM x y).2.2.2) := by
  obtain ⟨h1, h2, h3, h4⟩ := zM_even hx hy
  unfold zM
  refine Prod.ext ?_ (Prod.ext ?_ (Prod.ext ?_ ?_)) <;> simp only <;> omega
/-- norms multiply -/
theorem zN4_M2 (x y : ZQ) : zN4 (zM2 x y) = zN4 x * zN4 y := by
  unfold zN4 zM2
  grind
theorem zN4_M {x y : ZQ} (hx : zL x) (hy : zL y) : 4 * zN4 (zM x y) = zN4 x * zN4 y := by
  rw [← zN4_M2, zM_two hx hy]
  unfold zN4
  grind
theorem zM2_assoc (x y z : ZQ) : zM2 (zM2 x y) z = zM2 x (zM2 y z) := by
  unfold zM2
  refine Prod.ext ?_ (Prod.ext ?_ (Prod.ext ?_ ?_)) <;> simp only <;> grind
