/-! THE REFERENCE'S METHODS OVER ROWS OF FOUR -/
theorem bI_n1 (b : Bool) : (bI b = nI 1) = (b = true) := by cases b <;> decide
theorem b_em (b : Bool) : (b = false ∨ b = true) = True := by cases b <;> decide
def mPut (μ : QMem) (k o : Nat) (q : ZQ) : QMem := ms (ms (ms (ms μ k o (qj q.1)) k (o + 1) (qj q.2.1)) k (o + 2) (qj q.2.2.1)) k (o + 3) (qj q.2.2.2)
theorem mPut_cell (μ : QMem) {k k2 : Nat} (o : Nat) (q : ZQ) (h : ¬ k2 = k) : mPut μ k o q k2 = μ k2 := by
  unfold mPut
  rw [ms_cell _ h, ms_cell _ h, ms_cell _ h, ms_cell _ h]
theorem mPut_place (μ : QMem) (k : Nat) {o j : Nat} (q : ZQ) (h : j < o ∨ o + 3 < j) : mPut μ k o q k j = μ k j := by
  unfold mPut
  rw [ms_place _ _ (by omega), ms_place _ _ (by omega), ms_place _ _ (by omega), ms_place _ _ (by omega)]
theorem mPut_at (μ : QMem) (k o : Nat) (q : ZQ) : mAt (mPut μ k o q) k o q := by
  unfold mAt mPut
  refine ⟨?_, ?_, ?_, ?_⟩
  · rw [ms_place _ _ (by omega), ms_place _ _ (by omega), ms_place _ _ (by omega), ms_same]
  · rw [ms_place _ _ (by omega), ms_place _ _ (by omega), ms_same]
  · rw [ms_place _ _ (by omega), ms_same]
  · rw [ms_same]
theorem mAt_cell {μ ν : QMem} {k o : Nat} {q : ZQ} (h : ν k = μ k) (hq : mAt μ k o q) : mAt ν k o q := by unfold mAt; rw [h]; exact hq
theorem mAt_far {μ : QMem} {k o o2 : Nat} {q r : ZQ} (h : o + 3 < o2 ∨ o2 + 3 < o) (hq : mAt μ k o q) : mAt (mPut μ k o2 r) k o q := by
  unfold mAt
  rw [mPut_place _ _ _ (by omega), mPut_place _ _ _ (by omega), mPut_place _ _ _ (by omega), mPut_place _ _ _ (by omega)]
  exact hq
theorem mAt_ne {μ : QMem} {k k2 o o2 : Nat} {q r : ZQ} (h : ¬ k = k2) (hq : mAt μ k o q) : mAt (mPut μ k2 o2 r) k o q := mAt_cell (mPut_cell _ _ _ h) hq
/-- nothing changes but the cells of P, and of the object how many are found -/
def fr (P : Nat → Prop) (μ ν : QMem) : Prop := (∀ k, ¬ P k → ¬ k = 28 → ν k = μ k) ∧ ∀ j, ¬ j = 6 → ν 28 j = μ 28 j
theorem fr.refl (P : Nat → Prop) (μ : QMem) : fr P μ μ := ⟨fun _ _ _ => rfl, fun _ _ => rfl⟩
theorem fr.trans {P : Nat → Prop} {μ ν ρ : QMem} (h1 : fr P μ ν) (h2 : fr P ν ρ) : fr P μ ρ := ⟨fun k a b => (h2.1 k a b).trans (h1.1 k a b), fun j a => (h2.2 j a).trans (h1.2 j a)⟩
theorem fr.weaken {P Q : Nat → Prop} {μ ν : QMem} (h : fr P μ ν) (hPQ : ∀ k, P k → Q k) : fr Q μ ν := ⟨fun k a b => h.1 k (fun q => a (hPQ k q)) b, h.2⟩
theorem fr_put {P : Nat → Prop} {μ : QMem} {k : Nat} (o : Nat) (q : ZQ) (h : P k) (h28 : ¬ k = 28) : fr P μ (mPut μ k o q) := ⟨fun c hc _ => mPut_cell _ _ _ (fun e => hc (e ▸ h)), fun j _ => by rw [mPut_cell _ _ _ (fun e => h28 e.symm)]⟩
theorem fr.at {P : Nat → Prop} {μ ν : QMem} (h : fr P μ ν) {k o : Nat} {q : ZQ} (h1 : ¬ P k) (h2 : ¬ k = 28) (hq : mAt μ k o q) : mAt ν k o q := mAt_cell (h.1 k h1 h2) hq
/-- nothing at all changes in the object, either -/
def fq (P : Nat → Prop) (μ ν : QMem) : Prop := ∀ k, ¬ P k → ν k = μ k
theorem fq.fr {P : Nat → Prop} {μ ν : QMem} (h : fq P μ ν) (h28 : ¬ P 28) : fr P μ ν := ⟨fun k a _ => h k a, fun j _ => by rw [h 28 h28]⟩
theorem fq.refl (P : Nat → Prop) (μ : QMem) : fq P μ μ := fun _ _ => rfl
theorem fq.trans {P : Nat → Prop} {μ ν ρ : QMem} (h1 : fq P μ ν) (h2 : fq P ν ρ) : fq P μ ρ := fun k a => (h2 k a).trans (h1 k a)
theorem fq.weaken {P Q : Nat → Prop} {μ ν : QMem} (h : fq P μ ν) (hPQ : ∀ k, P k → Q k) : fq Q μ ν := fun k a => h k (fun q => a (hPQ k q))
theorem fq_put {P : Nat → Prop} {μ : QMem} {k : Nat} (o : Nat) (q : ZQ) (h : P k) : fq P μ (mPut μ k o q) := fun _ hc => mPut_cell _ _ _ (fun e => hc (e ▸ h))
theorem fq.at {P : Nat → Prop} {μ ν : QMem} (h : fq P μ ν) {k o : Nat} {q : ZQ} (h1 : ¬ P k) (hq : mAt μ k o q) : mAt ν k o q := mAt_cell (h k h1) hq
theorem m_norm {μ : QMem} {k o : Nat} {q : ZQ} (h : mAt μ k o q) (ho : o + 3 < ml k) (hb : zN4 q ≤ 2000000000) : fX12_normOf k (nI o) μ = some (qj (zN q), μ) := by
  have hm := ml_small k
  obtain ⟨h1, h2, h3, h4⟩ := h
  unfold fX12_normOf
  simp (disch := omega) only [Option.bind_some, i32_lit, nI_add, nI_mulM, cI, nI_ltT, nI_ltF, nI_leT, nI_leF, nI_eqF, nat_leF, or_self, or_false, false_or, if_true, if_false, not_true, not_false, bI_n0, h1, h2, h3, h4, zN4_raw]
  have e := qj_quarter (zN4_nn q) hb
  rw [show nI 4 = 4 from rfl, e]
  rfl
theorem m_copy1 (k0 o k2 o2 n i : Nat) (τ : QMem) (h1 : o + 3 < ml k0) (h2 : o2 + 3 < ml k2) (hi : i < 4) : fX12_copies_L3 k0 (nI o) k2 (nI o2) (n + 1) (nI i) τ = fX12_copies_L3 k0 (nI o) k2 (nI o2) n (nI (i + 1)) (ms τ k2 (o2 + i) (τ k0 (o + i))) := by
  have hm := ml_small k0
  have hm2 := ml_small k2
  rw [fX12_copies_L3]
  simp (disch := omega) only [Option.bind_some, i32_lit, nI_add, nI_mulM, cI, nI_ltT, nI_ltF, nI_leT, nI_leF, nI_eqF, nat_leF, or_self, or_false, false_or, if_true, if_false, not_true, not_false, bI_n0]
theorem m_copies {μ : QMem} {k0 o : Nat} {q : ZQ} (h : mAt μ k0 o q) (ho : o + 3 < ml k0) {k2 o2 : Nat} (ho2 : o2 + 3 < ml k2) (ha : ¬ k0 = k2 ∨ o + 3 < o2 ∨ o2 + 3 < o ∨ o = o2) : fX12_copies k0 (nI o) k2 (nI o2) μ = some (mPut μ k2 o2 q) := by
  obtain ⟨h1, h2, h3, h4⟩ := h
  have rd : ∀ (τ : QMem) (v : Int32) (i j : Nat), i < j → j < 4 → ms τ k2 (o2 + i) v k0 (o + j) = τ k0 (o + j) := by
    intro τ v i j hi hj
    rw [ms_get, if_neg (by omega)]
  unfold fX12_copies
  rw [show FU = 1995 + 1 + 1 + 1 + 1 + 1 from rfl, show (0 : Int32) = nI 0 from rfl, m_copy1 _ _ _ _ _ _ _ ho ho2 (by decide), m_copy1 _ _ _ _ _ _ _ ho ho2 (by decide), m_copy1 _ _ _ _ _ _ _ ho ho2 (by decide), m_copy1 _ _ _ _ _ _ _ ho ho2 (by decide)]
  rw [fX12_copies_L3]
  simp (disch := omega) only [Option.bind_some, i32_lit, nI_add, nI_mulM, cI, nI_ltT, nI_ltF, nI_leT, nI_leF, nI_eqF, nat_leF, or_self, or_false, false_or, if_true, if_false, not_true, not_false, bI_n0, Nat.zero_add]
  rw [rd _ _ 2 3 (by decide) (by decide), rd _ _ 1 3 (by decide) (by decide), rd _ _ 0 3 (by decide) (by decide), rd _ _ 1 2 (by decide) (by decide), rd _ _ 0 2 (by decide) (by decide), rd _ _ 0 1 (by decide) (by decide), h2, h3, h4, Nat.add_zero, Nat.add_zero, h1]
  rfl
theorem m_conj {μ : QMem} {k o : Nat} {q : ZQ} (h : mAt μ k o q) (ho : o + 3 < ml k) (hk : ¬ k = 2) : fX12_conjugates k (nI o) 2 μ = some (mPut μ 2 0 (zC q)) := by
  have hm := ml_small k
  have m2 : ml 2 = 4 := rfl
  obtain ⟨h1, h2, h3, h4⟩ := h
  unfold fX12_conjugates
  simp (disch := omega) only [Option.bind_some, i32_lit, nI_add, nI_mulM, cI, nI_ltT, nI_ltF, nI_leT, nI_leF, nI_eqF, nat_leF, or_self, or_false, false_or, if_true, if_false, not_true, not_false, bI_n0, m2, ms_cell, h1, h2, h3, h4, qj_neg]
  rfl
theorem m_prod {μ : QMem} {k o k2 o2 : Nat} (k4 : Nat) {x y : ZQ} (hx : mAt μ k o x) (hy : mAt μ k2 o2 y) (ho : o + 3 < ml k) (ho2 : o2 + 3 < ml k2) (ho4 : 3 < ml k4) (lx : zL x) (ly : zL y) (bx : zS x) (by_ : zS y) : fX12_product k (nI o) k2 (nI o2) k4 μ = some (mPut μ k4 0 (zM x y)) := by
  have hm := ml_small k
  have hm2 := ml_small k2
  have hm4 := ml_small k4
  obtain ⟨h1, h2, h3, h4⟩ := hx
  obtain ⟨g1, g2, g3, g4⟩ := hy
  obtain ⟨r1, r2, r3, r4⟩ := zM_raw lx ly bx by_
  have e2 : (nI 2 : Int32) = 2 := rfl
  unfold fX12_product
  simp (disch := omega) only [Option.bind_some, i32_lit, nI_add, nI_mulM, cI, nI_ltT, nI_ltF, nI_leT, nI_leF, nI_eqF, nat_leF, or_self, or_false, false_or, if_true, if_false, not_true, not_false, bI_n0, h1, h2, h3, h4, g1, g2, g3, g4]
  rw [e2, r1, r2, r3, r4]
  rfl
theorem m_makes {μ : QMem} {k o k2 o2 : Nat} (s : Int32) (k4 : Nat) {x y : ZQ} (hx : mAt μ k o x) (hy : mAt μ k2 o2 y) (ho : o + 3 < ml k) (ho2 : o2 + 3 < ml k2) (ho4 : 3 < ml k4) (lx : zL x) (ly : zL y) (bx : zS x) (by_ : zS y) : fX12_makes k (nI o) k2 (nI o2) s k4 μ = some (mPut μ k4 0 (zK s x y)) := by
  unfold fX12_makes zK
  by_cases h : s = 0
  · rw [if_pos h, if_pos h, m_prod k4 hx hy ho ho2 ho4 lx ly bx by_]; rfl
  · rw [if_neg h, if_neg h, m_prod k4 hy hx ho2 ho ho4 ly lx by_ bx]; rfl
theorem m_gtJ {μ : QMem} {k o k2 o2 i : Nat} {a b : Int} (ho : o + 3 < ml k) (ho2 : o2 + 3 < ml k2) (hi : i < 4) (h1 : μ k (o + i) = qj a) (h2 : μ k2 (o2 + i) = qj b) (ra : qR a) (rb : qR b) : fX12_isGreater_J30 k (nI o) k2 (nI o2) (nI i) μ = some (bI (decide (b < a)), μ) := by
  have hm := ml_small k
  have hm2 := ml_small k2
  unfold fX12_isGreater_J30
  simp (disch := omega) only [Option.bind_some, i32_lit, nI_add, nI_mulM, cI, nI_ltT, nI_ltF, nI_leT, nI_leF, nI_eqF, nat_leF, or_self, or_false, false_or, if_true, if_false, not_true, not_false, bI_n0, h1, h2, qj_le ra rb]
  by_cases h : b < a
  · rw [if_neg (by omega), decide_eq_true h]; rfl
  · rw [if_pos (by omega), decide_eq_false h]; rfl
theorem m_gt1 {μ : QMem} {k o k2 o2 i n : Nat} {a b : Int} (ho : o + 3 < ml k) (ho2 : o2 + 3 < ml k2) (hi : i < 3) (h1 : μ k (o + i) = qj a) (h2 : μ k2 (o2 + i) = qj b) (ra : qR a) (rb : qR b) : fX12_isGreater_L3 k (nI o) k2 (nI o2) (n + 1) (nI i) μ = if a = b then fX12_isGreater_L3 k (nI o) k2 (nI o2) n (nI (i + 1)) μ else some (bI (decide (b < a)), μ) := by
  have hm := ml_small k
  have hm2 := ml_small k2
  rw [fX12_isGreater_L3, m_gtJ ho ho2 (by omega) h1 h2 ra rb]
  simp (disch := omega) only [Option.bind_some, i32_lit, nI_add, nI_mulM, cI, nI_ltT, nI_ltF, nI_leT, nI_leF, nI_eqF, nat_leF, or_self, or_false, false_or, if_true, if_false, not_true, not_false, bI_n0, h1, h2, qj_eq ra rb]
theorem m_gt {μ : QMem} {k o k2 o2 : Nat} {x y : ZQ} (hx : mAt μ k o x) (hy : mAt μ k2 o2 y) (ho : o + 3 < ml k) (ho2 : o2 + 3 < ml k2) (bx : zS x) (by_ : zS y) : fX12_isGreater k (nI o) k2 (nI o2) μ = some (bI (zGb x y), μ) := by
  obtain ⟨a1, a2, a3, a4⟩ := zS_B bx
  obtain ⟨b1, b2, b3, b4⟩ := zS_B by_
  obtain ⟨h1, h2, h3, h4⟩ := hx
  obtain ⟨g1, g2, g3, g4⟩ := hy
  have q : ∀ t : Int, (-20000 ≤ t ∧ t ≤ 20000) → qR t := fun t h => qR_of (by omega) (by omega)
  unfold fX12_isGreater
  rw [show FU = 1996 + 1 + 1 + 1 + 1 from rfl, show (0 : Int32) = nI 0 from rfl, m_gt1 ho ho2 (by decide) h1 g1 (q _ a1) (q _ b1), m_gt1 ho ho2 (by decide) h2 g2 (q _ a2) (q _ b2), m_gt1 ho ho2 (by decide) h3 g3 (q _ a3) (q _ b3)]
  rw [fX12_isGreater_L3, show (nI (0 + 1 + 1 + 1)) = nI 3 from rfl, m_gtJ ho ho2 (by decide) h4 g4 (q _ a4) (q _ b4), show (3 : Int32) = nI 3 from rfl]
  simp (disch := omega) only [Option.bind_some, i32_lit, nI_add, nI_mulM, cI, nI_ltT, nI_ltF, nI_leT, nI_leF, nI_eqF, nat_leF, or_self, or_false, false_or, if_true, if_false, not_true, not_false, bI_n0]
  obtain ⟨a, b, c, d⟩ := x
  obtain ⟨e, f, g, h⟩ := y
  simp only
  rw [zGb_def]
  have t0 : ∀ P Q : Prop, [Decidable P] → [Decidable Q] → (P ↔ Q) → some (bI (decide P), μ) = some (bI (decide Q), μ) := fun P Q _ _ h => by rw [decide_eq_decide.mpr h]
  (repeat' split) <;> (apply t0; omega)
def zLb (a b c d : Int) : Bool := decide ((a - b) % 2 = 0 ∧ (a - c) % 2 = 0 ∧ (a - d) % 2 = 0)
theorem zLb_iff (q : ZQ) : zLb q.1 q.2.1 q.2.2.1 q.2.2.2 = true ↔ zL q := decide_eq_true_iff
theorem qj_mod2 {a : Int} (h : -2000000000 ≤ a ∧ a ≤ 2000000000) : (qj a - qj a / 2 * 2 = 0) = (a % 2 = 0) := by
  have e := qj_mod h (b := 2) (qR_of (by decide) (by decide)) (by decide)
  rw [show qj 2 = 2 from rfl] at e
  rw [e]
  apply propext
  omega
theorem m_like {a b c d : Int} (ha : -20000 ≤ a ∧ a ≤ 20000) (hb : -20000 ≤ b ∧ b ≤ 20000) (hc : -20000 ≤ c ∧ c ≤ 20000) (hd : -20000 ≤ d ∧ d ≤ 20000) : fX12_areLike (qj a) (qj b) (qj c) (qj d) = some (bI (zLb a b c d)) := by
  unfold fX12_areLike
  simp only [qj_sub]
  simp only [qj_mod2 (show -2000000000 ≤ a - b ∧ a - b ≤ 2000000000 by omega), qj_mod2 (show -2000000000 ≤ a - c ∧ a - c ≤ 2000000000 by omega), qj_mod2 (show -2000000000 ≤ a - d ∧ a - d ≤ 2000000000 by omega)]
  unfold zLb
  have t0 : ∀ P : Prop, [Decidable P] → ¬ P → some (bI (decide P)) = some (0 : Int32) := fun P _ h => by rw [decide_eq_false h]; rfl
  have t1 : ∀ P : Prop, [Decidable P] → P → some (bI (decide P)) = some (1 : Int32) := fun P _ h => by rw [decide_eq_true h]; rfl
  (repeat' split) <;> first | (rw [t0]; omega) | (rw [t1]; omega)
theorem m_nought {μ : QMem} {k o : Nat} {x : ZQ} (hx : mAt μ k o x) (ho : o + 3 < ml k) (bx : zS x) : fX12_isNought k (nI o) μ = some (bI (decide (x = z0)), μ) := by
  have hm := ml_small k
  obtain ⟨a1, a2, a3, a4⟩ := zS_B bx
  obtain ⟨h1, h2, h3, h4⟩ := hx
  have q : ∀ t : Int, (-20000 ≤ t ∧ t ≤ 20000) → (qj t = nI 0) = (t = 0) := fun t h => qj_is0 (qR_of (by omega) (by omega))
  unfold fX12_isNought
  simp (disch := omega) only [Option.bind_some, i32_lit, nI_add, nI_mulM, cI, nI_ltT, nI_ltF, nI_leT, nI_leF, nI_eqF, nat_leF, or_self, or_false, false_or, if_true, if_false, not_true, not_false, bI_n0, h1, h2, h3, h4, q _ a1, q _ a2, q _ a3, q _ a4]
  obtain ⟨a, b, c, d⟩ := x
  unfold z0
  simp only [Prod.mk.injEq]
  have t0 : ∀ P : Prop, [Decidable P] → ¬ P → some (bI (decide P), μ) = some (nI 0, μ) := fun P _ h => by rw [decide_eq_false h]; rfl
  have t1 : ∀ P : Prop, [Decidable P] → P → some (bI (decide P), μ) = some (nI 1, μ) := fun P _ h => by rw [decide_eq_true h]; rfl
  (repeat' split) <;> first | (rw [t0]; omega) | (rw [t1]; omega)
/-! the test of division -/
theorem m_div1 {μ : QMem} (k1 : Nat) (p2 : Int32) (k3 : Nat) (p4 p5 : Int32) {i n : Nat} {e d : Int} {b : Bool} (hi : i < 4) (he : μ 3 i = qj e) (re : -2000000000 ≤ e ∧ e ≤ 2000000000) (hd : 0 < d ∧ d ≤ 2000000000) : fX12_isDivisor_L39 k1 p2 k3 p4 p5 (n + 1) (qj d) (bI b) (nI i) μ = fX12_isDivisor_L39 k1 p2 k3 p4 p5 n (qj d) (bI (b && decide (d ∣ e))) (nI (i + 1)) (ms μ 3 i (qj (e.tdiv d))) := by
  have m3 : ml 3 = 4 := rfl
  have rd : qR d := qR_of (by omega) (by omega)
  have d0 : (qj d = nI 0) = False := eq_false (fun q => by rw [show nI 0 = qj 0 from rfl, qj_eq rd (qR_of (by decide) (by decide))] at q; omega)
  have dv : qj e / qj d = qj (e.tdiv d) := qj_div (qR_of re.1 re.2) rd (by omega)
  have md : (qj e - qj (e.tdiv d) * qj d = nI 0) = (d ∣ e) := by rw [← dv]; exact qj_mod re rd (by omega)
  rw [fX12_isDivisor_L39]
  unfold fX12_isDivisor_J67 fX12_isDivisor_J68
  cases b
  · simp (disch := omega) only [Option.bind_some, i32_lit, nI_add, nI_mulM, cI, nI_ltT, nI_ltF, nI_leT, nI_leF, nI_eqF, nat_leF, or_self, or_false, false_or, if_true, if_false, not_true, not_false, bI_n0, m3, d0, he, dv, Bool.false_and, bI_f]
  · simp (disch := omega) only [Option.bind_some, i32_lit, nI_add, nI_mulM, cI, nI_ltT, nI_ltF, nI_leT, nI_leF, nI_eqF, nat_leF, or_self, or_false, false_or, if_true, if_false, not_true, not_false, bI_n0, m3, d0, he, dv, md, Bool.true_and, bI_t]
    by_cases h : d ∣ e
    · rw [if_pos h, decide_eq_true h]
      rfl
    · rw [if_neg h, decide_eq_false h]
      rfl
def zTq (n : Int) (x : ZQ) : ZQ := (x.1.tdiv n, x.2.1.tdiv n, x.2.2.1.tdiv n, x.2.2.2.tdiv n)
theorem zTq_eq {n : Int} {x : ZQ} (h : zDv n x) : zTq n x = zQu n x := by
  unfold zTq zQu
  rw [Int.tdiv_eq_ediv_of_dvd h.1, Int.tdiv_eq_ediv_of_dvd h.2.1, Int.tdiv_eq_ediv_of_dvd h.2.2.1, Int.tdiv_eq_ediv_of_dvd h.2.2.2]
theorem ms_comm4 (μ : QMem) (e : ZQ) : mAt μ 3 0 e → ∀ (a b c d : Int), ms (ms (ms (ms μ 3 0 (qj a)) 3 1 (qj b)) 3 2 (qj c)) 3 3 (qj d) = mPut μ 3 0 (a, b, c, d) := fun _ _ _ _ _ => rfl
theorem m_isDiv {μ : QMem} {k o k2 o2 : Nat} (s : Int32) {d q : ZQ} (hd : mAt μ k o d) (hq : mAt μ k2 o2 q) (ho : o + 3 < ml k) (ho2 : o2 + 3 < ml k2) (hk : ¬ k = 2 ∧ ¬ k = 3) (hk2 : ¬ k2 = 2 ∧ ¬ k2 = 3) (vd : qV d) (vq : qV q) (h0 : d ≠ z0) :
    ∃ τ, fX12_isDivisor k (nI o) k2 (nI o2) s μ = some (bI (zDb s d q), τ) ∧ (zD s d q → mAt τ 3 0 (zQu (zN d) (zK s (zC d) q))) ∧ fq (fun c => c = 2 ∨ c = 3) μ τ := by
  have hn := zN_pos vd.1 h0
  have hn2 := qV_N vd
  have sC : zS (zC d) := by unfold zS; rw [zC_N4]; exact qV_S vd
  have eB := zEx_B (s := s) vq vd
  unfold fX12_isDivisor
  rw [m_norm hd ho (Int.le_trans vd.2 (by decide)), Option.bind_some, m_conj hd ho hk.1, Option.bind_some, show (0 : Int32) = nI 0 from rfl, m_makes s 3 (mPut_at μ 2 0 (zC d)) (mAt_ne (k := k2) (k2 := 2) hk2.1 hq) (by decide) ho2 (by decide) (zC_L vd.1) vq.1 sC (qV_S vq), Option.bind_some]
  have fold : zK s (zC d) q = zEx s q d := rfl
  rw [fold]
  generalize zEx s q d = e at eB fold
  obtain ⟨b1, b2, b3, b4⟩ := eB
  generalize hρ : mPut (mPut μ 2 0 (zC d)) 3 0 e = ρ
  have r3 : mAt ρ 3 0 e := by rw [← hρ]; exact mPut_at _ _ _ _
  have rf : fq (fun c => c = 2 ∨ c = 3) μ ρ := by
    rw [← hρ]
    exact (fq_put (P := fun c => c = 2 ∨ c = 3) (k := 2) 0 _ (Or.inl rfl)).trans (fq_put (k := 3) 0 _ (Or.inr rfl))
  have r3' := r3
  obtain ⟨e1, e2, e3, e4⟩ := r3
  have bd : ∀ t : Int, (-300 ≤ t ∧ t ≤ 300) → -2000000000 ≤ t ∧ t ≤ 2000000000 := fun t h => by omega
  have tb : ∀ t : Int, (-300 ≤ t ∧ t ≤ 300) → -20000 ≤ t.tdiv (zN d) ∧ t.tdiv (zN d) ≤ 20000 := fun t h => by
    have := Int.natAbs_tdiv_le_natAbs t (zN d)
    omega
  simp only
  rw [show FU = 1995 + 1 + 1 + 1 + 1 + 1 from rfl, show (1 : Int32) = bI true from rfl, show (nI 0) = nI 0 from rfl]
  rw [m_div1 k (nI o) k2 (nI o2) s (b := true) (by decide) e1 (bd _ b1) ⟨hn, by omega⟩]
  rw [m_div1 k (nI o) k2 (nI o2) s (i := 0 + 1) (e := e.2.1) (by decide) (by rw [ms_place _ _ (by decide)]; exact e2) (bd _ b2) ⟨hn, by omega⟩]
  rw [m_div1 k (nI o) k2 (nI o2) s (i := 0 + 1 + 1) (e := e.2.2.1) (by decide) (by rw [ms_place _ _ (by decide), ms_place _ _ (by decide)]; exact e3) (bd _ b3) ⟨hn, by omega⟩]
  rw [m_div1 k (nI o) k2 (nI o2) s (i := 0 + 1 + 1 + 1) (e := e.2.2.2) (by decide) (by rw [ms_place _ _ (by decide), ms_place _ _ (by decide), ms_place _ _ (by decide)]; exact e4) (bd _ b4) ⟨hn, by omega⟩]
  have fin : ms (ms (ms (ms ρ 3 0 (qj (e.1.tdiv (zN d)))) 3 (0 + 1) (qj (e.2.1.tdiv (zN d)))) 3 (0 + 1 + 1) (qj (e.2.2.1.tdiv (zN d)))) 3 (0 + 1 + 1 + 1) (qj (e.2.2.2.tdiv (zN d))) = mPut ρ 3 0 (zTq (zN d) e) := rfl
  rw [fin]
  generalize hπ : mPut ρ 3 0 (zTq (zN d) e) = π
  have p3 : mAt π 3 0 (zTq (zN d) e) := by rw [← hπ]; exact mPut_at _ _ _ _
  have pf : fq (fun c => c = 2 ∨ c = 3) μ π := by
    rw [← hπ]
    exact rf.trans (fq_put (k := 3) 0 _ (Or.inr rfl))
  have p3' := p3
  obtain ⟨q1, q2, q3, q4⟩ := p3
  have m3 : ml 3 = 4 := rfl
  rw [fX12_isDivisor_L39]
  simp (disch := omega) only [Option.bind_some, i32_lit, nI_add, nI_mulM, cI, nI_ltT, nI_ltF, nI_leT, nI_leF, nI_eqF, nat_leF, or_self, or_false, false_or, if_true, if_false, not_true, not_false, bI_n0, m3]
  have q2' : π 3 1 = qj (zTq (zN d) e).2.1 := q2
  have q3' : π 3 2 = qj (zTq (zN d) e).2.2.1 := q3
  have q4' : π 3 3 = qj (zTq (zN d) e).2.2.2 := q4
  rw [q1, q2', q3', q4', m_like (a := (zTq (zN d) e).1) (b := (zTq (zN d) e).2.1) (c := (zTq (zN d) e).2.2.1) (d := (zTq (zN d) e).2.2.2) (tb _ b1) (tb _ b2) (tb _ b3) (tb _ b4), Option.bind_some]
  have iff := zD_iff (s := s) vd.1 h0 vq.1
  rw [fold] at iff
  have dvd : ∀ P : Prop, [Decidable P] → (decide P = true ↔ P) := fun P _ => decide_eq_true_iff
  have isEq : (true && decide (zN d ∣ e.1) && decide (zN d ∣ e.2.1) && decide (zN d ∣ e.2.2.1) && decide (zN d ∣ e.2.2.2)) = true ↔ zDv (zN d) e := by
    simp only [Bool.and_eq_true, decide_eq_true_iff, true_and]
    unfold zDv
    exact ⟨fun h => ⟨h.1.1.1, h.1.1.2, h.1.2, h.2⟩, fun h => ⟨⟨⟨h.1, h.2.1⟩, h.2.2.1⟩, h.2.2.2⟩⟩
  refine ⟨π, ?_, fun h => ?_, pf⟩
  · generalize (true && decide (zN d ∣ e.1) && decide (zN d ∣ e.2.1) && decide (zN d ∣ e.2.2.1) && decide (zN d ∣ e.2.2.2)) = bb at isEq ⊢
    cases bb
    · have nz : zDb s d q = false := by
        cases hz : zDb s d q
        · rfl
        · exact absurd (isEq.mpr (iff.mp (zDb_iff.mp hz)).1) (by decide)
      rw [if_pos rfl, nz]
      rfl
    · have dv := isEq.mp rfl
      rw [if_neg (by decide)]
      have e5 : zDb s d q = zLb (zTq (zN d) e).1 (zTq (zN d) e).2.1 (zTq (zN d) e).2.2.1 (zTq (zN d) e).2.2.2 := b_ext (by rw [zDb_iff, iff, zLb_iff, zTq_eq dv]; exact ⟨fun h => h.2, fun h => ⟨dv, h⟩⟩)
      rw [e5]
      cases zLb (zTq (zN d) e).1 (zTq (zN d) e).2.1 (zTq (zN d) e).2.2.1 (zTq (zN d) e).2.2.2
      · exact if_pos rfl
      · exact if_neg (by decide)
  · rw [← zTq_eq (iff.mp h).1]
    exact p3'
/-! heads -/
/-- the units' row -/
def mUn (μ : QMem) : Prop := ∀ j, j < 96 → μ 1 j = xU j
theorem mUn_at {μ : QMem} (h : mUn μ) {u : Nat} (hu : u < 24) : mAt μ 1 (4 * u) (zU u) := by
  obtain ⟨x1, x2, x3, x4⟩ := xU_zU u hu
  exact ⟨by rw [h _ (by omega)]; exact x1, by rw [h _ (by omega)]; exact x2, by rw [h _ (by omega)]; exact x3, by rw [h _ (by omega)]; exact x4⟩
theorem mUn_fq {P : Nat → Prop} {μ ν : QMem} (h : mUn μ) (hs : fq P μ ν) (h1 : ¬ P 1) : mUn ν := by unfold mUn; rw [hs 1 h1]; exact h
theorem m_isHead_loop {k o : Nat} (s : Int32) {q : ZQ} (hk : ¬ k = 4) (ho : o + 3 < ml k) (lq : zL q) (sq : zS q) : ∀ (m i n : Nat) (μ : QMem) (b : Bool), i + m = 24 → m + 1 < n → mUn μ → mAt μ k o q →
    ∃ τ, fX12_isHead_L6 k (nI o) s n (bI b) (nI i) μ = some (bI (b && (zUl.drop i).all fun u => !zGb (zK s q u) q), τ) ∧ fq (fun c => c = 4) μ τ := by
  intro m
  induction m with
  | zero =>
    intro i n μ b hi hn hU hq
    obtain ⟨n, rfl⟩ : ∃ m, n = m + 1 := ⟨n - 1, by omega⟩
    have : i = 24 := by omega
    subst this
    rw [fX12_isHead_L6]
    simp (disch := omega) only [Option.bind_some, i32_lit, nI_add, nI_mulM, cI, nI_ltT, nI_ltF, nI_leT, nI_leF, nI_eqF, nat_leF, or_self, or_false, false_or, if_true, if_false, not_true, not_false, bI_n0, bI_n1, b_em]
    refine ⟨μ, ?_, fq.refl _ _⟩
    rw [show zUl.drop 24 = [] from rfl, List.all_nil, Bool.and_true]
  | succ m ih =>
    intro i n μ b hi hn hU hq
    obtain ⟨n, rfl⟩ : ∃ m, n = m + 1 := ⟨n - 1, by omega⟩
    have hi24 : i < 24 := by omega
    have sm := zS_mate (s := s) lq sq (zU_mem hi24)
    have su : zS (zU i) := by unfold zS; rw [zU_N4 hi24]; decide
    have m1 : ml 1 = 96 := rfl
    rw [fX12_isHead_L6]
    cases b
    · simp (disch := omega) only [Option.bind_some, i32_lit, nI_add, nI_mulM, cI, nI_ltT, nI_ltF, nI_leT, nI_leF, nI_eqF, nat_leF, or_self, or_false, false_or, if_true, if_false, not_true, not_false, bI_n0, bI_n1, b_em, Bool.false_and]
      exact ⟨μ, rfl, fq.refl _ _⟩
    · have e := m_makes s 4 hq (mUn_at hU hi24) ho (by omega) (by decide) lq (zU_L hi24) sq su
      have g := m_gt (μ := mPut μ 4 0 (zK s q (zU i))) (mPut_at μ 4 0 (zK s q (zU i))) (mAt_ne (k := k) (k2 := 4) (o2 := 0) (r := zK s q (zU i)) hk hq) (by decide) ho sm sq
      simp (disch := omega) only [Option.bind_some, i32_lit, nI_add, nI_mulM, cI, nI_ltT, nI_ltF, nI_leT, nI_leF, nI_eqF, nat_leF, or_self, or_false, false_or, if_true, if_false, not_true, not_false, bI_n0, e, g]
      unfold fX12_isHead_J54
      rw [zUl_drop hi24, List.all_cons, Bool.true_and]
      have f1 : fq (fun c => c = 4) μ (mPut μ 4 0 (zK s q (zU i))) := fq_put (P := fun c => c = 4) (k := 4) 0 _ rfl
      cases hg : zGb (zK s q (zU i)) q
      · rw [if_neg (by decide), if_pos rfl]
        obtain ⟨τ, t1, t2⟩ := ih (i + 1) n (mPut μ 4 0 (zK s q (zU i))) true (by omega) (by omega) (mUn_fq hU f1 (by decide)) (mAt_ne hk hq)
        simp only [Option.bind_some, i32_lit, nI_add, nI_mulM, cI, nI_ltT, nI_ltF, nI_leT, nI_leF, nI_eqF, nat_leF, or_self, or_false, false_or, if_true, if_false, not_true, not_false, bI_n0]
        exact ⟨τ, by rw [Bool.true_and] at t1; exact t1, f1.trans t2⟩
      · rw [if_neg (by decide), if_neg (by decide)]
        obtain ⟨τ, t1, t2⟩ := ih (i + 1) n (mPut μ 4 0 (zK s q (zU i))) false (by omega) (by omega) (mUn_fq hU f1 (by decide)) (mAt_ne hk hq)
        simp only [Option.bind_some, i32_lit, nI_add, nI_mulM, cI, nI_ltT, nI_ltF, nI_leT, nI_leF, nI_eqF, nat_leF, or_self, or_false, false_or, if_true, if_false, not_true, not_false, bI_n0]
        exact ⟨τ, by rw [Bool.false_and] at t1; exact t1, f1.trans t2⟩
theorem m_isHead {μ : QMem} {k o : Nat} (s : Int32) {q : ZQ} (hU : mUn μ) (hq : mAt μ k o q) (hk : ¬ k = 4) (ho : o + 3 < ml k) (lq : zL q) (sq : zS q) :
    ∃ τ, fX12_isHead k (nI o) s μ = some (bI (zHb s q), τ) ∧ fq (fun c => c = 4) μ τ := by
  obtain ⟨τ, t1, t2⟩ := m_isHead_loop s hk ho lq sq 24 0 FU μ true rfl (by unfold FU; omega) hU hq
  rw [Bool.true_and, List.drop_zero] at t1
  exact ⟨τ, t1, t2⟩
