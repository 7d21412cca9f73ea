/-! THE CALLS: count, rank, turned -/
def sumN (S : Nat → ZQ) : Nat → Int
  | 0 => 0
  | n + 1 => sumN S n + zN (S n)
theorem sums_ok {σ μ : QMem} {S : Nat → ZQ} (h : RSl σ μ S) (p1 : Int32) : ∀ (m i n n2 : Nat), i + m = 6 → m < n → m < n2 → fX11_allNorms_L4 n (qj (sumN S i)) (nI i) σ = some (qj (sumN S 6), σ) ∧ fX12_count_L51 p1 n2 (qj (sumN S i)) (nI i) μ = some (qj (sumN S 6), μ) := by
  intro m
  induction m with
  | zero =>
    intro i n n2 hi hn hn2
    obtain ⟨n, rfl⟩ : ∃ m, n = m + 1 := ⟨n - 1, by omega⟩
    obtain ⟨n2, rfl⟩ : ∃ m, n2 = m + 1 := ⟨n2 - 1, by omega⟩
    have : i = 6 := by omega
    subst this
    rw [fX11_allNorms_L4, fX12_count_L51, if_pos (show (6 : Int32) ≤ nI 6 by decide), if_pos (show (6 : Int32) ≤ nI 6 by decide)]
    exact ⟨rfl, rfl⟩
  | succ m ih =>
    intro i n n2 hi hn hn2
    obtain ⟨n, rfl⟩ : ∃ m, n = m + 1 := ⟨n - 1, by omega⟩
    obtain ⟨n2, rfl⟩ : ∃ m, n2 = m + 1 := ⟨n2 - 1, by omega⟩
    have hi6 : i < 6 := by omega
    have c6 : ¬ (6 : Int32) ≤ nI i := nI_ge (b := 6) hi6 (by decide)
    obtain ⟨v, q, mq⟩ := h i hi6
    have nrm : fX12_norm (nI i) μ = some (qj (zN (S i)), μ) := by
      unfold fX12_norm
      rw [nI_mul4, m_norm mq (show 4 * i + 3 < ml 13 by rw [ml13']; omega) (Int.le_trans v.2 (by decide))]
      rfl
    rw [fX11_allNorms_L4, fX12_count_L51, if_neg c6, if_neg c6, if_neg (gs6 hi6), es6 hi6, c_norm q (Int.le_trans v.2 (by decide)), nrm, Option.bind_some, Option.bind_some, show nI i + 1 = nI (i + 1) from nI_1 i, qj_add]
    exact ih (i + 1) n n2 (by omega) (by omega) (by omega)
theorem sizes_ok {σ μ : QMem} (h : RTa σ μ) (p1 : Int32) : ∀ (m i n n2 : Nat) (acc : Int32), i + m = 3 → m < n → m < n2 → ∃ r, fX11_allPlaces_L4 n acc (nI i) σ = some (r, σ) ∧ fX12_count_L85 p1 n2 acc (nI i) μ = some (r, μ) := by
  intro m
  induction m with
  | zero =>
    intro i n n2 acc hi hn hn2
    obtain ⟨n, rfl⟩ : ∃ m, n = m + 1 := ⟨n - 1, by omega⟩
    obtain ⟨n2, rfl⟩ : ∃ m, n2 = m + 1 := ⟨n2 - 1, by omega⟩
    have : i = 3 := by omega
    subst this
    rw [fX11_allPlaces_L4, fX12_count_L85, if_pos (show (3 : Int32) ≤ nI 3 by decide), if_pos (show (3 : Int32) ≤ nI 3 by decide)]
    exact ⟨acc, rfl, rfl⟩
  | succ m ih =>
    intro i n n2 acc hi hn hn2
    obtain ⟨n, rfl⟩ : ∃ m, n = m + 1 := ⟨n - 1, by omega⟩
    obtain ⟨n2, rfl⟩ : ∃ m, n2 = m + 1 := ⟨n2 - 1, by omega⟩
    have hi3 : i < 3 := by omega
    have c3 : ¬ (3 : Int32) ≤ nI i := nI_ge (b := 3) hi3 (by decide)
    have g26' : ¬ (nI i < 0 ∨ ml 26 ≤ i) := fun z => by rcases z with z | z; exact nI_pos (by omega) z; rw [ml26'] at z; omega
    rw [fX11_allPlaces_L4, fX12_count_L85, if_neg c3, if_neg c3, if_neg (g107 hi3), k107 hi3, if_neg (g26 hi3), nI_clamp (by omega)]
    unfold fX10_size fX12_count_J110
    rw [Option.bind_some, show nI i + 1 = nI (i + 1) from nI_1 i]
    rcases (h i hi3).1 with ⟨a1, a2, a3⟩ | ⟨k, a1, a2, a3, a4⟩
    · rw [a2, a3, if_neg (show ¬ (0 : Int32) ≤ -1 by decide)]
      exact ih (i + 1) n n2 _ (by omega) (by omega) (by omega)
    · rw [a3, a4, if_pos (nI_pos' (by omega)), if_neg g26']
      exact ih (i + 1) n n2 _ (by omega) (by omega) (by omega)
theorem ag_count (σ μ : QMem) (a1 : Int32) (h : RR σ μ) : ∃ (r : Int32) (σ2 μ2 : QMem), fX11_count a1 σ = some (r, σ2) ∧ fX12_count a1 μ = some (r, μ2) ∧ RR σ2 μ2 := by
  obtain ⟨S, hR⟩ := h
  have hh : RR σ μ := ⟨S, hR⟩
  obtain ⟨hS, ⟨c, b, T, c1, c2, c3, c4, c5, -⟩, hK, ⟨n, t1, t2, t3, t4⟩, hTa, hN, hB⟩ := hR
  unfold fX11_count fX12_count fX4_size fX8_size fX9_isStored
  by_cases h0 : a1 = 0
  · rw [if_pos h0, if_pos h0, c_filled (fun s hs => ⟨(hS s hs).1, (hS s hs).2.1⟩), m_filled (fun s hs => ⟨(hS s hs).1, (hS s hs).2.2⟩), Option.bind_some, Option.bind_some]
    exact ag_same hh _
  rw [if_neg h0, if_neg h0]
  by_cases h1 : a1 = 1
  · obtain ⟨k1, k2⟩ := sums_ok hS a1 6 0 FU FU rfl (by unfold FU; omega) (by unfold FU; omega)
    unfold fX11_allNorms
    rw [if_pos h1, if_pos h1, show (0 : Int32) = qj (sumN S 0) from rfl, show fX11_allNorms_L4 FU (qj (sumN S 0)) (qj (sumN S 0)) σ = some (qj (sumN S 6), σ) from k1, show fX12_count_L51 a1 FU (qj (sumN S 0)) (qj (sumN S 0)) μ = some (qj (sumN S 6), μ) from k2, Option.bind_some]
    exact ag_same hh _
  rw [if_neg h1, if_neg h1]
  by_cases h2 : a1 = 2
  · rw [if_pos h2, if_pos h2, c3, c5, Option.bind_some]
    exact ag_same hh _
  rw [if_neg h2, if_neg h2]
  by_cases h3 : a1 = 3
  · rw [if_pos h3, if_pos h3, t2, t3, Option.bind_some]
    exact ag_same hh _
  rw [if_neg h3, if_neg h3]
  by_cases h4 : a1 = 4
  · obtain ⟨r, k1, k2⟩ := sizes_ok hTa a1 3 0 FU FU 0 rfl (by unfold FU; omega) (by unfold FU; omega)
    unfold fX11_allPlaces
    rw [if_pos h4, if_pos h4, show fX11_allPlaces_L4 FU 0 0 σ = some (r, σ) from k1, show fX12_count_L85 a1 FU 0 0 μ = some (r, μ) from k2, Option.bind_some]
    exact ag_same hh _
  rw [if_neg h4, if_neg h4]
  have st : ∀ k, k < 2 → ∃ r, (if ¬ ((σ (98 + k) 1) = 0 ∨ (σ (98 + k) 1) = 1) then none else some (σ (98 + k) 1, σ)).bind (fun xq18 => if xq18.1 = 0 then some ((0 : Int32), xq18.2) else some (1, xq18.2)) = some (r, σ) ∧ (if μ 15 k = 0 then some ((0 : Int32), μ) else some (1, μ)) = some (r, μ) := by
    intro k hk
    rcases hK k hk with ⟨z1, z2⟩ | ⟨z1, z2, -⟩
    · rw [z1, z2, if_neg (show ¬ ¬ ((0 : Int32) = 0 ∨ (0 : Int32) = 1) by decide), Option.bind_some]
      exact ⟨0, rfl, rfl⟩
    · rw [z1, z2, if_neg (show ¬ ¬ ((1 : Int32) = 0 ∨ (1 : Int32) = 1) by decide), Option.bind_some]
      exact ⟨1, rfl, rfl⟩
  by_cases h5 : a1 = 5
  · obtain ⟨r, k1, k2⟩ := st 0 (by decide)
    subst h5
    rw [if_pos rfl, if_pos rfl, if_neg (show ¬ ((0 : Int32) < 0 ∨ xl 106 ≤ (0 : Int32).toNatClampNeg) by rw [xl106']; decide), if_neg (show ¬ ((5 : Int32) - 5 < 0 ∨ ml 15 ≤ ((5 : Int32) - 5).toNatClampNeg) by rw [ml15']; decide), xb106', show 98 + (0 : Int32).toNatClampNeg = 98 + 0 by decide, show ((5 : Int32) - 5).toNatClampNeg = 0 by decide]
    exact ⟨r, σ, μ, k1, k2, hh⟩
  rw [if_neg h5, if_neg h5]
  by_cases h6 : a1 = 6
  · obtain ⟨r, k1, k2⟩ := st 1 (by decide)
    subst h6
    rw [if_pos rfl, if_pos rfl, if_neg (show ¬ ((1 : Int32) < 0 ∨ xl 106 ≤ (1 : Int32).toNatClampNeg) by rw [xl106']; decide), if_neg (show ¬ ((6 : Int32) - 5 < 0 ∨ ml 15 ≤ ((6 : Int32) - 5).toNatClampNeg) by rw [ml15']; decide), xb106', show 98 + (1 : Int32).toNatClampNeg = 98 + 1 by decide, show ((6 : Int32) - 5).toNatClampNeg = 1 by decide]
    exact ⟨r, σ, μ, k1, k2, hh⟩
  rw [if_neg h6, if_neg h6]
  exact ag_same hh _
/-! rank -/
def zAh (S : Nat → ZQ) (s t : Nat) : Bool := decide (zN (S s) < zN (S t)) || (decide (zN (S s) = zN (S t)) && (zGb (S s) (S t) || (decide (S s = S t) && decide (s < t))))
theorem zAh_iff (S : Nat → ZQ) (s t : Nat) : zAh S s t = true ↔ zN (S s) < zN (S t) ∨ (zN (S s) = zN (S t) ∧ (zGt (S s) (S t) ∨ (S s = S t ∧ s < t))) := by
  unfold zAh
  simp only [Bool.or_eq_true, Bool.and_eq_true, decide_eq_true_iff, zGb_iff]
theorem c_ahead {σ μ : QMem} {S : Nat → ZQ} (h : RSl σ μ S) {s t : Nat} (hs : s < 6) (ht : t < 6) : fX11_isAhead (nI s) (nI t) σ = some (bI (zAh S s t), σ) := by
  obtain ⟨v1, q1, -⟩ := h s hs
  obtain ⟨v2, q2, -⟩ := h t ht
  have n1 := qV_N v1
  have n2 := qV_N v2
  have n3 := zN_nn (S s)
  have n4 := zN_nn (S t)
  have sl : ∀ j, j < 6 → fX11_isSlot (nI j) = some 1 := by
    intro j hj
    rcases slot_cases (nI j) with ⟨z, -⟩ | ⟨j2, -, -, z, -⟩
    · unfold fX11_isSlot at z
      simp (disch := omega) only [Option.bind_some, i32_lit2, nI_add, nI_mulM, cI, nI_ltT, nI_ltF, nI_leT, nI_leF, nI_eqF, nat_leF, or_self, or_false, false_or, if_true, if_false, not_true, not_false, bI_n0, bI_n1, b_em, eq_self] at z
      exact absurd z (by decide)
    · exact z
  unfold fX11_isAhead
  rw [sl s hs, Option.bind_some, if_neg i10, sl t ht, Option.bind_some, if_neg i10, if_neg (gs6 hs), if_neg (gs6 ht), es6 hs, es6 ht, c_norm q1 (Int.le_trans v1.2 (by decide)), Option.bind_some, c_norm q2 (Int.le_trans v2.2 (by decide)), Option.bind_some]
  simp only [qj_eq (qR_of (show -2000000000 ≤ zN (S s) by omega) (by omega)) (qR_of (show -2000000000 ≤ zN (S t) by omega) (by omega))]
  unfold zAh
  by_cases e : zN (S s) = zN (S t)
  · rw [if_pos e, c_same q1 q2 (qV_S v1) (qV_S v2), Option.bind_some, decide_eq_false (show ¬ zN (S s) < zN (S t) by omega), decide_eq_true e, Bool.false_or, Bool.true_and]
    simp only [bI_0]
    by_cases es : S s = S t
    · rw [decide_eq_true es, if_neg (by decide), es, (zGb_not _ _).mpr (zGt_irr _), Bool.false_or, Bool.true_and]
      by_cases hl : s < t
      · rw [if_neg (nI_ge hl (by omega)), decide_eq_true hl]; rfl
      · rw [if_pos (nI_le (by omega) (by omega)), decide_eq_false hl]; rfl
    · rw [decide_eq_false es, if_pos rfl, c_gt q1 q2 (qV_S v1) (qV_S v2), Option.bind_some, Bool.false_and, Bool.or_false]
      simp only [bI_01, not_true, if_false]
  · rw [if_neg e, c_norm q1 (Int.le_trans v1.2 (by decide)), Option.bind_some, c_norm q2 (Int.le_trans v2.2 (by decide)), Option.bind_some, decide_eq_false e, Bool.false_and, Bool.or_false]
    simp only [qj_le (qR_of (show -2000000000 ≤ zN (S t) by omega) (by omega)) (qR_of (show -2000000000 ≤ zN (S s) by omega) (by omega))]
    by_cases hl : zN (S s) < zN (S t)
    · rw [if_neg (by omega), decide_eq_true hl]; rfl
    · rw [if_pos (by omega), decide_eq_false hl]; rfl
theorem m_ahead {σ μ : QMem} {S : Nat → ZQ} (h : RSl σ μ S) {s t : Nat} (hs : s < 6) (ht : t < 6) : fX12_isAhead (nI s) (nI t) μ = some (bI (zAh S s t), μ) := by
  obtain ⟨v1, -, q1⟩ := h s hs
  obtain ⟨v2, -, q2⟩ := h t ht
  have n1 := qV_N v1
  have n2 := qV_N v2
  have n3 := zN_nn (S s)
  have n4 := zN_nn (S t)
  have os : 4 * s + 3 < ml 13 := by rw [ml13']; omega
  have ot : 4 * t + 3 < ml 13 := by rw [ml13']; omega
  have nr1 : fX12_norm (nI s) μ = some (qj (zN (S s)), μ) := by
    unfold fX12_norm
    rw [nI_mul4, m_norm q1 os (Int.le_trans v1.2 (by decide))]
    rfl
  have nr2 : fX12_norm (nI t) μ = some (qj (zN (S t)), μ) := by
    unfold fX12_norm
    rw [nI_mul4, m_norm q2 ot (Int.le_trans v2.2 (by decide))]
    rfl
  unfold fX12_isAhead fX12_isAhead_J77
  rw [nr1, Option.bind_some, nr2, Option.bind_some]
  simp only [qj_eq (qR_of (show -2000000000 ≤ zN (S s) by omega) (by omega)) (qR_of (show -2000000000 ≤ zN (S t) by omega) (by omega))]
  unfold zAh
  by_cases e : zN (S s) = zN (S t)
  · rw [if_pos e, nI_mul4, nI_mul4, m_gt q1 q2 os ot (qV_S v1) (qV_S v2), Option.bind_some, decide_eq_false (show ¬ zN (S s) < zN (S t) by omega), decide_eq_true e, Bool.false_or, Bool.true_and]
    simp only [bI_0]
    cases g1 : zGb (S s) (S t)
    · rw [if_pos rfl, m_gt q2 q1 ot os (qV_S v2) (qV_S v1), Option.bind_some, Bool.false_or]
      simp only [bI_0]
      cases g2 : zGb (S t) (S s)
      · have es := zGt_eq ((zGb_not _ _).mp g1) ((zGb_not _ _).mp g2)
        rw [if_pos rfl, decide_eq_true es, Bool.true_and]
        by_cases hl : s < t
        · rw [if_neg (nI_ge hl (by omega)), decide_eq_true hl]; rfl
        · rw [if_pos (nI_le (by omega) (by omega)), decide_eq_false hl]; rfl
      · have es : ¬ S s = S t := fun z => by
          rw [z] at g2
          exact zGt_irr _ ((zGb_iff _ _).mp g2)
        rw [if_neg (by decide), decide_eq_false es, Bool.false_and]
        rfl
    · rw [if_neg (by decide), Bool.true_or]
      rfl
  · rw [if_neg e, nr1, Option.bind_some, nr2, Option.bind_some, decide_eq_false e, Bool.false_and, Bool.or_false]
    simp only [qj_le (qR_of (show -2000000000 ≤ zN (S t) by omega) (by omega)) (qR_of (show -2000000000 ≤ zN (S s) by omega) (by omega))]
    by_cases hl : zN (S s) < zN (S t)
    · rw [if_neg (by omega), decide_eq_true hl]; rfl
    · rw [if_pos (by omega), decide_eq_false hl]; rfl
/-- how many of the first n are so -/
def cntP (P : Nat → Bool) : Nat → Nat
  | 0 => 0
  | n + 1 => cntP P n + if P n = true then 1 else 0
theorem cntP_le {P Q : Nat → Bool} {n : Nat} (h : ∀ u, u < n → P u = true → Q u = true) : cntP P n ≤ cntP Q n := by
  induction n with
  | zero => exact Nat.le_refl _
  | succ n ih =>
    unfold cntP
    have a := ih (fun u hu => h u (by omega))
    by_cases p : P n = true
    · rw [if_pos p, if_pos (h n (by omega) p)]; omega
    · rw [if_neg p]; split <;> omega
theorem cntP_lt {P Q : Nat → Bool} {n : Nat} (h : ∀ u, u < n → P u = true → Q u = true) {w : Nat} (hw : w < n) (h1 : ¬ P w = true) (h2 : Q w = true) : cntP P n < cntP Q n := by
  induction n with
  | zero => omega
  | succ n ih =>
    unfold cntP
    by_cases e : w = n
    · subst e
      have a := cntP_le (P := P) (Q := Q) (n := w) (fun u hu => h u (by omega))
      rw [if_neg h1, if_pos h2]
      omega
    · have a := ih (fun u hu => h u (by omega)) (by omega)
      by_cases p : P n = true
      · rw [if_pos p, if_pos (h n (by omega) p)]; omega
      · rw [if_neg p]; split <;> omega
theorem cntP_n (P : Nat → Bool) (n : Nat) : cntP P n ≤ n := by
  induction n with
  | zero => exact Nat.le_refl _
  | succ n ih => unfold cntP; split <;> omega
def rkN (S : Nat → ZQ) (s : Nat) : Nat := cntP (fun t => zAh S t s) 6
theorem zAh_irr (S : Nat → ZQ) (s : Nat) : ¬ zAh S s s = true := by
  rw [zAh_iff]
  rintro (h | ⟨-, h | ⟨-, h⟩⟩)
  · omega
  · exact zGt_irr _ h
  · omega
theorem zAh_tr {S : Nat → ZQ} {r s t : Nat} (h1 : zAh S r s = true) (h2 : zAh S s t = true) : zAh S r t = true := by
  rw [zAh_iff] at *
  rcases h1 with h1 | ⟨h1, h3⟩
  · rcases h2 with h2 | ⟨h2, h4⟩
    · left; omega
    · left; omega
  · rcases h2 with h2 | ⟨h2, h4⟩
    · left; omega
    · right
      refine ⟨by omega, ?_⟩
      rcases h3 with h3 | ⟨h3, h5⟩
      · rcases h4 with h4 | ⟨h4, h6⟩
        · exact Or.inl (zGt_trans h3 h4)
        · rw [h4] at h3; exact Or.inl h3
      · rcases h4 with h4 | ⟨h4, h6⟩
        · rw [← h3] at h4; exact Or.inl h4
        · exact Or.inr ⟨h3.trans h4, by omega⟩
theorem zAh_tot {S : Nat → ZQ} {s t : Nat} (h : ¬ s = t) : zAh S s t = true ∨ zAh S t s = true := by
  rw [zAh_iff, zAh_iff]
  rcases Int.lt_trichotomy (zN (S s)) (zN (S t)) with a | a | a
  · exact Or.inl (Or.inl a)
  · rcases zGt_tri (S s) (S t) with b | b | b
    · exact Or.inl (Or.inr ⟨a, Or.inl b⟩)
    · by_cases c : s < t
      · exact Or.inl (Or.inr ⟨a, Or.inr ⟨b, c⟩⟩)
      · exact Or.inr (Or.inr ⟨a.symm, Or.inr ⟨b.symm, by omega⟩⟩)
    · exact Or.inr (Or.inr ⟨a.symm, Or.inl b⟩)
  · exact Or.inr (Or.inl a)
theorem rkN_lt {S : Nat → ZQ} {s t : Nat} (hs : s < 6) (h : zAh S s t = true) : rkN S s < rkN S t := cntP_lt (fun _ _ hu => zAh_tr hu h) hs (zAh_irr S s) h
theorem rkN_5 {S : Nat → ZQ} {s : Nat} (hs : s < 6) : rkN S s < 6 := by
  have := cntP_lt (P := fun t => zAh S t s) (Q := fun _ => true) (n := 6) (fun _ _ _ => rfl) hs (zAh_irr S s) rfl
  have h2 : cntP (fun _ => true) 6 = 6 := by decide
  unfold rkN
  omega
theorem rkN_has {S : Nat → ZQ} {k : Nat} (hk : k < 6) : ∃ s, s < 6 ∧ rkN S s = k := by
  apply Classical.byContradiction
  intro hc
  have nd : ((List.range 6).map (rkN S)).Nodup := by
    unfold List.Nodup
    rw [List.pairwise_map]
    have pr : (List.range 6).Pairwise (· < ·) := List.pairwise_lt_range
    exact List.Pairwise.imp_of_mem (fun {a b} ha hb hab e => by
      have a6 := List.mem_range.mp ha
      have b6 := List.mem_range.mp hb
      rcases zAh_tot (S := S) (s := a) (t := b) (by omega) with q | q
      · have := rkN_lt a6 q; omega
      · have := rkN_lt b6 q; omega) pr
  have le := nd_len ((List.range 6).map (rkN S)) ((List.range 6).erase k) nd (fun x hx => by
    obtain ⟨s, hs, rfl⟩ := List.mem_map.mp hx
    have s6 := List.mem_range.mp hs
    have : rkN S s ≠ k := fun e => hc ⟨s, s6, e⟩
    exact (List.mem_erase_of_ne this).mpr (List.mem_range.mpr (rkN_5 s6)))
  rw [List.length_map, List.length_range, List.length_erase_of_mem (List.mem_range.mpr hk), List.length_range] at le
  omega
theorem c_aheads {σ μ : QMem} {S : Nat → ZQ} (h : RSl σ μ S) {s : Nat} (hs : s < 6) : fX11_slotsAheadOf (nI s) σ = some (nI (rkN S s), σ) := by
  have key : ∀ (m i n : Nat), i + m = 6 → m < n → fX11_slotsAheadOf_L4 (nI s) n (nI (cntP (fun t => zAh S t s) i)) (nI i) σ = some (nI (rkN S s), σ) := by
    intro m
    induction m with
    | zero =>
      intro i n hi hn
      obtain ⟨n, rfl⟩ : ∃ m, n = m + 1 := ⟨n - 1, by omega⟩
      have : i = 6 := by omega
      subst this
      rw [fX11_slotsAheadOf_L4, if_pos (show (6 : Int32) ≤ nI 6 by decide)]
      rfl
    | succ m ih =>
      intro i n hi hn
      obtain ⟨n, rfl⟩ : ∃ m, n = m + 1 := ⟨n - 1, by omega⟩
      have hi6 : i < 6 := by omega
      have c6 : ¬ (6 : Int32) ≤ nI i := nI_ge (b := 6) hi6 (by decide)
      have r := ih (i + 1) n (by omega) (by omega)
      have e : cntP (fun t => zAh S t s) (i + 1) = cntP (fun t => zAh S t s) i + if zAh S i s = true then 1 else 0 := rfl
      rw [e] at r
      rw [fX11_slotsAheadOf_L4, if_neg c6, c_ahead h hi6 hs, Option.bind_some]
      unfold fX11_slotsAheadOf_J22
      simp only [bI_0]
      cases z : zAh S i s
      · rw [z, if_neg (by decide)] at r
        rw [if_pos rfl, show nI i + 1 = nI (i + 1) from nI_1 i]
        exact r
      · rw [z, if_pos rfl] at r
        rw [if_neg (by decide), show nI i + 1 = nI (i + 1) from nI_1 i, show nI (cntP (fun t => zAh S t s) i) + 1 = nI (cntP (fun t => zAh S t s) i + 1) from nI_1 _]
        exact r
  exact key 6 0 FU rfl (by unfold FU; omega)
theorem m_aheads {σ μ : QMem} {S : Nat → ZQ} (h : RSl σ μ S) {s : Nat} (hs : s < 6) (p1 : Int32) (K2 : Int32 → QMem → Option (Int32 × QMem)) : ∀ (m i n : Nat), i + m = 6 → m < n → fX12_rank_L13 p1 K2 n (nI s) (nI (cntP (fun t => zAh S t s) i)) (nI i) μ = if nI (rkN S s) = p1 then some (nI s, μ) else K2 (nI s + 1) μ := by
  intro m
  induction m with
  | zero =>
    intro i n hi hn
    obtain ⟨n, rfl⟩ : ∃ m, n = m + 1 := ⟨n - 1, by omega⟩
    have : i = 6 := by omega
    subst this
    rw [fX12_rank_L13, if_pos (show (6 : Int32) ≤ nI 6 by decide)]
    rfl
  | succ m ih =>
    intro i n hi hn
    obtain ⟨n, rfl⟩ : ∃ m, n = m + 1 := ⟨n - 1, by omega⟩
    have hi6 : i < 6 := by omega
    have c6 : ¬ (6 : Int32) ≤ nI i := nI_ge (b := 6) hi6 (by decide)
    have r := ih (i + 1) n (by omega) (by omega)
    have e : cntP (fun t => zAh S t s) (i + 1) = cntP (fun t => zAh S t s) i + if zAh S i s = true then 1 else 0 := rfl
    rw [e] at r
    have a0 : ∀ x : Nat, nI x + 0 = nI (x + 0) := fun x => nI_add x 0
    rw [fX12_rank_L13, if_neg c6]
    unfold fX12_rank_J41 fX12_rank_J42
    by_cases es : i = s
    · have z : ¬ zAh S i s = true := by rw [es]; exact zAh_irr S s
      rw [if_neg z] at r
      rw [if_pos (show nI i = nI s by rw [es]), show nI i + 1 = nI (i + 1) from nI_1 i, a0]
      exact r
    · have ne : ¬ nI i = nI s := fun q => es ((nI_eq (by omega) (by omega)).mp q)
      rw [if_neg ne, m_ahead h hi6 hs, Option.bind_some]
      simp only [bI_0]
      cases z : zAh S i s
      · rw [z, if_neg (by decide)] at r
        rw [if_pos rfl, show nI i + 1 = nI (i + 1) from nI_1 i, a0]
        exact r
      · rw [z, if_pos rfl] at r
        rw [if_neg (by decide), show nI i + 1 = nI (i + 1) from nI_1 i, show nI (cntP (fun t => zAh S t s) i) + 1 = nI (cntP (fun t => zAh S t s) i + 1) from nI_1 _]
        exact r
theorem ag_rank (σ μ : QMem) (a1 : Int32) (h : RR σ μ) : ∃ (r : Int32) (σ2 μ2 : QMem), fX11_rank a1 σ = some (r, σ2) ∧ fX12_rank a1 μ = some (r, μ2) ∧ RR σ2 μ2 := by
  obtain ⟨S, hR⟩ := h
  have hh : RR σ μ := ⟨S, hR⟩
  have hS := hR.1
  unfold fX11_rank fX12_rank
  -- the reference, from slot i on
  have M : ∀ (m i n : Nat), i + m = 6 → m < n → (∃ s, s < 6 ∧ i ≤ s ∧ nI (rkN S s) = a1 ∧ (∀ u, i ≤ u → u < s → ¬ nI (rkN S u) = a1) ∧ fX12_rank_L2 a1 n (nI i) μ = some (nI s, μ)) ∨ ((∀ u, i ≤ u → u < 6 → ¬ nI (rkN S u) = a1) ∧ fX12_rank_L2 a1 n (nI i) μ = some (-1002, μ)) := by
    intro m
    induction m with
    | zero =>
      intro i n hi hn
      obtain ⟨n, rfl⟩ : ∃ m, n = m + 1 := ⟨n - 1, by omega⟩
      have : i = 6 := by omega
      subst this
      right
      refine ⟨fun u h1 h2 => by omega, ?_⟩
      rw [fX12_rank_L2, if_pos (show (6 : Int32) ≤ nI 6 by decide)]
    | succ m ih =>
      intro i n hi hn
      obtain ⟨n, rfl⟩ : ∃ m, n = m + 1 := ⟨n - 1, by omega⟩
      have hi6 : i < 6 := by omega
      have c6 : ¬ (6 : Int32) ≤ nI i := nI_ge (b := 6) hi6 (by decide)
      have st := m_aheads hS hi6 a1 (fX12_rank_L2 a1 n) 6 0 FU rfl (by unfold FU; omega)
      rw [fX12_rank_L2, if_neg c6, show fX12_rank_L13 a1 (fX12_rank_L2 a1 n) FU (nI i) 0 0 μ = _ from st]
      by_cases e : nI (rkN S i) = a1
      · left
        exact ⟨i, hi6, Nat.le_refl _, e, fun u h1 h2 => by omega, by rw [if_pos e]⟩
      · rw [if_neg e, show nI i + 1 = nI (i + 1) from nI_1 i]
        rcases ih (i + 1) n (by omega) (by omega) with ⟨s, s1, s2, s3, s4, s5⟩ | ⟨s1, s2⟩
        · left
          exact ⟨s, s1, by omega, s3, fun u h1 h2 => by
            by_cases eu : u = i
            · rw [eu]; exact e
            · exact s4 u (by omega) h2, s5⟩
        · right
          exact ⟨fun u h1 h2 => by
            by_cases eu : u = i
            · rw [eu]; exact e
            · exact s1 u (by omega) h2, s2⟩
  have C : ∀ (m i n s : Nat), i + m = s → s < 6 → m < n → nI (rkN S s) = a1 → (∀ u, i ≤ u → u < s → ¬ nI (rkN S u) = a1) → fX11_rank_L16 a1 n (nI i) σ = some (nI s, σ) := by
    intro m
    induction m with
    | zero =>
      intro i n s hi hs hn e _
      obtain ⟨n, rfl⟩ : ∃ m, n = m + 1 := ⟨n - 1, by omega⟩
      have : i = s := by omega
      subst this
      have c6 : ¬ (6 : Int32) ≤ nI i := nI_ge (b := 6) hs (by decide)
      rw [fX11_rank_L16, if_neg c6, c_aheads hS hs, Option.bind_some]
      simp only
      rw [if_pos e]
    | succ m ih =>
      intro i n s hi hs hn e hne
      obtain ⟨n, rfl⟩ : ∃ m, n = m + 1 := ⟨n - 1, by omega⟩
      have c6 : ¬ (6 : Int32) ≤ nI i := nI_ge (b := 6) (by omega) (by decide)
      rw [fX11_rank_L16, if_neg c6, c_aheads hS (by omega), Option.bind_some]
      simp only
      rw [if_neg (hne i (Nat.le_refl _) (by omega)), show nI i + 1 = nI (i + 1) from nI_1 i]
      exact ih (i + 1) n s (by omega) hs (by omega) e (fun u h1 h2 => hne u (by omega) h2)
  rcases p_cases a1 6 (by decide) with h0 | ⟨k, hk, rfl⟩
  · have none' : ∀ u, 0 ≤ u → u < 6 → ¬ nI (rkN S u) = a1 := fun u _ hu e => by
      have r6 := rkN_5 (S := S) hu
      rw [← e, nI_toInt (by omega)] at h0
      omega
    rcases M 6 0 FU rfl (by unfold FU; omega) with ⟨s, s1, s2, s3, -⟩ | ⟨-, s2⟩
    · exact absurd s3 (none' s (by omega) s1)
    · rw [show fX12_rank_L2 a1 FU 0 μ = _ from s2]
      by_cases hn : a1 < 0
      · rw [if_pos hn]; exact ag_same hh _
      · have n6 : ¬ a1 < 6 := fun z => by
          rw [i_neg] at hn
          rw [Int32.lt_iff_toInt_lt] at z
          have : (6 : Int32).toInt = 6 := by decide
          omega
        rw [if_neg hn, if_neg n6]
        exact ag_same hh _
  · obtain ⟨s0, w1, w2⟩ := rkN_has (S := S) hk
    have k6 : nI k < (6 : Int32) := nI_lt (b := 6) hk (by decide)
    rw [if_neg (nI_pos (by omega)), if_pos k6]
    rcases M 6 0 FU rfl (by unfold FU; omega) with ⟨s, s1, s2, s3, s4, s5⟩ | ⟨s1, -⟩
    · rw [show fX12_rank_L2 (nI k) FU 0 μ = _ from s5, show fX11_rank_L16 (nI k) FU 0 σ = _ from C s 0 FU s (by omega) s1 (by unfold FU; omega) s3 (fun u h1 h2 => s4 u h1 h2)]
      exact ag_same hh _
    · exact absurd (by rw [w2]) (s1 s0 (by omega) w1)
