/-! THE CALLS: write, erase, tally, load, work, drop, undo, keep, back -/
theorem RSl_of {σ μ τ ν : QMem} {S : Nat → ZQ} (h : RSl σ μ S) (hX : ∀ k, k < 6 → τ k = σ k) (hM : ν 13 = μ 13) : RSl τ ν S := fun s hs => ⟨(h s hs).1, by unfold qAt; rw [hX s hs]; exact (h s hs).2.1, mAt_cell hM (h s hs).2.2⟩
theorem RPa_of {σ μ τ ν : QMem} {S : Nat → ZQ} (h : RPa σ μ S) (hX : ∀ k, 18 ≤ k → k < 26 → τ k = σ k) (h82 : τ 82 = σ 82) (h108 : τ 108 = σ 108) (h14 : ν 14 = μ 14) (h15 : ν 28 15 = μ 28 15) : RPa τ ν S := by
  obtain ⟨c, b, T, a1, a2, a3, a4, a5, a6, a7⟩ := h
  refine ⟨c, b, T, a1, a2, by rw [h108]; exact a3, by rw [h108]; exact a4, by rw [h15]; exact a5, a6, fun i hi => ?_⟩
  obtain ⟨b1, p, b2, b3, b4, b5⟩ := a7 i hi
  exact ⟨fun s hs => ⟨(b1 s hs).1, mAt_cell h14 (b1 s hs).2⟩, p, b2, by rw [h82]; exact b3, by unfold qAt; rw [hX _ (by omega) (by omega)]; exact b4, b5⟩
theorem RK_of {σ μ τ ν : QMem} (h : RK σ μ) (hX : ∀ k, 6 ≤ k → k < 18 → τ k = σ k) (hY : ∀ k, k < 2 → τ (98 + k) = σ (98 + k)) (h15 : ν 15 = μ 15) (h16 : ν 16 = μ 16) : RK τ ν := by
  intro k hk
  rw [hY k hk, h15]
  rcases h k hk with z | ⟨z1, z2, K, z3⟩
  · exact Or.inl z
  · refine Or.inr ⟨z1, z2, K, fun s hs => ⟨(z3 s hs).1, ?_, mAt_cell h16 (z3 s hs).2.2⟩⟩
    unfold qAt
    rw [hX _ (by omega) (by omega)]
    exact (z3 s hs).2.1
theorem RT_of {σ μ τ ν : QMem} (h : RT σ μ) (h1 : τ 109 2 = σ 109 2) (h2 : τ 83 = σ 83) (h3 : ν 28 26 = μ 28 26) (h4 : ν 23 = μ 23) : RT τ ν := by
  unfold RT
  rw [h1, h2, h3, h4]
  exact h
theorem RTa_of {σ μ τ ν : QMem} (h : RTa σ μ) (h1 : ∀ t, t < 3 → τ (95 + t) = σ (95 + t)) (h2 : ∀ t, t < 3 → τ (79 + t) = σ (79 + t)) (h3 : ν 26 = μ 26) (h4 : ν 27 = μ 27) : RTa τ ν := by
  intro t ht
  rw [h1 t ht, h2 t ht, h3, h4]
  exact h t ht
theorem RB_of {σ μ τ ν : QMem} (h : RB σ μ) (h1 : ν 1 = μ 1) (h2 : ν 0 = μ 0) (h3 : τ 85 = σ 85) : RB τ ν := by
  unfold RB mUn mRt xRt
  rw [h1, h2, h3]
  exact h
theorem pin (p : Int32) (m : Nat) (hm : m < 2147483647) : fX12_in p 0 (nI m) = some (bI (decide (0 ≤ p.toInt ∧ p.toInt ≤ m))) := by
  unfold fX12_in
  by_cases h0 : p.toInt < 0
  · rw [if_pos (i_neg.mpr h0), decide_eq_false (by omega)]; rfl
  · rw [if_neg (fun z => h0 (i_neg.mp z))]
    by_cases h1 : (m : Int) < p.toInt
    · rw [if_pos (by rw [Int32.lt_iff_toInt_lt, nI_toInt (by omega)]; exact h1), decide_eq_false (by omega)]; rfl
    · rw [if_neg (by rw [Int32.lt_iff_toInt_lt, nI_toInt (by omega)]; exact h1), decide_eq_true (by omega)]; rfl
theorem ag_write (σ μ : QMem) (a1 : Int32) (h : RR σ μ) : ∃ (r : Int32) (σ2 μ2 : QMem), fX11_write a1 σ = some (r, σ2) ∧ fX12_write a1 μ = some (r, μ2) ∧ RR σ2 μ2 := by
  unfold fX11_write fX12_write
  rw [show (255 : Int32) = nI 255 from rfl, pin a1 255 (by decide), Option.bind_some]
  simp only [bI_0]
  rcases p_cases a1 256 (by decide) with h0 | ⟨c, hc, rfl⟩
  · rw [decide_eq_false (show ¬ (0 ≤ a1.toInt ∧ a1.toInt ≤ ((255 : Nat) : Int)) by omega), if_pos rfl]
    by_cases hn : a1 < 0
    · rw [if_pos hn]; exact ag_same h _
    · rw [if_neg hn, if_neg (by rw [i_neg] at hn; rw [Int32.le_iff_toInt_le, nI_toInt (by decide)]; omega)]; exact ag_same h _
  · rw [decide_eq_true (show 0 ≤ (nI c).toInt ∧ (nI c).toInt ≤ ((255 : Nat) : Int) by rw [nI_toInt (by omega)]; omega), if_neg (show ¬ (true = false) by decide), if_neg (show ¬ nI c < 0 from nI_pos (by omega)), if_pos (show nI c ≤ nI 255 from nI_le (by omega) (by decide))]
    obtain ⟨S, hS, hP, hK, ⟨n, t1, t2, t3, t4⟩, hTa, hN, hB⟩ := h
    have x83 : xl 83 = 200 := rfl
    have m23 : ml 23 = 200 := rfl
    unfold fX8_isFull fX8_size fX8_append
    rw [t2, t3]
    by_cases hf : n = 200
    · subst hf
      rw [if_neg (show ¬ nI 200 < (200 : Int32) by decide), if_pos (show nI 200 = (200 : Int32) from rfl), Option.bind_some, if_neg (show ¬ ((1 : Int32), σ).1 = 0 from i10)]
      exact ag_same ⟨S, hS, hP, hK, ⟨200, t1, t2, t3, t4⟩, hTa, hN, hB⟩ _
    · have c1 : nI n < (200 : Int32) := nI_lt (b := 200) (by omega) (by decide)
      have c2 : ¬ nI n = (200 : Int32) := fun e => hf ((nI_eq (b := 200) (by omega) (by decide)).mp e)
      have c3 : ¬ (200 : Int32) ≤ nI n := nI_ge (b := 200) (by omega) (by decide)
      rw [if_pos c1, if_neg c2, Option.bind_some, if_pos (show ((0 : Int32), σ).1 = 0 from rfl)]
      simp only
      rw [t2, if_neg (nI_pos (by omega)), if_neg c3, x83, m23, if_neg (nI_in (show n < 200 by omega) (by decide)), if_neg (nI_in (show n < 200 by omega) (by decide)), nI_clamp (by omega), Option.bind_some, Option.bind_some]
      have e1 : ms σ 83 n (nI c) 109 2 = nI n := by rw [ms_cell _ (by decide)]; exact t2
      have e2 : ms μ 23 n (nI c) 28 26 = nI n := by rw [ms_cell _ (by decide)]; exact t3
      rw [e1, e2, show nI n + 1 = nI (n + 1) from nI_1 n, ms_same, ms_same]
      simp only
      refine ⟨nI (n + 1), _, _, rfl, rfl, S, ?_, ?_, ?_, ?_, ?_, ?_, ?_⟩
      · exact RSl_of hS (fun k hk => by rw [ms_cell _ (by omega), ms_cell _ (by omega)]) (by rw [ms_cell _ (by decide), ms_cell _ (by decide)])
      · exact RPa_of hP (fun k _ _ => by rw [ms_cell _ (by omega), ms_cell _ (by omega)]) (by rw [ms_cell _ (by decide), ms_cell _ (by decide)]) (by rw [ms_cell _ (by decide), ms_cell _ (by decide)]) (by rw [ms_cell _ (by decide), ms_cell _ (by decide)]) (by rw [ms_place _ _ (by decide), ms_cell _ (by decide)])
      · exact RK_of hK (fun k _ _ => by rw [ms_cell _ (by omega), ms_cell _ (by omega)]) (fun k _ => by rw [ms_cell _ (by omega), ms_cell _ (by omega)]) (by rw [ms_cell _ (by decide), ms_cell _ (by decide)]) (by rw [ms_cell _ (by decide), ms_cell _ (by decide)])
      · refine ⟨n + 1, by omega, ms_same _ _ _ _, ms_same _ _ _ _, fun i hi => ?_⟩
        have w1 : ∀ v, ms (ms σ 83 n (nI c)) 109 2 v 83 = ms σ 83 n (nI c) 83 := fun v => ms_cell _ (by decide) _ _
        have w2 : ∀ v, ms (ms μ 23 n (nI c)) 28 26 v 23 = ms μ 23 n (nI c) 23 := fun v => ms_cell _ (by decide) _ _
        rw [w1, w2, ms_get, ms_get]
        by_cases hi2 : i = n
        · rw [if_pos ⟨rfl, hi2⟩, if_pos ⟨rfl, hi2⟩]
          exact ⟨rfl, c, hc, rfl⟩
        · rw [if_neg (fun z => hi2 z.2), if_neg (fun z => hi2 z.2)]
          exact t4 i (by omega)
      · exact RTa_of hTa (fun t _ => by rw [ms_cell _ (by omega), ms_cell _ (by omega)]) (fun t _ => by rw [ms_cell _ (by omega), ms_cell _ (by omega)]) (by rw [ms_cell _ (by decide), ms_cell _ (by decide)]) (by rw [ms_cell _ (by decide), ms_cell _ (by decide)])
      · unfold RN
        rw [ms_cell _ (by decide), ms_cell _ (by decide), ms_place _ _ (by decide), ms_cell _ (by decide)]
        exact hN
      · exact RB_of hB (by rw [ms_cell _ (by decide), ms_cell _ (by decide)]) (by rw [ms_cell _ (by decide), ms_cell _ (by decide)]) (by rw [ms_cell _ (by decide), ms_cell _ (by decide)])
/-- the text becomes empty -/
theorem RT_clear {σ μ : QMem} {S : Nat → ZQ} (h : RRS σ μ S) : RRS (ms σ 109 2 0) (ms μ 28 26 0) S := by
  obtain ⟨hS, hP, hK, -, hTa, hN, hB⟩ := h
  refine ⟨RSl_of hS (fun k hk => ms_cell _ (by omega) _ _) (ms_cell _ (by decide) _ _), RPa_of hP (fun k _ _ => ms_cell _ (by omega) _ _) (ms_cell _ (by decide) _ _) (ms_cell _ (by decide) _ _) (ms_cell _ (by decide) _ _) (ms_place _ _ (by decide) _), RK_of hK (fun k _ _ => ms_cell _ (by omega) _ _) (fun k _ => ms_cell _ (by omega) _ _) (ms_cell _ (by decide) _ _) (ms_cell _ (by decide) _ _), ⟨0, by decide, ms_same _ _ _ _, ms_same _ _ _ _, fun i hi => by omega⟩, RTa_of hTa (fun t _ => ms_cell _ (by omega) _ _) (fun t _ => ms_cell _ (by omega) _ _) (ms_cell _ (by decide) _ _) (ms_cell _ (by decide) _ _), ?_, RB_of hB (ms_cell _ (by decide) _ _) (ms_cell _ (by decide) _ _) (ms_cell _ (by decide) _ _)⟩
  unfold RN
  rw [ms_cell _ (by decide), ms_place _ _ (by decide)]
  exact hN
theorem ag_erase (σ μ : QMem) (h : RR σ μ) : ∃ (r : Int32) (σ2 μ2 : QMem), fX11_erase σ = some (r, σ2) ∧ fX12_erase μ = some (r, μ2) ∧ RR σ2 μ2 := by
  obtain ⟨S, hS⟩ := h
  have h2 := hS
  obtain ⟨-, -, -, ⟨n, t1, t2, t3, t4⟩, -⟩ := h2
  unfold fX11_erase fX12_erase fX8_size fX8_clear
  rw [t2, t3, Option.bind_some, Option.bind_some]
  exact ⟨_, _, _, rfl, rfl, S, RT_clear hS⟩
/-! tallies: a change of one tally alone -/
theorem RTa_upd {σ μ τ ν : QMem} {S : Nat → ZQ} (h : RRS σ μ S) {t : Nat} (ht : t < 3) (hX : ∀ k, ¬ k = 95 + t → ¬ k = 79 + t → ¬ k = 105 → τ k = σ k) (hM : ∀ k, ¬ k = 26 → ¬ k = 27 → ¬ k = 28 → ν k = μ k) (hM28 : ∀ j, ¬ j = 33 → ν 28 j = μ 28 j) (h26 : ∀ j, ¬ j = t → ν 26 j = μ 26 j) (h27 : ∀ t2, ¬ t2 = t → ∀ j, j < 6 → ν 27 (6 * t2 + j) = μ 27 (6 * t2 + j)) (hN : τ 105 12 = ν 28 33)
    (hT : ((τ (95 + t) 2 = 0 ∧ τ (95 + t) 1 = 0 ∧ ν 26 t = -1) ∨ ∃ n, n ≤ 6 ∧ τ (95 + t) 2 = 1 ∧ τ (95 + t) 1 = nI n ∧ ν 26 t = nI n) ∧ ∀ i, i < 6 → τ (79 + t) i = ν 27 (6 * t + i)) : RRS τ ν S := by
  obtain ⟨hS, hP, hK, hTx, hTa, -, hB⟩ := h
  refine ⟨RSl_of hS (fun k hk => hX k (by omega) (by omega) (by omega)) (hM 13 (by decide) (by decide) (by decide)), RPa_of hP (fun k _ _ => hX k (by omega) (by omega) (by omega)) (hX 82 (by omega) (by omega) (by omega)) (hX 108 (by omega) (by omega) (by omega)) (hM 14 (by decide) (by decide) (by decide)) (hM28 15 (by decide)), RK_of hK (fun k _ _ => hX k (by omega) (by omega) (by omega)) (fun k _ => hX _ (by omega) (by omega) (by omega)) (hM 15 (by decide) (by decide) (by decide)) (hM 16 (by decide) (by decide) (by decide)), RT_of hTx (by rw [hX 109 (by omega) (by omega) (by omega)]) (hX 83 (by omega) (by omega) (by omega)) (hM28 26 (by decide)) (hM 23 (by decide) (by decide) (by decide)), ?_, hN, RB_of hB (hM 1 (by decide) (by decide) (by decide)) (hM 0 (by decide) (by decide) (by decide)) (hX 85 (by omega) (by omega) (by omega))⟩
  intro t2 ht2
  by_cases e : t2 = t
  · subst e; exact hT
  · rw [hX (95 + t2) (by omega) (by omega) (by omega), hX (79 + t2) (by omega) (by omega) (by omega), h26 t2 e]
    exact ⟨(hTa t2 ht2).1, fun i hi => by rw [h27 t2 e i hi]; exact (hTa t2 ht2).2 i hi⟩
theorem c_zero6 {t : Nat} (ht : t < 3) (p1 : Int32) : ∀ (m i n : Nat) (τ : QMem), i + m = 6 → m < n → ∃ τ2, fX10_begin_L21 (95 + t) p1 n (nI i) τ = some τ2 ∧ (∀ k, ¬ k = 79 + t → τ2 k = τ k) ∧ ∀ j, τ2 (79 + t) j = if i ≤ j ∧ j < 6 then nI 0 else τ (79 + t) j := by
  have e16 : 95 + t - 16 = 79 + t := by omega
  have x16 : xl (79 + t) = 6 := by
    have : t = 0 ∨ t = 1 ∨ t = 2 := by omega
    rcases this with rfl | rfl | rfl <;> rfl
  intro m
  induction m with
  | zero =>
    intro i n τ hi hn
    obtain ⟨n, rfl⟩ : ∃ m, n = m + 1 := ⟨n - 1, by omega⟩
    have : i = 6 := by omega
    subst this
    rw [fX10_begin_L21]
    simp (disch := omega) only [Option.bind_some, i32_lit2, nI_add, nI_mulM, cI, nI_ltT, nI_ltF, nI_leT, nI_leF, nI_eqF, nat_leF, or_self, or_false, false_or, if_true, if_false, not_true, not_false, bI_n0, bI_n1, b_em, eq_self]
    exact ⟨τ, rfl, fun _ _ => rfl, fun j => by rw [if_neg (by omega)]⟩
  | succ m ih =>
    intro i n τ hi hn
    obtain ⟨n, rfl⟩ : ∃ m, n = m + 1 := ⟨n - 1, by omega⟩
    rw [fX10_begin_L21, e16, x16]
    simp (disch := omega) only [Option.bind_some, i32_lit2, nI_add, nI_mulM, cI, nI_ltT, nI_ltF, nI_leT, nI_leF, nI_eqF, nat_leF, or_self, or_false, false_or, if_true, if_false, not_true, not_false, bI_n0, bI_n1, b_em, eq_self]
    obtain ⟨τ2, t1, t2, t3⟩ := ih (i + 1) n (ms τ (79 + t) i (nI 0)) (by omega) (by omega)
    refine ⟨τ2, t1, fun k hk => by rw [t2 k hk, ms_cell _ hk], fun j => ?_⟩
    rw [t3 j, ms_get]
    by_cases h1 : i + 1 ≤ j ∧ j < 6
    · rw [if_pos h1, if_pos (by omega)]
    · rw [if_neg h1]
      by_cases h2 : j = i
      · rw [if_pos ⟨rfl, h2⟩, if_pos (by omega)]
      · rw [if_neg (fun z => h2 z.2), if_neg (by omega)]
theorem m_zero6 {t : Nat} (ht : t < 3) (p2 : Int32) : ∀ (m i n : Nat) (τ : QMem), i + m = 6 → m < n → ∃ τ2, fX12_tally_L38 (nI t) p2 n (nI i) τ = some (p2, τ2) ∧ (∀ k, ¬ k = 27 → τ2 k = τ k) ∧ ∀ j, τ2 27 j = if 6 * t + i ≤ j ∧ j < 6 * t + 6 then nI 0 else τ 27 j := by
  intro m
  induction m with
  | zero =>
    intro i n τ hi hn
    obtain ⟨n, rfl⟩ : ∃ m, n = m + 1 := ⟨n - 1, by omega⟩
    have : i = 6 := by omega
    subst this
    rw [fX12_tally_L38]
    simp (disch := omega) only [Option.bind_some, i32_lit2, nI_add, nI_mulM, cI, nI_ltT, nI_ltF, nI_leT, nI_leF, nI_eqF, nat_leF, or_self, or_false, false_or, if_true, if_false, not_true, not_false, bI_n0, bI_n1, b_em, eq_self]
    exact ⟨τ, rfl, fun _ _ => rfl, fun j => by rw [if_neg (by omega)]⟩
  | succ m ih =>
    intro i n τ hi hn
    obtain ⟨n, rfl⟩ : ∃ m, n = m + 1 := ⟨n - 1, by omega⟩
    rw [fX12_tally_L38]
    simp (disch := omega) only [Option.bind_some, i32_lit2, nI_add, nI_mulM, cI, nI_ltT, nI_ltF, nI_leT, nI_leF, nI_eqF, nat_leF, or_self, or_false, false_or, if_true, if_false, not_true, not_false, bI_n0, bI_n1, b_em, eq_self, ml27']
    obtain ⟨τ2, t1, t2, t3⟩ := ih (i + 1) n (ms τ 27 (6 * t + i) (nI 0)) (by omega) (by omega)
    refine ⟨τ2, t1, fun k hk => by rw [t2 k hk, ms_cell _ hk], fun j => ?_⟩
    rw [t3 j, ms_get]
    by_cases h1 : 6 * t + (i + 1) ≤ j ∧ j < 6 * t + 6
    · rw [if_pos h1, if_pos (by omega)]
    · rw [if_neg h1]
      by_cases h2 : j = 6 * t + i
      · rw [if_pos ⟨rfl, h2⟩, if_pos (by omega)]
      · rw [if_neg (fun z => h2 z.2), if_neg (by omega)]
theorem g107 {t : Nat} (ht : t < 3) : ¬ (nI t < 0 ∨ xl 107 ≤ (nI t).toNatClampNeg) := nI_in (by rw [xl107']; exact ht) (by decide)
theorem k107 {t : Nat} (ht : t < 3) : xb 107 + (nI t).toNatClampNeg = 95 + t := by rw [nI_clamp (by omega), xb107']
theorem g26 {t : Nat} (ht : t < 3) : ¬ (nI t < 0 ∨ ml 26 ≤ (nI t).toNatClampNeg) := nI_in (by rw [ml26']; exact ht) (by decide)
theorem ag_tally (σ μ : QMem) (a1 a2 : Int32) (h : RR σ μ) : ∃ (r : Int32) (σ2 μ2 : QMem), fX11_tally a1 a2 σ = some (r, σ2) ∧ fX12_tally a1 a2 μ = some (r, μ2) ∧ RR σ2 μ2 := by
  unfold fX11_tally fX12_tally
  rcases tally_cases a1 with ⟨e1, e2⟩ | ⟨t, ht, rfl, e1, e2⟩
  · rw [e1, e2, Option.bind_some, Option.bind_some, if_pos rfl, if_pos rfl]; exact ag_same h _
  rw [e1, e2, Option.bind_some, Option.bind_some, if_neg i10, if_neg i10]
  by_cases h6 : a2 ≤ 6
  · rw [if_pos h6, if_pos h6]
    by_cases h0 : 0 ≤ a2
    · rw [if_pos h0, if_pos h0, if_neg (g107 ht), k107 ht, if_neg (g26 ht), nI_clamp (by omega)]
      obtain ⟨n, hn, rfl⟩ : ∃ n, n < 7 ∧ a2 = nI n := by
        rcases p_cases a2 7 (by decide) with z | z
        · exfalso
          rw [Int32.le_iff_toInt_le] at h6 h0
          have q1 : (6 : Int32).toInt = 6 := by decide
          have q2 : (0 : Int32).toInt = 0 := by decide
          omega
        · exact z
      have e3 : (if 6 < (if nI n < 0 then 0 else nI n) then 6 else (if nI n < 0 then (0 : Int32) else nI n)) = nI n := by
        have q1 : ¬ (6 : Int32) < nI n := nI_nlt (a := 6) (by omega) (by decide)
        rw [if_neg (nI_pos (by omega)), if_neg q1]
      unfold fX10_begin
      rw [e3]
      obtain ⟨τ, t1, t2, t3⟩ := c_zero6 ht (nI n) 6 0 FU (ms (ms σ (95 + t) 2 1) (95 + t) 1 (nI n)) rfl (by unfold FU; omega)
      obtain ⟨ν, n1, n2, n3⟩ := m_zero6 ht (nI n) 6 0 FU (ms μ 26 t (nI n)) rfl (by unfold FU; omega)
      rw [show (0 : Int32) = nI 0 from rfl, t1, n1, Option.bind_some]
      obtain ⟨S, hS⟩ := h
      have hN := hS.2.2.2.2.2.1
      refine ⟨_, _, _, rfl, rfl, S, RTa_upd hS ht (fun k k1 k2 k3 => by rw [t2 k k2, ms_cell _ k1, ms_cell _ k1]) (fun k k1 k2 k3 => by rw [n2 k k2, ms_cell _ k1]) (fun j _ => by rw [n2 28 (by decide), ms_cell _ (by decide)]) (fun j hj => by rw [n2 26 (by decide), ms_place _ _ hj]) (fun t2 ht2 j hj => by rw [n3, if_neg (by omega), ms_cell _ (by decide)]) ?_ ⟨Or.inr ⟨n, by omega, ?_, ?_, ?_⟩, fun i hi => ?_⟩⟩
      · rw [t2 105 (by omega), ms_cell _ (by omega), ms_cell _ (by omega), n2 28 (by decide), ms_cell _ (by decide)]; exact hN
      · rw [t2 (95 + t) (by omega), ms_place _ _ (by decide), ms_same]
      · rw [t2 (95 + t) (by omega), ms_same]
      · rw [n2 26 (by decide), ms_same]
      · rw [t3, n3, if_pos (by omega), if_pos (by omega)]
    · rw [if_neg h0, if_neg h0]; exact ag_same h _
  · rw [if_neg h6, if_neg h6]; exact ag_same h _
/-- what is missing of a tally, on both sides -/
theorem lacks_ok {σ μ : QMem} (h : RTa σ μ) {t : Nat} (ht : t < 3) (i : Int32) :
    (σ (95 + t) 2 = 0 ∧ fX12_lacks (nI t) i μ = some (-1011, μ)) ∨ (σ (95 + t) 2 = 1 ∧ ∃ n, n ≤ 6 ∧ σ (95 + t) 1 = nI n ∧ ((fX10_hasPlace (95 + t) i σ = some (0, σ) ∧ fX12_lacks (nI t) i μ = some (-1012, μ)) ∨ ∃ j, j < n ∧ i = nI j ∧ fX10_hasPlace (95 + t) i σ = some (1, σ) ∧ fX12_lacks (nI t) i μ = some (0, μ))) := by
  unfold fX12_lacks
  rw [if_neg (g26 ht), nI_clamp (by omega)]
  rcases (h t ht).1 with ⟨a1, a2, a3⟩ | ⟨n, a1, a2, a3, a4⟩
  · left
    rw [a3, if_neg (by decide)]
    exact ⟨a1, rfl⟩
  · right
    refine ⟨a2, n, a1, a3, ?_⟩
    have g26' : ¬ (nI t < 0 ∨ ml 26 ≤ t) := fun z => by rcases z with z | z; exact nI_pos (by omega) z; rw [ml26'] at z; omega
    unfold fX10_hasPlace
    rw [a4, a3, if_pos (nI_pos' (by omega)), if_neg g26']
    rcases p_cases i n (by omega) with h0 | ⟨j, hj, rfl⟩
    · left
      have eI : fX12_in i 0 (nI n - 1) = some 0 := by
        unfold fX12_in
        have en : nI n - 1 = qj ((n : Int) - 1) := by rw [qj_nat]; exact qj_sub _ 1
        rw [en]
        by_cases hn : i < 0
        · rw [if_pos hn]
        · rw [if_neg hn, if_pos (by rw [i_neg] at hn; rw [Int32.lt_iff_toInt_lt, qj_toInt (qR_of (by omega) (by omega))]; omega)]
      rw [eI, Option.bind_some, if_pos rfl]
      refine ⟨?_, rfl⟩
      by_cases hn : i < 0
      · rw [if_pos hn]
      · rw [if_neg hn, if_pos (by rw [i_neg] at hn; rw [Int32.le_iff_toInt_le, nI_toInt (by omega)]; omega)]
    · right
      have eI : fX12_in (nI j) 0 (nI n - 1) = some 1 := by
        have en : nI n - 1 = nI (n - 1) := by
          have : n = (n - 1) + 1 := by omega
          rw [this, nI_pred]
          congr 1
        rw [en, pin _ _ (by omega), decide_eq_true (by rw [nI_toInt (by omega)]; omega)]
        rfl
      rw [eI, Option.bind_some, if_neg i10, if_neg (nI_pos (by omega)), if_neg (nI_ge hj (by omega))]
      exact ⟨j, hj, rfl, rfl, rfl⟩
theorem x79 {t : Nat} (ht : t < 3) : xl (79 + t) = 6 := by
  have : t = 0 ∨ t = 1 ∨ t = 2 := by omega
  rcases this with rfl | rfl | rfl <;> rfl
theorem c_store {t j : Nat} (ht : t < 3) (hj : j < 6) (v : Int32) (σ : QMem) : fX10_store (95 + t) (nI j) v σ = some (ms σ (79 + t) j v) := by
  unfold fX10_store
  rw [show 95 + t - 16 = 79 + t by omega, x79 ht]
  simp (disch := omega) only [Option.bind_some, i32_lit2, nI_add, nI_mulM, cI, nI_ltT, nI_ltF, nI_leT, nI_leF, nI_eqF, nat_leF, or_self, or_false, false_or, if_true, if_false, not_true, not_false, bI_n0, bI_n1, b_em, eq_self]
theorem c_at {t j : Nat} (ht : t < 3) (hj : j < 6) (σ : QMem) : fX10_at (95 + t) (nI j) σ = some (σ (79 + t) j, σ) := by
  unfold fX10_at
  rw [show 95 + t - 16 = 79 + t by omega, x79 ht]
  simp (disch := omega) only [Option.bind_some, i32_lit2, nI_add, nI_mulM, cI, nI_ltT, nI_ltF, nI_leT, nI_leF, nI_eqF, nat_leF, or_self, or_false, false_or, if_true, if_false, not_true, not_false, bI_n0, bI_n1, b_em, eq_self]
theorem c_miss0 {t : Nat} {σ : QMem} (h : σ (95 + t) 2 = 0) : fX10_isMissing (95 + t) σ = some (1, σ) := by unfold fX10_isMissing; rw [h, if_pos rfl]
theorem c_miss1 {t : Nat} {σ : QMem} (h : σ (95 + t) 2 = 1) : fX10_isMissing (95 + t) σ = some (0, σ) := by unfold fX10_isMissing; rw [h, if_neg i10]
theorem ag_load (σ μ : QMem) (a1 a2 a3 : Int32) (h : RR σ μ) : ∃ (r : Int32) (σ2 μ2 : QMem), fX11_load a1 a2 a3 σ = some (r, σ2) ∧ fX12_load a1 a2 a3 μ = some (r, μ2) ∧ RR σ2 μ2 := by
  unfold fX11_load fX12_load
  rcases tally_cases a1 with ⟨e1, e2⟩ | ⟨t, ht, rfl, e1, e2⟩
  · rw [e1, e2, Option.bind_some, Option.bind_some, if_pos rfl, if_pos rfl]; exact ag_same h _
  rcases slot_cases a3 with ⟨e3, e4⟩ | ⟨s, hs, rfl, e3, e4⟩
  · rw [e1, e2, Option.bind_some, Option.bind_some, if_neg i10, if_neg i10, e3, e4, Option.bind_some, Option.bind_some, if_pos rfl, if_pos rfl]; exact ag_same h _
  rw [e1, e2, Option.bind_some, Option.bind_some, if_neg i10, if_neg i10, e3, e4, Option.bind_some, Option.bind_some, if_neg i10, if_neg i10, if_neg (g107 ht), k107 ht]
  obtain ⟨S, hS⟩ := h
  have os : 4 * s + 3 < ml 13 := by rw [ml13']; omega
  rcases lacks_ok hS.2.2.2.2.1 ht a2 with ⟨p1, p2⟩ | ⟨p1, n, p3, p4, ⟨p5, p6⟩ | ⟨j, hj, rfl, p5, p6⟩⟩
  · rw [c_miss0 p1, p2, Option.bind_some, Option.bind_some, if_neg (show ¬ ((1 : Int32), σ).1 = 0 from i10), if_neg (show ¬ (0 : Int32) ≤ ((-1011 : Int32), μ).1 from (by decide : ¬ (0 : Int32) ≤ -1011))]
    exact ag_same ⟨S, hS⟩ _
  · rw [c_miss1 p1, p6, Option.bind_some, Option.bind_some, if_pos (show ((0 : Int32), σ).1 = 0 from rfl), p5, Option.bind_some, if_pos (show ((0 : Int32), σ).1 = 0 from rfl), if_neg (show ¬ (0 : Int32) ≤ ((-1012 : Int32), μ).1 from (by decide : ¬ (0 : Int32) ≤ -1012))]
    exact ag_same ⟨S, hS⟩ _
  · obtain ⟨v1, q1, m1⟩ := hS.1 s hs
    have gs : ¬ (nI s < 0 ∨ xl 102 ≤ (nI s).toNatClampNeg) := nI_in (by rw [xl102']; exact hs) (by decide)
    have ec : xb 102 + (nI s).toNatClampNeg = s := by rw [nI_clamp (by omega), xb102']; omega
    have e6 : (6 : Int32) * nI t + nI j = nI (6 * t + j) := by rw [show (6 : Int32) = nI 6 from rfl, nI_mulM, nI_add]
    have nrm : ∀ ν : QMem, ν 13 = μ 13 → fX12_norm (nI s) ν = some (qj (zN (S s)), ν) := by
      intro ν hν
      unfold fX12_norm
      rw [nI_mul4, m_norm (mAt_cell hν m1) os (Int.le_trans v1.2 (by decide))]
      rfl
    rw [c_miss1 p1, p6, Option.bind_some, Option.bind_some, if_pos (show ((0 : Int32), σ).1 = 0 from rfl), p5, Option.bind_some, if_neg (show ¬ ((1 : Int32), σ).1 = 0 from i10), if_neg gs, ec, c_norm q1 (Int.le_trans v1.2 (by decide)), Option.bind_some, c_store ht (by omega), Option.bind_some, if_pos (show (0 : Int32) ≤ ((0 : Int32), μ).1 from (by decide : (0 : Int32) ≤ 0)), nrm μ rfl, Option.bind_some, e6, ml27', if_neg (nI_in (show 6 * t + j < 18 by omega) (by decide)), nI_clamp (by omega), nrm _ (ms_cell _ (by decide) _ _), Option.bind_some]
    simp only
    have hN := hS.2.2.2.2.2.1
    refine ⟨_, _, _, rfl, rfl, S, RTa_upd hS ht (fun k k1 k2 k3 => ms_cell _ k2 _ _) (fun k k1 k2 k3 => ms_cell _ k2 _ _) (fun j _ => by rw [ms_cell _ (by decide)]) (fun j hj => by rw [ms_cell _ (by decide)]) (fun t2 ht2 j hj => ms_place _ _ (by omega) _) ?_ ⟨?_, fun i hi => ?_⟩⟩
    · rw [ms_cell _ (by omega), ms_cell _ (by decide)]; exact hN
    · rw [ms_cell _ (by omega), ms_cell _ (by decide)]; exact (hS.2.2.2.2.1 t ht).1
    · rw [ms_get, ms_get]
      by_cases hij : i = j
      · rw [if_pos ⟨rfl, hij⟩, if_pos ⟨rfl, by omega⟩]
      · rw [if_neg (fun z => hij z.2), if_neg (fun z => hij (by have := z.2; omega))]
        exact (hS.2.2.2.2.1 t ht).2 i hi
theorem ag_drop (σ μ : QMem) (a1 : Int32) (h : RR σ μ) : ∃ (r : Int32) (σ2 μ2 : QMem), fX11_drop a1 σ = some (r, σ2) ∧ fX12_drop a1 μ = some (r, μ2) ∧ RR σ2 μ2 := by
  unfold fX11_drop fX12_drop
  rcases tally_cases a1 with ⟨e1, e2⟩ | ⟨t, ht, rfl, e1, e2⟩
  · rw [e1, e2, Option.bind_some, Option.bind_some, if_pos rfl, if_pos rfl]; exact ag_same h _
  obtain ⟨S, hS⟩ := h
  have g26' : ¬ (nI t < 0 ∨ ml 26 ≤ t) := fun z => by rcases z with z | z; exact nI_pos (by omega) z; rw [ml26'] at z; omega
  rw [e1, e2, Option.bind_some, Option.bind_some, if_neg i10, if_neg i10, if_neg (g107 ht), k107 ht, if_neg (g26 ht), nI_clamp (by omega)]
  rcases (hS.2.2.2.2.1 t ht).1 with ⟨p1, p2, p3⟩ | ⟨n, p0, p1, p2, p3⟩
  · rw [c_miss0 p1, Option.bind_some, p3, if_neg (show ¬ ((1 : Int32), σ).1 = 0 from i10), if_neg (show ¬ (0 : Int32) ≤ -1 by decide)]
    exact ag_same ⟨S, hS⟩ _
  · unfold fX10_size fX10_discard
    have g107' : ¬ (nI t < 0 ∨ xl 107 ≤ t) := fun z => by rcases z with z | z; exact nI_pos (by omega) z; rw [xl107'] at z; omega
    rw [c_miss1 p1, Option.bind_some, p3, if_pos (show ((0 : Int32), σ).1 = 0 from rfl), if_neg g107', Option.bind_some, if_neg g107', Option.bind_some, if_pos (nI_pos' (by omega)), if_neg g26', if_neg g26']
    simp only
    rw [p2]
    have hN := hS.2.2.2.2.2.1
    refine ⟨_, _, _, rfl, rfl, S, RTa_upd hS ht (fun k k1 k2 k3 => by rw [ms_cell _ k1, ms_cell _ k1]) (fun k k1 k2 k3 => ms_cell _ k1 _ _) (fun j _ => by rw [ms_cell _ (by decide)]) (fun j hj => ms_place _ _ hj _) (fun t2 ht2 j hj => by rw [ms_cell _ (by decide)]) ?_ ⟨Or.inl ⟨?_, ms_same _ _ _ _, ms_same _ _ _ _⟩, fun i hi => ?_⟩⟩
    · rw [ms_cell _ (by omega), ms_cell _ (by omega), ms_cell _ (by decide)]; exact hN
    · rw [ms_place _ _ (by decide), ms_same]
    · rw [ms_cell _ (by omega), ms_cell _ (by omega), ms_cell _ (by decide)]
      exact (hS.2.2.2.2.1 t ht).2 i hi

/-! work -/
theorem calc_eq {w : Int32} {x y : Int64} (h : (w = 3 ∨ w = 4) → ¬ y = 0) : fX11_calculate w x y = fX12_worked w x y := by
  unfold fX11_calculate fX12_worked
  by_cases h0 : w = 0
  · rw [if_pos h0, if_pos h0]
  rw [if_neg h0, if_neg h0]
  by_cases h1 : w = 1
  · rw [if_pos h1, if_pos h1]
  rw [if_neg h1, if_neg h1]
  by_cases h2 : w = 2
  · rw [if_pos h2, if_pos h2]
  rw [if_neg h2, if_neg h2]
  by_cases h3 : w = 3
  · rw [if_pos h3, if_pos h3, if_neg (fun z => h (Or.inl h3) ((lg_cmp_eq _ _).mp z))]
  rw [if_neg h3, if_neg h3]
  by_cases h4 : w = 4
  · rw [if_pos h4, if_pos h4, if_neg (fun z => h (Or.inr h4) ((lg_cmp_eq _ _).mp z))]
  rw [if_neg h4, if_neg h4]
theorem worked_some {w : Int32} {x y : Int64} (h : (w = 3 ∨ w = 4) → ¬ y = 0) : ∃ v, fX12_worked w x y = some v := by
  unfold fX12_worked
  by_cases h0 : w = 0
  · rw [if_pos h0]; exact ⟨_, rfl⟩
  rw [if_neg h0]
  by_cases h1 : w = 1
  · rw [if_pos h1]; exact ⟨_, rfl⟩
  rw [if_neg h1]
  by_cases h2 : w = 2
  · rw [if_pos h2]; exact ⟨_, rfl⟩
  rw [if_neg h2]
  by_cases h3 : w = 3
  · rw [if_pos h3, if_neg (h (Or.inl h3))]; exact ⟨_, rfl⟩
  rw [if_neg h3]
  by_cases h4 : w = 4
  · rw [if_pos h4, if_neg (h (Or.inr h4))]; exact ⟨_, rfl⟩
  rw [if_neg h4]; exact ⟨_, rfl⟩
theorem i64_0 {x : Int32} (h : ¬ x = 0) : ¬ x.toInt64 = 0 := by
  intro z
  apply h
  rw [← Int32.toInt_inj]
  have := congrArg Int64.toInt z
  rw [Int32.toInt_toInt64] at this
  exact this
theorem in34 (p : Int32) : fX12_in p 3 4 = some (bI (decide (p = 3 ∨ p = 4))) := by
  unfold fX12_in
  have e3 : (3 : Int32).toInt = 3 := by decide
  have e4 : (4 : Int32).toInt = 4 := by decide
  have i3 : p = 3 ↔ p.toInt = 3 := by rw [← Int32.toInt_inj, e3]
  have i4 : p = 4 ↔ p.toInt = 4 := by rw [← Int32.toInt_inj, e4]
  by_cases h1 : p < 3
  · rw [if_pos h1, decide_eq_false (by rw [Int32.lt_iff_toInt_lt, e3] at h1; rw [i3, i4]; omega)]; rfl
  · rw [if_neg h1]
    by_cases h2 : 4 < p
    · rw [if_pos h2, decide_eq_false (by rw [Int32.lt_iff_toInt_lt, e4] at h2; rw [i3, i4]; omega)]; rfl
    · rw [if_neg h2, decide_eq_true (by rw [Int32.lt_iff_toInt_lt, e3] at h1; rw [Int32.lt_iff_toInt_lt, e4] at h2; rw [i3, i4]; omega)]; rfl
theorem ag_work (σ μ : QMem) (a1 a2 a3 a4 : Int32) (h : RR σ μ) : ∃ (r : Int32) (σ2 μ2 : QMem), fX11_work a1 a2 a3 a4 σ = some (r, σ2) ∧ fX12_work a1 a2 a3 a4 μ = some (r, μ2) ∧ RR σ2 μ2 := by
  unfold fX11_work fX12_work
  rcases tally_cases a1 with ⟨e1, e2⟩ | ⟨t, ht, rfl, e1, e2⟩
  · rw [e1, e2, Option.bind_some, Option.bind_some, if_pos rfl, if_pos rfl]; exact ag_same h _
  rw [e1, e2, Option.bind_some, Option.bind_some, if_neg i10, if_neg i10]
  have f5 : fX12_in a2 0 5 = if a2 < 0 then some 0 else if 5 < a2 then some 0 else some 1 := rfl
  rw [f5]
  by_cases w0 : a2 < 0
  · rw [if_pos w0, if_pos w0, Option.bind_some, if_pos rfl]; exact ag_same h _
  rw [if_neg w0, if_neg w0]
  by_cases w1 : 5 < a2
  · rw [if_pos w1, if_neg (fun z => by rw [Int32.lt_iff_toInt_lt] at w1; rw [Int32.le_iff_toInt_le] at z; omega), Option.bind_some, if_pos rfl]; exact ag_same h _
  rw [if_neg w1, if_pos (by rw [Int32.lt_iff_toInt_lt] at w1; rw [Int32.le_iff_toInt_le]; omega), Option.bind_some, if_neg i10, if_neg (g107 ht), k107 ht]
  obtain ⟨S, hS⟩ := h
  have hTa := hS.2.2.2.2.1
  have n11 : ¬ (0 : Int32) ≤ -1011 := by decide
  have n12 : ¬ (0 : Int32) ≤ -1012 := by decide
  have p00 : (0 : Int32) ≤ 0 := by decide
  rcases lacks_ok hTa ht a3 with ⟨p1, p2⟩ | ⟨p1, n, p3, p4, hi⟩
  · rw [c_miss0 p1, p2, Option.bind_some, Option.bind_some]
    simp only
    rw [if_neg i10, if_neg n11, p2, Option.bind_some]
    unfold fX12_work_J49
    simp only
    rw [if_neg n11]
    exact ag_same ⟨S, hS⟩ _
  rw [c_miss1 p1, Option.bind_some]
  simp only
  rw [if_pos trivial]
  rcases hi with ⟨p5, p6⟩ | ⟨i, hin, rfl, p5, p6⟩
  · rw [p5, p6, Option.bind_some, Option.bind_some]
    simp only
    rw [if_pos trivial, if_neg n12, p6, Option.bind_some]
    unfold fX12_work_J49
    simp only
    rw [if_neg n12]
    exact ag_same ⟨S, hS⟩ _
  rw [p5, p6, Option.bind_some, Option.bind_some]
  simp only
  rw [if_neg i10, if_pos p00]
  rcases lacks_ok hTa ht a4 with ⟨z1, -⟩ | ⟨-, n', z3, z4, hj⟩
  · exact absurd (z1.symm.trans p1) (by decide)
  have en : n' = n := (nI_eq (by omega) (by omega)).mp (z4.symm.trans p4)
  subst en
  rcases hj with ⟨p7, p8⟩ | ⟨j, hjn, rfl, p7, p8⟩
  · rw [p7, p8, Option.bind_some, Option.bind_some]
    unfold fX12_work_J49
    simp only
    rw [if_pos trivial, if_neg n12]
    exact ag_same ⟨S, hS⟩ _
  have e6 : ∀ j, (6 : Int32) * nI t + nI j = nI (6 * t + j) := fun j => by rw [show (6 : Int32) = nI 6 from rfl, nI_mulM, nI_add]
  have ej := (hTa t ht).2 j (by omega)
  have ei := (hTa t ht).2 i (by omega)
  rw [p7, p8, Option.bind_some, Option.bind_some]
  unfold fX12_work_J49
  simp only
  rw [if_neg i10, if_pos p00, c_at ht (by omega), Option.bind_some, e6, ml27', if_neg (nI_in (show 6 * t + j < 18 by omega) (by decide)), nI_clamp (by omega), in34, Option.bind_some]
  simp only [bI_0]
  rw [ej]
  generalize hb : μ 27 (6 * t + j) = b
  have J : ¬ ((a2 = 3 ∨ a2 = 4) ∧ b = 0) → ∃ (r : Int32) (σ2 μ2 : QMem), fX11_work_J95 (nI t) a2 (nI i) (nI j) (95 + t) b σ = some (r, σ2) ∧ fX12_work_J91 (nI t) a2 (nI i) (nI j) b μ = some (r, μ2) ∧ RR σ2 μ2 := by
    intro hz
    have hz2 : (a2 = 3 ∨ a2 = 4) → ¬ b.toInt64 = 0 := fun q => i64_0 (fun z => hz ⟨q, z⟩)
    unfold fX11_work_J95 fX12_work_J91
    rw [c_at ht (by omega), Option.bind_some, e6, ml27', if_neg (nI_in (show 6 * t + i < 18 by omega) (by decide)), nI_clamp (by omega)]
    simp only
    rw [ei, calc_eq hz2]
    obtain ⟨v, hv⟩ := worked_some (w := a2) (x := (μ 27 (6 * t + i)).toInt64) hz2
    rw [hv, Option.bind_some, Option.bind_some]
    by_cases hc : lg_cmp v v.toInt32.toInt64 = 0
    · rw [if_pos hc, if_pos hc, if_neg (show ¬ (nI (6 * t + i) < 0 ∨ 18 ≤ 6 * t + i) from fun z => by rcases z with z | z; exact nI_pos (by omega) z; omega), c_store ht (by omega), Option.bind_some, ms_same, ms_same]
      refine ⟨_, _, _, rfl, rfl, S, RTa_upd hS ht (fun k k1 k2 k3 => by rw [ms_cell _ k2, ms_cell _ k3]) (fun k k1 k2 k3 => by rw [ms_cell _ k2, ms_cell _ k3]) (fun j2 hj2 => by rw [ms_cell _ (by decide), ms_place _ _ hj2]) (fun j2 hj2 => by rw [ms_cell _ (by decide), ms_cell _ (by decide)]) (fun t2 ht2 j2 hj2 => by rw [ms_place _ _ (by omega), ms_cell _ (by decide)]) ?_ ⟨?_, fun i2 hi2 => ?_⟩⟩
      · rw [ms_cell _ (by omega), ms_same, ms_cell _ (by decide), ms_same]
      · rw [ms_cell _ (by omega), ms_cell _ (by omega), ms_cell _ (by decide), ms_cell _ (by decide)]
        exact (hTa t ht).1
      · by_cases hij : i2 = i
        · rw [hij, ms_same, ms_same]
        · rw [ms_place _ _ hij, ms_place _ _ (show ¬ 6 * t + i2 = 6 * t + i by omega), ms_cell _ (by omega), ms_cell _ (by decide)]
          exact (hTa t ht).2 i2 hi2
    · rw [if_neg hc, if_neg hc]
      exact ag_same ⟨S, hS⟩ _
  by_cases hb0 : b = 0
  · rw [if_pos hb0, if_pos hb0]
    by_cases h3 : a2 = 3
    · rw [if_pos h3, decide_eq_true (Or.inl h3), if_neg (by decide)]
      exact ag_same ⟨S, hS⟩ _
    · rw [if_neg h3]
      by_cases h4 : a2 = 4
      · rw [if_pos h4, decide_eq_true (Or.inr h4), if_neg (by decide)]
        exact ag_same ⟨S, hS⟩ _
      · rw [if_neg h4, decide_eq_false (fun z => by rcases z with z | z; exact h3 z; exact h4 z), if_pos rfl]
        exact J (fun z => by rcases z.1 with q | q; exact h3 q; exact h4 q)
  · rw [if_neg hb0, if_neg hb0]
    exact J (fun z => hb0 z.2)
