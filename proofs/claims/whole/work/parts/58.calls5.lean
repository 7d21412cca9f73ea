/-! THE CALLS: undo, keep, back, count, rank, turned -/
theorem gs6 {s : Nat} (hs : s < 6) : ¬ (nI s < 0 ∨ xl 102 ≤ (nI s).toNatClampNeg) := nI_in (by rw [xl102']; exact hs) (by decide)
theorem es6 {s : Nat} (hs : s < 6) : xb 102 + (nI s).toNatClampNeg = s := by rw [nI_clamp (by omega), xb102']; omega
/-- how many slots are not 0 -/
def cntZ (S : Nat → ZQ) : Nat → Nat
  | 0 => 0
  | n + 1 => cntZ S n + if S n = z0 then 0 else 1
theorem c_filled {σ : QMem} {S : Nat → ZQ} (h : ∀ s, s < 6 → qV (S s) ∧ qAt σ s (S s)) : fX11_filledSlots σ = some (nI (cntZ S 6), σ) := by
  have key : ∀ (m i n : Nat), i + m = 6 → m < n → fX11_filledSlots_L4 n (nI (cntZ S i)) (nI i) σ = some (nI (cntZ S 6), σ) := by
    intro m
    induction m with
    | zero =>
      intro i n hi hn
      obtain ⟨n, rfl⟩ : ∃ m, n = m + 1 := ⟨n - 1, by omega⟩
      have : i = 6 := by omega
      subst this
      rw [fX11_filledSlots_L4, if_pos (show (6 : Int32) ≤ nI 6 by decide)]
    | succ m ih =>
      intro i n hi hn
      obtain ⟨n, rfl⟩ : ∃ m, n = m + 1 := ⟨n - 1, by omega⟩
      have hi6 : i < 6 := by omega
      have c6 : ¬ (6 : Int32) ≤ nI i := nI_ge (b := 6) hi6 (by decide)
      obtain ⟨v, q⟩ := h i hi6
      rw [fX11_filledSlots_L4, if_neg c6, if_neg (gs6 hi6), es6 hi6, c_zero q (qV_S v), Option.bind_some]
      unfold fX11_filledSlots_J25
      simp only [bI_0]
      have e : cntZ S (i + 1) = cntZ S i + if S i = z0 then 0 else 1 := rfl
      have r := ih (i + 1) n (by omega) (by omega)
      rw [e] at r
      by_cases hz : S i = z0
      · rw [decide_eq_true hz, if_neg (by decide), show nI i + 1 = nI (i + 1) from nI_1 i]
        rw [if_pos hz] at r
        exact r
      · rw [decide_eq_false hz, if_pos rfl, show nI i + 1 = nI (i + 1) from nI_1 i, show nI (cntZ S i) + 1 = nI (cntZ S i + 1) from nI_1 _]
        rw [if_neg hz] at r
        exact r
  exact key 6 0 FU rfl (by unfold FU; omega)
theorem m_empty {μ : QMem} {s : Nat} {q : ZQ} (hs : s < 6) (v : qV q) (h : mAt μ 13 (4 * s) q) : fX12_isEmpty (nI s) μ = some (bI (decide (q = z0)), μ) := by
  unfold fX12_isEmpty
  rw [nI_mul4, m_nought h (show 4 * s + 3 < ml 13 by rw [ml13']; omega) (qV_S v), Option.bind_some]
  simp only [bI_01, not_true, if_false]
theorem m_filled {μ : QMem} {S : Nat → ZQ} (h : ∀ s, s < 6 → qV (S s) ∧ mAt μ 13 (4 * s) (S s)) : fX12_filled μ = some (nI (cntZ S 6), μ) := by
  have key : ∀ (m i n : Nat), i + m = 6 → m < n → fX12_filled_L4 n (nI (cntZ S i)) (nI i) μ = some (nI (cntZ S 6), μ) := by
    intro m
    induction m with
    | zero =>
      intro i n hi hn
      obtain ⟨n, rfl⟩ : ∃ m, n = m + 1 := ⟨n - 1, by omega⟩
      have : i = 6 := by omega
      subst this
      rw [fX12_filled_L4, if_pos (show (6 : Int32) ≤ nI 6 by decide)]
    | succ m ih =>
      intro i n hi hn
      obtain ⟨n, rfl⟩ : ∃ m, n = m + 1 := ⟨n - 1, by omega⟩
      have hi6 : i < 6 := by omega
      have c6 : ¬ (6 : Int32) ≤ nI i := nI_ge (b := 6) hi6 (by decide)
      obtain ⟨v, q⟩ := h i hi6
      rw [fX12_filled_L4, if_neg c6, m_empty hi6 v q, Option.bind_some]
      unfold fX12_filled_J24
      simp only [bI_0]
      have e : cntZ S (i + 1) = cntZ S i + if S i = z0 then 0 else 1 := rfl
      have r := ih (i + 1) n (by omega) (by omega)
      rw [e] at r
      by_cases hz : S i = z0
      · rw [decide_eq_true hz, if_neg (by decide), show nI i + 1 = nI (i + 1) from nI_1 i, show nI (cntZ S i) + 0 = nI (cntZ S i + 0) from nI_add _ 0]
        rw [if_pos hz] at r
        exact r
      · rw [decide_eq_false hz, if_pos rfl, show nI i + 1 = nI (i + 1) from nI_1 i, show nI (cntZ S i) + 1 = nI (cntZ S i + 1) from nI_1 _]
        rw [if_neg hz] at r
        exact r
  exact key 6 0 FU rfl (by unfold FU; omega)
/-! undo -/
theorem undo23 {c : Nat} (hc : c < 8) : ∀ (m i n : Nat) (τ : QMem), i + m = 24 → m < n → τ 28 15 = nI c → ∃ τ2, fX12_undo_L23 n (nI i) τ = some (nI c, τ2) ∧ (∀ k, ¬ k = 13 → τ2 k = τ k) ∧ ∀ j, τ2 13 j = if i ≤ j ∧ j < 24 then τ 14 (24 * c + j) else τ 13 j := by
  have m14 : ml 14 = 192 := rfl
  intro m
  induction m with
  | zero =>
    intro i n τ hi hn h15
    obtain ⟨n, rfl⟩ : ∃ m, n = m + 1 := ⟨n - 1, by omega⟩
    have : i = 24 := by omega
    subst this
    rw [fX12_undo_L23]
    simp (disch := omega) only [Option.bind_some, i32_lit2, nI_add, nI_mulM, cI, nI_ltT, nI_ltF, nI_leT, nI_leF, nI_eqF, nat_leF, or_self, or_false, false_or, if_true, if_false, not_true, not_false, bI_n0, bI_n1, b_em, eq_self, h15]
    exact ⟨τ, rfl, fun _ _ => rfl, fun j => by rw [if_neg (by omega)]⟩
  | succ m ih =>
    intro i n τ hi hn h15
    obtain ⟨n, rfl⟩ : ∃ m, n = m + 1 := ⟨n - 1, by omega⟩
    rw [fX12_undo_L23]
    simp (disch := omega) only [Option.bind_some, i32_lit2, nI_add, nI_mulM, cI, nI_ltT, nI_ltF, nI_leT, nI_leF, nI_eqF, nat_leF, or_self, or_false, false_or, if_true, if_false, not_true, not_false, bI_n0, bI_n1, b_em, eq_self, h15, ml13', m14]
    obtain ⟨τ2, t1, t2, t3⟩ := ih (i + 1) n (ms τ 13 i (τ 14 (24 * c + i))) (by omega) (by omega) (by rw [ms_cell _ (by decide)]; exact h15)
    refine ⟨τ2, t1, fun k hk => by rw [t2 k hk, ms_cell _ hk], fun j => ?_⟩
    rw [t3 j, ms_cell _ (by decide), ms_get]
    by_cases h1 : i + 1 ≤ j ∧ j < 24
    · rw [if_pos h1, if_pos (by omega)]
    · rw [if_neg h1]
      by_cases h2 : j = i
      · rw [if_pos ⟨rfl, h2⟩, if_pos (by omega), h2]
      · rw [if_neg (fun z => h2 z.2), if_neg (by omega)]
theorem ag_undo (σ μ : QMem) (h : RR σ μ) : ∃ (r : Int32) (σ2 μ2 : QMem), fX11_undo σ = some (r, σ2) ∧ fX12_undo μ = some (r, μ2) ∧ RR σ2 μ2 := by
  obtain ⟨S, hR⟩ := h
  have hR' := hR
  obtain ⟨hS, ⟨c, b, T, c1, c2, c3, c4, c5, c6, c7⟩, hK, hT, hTa, hN, hB⟩ := hR
  unfold fX11_undo fX12_undo fX4_size
  rw [c3, c5, Option.bind_some]
  simp only
  by_cases hc : c = 0
  · subst hc
    rw [if_pos (show nI 0 = 0 from rfl), if_pos (show nI 0 = 0 from rfl)]
    exact ag_same ⟨S, hR'⟩ _
  · have n0 : ¬ nI c = 0 := fun e => hc ((nI_eq (b := 0) (by omega) (by decide)).mp e)
    have p0 : 0 < nI c := nI_lt (a := 0) (by omega) (by omega)
    have em : nI c - 1 = nI (c - 1) := by
      have : c = (c - 1) + 1 := by omega
      rw [this, nI_pred]
      congr 1
    obtain ⟨w1, p, w2, w3, w4, w5⟩ := c7 (c - 1) (by omega)
    generalize hat : (b + (c - 1)) % 8 = at' at w3 w4
    have hat8 : at' < 8 := by omega
    have x82 : xl 82 = 8 := rfl
    have x103 : xl 103 = 8 := rfl
    have b103 : xb 103 = 18 := rfl
    have pslot : fX11_isSlot (nI p) = some 1 := by
      rcases slot_cases (nI p) with ⟨z, -⟩ | ⟨j, -, -, z, -⟩
      · unfold fX11_isSlot at z
        simp (disch := omega) only [Option.bind_some, i32_lit2, nI_add, nI_mulM, cI, nI_ltT, nI_ltF, nI_leT, nI_leF, nI_eqF, nat_leF, or_self, or_false, false_or, if_true, if_false, not_true, not_false, bI_n0, bI_n1, b_em, eq_self] at z
        exact absurd z (by decide)
      · exact z
    generalize hσ1 : ms σ 108 3 (nI (c - 1)) = σ1
    have s1 : ∀ k, ¬ k = 108 → σ1 k = σ k := fun k hk => by rw [← hσ1, ms_cell _ hk]
    have s13 : σ1 108 3 = nI (c - 1) := by rw [← hσ1, ms_same]
    have s12 : σ1 108 2 = nI b := by rw [← hσ1, ms_place _ _ (by decide)]; exact c4
    have q18 : qAt σ1 (18 + at') (T (c - 1) p) := by unfold qAt; rw [s1 _ (by omega)]; exact w4
    have take : fX4_takeLast 34 σ = some (nI p, qPut σ1 34 (T (c - 1) p)) := by
      unfold fX4_takeLast
      rw [c3, em, hσ1, s12, s13, nI_add, if_pos p0, qfm8 (by omega), hat, x103, b103, if_neg (nI_in hat8 (by decide)), nI_clamp (by omega), c_copy 34 q18, Option.bind_some, x82, if_neg (fun z => by rcases z with z | z; exact nI_pos (by omega) z; omega), qPut_ne _ _ (by decide), s1 82 (by decide), w3]
    rw [if_neg n0, if_neg n0, take, Option.bind_some]
    simp only
    rw [pslot, Option.bind_some, if_neg i10, if_neg (gs6 w2), es6 w2, c_copy p (qPut_at σ1 34 (T (c - 1) p)), Option.bind_some, em]
    unfold fX11_undo_J46 fX4_size
    obtain ⟨ν, n1, n2, n3⟩ := undo23 (c := c - 1) (by omega) 24 0 FU (ms μ 28 15 (nI (c - 1))) rfl (by unfold FU; omega) (ms_same _ _ _ _)
    rw [show (0 : Int32) = nI 0 from rfl, n1, Option.bind_some]
    have X : ∀ k, ¬ k = 108 → ¬ k = 34 → ¬ k = p → qPut (qPut σ1 34 (T (c - 1) p)) p (T (c - 1) p) k = σ k := fun k k1 k2 k3 => by rw [qPut_ne _ _ k3, qPut_ne _ _ k2, s1 k k1]
    have X108 : ∀ j, qPut (qPut σ1 34 (T (c - 1) p)) p (T (c - 1) p) 108 j = σ1 108 j := fun j => by rw [qPut_ne _ _ (by omega), qPut_ne _ _ (by decide)]
    rw [X108, s13]
    have M : ∀ k, ¬ k = 13 → ¬ k = 28 → ν k = μ k := fun k k1 k2 => by rw [n2 k k1, ms_cell _ k2]
    have M28 : ∀ j, ¬ j = 15 → ν 28 j = μ 28 j := fun j hj => by rw [n2 28 (by decide), ms_place _ _ hj]
    refine ⟨nI (c - 1), qPut (qPut σ1 34 (T (c - 1) p)) p (T (c - 1) p), ν, rfl, rfl, T (c - 1), ?_, ?_, ?_, ?_, ?_, ?_, ?_⟩
    · intro s hs
      refine ⟨(w1 s hs).1, ?_, ?_⟩
      · by_cases e : s = p
        · rw [e]; exact qPut_at _ _ _
        · unfold qAt
          rw [X s (by omega) (by omega) e]
          have e2 := w5 s hs e
          rw [show c - 1 + 1 = c by omega, c6 s hs] at e2
          rw [e2]
          exact (hS s hs).2.1
      · obtain ⟨u1, u2, u3, u4⟩ := (w1 s hs).2
        have w : ∀ r, r < 4 → ν 13 (4 * s + r) = μ 14 (24 * (c - 1) + 4 * s + r) := fun r hr => by
          rw [n3, if_pos (by omega), ms_cell _ (by decide), Nat.add_assoc]
        exact ⟨(w 0 (by decide)).trans u1, (w 1 (by decide)).trans u2, (w 2 (by decide)).trans u3, (w 3 (by decide)).trans u4⟩
    · refine ⟨c - 1, b, T, by omega, c2, by rw [X108, s13], by rw [X108, s12], by rw [n2 28 (by decide), ms_same], fun s hs => rfl, fun i hi => ?_⟩
      obtain ⟨y1, p2, y2, y3, y4, y5⟩ := c7 i (by omega)
      refine ⟨fun s hs => ⟨(y1 s hs).1, mAt_cell (M 14 (by decide) (by decide)) (y1 s hs).2⟩, p2, y2, by rw [X 82 (by decide) (by decide) (by omega)]; exact y3, ?_, y5⟩
      unfold qAt
      rw [X _ (by omega) (by omega) (by omega)]
      exact y4
    · exact RK_of hK (fun k _ _ => X k (by omega) (by omega) (by omega)) (fun k _ => X _ (by omega) (by omega) (by omega)) (M 15 (by decide) (by decide)) (M 16 (by decide) (by decide))
    · exact RT_of hT (by rw [X 109 (by decide) (by decide) (by omega)]) (X 83 (by decide) (by decide) (by omega)) (M28 26 (by decide)) (M 23 (by decide) (by decide))
    · exact RTa_of hTa (fun t _ => X _ (by omega) (by omega) (by omega)) (fun t _ => X _ (by omega) (by omega) (by omega)) (M 26 (by decide) (by decide)) (M 27 (by decide) (by decide))
    · unfold RN
      rw [X 105 (by decide) (by decide) (by omega), M28 33 (by decide)]
      exact hN
    · exact RB_of hB (M 1 (by decide) (by decide)) (M 0 (by decide) (by decide)) (X 85 (by decide) (by decide) (by omega))
/-! keep, back -/
theorem c_cpl {k : Nat} (hk : k < 2) (S : Nat → ZQ) : ∀ (m i n : Nat) (τ : QMem), i + m = 6 → m < n → (∀ s, s < 6 → qAt τ s (S s)) → ∃ τ2, fX9_store_L2 (98 + k) 102 n (nI i) τ = some τ2 ∧ (∀ c, ¬ (6 + 6 * k ≤ c ∧ c < 12 + 6 * k) → ¬ c = 98 + k → τ2 c = τ c) ∧ τ2 (98 + k) 1 = 1 ∧ (∀ s, s < 6 → i ≤ s → qAt τ2 (6 + 6 * k + s) (S s)) ∧ ∀ s, s < i → τ2 (6 + 6 * k + s) = τ (6 + 6 * k + s) := by
  have xk2 : xl (98 + k + 2) = 6 := by
    have : k = 0 ∨ k = 1 := by omega
    rcases this with rfl | rfl <;> rfl
  have bk2 : xb (98 + k + 2) = 6 + 6 * k := by
    have : k = 0 ∨ k = 1 := by omega
    rcases this with rfl | rfl <;> rfl
  intro m
  induction m with
  | zero =>
    intro i n τ hi hn hS
    obtain ⟨n, rfl⟩ : ∃ m, n = m + 1 := ⟨n - 1, by omega⟩
    have : i = 6 := by omega
    subst this
    rw [fX9_store_L2, xk2, if_pos (show Int32.ofNat 6 ≤ nI 6 by decide)]
    unfold fX9_store_J35
    exact ⟨_, rfl, fun c _ hc => ms_cell _ hc _ _, ms_same _ _ _ _, fun s h1 h2 => by omega, fun s hs => ms_cell _ (by omega) _ _⟩
  | succ m ih =>
    intro i n τ hi hn hS
    obtain ⟨n, rfl⟩ : ∃ m, n = m + 1 := ⟨n - 1, by omega⟩
    have hi6 : i < 6 := by omega
    have c6 : ¬ Int32.ofNat 6 ≤ nI i := nI_ge (b := 6) hi6 (by decide)
    have gk : ¬ (nI i < 0 ∨ xl (98 + k + 2) ≤ (nI i).toNatClampNeg) := nI_in (by rw [xk2]; exact hi6) (by rw [xk2]; decide)
    rw [fX9_store_L2, if_neg (by rw [xk2]; exact c6), xl102', if_neg c6, if_neg gk, if_neg (nI_in hi6 (by decide)), bk2, nI_clamp (by omega), xb102', Nat.zero_add, c_copy _ (hS i hi6), Option.bind_some, show nI i + 1 = nI (i + 1) from nI_1 i]
    obtain ⟨τ2, t1, t2, t3, t4, t5⟩ := ih (i + 1) n (qPut τ (6 + 6 * k + i) (S i)) (by omega) (by omega) (fun s hs => qAt_ne (by omega) (hS s hs))
    refine ⟨τ2, t1, fun c h1 h2 => by rw [t2 c h1 h2, qPut_ne _ _ (by omega)], t3, fun s h1 h2 => ?_, fun s hs => ?_⟩
    · by_cases e : s = i
      · unfold qAt
        rw [t5 s (by omega), e]
        exact qPut_at _ _ _
      · exact t4 s h1 (by omega)
    · rw [t5 s (by omega), qPut_ne _ _ (by omega)]
theorem c_cpr {k : Nat} (hk : k < 2) (K : Nat → ZQ) : ∀ (m i n : Nat) (τ : QMem), i + m = 6 → m < n → (∀ s, s < 6 → qAt τ (6 + 6 * k + s) (K s)) → ∃ τ2, fX9_restore_L2 (98 + k) 102 n (nI i) τ = some τ2 ∧ (∀ c, ¬ c < 6 → τ2 c = τ c) ∧ (∀ s, s < 6 → i ≤ s → qAt τ2 s (K s)) ∧ ∀ s, s < i → τ2 s = τ s := by
  have xk2 : xl (98 + k + 2) = 6 := by
    have : k = 0 ∨ k = 1 := by omega
    rcases this with rfl | rfl <;> rfl
  have bk2 : xb (98 + k + 2) = 6 + 6 * k := by
    have : k = 0 ∨ k = 1 := by omega
    rcases this with rfl | rfl <;> rfl
  intro m
  induction m with
  | zero =>
    intro i n τ hi hn hS
    obtain ⟨n, rfl⟩ : ∃ m, n = m + 1 := ⟨n - 1, by omega⟩
    have : i = 6 := by omega
    subst this
    rw [fX9_restore_L2, xk2, if_pos (show Int32.ofNat 6 ≤ nI 6 by decide)]
    exact ⟨_, rfl, fun _ _ => rfl, fun s h1 h2 => by omega, fun _ _ => rfl⟩
  | succ m ih =>
    intro i n τ hi hn hS
    obtain ⟨n, rfl⟩ : ∃ m, n = m + 1 := ⟨n - 1, by omega⟩
    have hi6 : i < 6 := by omega
    have c6 : ¬ Int32.ofNat 6 ≤ nI i := nI_ge (b := 6) hi6 (by decide)
    have gk : ¬ (nI i < 0 ∨ xl (98 + k + 2) ≤ (nI i).toNatClampNeg) := nI_in (by rw [xk2]; exact hi6) (by rw [xk2]; decide)
    rw [fX9_restore_L2, if_neg (by rw [xk2]; exact c6), xl102', if_neg c6, if_neg (nI_in hi6 (by decide)), if_neg gk, bk2, nI_clamp (by omega), xb102', Nat.zero_add, c_copy _ (hS i hi6), Option.bind_some, show nI i + 1 = nI (i + 1) from nI_1 i]
    obtain ⟨τ2, t1, t2, t4, t5⟩ := ih (i + 1) n (qPut τ i (K i)) (by omega) (by omega) (fun s hs => qAt_ne (by omega) (hS s hs))
    refine ⟨τ2, t1, fun c h1 => by rw [t2 c h1, qPut_ne _ _ (by omega)], fun s h1 h2 => ?_, fun s hs => ?_⟩
    · by_cases e : s = i
      · unfold qAt
        rw [t5 s (by omega), e]
        exact qPut_at _ _ _
      · exact t4 s h1 (by omega)
    · rw [t5 s (by omega), qPut_ne _ _ (by omega)]
theorem keep22 {c : Nat} (hc : c < 2) : ∀ (m i n : Nat) (τ : QMem), i + m = 24 → m < n → ∃ τ2, fX12_keep_L22 (nI c) n (nI i) τ = ((fX12_filled τ2).bind fun xq2 => (some (xq2.1, xq2.2))) ∧ (∀ k, ¬ k = 16 → τ2 k = τ k) ∧ ∀ j, τ2 16 j = if 24 * c + i ≤ j ∧ j < 24 * c + 24 then τ 13 (j - 24 * c) else τ 16 j := by
  have m16 : ml 16 = 48 := rfl
  intro m
  induction m with
  | zero =>
    intro i n τ hi hn
    obtain ⟨n, rfl⟩ : ∃ m, n = m + 1 := ⟨n - 1, by omega⟩
    have : i = 24 := by omega
    subst this
    rw [fX12_keep_L22, if_pos (show (24 : Int32) ≤ nI 24 by decide)]
    exact ⟨τ, rfl, fun _ _ => rfl, fun j => by rw [if_neg (by omega)]⟩
  | succ m ih =>
    intro i n τ hi hn
    obtain ⟨n, rfl⟩ : ∃ m, n = m + 1 := ⟨n - 1, by omega⟩
    have c24 : ¬ (24 : Int32) ≤ nI i := nI_ge (b := 24) (by omega) (by decide)
    rw [fX12_keep_L22, if_neg c24]
    simp (disch := omega) only [Option.bind_some, i32_lit2, nI_add, nI_mulM, cI, nI_ltT, nI_ltF, nI_leT, nI_leF, nI_eqF, nat_leF, or_self, or_false, false_or, if_true, if_false, not_true, not_false, bI_n0, bI_n1, b_em, eq_self, ml13', m16]
    obtain ⟨τ2, t1, t2, t3⟩ := ih (i + 1) n (ms τ 16 (24 * c + i) (τ 13 i)) (by omega) (by omega)
    refine ⟨τ2, t1, fun k hk => by rw [t2 k hk, ms_cell _ hk], fun j => ?_⟩
    rw [t3 j, ms_cell _ (by decide), ms_get]
    by_cases h1 : 24 * c + (i + 1) ≤ j ∧ j < 24 * c + 24
    · rw [if_pos h1, if_pos (by omega)]
    · rw [if_neg h1]
      by_cases h2 : j = 24 * c + i
      · rw [if_pos ⟨rfl, h2⟩, if_pos (by omega), h2, show 24 * c + i - 24 * c = i by omega]
      · rw [if_neg (fun z => h2 z.2), if_neg (by omega)]
theorem back28 {c : Nat} (hc : c < 2) : ∀ (m i n : Nat) (τ : QMem), i + m = 24 → m < n → ∃ τ2, fX12_back_L28 (nI c) n (nI i) τ = ((fX12_filled (ms τ2 28 15 0)).bind fun xq2 => (some (xq2.1, xq2.2))) ∧ (∀ k, ¬ k = 13 → τ2 k = τ k) ∧ ∀ j, τ2 13 j = if i ≤ j ∧ j < 24 then τ 16 (24 * c + j) else τ 13 j := by
  have m16 : ml 16 = 48 := rfl
  intro m
  induction m with
  | zero =>
    intro i n τ hi hn
    obtain ⟨n, rfl⟩ : ∃ m, n = m + 1 := ⟨n - 1, by omega⟩
    have : i = 24 := by omega
    subst this
    rw [fX12_back_L28, if_pos (show (24 : Int32) ≤ nI 24 by decide)]
    exact ⟨τ, rfl, fun _ _ => rfl, fun j => by rw [if_neg (by omega)]⟩
  | succ m ih =>
    intro i n τ hi hn
    obtain ⟨n, rfl⟩ : ∃ m, n = m + 1 := ⟨n - 1, by omega⟩
    have c24 : ¬ (24 : Int32) ≤ nI i := nI_ge (b := 24) (by omega) (by decide)
    rw [fX12_back_L28, if_neg c24]
    simp (disch := omega) only [Option.bind_some, i32_lit2, nI_add, nI_mulM, cI, nI_ltT, nI_ltF, nI_leT, nI_leF, nI_eqF, nat_leF, or_self, or_false, false_or, if_true, if_false, not_true, not_false, bI_n0, bI_n1, b_em, eq_self, ml13', m16]
    obtain ⟨τ2, t1, t2, t3⟩ := ih (i + 1) n (ms τ 13 i (τ 16 (24 * c + i))) (by omega) (by omega)
    refine ⟨τ2, t1, fun k hk => by rw [t2 k hk, ms_cell _ hk], fun j => ?_⟩
    rw [t3 j, ms_cell _ (by decide), ms_get]
    by_cases h1 : i + 1 ≤ j ∧ j < 24
    · rw [if_pos h1, if_pos (by omega)]
    · rw [if_neg h1]
      by_cases h2 : j = i
      · rw [if_pos ⟨rfl, h2⟩, if_pos (by omega), h2]
      · rw [if_neg (fun z => h2 z.2), if_neg (by omega)]
theorem ag_keep (σ μ : QMem) (a1 : Int32) (h : RR σ μ) : ∃ (r : Int32) (σ2 μ2 : QMem), fX11_keep a1 σ = some (r, σ2) ∧ fX12_keep a1 μ = some (r, μ2) ∧ RR σ2 μ2 := by
  unfold fX11_keep fX12_keep
  rw [show (1 : Int32) = nI 1 from rfl, pin a1 1 (by decide), Option.bind_some]
  simp only [bI_0]
  rcases p_cases a1 2 (by decide) with h0 | ⟨k, hk, rfl⟩
  · rw [decide_eq_false (show ¬ (0 ≤ a1.toInt ∧ a1.toInt ≤ ((1 : Nat) : Int)) by omega), if_pos rfl]
    by_cases hn : a1 < 0
    · rw [if_pos hn]; exact ag_same h _
    · have n2 : ¬ a1 < 2 := fun z => by
        rw [i_neg] at hn
        rw [Int32.lt_iff_toInt_lt] at z
        have : (2 : Int32).toInt = 2 := by decide
        omega
      rw [if_neg hn, if_neg n2]
      exact ag_same h _
  · have g15 : ¬ (nI k < 0 ∨ ml 15 ≤ (nI k).toNatClampNeg) := nI_in (by rw [ml15']; exact hk) (by decide)
    have g106 : ¬ (nI k < 0 ∨ xl 106 ≤ (nI k).toNatClampNeg) := nI_in (by rw [xl106']; exact hk) (by decide)
    have k2 : nI k < (2 : Int32) := nI_lt (b := 2) hk (by decide)
    obtain ⟨S, hS, hP, hK, hT, hTa, hN, hB⟩ := h
    rw [decide_eq_true (show 0 ≤ (nI k).toInt ∧ (nI k).toInt ≤ ((1 : Nat) : Int) by rw [nI_toInt (by omega)]; omega), if_neg (show ¬ (true = false) by decide), if_neg (show ¬ nI k < 0 from nI_pos (by omega)), if_pos k2, if_neg g106, if_neg g15, nI_clamp (by omega), xb106']
    unfold fX9_store
    obtain ⟨τ, t1, t2, t3, t4, t5⟩ := c_cpl hk S 6 0 FU σ rfl (by unfold FU; omega) (fun s hs => (hS s hs).2.1)
    obtain ⟨ν, n1, n2, n3⟩ := keep22 hk 24 0 FU (ms μ 15 k (nI 1)) rfl (by unfold FU; omega)
    have sl : ∀ s, s < 6 → qV (S s) ∧ qAt τ s (S s) := fun s hs => ⟨(hS s hs).1, by unfold qAt; rw [t2 s (by omega) (by omega)]; exact (hS s hs).2.1⟩
    have n13 : ν 13 = μ 13 := by rw [n2 13 (by decide), ms_cell _ (by decide)]
    have mm : ∀ s, s < 6 → qV (S s) ∧ mAt ν 13 (4 * s) (S s) := fun s hs => ⟨(hS s hs).1, mAt_cell n13 (hS s hs).2.2⟩
    rw [show (0 : Int32) = nI 0 from rfl, t1, n1, Option.bind_some, c_filled sl, m_filled mm, Option.bind_some, Option.bind_some]
    have M : ∀ c, ¬ c = 15 → ¬ c = 16 → ν c = μ c := fun c h1 h2 => by rw [n2 c h2, ms_cell _ h1]
    refine ⟨nI (cntZ S 6), τ, ν, rfl, rfl, S, fun s hs => ⟨(sl s hs).1, (sl s hs).2, (mm s hs).2⟩, ?_, ?_, ?_, ?_, ?_, ?_⟩
    · exact RPa_of hP (fun c _ _ => t2 c (by omega) (by omega)) (t2 82 (by omega) (by omega)) (t2 108 (by omega) (by omega)) (M 14 (by decide) (by decide)) (by rw [M 28 (by decide) (by decide)])
    · intro k3 hk3
      by_cases e : k3 = k
      · subst e
        refine Or.inr ⟨t3, by rw [n2 15 (by decide), ms_same]; rfl, S, fun s hs => ⟨(hS s hs).1, t4 s hs (by omega), ?_⟩⟩
        obtain ⟨u1, u2, u3, u4⟩ := (hS s hs).2.2
        have w : ∀ r, r < 4 → ν 16 (24 * k3 + 4 * s + r) = μ 13 (4 * s + r) := fun r hr => by
          rw [n3, if_pos (by omega), ms_cell _ (by decide), show 24 * k3 + 4 * s + r - 24 * k3 = 4 * s + r by omega]
        exact ⟨(w 0 (by decide)).trans u1, (w 1 (by decide)).trans u2, (w 2 (by decide)).trans u3, (w 3 (by decide)).trans u4⟩
      · rw [t2 (98 + k3) (by omega) (by omega), n2 15 (by decide), ms_place _ _ e]
        rcases hK k3 hk3 with z | ⟨z1, z2, K, z3⟩
        · exact Or.inl z
        · refine Or.inr ⟨z1, z2, K, fun s hs => ⟨(z3 s hs).1, ?_, ?_⟩⟩
          · unfold qAt
            rw [t2 (6 + 6 * k3 + s) (by omega) (by omega)]
            exact (z3 s hs).2.1
          · obtain ⟨u1, u2, u3, u4⟩ := (z3 s hs).2.2
            have w : ∀ r, r < 4 → ν 16 (24 * k3 + 4 * s + r) = μ 16 (24 * k3 + 4 * s + r) := fun r hr => by
              rw [n3, if_neg (by omega), ms_cell _ (by decide)]
            exact ⟨(w 0 (by decide)).trans u1, (w 1 (by decide)).trans u2, (w 2 (by decide)).trans u3, (w 3 (by decide)).trans u4⟩
    · exact RT_of hT (by rw [t2 109 (by omega) (by omega)]) (t2 83 (by omega) (by omega)) (by rw [M 28 (by decide) (by decide)]) (M 23 (by decide) (by decide))
    · exact RTa_of hTa (fun t _ => t2 _ (by omega) (by omega)) (fun t _ => t2 _ (by omega) (by omega)) (M 26 (by decide) (by decide)) (M 27 (by decide) (by decide))
    · unfold RN
      rw [t2 105 (by omega) (by omega), M 28 (by decide) (by decide)]
      exact hN
    · exact RB_of hB (M 1 (by decide) (by decide)) (M 0 (by decide) (by decide)) (t2 85 (by omega) (by omega))
theorem ag_back (σ μ : QMem) (a1 : Int32) (h : RR σ μ) : ∃ (r : Int32) (σ2 μ2 : QMem), fX11_back a1 σ = some (r, σ2) ∧ fX12_back a1 μ = some (r, μ2) ∧ RR σ2 μ2 := by
  unfold fX11_back fX12_back
  rw [show (1 : Int32) = nI 1 from rfl, pin a1 1 (by decide), Option.bind_some]
  simp only [bI_0]
  rcases p_cases a1 2 (by decide) with h0 | ⟨k, hk, rfl⟩
  · rw [decide_eq_false (show ¬ (0 ≤ a1.toInt ∧ a1.toInt ≤ ((1 : Nat) : Int)) by omega), if_pos rfl]
    by_cases hn : a1 < 0
    · rw [if_pos hn]; exact ag_same h _
    · have n2 : ¬ a1 < 2 := fun z => by
        rw [i_neg] at hn
        rw [Int32.lt_iff_toInt_lt] at z
        have : (2 : Int32).toInt = 2 := by decide
        omega
      rw [if_neg hn, if_neg n2]
      exact ag_same h _
  · have g15 : ¬ (nI k < 0 ∨ ml 15 ≤ (nI k).toNatClampNeg) := nI_in (by rw [ml15']; exact hk) (by decide)
    have g106 : ¬ (nI k < 0 ∨ xl 106 ≤ (nI k).toNatClampNeg) := nI_in (by rw [xl106']; exact hk) (by decide)
    have k2 : nI k < (2 : Int32) := nI_lt (b := 2) hk (by decide)
    have ek : xb 106 + (nI k).toNatClampNeg = 98 + k := by rw [nI_clamp (by omega), xb106']
    obtain ⟨S, hR⟩ := h
    have hR' := hR
    obtain ⟨hS, hP, hK, hT, hTa, hN, hB⟩ := hR
    rw [decide_eq_true (show 0 ≤ (nI k).toInt ∧ (nI k).toInt ≤ ((1 : Nat) : Int) by rw [nI_toInt (by omega)]; omega), if_neg (show ¬ (true = false) by decide), if_neg (show ¬ nI k < 0 from nI_pos (by omega)), if_pos k2, if_neg g106, if_neg g15, ek, show (nI k).toNatClampNeg = k from nI_clamp (by omega)]
    unfold fX9_isStored
    rcases hK k hk with ⟨z1, z2⟩ | ⟨z1, z2, K, z3⟩
    · rw [z1, z2, if_neg (show ¬ ¬ ((0 : Int32) = 0 ∨ (0 : Int32) = 1) by decide), Option.bind_some]
      simp only
      rw [if_pos trivial, if_pos trivial]
      exact ag_same ⟨S, hR'⟩ _
    · rw [z1, z2, if_neg (show ¬ ¬ ((1 : Int32) = 0 ∨ (1 : Int32) = 1) by decide), Option.bind_some]
      simp only
      rw [if_neg i10, if_neg i10, if_neg (show ¬ (nI k < 0 ∨ xl 106 ≤ k) from fun z => by rcases z with z | z; exact nI_pos (by omega) z; rw [xl106'] at z; omega)]
      unfold fX9_restore fX4_clear
      obtain ⟨τ, t1, t2, t4, t5⟩ := c_cpr hk K 6 0 FU σ rfl (by unfold FU; omega) (fun s hs => (z3 s hs).2.1)
      obtain ⟨ν, n1, n2, n3⟩ := back28 hk 24 0 FU μ rfl (by unfold FU; omega)
      rw [show (0 : Int32) = nI 0 from rfl, t1, n1, Option.bind_some, Option.bind_some]
      have sl : ∀ s, s < 6 → qV (K s) ∧ qAt (ms τ 108 3 (nI 0)) s (K s) := fun s hs => ⟨(z3 s hs).1, by unfold qAt; rw [ms_cell _ (by omega)]; exact t4 s hs (by omega)⟩
      have mm : ∀ s, s < 6 → qV (K s) ∧ mAt (ms ν 28 15 0) 13 (4 * s) (K s) := fun s hs => ⟨(z3 s hs).1, by
        obtain ⟨u1, u2, u3, u4⟩ := (z3 s hs).2.2
        have w : ∀ r, r < 4 → ms ν 28 15 0 13 (4 * s + r) = μ 16 (24 * k + 4 * s + r) := fun r hr => by
          rw [ms_cell _ (by decide), n3, if_pos (by omega), Nat.add_assoc]
        exact ⟨(w 0 (by decide)).trans u1, (w 1 (by decide)).trans u2, (w 2 (by decide)).trans u3, (w 3 (by decide)).trans u4⟩⟩
      rw [c_filled sl, m_filled mm, Option.bind_some, Option.bind_some]
      have X : ∀ c, ¬ c < 6 → ¬ c = 108 → ms τ 108 3 (nI 0) c = σ c := fun c h1 h2 => by rw [ms_cell _ h2, t2 c h1]
      have M : ∀ c, ¬ c = 13 → ¬ c = 28 → ms ν 28 15 0 c = μ c := fun c h1 h2 => by rw [ms_cell _ h2, n2 c h1]
      have M28 : ∀ j, ¬ j = 15 → ms ν 28 15 0 28 j = μ 28 j := fun j hj => by rw [ms_place _ _ hj, n2 28 (by decide)]
      refine ⟨nI (cntZ K 6), ms τ 108 3 (nI 0), ms ν 28 15 0, rfl, rfl, K, fun s hs => ⟨(sl s hs).1, (sl s hs).2, (mm s hs).2⟩, ?_, ?_, ?_, ?_, ?_, ?_⟩
      · obtain ⟨c, b, T, c1, c2, c3, c4, -⟩ := hP
        exact ⟨0, b, fun _ => K, by decide, c2, ms_same _ _ _ _, by rw [ms_place _ _ (by decide), t2 108 (by decide)]; exact c4, ms_same _ _ _ _, fun s hs => rfl, fun i hi => by omega⟩
      · exact RK_of hK (fun c _ _ => X c (by omega) (by omega)) (fun c _ => X _ (by omega) (by omega)) (M 15 (by decide) (by decide)) (M 16 (by decide) (by decide))
      · exact RT_of hT (by rw [X 109 (by decide) (by decide)]) (X 83 (by decide) (by decide)) (M28 26 (by decide)) (M 23 (by decide) (by decide))
      · exact RTa_of hTa (fun t _ => X _ (by omega) (by omega)) (fun t _ => X _ (by omega) (by omega)) (M 26 (by decide) (by decide)) (M 27 (by decide) (by decide))
      · unfold RN
        rw [X 105 (by decide) (by decide), M28 33 (by decide)]
        exact hN
      · exact RB_of hB (M 1 (by decide) (by decide)) (M 0 (by decide) (by decide)) (X 85 (by decide) (by decide))
