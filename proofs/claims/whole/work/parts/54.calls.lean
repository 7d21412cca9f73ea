/-! THE CALLS, one by one: alike on both sides -/
theorem xl102' : xl 102 = 6 := rfl
theorem xb102' : xb 102 = 0 := rfl
theorem xl106' : xl 106 = 2 := rfl
theorem xb106' : xb 106 = 98 := rfl
theorem xl107' : xl 107 = 3 := rfl
theorem xb107' : xb 107 = 95 := rfl
theorem ml13' : ml 13 = 24 := rfl
theorem ml1' : ml 1 = 96 := rfl
theorem ml4' : ml 4 = 4 := rfl
theorem ml8' : ml 8 = 4 := rfl
theorem ml9' : ml 9 = 4 := rfl
theorem ml15' : ml 15 = 2 := rfl
theorem ml19' : ml 19 = 4 := rfl
theorem ml26' : ml 26 = 3 := rfl
theorem ml27' : ml 27 = 18 := rfl
theorem i10 : ¬ (1 : Int32) = 0 := by decide
theorem qLeN {z : Int} {k : Nat} (h1 : -2000000000 ≤ z) (h2 : z ≤ 2000000000) (hk : k < 2000000000) : (qj z ≤ nI k) = (z ≤ (k : Int)) := propext (by rw [qj_nat, qj_le (qR_of h1 h2) (qR_of (by omega) (by omega))])
theorem nLtQ {z : Int} {k : Nat} (h1 : -2000000000 ≤ z) (h2 : z ≤ 2000000000) (hk : k < 2000000000) : (nI k < qj z) = ((k : Int) < z) := propext (by rw [qj_nat, qj_lt (qR_of (by omega) (by omega)) (qR_of h1 h2)])
theorem slot_at {σ μ : QMem} {S : Nat → ZQ} (h : RSl σ μ S) {s j : Nat} (hs : s < 6) (hj : j < 4) : σ s j = μ 13 (4 * s + j) := by
  obtain ⟨-, ⟨a1, a2, a3, a4⟩, b1, b2, b3, b4⟩ := h s hs
  have : j = 0 ∨ j = 1 ∨ j = 2 ∨ j = 3 := by omega
  rcases this with rfl | rfl | rfl | rfl
  · exact a1.trans b1.symm
  · exact a2.trans b2.symm
  · exact a3.trans b3.symm
  · exact a4.trans b4.symm
theorem ag_number (σ μ : QMem) (a1 a2 : Int32) (h : RR σ μ) : ∃ (r : Int32) (σ2 μ2 : QMem), fX11_number a1 a2 σ = some (r, σ2) ∧ fX12_number a1 a2 μ = some (r, μ2) ∧ RR σ2 μ2 := by
  unfold fX11_number fX12_number
  rcases slot_cases a1 with ⟨e1, e2⟩ | ⟨s, hs, rfl, e1, e2⟩
  · rw [e1, e2, Option.bind_some, Option.bind_some, if_pos rfl, if_pos rfl]; exact ag_same h _
  · rcases part_cases a2 with ⟨e3, e4⟩ | ⟨j, hj, rfl, e3, e4⟩
    · rw [e1, e2, Option.bind_some, Option.bind_some, if_neg i10, if_neg i10, e3, e4, Option.bind_some, Option.bind_some, if_pos rfl, if_pos rfl]; exact ag_same h _
    · rw [e1, e2, Option.bind_some, Option.bind_some, if_neg i10, if_neg i10, e3, e4, Option.bind_some, Option.bind_some, if_neg i10, if_neg i10]
      simp (disch := omega) only [Option.bind_some, i32_lit2, nI_add, nI_mulM, cI, nI_ltT, nI_ltF, nI_leT, nI_leF, nI_eqF, nat_leF, or_self, or_false, false_or, if_true, if_false, not_true, not_false, bI_n0, bI_n1, b_em, eq_self, xl102', xb102', Nat.zero_add, c_part hj, ml13']
      obtain ⟨S, hS⟩ := h
      rw [slot_at hS.1 hs hj]
      exact ag_same ⟨S, hS⟩ _
theorem ag_unit (σ μ : QMem) (a1 a2 : Int32) (h : RR σ μ) : ∃ (r : Int32) (σ2 μ2 : QMem), fX11_unit a1 a2 σ = some (r, σ2) ∧ fX12_unit a1 a2 μ = some (r, μ2) ∧ RR σ2 μ2 := by
  unfold fX11_unit fX12_unit
  rcases unit_cases a1 with ⟨e1, e2⟩ | ⟨s, hs, rfl, e1, e2⟩
  · rw [e1, e2, Option.bind_some, Option.bind_some, if_pos rfl, if_pos rfl]; exact ag_same h _
  · rcases part_cases a2 with ⟨e3, e4⟩ | ⟨j, hj, rfl, e3, e4⟩
    · rw [e1, e2, Option.bind_some, Option.bind_some, if_neg i10, if_neg i10, e3, e4, Option.bind_some, Option.bind_some, if_pos rfl, if_pos rfl]; exact ag_same h _
    · rw [e1, e2, Option.bind_some, Option.bind_some, if_neg i10, if_neg i10, e3, e4, Option.bind_some, Option.bind_some, if_neg i10, if_neg i10]
      simp (disch := omega) only [Option.bind_some, i32_lit2, nI_add, nI_mulM, cI, nI_ltT, nI_ltF, nI_leT, nI_leF, nI_eqF, nat_leF, or_self, or_false, false_or, if_true, if_false, not_true, not_false, bI_n0, bI_n1, b_em, eq_self, ml1']
      have hU := h
      obtain ⟨S, -, -, -, -, -, -, hU, -⟩ := hU
      rw [hU _ (by omega)]
      exact ag_same h _
theorem ag_latest (σ μ : QMem) (h : RR σ μ) : ∃ (r : Int32) (σ2 μ2 : QMem), fX11_latest σ = some (r, σ2) ∧ fX12_latest μ = some (r, μ2) ∧ RR σ2 μ2 := by
  have hN := h
  obtain ⟨S, -, -, -, -, -, hN, -⟩ := hN
  unfold fX11_latest fX12_latest
  rw [show σ 105 12 = μ 28 33 from hN]
  exact ag_same h _
theorem ag_mate (σ μ : QMem) (a1 a2 a3 a4 : Int32) (h : RR σ μ) : ∃ (r : Int32) (σ2 μ2 : QMem), fX11_mate a1 a2 a3 a4 σ = some (r, σ2) ∧ fX12_mate a1 a2 a3 a4 μ = some (r, μ2) ∧ RR σ2 μ2 := by
  unfold fX11_mate fX12_mate
  rcases slot_cases a1 with ⟨e1, e2⟩ | ⟨s, hs, rfl, e1, e2⟩
  · rw [e1, e2, Option.bind_some, Option.bind_some, if_pos rfl, if_pos rfl]; exact ag_same h _
  · rcases side_cases a2 with ⟨e3, e4⟩ | ⟨-, e3, e4⟩
    · rw [e1, e2, Option.bind_some, Option.bind_some, if_neg i10, if_neg i10, e3, e4, Option.bind_some, Option.bind_some, if_pos rfl, if_pos rfl]; exact ag_same h _
    · rcases unit_cases a3 with ⟨e5, e6⟩ | ⟨u, hu, rfl, e5, e6⟩
      · rw [e1, e2, Option.bind_some, Option.bind_some, if_neg i10, if_neg i10, e3, e4, Option.bind_some, Option.bind_some, if_neg i10, if_neg i10, e5, e6, Option.bind_some, Option.bind_some, if_pos rfl, if_pos rfl]; exact ag_same h _
      · rcases part_cases a4 with ⟨e7, e8⟩ | ⟨j, hj, rfl, e7, e8⟩
        · rw [e1, e2, Option.bind_some, Option.bind_some, if_neg i10, if_neg i10, e3, e4, Option.bind_some, Option.bind_some, if_neg i10, if_neg i10, e5, e6, Option.bind_some, Option.bind_some, if_neg i10, if_neg i10, e7, e8, Option.bind_some, Option.bind_some, if_pos rfl, if_pos rfl]; exact ag_same h _
        · obtain ⟨S, hS⟩ := h
          obtain ⟨v, q1, q2⟩ := hS.1 s hs
          have su : zS (zU u) := by unfold zS; rw [zU_N4 hu]; decide
          have hU := hS.2.2.2.2.2.2.1
          rw [e1, e2, Option.bind_some, Option.bind_some, if_neg i10, if_neg i10, e3, e4, Option.bind_some, Option.bind_some, if_neg i10, if_neg i10, e5, e6, Option.bind_some, Option.bind_some, if_neg i10, if_neg i10, e7, e8, Option.bind_some, Option.bind_some, if_neg i10, if_neg i10]
          simp (disch := omega) only [Option.bind_some, i32_lit2, nI_add, nI_mulM, cI, nI_ltT, nI_ltF, nI_leT, nI_leF, nI_eqF, nat_leF, or_self, or_false, false_or, if_true, if_false, not_true, not_false, bI_n0, bI_n1, b_em, eq_self, xl102', xb102', Nat.zero_add, ml4']
          rw [c_mate a2 34 hu (by omega) q1 v.1 (qV_S v), Option.bind_some, c_part hj, Option.bind_some, m_makes a2 4 q2 (mUn_at hU hu) (show 4 * s + 3 < ml 13 by rw [ml13']; omega) (show 4 * u + 3 < ml 1 by rw [ml1']; omega) (by decide) v.1 (zU_L hu) (qV_S v) su, Option.bind_some]
          have ev : qPut (qPut σ 45 (zU u)) 34 (zK a2 (S s) (zU u)) 34 j = mPut μ 4 0 (zK a2 (S s) (zU u)) 4 j := by
            obtain ⟨p1, p2, p3, p4⟩ := qPut_at (qPut σ 45 (zU u)) 34 (zK a2 (S s) (zU u))
            obtain ⟨r1, r2, r3, r4⟩ := mPut_at μ 4 0 (zK a2 (S s) (zU u))
            have : j = 0 ∨ j = 1 ∨ j = 2 ∨ j = 3 := by omega
            rcases this with rfl | rfl | rfl | rfl
            · exact p1.trans r1.symm
            · exact p2.trans r2.symm
            · exact p3.trans r3.symm
            · exact p4.trans r4.symm
          simp only
          rw [ev]
          exact ag_of ⟨S, hS⟩ _ ((sX_put _ (by unfold eX; omega) (by decide)).trans (sX_put _ (by unfold eX; omega) (by decide))) (sM_put _ _ (by unfold eM; omega) (by decide))
theorem ag_divides (σ μ : QMem) (a1 a2 a3 : Int32) (h : RR σ μ) : ∃ (r : Int32) (σ2 μ2 : QMem), fX11_divides a1 a2 a3 σ = some (r, σ2) ∧ fX12_divides a1 a2 a3 μ = some (r, μ2) ∧ RR σ2 μ2 := by
  unfold fX11_divides fX12_divides
  rcases slot_cases a1 with ⟨e1, e2⟩ | ⟨s, hs, rfl, e1, e2⟩
  · rw [e1, e2, Option.bind_some, Option.bind_some, if_pos rfl, if_pos rfl]; exact ag_same h _
  · rcases slot_cases a2 with ⟨e3, e4⟩ | ⟨t, ht, rfl, e3, e4⟩
    · rw [e1, e2, Option.bind_some, Option.bind_some, if_neg i10, if_neg i10, e3, e4, Option.bind_some, Option.bind_some, if_pos rfl, if_pos rfl]; exact ag_same h _
    · rcases side_cases a3 with ⟨e5, e6⟩ | ⟨-, e5, e6⟩
      · rw [e1, e2, Option.bind_some, Option.bind_some, if_neg i10, if_neg i10, e3, e4, Option.bind_some, Option.bind_some, if_neg i10, if_neg i10, e5, e6, Option.bind_some, Option.bind_some, if_pos rfl, if_pos rfl]; exact ag_same h _
      · obtain ⟨S, hS⟩ := h
        obtain ⟨v1, q1, m1⟩ := hS.1 s hs
        obtain ⟨v2, q2, m2⟩ := hS.1 t ht
        obtain ⟨τ, t1, t2⟩ := c_isDiv (k1 := s) (k2 := t) a3 (by unfold dtP; omega) (by unfold dtP; omega) q1 q2 v1 v2
        rw [e1, e2, Option.bind_some, Option.bind_some, if_neg i10, if_neg i10, e3, e4, Option.bind_some, Option.bind_some, if_neg i10, if_neg i10, e5, e6, Option.bind_some, Option.bind_some, if_neg i10, if_neg i10]
        simp (disch := omega) only [Option.bind_some, i32_lit2, nI_add, nI_mulM, cI, nI_ltT, nI_ltF, nI_leT, nI_leF, nI_eqF, nat_leF, or_self, or_false, false_or, if_true, if_false, not_true, not_false, bI_n0, bI_n1, b_em, eq_self, xl102', xb102', Nat.zero_add]
        rw [t1, Option.bind_some]
        have hX : sX σ τ := t2.sX (fun c hc => by unfold dtP at hc; unfold eX; omega)
        unfold fX12_isEmpty
        simp (disch := omega) only [Option.bind_some, i32_lit2, nI_add, nI_mulM, cI, nI_ltT, nI_ltF, nI_leT, nI_leF, nI_eqF, nat_leF, or_self, or_false, false_or, if_true, if_false, not_true, not_false, bI_n0, bI_n1, b_em, eq_self, m_nought m1 (show 4 * s + 3 < ml 13 by rw [ml13']; omega) (qV_S v1), m_nought m2 (show 4 * t + 3 < ml 13 by rw [ml13']; omega) (qV_S v2)]
        by_cases h0 : S s = z0
        · rw [decide_eq_true h0]
          have e : zDb a3 (S s) (S t) = decide (S t = z0) := b_ext (by rw [zDb_iff, h0, z0_D, decide_eq_true_iff])
          rw [e]
          by_cases h1 : S t = z0
          · rw [decide_eq_true h1]
            exact ⟨nI 1, τ, μ, if_neg (by decide), by simp [h1], RR_keep ⟨S, hS⟩ hX (sM.refl _)⟩
          · rw [decide_eq_false h1]
            exact ⟨nI 0, τ, μ, if_pos rfl, by simp [h1], RR_keep ⟨S, hS⟩ hX (sM.refl _)⟩
        · rw [decide_eq_false h0]
          obtain ⟨ν, n1, -, n3⟩ := m_isDiv (k := 13) (k2 := 13) a3 m1 m2 (show 4 * s + 3 < ml 13 by rw [ml13']; omega) (show 4 * t + 3 < ml 13 by rw [ml13']; omega) (by decide) (by decide) v1 v2 h0
          rw [n1]
          have hM : sM μ ν := n3.sM (fun c hc => by unfold eM; omega)
          cases zDb a3 (S s) (S t)
          · simp (disch := omega) only [Option.bind_some, i32_lit2, nI_add, nI_mulM, cI, nI_ltT, nI_ltF, nI_leT, nI_leF, nI_eqF, nat_leF, or_self, or_false, false_or, if_true, if_false, not_true, not_false, bI_n0, bI_n1, b_em, eq_self]
            exact ag_of ⟨S, hS⟩ _ hX hM
          · simp (disch := omega) only [Option.bind_some, i32_lit2, nI_add, nI_mulM, cI, nI_ltT, nI_ltF, nI_leT, nI_leF, nI_eqF, nat_leF, or_self, or_false, false_or, if_true, if_false, not_true, not_false, bI_n0, bI_n1, b_em, eq_self]
            exact ag_of ⟨S, hS⟩ _ hX hM
theorem ag_times (σ μ : QMem) (a1 a2 a3 : Int32) (h : RR σ μ) : ∃ (r : Int32) (σ2 μ2 : QMem), fX11_times a1 a2 a3 σ = some (r, σ2) ∧ fX12_times a1 a2 a3 μ = some (r, μ2) ∧ RR σ2 μ2 := by
  unfold fX11_times fX12_times
  rcases slot_cases a1 with ⟨e1, e2⟩ | ⟨s, hs, rfl, e1, e2⟩
  · rw [e1, e2, Option.bind_some, Option.bind_some, if_pos rfl, if_pos rfl]; exact ag_same h _
  · rcases slot_cases a2 with ⟨e3, e4⟩ | ⟨t, ht, rfl, e3, e4⟩
    · rw [e1, e2, Option.bind_some, Option.bind_some, if_neg i10, if_neg i10, e3, e4, Option.bind_some, Option.bind_some, if_pos rfl, if_pos rfl]; exact ag_same h _
    · rcases side_cases a3 with ⟨e5, e6⟩ | ⟨-, e5, e6⟩
      · rw [e1, e2, Option.bind_some, Option.bind_some, if_neg i10, if_neg i10, e3, e4, Option.bind_some, Option.bind_some, if_neg i10, if_neg i10, e5, e6, Option.bind_some, Option.bind_some, if_pos rfl, if_pos rfl]; exact ag_same h _
      · obtain ⟨S, hS⟩ := h
        obtain ⟨v1, q1, m1⟩ := hS.1 s hs
        obtain ⟨v2, q2, m2⟩ := hS.1 t ht
        have lp : zL (zK a3 (S s) (S t)) := zK_L v1.1 v2.1
        have np : zN (zK a3 (S s) (S t)) = zN (S s) * zN (S t) := zK_N v1.1 v2.1
        have b1 := zN_nn (S s)
        have b2 := zN_nn (S t)
        have b3 := qV_N v1
        have b4 := qV_N v2
        have bb := mul_bd (m := 150) (n := 150) (a := zN (S s)) (b := zN (S t)) (by omega) (by omega)
        have b0 := zN_nn (zK a3 (S s) (S t))
        have n4 := zN4_four lp
        rw [e1, e2, Option.bind_some, Option.bind_some, if_neg i10, if_neg i10, e3, e4, Option.bind_some, Option.bind_some, if_neg i10, if_neg i10, e5, e6, Option.bind_some, Option.bind_some, if_neg i10, if_neg i10]
        simp (disch := omega) only [Option.bind_some, i32_lit2, nI_add, nI_mulM, cI, nI_ltT, nI_ltF, nI_leT, nI_leF, nI_eqF, nat_leF, or_self, or_false, false_or, if_true, if_false, not_true, not_false, bI_n0, bI_n1, b_em, eq_self, xl102', xb102', Nat.zero_add]
        rw [c_made 34 a3 q1 q2 v1.1 v2.1 (qV_S v1) (qV_S v2), Option.bind_some, c_norm (qPut_at _ _ _) (by omega), Option.bind_some]
        have hX : sX σ (qPut σ 34 (zK a3 (S s) (S t))) := sX_put _ (by unfold eX; omega) (by decide)
        have hM : sM μ (mPut μ 19 0 (zK a3 (S s) (S t))) := sM_put _ _ (by unfold eM; omega) (by decide)
        rw [show nI 0 = nI 0 from rfl, m_makes a3 19 m1 m2 (show 4 * s + 3 < ml 13 by rw [ml13']; omega) (show 4 * t + 3 < ml 13 by rw [ml13']; omega) (by decide) v1.1 v2.1 (qV_S v1) (qV_S v2), Option.bind_some]
        unfold fX12_norm
        rw [nI_mul4, nI_mul4, m_norm (mAt_ne (k := 13) (k2 := 19) (by decide) m1) (show 4 * s + 3 < ml 13 by rw [ml13']; omega) (Int.le_trans v1.2 (by decide)), Option.bind_some, Option.bind_some, m_norm (mAt_ne (k := 13) (k2 := 19) (by decide) m2) (show 4 * t + 3 < ml 13 by rw [ml13']; omega) (Int.le_trans v2.2 (by decide)), Option.bind_some, Option.bind_some]
        simp only [qj_mul, ← np]
        simp (disch := omega) only [qLeN, nLtQ]
        by_cases hc : zN (zK a3 (S s) (S t)) ≤ 150
        · rw [if_pos (by omega), if_neg (by omega)]
          obtain ⟨σ2, μ2, w1, w2, w3⟩ := ch_ok (RRS_keep hS hX hM) hs (k2 := 34) (k := 19) (o := 0) (by decide) (qPut_at _ _ _) (qV_of lp hc) (by decide) (by decide) (mPut_at _ _ _ _)
          rw [w1, w2]
          exact ⟨_, _, _, rfl, rfl, ⟨_, w3⟩⟩
        · rw [if_neg (by omega), if_pos (by omega)]
          exact ag_of ⟨S, hS⟩ _ hX hM
/-- the nearest quotient of what slots hold is small, too -/
theorem zNx_N {s : Int32} {q d : ZQ} (vq : qV q) (vd : qV d) (h0 : d ≠ z0) : zN (zNx s q d) ≤ 150 := by
  have hn := zN_pos vd.1 h0
  have lx := zNx_L (s := s) (q := q) vd.1 h0
  have hh := zRs_half (s := s) vq.1 vd.1 h0
  have r0 := zN_nn (zRs s q d)
  have bq := qV_N vq
  have e : zSub q (zRs s q d) = zK s d (zNx s q d) := by
    unfold zRs zSub
    refine zq_ext ?_ ?_ ?_ ?_ <;> simp only <;> omega
  have np : zN (zSub q (zRs s q d)) = zN d * zN (zNx s q d) := by rw [e, zK_N vd.1 lx]
  by_cases h1 : zN d = 1
  · have rz : zRs s q d = z0 := zN_zero (zRs_L vq.1 vd.1 h0) (by omega)
    have : zSub q z0 = q := by
      unfold zSub z0
      refine zq_ext ?_ ?_ ?_ ?_ <;> simp only <;> omega
    rw [rz, this, h1] at np
    omega
  · have sq : ∀ a b : Int, 2 * ((a - b) * (a - b)) ≤ 3 * (a * a) + 6 * (b * b) := by
      intro a b
      have := sq_nn (a + 2 * b)
      have e1 : (a + 2 * b) * (a + 2 * b) = a * a + 4 * (a * b) + 4 * (b * b) := by grind
      have e2 : (a - b) * (a - b) = a * a - 2 * (a * b) + b * b := by grind
      omega
    have ineq : 2 * zN (zSub q (zRs s q d)) ≤ 3 * zN q + 6 * zN (zRs s q d) := by
      have f1 := zN4_four (zSub_L vq.1 (zRs_L (s := s) vq.1 vd.1 h0))
      have f2 := zN4_four vq.1
      have f3 := zN4_four (zRs_L (s := s) vq.1 vd.1 h0)
      generalize zRs s q d = r at f1 f3 ⊢
      unfold zN4 zSub at f1
      unfold zN4 at f2 f3
      simp only at f1
      have g1 := sq q.1 r.1
      have g2 := sq q.2.1 r.2.1
      have g3 := sq q.2.2.1 r.2.2.1
      have g4 := sq q.2.2.2 r.2.2.2
      unfold zSub
      omega
    apply Classical.byContradiction
    intro hc
    have k1 : zN d * 151 ≤ zN d * zN (zNx s q d) := Int.mul_le_mul_of_nonneg_left (by omega) (by omega)
    omega
theorem ag_divide (σ μ : QMem) (a1 a2 a3 a4 : Int32) (h : RR σ μ) : ∃ (r : Int32) (σ2 μ2 : QMem), fX11_divide a1 a2 a3 a4 σ = some (r, σ2) ∧ fX12_divide a1 a2 a3 a4 μ = some (r, μ2) ∧ RR σ2 μ2 := by
  unfold fX11_divide fX12_divide
  rcases slot_cases a1 with ⟨e1, e2⟩ | ⟨s, hs, rfl, e1, e2⟩
  · rw [e1, e2, Option.bind_some, Option.bind_some, if_pos rfl, if_pos rfl]; exact ag_same h _
  · rcases slot_cases a2 with ⟨e3, e4⟩ | ⟨t, ht, rfl, e3, e4⟩
    · rw [e1, e2, Option.bind_some, Option.bind_some, if_neg i10, if_neg i10, e3, e4, Option.bind_some, Option.bind_some, if_pos rfl, if_pos rfl]; exact ag_same h _
    · rw [e1, e2, Option.bind_some, Option.bind_some, if_neg i10, if_neg i10, e3, e4, Option.bind_some, Option.bind_some, if_neg i10, if_neg i10]
      unfold fX12_in
      have c0 : (a3 < 0) = (a3.toInt < 0) := propext i_neg
      have c1 : (1 < a3) = (1 < a3.toInt) := propext (by rw [Int32.lt_iff_toInt_lt]; rfl)
      simp only [c0, c1]
      by_cases w0 : a3.toInt < 0
      · rw [if_pos w0, if_pos w0, Option.bind_some, if_pos rfl]; exact ag_same h _
      · rw [if_neg w0, if_neg w0]
        by_cases w1 : 1 < a3.toInt
        · rw [if_pos w1, if_pos w1, Option.bind_some, if_pos rfl]; exact ag_same h _
        · rw [if_neg w1, if_neg w1, Option.bind_some, if_neg i10]
          rcases side_cases a4 with ⟨e5, e6⟩ | ⟨-, e5, e6⟩
          · rw [e5, e6, Option.bind_some, Option.bind_some, if_pos rfl, if_pos rfl]; exact ag_same h _
          · rw [e5, e6, Option.bind_some, Option.bind_some, if_neg i10, if_neg i10]
            obtain ⟨S, hS⟩ := h
            obtain ⟨v1, q1, m1⟩ := hS.1 s hs
            obtain ⟨v2, q2, m2⟩ := hS.1 t ht
            unfold fX12_isEmpty
            simp (disch := omega) only [Option.bind_some, i32_lit2, nI_add, nI_mulM, cI, nI_ltT, nI_ltF, nI_leT, nI_leF, nI_eqF, nat_leF, or_self, or_false, false_or, if_true, if_false, not_true, not_false, bI_n0, bI_n1, b_em, eq_self, xl102', xb102', Nat.zero_add, c_zero q2 (qV_S v2), m_nought m2 (show 4 * t + 3 < ml 13 by rw [ml13']; omega) (qV_S v2)]
            by_cases h0 : S t = z0
            · rw [decide_eq_true h0, if_neg (by decide), if_neg (by decide)]
              exact ag_same ⟨S, hS⟩ _
            · rw [decide_eq_false h0, if_pos rfl, if_pos rfl]
              obtain ⟨τ, t1, t2, t3, t4⟩ := c_perform (k1 := s) (k2 := t) a4 (by unfold dvP; omega) (by unfold dvP; omega) q1 q2 v1 v2 h0
              obtain ⟨ν, n1, n2, n3, n4⟩ := m_lays (k := 13) (k3 := 13) a4 (by unfold lnP; omega) (by unfold lnP; omega) (show 4 * s + 3 < ml 13 by rw [ml13']; omega) (show 4 * t + 3 < ml 13 by rw [ml13']; omega) m1 m2 v1 v2 h0
              have hX : sX σ τ := t4.sX (fun c hc => by unfold dvP at hc; unfold eX; omega)
              have hM : sM μ ν := n4.sM (fun c hc => by unfold lnP at hc; unfold eM; omega)
              have hR := RRS_keep hS hX hM
              rw [t1, n1, Option.bind_some, Option.bind_some]
              unfold fX11_divide_J99
              by_cases hw : a3 = nI 0
              · rw [if_pos hw, if_pos hw]
                have vx : qV (zNx a4 (S s) (S t)) := qV_of (zNx_L v2.1 h0) (zNx_N v1 v2 h0)
                obtain ⟨σ2, μ2, w1, w2, w3⟩ := ch_ok hR hs (k2 := 36) (k := 8) (o := 0) (by decide) t2 vx (by decide) (by decide) n2
                rw [w1, w2]
                exact ⟨_, _, _, rfl, rfl, ⟨_, w3⟩⟩
              · rw [if_neg hw, if_neg hw]
                have vr := qV_R (s := a4) v1 v2 h0
                obtain ⟨σ2, μ2, w1, w2, w3⟩ := ch_ok hR hs (k2 := 37) (k := 9) (o := 0) (by decide) t3 vr (by decide) (by decide) n3
                rw [w1, w2]
                exact ⟨_, _, _, rfl, rfl, ⟨_, w3⟩⟩
theorem ag_nearest (σ μ : QMem) (a1 a2 a3 a4 : Int32) (h : RR σ μ) : ∃ (r : Int32) (σ2 μ2 : QMem), fX11_nearest a1 a2 a3 a4 σ = some (r, σ2) ∧ fX12_nearest a1 a2 a3 a4 μ = some (r, μ2) ∧ RR σ2 μ2 := by
  unfold fX11_nearest fX12_nearest
  rcases slot_cases a1 with ⟨e1, e2⟩ | ⟨s, hs, rfl, e1, e2⟩
  · rw [e1, e2, Option.bind_some, Option.bind_some, if_pos rfl, if_pos rfl]; exact ag_same h _
  · rcases slot_cases a2 with ⟨e3, e4⟩ | ⟨t, ht, rfl, e3, e4⟩
    · rw [e1, e2, Option.bind_some, Option.bind_some, if_neg i10, if_neg i10, e3, e4, Option.bind_some, Option.bind_some, if_pos rfl, if_pos rfl]; exact ag_same h _
    · rw [e1, e2, Option.bind_some, Option.bind_some, if_neg i10, if_neg i10, e3, e4, Option.bind_some, Option.bind_some, if_neg i10, if_neg i10]
      rcases side_cases a3 with ⟨e5, e6⟩ | ⟨-, e5, e6⟩
      · rw [e5, e6, Option.bind_some, Option.bind_some, if_pos rfl, if_pos rfl]; exact ag_same h _
      · rw [e5, e6, Option.bind_some, Option.bind_some, if_neg i10, if_neg i10]
        unfold fX12_in
        have c0 : (a4 < 0) = (a4.toInt < 0) := propext i_neg
        have c1 : (8 < a4) = (8 < a4.toInt) := propext (by rw [Int32.lt_iff_toInt_lt]; rfl)
        have c2 : (a4 ≤ 8) = (a4.toInt ≤ 8) := propext (by rw [Int32.le_iff_toInt_le]; rfl)
        simp only [c0, c1, c2]
        by_cases w0 : a4.toInt < 0
        · rw [if_pos w0, if_pos w0, Option.bind_some, if_pos rfl]; exact ag_same h _
        · rw [if_neg w0, if_neg w0]
          by_cases w1 : 8 < a4.toInt
          · rw [if_neg (by omega), if_pos w1, Option.bind_some, if_pos rfl]; exact ag_same h _
          · rw [if_pos (by omega), if_neg w1, Option.bind_some, if_neg i10]
            obtain ⟨j, hj, rfl⟩ : ∃ j, j < 9 ∧ a4 = nI j := by
              rcases p_cases a4 9 (by decide) with z | z
              · omega
              · exact z
            obtain ⟨S, hS⟩ := h
            obtain ⟨v1, q1, m1⟩ := hS.1 s hs
            obtain ⟨v2, q2, m2⟩ := hS.1 t ht
            unfold fX12_isEmpty
            simp (disch := omega) only [Option.bind_some, i32_lit2, nI_add, nI_mulM, cI, nI_ltT, nI_ltF, nI_leT, nI_leF, nI_eqF, nat_leF, or_self, or_false, false_or, if_true, if_false, not_true, not_false, bI_n0, bI_n1, b_em, eq_self, xl102', xb102', Nat.zero_add, c_zero q2 (qV_S v2), m_nought m2 (show 4 * t + 3 < ml 13 by rw [ml13']; omega) (qV_S v2)]
            by_cases h0 : S t = z0
            · rw [decide_eq_true h0, if_neg (by decide), if_neg (by decide)]
              exact ag_same ⟨S, hS⟩ _
            · rw [decide_eq_false h0, if_pos rfl, if_pos rfl]
              obtain ⟨τ, t1, t2, t3, t4⟩ := c_perform (k1 := s) (k2 := t) a3 (by unfold dvP; omega) (by unfold dvP; omega) q1 q2 v1 v2 h0
              obtain ⟨ν, n1, n2, n3, n4⟩ := m_lays (k := 13) (k3 := 13) a3 (by unfold lnP; omega) (by unfold lnP; omega) (show 4 * s + 3 < ml 13 by rw [ml13']; omega) (show 4 * t + 3 < ml 13 by rw [ml13']; omega) m1 m2 v1 v2 h0
              have hX : sX σ τ := t4.sX (fun c hc => by unfold dvP at hc; unfold eX; omega)
              have hM : sM μ ν := n4.sM (fun c hc => by unfold lnP at hc; unfold eM; omega)
              have hR := RRS_keep hS hX hM
              have vr := qV_R (s := a3) v1 v2 h0
              rw [t1, n1, Option.bind_some, Option.bind_some]
              obtain ⟨x1, x2, x3, x4⟩ := t2
              obtain ⟨y1, y2, y3, y4⟩ := n2
              have t3' := t3
              have n3' := n3
              obtain ⟨z1', z2, z3, z4⟩ := t3
              obtain ⟨u1, u2, u3, u4⟩ := n3
              have cases9 : j = 8 ∨ j = 0 ∨ j = 1 ∨ j = 2 ∨ j = 3 ∨ j = 4 ∨ j = 5 ∨ j = 6 ∨ j = 7 := by omega
              have fin : ∀ (f : Option (Int32 × QMem)) (g : Option (Int32 × QMem)) (v : Int32), f = some (v, τ) → g = some (v, ν) → ∃ (r : Int32) (σ2 μ2 : QMem), f = some (r, σ2) ∧ g = some (r, μ2) ∧ RR σ2 μ2 := fun f g v hf hg => ⟨v, τ, ν, hf, hg, ⟨S, hR⟩⟩
              rcases cases9 with rfl | rfl | rfl | rfl | rfl | rfl | rfl | rfl | rfl
              · refine fin _ _ (qj (zN (zRs a3 (S s) (S t)))) ?_ ?_
                · rw [if_pos rfl, c_norm t3' (Int.le_trans vr.2 (by decide))]; rfl
                · rw [if_pos (nI_le (by decide) (by decide)), if_pos (nI_le (by decide) (by decide)), m_norm n3' (by decide) (Int.le_trans vr.2 (by decide))]; rfl
              · exact fin _ _ _ (show some (τ 36 0, τ) = _ by rw [x1]) (show some (ν 8 0, ν) = _ by rw [y1])
              · exact fin _ _ _ (show some (τ 36 1, τ) = _ by rw [x2]) (show some (ν 8 1, ν) = _ by rw [y2])
              · exact fin _ _ _ (show some (τ 36 2, τ) = _ by rw [x3]) (show some (ν 8 2, ν) = _ by rw [y3])
              · exact fin _ _ _ (show some (τ 36 3, τ) = _ by rw [x4]) (show some (ν 8 3, ν) = _ by rw [y4])
              · exact fin _ _ _ (show some (τ 37 0, τ) = _ by rw [z1']) (show some (ν 9 0, ν) = _ by rw [u1])
              · exact fin _ _ _ (show some (τ 37 1, τ) = _ by rw [z2]) (show some (ν 9 1, ν) = _ by rw [u2])
              · exact fin _ _ _ (show some (τ 37 2, τ) = _ by rw [z3]) (show some (ν 9 2, ν) = _ by rw [u3])
              · exact fin _ _ _ (show some (τ 37 3, τ) = _ by rw [z4]) (show some (ν 9 3, ν) = _ by rw [u4])
