theorem what_cases (p : Int32) : (p < 0 ∧ fX12_in p 0 5 = some 0) ∨ (¬ p < 0 ∧ ¬ p ≤ 5 ∧ fX12_in p 0 5 = some 0) ∨ ∃ w, w < 6 ∧ p = nI w ∧ ¬ p < 0 ∧ p ≤ 5 ∧ fX12_in p 0 5 = some 1 := by
  unfold fX12_in
  rcases p_cases p 6 (by decide) with h | ⟨j, hj, rfl⟩
  · rcases h with h | h
    · left
      constructor <;> simp (disch := omega) only [Option.bind_some, i32_lit2, nI_add, nI_mulM, cI, nI_ltT, nI_ltF, nI_leT, nI_leF, nI_eqF, nat_leF, or_self, or_false, false_or, if_true, if_false, not_true, not_false, bI_n0, bI_n1, b_em, eq_self, pLtT, pLtF, pLeT, pLeF, nLtT, nLtF, nLeT, nLeF, pEqF]
    · right; left
      refine ⟨?_, ?_, ?_⟩ <;> simp (disch := omega) only [Option.bind_some, i32_lit2, nI_add, nI_mulM, cI, nI_ltT, nI_ltF, nI_leT, nI_leF, nI_eqF, nat_leF, or_self, or_false, false_or, if_true, if_false, not_true, not_false, bI_n0, bI_n1, b_em, eq_self, pLtT, pLtF, pLeT, pLeF, nLtT, nLtF, nLeT, nLeF, pEqF] <;> exact id
  · right; right
    refine ⟨j, hj, rfl, ?_, ?_, ?_⟩ <;> simp (disch := omega) only [Option.bind_some, i32_lit2, nI_add, nI_mulM, cI, nI_ltT, nI_ltF, nI_leT, nI_leF, nI_eqF, nat_leF, or_self, or_false, false_or, if_true, if_false, not_true, not_false, bI_n0, bI_n1, b_em, eq_self, pLtT, pLtF, pLeT, pLeF, nLtT, nLtF, nLeT, nLeF, pEqF] <;> exact id

theorem ag_of2 (σ μ : QMem) (a1 a2 : Int32) (h : RR σ μ) : ∃ (r : Int32) (σ2 μ2 : QMem), fX11_of a1 a2 σ = some (r, σ2) ∧ fX12_of a1 a2 μ = some (r, μ2) ∧ RR σ2 μ2 := by
  unfold fX11_of fX12_of
  rcases slot_cases a1 with ⟨e1, e2⟩ | ⟨s, hs, rfl, e1, e2⟩
  · rw [e1, e2, Option.bind_some, Option.bind_some, if_pos rfl, if_pos rfl]; exact ag_same h _
  rw [e1, e2, Option.bind_some, Option.bind_some, if_neg i10, if_neg i10]
  rcases what_cases a2 with ⟨g1, e3⟩ | ⟨g1, g2, e3⟩ | ⟨w, hw, rfl, g1, g2, e3⟩
  · rw [if_pos g1, e3, Option.bind_some, if_pos rfl]; exact ag_same h _
  · rw [if_neg g1, if_neg g2, e3, Option.bind_some, if_pos rfl]; exact ag_same h _
  rw [if_neg g1, if_pos g2, if_neg (gs6 hs), es6 hs, e3, Option.bind_some, if_neg i10]
  obtain ⟨S, hS⟩ := h
  obtain ⟨v, q, mq⟩ := hS.1 s hs
  obtain ⟨hU, hR, hx⟩ := hS.2.2.2.2.2.2
  have os : 4 * s + 3 < ml 13 := by rw [ml13']; omega
  have nb : zN4 (S s) ≤ 2000000000 := Int.le_trans v.2 (by decide)
  have body : (S s = z0 → w < 3) → ∃ (r : Int32) (σ2 μ2 : QMem), fX11_of_J47 (nI s) (nI w) s σ = some (r, σ2) ∧ fX12_of_J41 (nI s) (nI w) μ = some (r, μ2) ∧ RR σ2 μ2 := by
    intro hz
    have nrm : fX12_norm (nI s) μ = some (qj (zN (S s)), μ) := by
      unfold fX12_norm
      rw [nI_mul4, m_norm mq os nb]
      rfl
    unfold fX11_of_J47 fX12_of_J41
    have h150 := qV_N v
    obtain ⟨nn, hnn⟩ : ∃ nn : Nat, zN (S s) = nn := ⟨(zN (S s)).toNat, by have := zN_nn (S s); omega⟩
    rcases (show w = 0 ∨ w = 1 ∨ w = 2 ∨ w = 3 ∨ w = 4 ∨ w = 5 by omega) with rfl | rfl | rfl | rfl | rfl | rfl
    · rw [if_pos (show nI 0 = 0 from rfl), if_pos (show nI 0 = 0 from rfl), c_norm q nb, nrm, Option.bind_some, Option.bind_some]
      exact ag_same ⟨S, hS⟩ _
    · rw [if_neg (show ¬ nI 1 = 0 by decide), if_neg (show ¬ nI 1 = 0 by decide), if_pos (show nI 1 = 1 from rfl), if_pos (show nI 1 = 1 from rfl)]
      obtain ⟨r, τ, t1, t2, t3⟩ := unit_ok hS.1 hU hs 24 0 FU FU σ rfl (by unfold FU; omega) (by unfold FU; omega) q
      rw [show fX11_unitNumber s σ = some (r, τ) from t1, show fX12_unitOf (nI s) μ = some (r, μ) from t2, Option.bind_some, Option.bind_some]
      exact ag_of ⟨S, hS⟩ _ (t3.sX (fun c hc => by unfold eX; omega)) (sM.refl _)
    · rw [if_neg (show ¬ nI 2 = 0 by decide), if_neg (show ¬ nI 2 = 0 by decide), if_neg (show ¬ nI 2 = 1 by decide), if_neg (show ¬ nI 2 = 1 by decide), if_pos (show nI 2 = 2 from rfl), if_pos (show nI 2 = 2 from rfl), c_even q, Option.bind_some]
      have g13 : ¬ (4 * nI s < 0 ∨ ml 13 ≤ (4 * nI s).toNatClampNeg) := by
        rw [nI_mul4]; exact nI_in (by rw [ml13']; omega) (by decide)
      obtain ⟨b1, b2, b3, b4⟩ := zS_B (qV_S v)
      rw [if_neg g13, nI_mul4, nI_clamp (by omega), mq.1]
      simp only [qj_mod2 (show -2000000000 ≤ (S s).1 ∧ (S s).1 ≤ 2000000000 by omega), bI_0]
      by_cases he : (S s).1 % 2 = 0
      · rw [decide_eq_true he, if_neg (by decide), if_pos he]
        exact ag_same ⟨S, hS⟩ _
      · rw [decide_eq_false he, if_pos rfl, if_neg he]
        exact ag_same ⟨S, hS⟩ _
    · have h0 : S s ≠ z0 := fun e => absurd (hz e) (by omega)
      rw [if_neg (show ¬ nI 3 = 0 by decide), if_neg (show ¬ nI 3 = 0 by decide), if_neg (show ¬ nI 3 = 1 by decide), if_neg (show ¬ nI 3 = 1 by decide), if_neg (show ¬ nI 3 = 2 by decide), if_neg (show ¬ nI 3 = 2 by decide), if_pos (show nI 3 = 3 from rfl), if_pos (show nI 3 = 3 from rfl)]
      have c1 : fX6_content s σ = some (nI (cTn (S s) 24), σ) := c_cont h0 (qV_S v) σ q 24 FU (by decide) (by unfold FU; omega) (by decide)
      have c2 : fX12_content (nI s) μ = some (nI (cTn (S s) 24), μ) := m_cont hs v mq 23 2 FU rfl (by unfold FU; omega) (by decide)
      rw [c1, c2, Option.bind_some, Option.bind_some]
      exact ag_same ⟨S, hS⟩ _
    · have h0 : S s ≠ z0 := fun e => absurd (hz e) (by omega)
      have hpos := zN_pos v.1 h0
      rw [if_neg (show ¬ nI 4 = 0 by decide), if_neg (show ¬ nI 4 = 0 by decide), if_neg (show ¬ nI 4 = 1 by decide), if_neg (show ¬ nI 4 = 1 by decide), if_neg (show ¬ nI 4 = 2 by decide), if_neg (show ¬ nI 4 = 2 by decide), if_neg (show ¬ nI 4 = 3 by decide), if_neg (show ¬ nI 4 = 3 by decide), if_pos (show nI 4 = 4 from rfl), if_pos (show nI 4 = 4 from rfl), c_norm q nb, nrm, hnn, ← qj_nat, Option.bind_some, Option.bind_some]
      simp only
      rw [c_pf (by omega) (by omega), m_pf (by omega) (by omega), Option.bind_some, Option.bind_some]
      exact ag_same ⟨S, hS⟩ _
    · have h0 : S s ≠ z0 := fun e => absurd (hz e) (by omega)
      have hpos := zN_pos v.1 h0
      have p7 := pfN_7 nn (by omega)
      rw [if_neg (show ¬ nI 5 = 0 by decide), if_neg (show ¬ nI 5 = 0 by decide), if_neg (show ¬ nI 5 = 1 by decide), if_neg (show ¬ nI 5 = 1 by decide), if_neg (show ¬ nI 5 = 2 by decide), if_neg (show ¬ nI 5 = 2 by decide), if_neg (show ¬ nI 5 = 3 by decide), if_neg (show ¬ nI 5 = 3 by decide), if_neg (show ¬ nI 5 = 4 by decide), if_neg (show ¬ nI 5 = 4 by decide)]
      obtain ⟨τ, t1, t2⟩ := c_chains 10 0 s σ (S s) nn (by omega) (by omega) (by unfold chP; omega) v.1 hnn (by omega) (by omega) hx q
      obtain ⟨ν, n1, n2⟩ := m_chains hs v hnn (by omega) hU hR mq
      rw [show fX3_chains 10 s 0 σ = some (nI (zBc (S s)), τ) from t1, n1, Option.bind_some, Option.bind_some]
      exact ag_of ⟨S, hS⟩ _ (t2.sX (fun c hc => by unfold chP at hc; unfold eX; omega)) (n2.sM (fun c hc => by unfold cnP at hc; unfold eM; omega))
  by_cases h3 : w < 3
  · have a1 : nI w < (3 : Int32) := nI_lt (b := 3) h3 (by decide)
    have a2 : nI w ≤ (2 : Int32) := nI_le (b := 2) (by omega) (by decide)
    rw [if_pos a1, if_pos a2]
    exact body (fun _ => h3)
  · have a1 : ¬ nI w < (3 : Int32) := nI_nlt (a := w) (b := 3) (by omega) (by omega)
    have a2 : ¬ nI w ≤ (2 : Int32) := nI_ge (b := w) (a := 2) (by omega) (by omega)
    rw [if_neg a1, if_neg a2, c_zero q (qV_S v), m_empty hs v mq, Option.bind_some, Option.bind_some]
    simp only [bI_0]
    by_cases h0 : S s = z0
    · have tf : ¬ (true = false) := by decide
      rw [decide_eq_true h0, if_neg tf, if_neg tf]
      exact ag_same ⟨S, hS⟩ _
    · rw [decide_eq_false h0, if_pos rfl, if_pos rfl]
      exact body (fun e => absurd e h0)
