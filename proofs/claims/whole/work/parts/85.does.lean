/-! THE CLAUSES are done -/
theorem c_wd {σ : QMem} {c j : Nat} (hc : c < 24) (hj : j < 6) : fX8_word (nI c) (nI j) σ = some (σ 84 (6 * c + j), σ) := by
  have x84 : xl 84 = 144 := rfl
  have e : 6 * nI c + nI j = nI (6 * c + j) := by
    rw [show (6 : Int32) = nI 6 from rfl, nI_mulM, nI_add]
  have c24 : ¬ (24 : Int32) ≤ nI c := nI_ge (b := 24) hc (by decide)
  have c6 : nI j < (6 : Int32) := nI_lt (b := 6) hj (by decide)
  unfold fX8_word
  rw [if_neg (nI_pos (by omega)), if_neg c24, if_neg (nI_pos (by omega)), if_pos c6, e, if_neg (nI_in (by rw [x84]; omega) (by decide)), nI_clamp (by omega)]
theorem c_isSlot {s : Nat} (h : s < 6) : fX11_isSlot (nI s) = some 1 := by
  unfold fX11_isSlot
  rw [if_neg (nI_pos (by omega)), if_neg (show ¬ (6 : Int32) ≤ nI s from nI_ge (b := 6) h (by decide))]
theorem c_do0 (p1 : Int32) : ∀ (m i f : Nat) (σ : QMem), i + m = 6 → m < f → (∀ s, s < i → qAt σ s z0) → ∃ τ, fX11_doClause_L71 p1 f (nI i) σ = some τ ∧ (∀ s, s < 6 → qAt τ s z0) ∧ ∀ k, 6 ≤ k → τ k = σ k := by
  intro m
  induction m with
  | zero =>
    intro i f σ hi hf h
    obtain ⟨f, rfl⟩ : ∃ k, f = k + 1 := ⟨f - 1, by omega⟩
    have : i = 6 := by omega
    subst this
    rw [fX11_doClause_L71, if_pos (show (6 : Int32) ≤ nI 6 by decide)]
    exact ⟨σ, rfl, h, fun _ _ => rfl⟩
  | succ m ih =>
    intro i f σ hi hf h
    obtain ⟨f, rfl⟩ : ∃ k, f = k + 1 := ⟨f - 1, by omega⟩
    have h6 : i < 6 := by omega
    have c6 : ¬ (6 : Int32) ≤ nI i := nI_ge (b := 6) h6 (by decide)
    have cp : fX6_put i 0 0 0 0 σ = some (qPut σ i z0) := c_put i 0 0 0 0 σ
    obtain ⟨τ, t1, t2, t3⟩ := ih (i + 1) f (qPut σ i z0) (by omega) (by omega) (fun s hs => by
      by_cases e : s = i
      · rw [e]; exact qPut_at _ _ _
      · exact qAt_ne e (h s (by omega)))
    rw [fX11_doClause_L71, if_neg c6, if_neg (gs6 h6), es6 h6, cp, Option.bind_some, show nI i + 1 = nI (i + 1) from nI_1 i, t1]
    exact ⟨τ, rfl, t2, fun k hk => by rw [t3 k hk, qPut_ne _ _ (by omega)]⟩
theorem m_do0 (p1 : Int32) : ∀ (m i f : Nat) (μ : QMem), i + m = 24 → m < f → (∀ j, j < i → μ 13 j = 0) → ∃ ν, fX12_does_L46 p1 f (nI i) μ = some ν ∧ (∀ j, j < 24 → ν 13 j = 0) ∧ ∀ k, ¬ k = 13 → ν k = μ k := by
  intro m
  induction m with
  | zero =>
    intro i f μ hi hf h
    obtain ⟨f, rfl⟩ : ∃ k, f = k + 1 := ⟨f - 1, by omega⟩
    have : i = 24 := by omega
    subst this
    rw [fX12_does_L46, if_pos (show (24 : Int32) ≤ nI 24 by decide)]
    exact ⟨μ, rfl, h, fun _ _ => rfl⟩
  | succ m ih =>
    intro i f μ hi hf h
    obtain ⟨f, rfl⟩ : ∃ k, f = k + 1 := ⟨f - 1, by omega⟩
    have c24 : ¬ (24 : Int32) ≤ nI i := nI_ge (b := 24) (by omega) (by decide)
    obtain ⟨ν, t1, t2, t3⟩ := ih (i + 1) f (ms μ 13 i 0) (by omega) (by omega) (fun j hj => by
      rw [ms_get]
      by_cases e : j = i
      · rw [if_pos ⟨rfl, e⟩]
      · rw [if_neg (fun z => e z.2)]; exact h j (by omega))
    rw [fX12_does_L46, if_neg c24, if_neg (nI_in (by rw [ml13']; omega) (by decide)), nI_clamp (by omega), show nI i + 1 = nI (i + 1) from nI_1 i, t1]
    exact ⟨ν, rfl, t2, fun k hk => by rw [t3 k hk, ms_cell _ hk]⟩
/-- one clause -/
theorem al_do {σ μ : QMem} {S : Nat → ZQ} (hS : RSl σ μ S) (hU : mUn μ) {c : Nat} (hc : c < 24) (hD : DW σ μ c) : ∃ σ2 μ2 S2, fX11_doClause (nI c) σ = some σ2 ∧ fX12_does (nI c) μ = some μ2 ∧ RSl σ2 μ2 S2 ∧ (∀ k, 6 ≤ k → σ2 k = σ k) ∧ ∀ k, ¬ k = 13 → μ2 k = μ k := by
  obtain ⟨w, w4, a1, a2, a3, a4, a5, a6, a7⟩ := hD
  have m24 : ml 24 = 24 := rfl
  have kc : (nI c).toNatClampNeg = c := nI_clamp (by omega)
  have g24 : ¬ (nI c < 0 ∨ ml 24 ≤ (nI c).toNatClampNeg) := nI_in (by rw [m24]; exact hc) (by decide)
  have e5 : 5 * nI c = nI (5 * c) := by rw [show (5 : Int32) = nI 5 from rfl, nI_mulM]
  have g25 : ¬ (nI (5 * c) < 0 ∨ ml 25 ≤ (nI (5 * c)).toNatClampNeg) := nI_in (by rw [ml25']; omega) (by decide)
  have g25' : ¬ (nI (5 * c + 1) < 0 ∨ ml 25 ≤ (nI (5 * c + 1)).toNatClampNeg) := nI_in (by rw [ml25']; omega) (by decide)
  have k5 : (nI (5 * c)).toNatClampNeg = 5 * c := nI_clamp (by omega)
  have k5' : (nI (5 * c + 1)).toNatClampNeg = 5 * c + 1 := nI_clamp (by omega)
  have W : ∀ j : Nat, j < 6 → fX8_word (nI c) (nI j) σ = some (σ 84 (6 * c + j), σ) := fun j hj => c_wd hc hj
  have W0 : fX8_word (nI c) 0 σ = some (σ 84 (6 * c), σ) := W 0 (by decide)
  have W1 : fX8_word (nI c) 1 σ = some (σ 84 (6 * c + 1), σ) := W 1 (by decide)
  have W2 : fX8_word (nI c) 2 σ = some (σ 84 (6 * c + 2), σ) := W 2 (by decide)
  have W3 : fX8_word (nI c) 3 σ = some (σ 84 (6 * c + 3), σ) := W 3 (by decide)
  have W4 : fX8_word (nI c) 4 σ = some (σ 84 (6 * c + 4), σ) := W 4 (by decide)
  have W5 : fX8_word (nI c) 5 σ = some (σ 84 (6 * c + 5), σ) := W 5 (by decide)
  have up : ∀ (s : Nat) (q : ZQ), s < 6 → qV q → RSl (qPut σ s q) (mPut μ 13 (4 * s) q) (uS S s q) := by
    intro s q hs vq t ht
    obtain ⟨v1, v2, v3⟩ := hS t ht
    unfold uS
    by_cases e : t = s
    · rw [if_pos e, e]
      exact ⟨vq, qPut_at _ _ _, mPut_at _ _ _ _⟩
    · rw [if_neg e]
      exact ⟨v1, qAt_ne e v2, mAt_far (by omega) v3⟩
  unfold fX11_doClause fX12_does
  rw [W1, Option.bind_some]
  simp only
  rw [W2, Option.bind_some]
  simp only
  rw [e5, if_neg g25, kc, a2]
  rw [kc] at g24
  rw [if_neg g24]
  by_cases h0 : w = 0
  · subst h0
    have i0 : fX11_isSlot 0 = some 1 := c_isSlot (s := 0) (by decide)
    obtain ⟨τ, t1, t2, t3⟩ := c_do0 (nI c) 6 0 FU σ (by omega) (by unfold FU; omega) (fun s hs => by omega)
    obtain ⟨ν, n1, n2, n3⟩ := m_do0 (nI c) 24 0 FU μ (by omega) (by unfold FU; omega) (fun s hs => by omega)
    rw [a3 rfl, i0, Option.bind_some, if_neg i10, W0, Option.bind_some]
    simp only
    rw [a1, if_pos (show nI 0 = (0 : Int32) from rfl), if_pos (show nI 0 = (0 : Int32) from rfl)]
    have q0 : qV z0 := ⟨by unfold zL; decide, by decide⟩
    refine ⟨τ, ν, fun _ => z0, t1, n1, fun s hs => ⟨q0, t2 s hs, ⟨n2 _ (by omega), n2 _ (by omega), n2 _ (by omega), n2 _ (by omega)⟩⟩, t3, n3⟩
  · obtain ⟨s, s6, b1, b2⟩ := a4 (by omega)
    have m1 : ¬ nI w = (0 : Int32) := nI_ne0 (by omega) (by omega)
    have es : 4 * nI s = nI (4 * s) := nI_mul4 s
    have os : 4 * s + 3 < ml 13 := by rw [ml13']; omega
    rw [b1, c_isSlot s6, Option.bind_some, if_neg i10, W0, Option.bind_some]
    simp only
    rw [a1, if_neg m1, if_neg m1]
    by_cases h1 : w = 1
    · subst h1
      obtain ⟨X, vX, ⟨x1, x2, x3, x4⟩, y⟩ := a5 rfl
      rw [if_pos (show nI 1 = (1 : Int32) from rfl), if_pos (show nI 1 = (1 : Int32) from rfl), if_neg (gs6 s6), es6 s6, W3, Option.bind_some]
      simp only
      rw [W4, Option.bind_some]
      simp only
      rw [W5, Option.bind_some]
      simp only
      rw [x1, show σ 84 (6 * c + 3) = _ from x2, show σ 84 (6 * c + 4) = _ from x3, show σ 84 (6 * c + 5) = _ from x4, c_put, k5, b2, es, show nI (5 * c) + 1 = nI (5 * c + 1) from nI_1 _, m_copies y (show 5 * c + 1 + 3 < ml 25 by rw [ml25']; omega) os (Or.inl (by decide))]
      exact ⟨_, _, uS S s X, rfl, rfl, up s X s6 vX, fun k hk => qPut_ne _ _ (by omega), fun k hk => mPut_cell _ _ _ hk⟩
    · have m2 : ¬ nI w = (1 : Int32) := fun z => h1 ((nI_eq (a := w) (b := 1) (by omega) (by decide)).mp z)
      rw [if_neg m2, if_neg m2]
      by_cases h2 : w = 2
      · subst h2
        obtain ⟨K, K24, y1, y2⟩ := a6 rfl
        rw [if_pos (show nI 2 = (2 : Int32) from rfl), if_pos (show nI 2 = (2 : Int32) from rfl), if_neg (gs6 s6), es6 s6, y1, c_unit K24, show nI (5 * c) + 1 = nI (5 * c + 1) from nI_1 _, if_neg g25', k5, k5', b2, y2, es, nI_mul4, m_copies (mUn_at hU K24) (show 4 * K + 3 < ml 1 by rw [ml1']; omega) os (Or.inl (by decide))]
        have qU : ∀ u, u < 24 → zL (zU u) ∧ zN4 (zU u) ≤ 600 := by unfold zL; decide +kernel
        exact ⟨_, _, uS S s (zU K), rfl, rfl, up s (zU K) s6 (qU K K24), fun k hk => qPut_ne _ _ (by omega), fun k hk => mPut_cell _ _ _ hk⟩
      · have h3 : w = 3 := by omega
        subst h3
        obtain ⟨T, T6, y1, y2⟩ := a7 rfl
        have m3 : ¬ nI 3 = (2 : Int32) := by decide
        obtain ⟨vT, qT, mT⟩ := hS T T6
        rw [if_neg m3, if_neg m3, if_pos (show nI 3 = (3 : Int32) from rfl), y1, c_isSlot T6, Option.bind_some, if_neg i10, if_neg (gs6 s6), if_neg (gs6 T6), es6 s6, es6 T6, c_copy s qT, show nI (5 * c) + 1 = nI (5 * c + 1) from nI_1 _, if_neg g25', k5, k5', b2, y2, es, nI_mul4, m_copies mT (show 4 * T + 3 < ml 13 by rw [ml13']; omega) os (by omega)]
        exact ⟨_, _, uS S s (S T), rfl, rfl, up s (S T) s6 vT, fun k hk => qPut_ne _ _ (by omega), fun k hk => mPut_cell _ _ _ hk⟩
