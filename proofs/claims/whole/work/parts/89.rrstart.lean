/-! THE TWO FRESH OBJECTS -/
theorem RR_start {σ μ : QMem} (hx : ∀ s, s < 6 → ∀ j, j < 4 → σ s j = 0) (hm : ∀ j, j < 24 → μ 13 j = 0) (h1 : σ 108 3 = 0) (h2 : σ 108 2 = 0) (h3 : μ 28 15 = 0) (h4 : ∀ k, k < 2 → σ (98 + k) 1 = 0 ∧ μ 15 k = 0) (h5 : σ 109 2 = 0) (h6 : μ 28 26 = 0) (h7 : ∀ t, t < 3 → σ (95 + t) 2 = 0 ∧ σ (95 + t) 1 = 0 ∧ μ 26 t = -1) (h8 : ∀ t, t < 3 → ∀ i, i < 6 → σ (79 + t) i = 0 ∧ μ 27 (6 * t + i) = 0) (h9 : σ 105 12 = 0) (h10 : μ 28 33 = 0) (hU : mUn μ) (hR : mRt μ) (hX : xRt σ) : RR σ μ := by
  have q0 : qV z0 := ⟨by unfold zL; decide, by decide⟩
  refine ⟨fun _ => z0, fun s hs => ⟨q0, ⟨hx s hs 0 (by decide), hx s hs 1 (by decide), hx s hs 2 (by decide), hx s hs 3 (by decide)⟩, ⟨hm _ (by omega), hm _ (by omega), hm _ (by omega), hm _ (by omega)⟩⟩, ⟨0, 0, fun _ _ => z0, by decide, by decide, h1, h2, h3, fun _ _ => rfl, fun i hi => by omega⟩, fun k hk => Or.inl (h4 k hk), ⟨0, by decide, h5, h6, fun i hi => by omega⟩, fun t ht => ⟨Or.inl (h7 t ht), fun i hi => ?_⟩, ?_, hU, hR, hX⟩
  · rw [(h8 t ht i hi).1, (h8 t ht i hi).2]
  · show σ 105 12 = μ 28 33
    rw [h9, h10]
