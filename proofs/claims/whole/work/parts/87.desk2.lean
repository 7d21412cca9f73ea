theorem dkE_c (σ : QMem) {k : Nat} (h : ¬ (95 ≤ k ∧ k ≤ 99) ∧ ¬ k = 108 ∧ ¬ k = 109) : dkE σ k = σ k := by
  unfold dkE
  rw [ms_cell _ (by omega), ms_cell _ (by omega), ms_cell _ (by omega), ms_cell _ (by omega), ms_cell _ (by omega), ms_cell _ (by omega), ms_cell _ (by omega), ms_cell _ (by omega), ms_cell _ (by omega), ms_cell _ (by omega)]
theorem dmE_c (μ : QMem) {k : Nat} (h : ¬ k = 15 ∧ ¬ k = 26 ∧ ¬ k = 28) : dmE μ k = μ k := by
  unfold dmE
  rw [ms_cell _ (by omega), ms_cell _ (by omega), ms_cell _ (by omega), ms_cell _ (by omega), ms_cell _ (by omega), ms_cell _ (by omega)]
theorem dmE_28 (μ : QMem) {j : Nat} (h : ¬ j = 15) : dmE μ 28 j = μ 28 j := by
  unfold dmE
  rw [ms_cell _ (by omega), ms_cell _ (by omega), ms_cell _ (by omega), ms_cell _ (by omega), ms_cell _ (by omega), ms_get, if_neg (fun z => h z.2)]
theorem ag_desk (σ μ : QMem) (h : RR σ μ) : ∃ (r : Int32) (σ2 μ2 : QMem), fX11_desk σ = some (r, σ2) ∧ fX12_desk μ = some (r, μ2) ∧ RR σ2 μ2 := by
  obtain ⟨S, hS⟩ := h
  unfold fX11_desk fX12_desk
  rcases al_whole hS.2.2.2.1 with ⟨σ2, μ2, p, k, v1, v2, v3, v4, v5, v6, v7⟩ | ⟨σ2, μ2, C, v1, v2, v3, v4, v5, v6, v7, v8⟩
  · have n0 : ¬ μ2 28 28 = 0 := by rw [v4]; decide
    have np : ¬ nI p = -1 := by
      intro e
      have : (nI p).toInt = -1 := by rw [e]; decide
      rw [nI_toInt (by omega)] at this
      omega
    rw [v2, v3, Option.bind_some, Option.bind_some, if_neg n0]
    simp only
    rw [if_neg np]
    exact ⟨_, _, _, rfl, rfl, ⟨S, RRS_keep hS v6.sX v7.sM⟩⟩
  · have hK := RRS_keep hS v7.sX v8.sM
    obtain ⟨k1, k2, k3, k4, k5, k6, k7⟩ := hK
    have c8 : fX8_clauses σ2 = some (nI C, σ2) := by unfold fX8_clauses; rw [v3]
    rw [v2, v4, Option.bind_some, Option.bind_some, if_pos v5]
    simp only
    rw [if_pos trivial, c8, Option.bind_some]
    have hU : mUn (ms μ2 28 26 0) := by unfold mUn; rw [ms_cell _ (by decide)]; exact k7.1
    obtain ⟨σ3, μ3, S3, t1, t2, t3, t4, t5⟩ := al_dos v1 C 0 FU FU σ2 (ms μ2 28 26 0) S (by omega) (by unfold FU; omega) (by unfold FU; omega) (RSl_of k1 (fun _ _ => rfl) (ms_cell _ (by decide) _ _)) hU (fun k hk => DW_cong (v6 k hk) (fun j _ => rfl) (by rw [ms_cell _ (by decide)]) (fun j _ => by rw [ms_cell _ (by decide)]))
    refine ⟨nI C, dkE σ3, dmE μ3, t1, t2, S3, ?_⟩
    have X : ∀ k, 6 ≤ k → ¬ (95 ≤ k ∧ k ≤ 99) → ¬ k = 108 → ¬ k = 109 → dkE σ3 k = σ2 k := fun k a b c d => by rw [dkE_c σ3 ⟨b, c, d⟩, t4 k a]
    have M : ∀ k, ¬ k = 13 → ¬ k = 15 → ¬ k = 26 → ¬ k = 28 → dmE μ3 k = μ2 k := fun k a b c d => by rw [dmE_c μ3 ⟨b, c, d⟩, t5 k a, ms_cell _ d]
    have M28 : ∀ j, ¬ j = 15 → ¬ j = 26 → dmE μ3 28 j = μ2 28 j := fun j a b => by rw [dmE_28 μ3 a, t5 28 (by decide), ms_get, if_neg (fun z => b z.2)]
    obtain ⟨c, b, T, p1, p2, p3, p4, p5, p6, p7⟩ := k2
    refine ⟨RSl_of t3 (fun k hk => dkE_c σ3 (by omega)) (dmE_c μ3 (by decide)), ⟨0, b, fun _ => S3, by omega, p2, ?_, ?_, ?_, fun s _ => rfl, fun i hi => by omega⟩, ?_, ⟨0, by omega, ?_, ?_, fun i hi => by omega⟩, ?_, ?_, RB_of k7 (M 1 (by decide) (by decide) (by decide) (by decide)) (M 0 (by decide) (by decide) (by decide) (by decide)) (X 85 (by decide) (by decide) (by decide) (by decide))⟩
    · unfold dkE; simp [ms_get]; rfl
    · have : dkE σ3 108 2 = σ3 108 2 := by unfold dkE; simp [ms_get]
      rw [this, t4 108 (by decide)]; exact p4
    · unfold dmE; simp [ms_get]; rfl
    · intro k hk
      left
      rcases (show k = 0 ∨ k = 1 by omega) with rfl | rfl
      · constructor
        · unfold dkE; simp [ms_get]
        · unfold dmE; simp [ms_get]
      · constructor
        · unfold dkE; simp [ms_get]
        · unfold dmE; simp [ms_get]
    · unfold dkE; simp [ms_get]; rfl
    · rw [dmE_28 μ3 (by decide), t5 28 (by decide), ms_get, if_pos ⟨rfl, rfl⟩]; rfl
    · intro t ht
      refine ⟨Or.inl ?_, fun i hi => ?_⟩
      · rcases (show t = 0 ∨ t = 1 ∨ t = 2 by omega) with rfl | rfl | rfl
        · refine ⟨?_, ?_, ?_⟩
          · unfold dkE; simp [ms_get]
          · unfold dkE; simp [ms_get]
          · unfold dmE; simp [ms_get]
        · refine ⟨?_, ?_, ?_⟩
          · unfold dkE; simp [ms_get]
          · unfold dkE; simp [ms_get]
          · unfold dmE; simp [ms_get]
        · refine ⟨?_, ?_, ?_⟩
          · unfold dkE; simp [ms_get]
          · unfold dkE; simp [ms_get]
          · unfold dmE; simp [ms_get]
      · rw [X _ (by omega) (by omega) (by omega) (by omega), M 27 (by decide) (by decide) (by decide) (by decide)]
        exact (k5 t ht).2 i hi
    · unfold RN
      rw [X 105 (by decide) (by decide) (by decide) (by decide), M28 33 (by decide) (by decide)]
      exact k6
