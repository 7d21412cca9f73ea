/-! the reference's units, as it finds them -/
theorem zAll_1 : zAll 1 = (List.range 24).map zU := by decide +kernel
theorem zF_all {P : ZQ → Prop} (h : ∀ x, P x) : ∀ l : List ZQ, zF P l = l := by
  intro l
  induction l with
  | nil => rfl
  | cons x t ih => rw [zF_yes (h x), ih]
theorem m_start {μ : QMem} (hR : mRt μ) (h6 : μ 28 6 = 0) : ∃ τ, fX12_gathers 1 0 0 0 24 μ = some τ ∧ (∀ j, j < 96 → τ 5 j = xU j) ∧ fr gaP μ τ := by
  have hI : gIh false μ 0 z0 z0 := ⟨fun e => absurd e (by decide), ⟨by decide, fun z => absurd z (by decide), fun z => absurd z (by decide)⟩, hR⟩
  obtain ⟨τ, t1, t2, t3⟩ := m_gathersh 0 false (tg := 0) (most := 24) (nn := 1) (by decide) (by decide) (by decide) hI (L := []) ⟨h6, by decide, rwF_nil _⟩ (by decide)
  rw [zF_all (fun x => ⟨fun z => absurd z (by decide), fun z => absurd z (by decide), fun z => absurd z (by decide)⟩), zAll_1, List.nil_append] at t2
  have e24 : ((List.range 24).map zU).take (24 - ([] : List ZQ).length) = (List.range 24).map zU := by decide +kernel
  rw [e24] at t2
  refine ⟨τ, t1, fun j hj => ?_, t3⟩
  obtain ⟨-, -, rw5⟩ := t2
  have len : ((List.range 24).map zU).length = 24 := by decide +kernel
  have hu : j / 4 < 24 := by omega
  obtain ⟨a1, a2, a3, a4⟩ := rw5 (j / 4) (by rw [len]; exact hu)
  have eg : ((List.range 24).map zU).getD (j / 4) z0 = zU (j / 4) := by
    rw [List.getD_eq_getElem?_getD, List.getElem?_map, List.getElem?_range hu]
    rfl
  rw [eg] at a1 a2 a3 a4
  obtain ⟨x1, x2, x3, x4⟩ := xU_zU (j / 4) hu
  rcases (show j = 4 * (j / 4) ∨ j = 4 * (j / 4) + 1 ∨ j = 4 * (j / 4) + 2 ∨ j = 4 * (j / 4) + 3 by omega) with e | e | e | e
  · rw [e]; exact a1.trans x1.symm
  · rw [e]; exact a2.trans x2.symm
  · rw [e]; exact a3.trans x3.symm
  · rw [e]; exact a4.trans x4.symm
