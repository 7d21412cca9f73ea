/-! THE TEXT, both sides: a clause */ -/
def rcK (w : Nat) (p1 : Int32) (σ : QMem) : Option (Int32 × QMem) :=
  if w = 0 then some (1, σ)
  else if w = 1 then (fX8_readNumber p1 1 5 σ).bind fun xq39 => (if xq39.1 = 0 then (some (0, xq39.2)) else ((fX8_readParts p1 xq39.2).bind fun xq42 => (if xq42.1 = 0 then (some (0, xq42.2)) else (some (1, xq42.2)))))
  else if w = 2 then (fX8_readNumber p1 1 5 σ).bind fun xq29 => (if xq29.1 = 0 then (some (0, xq29.2)) else ((fX8_readNumber p1 2 23 xq29.2).bind fun xq32 => (if xq32.1 = 0 then (some (0, xq32.2)) else (some (1, xq32.2)))))
  else (fX8_readNumber p1 1 5 σ).bind fun xq19 => (if xq19.1 = 0 then (some (0, xq19.2)) else ((fX8_readNumber p1 2 5 xq19.2).bind fun xq22 => (if xq22.1 = 0 then (some (0, xq22.2)) else (some (1, xq22.2)))))
def rmK (c : Nat) (μ : QMem) : Option QMem := if μ 24 c ≤ 0 then fX12_readsClause_J29 (nI c) (5 * nI c) μ else (fX12_takes (5 * nI c) 5 μ).bind fun xq27 => fX12_readsClause_J29 (nI c) (5 * nI c) xq27
/-- which name stands at s -/
theorem gnm_cases (n : Nat) (g : Nat → Nat) (s : Nat) : (∃ w, w < 4 ∧ gnm n g s w ∧ ∀ u, u < w → ¬ gnm n g s u) ∨ ∀ u, u < 4 → ¬ gnm n g s u := by
  by_cases h0 : gnm n g s 0
  · exact Or.inl ⟨0, by omega, h0, fun u hu => by omega⟩
  by_cases h1 : gnm n g s 1
  · exact Or.inl ⟨1, by omega, h1, fun u hu => by rw [show u = 0 by omega]; exact h0⟩
  by_cases h2 : gnm n g s 2
  · refine Or.inl ⟨2, by omega, h2, fun u hu => ?_⟩
    rcases (show u = 0 ∨ u = 1 by omega) with rfl | rfl
    · exact h0
    · exact h1
  by_cases h3 : gnm n g s 3
  · refine Or.inl ⟨3, by omega, h3, fun u hu => ?_⟩
    rcases (show u = 0 ∨ u = 1 ∨ u = 2 by omega) with rfl | rfl | rfl
    · exact h0
    · exact h1
    · exact h2
  · refine Or.inr (fun u hu => ?_)
    rcases (show u = 0 ∨ u = 1 ∨ u = 2 ∨ u = 3 by omega) with rfl | rfl | rfl | rfl
    · exact h0
    · exact h1
    · exact h2
    · exact h3
theorem m_words {n : Nat} {g : Nat → Nat} (ho : gOk n g) {μ : QMem} (hx : mTx μ n g) {s : Nat} (hs : s ≤ n) (h27 : μ 28 27 = nI s) : fX12_isWord 97 108 108 0 μ = some (bI (gnb n g s 0), μ) ∧ fX12_isWord 112 117 116 0 μ = some (bI (gnb n g s 1), μ) ∧ fX12_isWord 117 110 105 116 μ = some (bI (gnb n g s 2), μ) ∧ fX12_isWord 99 111 112 121 μ = some (bI (gnb n g s 3), μ) :=
  ⟨m_word ho hx hs h27 (w := 0) (p1 := 97) (p2 := 108) (p3 := 108) (p4 := 0) (L := 3) (by decide) rfl rfl rfl rfl (by decide) (by decide) (by decide) (by decide) (by decide) (by decide),
   m_word ho hx hs h27 (w := 1) (p1 := 112) (p2 := 117) (p3 := 116) (p4 := 0) (L := 3) (by decide) rfl rfl rfl rfl (by decide) (by decide) (by decide) (by decide) (by decide) (by decide),
   m_word ho hx hs h27 (w := 2) (p1 := 117) (p2 := 110) (p3 := 105) (p4 := 116) (L := 4) (by decide) rfl rfl rfl rfl (fun _ => rfl) (by decide) (by decide) (by decide) (by decide) (by decide),
   m_word ho hx hs h27 (w := 3) (p1 := 99) (p2 := 111) (p3 := 112) (p4 := 121) (L := 4) (by decide) rfl rfl rfl rfl (fun _ => rfl) (by decide) (by decide) (by decide) (by decide) (by decide)⟩
/-- the word, on the reference's side -/
theorem m_rw {n : Nat} {g : Nat → Nat} (ho : gOk n g) {σ μ : QMem} {s : Nat} (hA : Al n g σ μ s) :
    (∀ w, w < 4 → gnm n g s w → (∀ u, u < w → ¬ gnm n g s u) → ∃ τ, fX12_readsWord μ = some (nI w, τ) ∧ τ 28 27 = nI (gte n g s) ∧ τ 28 28 = 0 ∧ tmF mk278 μ τ) ∧
    ((∀ u, u < 4 → ¬ gnm n g s u) → ∃ τ, fX12_readsWord μ = some (-1, τ) ∧ τ 28 27 = nI s ∧ τ 28 28 = 1 ∧ tmF mk278 μ τ) := by
  obtain ⟨hx, hm, hs, hk, ⟨r, hr, er, h27⟩, h28⟩ := hA
  obtain ⟨ν, n1, n2, n3⟩ := m_look ho hm hr h27
  rw [er] at n1 n2
  obtain ⟨W0, W1, W2, W3⟩ := m_words ho (mTx_F hm n3 (by decide)) hs n2
  have f3 : tmF mk278 μ ν := n3.weaken (fun j h => Or.inl h)
  have fin : ∀ (w L : Nat), gnm n g s w → (qnm w).length = L → tmF mk278 μ (ms (ms ν 28 28 0) 28 27 ((ms ν 28 28 0) 28 27 + nI L)) ∧ (ms (ms ν 28 28 0) 28 27 ((ms ν 28 28 0) 28 27 + nI L)) 28 27 = nI (gte n g s) ∧ (ms (ms ν 28 28 0) 28 27 ((ms ν 28 28 0) 28 27 + nI L)) 28 28 = 0 := by
    intro w L hw hL
    refine ⟨(f3.trans (tmF_ms ν _ (Or.inr rfl))).trans (tmF_ms _ _ (Or.inl rfl)), ?_, ?_⟩
    · rw [ms_same, ms_get, if_neg (by decide), n2, nI_add, hw.2.1, hL]
    · rw [ms_get, if_neg (by decide), ms_same]
  have tf : ¬ (true = false) := by decide
  have ok0 : ∀ (w : Int32), ¬ w = -1 → fX12_readsWord_J80 w ν = if (2 : Int32) ≤ w then some (w, ms (ms ν 28 28 0) 28 27 ((ms ν 28 28 0) 28 27 + nI 4)) else some (w, ms (ms ν 28 28 0) 28 27 ((ms ν 28 28 0) 28 27 + nI 3)) := by
    intro w hw
    unfold fX12_readsWord_J80 fX12_readsWord_J92 fX12_readsWord_J121
    rw [if_neg hw, if_neg (by decide), if_pos (ms_same _ _ _ _)]
    rfl
  unfold fX12_readsWord
  rw [n1, Option.bind_some]
  simp only
  rw [W0, Option.bind_some]
  simp only [bI_0]
  constructor
  · intro w hw hg hu
    rcases (show w = 0 ∨ w = 1 ∨ w = 2 ∨ w = 3 by omega) with rfl | rfl | rfl | rfl
    · obtain ⟨q1, q2, q3⟩ := fin 0 3 hg rfl
      rw [gnb_t hg, if_neg tf, ok0 0 (by decide), if_neg (by decide)]
      exact ⟨_, rfl, q2, q3, q1⟩
    · obtain ⟨q1, q2, q3⟩ := fin 1 3 hg rfl
      rw [gnb_f (hu 0 (by omega)), if_pos rfl, W1, Option.bind_some]
      simp only [bI_0]
      rw [gnb_t hg, if_neg tf, ok0 1 (by decide), if_neg (by decide)]
      exact ⟨_, rfl, q2, q3, q1⟩
    · obtain ⟨q1, q2, q3⟩ := fin 2 4 hg rfl
      rw [gnb_f (hu 0 (by omega)), if_pos rfl, W1, Option.bind_some]
      simp only [bI_0]
      rw [gnb_f (hu 1 (by omega)), if_pos rfl, W2, Option.bind_some]
      simp only [bI_0]
      rw [gnb_t hg, if_neg tf, ok0 2 (by decide), if_pos (by decide)]
      exact ⟨_, rfl, q2, q3, q1⟩
    · obtain ⟨q1, q2, q3⟩ := fin 3 4 hg rfl
      rw [gnb_f (hu 0 (by omega)), if_pos rfl, W1, Option.bind_some]
      simp only [bI_0]
      rw [gnb_f (hu 1 (by omega)), if_pos rfl, W2, Option.bind_some]
      simp only [bI_0]
      rw [gnb_f (hu 2 (by omega)), if_pos rfl, W3, Option.bind_some]
      simp only [bI_0]
      rw [gnb_t hg, if_neg tf, ok0 3 (by decide), if_pos (by decide)]
      exact ⟨_, rfl, q2, q3, q1⟩
  · intro hu
    rw [gnb_f (hu 0 (by omega)), if_pos rfl, W1, Option.bind_some]
    simp only [bI_0]
    rw [gnb_f (hu 1 (by omega)), if_pos rfl, W2, Option.bind_some]
    simp only [bI_0]
    rw [gnb_f (hu 2 (by omega)), if_pos rfl, W3, Option.bind_some]
    simp only [bI_0]
    rw [gnb_f (hu 3 (by omega)), if_pos rfl]
    unfold fX12_readsWord_J80 fX12_readsWord_J92 fX12_readsWord_J121
    have s1 : (ms ν 28 28 1) 28 28 = 1 := ms_same _ _ _ _
    rw [if_pos rfl, if_neg (by decide), s1, if_neg (by decide)]
    refine ⟨_, rfl, ?_, ?_, (f3.trans (tmF_ms ν _ (Or.inr rfl))).trans (tmF_ms _ _ (Or.inl rfl))⟩
    · rw [ms_same, ms_get, if_neg (by decide), n2]
      exact Int32.add_zero _
    · rw [ms_get, if_neg (by decide), ms_same]
