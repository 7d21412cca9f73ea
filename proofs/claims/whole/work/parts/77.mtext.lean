/-! THE TEXT, on the reference's side -/
def tmF (P : Nat → Prop) (σ τ : QMem) : Prop := (∀ c, ¬ c = 28 → τ c = σ c) ∧ ∀ j, ¬ P j → τ 28 j = σ 28 j
theorem tmF.refl (P : Nat → Prop) (σ : QMem) : tmF P σ σ := ⟨fun _ _ => rfl, fun _ _ => rfl⟩
theorem tmF.trans {P : Nat → Prop} {σ τ ρ : QMem} (h1 : tmF P σ τ) (h2 : tmF P τ ρ) : tmF P σ ρ := ⟨fun c hc => (h2.1 c hc).trans (h1.1 c hc), fun j hj => (h2.2 j hj).trans (h1.2 j hj)⟩
theorem tmF.weaken {P Q : Nat → Prop} {σ τ : QMem} (h : tmF P σ τ) (hPQ : ∀ j, P j → Q j) : tmF Q σ τ := ⟨h.1, fun j hj => h.2 j fun p => hj (hPQ j p)⟩
theorem tmF_ms {P : Nat → Prop} (σ : QMem) {j : Nat} (v : Int32) (h : P j) : tmF P σ (ms σ 28 j v) := ⟨fun c hc => ms_cell σ hc _ _, fun i hi => by rw [ms_get, if_neg]; rintro ⟨-, rfl⟩; exact hi h⟩
theorem mTx_F {P : Nat → Prop} {σ τ : QMem} {n : Nat} {g : Nat → Nat} (h : mTx σ n g) (hs : tmF P σ τ) (h2 : ¬ P 26) : mTx τ n g := ⟨by rw [hs.2 26 h2]; exact h.1, by rw [hs.1 23 (by decide)]; exact h.2⟩
def gl (n : Nat) (g : Nat → Nat) (s : Nat) : Int32 := if s < n then nI (g s) else -1
theorem ml23' : ml 23 = 200 := rfl
theorem m_look0 {n : Nat} {g : Nat → Nat} (ho : gOk n g) : ∀ (m i f : Nat) (μ : QMem), i + m = n → m < f → μ 28 27 = nI i → mTx μ n g → ∃ τ, fX12_looks_L0 f μ = some (gl n g (gs n g i), τ) ∧ τ 28 27 = nI (gs n g i) ∧ tmF (fun j => j = 27) μ τ := by
  have h200 := ho.1
  intro m
  induction m with
  | zero =>
    intro i f μ hi hf h27 hx
    obtain ⟨f, rfl⟩ : ∃ k, f = k + 1 := ⟨f - 1, by omega⟩
    have c : nI n ≤ nI i := nI_le (by omega) (by omega)
    rw [fX12_looks_L0, gs_stay (fun z => by omega), hx.1, h27, if_pos c]
    unfold fX12_looks_J38
    rw [hx.1, h27, if_pos c]
    unfold gl
    rw [if_neg (show ¬ i < n by omega)]
    exact ⟨μ, rfl, h27, tmF.refl _ _⟩
  | succ m ih =>
    intro i f μ hi hf h27 hx
    obtain ⟨f, rfl⟩ : ∃ k, f = k + 1 := ⟨f - 1, by omega⟩
    have hin : i < n := by omega
    have b := ho.2 i hin
    have c : ¬ nI n ≤ nI i := nI_ge hin (by omega)
    have gd : ¬ (nI i < 0 ∨ ml 23 ≤ (nI i).toNatClampNeg) := nI_in (by rw [ml23']; omega) (by decide)
    have q : (nI (g i) = (32 : Int32)) = (g i = 32) := propext (nI_eq (a := g i) (b := 32) (by omega) (by decide))
    rw [fX12_looks_L0, hx.1, h27, if_neg c, if_neg gd, nI_clamp (by omega), hx.2 i hin]
    simp only [q]
    by_cases h32 : g i = 32
    · rw [if_pos h32, show nI i + 1 = nI (i + 1) from nI_1 i, gs_step ⟨hin, h32⟩]
      have fr1 : tmF (fun j => j = 27) μ (ms μ 28 27 (nI (i + 1))) := tmF_ms μ _ rfl
      obtain ⟨τ, t1, t2, t3⟩ := ih (i + 1) f (ms μ 28 27 (nI (i + 1))) (by omega) (by omega) (ms_same _ _ _ _) (mTx_F hx fr1 (by decide))
      exact ⟨τ, t1, t2, fr1.trans t3⟩
    · rw [if_neg h32, gs_stay (fun z => h32 z.2)]
      unfold fX12_looks_J38
      rw [hx.1, h27, if_neg c, if_neg gd, nI_clamp (by omega), hx.2 i hin]
      unfold gl
      rw [if_pos hin]
      exact ⟨μ, rfl, h27, tmF.refl _ _⟩
theorem m_look {n : Nat} {g : Nat → Nat} (ho : gOk n g) {μ : QMem} (hx : mTx μ n g) {i : Nat} (hi : i ≤ n) (h27 : μ 28 27 = nI i) : ∃ τ, fX12_looks μ = some (gl n g (gs n g i), τ) ∧ τ 28 27 = nI (gs n g i) ∧ tmF (fun j => j = 27) μ τ := by
  have h200 := ho.1
  have e : fX12_looks μ = fX12_looks_L0 (FU + 1) μ := rfl
  rw [e]
  exact m_look0 ho (n - i) i (FU + 1) μ (by omega) (by unfold FU; omega) h27 hx
theorem in_nat {t lo hi : Nat} (ht : t < 100000) (h1 : lo < 100000) (h2 : hi < 100000) : fX12_in (nI t) (nI lo) (nI hi) = some (bI (decide (lo ≤ t ∧ t ≤ hi))) := by
  unfold fX12_in
  by_cases a : lo ≤ t
  · by_cases b : t ≤ hi
    · rw [decide_eq_true ⟨a, b⟩]
      simp (disch := omega) only [Option.bind_some, i32_lit2, nI_add, nI_mulM, cI, nI_ltT, nI_ltF, nI_leT, nI_leF, nI_eqF, nat_leF, or_self, or_false, false_or, if_true, if_false, not_true, not_false, bI_n0, bI_n1, b_em, eq_self, pLtT, pLtF, pLeT, pLeF, nLtT, nLtF, nLeT, nLeF, pEqF]; rfl
    · rw [decide_eq_false (fun z => b z.2)]
      simp (disch := omega) only [Option.bind_some, i32_lit2, nI_add, nI_mulM, cI, nI_ltT, nI_ltF, nI_leT, nI_leF, nI_eqF, nat_leF, or_self, or_false, false_or, if_true, if_false, not_true, not_false, bI_n0, bI_n1, b_em, eq_self, pLtT, pLtF, pLeT, pLeF, nLtT, nLtF, nLeT, nLeF, pEqF]; rfl
  · rw [decide_eq_false (fun z => a z.1)]
    simp (disch := omega) only [Option.bind_some, i32_lit2, nI_add, nI_mulM, cI, nI_ltT, nI_ltF, nI_leT, nI_leF, nI_eqF, nat_leF, or_self, or_false, false_or, if_true, if_false, not_true, not_false, bI_n0, bI_n1, b_em, eq_self, pLtT, pLtF, pLeT, pLeF, nLtT, nLtF, nLeT, nLeF, pEqF]; rfl
theorem m_letter {n : Nat} {g : Nat → Nat} (ho : gOk n g) {μ : QMem} (hx : mTx μ n g) {i : Nat} (hi : i ≤ 10000) : fX12_isLetter (nI i) μ = some (bI (decide (gk n g i = 1)), μ) := by
  have h200 := ho.1
  unfold fX12_isLetter
  rw [hx.1]
  by_cases h : i < n
  · have b := ho.2 i h
    rw [if_neg (nI_ge h (by omega)), if_neg (nI_in (by rw [ml23']; omega) (by decide)), nI_clamp (by omega), hx.2 i h, show (97 : Int32) = nI 97 from rfl, show (122 : Int32) = nI 122 from rfl, in_nat (by omega) (by decide) (by decide), Option.bind_some]
    simp only [bI_0]
    unfold gk
    rw [if_neg (show ¬ n ≤ i by omega)]
    by_cases c : 97 ≤ g i ∧ g i ≤ 122
    · rw [decide_eq_true c, if_neg (by decide), if_pos c]; rfl
    · rw [decide_eq_false c, if_pos rfl, if_neg c, decide_eq_false]
      · rfl
      · split <;> omega
  · rw [if_pos (nI_le (by omega) (by omega)), decide_eq_false]
    · rfl
    · rw [gk_0.mpr (show n ≤ i by omega)]; omega
theorem m_figure {n : Nat} {g : Nat → Nat} (ho : gOk n g) {μ : QMem} (hx : mTx μ n g) {i : Nat} (hi : i ≤ 10000) : fX12_isFigure (nI i) μ = some (bI (decide (gk n g i = 2)), μ) := by
  have h200 := ho.1
  unfold fX12_isFigure
  rw [hx.1]
  by_cases h : i < n
  · have b := ho.2 i h
    rw [if_neg (nI_ge h (by omega)), if_neg (nI_in (by rw [ml23']; omega) (by decide)), nI_clamp (by omega), hx.2 i h, show (48 : Int32) = nI 48 from rfl, show (57 : Int32) = nI 57 from rfl, in_nat (by omega) (by decide) (by decide), Option.bind_some]
    simp only [bI_0]
    unfold gk
    rw [if_neg (show ¬ n ≤ i by omega)]
    by_cases c : 48 ≤ g i ∧ g i ≤ 57
    · rw [decide_eq_true c, if_neg (by decide), if_neg (show ¬ (97 ≤ g i ∧ g i ≤ 122) by omega), if_pos c]; rfl
    · rw [decide_eq_false c, if_pos rfl, if_neg c, decide_eq_false]
      · rfl
      · split <;> omega
  · rw [if_pos (nI_le (by omega) (by omega)), decide_eq_false]
    · rfl
    · rw [gk_0.mpr (show n ≤ i by omega)]; omega
theorem gnm_iff {n : Nat} {g : Nat → Nat} {s w : Nat} (hs : s ≤ n) (hw : w < 4) : gnm n g s w ↔ s + (qnm w).length ≤ n ∧ (∀ v, v < (qnm w).length → g (s + v) = (qnm w).getD v 0) ∧ ¬ gk n g (s + (qnm w).length) = 1 := by
  obtain ⟨l3, l4, lc⟩ := qnm_b w hw
  constructor
  · rintro ⟨h1, h2, h3⟩
    obtain ⟨t1, t2⟩ := gte_b (g := g) hs
    refine ⟨by omega, h3, ?_⟩
    obtain ⟨-, e2⟩ := gte_12 (Or.inl h1)
    rw [← h2]
    by_cases c : gte n g s < n
    · rw [← h1]; exact e2 c
    · rw [gk_0.mpr (show n ≤ gte n g s by omega)]; omega
  · rintro ⟨h1, h2, h3⟩
    have kv : ∀ v, v < (qnm w).length → gk n g (s + v) = 1 := by
      intro v hv
      have e := h2 v hv
      have b := lc v hv
      unfold gk
      rw [if_neg (by omega), if_pos (by omega)]
    have k0 : gk n g s = 1 := kv 0 (by omega)
    refine ⟨k0, ?_, h2⟩
    obtain ⟨e1, e2⟩ := gte_12 (Or.inl k0)
    rcases Nat.lt_trichotomy (gte n g s) (s + (qnm w).length) with z | z | z
    · exfalso
      have := e2 (by omega)
      have h := kv (gte n g s - s) (by omega)
      rw [show s + (gte n g s - s) = gte n g s by omega] at h
      omega
    · exact z
    · exfalso
      have := gte_in (n := n) (g := g) (s := s) (j := s + (qnm w).length) (by omega) z
      omega
/-- one letter of a word -/
theorem m_lt {n : Nat} {g : Nat → Nat} (ho : gOk n g) {μ : QMem} (hx : mTx μ n g) {i x : Nat} (hi : i < n) (hb : x < 1000) : (¬ (nI i < 0 ∨ ml 23 ≤ (nI i).toNatClampNeg)) ∧ (μ 23 (nI i).toNatClampNeg = nI x ↔ g i = x) := by
  have h200 := ho.1
  have b := ho.2 i hi
  refine ⟨nI_in (by rw [ml23']; omega) (by decide), ?_⟩
  rw [nI_clamp (by omega), hx.2 i hi]
  exact nI_eq (by omega) (by omega)
theorem m_word {n : Nat} {g : Nat → Nat} (ho : gOk n g) {μ : QMem} (hx : mTx μ n g) {s : Nat} (hs : s ≤ n) (h27 : μ 28 27 = nI s) {w p1 p2 p3 p4 L : Nat} (hw : w < 4) (hL : (qnm w).length = L) (e1 : (qnm w).getD 0 0 = p1) (e2 : (qnm w).getD 1 0 = p2) (e3 : (qnm w).getD 2 0 = p3) (e4 : L = 4 → (qnm w).getD 3 0 = p4) (h4 : p4 = 0 ↔ L = 3) (b1 : p1 < 1000) (b2 : p2 < 1000) (b3 : p3 < 1000) (b4 : p4 < 1000) : fX12_isWord (nI p1) (nI p2) (nI p3) (nI p4) μ = some (bI (gnb n g s w), μ) := by
  have h200 := ho.1
  obtain ⟨l3, l4, lc⟩ := qnm_b w hw
  have iff := gnm_iff (g := g) hs hw
  rw [hL] at l3 l4 iff
  have core : fX12_isWord_J10 (nI p1) (nI p2) (nI p3) (nI p4) (nI L) μ = some (bI (gnb n g s w), μ) := by
    unfold fX12_isWord_J10 fX12_isWord_J73 fX12_isWord_J74 fX12_isWord_J102
    rw [h27, hx.1, nI_add]
    have t0 : ¬ (1 : Int32) = 0 := by decide
    by_cases c : n < s + L
    · rw [if_pos (nI_lt c (by omega)), if_pos rfl, gnb_f (fun z => by have := iff.mp z; omega)]
      rfl
    · rw [if_neg (nI_nlt (by omega) (by omega))]
      obtain ⟨g0, q0⟩ := m_lt ho hx (i := s) (x := p1) (by omega) b1
      obtain ⟨g1, q1⟩ := m_lt ho hx (i := s + 1) (x := p2) (by omega) b2
      obtain ⟨g2, q2⟩ := m_lt ho hx (i := s + 2) (x := p3) (by omega) b3
      rw [if_neg g0, show nI s + 1 = nI (s + 1) from nI_1 s, show nI s + 2 = nI (s + 2) from nI_add s 2, show nI s + 3 = nI (s + 3) from nI_add s 3]
      simp only [q0, q1, q2]
      have no : ∀ v x : Nat, v < L → (qnm w).getD v 0 = x → ¬ g (s + v) = x → ¬ gnm n g s w := fun v x hv hx' hn z => hn (by rw [(iff.mp z).2.1 v hv]; exact hx')
      by_cases k0 : g s = p1
      · rw [if_pos k0, if_neg g1]
        by_cases k1 : g (s + 1) = p2
        · rw [if_pos k1, if_neg g2]
          by_cases k2 : g (s + 2) = p3
          · rw [if_pos k2, if_neg t0, m_letter ho hx (by omega), Option.bind_some]
            simp only [bI_0]
            have fin : (∀ v, v < L → g (s + v) = (qnm w).getD v 0) → (if decide (gk n g (s + L) = 1) = false then some ((1 : Int32), μ) else some ((0 : Int32), μ)) = some (bI (gnb n g s w), μ) := by
              intro hv
              by_cases kl : gk n g (s + L) = 1
              · rw [decide_eq_true kl, if_neg (by decide), gnb_f (fun z => (iff.mp z).2.2 kl)]; rfl
              · rw [decide_eq_false kl, if_pos rfl, gnb_t (iff.mpr ⟨by omega, hv, kl⟩)]; rfl
            by_cases hz : p4 = 0
            · have l : L = 3 := h4.mp hz
              have cz : nI p4 = 0 := by rw [hz]; rfl
              rw [if_pos cz]
              refine fin (fun v hv => ?_)
              rcases (show v = 0 ∨ v = 1 ∨ v = 2 by omega) with rfl | rfl | rfl
              · rw [e1]; exact k0
              · rw [e2]; exact k1
              · rw [e3]; exact k2
            · have l : L = 4 := by have : ¬ L = 3 := fun z => hz (h4.mpr z); omega
              have cz : ¬ nI p4 = 0 := nI_ne0 (by omega) (by omega)
              obtain ⟨g3, q3⟩ := m_lt ho hx (i := s + 3) (x := p4) (by omega) b4
              rw [if_neg cz, if_neg g3]
              simp only [q3]
              by_cases k3 : g (s + 3) = p4
              · rw [if_pos k3]
                refine fin (fun v hv => ?_)
                rcases (show v = 0 ∨ v = 1 ∨ v = 2 ∨ v = 3 by omega) with rfl | rfl | rfl | rfl
                · rw [e1]; exact k0
                · rw [e2]; exact k1
                · rw [e3]; exact k2
                · rw [e4 l]; exact k3
              · rw [if_neg k3, gnb_f (no 3 p4 (by omega) (e4 l) k3)]; rfl
          · rw [if_neg k2, if_pos trivial, gnb_f (no 2 p3 (by omega) e3 k2)]; rfl
        · rw [if_neg k1, if_pos trivial, gnb_f (no 1 p2 (by omega) e2 k1)]; rfl
      · rw [if_neg k0, if_pos trivial, gnb_f (no 0 p1 (by omega) e1 k0)]; rfl
  unfold fX12_isWord
  by_cases hz : p4 = 0
  · have cz : nI p4 = 0 := by rw [hz]; rfl
    rw [if_pos cz]
    have l : L = 3 := h4.mp hz
    rw [l] at core
    exact core
  · have cz : ¬ nI p4 = 0 := nI_ne0 (by omega) (by omega)
    rw [if_neg cz]
    have l : L = 4 := by have : ¬ L = 3 := fun z => hz (h4.mpr z); omega
    rw [l] at core
    exact core
