/-! THE TEXT: figures on the reference's side -/
def fgT (n : Nat) (g : Nat → Nat) (s : Nat) : Nat := if gk n g s = 2 then gte n g s - s else 0
def fgV (g : Nat → Nat) (s j : Nat) : Nat := if j = 0 then 0 else if j = 1 then g s - 48 else 10 * (g s - 48) + (g (s + 1) - 48)
theorem fgT_in {n : Nat} {g : Nat → Nat} {s j : Nat} (h : j < fgT n g s) : gk n g (s + j) = 2 := by
  unfold fgT at h
  split at h
  · rename_i k
    rw [gte_in (show s ≤ s + j by omega) (by omega), k]
  · omega
theorem fgT_end {n : Nat} {g : Nat → Nat} {s : Nat} (hs : s ≤ n) : s + fgT n g s ≤ n ∧ ¬ gk n g (s + fgT n g s) = 2 := by
  obtain ⟨t1, t2⟩ := gte_b (g := g) hs
  unfold fgT
  split
  · rename_i k
    obtain ⟨e1, e2⟩ := gte_12 (Or.inr k)
    rw [show s + (gte n g s - s) = gte n g s by omega]
    refine ⟨t2, ?_⟩
    by_cases c : gte n g s < n
    · have := e2 c; rw [k] at this; exact this
    · rw [gk_0.mpr (show n ≤ gte n g s by omega)]; omega
  · rename_i k
    exact ⟨hs, k⟩
theorem fg_loop {n : Nat} {g : Nat → Nat} (ho : gOk n g) {b s : Nat} (hb : b < 1000) (hs : s ≤ n) {μ : QMem} (hx : mTx μ n g) (h27 : μ 28 27 = nI s) : ∀ (m j f : Nat), j + m = fgT n g s → m < f →
    fX12_figures_L9 (nI b) f (nI (fgV g s j)) (nI j) μ = if 1 ≤ fgT n g s ∧ fgT n g s ≤ 2 ∧ fgV g s (fgT n g s) ≤ b then some (nI (fgV g s (fgT n g s)), ms μ 28 27 (nI (s + fgT n g s))) else some (-1, ms μ 28 28 1) := by
  have h200 := ho.1
  obtain ⟨te1, te2⟩ := fgT_end (g := g) hs
  intro m
  induction m with
  | zero =>
    intro j f hj hf
    obtain ⟨f, rfl⟩ : ∃ k, f = k + 1 := ⟨f - 1, by omega⟩
    have : j = fgT n g s := by omega
    subst this
    generalize fgT n g s = t at te1 te2 ⊢
    have vb : fgV g s t < 1000000 ∨ True := Or.inr trivial
    rw [fX12_figures_L9, h27, nI_add, m_figure ho hx (by omega), Option.bind_some]
    simp only [bI_0]
    rw [decide_eq_false te2, if_pos rfl]
    unfold fX12_figures_J72
    by_cases c1 : t < 1
    · rw [if_pos (show nI t < (1 : Int32) from nI_lt (b := 1) c1 (by decide)), if_neg (by omega)]
    · rw [if_neg (show ¬ nI t < (1 : Int32) from nI_nlt (a := t) (b := 1) (by omega) (by omega))]
      by_cases c2 : 2 < t
      · rw [if_pos (show (2 : Int32) < nI t from nI_lt (a := 2) c2 (by omega)), if_neg (by omega)]
      · rw [if_neg (show ¬ (2 : Int32) < nI t from nI_nlt (a := 2) (b := t) (by omega) (by omega))]
        have i0 : gk n g s = 2 ∨ True := Or.inr trivial
        have fb : fgV g s t < 100000 := by
          unfold fgV
          have b0 := ho.2 s (by omega)
          split
          · omega
          · split
            · omega
            · have b1 := ho.2 (s + 1) (by omega)
              omega
        by_cases c3 : fgV g s t ≤ b
        · rw [if_pos (nI_le c3 (by omega)), if_pos ⟨by omega, by omega, c3⟩, h27, nI_add]
        · rw [if_neg (nI_ge (by omega) (by omega)), if_neg (fun z => c3 z.2.2)]
  | succ m ih =>
    intro j f hj hf
    obtain ⟨f, rfl⟩ : ∃ k, f = k + 1 := ⟨f - 1, by omega⟩
    have kj := fgT_in (n := n) (g := g) (s := s) (j := j) (by omega)
    obtain ⟨j1, j2, j3⟩ := gk_2 kj
    rw [fX12_figures_L9, h27, nI_add, m_figure ho hx (by omega), Option.bind_some]
    simp only [bI_0]
    rw [decide_eq_true kj, if_neg (by decide)]
    unfold fX12_figures_J50
    rw [show nI j + 1 = nI (j + 1) from nI_1 j]
    by_cases c : 2 ≤ j
    · rw [if_pos (show (2 : Int32) ≤ nI j from nI_le (a := 2) c (by omega)), ← ih (j + 1) f (by omega) (by omega)]
      unfold fgV
      rw [if_neg (show ¬ j = 0 by omega), if_neg (show ¬ j = 1 by omega), if_neg (show ¬ j + 1 = 0 by omega), if_neg (show ¬ j + 1 = 1 by omega)]
    · have ev : 10 * nI (fgV g s j) + nI (g (s + j)) - 48 = nI (fgV g s (j + 1)) := by
        rw [show (48 : Int32) = qj 48 from rfl, show (10 : Int32) = qj 10 from rfl, qj_nat, qj_nat, qj_nat, qj_mul, qj_add, qj_sub]
        congr 1
        rcases (show j = 0 ∨ j = 1 by omega) with rfl | rfl
        · show 10 * ((0 : Nat) : Int) + (g (s + 0) : Int) - 48 = ((g s - 48 : Nat) : Int)
          rw [Nat.add_zero] at j2 ⊢
          omega
        · have k0 := fgT_in (n := n) (g := g) (s := s) (j := 0) (by omega)
          obtain ⟨z1, z2, z3⟩ := gk_2 k0
          rw [Nat.add_zero] at z2
          show 10 * ((g s - 48 : Nat) : Int) + (g (s + 1) : Int) - 48 = ((10 * (g s - 48) + (g (s + 1) - 48) : Nat) : Int)
          omega
      have e2 : μ 23 (nI (s + j)).toNatClampNeg = nI (g (s + j)) := by
        rw [nI_clamp (by omega), hx.2 _ j1]
      rw [if_neg (show ¬ (2 : Int32) ≤ nI j from nI_ge (b := 2) (a := j) (by omega) (by decide)), h27, nI_add, if_neg (nI_in (by rw [ml23']; omega) (by decide)), e2, ev]
      exact ih (j + 1) f (by omega) (by omega)
theorem gnu_fg {n : Nat} {g : Nat → Nat} {s b : Nat} (hs : s ≤ n) : gnu n g s b = if 1 ≤ fgT n g s ∧ fgT n g s ≤ 2 ∧ fgV g s (fgT n g s) ≤ b then some (fgV g s (fgT n g s)) else none := by
  obtain ⟨t1, t2⟩ := gte_b (g := g) hs
  unfold gnu fgT
  by_cases k : gk n g s = 2
  · obtain ⟨e1, e2⟩ := gte_12 (Or.inr k)
    rw [if_pos k]
    by_cases h1 : gte n g s = s + 1
    · have f1 : fgV g s (gte n g s - s) = g s - 48 := by rw [h1, Nat.add_sub_cancel_left]; rfl
      rw [f1]
      by_cases c : g s - 48 ≤ b
      · rw [if_pos ⟨k, h1, c⟩, if_pos ⟨by omega, by omega, c⟩]
      · rw [if_neg (fun z => c z.2.2), if_neg (by omega), if_neg (fun z => c z.2.2)]
    · rw [if_neg (fun z => h1 z.2.1)]
      by_cases h2 : gte n g s = s + 2
      · have f1 : fgV g s (gte n g s - s) = 10 * (g s - 48) + (g (s + 1) - 48) := by rw [h2, Nat.add_sub_cancel_left]; rfl
        rw [f1]
        by_cases c : 10 * (g s - 48) + (g (s + 1) - 48) ≤ b
        · rw [if_pos ⟨k, h2, c⟩, if_pos ⟨by omega, by omega, c⟩]
        · rw [if_neg (fun z => c z.2.2), if_neg (fun z => c z.2.2)]
      · rw [if_neg (fun z => h2 z.2.1), if_neg (by omega)]
  · rw [if_neg (fun z => k z.1), if_neg (fun z => k z.1), if_neg k, if_neg (by omega)]
def mk278 (j : Nat) : Prop := j = 27 ∨ j = 28
theorem m_figs {n : Nat} {g : Nat → Nat} (ho : gOk n g) {b r : Nat} (hb : b < 1000) (hr : r ≤ n) {μ : QMem} (hx : mTx μ n g) (h27 : μ 28 27 = nI r) :
    (∀ v, gnu n g (gs n g r) b = some v → ∃ τ, fX12_figures (nI b) μ = some (nI v, τ) ∧ τ 28 27 = nI (gte n g (gs n g r)) ∧ tmF (fun j => j = 27) μ τ) ∧
    (gnu n g (gs n g r) b = none → ∃ τ, fX12_figures (nI b) μ = some (-1, τ) ∧ τ 28 27 = nI (gs n g r) ∧ τ 28 28 = 1 ∧ tmF mk278 μ τ) := by
  have h200 := ho.1
  obtain ⟨ρ, r1, r2, r3⟩ := m_look ho hx hr h27
  obtain ⟨b1, b2, b3⟩ := gs_b (g := g) hr
  generalize gs n g r = s at r1 r2 b1 b2
  have L := fg_loop ho hb b2 (mTx_F hx r3 (by decide)) r2 (fgT n g s) 0 FU (by omega) (by have := (fgT_end (g := g) b2).1; unfold FU; omega)
  have G := gnu_fg (g := g) (b := b) b2
  have e0 : fX12_figures (nI b) μ = fX12_figures_L9 (nI b) FU (nI (fgV g s 0)) (nI 0) ρ := by
    unfold fX12_figures
    rw [r1, Option.bind_some]
    rfl
  rw [e0, L, G]
  by_cases c : 1 ≤ fgT n g s ∧ fgT n g s ≤ 2 ∧ fgV g s (fgT n g s) ≤ b
  · rw [if_pos c, if_pos c]
    have et : s + fgT n g s = gte n g s := by
      have c1 := c.1
      unfold fgT at c1 ⊢
      have t := gte_b (g := g) b2
      split at c1
      · rename_i k; rw [if_pos k]; omega
      · omega
    constructor
    · intro v hv
      obtain rfl := Option.some.inj hv
      exact ⟨_, rfl, by rw [ms_same, et], r3.trans (tmF_ms ρ _ rfl)⟩
    · intro hv; exact absurd hv (by simp)
  · rw [if_neg c, if_neg c]
    constructor
    · intro v hv; exact absurd hv (by simp)
    · intro _
      exact ⟨_, rfl, by rw [ms_get, if_neg (by decide)]; exact r2, ms_same _ _ _ _, (r3.weaken (fun j h => Or.inl h)).trans (tmF_ms ρ _ (Or.inr rfl))⟩
