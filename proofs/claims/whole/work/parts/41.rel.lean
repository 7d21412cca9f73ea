/-! THE RELATION of the class's memory σ and the reference's memory μ -/
/-- a quaternion that a slot may hold -/
def qV (q : ZQ) : Prop := zL q ∧ zN4 q ≤ 600
/-- four ints of a row of the reference -/
def mAt (μ : QMem) (k o : Nat) (q : ZQ) : Prop := μ k o = qj q.1 ∧ μ k (o + 1) = qj q.2.1 ∧ μ k (o + 2) = qj q.2.2.1 ∧ μ k (o + 3) = qj q.2.2.2
def RSl (σ μ : QMem) (S : Nat → ZQ) : Prop := ∀ s, s < 6 → qV (S s) ∧ qAt σ s (S s) ∧ mAt μ 13 (4 * s) (S s)
/-- what can be undone: c calls, the oldest at place b of the ring; the slots ahead of call i: T i -/
def RPa (σ μ : QMem) (S : Nat → ZQ) : Prop := ∃ (c b : Nat) (T : Nat → Nat → ZQ), c ≤ 8 ∧ b < 8 ∧ σ 108 3 = nI c ∧ σ 108 2 = nI b ∧ μ 28 15 = nI c ∧ (∀ s, s < 6 → T c s = S s) ∧
  ∀ i, i < c → (∀ s, s < 6 → qV (T i s) ∧ mAt μ 14 (24 * i + 4 * s) (T i s)) ∧ ∃ p, p < 6 ∧ σ 82 ((b + i) % 8) = nI p ∧ qAt σ (18 + (b + i) % 8) (T i p) ∧ ∀ s, s < 6 → ¬ s = p → T i s = T (i + 1) s
def RK (σ μ : QMem) : Prop := ∀ k, k < 2 → (σ (98 + k) 1 = 0 ∧ μ 15 k = 0) ∨ (σ (98 + k) 1 = 1 ∧ μ 15 k = 1 ∧ ∃ K : Nat → ZQ, ∀ s, s < 6 → qV (K s) ∧ qAt σ (6 + 6 * k + s) (K s) ∧ mAt μ 16 (24 * k + 4 * s) (K s))
def RT (σ μ : QMem) : Prop := ∃ n, n ≤ 200 ∧ σ 109 2 = nI n ∧ μ 28 26 = nI n ∧ ∀ i, i < n → σ 83 i = μ 23 i ∧ ∃ t, t < 256 ∧ μ 23 i = nI t
def RTa (σ μ : QMem) : Prop := ∀ t, t < 3 → ((σ (95 + t) 2 = 0 ∧ σ (95 + t) 1 = 0 ∧ μ 26 t = -1) ∨ ∃ n, n ≤ 6 ∧ σ (95 + t) 2 = 1 ∧ σ (95 + t) 1 = nI n ∧ μ 26 t = nI n) ∧ ∀ i, i < 6 → σ (79 + t) i = μ 27 (6 * t + i)
def RN (σ μ : QMem) : Prop := σ 105 12 = μ 28 33
/-- the greatest whole number whose square is not above n; the root of a square, else -1 -/
def zSq : Nat → Nat
  | 0 => 0
  | n + 1 => if (zSq n + 1) * (zSq n + 1) ≤ n + 1 then zSq n + 1 else zSq n
def zRt (n : Nat) : Int := if zSq n * zSq n = n then (zSq n : Int) else -1
def RB (σ μ : QMem) : Prop := (∀ j, j < 96 → μ 1 j = xU j) ∧ (∀ j, j < 601 → μ 0 j = qj (zRt j)) ∧ ∀ j, j < 601 → σ 85 j = nI (zSq j)
def RR (σ μ : QMem) : Prop := ∃ S, RSl σ μ S ∧ RPa σ μ S ∧ RK σ μ ∧ RT σ μ ∧ RTa σ μ ∧ RN σ μ ∧ RB σ μ
/-! the cells that matter -/
def eX (k : Nat) : Prop := k < 26 ∨ (79 ≤ k ∧ k ≤ 83) ∨ k = 85 ∨ (95 ≤ k ∧ k ≤ 99) ∨ k = 105 ∨ k = 108
def eM (k : Nat) : Prop := k = 0 ∨ k = 1 ∨ (13 ≤ k ∧ k ≤ 16) ∨ k = 23 ∨ k = 26 ∨ k = 27
def sX (σ τ : QMem) : Prop := (∀ k, eX k → τ k = σ k) ∧ τ 109 2 = σ 109 2
def sM (σ τ : QMem) : Prop := (∀ k, eM k → τ k = σ k) ∧ τ 28 15 = σ 28 15 ∧ τ 28 26 = σ 28 26 ∧ τ 28 33 = σ 28 33
theorem sX.refl (σ : QMem) : sX σ σ := ⟨fun _ _ => rfl, rfl⟩
theorem sM.refl (σ : QMem) : sM σ σ := ⟨fun _ _ => rfl, rfl, rfl, rfl⟩
theorem sX.trans {σ τ ρ : QMem} (h1 : sX σ τ) (h2 : sX τ ρ) : sX σ ρ := ⟨fun k h => (h2.1 k h).trans (h1.1 k h), h2.2.trans h1.2⟩
theorem sM.trans {σ τ ρ : QMem} (h1 : sM σ τ) (h2 : sM τ ρ) : sM σ ρ := ⟨fun k h => (h2.1 k h).trans (h1.1 k h), h2.2.1.trans h1.2.1, h2.2.2.1.trans h1.2.2.1, h2.2.2.2.trans h1.2.2.2⟩
theorem qAt_sX {σ τ : QMem} (h : sX σ τ) {k : Nat} (hk : k < 26) (q : ZQ) : qAt τ k q ↔ qAt σ k q := by unfold qAt; rw [h.1 k (Or.inl hk)]
theorem mAt_sM {σ τ : QMem} (h : sM σ τ) {k : Nat} (hk : eM k) (o : Nat) (q : ZQ) : mAt τ k o q ↔ mAt σ k o q := by unfold mAt; rw [h.1 k hk]
theorem RR_keep {σ τ μ ν : QMem} (h : RR σ μ) (hX : sX σ τ) (hM : sM μ ν) : RR τ ν := by
  obtain ⟨S, h1, h2, h3, h4, h5, h6, h7⟩ := h
  have x82 := hX.1 82 (by unfold eX; omega)
  have x83 := hX.1 83 (by unfold eX; omega)
  have x85 := hX.1 85 (by unfold eX; omega)
  have x105 := hX.1 105 (by unfold eX; omega)
  have x108 := hX.1 108 (by unfold eX; omega)
  have m0 := hM.1 0 (by unfold eM; omega)
  have m1 := hM.1 1 (by unfold eM; omega)
  have m15 := hM.1 15 (by unfold eM; omega)
  have m23 := hM.1 23 (by unfold eM; omega)
  have m26 := hM.1 26 (by unfold eM; omega)
  have m27 := hM.1 27 (by unfold eM; omega)
  refine ⟨S, ?_, ?_, ?_, ?_, ?_, ?_, ?_⟩
  · intro s hs
    obtain ⟨a1, a2, a3⟩ := h1 s hs
    exact ⟨a1, (qAt_sX hX (by omega) _).mpr a2, (mAt_sM hM (by unfold eM; omega) _ _).mpr a3⟩
  · obtain ⟨c, b, T, a1, a2, a3, a4, a5, a6, a7⟩ := h2
    refine ⟨c, b, T, a1, a2, by rw [x108]; exact a3, by rw [x108]; exact a4, by rw [hM.2.1]; exact a5, a6, fun i hi => ?_⟩
    obtain ⟨b1, p, b2, b3, b4, b5⟩ := a7 i hi
    refine ⟨fun s hs => ⟨(b1 s hs).1, (mAt_sM hM (by unfold eM; omega) _ _).mpr (b1 s hs).2⟩, p, b2, by rw [x82]; exact b3, (qAt_sX hX (by omega) _).mpr b4, b5⟩
  · intro k hk
    have xk := hX.1 (98 + k) (by unfold eX; omega)
    rcases h3 k hk with ⟨a1, a2⟩ | ⟨a1, a2, K, a3⟩
    · exact Or.inl ⟨by rw [xk]; exact a1, by rw [m15]; exact a2⟩
    · exact Or.inr ⟨by rw [xk]; exact a1, by rw [m15]; exact a2, K, fun s hs => ⟨(a3 s hs).1, (qAt_sX hX (by omega) _).mpr (a3 s hs).2.1, (mAt_sM hM (by unfold eM; omega) _ _).mpr (a3 s hs).2.2⟩⟩
  · obtain ⟨n, a1, a2, a3, a4⟩ := h4
    exact ⟨n, a1, by rw [hX.2]; exact a2, by rw [hM.2.2.1]; exact a3, fun i hi => by rw [x83, m23]; exact a4 i hi⟩
  · intro t ht
    have xt := hX.1 (95 + t) (by unfold eX; omega)
    have xp := hX.1 (79 + t) (by unfold eX; omega)
    rw [xt, xp, m26, m27]
    exact h5 t ht
  · unfold RN; rw [x105, hM.2.2.2]; exact h6
  · unfold RB; rw [m0, m1, x85]; exact h7
/-! guards -/
theorem g_in {lo hi : Int32} {n : Nat} (p : Int32) (hn : n < 2147483648) (hlo : lo = nI 0) (hhi : ∀ j, j < n → ¬ hi < nI j) (hhi2 : ∀ x : Int32, nI n ≤ x → hi < x) : (fX12_in p lo hi = some 0 ∧ (p < 0 ∨ nI n ≤ p)) ∨ ∃ j, j < n ∧ p = nI j ∧ fX12_in p lo hi = some 1 := by
  unfold fX12_in
  rw [hlo]
  rcases pk_ix p (n := n) (by omega) with h | h | ⟨j, hj, rfl⟩
  · left; exact ⟨by rw [if_pos (show p < nI 0 from h)], Or.inl h⟩
  · left
    refine ⟨?_, Or.inr h⟩
    by_cases h0 : p < nI 0
    · rw [if_pos h0]
    · rw [if_neg h0, if_pos (hhi2 p h)]
  · right; exact ⟨j, hj, rfl, by rw [if_neg (nI_nlt (by omega) (by omega)), if_neg (hhi j hj)]⟩
theorem i32_lt {x y z : Int32} (h : z = x + 1) (hz : x.toInt + 1 < 2147483648) (h2 : z ≤ y) : x < y := by
  rw [Int32.lt_iff_toInt_lt]
  rw [Int32.le_iff_toInt_le, h, fb_addI] at h2
  · have : (1 : Int32).toInt = 1 := by decide
    omega
  · have : (1 : Int32).toInt = 1 := by decide
    have := (fb_rng x).1
    omega
  · have : (1 : Int32).toInt = 1 := by decide
    omega
