/-! THE TEXT, both sides at once -/
theorem gs_id {n : Nat} {g : Nat → Nat} {i : Nat} (hi : i ≤ n) : gs n g (gs n g i) = gs n g i := by
  obtain ⟨b1, b2, b3⟩ := gs_b (g := g) hi
  exact gs_stay (fun z => b3 z.1 z.2)
def fD (P : Nat → Prop) (σ τ : QMem) : Prop := (∀ k, ¬ k = 84 → ¬ k = 109 → τ k = σ k) ∧ (∀ j, ¬ tk456 j → τ 109 j = σ 109 j) ∧ ∀ i, ¬ P i → τ 84 i = σ 84 i
def fM (P Q : Nat → Prop) (μ ν : QMem) : Prop := (∀ k, ¬ k = 24 → ¬ k = 25 → ¬ k = 28 → ν k = μ k) ∧ (∀ j, ¬ mk278 j → ν 28 j = μ 28 j) ∧ (∀ i, ¬ P i → ν 24 i = μ 24 i) ∧ ∀ i, ¬ Q i → ν 25 i = μ 25 i
theorem fD.refl (P : Nat → Prop) (σ : QMem) : fD P σ σ := ⟨fun _ _ _ => rfl, fun _ _ => rfl, fun _ _ => rfl⟩
theorem fD.trans {P : Nat → Prop} {σ τ ρ : QMem} (h1 : fD P σ τ) (h2 : fD P τ ρ) : fD P σ ρ := ⟨fun k a b => (h2.1 k a b).trans (h1.1 k a b), fun j a => (h2.2.1 j a).trans (h1.2.1 j a), fun i a => (h2.2.2 i a).trans (h1.2.2 i a)⟩
theorem fD.weaken {P Q : Nat → Prop} {σ τ : QMem} (h : fD P σ τ) (hPQ : ∀ i, P i → Q i) : fD Q σ τ := ⟨h.1, h.2.1, fun i a => h.2.2 i fun p => a (hPQ i p)⟩
theorem fM.refl (P Q : Nat → Prop) (σ : QMem) : fM P Q σ σ := ⟨fun _ _ _ _ => rfl, fun _ _ => rfl, fun _ _ => rfl, fun _ _ => rfl⟩
theorem fM.trans {P Q : Nat → Prop} {σ τ ρ : QMem} (h1 : fM P Q σ τ) (h2 : fM P Q τ ρ) : fM P Q σ ρ := ⟨fun k a b c => (h2.1 k a b c).trans (h1.1 k a b c), fun j a => (h2.2.1 j a).trans (h1.2.1 j a), fun i a => (h2.2.2.1 i a).trans (h1.2.2.1 i a), fun i a => (h2.2.2.2 i a).trans (h1.2.2.2 i a)⟩
theorem fM.weaken {P Q P' Q' : Nat → Prop} {σ τ : QMem} (h : fM P Q σ τ) (hP : ∀ i, P i → P' i) (hQ : ∀ i, Q i → Q' i) : fM P' Q' σ τ := ⟨h.1, h.2.1, fun i a => h.2.2.1 i fun p => a (hP i p), fun i a => h.2.2.2 i fun p => a (hQ i p)⟩
theorem tkF.fD {σ τ : QMem} (h : tkF tk456 σ τ) (P : Nat → Prop) : fD P σ τ := ⟨fun k _ b => h.1 k b, h.2, fun _ _ => by rw [h.1 84 (by decide)]⟩
theorem tmF.fM {σ τ : QMem} (h : tmF mk278 σ τ) (P Q : Nat → Prop) : fM P Q σ τ := ⟨fun k _ _ c => h.1 k c, h.2, fun _ _ => by rw [h.1 24 (by decide)], fun _ _ => by rw [h.1 25 (by decide)]⟩
theorem fD_ms {P : Nat → Prop} (σ : QMem) {i : Nat} (v : Int32) (h : P i) : fD P σ (ms σ 84 i v) := ⟨fun k a _ => ms_cell σ a _ _, fun j _ => by rw [ms_cell σ (by decide)], fun x a => by rw [ms_get, if_neg]; rintro ⟨-, rfl⟩; exact a h⟩
theorem fM_ms25 {P Q : Nat → Prop} (σ : QMem) {i : Nat} (v : Int32) (h : Q i) : fM P Q σ (ms σ 25 i v) := ⟨fun k _ a _ => ms_cell σ a _ _, fun j _ => by rw [ms_cell σ (by decide)], fun x _ => by rw [ms_cell σ (by decide)], fun x a => by rw [ms_get, if_neg]; rintro ⟨-, rfl⟩; exact a h⟩
theorem fM_ms24 {P Q : Nat → Prop} (σ : QMem) {i : Nat} (v : Int32) (h : P i) : fM P Q σ (ms σ 24 i v) := ⟨fun k a _ _ => ms_cell σ a _ _, fun j _ => by rw [ms_cell σ (by decide)], fun x a => by rw [ms_get, if_neg]; rintro ⟨-, rfl⟩; exact a h, fun x _ => by rw [ms_cell σ (by decide)]⟩
theorem fM_ms28 {P Q : Nat → Prop} (σ : QMem) {j : Nat} (v : Int32) (h : mk278 j) : fM P Q σ (ms σ 28 j v) := (tmF_ms σ v h).fM P Q
theorem xTx_D {P : Nat → Prop} {σ τ : QMem} {n : Nat} {g : Nat → Nat} (h : xTx σ n g) (hs : fD P σ τ) : xTx τ n g := ⟨by rw [hs.2.1 2 (by unfold tk456; decide)]; exact h.1, by rw [hs.1 83 (by decide) (by decide)]; exact h.2⟩
theorem mTx_M {P Q : Nat → Prop} {σ τ : QMem} {n : Nat} {g : Nat → Nat} (h : mTx σ n g) (hs : fM P Q σ τ) : mTx τ n g := ⟨by rw [hs.2.1 26 (by unfold mk278; decide)]; exact h.1, by rw [hs.1 23 (by decide) (by decide) (by decide)]; exact h.2⟩
/-- both stand ahead of the token at s, and no fault is found -/
def Al (n : Nat) (g : Nat → Nat) (σ μ : QMem) (s : Nat) : Prop := xTx σ n g ∧ mTx μ n g ∧ s ≤ n ∧ xTk σ n g s ∧ (∃ r, r ≤ n ∧ gs n g r = s ∧ μ 28 27 = nI r) ∧ μ 28 28 = 0
/-- both found the fault at p -/
def Ft (n : Nat) (g : Nat → Nat) (σ μ : QMem) : Prop := xTx σ n g ∧ mTx μ n g ∧ ∃ p, p ≤ n ∧ σ 109 5 = nI p ∧ μ 28 27 = nI p ∧ μ 28 28 = 1
theorem c_putw {σ : QMem} {c j : Nat} (hc : c < 24) (hj : j < 6) (v : Int32) : fX8_putWord (nI c) (nI j) v σ = some (ms σ 84 (6 * c + j) v) := by
  have x84 : xl 84 = 144 := rfl
  have e : 6 * nI c + nI j = nI (6 * c + j) := by
    rw [show (6 : Int32) = nI 6 from rfl, nI_mulM, nI_add]
  have c24 : ¬ (24 : Int32) ≤ nI c := nI_ge (b := 24) hc (by decide)
  have c6 : ¬ (6 : Int32) ≤ nI j := nI_ge (b := 6) hj (by decide)
  unfold fX8_putWord
  rw [if_neg (nI_pos (by omega)), if_neg c24, if_neg (nI_pos (by omega)), if_neg c6, e, if_neg (nI_in (by rw [x84]; omega) (by decide)), nI_clamp (by omega)]
theorem ml25' : ml 25 = 120 := rfl
theorem al_num {n : Nat} {g : Nat → Nat} (ho : gOk n g) {σ μ : QMem} {s : Nat} (hA : Al n g σ μ s) {c j p b : Nat} (hc : c < 24) (hj : j < 6) (hp : p < 120) (hb : b < 1000) :
    (∃ v σ2 μ2 s2, v ≤ b ∧ fX8_readNumber (nI c) (nI j) (nI b) σ = some (1, σ2) ∧ fX12_takes (nI p) (nI b) μ = some μ2 ∧ Al n g σ2 μ2 s2 ∧ σ2 84 (6 * c + j) = nI v ∧ μ2 25 p = nI v ∧ fD (fun i => i = 6 * c + j) σ σ2 ∧ fM (fun _ => False) (fun i => i = p) μ μ2) ∨
    (∃ σ2 μ2, fX8_readNumber (nI c) (nI j) (nI b) σ = some (0, σ2) ∧ fX12_takes (nI p) (nI b) μ = some μ2 ∧ Ft n g σ2 μ2 ∧ fD (fun i => i = 6 * c + j) σ σ2 ∧ fM (fun _ => False) (fun i => i = p) μ μ2) := by
  obtain ⟨hx, hm, hs, hk, ⟨r, hr, er, h27⟩, h28⟩ := hA
  have h200 := ho.1
  obtain ⟨M1, M2⟩ := m_figs ho hb hr hm h27
  rw [er] at M1 M2
  have gp : ¬ (nI p < 0 ∨ ml 25 ≤ (nI p).toNatClampNeg) := nI_in (by rw [ml25']; exact hp) (by decide)
  unfold fX8_readNumber fX12_takes
  rw [c_toknum ho hx hs hk hb, Option.bind_some, if_pos h28]
  simp only
  cases hv : gnu n g s b with
  | some v =>
    left
    obtain ⟨ν, n1, n2, n3⟩ := M1 v hv
    have vb : v ≤ b := by
      unfold gnu at hv
      split at hv
      · obtain rfl := Option.some.inj hv; omega
      · split at hv
        · obtain rfl := Option.some.inj hv; omega
        · exact absurd hv (by simp)
    obtain ⟨t1, t2⟩ := gte_b (g := g) hs
    have fD1 : fD (fun i => i = 6 * c + j) σ (ms σ 84 (6 * c + j) (nI v)) := fD_ms σ _ rfl
    have k1 : (ms σ 84 (6 * c + j) (nI v)) 109 6 = nI (gte n g s) := by rw [ms_cell _ (by decide)]; exact hk.2.2
    obtain ⟨τ, u1, u2, u3⟩ := c_next ho (xTx_D hx fD1) t2 k1
    have z0 : (0 : Int32) ≤ gnV (some v) := Int32.not_lt.mp (nI_pos (n := v) (by omega))
    rw [if_pos z0, show gnV (some v) = nI v from rfl, c_putw hc hj, Option.bind_some, u1, n1, Option.bind_some, Option.bind_some, if_neg gp]
    have f3 := n3.weaken (Q := mk278) (fun j h => Or.inl h)
    have fMa : fM (fun _ => False) (fun i => i = p) μ (ms ν 25 p (nI v)) := (f3.fM _ _).trans (fM_ms25 ν _ rfl)
    have pc : (nI p).toNatClampNeg = p := nI_clamp (by omega)
    rw [pc]
    have fDa := fD1.trans (u3.fD (fun i => i = 6 * c + j))
    refine ⟨v, τ, _, gs n g (gte n g s), vb, rfl, rfl, ⟨xTx_D hx fDa, mTx_M hm fMa, (gs_b t2).2.1, u2, ⟨gte n g s, t2, rfl, ?_⟩, ?_⟩, ?_, ?_, fDa, fMa⟩
    · rw [ms_cell _ (by decide)]; exact n2
    · rw [ms_cell _ (by decide)]; exact (n3.2 28 (by decide)).trans h28
    · rw [u3.1 84 (by decide), ms_same]
    · rw [ms_same]
  | none =>
    right
    obtain ⟨ν, n1, n2, n3, n4⟩ := M2 hv
    have z0 : ¬ (0 : Int32) ≤ gnV none := by unfold gnV; decide
    have pc : (nI p).toNatClampNeg = p := nI_clamp (by omega)
    rw [if_neg z0, n1, Option.bind_some, if_neg gp, pc]
    have fMa : fM (fun _ => False) (fun i => i = p) μ (ms ν 25 p (-1)) := (n4.fM _ _).trans (fM_ms25 ν _ rfl)
    refine ⟨σ, _, rfl, rfl, ⟨hx, mTx_M hm fMa, s, hs, hk.2.1, ?_, ?_⟩, fD.refl _ _, fMa⟩
    · rw [ms_cell _ (by decide)]; exact n2
    · rw [ms_cell _ (by decide)]; exact n3
