/-! the call desk -/
theorem d_disc (k : Nat) (σ : QMem) : fX10_discard k σ = some (ms (ms σ k 2 0) k 1 0) := rfl
theorem d_clr (k : Nat) (σ : QMem) : fX9_clear k σ = some (ms σ k 1 0) := rfl
theorem d_79 (v : Int32) (σ : QMem) : fX11_desk_L79 FU v 0 σ = some (v, ms (ms (ms (ms (ms (ms σ 95 2 0) 95 1 0) 96 2 0) 96 1 0) 97 2 0) 97 1 0) := by
  have x107 : xl 107 = 3 := rfl
  have b107 : xb 107 = 95 := rfl
  show fX11_desk_L79 (((1996 + 1) + 1 + 1) + 1) v (nI 0) σ = _
  rw [fX11_desk_L79, if_neg (by decide), if_neg (g107 (t := 0) (by decide)), k107 (t := 0) (by decide), d_disc, Option.bind_some, show nI 0 + 1 = nI 1 from rfl, fX11_desk_L79, if_neg (by decide), if_neg (g107 (t := 1) (by decide)), k107 (t := 1) (by decide), d_disc, Option.bind_some, show nI 1 + 1 = nI 2 from rfl, fX11_desk_L79, if_neg (by decide), if_neg (g107 (t := 2) (by decide)), k107 (t := 2) (by decide), d_disc, Option.bind_some, show nI 2 + 1 = nI 3 from rfl, fX11_desk_L79, if_pos (by decide)]
theorem d_57 (v : Int32) (σ : QMem) : fX11_desk_L57 FU v 0 σ = fX11_desk_L79 FU v 0 (ms (ms σ 98 1 0) 99 1 0) := by
  have x106 : xl 106 = 2 := rfl
  have b106 : xb 106 = 98 := rfl
  show fX11_desk_L57 (((1997 + 1) + 1) + 1) v (nI 0) σ = _
  have e0 : xb 106 + (nI 0).toNatClampNeg = 98 := by rw [b106]; decide
  have e1 : xb 106 + (nI 1).toNatClampNeg = 99 := by rw [b106]; decide
  have q0 : ¬ (nI 0 < 0 ∨ xl 106 ≤ (nI 0).toNatClampNeg) := by rw [x106]; decide
  have q1 : ¬ (nI 1 < 0 ∨ xl 106 ≤ (nI 1).toNatClampNeg) := by rw [x106]; decide
  rw [fX11_desk_L57, if_neg (by decide), if_neg q0, e0, d_clr, Option.bind_some, show nI 0 + 1 = nI 1 from rfl, fX11_desk_L57, if_neg (by decide), if_neg q1, e1, d_clr, Option.bind_some, show nI 1 + 1 = nI 2 from rfl, fX11_desk_L57, if_pos (by decide)]
theorem r_60 (v : Int32) (μ : QMem) : fX12_desk_L60 FU v 0 μ = some (v, ms (ms (ms μ 26 0 (-1)) 26 1 (-1)) 26 2 (-1)) := by
  show fX12_desk_L60 (((1996 + 1) + 1 + 1) + 1) v (nI 0) μ = _
  rw [fX12_desk_L60, if_neg (by decide), if_neg (g26 (t := 0) (by decide)), nI_clamp (by decide), show nI 0 + 1 = nI 1 from rfl, fX12_desk_L60, if_neg (by decide), if_neg (g26 (t := 1) (by decide)), nI_clamp (by decide), show nI 1 + 1 = nI 2 from rfl, fX12_desk_L60, if_neg (by decide), if_neg (g26 (t := 2) (by decide)), nI_clamp (by decide), show nI 2 + 1 = nI 3 from rfl, fX12_desk_L60, if_pos (by decide)]
def dkE (σ : QMem) : QMem := ms (ms (ms (ms (ms (ms (ms (ms (ms (ms σ 109 2 0) 108 3 0) 98 1 0) 99 1 0) 95 2 0) 95 1 0) 96 2 0) 96 1 0) 97 2 0) 97 1 0
def dmE (μ : QMem) : QMem := ms (ms (ms (ms (ms (ms μ 28 15 0) 15 0 0) 15 1 0) 26 0 (-1)) 26 1 (-1)) 26 2 (-1)
theorem al_dos {C : Nat} (hC : C ≤ 24) : ∀ (m i f f2 : Nat) (σ μ : QMem) (S : Nat → ZQ), i + m = C → m < f → m < f2 → RSl σ μ S → mUn μ → (∀ k, k < C → DW σ μ k) →
    ∃ σ2 μ2 S2, fX11_desk_L25 f (nI C) (nI i) σ = some (nI C, dkE σ2) ∧ fX12_desk_L23 f2 (nI C) (nI i) μ = some (nI C, dmE μ2) ∧ RSl σ2 μ2 S2 ∧ (∀ k, 6 ≤ k → σ2 k = σ k) ∧ ∀ k, ¬ k = 13 → μ2 k = μ k := by
  intro m
  induction m with
  | zero =>
    intro i f f2 σ μ S hi hf hf2 hS hU hD
    obtain ⟨f, rfl⟩ : ∃ k, f = k + 1 := ⟨f - 1, by omega⟩
    obtain ⟨f2, rfl⟩ : ∃ k, f2 = k + 1 := ⟨f2 - 1, by omega⟩
    have : i = C := by omega
    subst this
    have le : nI i ≤ nI i := nI_le (Nat.le_refl _) (by omega)
    have x8 : ∀ σ, fX8_clear σ = some (ms σ 109 2 0) := fun _ => rfl
    have x4 : ∀ σ, fX4_clear σ = some (ms σ 108 3 0) := fun _ => rfl
    rw [fX11_desk_L25, fX12_desk_L23, if_pos le, if_pos le, x8, Option.bind_some, x4, Option.bind_some, d_57, d_79, if_neg (by decide), if_neg (by decide), r_60]
    exact ⟨σ, μ, S, rfl, rfl, hS, fun _ _ => rfl, fun _ _ => rfl⟩
  | succ m ih =>
    intro i f f2 σ μ S hi hf hf2 hS hU hD
    obtain ⟨f, rfl⟩ : ∃ k, f = k + 1 := ⟨f - 1, by omega⟩
    obtain ⟨f2, rfl⟩ : ∃ k, f2 = k + 1 := ⟨f2 - 1, by omega⟩
    have ge : ¬ nI C ≤ nI i := nI_ge (show i < C by omega) (by omega)
    obtain ⟨σ2, μ2, S2, t1, t2, t3, t4, t5⟩ := al_do hS hU (show i < 24 by omega) (hD i (by omega))
    obtain ⟨σ3, μ3, S3, u1, u2, u3, u4, u5⟩ := ih (i + 1) f f2 σ2 μ2 S2 (by omega) (by omega) (by omega) t3 (by unfold mUn; rw [t5 1 (by decide)]; exact hU) (fun k hk => DW_cong (hD k hk) (fun j _ => by rw [t4 84 (by decide)]) (by rw [t5 24 (by decide)]) (fun j _ => by rw [t5 25 (by decide)]))
    rw [fX11_desk_L25, fX12_desk_L23, if_neg ge, if_neg ge, t1, t2, Option.bind_some, Option.bind_some, show nI i + 1 = nI (i + 1) from nI_1 i, u1, u2]
    exact ⟨σ3, μ3, S3, rfl, rfl, u3, fun k hk => by rw [u4 k hk, t4 k hk], fun k hk => by rw [u5 k hk, t5 k hk]⟩
