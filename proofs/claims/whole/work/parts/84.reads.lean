/-! THE TEXT, both sides: to its first fault; the call fault -/
theorem DW_cong {σ τ μ ν : QMem} {k : Nat} (h : DW σ μ k) (h1 : ∀ j, pD k j → τ 84 j = σ 84 j) (h2 : ν 24 k = μ 24 k) (h3 : ∀ j, pM2 k j → ν 25 j = μ 25 j) : DW τ ν k := by
  obtain ⟨w, w4, a1, a2, a3, a4, a5, a6, a7⟩ := h
  refine ⟨w, w4, by rw [h1 _ (by unfold pD; omega)]; exact a1, by rw [h2]; exact a2, fun z => by rw [h1 _ (by unfold pD; omega)]; exact a3 z, fun z => ?_, fun z => ?_, fun z => ?_, fun z => ?_⟩
  · obtain ⟨S, b1, b2, b3⟩ := a4 z
    exact ⟨S, b1, by rw [h1 _ (by unfold pD; omega)]; exact b2, by rw [h3 _ (by unfold pM2; omega)]; exact b3⟩
  · obtain ⟨X, b1, ⟨c1, c2, c3, c4⟩, ⟨d1, d2, d3, d4⟩⟩ := a5 z
    exact ⟨X, b1, ⟨by rw [h1 _ (by unfold pD; omega)]; exact c1, by rw [h1 _ (by unfold pD; omega)]; exact c2, by rw [h1 _ (by unfold pD; omega)]; exact c3, by rw [h1 _ (by unfold pD; omega)]; exact c4⟩, ⟨by rw [h3 _ (by unfold pM2; omega)]; exact d1, by rw [h3 _ (by unfold pM2; omega)]; exact d2, by rw [h3 _ (by unfold pM2; omega)]; exact d3, by rw [h3 _ (by unfold pM2; omega)]; exact d4⟩⟩
  · obtain ⟨S, b1, b2, b3⟩ := a6 z
    exact ⟨S, b1, by rw [h1 _ (by unfold pD; omega)]; exact b2, by rw [h3 _ (by unfold pM2; omega)]; exact b3⟩
  · obtain ⟨S, b1, b2, b3⟩ := a7 z
    exact ⟨S, b1, by rw [h1 _ (by unfold pD; omega)]; exact b2, by rw [h3 _ (by unfold pM2; omega)]; exact b3⟩
def fT (σ τ : QMem) : Prop := (∀ k, ¬ k = 84 → ¬ k = 109 → τ k = σ k) ∧ τ 109 2 = σ 109 2
def fTm (μ ν : QMem) : Prop := (∀ k, ¬ k = 24 → ¬ k = 25 → ¬ k = 28 → ν k = μ k) ∧ ∀ j, ¬ mk278 j → ν 28 j = μ 28 j
theorem fT.trans {σ τ ρ : QMem} (h1 : fT σ τ) (h2 : fT τ ρ) : fT σ ρ := ⟨fun k a b => (h2.1 k a b).trans (h1.1 k a b), h2.2.trans h1.2⟩
theorem fTm.trans {σ τ ρ : QMem} (h1 : fTm σ τ) (h2 : fTm τ ρ) : fTm σ ρ := ⟨fun k a b c => (h2.1 k a b c).trans (h1.1 k a b c), fun j a => (h2.2 j a).trans (h1.2 j a)⟩
theorem fD.fT {P : Nat → Prop} {σ τ : QMem} (h : fD P σ τ) : fT σ τ := ⟨h.1, h.2.1 2 (by unfold tk456; decide)⟩
theorem fM.fTm {P Q : Nat → Prop} {σ τ : QMem} (h : fM P Q σ τ) : fTm σ τ := ⟨h.1, h.2.1⟩
theorem fT_ms (σ : QMem) {j : Nat} (v : Int32) (h : ¬ j = 2) : fT σ (ms σ 109 j v) := ⟨fun k _ b => ms_cell σ b _ _, by rw [ms_get, if_neg]; rintro ⟨-, e⟩; exact h e.symm⟩
theorem fTm_ms (σ : QMem) {j : Nat} (v : Int32) (h : mk278 j) : fTm σ (ms σ 28 j v) := (tmF_ms σ v h : tmF mk278 _ _)|> fun t => ⟨fun k _ _ c => t.1 k c, t.2⟩
theorem m_L14f {f2 : Nat} {k v : Int32} {μ : QMem} (h : μ 28 28 = 1) (hv : ¬ v = 0) : fX12_reads_L14 (f2 + 1) k v μ = some (k, μ) := by
  rw [fX12_reads_L14, if_neg hv, if_neg (by rw [h]; decide)]
theorem m_L140 {f2 : Nat} {k : Int32} {μ : QMem} : fX12_reads_L14 (f2 + 1) k 0 μ = some (k, μ) := by
  rw [fX12_reads_L14, if_pos rfl]
def tC (n c f f2 : Nat) (σ μ : QMem) : Prop :=
    (∃ (σ2 μ2 : QMem) (p : Nat) (k : Int32), p ≤ n ∧ fX8_findFault_L16 f (nI c) σ = some (nI p, σ2) ∧ fX12_reads_L14 f2 (nI c) 1 μ = some (k, μ2) ∧ μ2 28 28 = 1 ∧ μ2 28 27 = nI p ∧ fT σ σ2 ∧ fTm μ μ2) ∨
    (∃ (σ2 μ2 : QMem) (C : Nat), C ≤ 24 ∧ fX8_findFault_L16 f (nI c) σ = some (-1, σ2) ∧ σ2 109 3 = nI C ∧ fX12_reads_L14 f2 (nI c) 1 μ = some (nI C, μ2) ∧ μ2 28 28 = 0 ∧ (∀ k, k < C → DW σ2 μ2 k) ∧ fT σ σ2 ∧ fTm μ μ2)
theorem al_tstep {n : Nat} {g : Nat → Nat} (ho : gOk n g) {c f f2 : Nat} {σ μ : QMem} {s : Nat} (hc : c < 24) (hA : Al n g σ μ s) (hDW : ∀ k, k < c → DW σ μ k) (IH : c + 1 < 24 → ∀ (σ μ : QMem) (s : Nat), Al n g σ μ s → (∀ k, k < c + 1 → DW σ μ k) → tC n (c + 1) f (f2 + 1) σ μ) : tC n c (f + 1) (f2 + 2) σ μ := by
  have h200 := ho.1
  have c24 : ¬ (24 : Int32) ≤ nI c := nI_ge (b := 24) hc (by decide)
  have i10' : ¬ (1 : Int32) = 0 := by decide
  have eD : ∀ σ, fX8_findFault_L16 (f + 1) (nI c) σ = _ := fun σ => by rw [fX8_findFault_L16, if_neg c24]
  have eM : fX12_reads_L14 (f2 + 2) (nI c) 1 μ = (fX12_readsClause (nI c) μ).bind fun xq15 => (if (xq15 28 28) = 0 then ((fX12_looks xq15).bind fun xq18 => (if xq18.1 = 59 then (fX12_reads_J56 (fX12_reads_L14 (f2 + 1)) (nI c + 1) xq18.1 1 xq18.2) else (fX12_reads_J56 (fX12_reads_L14 (f2 + 1)) (nI c + 1) xq18.1 0 xq18.2))) else ((fX12_reads_L14 (f2 + 1)) (nI c + 1) 1 xq15)) := by
    show fX12_reads_L14 ((f2 + 1) + 1) (nI c) 1 μ = _
    rw [fX12_reads_L14, if_neg i10', if_pos hA.2.2.2.2.2]
  unfold tC
  rw [eD, eM]
  rcases al_clause ho hA hc with ⟨σ2, μ2, w1, w2, w3, w4, w5⟩ | ⟨σ2, μ2, s2, w1, w2, w3, w4, w5, w6⟩
  · left
    obtain ⟨-, -, p, p1, p2, p3, p4⟩ := w3
    have q4 : ¬ μ2 28 28 = 0 := by rw [p4]; decide
    rw [w1, w2, Option.bind_some, Option.bind_some, if_neg q4, m_L14f p4 i10']
    simp only
    rw [if_pos trivial, p2]
    exact ⟨σ2, μ2, p, _, p1, rfl, rfl, p4, p3, w4.fT, w5.fTm⟩
  · obtain ⟨hx2, hm2, hs2, hk2, ⟨r, hr, er, h27⟩, h28⟩ := w3
    have DWc : ∀ k, k < c + 1 → DW σ2 μ2 k := fun k hk => by
      by_cases e : k = c
      · rw [e]; exact w4
      · exact DW_cong (hDW k (by omega)) (fun j hj => w5.2.2 j (by unfold pD at hj ⊢; omega)) (w6.2.2.1 k e) (fun j hj => w6.2.2.2 j (by unfold pM2 at hj ⊢; omega))
    obtain ⟨ν, n1, n2, n3⟩ := m_look ho hm2 hr h27
    rw [er] at n1 n2
    rw [w1, w2, Option.bind_some, Option.bind_some, if_pos h28, n1, Option.bind_some]
    simp only
    rw [if_neg i10', show nI c + 1 = nI (c + 1) from nI_1 c]
    generalize hβ : ms σ2 109 3 (nI (c + 1)) = β
    have fβ : fT σ2 β := by rw [← hβ]; exact fT_ms σ2 _ (by decide)
    have β84 : β 84 = σ2 84 := fβ.1 84 |> fun _ => by rw [← hβ]; exact ms_cell _ (by decide) _ _
    have βk : xTk β n g s2 := by
      obtain ⟨q1, q2, q3⟩ := hk2
      refine ⟨?_, ?_, ?_⟩
      · rw [← hβ, ms_get, if_neg (by decide)]; exact q1
      · rw [← hβ, ms_get, if_neg (by decide)]; exact q2
      · rw [← hβ, ms_get, if_neg (by decide)]; exact q3
    have β3 : β 109 3 = nI (c + 1) := by rw [← hβ, ms_same]
    have βx : xTx β n g := ⟨by rw [fβ.2]; exact hx2.1, by rw [fβ.1 83 (by decide) (by decide)]; exact hx2.2⟩
    have k3 := gk_3 n g s2
    have ν28 : ν 28 28 = 0 := (n3.2 28 (by decide)).trans h28
    have n3' : tmF mk278 μ2 ν := n3.weaken (fun j h => Or.inl h)
    have fν : fTm μ ν := w6.fTm.trans (n3'.fM (fun _ => False) (fun _ => False)).fTm
    have DWβ : ∀ (π : QMem), tmF mk278 ν π → ∀ k, k < c + 1 → DW β π k := fun π hπ k hk => DW_cong (DWc k hk) (fun j _ => by rw [β84]) (by rw [hπ.1 24 (by decide), n3.1 24 (by decide)]) (fun j _ => by rw [hπ.1 25 (by decide), n3.1 25 (by decide)])
    rw [βk.1]
    by_cases k0 : gk n g s2 = 0
    · -- the end of the text
      right
      have sn : ¬ s2 < n := by have := gk_0.mp k0; omega
      have c0 : nI (gk n g s2) = 0 := by rw [k0]; rfl
      have gl1 : gl n g s2 = -1 := by unfold gl; rw [if_neg sn]
      rw [if_pos c0, gl1, if_neg (by decide)]
      unfold fX12_reads_J56 fX12_reads_J78 fX12_reads_J79 fX12_reads_J102 fX12_reads_J103
      rw [if_pos (by decide), if_neg (by decide), if_pos rfl, m_L140]
      have t1 : tmF mk278 ν (ms ν 28 28 0) := tmF_ms ν _ (Or.inr rfl)
      have t2 : tmF mk278 ν (ms (ms ν 28 28 0) 28 27 ((ms ν 28 28 0) 28 27 + 0)) := t1.trans (tmF_ms _ _ (Or.inl rfl))
      refine ⟨β, _, c + 1, by omega, rfl, β3, rfl, ?_, DWβ _ t2, w5.fT.trans fβ, fν.trans (t2.fM (fun _ => False) (fun _ => False)).fTm⟩
      rw [ms_get, if_neg (by decide), ms_same]
    · have c0 : ¬ nI (gk n g s2) = 0 := nI_ne0 (by omega) (by omega)
      have sn : s2 < n := Nat.lt_of_not_le fun z => k0 (gk_0.mpr z)
      have b256 := ho.2 s2 sn
      have gl1 : gl n g s2 = nI (g s2) := by unfold gl; rw [if_pos sn]
      have sg := c_sign ho βx hs2 βk (x := 59) (by omega)
      rw [if_neg c0, gl1, show (59 : Int32) = nI 59 from rfl, sg, Option.bind_some]
      simp only [bI_0]
      by_cases h59 : g s2 = 59
      · have c59 : nI (g s2) = nI 59 := by rw [h59]
        rw [if_pos c59, decide_eq_true ⟨sn, h59⟩, if_neg (by decide), β3]
        unfold fX12_reads_J56
        rw [if_neg (nI_pos (by omega)), if_pos (show nI (g s2) = (59 : Int32) from c59)]
        by_cases h24 : c + 1 = 24
        · -- too many
          left
          have e24 : nI (c + 1) = 24 := by rw [h24]; rfl
          rw [if_pos e24, if_pos e24, βk.2.1]
          unfold fX12_reads_J74 fX12_reads_J79 fX12_reads_J102 fX12_reads_J103
          have s1 : (ms ν 28 28 1) 28 28 = 1 := ms_same _ _ _ _
          rw [if_neg (by decide), if_neg i10', s1, if_neg i10']
          have t2 : tmF mk278 ν (ms (ms ν 28 28 1) 28 27 ((ms ν 28 28 1) 28 27 + 0)) := (tmF_ms ν _ (Or.inr rfl)).trans (tmF_ms _ _ (Or.inl rfl))
          have e28 : (ms (ms ν 28 28 1) 28 27 ((ms ν 28 28 1) 28 27 + 0)) 28 28 = 1 := by rw [ms_get, if_neg (by decide)]; exact s1
          rw [m_L14f e28 i10']
          refine ⟨β, _, s2, _, hs2, rfl, rfl, e28, ?_, w5.fT.trans fβ, fν.trans (t2.fM (fun _ => False) (fun _ => False)).fTm⟩
          rw [ms_same, ms_get, if_neg (by decide), n2]
          exact Int32.add_zero _
        · -- the next clause
          have e24 : ¬ nI (c + 1) = 24 := fun z => h24 ((nI_eq (a := c + 1) (b := 24) (by omega) (by decide)).mp z)
          have k33 : gk n g s2 = 3 := by unfold gk; rw [if_neg (by omega), if_neg (by omega), if_neg (by omega)]
          have te : gte n g s2 = s2 + 1 := by unfold gte; rw [if_neg k0, if_pos k33]
          obtain ⟨γ, u1, u2, u3⟩ := c_next ho βx (show s2 + 1 ≤ n by omega) (by rw [βk.2.2, te])
          rw [if_neg e24, if_neg e24, u1, Option.bind_some]
          unfold fX12_reads_J78 fX12_reads_J79 fX12_reads_J103
          have s0 : (ms ν 28 28 0) 28 28 = 0 := ms_same _ _ _ _
          rw [if_neg (by decide), if_neg i10', s0, if_pos rfl]
          have t2 : tmF mk278 ν (ms (ms ν 28 28 0) 28 27 ((ms ν 28 28 0) 28 27 + 1)) := (tmF_ms ν _ (Or.inr rfl)).trans (tmF_ms _ _ (Or.inl rfl))
          have e28 : (ms (ms ν 28 28 0) 28 27 ((ms ν 28 28 0) 28 27 + 1)) 28 28 = 0 := by rw [ms_get, if_neg (by decide)]; exact s0
          have e27 : (ms (ms ν 28 28 0) 28 27 ((ms ν 28 28 0) 28 27 + 1)) 28 27 = nI (s2 + 1) := by
            rw [ms_same, ms_get, if_neg (by decide), n2]; exact nI_1 s2
          generalize ms (ms ν 28 28 0) 28 27 ((ms ν 28 28 0) 28 27 + 1) = π at t2 e28 e27
          have fγ := u3.fD (fun _ => False)
          have A2 : Al n g γ π (gs n g (s2 + 1)) := ⟨xTx_D βx fγ, mTx_F (mTx_F hm2 n3 (by decide)) t2 (by unfold mk278; decide), (gs_b (by omega)).2.1, u2, ⟨s2 + 1, by omega, rfl, e27⟩, e28⟩
          have D2 : ∀ k, k < c + 1 → DW γ π k := fun k hk => DW_cong (DWβ π t2 k hk) (fun j _ => by rw [u3.1 84 (by decide)]) rfl (fun j _ => rfl)
          have fa : fT σ γ := (w5.fT.trans fβ).trans fγ.fT
          have fb : fTm μ π := fν.trans (t2.fM (fun _ => False) (fun _ => False)).fTm
          rcases IH (by omega) γ π _ A2 D2 with ⟨σ3, μ3, p, k, v1, v2, v3, v4, v5, v6, v7⟩ | ⟨σ3, μ3, C, v1, v2, v3, v4, v5, v6, v7, v8⟩
          · left
            exact ⟨σ3, μ3, p, k, v1, v2, v3, v4, v5, fa.trans v6, fb.trans v7⟩
          · right
            exact ⟨σ3, μ3, C, v1, v2, v3, v4, v5, v6, fa.trans v7, fb.trans v8⟩
      · -- no ; there
        left
        have c59 : ¬ nI (g s2) = nI 59 := fun z => h59 ((nI_eq (by omega) (by decide)).mp z)
        rw [if_neg c59, decide_eq_false (fun z => h59 z.2), if_pos rfl, βk.2.1]
        unfold fX12_reads_J56
        rw [if_neg (nI_pos (by omega)), if_neg (show ¬ nI (g s2) = (59 : Int32) from c59)]
        unfold fX12_reads_J74 fX12_reads_J79 fX12_reads_J102 fX12_reads_J103
        have s1 : (ms ν 28 28 1) 28 28 = 1 := ms_same _ _ _ _
        rw [if_neg (by decide), if_pos rfl, m_L140]
        have t2 : tmF mk278 ν (ms (ms ν 28 28 1) 28 27 ((ms ν 28 28 1) 28 27 + 0)) := (tmF_ms ν _ (Or.inr rfl)).trans (tmF_ms _ _ (Or.inl rfl))
        have e28 : (ms (ms ν 28 28 1) 28 27 ((ms ν 28 28 1) 28 27 + 0)) 28 28 = 1 := by rw [ms_get, if_neg (by decide)]; exact s1
        refine ⟨β, _, s2, _, hs2, rfl, rfl, e28, ?_, w5.fT.trans fβ, fν.trans (t2.fM (fun _ => False) (fun _ => False)).fTm⟩
        rw [ms_same, ms_get, if_neg (by decide), n2]
        exact Int32.add_zero _
theorem al_text {n : Nat} {g : Nat → Nat} (ho : gOk n g) : ∀ (m c f f2 : Nat) (σ μ : QMem) (s : Nat), c + m = 23 → m < f → m + 1 < f2 → Al n g σ μ s → (∀ k, k < c → DW σ μ k) → tC n c f f2 σ μ := by
  intro m
  induction m with
  | zero =>
    intro c f f2 σ μ s hcm hf hf2 hA hDW
    obtain ⟨f, rfl⟩ : ∃ k, f = k + 1 := ⟨f - 1, by omega⟩
    obtain ⟨f2, rfl⟩ : ∃ k, f2 = k + 2 := ⟨f2 - 2, by omega⟩
    exact al_tstep ho (by omega) hA hDW (fun z => by omega)
  | succ m ih =>
    intro c f f2 σ μ s hcm hf hf2 hA hDW
    obtain ⟨f, rfl⟩ : ∃ k, f = k + 1 := ⟨f - 1, by omega⟩
    obtain ⟨f2, rfl⟩ : ∃ k, f2 = k + 2 := ⟨f2 - 2, by omega⟩
    exact al_tstep ho (by omega) hA hDW (fun _ σ μ s h1 h2 => ih (c + 1) f (f2 + 1) σ μ s (by omega) (by omega) (by omega) h1 h2)
/-- the whole text: both find the same fault, or none and the same clauses -/
theorem al_whole {σ μ : QMem} (h : RT σ μ) :
    (∃ (σ2 μ2 : QMem) (p : Nat) (k : Int32), p ≤ 200 ∧ fX8_findFault σ = some (nI p, σ2) ∧ fX12_reads μ = some (k, μ2) ∧ μ2 28 28 = 1 ∧ μ2 28 27 = nI p ∧ fT σ σ2 ∧ fTm μ μ2) ∨
    (∃ (σ2 μ2 : QMem) (C : Nat), C ≤ 24 ∧ fX8_findFault σ = some (-1, σ2) ∧ σ2 109 3 = nI C ∧ fX12_reads μ = some (nI C, μ2) ∧ μ2 28 28 = 0 ∧ (∀ k, k < C → DW σ2 μ2 k) ∧ fT σ σ2 ∧ fTm μ μ2) := by
  obtain ⟨n, n200, h1, h2, h3⟩ := h
  have hg : ∃ g : Nat → Nat, ∀ i, i < n → g i < 256 ∧ μ 23 i = nI (g i) ∧ σ 83 i = nI (g i) := by
    refine ⟨fun i => (μ 23 i).toNatClampNeg, fun i hi => ?_⟩
    obtain ⟨e1, t, t1, t2⟩ := h3 i hi
    have e : (μ 23 i).toNatClampNeg = t := by rw [t2]; exact nI_clamp (by omega)
    refine ⟨?_, ?_, ?_⟩
    · show (μ 23 i).toNatClampNeg < 256
      rw [e]; exact t1
    · show μ 23 i = nI (μ 23 i).toNatClampNeg
      rw [e]; exact t2
    · show σ 83 i = nI (μ 23 i).toNatClampNeg
      rw [e, e1]; exact t2
  obtain ⟨g, hg⟩ := hg
  have ho : gOk n g := ⟨n200, fun i hi => (hg i hi).1⟩
  have hx : xTx σ n g := ⟨h1, fun i hi => (hg i hi).2.2⟩
  have hm : mTx μ n g := ⟨h2, fun i hi => (hg i hi).2.1⟩
  have fa : fT σ (ms (ms σ 109 3 0) 109 6 0) := (fT_ms σ _ (by decide)).trans (fT_ms _ _ (by decide))
  have fb : fTm μ (ms (ms μ 28 27 0) 28 28 0) := (fTm_ms μ _ (Or.inl rfl)).trans (fTm_ms _ _ (Or.inr rfl))
  have hx1 : xTx (ms (ms σ 109 3 0) 109 6 0) n g := ⟨by rw [fa.2]; exact hx.1, by rw [fa.1 83 (by decide) (by decide)]; exact hx.2⟩
  have hm1 : mTx (ms (ms μ 28 27 0) 28 28 0) n g := ⟨by rw [fb.2 26 (by unfold mk278; decide)]; exact hm.1, by rw [fb.1 23 (by decide) (by decide) (by decide)]; exact hm.2⟩
  obtain ⟨τ, t1, t2, t3⟩ := c_next ho hx1 (show 0 ≤ n by omega) (ms_same _ _ _ _)
  have fc : fT σ τ := fa.trans (t3.fD (fun _ => False)).fT
  have e27 : (ms (ms μ 28 27 0) 28 28 0) 28 27 = nI 0 := by rw [ms_get, if_neg (by decide)]; exact ms_same _ _ _ _
  have e28 : (ms (ms μ 28 27 0) 28 28 0) 28 28 = 0 := ms_same _ _ _ _
  have A : Al n g τ (ms (ms μ 28 27 0) 28 28 0) (gs n g 0) := ⟨xTx_D hx1 (t3.fD (fun _ => False)), hm1, (gs_b (by omega)).2.1, t2, ⟨0, by omega, rfl, e27⟩, e28⟩
  have T := al_text ho 23 0 FU FU _ _ _ rfl (by unfold FU; omega) (by unfold FU; omega) A (fun k hk => by omega)
  unfold fX8_findFault fX12_reads
  rw [t1, Option.bind_some]
  rcases T with ⟨σ3, μ3, p, k, v1, v2, v3, v4, v5, v6, v7⟩ | ⟨σ3, μ3, C, v1, v2, v3, v4, v5, v6, v7, v8⟩
  · left
    exact ⟨σ3, μ3, p, k, by omega, v2, v3, v4, v5, fc.trans v6, fb.trans v7⟩
  · right
    exact ⟨σ3, μ3, C, v1, v2, v3, v4, v5, v6, fc.trans v7, fb.trans v8⟩
theorem fT.sX {σ τ : QMem} (h : fT σ τ) : sX σ τ := ⟨fun k hk => h.1 k (by rintro rfl; unfold eX at hk; omega) (by rintro rfl; unfold eX at hk; omega), h.2⟩
theorem fTm.sM {μ ν : QMem} (h : fTm μ ν) : sM μ ν := ⟨fun k hk => h.1 k (by rintro rfl; unfold eM at hk; omega) (by rintro rfl; unfold eM at hk; omega) (by rintro rfl; unfold eM at hk; omega), h.2 15 (by unfold mk278; decide), h.2 26 (by unfold mk278; decide), h.2 33 (by unfold mk278; decide)⟩
theorem ag_fault (σ μ : QMem) (h : RR σ μ) : ∃ (r : Int32) (σ2 μ2 : QMem), fX11_fault σ = some (r, σ2) ∧ fX12_fault μ = some (r, μ2) ∧ RR σ2 μ2 := by
  obtain ⟨S, hS⟩ := h
  unfold fX11_fault fX12_fault
  rcases al_whole hS.2.2.2.1 with ⟨σ3, μ3, p, k, v1, v2, v3, v4, v5, v6, v7⟩ | ⟨σ3, μ3, C, v1, v2, v3, v4, v5, v6, v7, v8⟩
  · have n0 : ¬ μ3 28 28 = 0 := by rw [v4]; decide
    rw [v2, v3, Option.bind_some, Option.bind_some, if_neg n0]
    simp only
    rw [v5]
    exact ⟨_, _, _, rfl, rfl, ⟨S, RRS_keep hS v6.sX v7.sM⟩⟩
  · rw [v2, v4, Option.bind_some, Option.bind_some, if_pos v5]
    exact ⟨_, _, _, rfl, rfl, ⟨S, RRS_keep hS v7.sX v8.sM⟩⟩
