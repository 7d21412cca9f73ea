/-- the word, on the desk's side -/
theorem c_rw {n : Nat} {g : Nat → Nat} (ho : gOk n g) {σ μ : QMem} {s c : Nat} (hA : Al n g σ μ s) (hc : c < 24) :
    (∀ w, w < 4 → gnm n g s w → (∀ u, u < w → ¬ gnm n g s u) → ∃ τ, fX8_readClause (nI c) σ = rcK w (nI c) τ ∧ τ 84 (6 * c) = nI w ∧ τ 84 (6 * c + 1) = 0 ∧ xTk τ n g (gs n g (gte n g s)) ∧ fD (pD c) σ τ) ∧
    ((∀ u, u < 4 → ¬ gnm n g s u) → ∃ τ, fX8_readClause (nI c) σ = some (0, τ) ∧ τ 109 5 = nI s ∧ fD (pD c) σ τ) := by
  obtain ⟨hx, hm, hs, hk, -, -⟩ := hA
  have f1 : fD (pD c) σ (ms σ 84 (6 * c + 1) 0) := fD_ms σ _ (by unfold pD; omega)
  have p1 : fX8_putWord (nI c) 1 0 σ = some (ms σ 84 (6 * c + 1) 0) := c_putw hc (show 1 < 6 by decide) 0
  generalize hα : ms σ 84 (6 * c + 1) 0 = α at f1 p1
  have α1 : α 84 (6 * c + 1) = 0 := by rw [← hα, ms_same]
  have hx1 := xTx_D hx f1
  have hk1 : xTk α n g s := by rw [← hα]; unfold xTk; rw [ms_cell _ (by decide)]; exact hk
  have N := fun w (hw : w < 4) => c_name ho hx1 hs hk1 hw
  have tf : ¬ (true = false) := by decide
  have t := gte_b (g := g) hs
  have fin : ∀ w : Nat, ∃ τ, fX8_putWord (nI c) 0 (nI w) α = some (ms α 84 (6 * c) (nI w)) ∧ fX8_nextToken (ms α 84 (6 * c) (nI w)) = some τ ∧ τ 84 (6 * c) = nI w ∧ τ 84 (6 * c + 1) = 0 ∧ xTk τ n g (gs n g (gte n g s)) ∧ fD (pD c) σ τ := by
    intro w
    have f2 : fD (pD c) α (ms α 84 (6 * c) (nI w)) := fD_ms α _ (by unfold pD; omega)
    obtain ⟨τ, u1, u2, u3⟩ := c_next ho (xTx_D hx1 f2) t.2 (by rw [ms_cell _ (by decide)]; exact hk1.2.2)
    refine ⟨τ, c_putw hc (show 0 < 6 by decide) (nI w), u1, ?_, ?_, u2, (f1.trans f2).trans (u3.fD _)⟩
    · rw [u3.1 84 (by decide), ms_same]
    · rw [u3.1 84 (by decide), ms_get, if_neg (by omega)]; exact α1
  unfold fX8_readClause
  rw [p1, Option.bind_some, N 0 (by decide), Option.bind_some]
  simp only [bI_0]
  constructor
  · intro w hw hg hu
    obtain ⟨τ, t1, t2, t3⟩ := fin w
    refine ⟨τ, ?_, t3⟩
    rcases (show w = 0 ∨ w = 1 ∨ w = 2 ∨ w = 3 by omega) with rfl | rfl | rfl | rfl
    · have t1' : fX8_putWord (nI c) 0 0 α = _ := t1
      rw [gnb_t hg, if_neg tf, t1', Option.bind_some, t2, Option.bind_some]
      rfl
    · have t1' : fX8_putWord (nI c) 0 1 α = _ := t1
      rw [gnb_f (hu 0 (by omega)), if_pos rfl, N 1 (by decide), Option.bind_some]
      simp only [bI_0]
      rw [gnb_t hg, if_neg tf, t1', Option.bind_some, t2, Option.bind_some]
      rfl
    · have t1' : fX8_putWord (nI c) 0 2 α = _ := t1
      rw [gnb_f (hu 0 (by omega)), if_pos rfl, N 1 (by decide), Option.bind_some]
      simp only [bI_0]
      rw [gnb_f (hu 1 (by omega)), if_pos rfl, N 2 (by decide), Option.bind_some]
      simp only [bI_0]
      rw [gnb_t hg, if_neg tf, t1', Option.bind_some, t2, Option.bind_some]
      rfl
    · have t1' : fX8_putWord (nI c) 0 3 α = _ := t1
      rw [gnb_f (hu 0 (by omega)), if_pos rfl, N 1 (by decide), Option.bind_some]
      simp only [bI_0]
      rw [gnb_f (hu 1 (by omega)), if_pos rfl, N 2 (by decide), Option.bind_some]
      simp only [bI_0]
      rw [gnb_f (hu 2 (by omega)), if_pos rfl, N 3 (by decide), Option.bind_some]
      simp only [bI_0]
      rw [gnb_t hg, if_neg tf, t1', Option.bind_some, t2, Option.bind_some]
      rfl
  · intro hu
    refine ⟨α, ?_, hk1.2.1, f1⟩
    rw [gnb_f (hu 0 (by omega)), if_pos rfl, N 1 (by decide), Option.bind_some]
    simp only [bI_0]
    rw [gnb_f (hu 1 (by omega)), if_pos rfl, N 2 (by decide), Option.bind_some]
    simp only [bI_0]
    rw [gnb_f (hu 2 (by omega)), if_pos rfl, N 3 (by decide), Option.bind_some]
    simp only [bI_0]
    rw [gnb_f (hu 3 (by omega)), if_pos rfl]
/-- what both keep of a clause -/
def DW (σ μ : QMem) (c : Nat) : Prop := ∃ w, w < 4 ∧ σ 84 (6 * c) = nI w ∧ μ 24 c = nI w ∧ (w = 0 → σ 84 (6 * c + 1) = 0) ∧ (1 ≤ w → ∃ S, S < 6 ∧ σ 84 (6 * c + 1) = nI S ∧ μ 25 (5 * c) = nI S) ∧ (w = 1 → ∃ X, qV X ∧ mAt σ 84 (6 * c + 2) X ∧ mAt μ 25 (5 * c + 1) X) ∧ (w = 2 → ∃ K, K < 24 ∧ σ 84 (6 * c + 2) = nI K ∧ μ 25 (5 * c + 1) = nI K) ∧ (w = 3 → ∃ T, T < 6 ∧ σ 84 (6 * c + 2) = nI T ∧ μ 25 (5 * c + 1) = nI T)
theorem m_takes1 {a b : Int32} {μ : QMem} (h : μ 28 28 = 1) : fX12_takes a b μ = some μ := by
  unfold fX12_takes
  rw [if_neg (by rw [h]; decide)]
/-- behind the numbers of a word that is no put -/
theorem m_68n {c : Nat} (hc : c < 24) {μ : QMem} (h : ¬ μ 24 c = 1) : fX12_readsClause_J66 (nI c) (5 * nI c) μ = some μ := by
  have m24 : ml 24 = 24 := rfl
  have kc : (nI c).toNatClampNeg = c := nI_clamp (by omega)
  have g24 : ¬ (nI c < 0 ∨ ml 24 ≤ (nI c).toNatClampNeg) := nI_in (by rw [m24]; exact hc) (by decide)
  rw [kc] at g24
  unfold fX12_readsClause_J66
  show fX12_readsClause_L68 (nI c) (1999 + 1) (5 * nI c) 0 μ = _
  rw [fX12_readsClause_L68, if_neg (by decide), kc, if_neg g24, if_neg h]
theorem m_29 {c : Nat} (hc : c < 24) {μ : QMem} (w : Nat) (hw : μ 24 c = nI w) (hw4 : w < 4) : fX12_readsClause_J29 (nI c) (5 * nI c) μ = if w = 2 then (fX12_takes (nI (5 * c + 1)) 23 μ).bind fun xq16 => fX12_readsClause_J48 (nI c) (5 * nI c) xq16 else if w = 3 then (fX12_takes (nI (5 * c + 1)) 5 μ).bind fun xq8 => fX12_readsClause_J66 (nI c) (5 * nI c) xq8 else fX12_readsClause_J66 (nI c) (5 * nI c) μ := by
  have m24 : ml 24 = 24 := rfl
  have kc : (nI c).toNatClampNeg = c := nI_clamp (by omega)
  have g24 : ¬ (nI c < 0 ∨ ml 24 ≤ (nI c).toNatClampNeg) := nI_in (by rw [m24]; exact hc) (by decide)
  rw [kc] at g24
  have e5 : 5 * nI c + 1 = nI (5 * c + 1) := by rw [show (5 : Int32) = nI 5 from rfl, nI_mulM]; exact nI_1 _
  unfold fX12_readsClause_J29
  rw [kc, if_neg g24, hw, e5]
  by_cases h2 : w = 2
  · rw [if_pos (show nI w = 2 by rw [h2]; rfl), if_pos h2]
  · rw [if_neg (show ¬ nI w = (2 : Int32) from fun z => h2 ((nI_eq (a := w) (b := 2) (by omega) (by decide)).mp z)), if_neg h2]
    unfold fX12_readsClause_J48
    rw [kc, if_neg g24, hw, e5]
    by_cases h3 : w = 3
    · rw [if_pos (show nI w = 3 by rw [h3]; rfl), if_pos h3]
    · rw [if_neg (show ¬ nI w = (3 : Int32) from fun z => h3 ((nI_eq (a := w) (b := 3) (by omega) (by decide)).mp z)), if_neg h3]
theorem m_48 {c : Nat} (hc : c < 24) {μ : QMem} (hw : μ 24 c = nI 2) : fX12_readsClause_J48 (nI c) (5 * nI c) μ = some μ := by
  have m24 : ml 24 = 24 := rfl
  have kc : (nI c).toNatClampNeg = c := nI_clamp (by omega)
  have g24 : ¬ (nI c < 0 ∨ ml 24 ≤ (nI c).toNatClampNeg) := nI_in (by rw [m24]; exact hc) (by decide)
  rw [kc] at g24
  unfold fX12_readsClause_J48
  rw [kc, if_neg g24, hw, if_neg (by decide)]
  exact m_68n hc (by rw [hw]; decide)

/-- a clause, on both sides -/
theorem al_clause {n : Nat} {g : Nat → Nat} (ho : gOk n g) {σ μ : QMem} {s c : Nat} (hA : Al n g σ μ s) (hc : c < 24) :
    (∃ σ2 μ2, fX8_readClause (nI c) σ = some (0, σ2) ∧ fX12_readsClause (nI c) μ = some μ2 ∧ Ft n g σ2 μ2 ∧ fD (pD c) σ σ2 ∧ fM (pM1 c) (pM2 c) μ μ2) ∨
    (∃ σ2 μ2 s2, fX8_readClause (nI c) σ = some (1, σ2) ∧ fX12_readsClause (nI c) μ = some μ2 ∧ Al n g σ2 μ2 s2 ∧ DW σ2 μ2 c ∧ fD (pD c) σ σ2 ∧ fM (pM1 c) (pM2 c) μ μ2) := by
  have m24 : ml 24 = 24 := rfl
  have kc : (nI c).toNatClampNeg = c := nI_clamp (by omega)
  have g24 : ¬ (nI c < 0 ∨ ml 24 ≤ (nI c).toNatClampNeg) := nI_in (by rw [m24]; exact hc) (by decide)
  rw [kc] at g24
  obtain ⟨C1, C2⟩ := c_rw ho hA hc
  obtain ⟨M1, M2⟩ := m_rw ho hA
  have hA' := hA
  obtain ⟨hx, hm, hs, hk, -, h28⟩ := hA'
  have e5 : 5 * nI c = nI (5 * c) := by rw [show (5 : Int32) = nI 5 from rfl, nI_mulM]
  have ref : ∀ (w : Int32) (ν : QMem), fX12_readsWord μ = some (w, ν) → fX12_readsClause (nI c) μ = rmK c (ms ν 24 c w) := by
    intro w ν h
    unfold fX12_readsClause rmK
    rw [h, Option.bind_some]
    simp only
    rw [kc, if_neg g24, if_neg g24]
  rcases gnm_cases n g s with ⟨w, hw, hg, hu⟩ | hu
  · obtain ⟨σ1, d1, d2, d3, d4, d5⟩ := C1 w hw hg hu
    obtain ⟨ν, n1, n2, n3, n4⟩ := M1 w hw hg hu
    rw [d1, ref _ _ n1]
    have t := gte_b (g := g) hs
    have fM1 : fM (pM1 c) (pM2 c) μ (ms ν 24 c (nI w)) := (n4.fM _ _).trans (fM_ms24 ν _ rfl)
    generalize hπ : ms ν 24 c (nI w) = π at fM1
    have π24 : π 24 c = nI w := by rw [← hπ, ms_same]
    have A1 : Al n g σ1 π (gs n g (gte n g s)) := ⟨xTx_D hx d5, mTx_M hm fM1, (gs_b t.2).2.1, d4, ⟨gte n g s, t.2, rfl, by rw [← hπ, ms_cell _ (by decide)]; exact n2⟩, by rw [← hπ, ms_cell _ (by decide)]; exact n3⟩
    unfold rmK rcK
    by_cases h0 : w = 0
    · right
      subst h0
      rw [if_pos rfl, π24, if_pos (by decide), m_29 hc 0 π24 (by omega), if_neg (by decide), if_neg (by decide), m_68n hc (by rw [π24]; decide)]
      exact ⟨σ1, π, _, rfl, rfl, A1, ⟨0, by omega, d2, π24, fun _ => d3, fun z => by omega, fun z => by omega, fun z => by omega, fun z => by omega⟩, d5, fM1⟩
    · have le0 : ¬ nI w ≤ (0 : Int32) := nI_ge (b := w) (a := 0) (by omega) (by omega)
      rw [if_neg h0, π24, if_neg le0, e5]
      -- the slot
      have num := al_num ho A1 (c := c) (j := 1) (p := 5 * c) (b := 5) hc (by decide) (by omega) (by decide)
      rw [show nI 1 = (1 : Int32) from rfl, show nI 5 = (5 : Int32) from rfl] at num
      rcases num with ⟨S, σ2, μ2, s2, S5, r1, r2, A2, r3, r4, r5, r6⟩ | ⟨σ2, μ2, r1, r2, F2, r5, r6⟩
      · have fD2 : fD (pD c) σ σ2 := d5.trans (r5.weaken (fun j h => by unfold pD; omega))
        have fM2 : fM (pM1 c) (pM2 c) μ μ2 := fM1.trans (r6.weaken (fun j h => h.elim) (fun j h => by unfold pM2; omega))
        have w2 : μ2 24 c = nI w := by rw [r6.2.2.1 c (fun z => z)]; exact π24
        have d2' : σ2 84 (6 * c) = nI w := by rw [r5.2.2 _ (by omega)]; exact d2
        rw [r1, r2, Option.bind_some, Option.bind_some, Option.bind_some, Option.bind_some, ← e5, m_29 hc w w2 hw]
        simp only
        rw [if_neg i10, if_neg i10, if_neg i10]
        by_cases h1 : w = 1
        · subst h1
          rw [if_pos rfl, if_neg (by decide), if_neg (by decide)]
          unfold fX8_readParts fX12_readsClause_J66
          have ap := al_parts ho hc 4 0 FU FU 0 0 σ2 μ2 s2 (fun _ => 0) (by omega) (by unfold FU; omega) (by unfold FU; omega) A2 w2 (by omega) (by omega) (fun z => by omega) (fun k hk => by omega) (fun k hk => by omega) (fun k hk => by omega) (fun k hk => by omega) (fun z => by omega) rfl
          rw [show nI 0 = (0 : Int32) from rfl] at ap
          rw [e5]
          rcases ap with ⟨σ3, μ3, v1, v2, v3, v4, v5⟩ | ⟨X, σ3, μ3, s3, vX, v1, v2, v3, v4, v5, v6, v7⟩
          · left
            rw [v1, v2, Option.bind_some]
            simp only
            rw [if_pos trivial]
            exact ⟨σ3, μ3, rfl, rfl, v3, fD2.trans v4, fM2.trans v5⟩
          · right
            rw [v1, v2, Option.bind_some]
            simp only
            rw [if_neg i10]
            refine ⟨σ3, μ3, s3, rfl, rfl, v3, ⟨1, by omega, ?_, ?_, fun z => by omega, fun _ => ⟨S, by omega, ?_, ?_⟩, fun _ => ⟨X, vX, v4, v5⟩, fun z => by omega, fun z => by omega⟩, fD2.trans (v6.weaken (fun j h => by unfold pD; omega)), fM2.trans (v7.weaken (fun j h => h.elim) (fun j h => by unfold pM2; omega))⟩
            · rw [v6.2.2 _ (by omega)]; exact d2'
            · rw [v7.2.2.1 c (fun z => z)]; exact w2
            · rw [v6.2.2 _ (by omega)]; exact r3
            · rw [v7.2.2.2 _ (by omega)]; exact r4
        · rw [if_neg h1]
          by_cases hw2 : w = 2
          · subst hw2
            rw [if_pos rfl, if_pos rfl]
            have num2 := al_num ho A2 (c := c) (j := 2) (p := 5 * c + 1) (b := 23) hc (by decide) (by omega) (by decide)
            rw [show nI 2 = (2 : Int32) from rfl, show nI 23 = (23 : Int32) from rfl] at num2
            rcases num2 with ⟨K, σ3, μ3, s3, K5, q1, q2, A3, q3, q4, q5, q6⟩ | ⟨σ3, μ3, q1, q2, F3, q5, q6⟩
            · right
              have w3 : μ3 24 c = nI 2 := by rw [q6.2.2.1 c (fun z => z)]; exact w2
              rw [q1, q2, Option.bind_some, Option.bind_some, m_48 hc w3]
              simp only
              rw [if_neg i10]
              refine ⟨σ3, μ3, s3, rfl, rfl, A3, ⟨2, by omega, ?_, w3, fun z => by omega, fun _ => ⟨S, by omega, ?_, ?_⟩, fun z => by omega, fun _ => ⟨K, by omega, q3, q4⟩, fun z => by omega⟩, fD2.trans (q5.weaken (fun j h => by unfold pD; omega)), fM2.trans (q6.weaken (fun j h => h.elim) (fun j h => by unfold pM2; omega))⟩
              · rw [q5.2.2 _ (by omega)]; exact d2'
              · rw [q5.2.2 _ (by omega)]; exact r3
              · rw [q6.2.2.2 _ (by omega)]; exact r4
            · left
              have w3 : μ3 24 c = nI 2 := by rw [q6.2.2.1 c (fun z => z)]; exact w2
              rw [q1, q2, Option.bind_some, Option.bind_some, m_48 hc w3]
              simp only
              rw [if_pos trivial]
              exact ⟨σ3, μ3, rfl, rfl, F3, fD2.trans (q5.weaken (fun j h => by unfold pD; omega)), fM2.trans (q6.weaken (fun j h => h.elim) (fun j h => by unfold pM2; omega))⟩
          · have hw3 : w = 3 := by omega
            subst hw3
            rw [if_neg (by decide), if_neg (by decide), if_pos rfl]
            have num2 := al_num ho A2 (c := c) (j := 2) (p := 5 * c + 1) (b := 5) hc (by decide) (by omega) (by decide)
            rw [show nI 2 = (2 : Int32) from rfl, show nI 5 = (5 : Int32) from rfl] at num2
            rcases num2 with ⟨K, σ3, μ3, s3, K5, q1, q2, A3, q3, q4, q5, q6⟩ | ⟨σ3, μ3, q1, q2, F3, q5, q6⟩
            · right
              have w3 : μ3 24 c = nI 3 := by rw [q6.2.2.1 c (fun z => z)]; exact w2
              rw [q1, q2, Option.bind_some, Option.bind_some, m_68n hc (by rw [w3]; decide)]
              simp only
              rw [if_neg i10]
              refine ⟨σ3, μ3, s3, rfl, rfl, A3, ⟨3, by omega, ?_, w3, fun z => by omega, fun _ => ⟨S, by omega, ?_, ?_⟩, fun z => by omega, fun z => by omega, fun _ => ⟨K, by omega, q3, q4⟩⟩, fD2.trans (q5.weaken (fun j h => by unfold pD; omega)), fM2.trans (q6.weaken (fun j h => h.elim) (fun j h => by unfold pM2; omega))⟩
              · rw [q5.2.2 _ (by omega)]; exact d2'
              · rw [q5.2.2 _ (by omega)]; exact r3
              · rw [q6.2.2.2 _ (by omega)]; exact r4
            · left
              have w3 : μ3 24 c = nI 3 := by rw [q6.2.2.1 c (fun z => z)]; exact w2
              rw [q1, q2, Option.bind_some, Option.bind_some, m_68n hc (by rw [w3]; decide)]
              simp only
              rw [if_pos trivial]
              exact ⟨σ3, μ3, rfl, rfl, F3, fD2.trans (q5.weaken (fun j h => by unfold pD; omega)), fM2.trans (q6.weaken (fun j h => h.elim) (fun j h => by unfold pM2; omega))⟩
      · left
        have fD2 : fD (pD c) σ σ2 := d5.trans (r5.weaken (fun j h => by unfold pD; omega))
        have fM2 : fM (pM1 c) (pM2 c) μ μ2 := fM1.trans (r6.weaken (fun j h => h.elim) (fun j h => by unfold pM2; omega))
        have w2 : μ2 24 c = nI w := by rw [r6.2.2.1 c (fun z => z)]; exact π24
        have F2' := F2
        obtain ⟨-, -, p, -, -, -, p28⟩ := F2'
        have e29 : fX12_readsClause_J29 (nI c) (5 * nI c) μ2 = some μ2 := by
          have e66 : fX12_readsClause_J66 (nI c) (5 * nI c) μ2 = some μ2 := by
            unfold fX12_readsClause_J66
            rw [e5]
            exact m_skip68 hc p28 4 0 FU (by omega) (by unfold FU; omega)
          rw [m_29 hc w w2 hw]
          by_cases h2 : w = 2
          · subst h2
            rw [if_pos rfl, m_takes1 p28, Option.bind_some, m_48 hc w2]
          · rw [if_neg h2]
            by_cases h3 : w = 3
            · rw [if_pos h3, m_takes1 p28, Option.bind_some, e66]
            · rw [if_neg h3, e66]
        rw [r1, r2, Option.bind_some, Option.bind_some, Option.bind_some, Option.bind_some, ← e5, e29]
        simp only
        rw [if_pos trivial, if_pos trivial, if_pos trivial]
        refine ⟨σ2, μ2, ?_, rfl, F2, fD2, fM2⟩
        split
        · rfl
        · split <;> rfl
  · left
    obtain ⟨σ1, d1, d2, d3⟩ := C2 hu
    obtain ⟨ν, n1, n2, n3, n4⟩ := M2 hu
    have fM1 : fM (pM1 c) (pM2 c) μ (ms ν 24 c (-1)) := (n4.fM _ _).trans (fM_ms24 ν _ rfl)
    rw [d1, ref _ _ n1]
    generalize hπ : ms ν 24 c (-1) = π at fM1
    have π24 : π 24 c = -1 := by rw [← hπ, ms_same]
    have π28 : π 28 28 = 1 := by rw [← hπ, ms_cell _ (by decide)]; exact n3
    have π27 : π 28 27 = nI s := by rw [← hπ, ms_cell _ (by decide)]; exact n2
    have e29 : fX12_readsClause_J29 (nI c) (5 * nI c) π = some π := by
      unfold fX12_readsClause_J29 fX12_readsClause_J48
      rw [kc, if_neg g24, π24, if_neg (by decide), if_neg g24, if_neg (by decide)]
      exact m_68n hc (by rw [π24]; decide)
    unfold rmK
    rw [π24, if_pos (by decide), e29]
    exact ⟨σ1, π, rfl, rfl, ⟨xTx_D hx d3, mTx_M hm fM1, s, hs, d2, π27, π28⟩, d3, fM1⟩
