/-! THE TEXT, both sides: the parts of put -/
theorem al_sign {n : Nat} {g : Nat → Nat} (ho : gOk n g) {σ μ : QMem} {s : Nat} (hA : Al n g σ μ s) (p1 v2 v3 v4 q1 q2 : Int32) (h4 : ¬ (4 : Int32) ≤ v4) (f : Nat) :
    ∃ (neg : Bool) (s1 : Nat) (σ1 μ1 : QMem), s1 ≤ n ∧ gs n g s1 = s1 ∧ xTk σ1 n g s1 ∧ μ1 28 27 = nI s1 ∧ tkF tk456 σ σ1 ∧ tmF (fun j => j = 27) μ μ1 ∧
      fX8_readParts_L7 p1 (f + 1) v2 v3 v4 σ = fX8_readParts_J30 p1 (fX8_readParts_L7 p1 f) v2 v3 v4 (bI neg) σ1 ∧
      fX12_takesPart q1 q2 μ = (fX12_figures 24 μ1).bind fun xq19 => (if (xq19.2 28 28) = 0 then (if bI neg = 0 then (fX12_takesPart_J87 q1 q2 (nI s1) xq19.1 25 (q1 + q2) xq19.1 xq19.2) else (fX12_takesPart_J87 q1 q2 (nI s1) xq19.1 25 (q1 + q2) (-xq19.1) xq19.2)) else (some xq19.2)) := by
  obtain ⟨hx, hm, hs, hk, ⟨r, hr, er, h27⟩, h28⟩ := hA
  have h200 := ho.1
  obtain ⟨ν, n1, n2, n3⟩ := m_look ho hm hr h27
  rw [er] at n1 n2
  have sg := c_sign ho hx hs hk (x := 45) (by omega)
  rw [fX8_readParts_L7, if_neg h4, show (45 : Int32) = nI 45 from rfl, sg, Option.bind_some]
  simp only [bI_0]
  unfold fX12_takesPart
  rw [if_pos h28, n1, Option.bind_some]
  simp only
  unfold fX12_takesPart_J22 fX12_takesPart_J37
  have mν := mTx_F hm n3 (by decide)
  by_cases c : s < n ∧ g s = 45
  · have k3 : gk n g s = 3 := by
      unfold gk
      rw [if_neg (by omega), if_neg (by omega), if_neg (by omega)]
    have te : gte n g s = s + 1 := by
      unfold gte
      rw [if_neg (by omega), if_pos k3]
    have gl45 : gl n g s = nI 45 := by unfold gl; rw [if_pos c.1, c.2]
    obtain ⟨τ, t1, t2, t3⟩ := c_next ho hx (show s + 1 ≤ n by omega) (by rw [hk.2.2, te])
    have f1 : tmF (fun j => j = 27) μ (ms ν 28 27 (nI s + 1)) := n3.trans (tmF_ms ν _ rfl)
    obtain ⟨π, p1', p2', p3'⟩ := m_look ho (mTx_F hm f1 (by decide)) (show s + 1 ≤ n by omega) (by rw [ms_same]; exact nI_1 s)
    have b := gs_b (g := g) (show s + 1 ≤ n by omega)
    refine ⟨true, gs n g (s + 1), τ, π, b.2.1, gs_id (by omega), t2, p2', t3, f1.trans p3', ?_, ?_⟩
    · rw [decide_eq_true c, if_neg (by decide), t1]
      rfl
    · rw [gl45, if_pos (show nI 45 = (45 : Int32) from rfl), if_neg (show ¬ (1 : Int32) = 0 by decide), n2, p1', Option.bind_some]
      simp only
      rw [p2']
      have e1 : ¬ (true = false) := by decide
      have e2 : ¬ ((1 : Int32) = 0) := by decide
      simp only [if_neg e1, if_neg e2]
  · have gl45 : ¬ gl n g s = (45 : Int32) := by
      unfold gl
      by_cases c1 : s < n
      · rw [if_pos c1]
        have b := ho.2 s c1
        exact fun z => c ⟨c1, (nI_eq (a := g s) (b := 45) (by omega) (by decide)).mp z⟩
      · rw [if_neg c1]; decide
    have f1 : tmF (fun j => j = 27) μ (ms ν 28 27 (nI s + 0)) := n3.trans (tmF_ms ν _ rfl)
    obtain ⟨π, p1', p2', p3'⟩ := m_look ho (mTx_F hm f1 (by decide)) (show s ≤ n by omega) (by rw [ms_same]; exact Int32.add_zero _)
    have gss : gs n g s = s := by rw [← er]; exact gs_id hr
    rw [gss] at p1' p2'
    refine ⟨false, s, σ, π, hs, gss, hk, p2', tkF.refl _ _, f1.trans p3', ?_, ?_⟩
    · rw [decide_eq_false c, if_pos rfl]
    · rw [if_neg gl45, if_pos rfl, n2, p1', Option.bind_some]
      simp only
      rw [p2']
theorem par_xor : ∀ a, a < 25 → ∀ b, b < 25 → ((nI a ^^^ nI b) &&& 1 = 0 ↔ a % 2 = b % 2) := by decide +kernel
theorem sg_par {v : Nat} {y : Int} (hy : y = v ∨ y = -(v : Int)) : y.natAbs = v := by omega
/-- one part -/
theorem al_part {n : Nat} {g : Nat → Nat} (ho : gOk n g) {σ μ : QMem} {s : Nat} (hA : Al n g σ μ s) {c i a q : Nat} (hc : c < 24) (hi : i < 4) (ha : a ≤ 24) (hq : q ≤ 5000) (x : Nat → Int) (hxM : ∀ k, k < i → μ 25 (5 * c + 1 + k) = qj (x k)) (hxb : ∀ k, k < i → -24 ≤ x k ∧ x k ≤ 24) (hxp : ∀ k, k < i → (x 0 - x k) % 2 = 0) (hxa : 1 ≤ i → a = (x 0).natAbs) (hxq : i = 3 → ((q : Nat) : Int) = x 0 * x 0 + x 1 * x 1 + x 2 * x 2) (f : Nat) :
    (∃ σ2 μ2, fX8_readParts_L7 (nI c) (f + 1) (nI a) (nI q) (nI i) σ = some (0, σ2) ∧ fX12_takesPart (nI (5 * c + 1)) (nI i) μ = some μ2 ∧ Ft n g σ2 μ2 ∧ fD (fun j => j = 6 * c + (2 + i)) σ σ2 ∧ fM (fun _ => False) (fun j => j = 5 * c + 1 + i) μ μ2) ∨
    (∃ (y : Int) (σ2 μ2 : QMem) (s2 : Nat), (-24 ≤ y ∧ y ≤ 24) ∧ (1 ≤ i → (x 0 - y) % 2 = 0) ∧ (i = 3 → q + y.natAbs * y.natAbs ≤ 600) ∧ fX8_readParts_L7 (nI c) (f + 1) (nI a) (nI q) (nI i) σ = fX8_readParts_L7 (nI c) f (nI (if i = 0 then y.natAbs else a)) (nI (q + y.natAbs * y.natAbs)) (nI (i + 1)) σ2 ∧ fX12_takesPart (nI (5 * c + 1)) (nI i) μ = some μ2 ∧ Al n g σ2 μ2 s2 ∧ σ2 84 (6 * c + (2 + i)) = qj y ∧ μ2 25 (5 * c + 1 + i) = qj y ∧ fD (fun j => j = 6 * c + (2 + i)) σ σ2 ∧ fM (fun _ => False) (fun j => j = 5 * c + 1 + i) μ μ2) := by
  have h200 := ho.1
  have c4 : ¬ (4 : Int32) ≤ nI i := nI_ge (b := 4) hi (by decide)
  obtain ⟨neg, s1, σ1, μ1, b1, id1, k1, r1, F1, G1, D, M⟩ := al_sign ho hA (nI c) (nI a) (nI q) (nI i) (nI (5 * c + 1)) (nI i) c4 f
  obtain ⟨hx, hm, hs, hk, ⟨r, hr, er, h27⟩, h28⟩ := hA
  have hx1 := xTx_F hx F1 (by unfold tk456; decide)
  have hm1 := mTx_F hm G1 (by decide)
  have h28' : μ1 28 28 = 0 := (G1.2 28 (by decide)).trans h28
  have G1' : tmF mk278 μ μ1 := G1.weaken (fun j h => Or.inl h)
  obtain ⟨M1, M2⟩ := m_figs ho (b := 24) (by decide) b1 hm1 r1
  rw [id1] at M1 M2
  rw [D, M]
  unfold fX8_readParts_J30
  rw [show (24 : Int32) = nI 24 from rfl, c_toknum ho hx1 b1 k1 (by decide), Option.bind_some]
  simp only
  cases hv : gnu n g s1 24 with
  | none =>
    left
    obtain ⟨ν, n1, n2, n3, n4⟩ := M2 hv
    have z0 : ¬ (0 : Int32) ≤ gnV none := by unfold gnV; decide
    have z1 : ¬ ν 28 28 = 0 := by rw [n3]; decide
    rw [if_neg z0, n1, Option.bind_some]
    simp only
    rw [if_neg z1]
    exact ⟨σ1, ν, rfl, rfl, ⟨hx1, mTx_F hm (G1'.trans n4) (by unfold mk278; decide), s1, b1, k1.2.1, n2, n3⟩, F1.fD _, (G1'.trans n4).fM _ _⟩
  | some v =>
    obtain ⟨ν, n1, n2, n3⟩ := M1 v hv
    have v24 : v ≤ 24 := by
      unfold gnu at hv
      split at hv
      · obtain rfl := Option.some.inj hv; omega
      · split at hv
        · obtain rfl := Option.some.inj hv; omega
        · exact absurd hv (by simp)
    have ν28 : ν 28 28 = 0 := (n3.2 28 (by decide)).trans h28'
    have z0 : (0 : Int32) ≤ gnV (some v) := Int32.not_lt.mp (nI_pos (n := v) (by omega))
    have gV : gnV (some v) = nI v := rfl
    rw [if_pos z0, n1, Option.bind_some, gV]
    simp only
    rw [if_pos ν28]
    -- the number with its sign
    obtain ⟨y, hy, ey⟩ : ∃ y : Int, (y = v ∨ y = -(v : Int)) ∧ qj y = (if bI neg = 0 then nI v else -nI v) := by
      cases neg with
      | false => exact ⟨v, Or.inl rfl, by rw [if_pos (by decide), qj_nat]⟩
      | true => exact ⟨-(v : Int), Or.inr rfl, by rw [if_neg (by decide), qj_nat, qj_neg]⟩
    have ya := sg_par hy
    have vv : v * v ≤ 24 * 24 := Nat.mul_le_mul v24 v24
    have yy : y * y = ((v * v : Nat) : Int) := by
      rw [Int.natCast_mul]
      rcases hy with e | e
      · rw [e]
      · rw [e, Int.neg_mul_neg]
    have refM : (if bI neg = 0 then fX12_takesPart_J87 (nI (5 * c + 1)) (nI i) (nI s1) (nI v) 25 (nI (5 * c + 1) + nI i) (nI v) ν else fX12_takesPart_J87 (nI (5 * c + 1)) (nI i) (nI s1) (nI v) 25 (nI (5 * c + 1) + nI i) (-nI v) ν) = fX12_takesPart_J87 (nI (5 * c + 1)) (nI i) (nI s1) (nI v) 25 (nI (5 * c + 1 + i)) (qj y) ν := by
      rw [ey, nI_add]
      split <;> rfl
    rw [refM]
    -- the desk's number to hold the parity against
    generalize hA' : (if i = 0 then v else a) = a'
    have a'24 : a' ≤ 24 := by rw [← hA']; split <;> omega
    have deskM : (if nI i = 0 then fX8_readParts_J56 (nI c) (fX8_readParts_L7 (nI c) f) (nI q) (nI i) (bI neg) (nI v) (nI v) σ1 else fX8_readParts_J56 (nI c) (fX8_readParts_L7 (nI c) f) (nI q) (nI i) (bI neg) (nI v) (nI a) σ1) = fX8_readParts_J56 (nI c) (fX8_readParts_L7 (nI c) f) (nI q) (nI i) (bI neg) (nI v) (nI a') σ1 := by
      by_cases e : i = 0
      · rw [if_pos (show nI i = 0 by rw [e]; rfl), ← hA', if_pos e]
      · rw [if_neg (nI_ne0 (by omega) (by omega)), ← hA', if_neg e]
    rw [deskM]
    unfold fX8_readParts_J56 fX12_takesPart_J87
    have g25 : ¬ (nI (5 * c + 1 + i) < 0 ∨ ml 25 ≤ (nI (5 * c + 1 + i)).toNatClampNeg) := nI_in (by rw [ml25']; omega) (by decide)
    have g25' : ¬ (nI (5 * c + 1) < 0 ∨ ml 25 ≤ (nI (5 * c + 1)).toNatClampNeg) := nI_in (by rw [ml25']; omega) (by decide)
    have p1c : (nI (5 * c + 1)).toNatClampNeg = 5 * c + 1 := nI_clamp (by omega)
    rw [if_neg g25, if_neg g25', nI_clamp (show 5 * c + 1 + i < 2147483648 by omega), p1c]
    generalize hω : ms ν 25 (5 * c + 1 + i) (qj y) = ω
    have fMν : fM (fun _ => False) (fun j => j = 5 * c + 1 + i) μ ω := by
      rw [← hω]
      exact ((G1'.trans (n3.weaken (fun j h => Or.inl h))).fM _ _).trans (fM_ms25 ν _ rfl)
    have ωi : ω 25 (5 * c + 1 + i) = qj y := by rw [← hω, ms_same]
    have ωk : ∀ k, k < i → ω 25 (5 * c + 1 + k) = qj (x k) := fun k hk' => by rw [fMν.2.2.2 _ (by omega)]; exact hxM k hk'
    have ω27 : ω 28 27 = nI (gte n g s1) := by rw [← hω, ms_cell _ (by decide)]; exact n2
    have ω28 : ω 28 28 = 0 := by rw [← hω, ms_cell _ (by decide)]; exact ν28
    -- the parity
    obtain ⟨x0, hx0, b0, e0⟩ : ∃ x0 : Int, ω 25 (5 * c + 1) = qj x0 ∧ (-24 ≤ x0 ∧ x0 ≤ 24) ∧ x0.natAbs = a' ∧ (1 ≤ i → x0 = x 0) ∧ (i = 0 → x0 = y) := by
      by_cases e : i = 0
      · subst e
        exact ⟨y, ωi, by omega, by rw [← hA', if_pos rfl]; exact ya, fun z => by omega, fun _ => rfl⟩
      · have h1 := ωk 0 (by omega)
        exact ⟨x 0, h1, hxb 0 (by omega), by rw [← hA', if_neg e]; exact (hxa (by omega)).symm, fun _ => rfl, fun z => absurd z e⟩
    obtain ⟨e0a, e0b, e0c⟩ := e0
    have parR : (nI v - ω 25 (5 * c + 1) - (nI v - ω 25 (5 * c + 1)) / 2 * 2 = 0) = (v % 2 = a' % 2) := by
      rw [hx0, qj_nat, qj_sub, qj_mod2 (by omega)]
      apply propext
      omega
    have parD : ((nI v ^^^ nI a') &&& 1 = 0) = (v % 2 = a' % 2) := propext (par_xor v (by omega) a' (by omega))
    simp only [parR, parD]
    have eq2 : nI q + nI v * nI v = nI (q + v * v) := by rw [nI_mulM, nI_add]
    rw [eq2]
    -- the fault at the number
    have flt : Ft n g σ1 (ms (ms ω 28 28 1) 28 27 (nI s1)) ∧ fD (fun j => j = 6 * c + (2 + i)) σ σ1 ∧ fM (fun _ => False) (fun j => j = 5 * c + 1 + i) μ (ms (ms ω 28 28 1) 28 27 (nI s1)) := by
      have fMf := (fMν.trans (fM_ms28 ω (1 : Int32) (Or.inr rfl))).trans (fM_ms28 (ms ω 28 28 1) (nI s1) (Or.inl rfl))
      exact ⟨⟨hx1, mTx_M hm fMf, s1, b1, k1.2.1, ms_same _ _ _ _, by rw [ms_get, if_neg (by decide)]; exact ms_same _ _ _ _⟩, F1.fD _, fMf⟩
    unfold fX12_takesPart_J121 fX12_takesPart_J125 fX12_takesPart_J126
    have t10 : ¬ (1 : Int32) = 0 := by decide
    by_cases hp : v % 2 = a' % 2
    · -- the rest is right
      have good : (i = 3 → q + v * v ≤ 600) → ∃ σ2 s2, fX8_readParts_J89 (nI c) (fX8_readParts_L7 (nI c) f) (nI a') (nI (q + v * v)) (nI i) (bI neg) (nI v) σ1 = fX8_readParts_L7 (nI c) f (nI a') (nI (q + v * v)) (nI (i + 1)) σ2 ∧ Al n g σ2 ω s2 ∧ σ2 84 (6 * c + (2 + i)) = qj y ∧ fD (fun j => j = 6 * c + (2 + i)) σ σ2 := by
        intro _
        have e89 : fX8_readParts_J89 (nI c) (fX8_readParts_L7 (nI c) f) (nI a') (nI (q + v * v)) (nI i) (bI neg) (nI v) σ1 = fX8_readParts_J108 (nI c) (fX8_readParts_L7 (nI c) f) (nI a') (nI (q + v * v)) (nI i) (nI c) (nI (2 + i)) (qj y) σ1 := by
          unfold fX8_readParts_J89
          rw [ey, show (2 : Int32) = nI 2 from rfl, nI_add]
          split <;> rfl
        rw [e89]
        unfold fX8_readParts_J108
        have fD1 : fD (fun j => j = 6 * c + (2 + i)) σ1 (ms σ1 84 (6 * c + (2 + i)) (qj y)) := fD_ms σ1 _ rfl
        have t := gte_b (g := g) b1
        obtain ⟨τ, u1, u2, u3⟩ := c_next ho (xTx_D hx1 fD1) t.2 (by rw [ms_cell _ (by decide)]; exact k1.2.2)
        have fDa := ((F1.fD (fun j => j = 6 * c + (2 + i))).trans fD1).trans (u3.fD _)
        rw [c_putw hc (by omega), Option.bind_some, u1, Option.bind_some, show nI i + 1 = nI (i + 1) from nI_1 i]
        exact ⟨τ, _, rfl, ⟨xTx_D hx fDa, mTx_M hm fMν, (gs_b t.2).2.1, u2, ⟨gte n g s1, t.2, rfl, ω27⟩, ω28⟩, by rw [u3.1 84 (by decide), ms_same], fDa⟩
      have done : (i = 3 → q + v * v ≤ 600) → ∃ (y : Int) (σ2 μ2 : QMem) (s2 : Nat), (-24 ≤ y ∧ y ≤ 24) ∧ (1 ≤ i → (x 0 - y) % 2 = 0) ∧ (i = 3 → q + y.natAbs * y.natAbs ≤ 600) ∧ fX8_readParts_J89 (nI c) (fX8_readParts_L7 (nI c) f) (nI a') (nI (q + v * v)) (nI i) (bI neg) (nI v) σ1 = fX8_readParts_L7 (nI c) f (nI (if i = 0 then y.natAbs else a)) (nI (q + y.natAbs * y.natAbs)) (nI (i + 1)) σ2 ∧ some ω = some μ2 ∧ Al n g σ2 μ2 s2 ∧ σ2 84 (6 * c + (2 + i)) = qj y ∧ μ2 25 (5 * c + 1 + i) = qj y ∧ fD (fun j => j = 6 * c + (2 + i)) σ σ2 ∧ fM (fun _ => False) (fun j => j = 5 * c + 1 + i) μ μ2 := by
        intro h6
        obtain ⟨σ2, s2, w1, w2, w3, w4⟩ := good h6
        refine ⟨y, σ2, ω, s2, by omega, fun h1 => ?_, by rw [ya]; exact h6, by rw [ya, hA']; exact w1, rfl, w2, w3, ωi, w4, fMν⟩
        have := e0b h1
        omega
      rw [if_pos hp, if_pos hp]
      by_cases h3 : i = 3
      · have c3 : nI i = (3 : Int32) := by rw [h3]; rfl
        have c3' : ¬ nI i < (3 : Int32) := nI_nlt (a := i) (b := 3) (by omega) (by omega)
        rw [if_pos c3, if_neg c3']
        -- the norm
        have X : mAt ω 25 (5 * c + 1) (x 0, x 1, x 2, y) := ⟨ωk 0 (by omega), ωk 1 (by omega), ωk 2 (by omega), by rw [h3] at ωi; exact ωi⟩
        have eN4 : zN4 (x 0, x 1, x 2, y) = ((q + v * v : Nat) : Int) := by
          unfold zN4
          simp only
          have := hxq h3
          rw [Int.natCast_add, this, ← yy]
        have lX : zL (x 0, x 1, x 2, y) := by
          have p1 := hxp 1 (by omega)
          have p2 := hxp 2 (by omega)
          have e := e0b (by omega)
          refine ⟨p1, p2, ?_⟩
          simp only
          omega
        have f4 := zN4_four lX
        have gn := m_norm X (show 5 * c + 1 + 3 < ml 25 by rw [ml25']; omega) (by rw [eN4]; omega)
        rw [gn, Option.bind_some]
        simp only
        have cN : ((150 : Int32) < qj (zN (x 0, x 1, x 2, y))) = (¬ q + v * v ≤ 600) := by
          apply propext
          rw [show (150 : Int32) = qj 150 from rfl, qj_lt (qR_of (by decide) (by decide)) (qR_of (by omega) (by omega))]
          omega
        have cD : (nI (q + v * v) ≤ (600 : Int32)) = (q + v * v ≤ 600) := propext ⟨fun z => Nat.le_of_not_lt fun w => nI_ge (b := q + v * v) (a := 600) w (by omega) z, fun z => nI_le (b := 600) z (by decide)⟩
        simp only [cN, cD]
        by_cases h6 : q + v * v ≤ 600
        · right
          rw [if_pos h6, if_neg (fun z => z h6), if_neg t10]
          exact done (fun _ => h6)
        · left
          rw [if_neg h6, if_pos h6, if_pos trivial]
          exact ⟨σ1, _, rfl, rfl, flt⟩
      · have c3 : ¬ nI i = (3 : Int32) := fun z => h3 ((nI_eq (a := i) (b := 3) (by omega) (by decide)).mp z)
        have c3' : nI i < (3 : Int32) := nI_lt (b := 3) (by omega) (by decide)
        right
        rw [if_neg c3, if_pos c3', if_neg t10]
        exact done (fun z => absurd z h3)
    · left
      rw [if_neg hp, if_neg hp, if_pos rfl]
      exact ⟨σ1, _, rfl, rfl, flt⟩
