/-! THE CALLS: steps, common, list, turn, set, add -/
theorem m_many0 (μ : QMem) : mFd (ms μ 28 6 0) [] ∧ fr (fun _ => False) μ (ms μ 28 6 0) := by
  refine ⟨⟨ms_same _ _ _ _, by decide, rwF_nil _⟩, fun k _ hk => ms_cell _ hk _ _, fun j hj => ms_place _ _ hj _⟩
def stP (c : Nat) : Prop := lnP c ∨ c = 21 ∨ c = 22
theorem m_steps_loop (s p1 p2 : Int32) : ∀ (f n : Nat) (μ : QMem) (q d : ZQ) (t : Nat), f < n → mAt μ 21 0 q → mAt μ 22 0 d → qV q → qV d → zN d < 2 ^ f → t + f < 2000 →
    ∃ τ, fX12_steps_L62 p1 p2 s n (nI t) μ = some (nI (t + (zGd s (f + 1) q d).2), τ) ∧ fq stP μ τ := by
  intro f
  induction f with
  | zero =>
    intro n μ q d t hn hq hd vq vd h ht
    obtain ⟨n, rfl⟩ : ∃ m, n = m + 1 := ⟨n - 1, by omega⟩
    have : zN d = 0 := by have := zN_nn d; have : zN d < 1 := h; omega
    have e := zN_zero vd.1 this
    subst e
    rw [zGd_0, fX12_steps_L62, show (0 : Int32) = nI 0 from rfl, m_nought hd (by decide) (qV_S vd), Option.bind_some]
    simp only [bI_n0]
    rw [if_neg (by decide)]
    exact ⟨μ, rfl, fq.refl _ _⟩
  | succ f ih =>
    intro n μ q d t hn hq hd vq vd h ht
    obtain ⟨n, rfl⟩ : ∃ m, n = m + 1 := ⟨n - 1, by omega⟩
    rw [fX12_steps_L62, show (0 : Int32) = nI 0 from rfl, m_nought hd (by decide) (qV_S vd), Option.bind_some]
    simp only [bI_n0]
    by_cases h0 : d = z0
    · subst h0
      rw [zGd_0, decide_eq_true rfl, if_neg (by decide)]
      exact ⟨μ, rfl, fq.refl _ _⟩
    · rw [zGd_s h0, decide_eq_false h0, if_pos rfl]
      have hh := zRs_half (s := s) vq.1 vd.1 h0
      have hp : (2 : Int) ^ (f + 1) = 2 * 2 ^ f := by rw [Int.pow_succ]; omega
      obtain ⟨ν, n1, -, n3, n4⟩ := m_lays (k := 21) (k3 := 22) (o := 0) (o3 := 0) s (by unfold lnP; omega) (by unfold lnP; omega) (by decide) (by decide) hq hd vq vd h0
      have d22 := n4.at (by unfold lnP; omega) hd
      rw [n1, Option.bind_some, m_copies d22 (by decide) (show 0 + 3 < ml 21 by decide) (Or.inl (by decide)), Option.bind_some, m_copies (mAt_ne (k := 9) (k2 := 21) (by decide) n3) (by decide) (show 0 + 3 < ml 22 by decide) (Or.inl (by decide)), Option.bind_some, show nI t + 1 = nI (t + 1) from nI_1 t]
      obtain ⟨τ, w1, w2⟩ := ih n (mPut (mPut ν 21 0 d) 22 0 (zRs s q d)) d (zRs s q d) (t + 1) (by omega) (mAt_ne (by decide) (mPut_at _ _ _ _)) (mPut_at _ _ _ _) vd (qV_R vq vd h0) (by omega) (by omega)
      refine ⟨τ, ?_, ((n4.weaken (fun c hc => Or.inl hc)).trans ((fq_put (P := stP) (k := 21) 0 _ (Or.inr (Or.inl rfl))).trans (fq_put (k := 22) 0 _ (Or.inr (Or.inr rfl))))).trans w2⟩
      rw [w1]
      simp only
      rw [show t + 1 + (zGd s (f + 1) d (zRs s q d)).2 = t + ((zGd s (f + 1) d (zRs s q d)).2 + 1) by omega]
theorem ag_steps (σ μ : QMem) (a1 a2 a3 : Int32) (h : RR σ μ) : ∃ (r : Int32) (σ2 μ2 : QMem), fX11_steps a1 a2 a3 σ = some (r, σ2) ∧ fX12_steps a1 a2 a3 μ = some (r, μ2) ∧ RR σ2 μ2 := by
  unfold fX11_steps fX12_steps
  rcases slot_cases a1 with ⟨e1, e2⟩ | ⟨s, hs, rfl, e1, e2⟩
  · rw [e1, e2, Option.bind_some, Option.bind_some, if_pos rfl, if_pos rfl]; exact ag_same h _
  · rcases slot_cases a2 with ⟨e3, e4⟩ | ⟨t, ht, rfl, e3, e4⟩
    · rw [e1, e2, Option.bind_some, Option.bind_some, if_neg i10, if_neg i10, e3, e4, Option.bind_some, Option.bind_some, if_pos rfl, if_pos rfl]; exact ag_same h _
    · rw [e1, e2, Option.bind_some, Option.bind_some, if_neg i10, if_neg i10, e3, e4, Option.bind_some, Option.bind_some, if_neg i10, if_neg i10]
      rcases side_cases a3 with ⟨e5, e6⟩ | ⟨-, e5, e6⟩
      · rw [e5, e6, Option.bind_some, Option.bind_some, if_pos rfl, if_pos rfl]; exact ag_same h _
      · rw [e5, e6, Option.bind_some, Option.bind_some, if_neg i10, if_neg i10]
        obtain ⟨S, hS⟩ := h
        obtain ⟨v1, q1, m1⟩ := hS.1 s hs
        obtain ⟨v2, q2, m2⟩ := hS.1 t ht
        obtain ⟨τ, t1, -, t3⟩ := c_descend (k1 := s) (k2 := t) a3 (by unfold dsP; omega) (by unfold dsP; omega) q1 q2 v1 v2
        have hX : sX σ τ := t3.sX (fun c hc => by unfold dsP at hc; unfold eX; omega)
        have hb : zN (S t) < 2 ^ 8 := by have := qV_N v2; omega
        simp (disch := omega) only [Option.bind_some, i32_lit2, nI_add, nI_mulM, cI, nI_ltT, nI_ltF, nI_leT, nI_leF, nI_eqF, nat_leF, or_self, or_false, false_or, if_true, if_false, not_true, not_false, bI_n0, bI_n1, b_em, eq_self, xl102', xb102', Nat.zero_add, t1]
        rw [m_copies m1 (show 4 * s + 3 < ml 13 by rw [ml13']; omega) (show 0 + 3 < ml 21 by decide) (Or.inl (by decide)), Option.bind_some, m_copies (mAt_ne (k := 13) (k2 := 21) (by decide) m2) (show 4 * t + 3 < ml 13 by rw [ml13']; omega) (show 0 + 3 < ml 22 by decide) (Or.inl (by decide)), Option.bind_some]
        obtain ⟨ν, n1, n2⟩ := m_steps_loop a3 (nI s) (nI t) 8 FU (mPut (mPut μ 21 0 (S s)) 22 0 (S t)) (S s) (S t) 0 (by unfold FU; omega) (mAt_ne (by decide) (mPut_at _ _ _ _)) (mPut_at _ _ _ _) v1 v2 hb (by omega)
        rw [n1, Nat.zero_add, qj_nat]
        have hM : sM μ ν := (((fq_put (P := stP) (k := 21) 0 _ (Or.inr (Or.inl rfl))).trans (fq_put (k := 22) 0 _ (Or.inr (Or.inr rfl)))).trans n2).sM (fun c hc => by unfold stP lnP at hc; unfold eM; omega)
        exact ag_of ⟨S, hS⟩ _ hX hM
theorem rwF_one {μ : QMem} {q : ZQ} (h : rwF (μ 5) [q]) : mAt μ 5 0 q := h 0 (by show 0 < 1; decide)
theorem take1_max {l : List ZQ} {x : ZQ} (h : l.Pairwise zGt) (hx : x ∈ l) (hm : ∀ y, y ∈ l → ¬ zGt y x) : l.take 1 = [x] := by
  cases l with
  | nil => exact absurd hx (by simp)
  | cons y l =>
    obtain ⟨a1, a2⟩ := List.pairwise_cons.mp h
    rcases List.mem_cons.mp hx with e | e
    · subst e; rfl
    · exact absurd (a1 x e) (hm y (List.mem_cons_self ..))
/-- of the greatest norm the common divisors are the mates of the last divisor; the first one is the head -/
theorem zCd_first {s : Int32} {q d g t0 t1 : ZQ} (ht0 : t0 = q) (ht1 : t1 = d) (hg : zL g) (g0 : g ≠ z0) (hc : ∀ x, zL x → ((zD s x q ∧ zD s x d) ↔ zD s x g)) {n : Nat} (hn : (n : Int) = zN g) : (zF (gP s false 2 t0 t1) (zAll n)).take 1 = [zHead s g] := by
  subst ht0; subst ht1
  have mem : ∀ x, x ∈ zF (gP s false 2 t0 t1) (zAll n) ↔ zA s g x := by
    intro x
    rw [zF_mem, zAll_mem]
    constructor
    · rintro ⟨⟨h1, h2⟩, h3, h4, -⟩
      have hd := (hc x h1).mp ⟨h3 (by decide), h4 (by decide)⟩
      have x0 : x ≠ z0 := fun e => by
        rw [e, zN_z0] at h2
        have := zN_pos hg g0
        omega
      exact (hd.A h1 x0 (by omega)).symm h1
    · intro h
      have lx := h.L hg
      have nx := h.N hg
      have hd := (h.symm hg).D
      obtain ⟨k1, k2⟩ := (hc x lx).mpr hd
      exact ⟨⟨lx, by omega⟩, fun _ => k1, fun _ => k2, fun z => absurd z (by decide)⟩
  refine take1_max (zF_pw (zAll_pw n)) ((mem _).mpr (zHead_A hg)) (fun y hy => ?_)
  obtain ⟨u, hu, e⟩ := (mem y).mp hy
  rw [e]
  exact zHead_max u hu
theorem nI_m1 {m : Nat} (h : 0 < m) : nI m + -1 = nI (m - 1) := by
  rw [qj_nat, qj_nat]
  show qj _ + qj (-1) = _
  rw [qj_add]
  congr 1
  omega
theorem qj_dvdN {a : Int} {m : Nat} (ha : -2000000000 ≤ a ∧ a ≤ 2000000000) (hm : m < 2000000000) : (qj a - qj a / nI m * nI m = 0) = ((m : Int) ∣ a) := by
  rw [qj_nat]
  exact qj_mod ha (qR_of (by omega) (by omega)) (by omega)
theorem m_common_loop {s : Int32} {S : Nat → ZQ} {i j : Nat} (hi : i < 6) (hj : j < 6) {g : ZQ} (hS : ∀ t, t < 6 → qV (S t)) (hg : zL g) (g0 : g ≠ z0) (hc : ∀ x, zL x → ((zD s x (S i) ∧ zD s x (S j)) ↔ zD s x g)) (g150 : zN g ≤ 150) : ∀ (k m n : Nat) (μ : QMem), (m : Int) = zN g + k → m ≤ 150 → k + 1 < n → gI0 μ 2 (S i) (S j) → mFd μ [] → mAt μ 13 (4 * i) (S i) → mAt μ 13 (4 * j) (S j) →
    ∃ τ, fX12_common_L89 (nI i) (nI j) s n (nI m) μ = fX12_common_J140 (nI i) (nI j) s τ ∧ mFd τ [zHead s g] ∧ fr gaP μ τ := by
  have gp := zN_pos hg g0
  have gq := (hc g hg).mpr (zD.refl hg)
  intro k
  induction k with
  | zero =>
    intro m n μ hm hm150 hn hI hF h1 h2
    obtain ⟨n, rfl⟩ : ∃ m, n = m + 1 := ⟨n - 1, by omega⟩
    obtain ⟨n, rfl⟩ : ∃ m, n = m + 1 := ⟨n - 1, by omega⟩
    have d1 : (m : Int) ∣ zN (S i) := by rw [show (m : Int) = zN g by omega]; exact gq.1.norm hg
    have d2 : (m : Int) ∣ zN (S j) := by rw [show (m : Int) = zN g by omega]; exact gq.2.norm hg
    have b1 := zN_nn (S i)
    have b2 := zN_nn (S j)
    have b3 := qV_N (hS i hi)
    have b4 := qV_N (hS j hj)
    obtain ⟨ρ, r1, r2, r3⟩ := m_gathers s false (tg := 2) (most := 1) (nn := m) (by decide) hm150 (by omega) hI hF (by decide)
    rw [List.nil_append, List.length_nil, Nat.sub_zero, zCd_first rfl rfl hg g0 hc (by omega)] at r2
    rw [fX12_common_L89, show (1 : Int32) = nI 1 from rfl, if_neg (nI_nlt (by omega) (by omega)), hF.1, if_pos (show nI ([] : List ZQ).length = 0 from rfl)]
    unfold fX12_norm
    simp only [nI_mul4]
    rw [m_norm h1 (show 4 * i + 3 < ml 13 by rw [ml13']; omega) (Int.le_trans (hS i hi).2 (by decide)), Option.bind_some, Option.bind_some, if_neg (nI_ne0 (by omega) (by omega))]
    simp only [qj_dvdN (show -2000000000 ≤ zN (S i) ∧ zN (S i) ≤ 2000000000 by omega) (show m < 2000000000 by omega), qj_dvdN (show -2000000000 ≤ zN (S j) ∧ zN (S j) ≤ 2000000000 by omega) (show m < 2000000000 by omega)]
    rw [if_pos d1, m_norm h2 (show 4 * j + 3 < ml 13 by rw [ml13']; omega) (Int.le_trans (hS j hj).2 (by decide)), Option.bind_some, Option.bind_some, if_neg (nI_ne0 (by omega) (by omega))]
    simp only [qj_dvdN (show -2000000000 ≤ zN (S j) ∧ zN (S j) ≤ 2000000000 by omega) (show m < 2000000000 by omega)]
    rw [if_pos d2, show (0 : Int32) = bI false from rfl, show (2 : Int32) = nI 2 from rfl, r1, Option.bind_some]
    unfold fX12_common_J134
    rw [nI_m1 (by omega), fX12_common_L89]
    refine ⟨ρ, ?_, r2, r3⟩
    by_cases hz : m - 1 < 1
    · have e : nI (m - 1) < (1 : Int32) := nI_lt hz (by decide)
      rw [if_pos e]
    · have e : ¬ nI (m - 1) < (1 : Int32) := nI_nlt (b := 1) (by omega) (by omega)
      rw [if_neg e, r2.1, if_neg (show ¬ nI ([zHead s g]).length = 0 from (by decide : ¬ nI 1 = 0))]
  | succ k ih =>
    intro m n μ hm hm150 hn hI hF h1 h2
    obtain ⟨n, rfl⟩ : ∃ m, n = m + 1 := ⟨n - 1, by omega⟩
    have b1 := zN_nn (S i)
    have b2 := zN_nn (S j)
    have b3 := qV_N (hS i hi)
    have b4 := qV_N (hS j hj)
    have nn0 : zF (gP s false 2 (S i) (S j)) (zAll m) = [] := by
      rw [List.eq_nil_iff_forall_not_mem]
      intro x hx
      rw [zF_mem, zAll_mem] at hx
      obtain ⟨⟨k1, k2⟩, k3, k4, -⟩ := hx
      have := ((hc x k1).mp ⟨k3 (by decide), k4 (by decide)⟩).norm k1
      have := Int.le_of_dvd gp this
      omega
    rw [fX12_common_L89, show (1 : Int32) = nI 1 from rfl, if_neg (nI_nlt (by omega) (by omega)), hF.1, if_pos (show nI ([] : List ZQ).length = 0 from rfl)]
    unfold fX12_norm
    simp only [nI_mul4]
    rw [m_norm h1 (show 4 * i + 3 < ml 13 by rw [ml13']; omega) (Int.le_trans (hS i hi).2 (by decide)), Option.bind_some, Option.bind_some, if_neg (nI_ne0 (by omega) (by omega))]
    simp only [qj_dvdN (show -2000000000 ≤ zN (S i) ∧ zN (S i) ≤ 2000000000 by omega) (show m < 2000000000 by omega)]
    unfold fX12_common_J134
    rw [nI_m1 (by omega)]
    have go : ∀ ρ : QMem, mFd ρ [] → fr gaP μ ρ → ∃ τ, fX12_common_L89 (nI i) (nI j) s n (nI (m - 1)) ρ = fX12_common_J140 (nI i) (nI j) s τ ∧ mFd τ [zHead s g] ∧ fr gaP μ τ := by
      intro ρ r1 r2
      obtain ⟨τ, t1, t2, t3⟩ := ih (m - 1) n ρ (by omega) (by omega) (by omega) (gI0_fr hI r2) r1 (r2.at (by unfold gaP; decide) (by decide) h1) (r2.at (by unfold gaP; decide) (by decide) h2)
      exact ⟨τ, t1, t2, r2.trans t3⟩
    by_cases d1 : (m : Int) ∣ zN (S i)
    · rw [if_pos d1, m_norm h2 (show 4 * j + 3 < ml 13 by rw [ml13']; omega) (Int.le_trans (hS j hj).2 (by decide)), Option.bind_some, Option.bind_some, if_neg (nI_ne0 (by omega) (by omega))]
      simp only [qj_dvdN (show -2000000000 ≤ zN (S j) ∧ zN (S j) ≤ 2000000000 by omega) (show m < 2000000000 by omega)]
      by_cases d2 : (m : Int) ∣ zN (S j)
      · obtain ⟨ρ, r1, r2, r3⟩ := m_gathers s false (tg := 2) (most := 1) (nn := m) (by decide) hm150 (by omega) hI hF (by decide)
        rw [nn0, List.take_nil, List.append_nil] at r2
        rw [if_pos d2, show (0 : Int32) = bI false from rfl, show (2 : Int32) = nI 2 from rfl, r1, Option.bind_some]
        exact go ρ r2 r3
      · rw [if_neg d2]
        exact go μ hF (fr.refl _ _)
    · rw [if_neg d1]
      exact go μ hF (fr.refl _ _)
theorem ag_common (σ μ : QMem) (a1 a2 a3 : Int32) (h : RR σ μ) : ∃ (r : Int32) (σ2 μ2 : QMem), fX11_common a1 a2 a3 σ = some (r, σ2) ∧ fX12_common a1 a2 a3 μ = some (r, μ2) ∧ RR σ2 μ2 := by
  unfold fX11_common fX12_common
  rcases slot_cases a1 with ⟨e1, e2⟩ | ⟨s, hs, rfl, e1, e2⟩
  · rw [e1, e2, Option.bind_some, Option.bind_some, if_pos rfl, if_pos rfl]; exact ag_same h _
  · rcases slot_cases a2 with ⟨e3, e4⟩ | ⟨t, ht, rfl, e3, e4⟩
    · rw [e1, e2, Option.bind_some, Option.bind_some, if_neg i10, if_neg i10, e3, e4, Option.bind_some, Option.bind_some, if_pos rfl, if_pos rfl]; exact ag_same h _
    · rw [e1, e2, Option.bind_some, Option.bind_some, if_neg i10, if_neg i10, e3, e4, Option.bind_some, Option.bind_some, if_neg i10, if_neg i10]
      rcases side_cases a3 with ⟨e5, e6⟩ | ⟨-, e5, e6⟩
      · rw [e5, e6, Option.bind_some, Option.bind_some, if_pos rfl, if_pos rfl]; exact ag_same h _
      · rw [e5, e6, Option.bind_some, Option.bind_some, if_neg i10, if_neg i10]
        obtain ⟨S, hS⟩ := h
        obtain ⟨v1, q1, m1⟩ := hS.1 s hs
        obtain ⟨v2, q2, m2⟩ := hS.1 t ht
        have os : 4 * s + 3 < ml 13 := by rw [ml13']; omega
        have ot : 4 * t + 3 < ml 13 := by rw [ml13']; omega
        have body : ¬ (S s = z0 ∧ S t = z0) → ∃ (r : Int32) (σ2 μ2 : QMem), fX11_common_J57 (nI s) (nI t) a3 σ = some (r, σ2) ∧ fX12_common_J49 (nI s) (nI t) a3 μ = some (r, μ2) ∧ RR σ2 μ2 := by
          intro hz
          have hb : zN (S t) < 2 ^ 8 := by have := qV_N v2; omega
          obtain ⟨g1, g2, -⟩ := zGd_big a3 8 (S s) (S t) v1.1 v2.1 hb
          obtain ⟨τ, t1, t2, t3⟩ := c_descend (k1 := s) (k2 := t) a3 (by unfold dsP; omega) (by unfold dsP; omega) q1 q2 v1 v2
          generalize hg : (zGd a3 (8 + 1) (S s) (S t)).1 = g at g1 g2
          have hg' : (zGd a3 9 (S s) (S t)).1 = g := hg
          rw [hg'] at t2
          have gq := (g2 g g1).mpr (zD.refl g1)
          have g0 : g ≠ z0 := fun e => by
            rw [e] at gq
            exact hz ⟨z0_D.mp gq.1, z0_D.mp gq.2⟩
          have g150 : zN g ≤ 150 := by
            by_cases hs0 : S s = z0
            · have h2 : S t ≠ z0 := fun e => hz ⟨hs0, e⟩
              have := Int.le_of_dvd (zN_pos v2.1 h2) (gq.2.norm g1)
              have := qV_N v2
              omega
            · have := Int.le_of_dvd (zN_pos v1.1 hs0) (gq.1.norm g1)
              have := qV_N v1
              omega
          have gn := zN_nn g
          obtain ⟨ρ, r1, r2, r3⟩ := c_head a3 (k1 := 34) (k2 := 42) (by decide) (by decide) (by decide) t2 g1 (zS_of g1 g150 (by decide))
          have hX : sX σ ρ := (t3.sX (fun c hc => by unfold dsP at hc; unfold eX; omega)).trans (r3.sX (fun c hc => by unfold eX; omega))
          have hv : qV (zHead a3 g) := qV_of (zHead_L g1) (by rw [zHead_N g1]; exact g150)
          have hd : fX11_common_J57 (nI s) (nI t) a3 σ = (fX11_change (nI s) 34 ρ).bind fun xq7 => some (xq7.1, xq7.2) := by
            unfold fX11_common_J57
            simp (disch := omega) only [Option.bind_some, i32_lit2, nI_add, nI_mulM, cI, nI_ltT, nI_ltF, nI_leT, nI_leF, nI_eqF, nat_leF, or_self, or_false, false_or, if_true, if_false, not_true, not_false, bI_n0, bI_n1, b_em, eq_self, xl102', xb102', Nat.zero_add, t1, r1]
          obtain ⟨y1, y2⟩ := m_many0 (mPut (mPut μ 7 0 (S s)) 7 4 (S t))
          generalize hν : ms (mPut (mPut μ 7 0 (S s)) 7 4 (S t)) 28 6 0 = ν at y1 y2
          have f7 : fr (fun c => c = 7) μ ν := ((fq_put (P := fun c => c = 7) (k := 7) 0 _ rfl).trans (fq_put (k := 7) 4 _ rfl)).fr (by decide) |>.trans (y2.weaken (fun c hc => hc.elim))
          have i7 : mTg ν 2 (S s) (S t) := ⟨by decide, fun _ => ⟨y2.at (fun z => z) (by decide) (mAt_far (by decide) (mPut_at _ _ _ _)), v1⟩, fun _ => ⟨y2.at (fun z => z) (by decide) (mPut_at _ _ _ _), v2⟩⟩
          have hI : gI0 ν 2 (S s) (S t) := ⟨mUn_fr hS.2.2.2.2.2.2.1 f7 (by decide), i7, mRt_fr hS.2.2.2.2.2.2.2.1 f7 (by decide)⟩
          obtain ⟨π, p1, p2, p3⟩ := m_common_loop (s := a3) (S := S) hs ht (fun u hu => (hS.1 u hu).1) g1 g0 g2 g150 (150 - (zN g).toNat) 150 FU ν (by omega) (by decide) (by unfold FU; omega) hI y1 (f7.at (by decide) (by decide) m1) (f7.at (by decide) (by decide) m2)
          have hM : sM μ π := (f7.sM (fun c hc => by unfold eM; omega)).trans (p3.sM (fun c hc => by unfold gaP at hc; unfold eM; omega))
          have hr : fX12_common_J49 (nI s) (nI t) a3 μ = (fX12_becomes (nI s) 5 (nI 0) π).bind fun xq1 => some (xq1.1, xq1.2) := by
            unfold fX12_common_J49
            rw [nI_mul4, nI_mul4, show (0 : Int32) = nI 0 from rfl, m_copies m1 os (show 0 + 3 < ml 7 by decide) (Or.inl (by decide)), Option.bind_some, show (4 : Int32) = nI 4 from rfl, m_copies (mAt_ne (k := 13) (k2 := 7) (by decide) m2) ot (show 4 + 3 < ml 7 by decide) (Or.inl (by decide)), Option.bind_some, show nI 0 = 0 from rfl, hν, show (150 : Int32) = nI 150 from rfl, p1]
            rfl
          have f5 : mAt π 5 0 (zHead a3 g) := rwF_one p2.2.2
          obtain ⟨σ2, μ2, w1, w2, w3⟩ := ch_ok (RRS_keep hS hX hM) hs (k2 := 34) (k := 5) (o := 0) (by decide) r2 hv (by decide) (by decide) f5
          rw [hd, hr, w1, w2]
          exact ⟨_, _, _, rfl, rfl, ⟨_, w3⟩⟩
        unfold fX12_isEmpty
        simp (disch := omega) only [Option.bind_some, i32_lit2, nI_add, nI_mulM, cI, nI_ltT, nI_ltF, nI_leT, nI_leF, nI_eqF, nat_leF, or_self, or_false, false_or, if_true, if_false, not_true, not_false, bI_n0, bI_n1, b_em, eq_self, xl102', xb102', Nat.zero_add, c_zero q1 (qV_S v1), c_zero q2 (qV_S v2), m_nought m1 os (qV_S v1), m_nought m2 ot (qV_S v2)]
        by_cases h1 : S s = z0
        · have tf : ¬ (true = false) := by decide
          rw [decide_eq_true h1, if_neg tf, if_neg tf]
          by_cases h2 : S t = z0
          · rw [decide_eq_true h2, if_neg tf, if_neg tf]
            exact ag_same ⟨S, hS⟩ _
          · rw [decide_eq_false h2, if_pos rfl, if_pos rfl]
            exact body (fun z => h2 z.2)
        · rw [decide_eq_false h1, if_pos rfl, if_pos rfl]
          exact body (fun z => h1 z.1)
