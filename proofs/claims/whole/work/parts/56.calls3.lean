/-! THE CALLS: list, turn, set, add -/
theorem gP_hd (s : Int32) (t0 t1 : ZQ) : gP s true 0 t0 t1 = zHd s := by
  funext q
  apply propext
  unfold gP
  constructor
  · intro h; exact h.2.2 rfl
  · intro h; exact ⟨fun z => by omega, fun z => by omega, fun _ => h⟩
/-- how many rows; a number of one -/
theorem tell_ok {σ μ : QMem} {k : Nat} {L : List ZQ} (hx : xRw σ k L) (hm : mFd μ L) (hl : L.length ≤ 600) (p3 p4 : Int32) (h : p3 = -1 ∨ (0 ≤ p3.toInt ∧ ∃ j, j < 4 ∧ p4 = nI j)) :
    ∃ r, (if p3 = -1 then ((fX7_size k σ).bind fun xq9 => (some (xq9.1, xq9.2))) else ((fX7_size k σ).bind fun xq4 => (if xq4.1 ≤ p3 then (some ((-1003), xq4.2)) else ((fX7_part k p3 p4 xq4.2).bind fun xq7 => (some (xq7.1, xq7.2)))))) = some (r, σ) ∧ ((fX12_tells p3 p4 μ).bind fun xq3 => (some (xq3.1, xq3.2))) = some (r, μ) := by
  unfold fX12_tells
  rw [c_size hx, hm.1]
  rcases h with rfl | ⟨h0, j, hj, rfl⟩
  · refine ⟨nI L.length, ?_, ?_⟩
    · rw [if_pos rfl, Option.bind_some]
    · rw [if_neg (by decide), Option.bind_some]
  · have c0 : ¬ p3 = -1 := fun e => by rw [e] at h0; exact absurd h0 (by decide)
    have c1 : 0 ≤ p3 := by rw [Int32.le_iff_toInt_le]; exact h0
    rw [if_neg c0, if_pos c1, Option.bind_some]
    simp only
    rcases p_cases p3 L.length (by omega) with z | ⟨i, hi, rfl⟩
    · have c2 : nI L.length ≤ p3 := by rw [Int32.le_iff_toInt_le, nI_toInt (by omega)]; omega
      rw [if_pos c2, if_pos c2]
      exact ⟨_, rfl, rfl⟩
    · have c2 : ¬ nI L.length ≤ nI i := nI_ge hi (by omega)
      have m5 : ml 5 = 2400 := rfl
      rw [if_neg c2, if_neg c2, c_rpart hx hi hj, Option.bind_some, nI_mul4, nI_add, m5, if_neg (nI_in (show 4 * i + j < 2400 by omega) (by decide)), nI_clamp (by omega), Option.bind_some]
      refine ⟨σ (k + 11) (4 * i + j), rfl, ?_⟩
      obtain ⟨a1, a2, a3, a4⟩ := hx.2.2 i hi
      obtain ⟨b1, b2, b3, b4⟩ := hm.2.2 i hi
      have : σ (k + 11) (4 * i + j) = μ 5 (4 * i + j) := by
        have : j = 0 ∨ j = 1 ∨ j = 2 ∨ j = 3 := by omega
        rcases this with rfl | rfl | rfl | rfl
        · exact a1.trans b1.symm
        · exact a2.trans b2.symm
        · exact a3.trans b3.symm
        · exact a4.trans b4.symm
      rw [this]
theorem ag_list (σ μ : QMem) (a1 a2 a3 a4 : Int32) (h : RR σ μ) : ∃ (r : Int32) (σ2 μ2 : QMem), fX11_list a1 a2 a3 a4 σ = some (r, σ2) ∧ fX12_list a1 a2 a3 a4 μ = some (r, μ2) ∧ RR σ2 μ2 := by
  unfold fX11_list fX12_list
  have f1 : fX12_in a1 1 150 = if a1 < 1 then some 0 else if 150 < a1 then some 0 else some 1 := rfl
  rw [f1]
  by_cases w0 : a1 < 1
  · rw [if_pos w0, if_pos w0, Option.bind_some, if_pos rfl]; exact ag_same h _
  rw [if_neg w0, if_neg w0]
  by_cases w1 : 150 < a1
  · rw [if_pos w1, if_pos w1, Option.bind_some, if_pos rfl]; exact ag_same h _
  rw [if_neg w1, if_neg w1, Option.bind_some, if_neg i10]
  obtain ⟨n, hn, rfl⟩ : ∃ n, n < 151 ∧ a1 = nI n := by
    rcases p_cases a1 151 (by decide) with z | z
    · exfalso
      rcases z with z | z
      · exact w0 (by rw [Int32.lt_iff_toInt_lt]; show a1.toInt < 1; omega)
      · exact w1 (by rw [Int32.lt_iff_toInt_lt]; show 150 < a1.toInt; omega)
    · exact z
  have n0 : 0 < n := by
    apply Classical.byContradiction
    intro c
    apply w0
    have : n = 0 := by omega
    subst this
    decide
  rcases side_cases a2 with ⟨e5, e6⟩ | ⟨hs2, e5, e6⟩
  · rw [e5, e6, Option.bind_some, Option.bind_some, if_pos rfl, if_pos rfl]; exact ag_same h _
  rw [e5, e6, Option.bind_some, Option.bind_some, if_neg i10, if_neg i10]
  have body : (a3 = -1 ∨ (0 ≤ a3.toInt ∧ ∃ j, j < 4 ∧ a4 = nI j)) → ∃ (r : Int32) (σ2 μ2 : QMem), fX11_list_J40 (nI n) a2 a3 a4 σ = some (r, σ2) ∧ fX12_list_J41 (nI n) a2 a3 a4 μ = some (r, μ2) ∧ RR σ2 μ2 := by
    intro hp
    obtain ⟨S, hS⟩ := h
    obtain ⟨hU, hR, hx⟩ := hS.2.2.2.2.2.2
    obtain ⟨τ, t1, t2, t3⟩ := c_gather a2 (show n ≤ 150 by omega) n0 hx
    obtain ⟨y1, y2⟩ := m_many0 μ
    generalize hν : ms μ 28 6 0 = ν at y1 y2
    have hI : gI0 ν 0 z0 z0 := ⟨mUn_fr hU y2 (fun z => z), ⟨by decide, fun z => by omega, fun z => by omega⟩, mRt_fr hR y2 (fun z => z)⟩
    obtain ⟨π, p1, p2, p3⟩ := m_gathers a2 true (tg := 0) (most := 600) (nn := n) (by decide) (by omega) n0 hI y1 (by decide)
    have hl := zCl_240 (s := a2) (show n ≤ 150 by omega) n0
    rw [gP_hd, zCl_zAll (by omega) n0, List.nil_append, List.length_nil, Nat.sub_zero, List.take_of_length_le (by omega)] at p2
    obtain ⟨r, r1, r2⟩ := tell_ok t2 p2 (by omega) a3 a4 hp
    unfold fX11_list_J40 fX12_list_J41
    rw [t1, Option.bind_some, hν, show (1 : Int32) = bI true from rfl, show (0 : Int32) = nI 0 from rfl, show (600 : Int32) = nI 600 from rfl, p1, Option.bind_some]
    exact ⟨r, τ, π, r1, r2, ⟨S, RRS_keep hS (t3.sX (fun c hc => by unfold hgP at hc; unfold eX; omega)) ((y2.sM (fun c hc => hc.elim)).trans (p3.sM (fun c hc => by unfold gaP at hc; unfold eM; omega)))⟩⟩
  by_cases g1 : a3 < -1
  · rw [if_pos g1, if_pos g1]; exact ag_same h _
  rw [if_neg g1, if_neg g1]
  by_cases g2 : a3 < 0
  · rw [if_pos g2, if_pos g2]
    apply body
    left
    rw [← Int32.toInt_inj]
    rw [Int32.lt_iff_toInt_lt] at g1 g2
    have e1 : (-1 : Int32).toInt = -1 := by decide
    have e2 : (0 : Int32).toInt = 0 := by decide
    omega
  · rw [if_neg g2, if_neg g2]
    rcases part_cases a4 with ⟨e7, e8⟩ | ⟨j, hj, rfl, e7, e8⟩
    · rw [e7, e8, Option.bind_some, Option.bind_some, if_pos rfl, if_pos rfl]; exact ag_same h _
    · rw [e7, e8, Option.bind_some, Option.bind_some, if_neg i10, if_neg i10]
      apply body
      right
      rw [Int32.lt_iff_toInt_lt] at g2
      have e2 : (0 : Int32).toInt = 0 := by decide
      exact ⟨by omega, j, hj, rfl⟩
/-! turn -/
theorem m_conj2 {μ : QMem} {k o k2 : Nat} {q : ZQ} (h : mAt μ k o q) (ho : o + 3 < ml k) (hk : ¬ k = k2) (h2 : 3 < ml k2) : fX12_conjugates k (nI o) k2 μ = some (mPut μ k2 0 (zC q)) := by
  have hm := ml_small k
  have hm2 := ml_small k2
  obtain ⟨h1, h2, h3, h4⟩ := h
  unfold fX12_conjugates
  simp (disch := omega) only [Option.bind_some, i32_lit2, nI_add, nI_mulM, cI, nI_ltT, nI_ltF, nI_leT, nI_leF, nI_eqF, nat_leF, or_self, or_false, false_or, if_true, if_false, not_true, not_false, bI_n0, bI_n1, b_em, eq_self, ms_cell, h1, h2, h3, h4, qj_neg]
  rfl
theorem m_head_loop {s : Nat} (sd : Int32) {q : ZQ} (hs : s < 6) (vq : qV q) : ∀ (m i n : Nat) (μ : QMem) (b : ZQ), i + m = 24 → m < n → mUn μ → mAt μ 13 (4 * s) q → mAt μ 19 0 b → zS b →
    ∃ τ, fX12_heads_L17 (nI s) sd n (nI i) μ = some τ ∧ mAt τ 19 0 ((zUl.drop i).foldl (zHs sd q) b) ∧ fq (fun c => c = 4 ∨ c = 19) μ τ := by
  have os : 4 * s + 3 < ml 13 := by rw [ml13']; omega
  intro m
  induction m with
  | zero =>
    intro i n μ b hi hn hU hq hb sb
    obtain ⟨n, rfl⟩ : ∃ m, n = m + 1 := ⟨n - 1, by omega⟩
    have : i = 24 := by omega
    subst this
    rw [fX12_heads_L17]
    simp (disch := omega) only [Option.bind_some, i32_lit2, nI_add, nI_mulM, cI, nI_ltT, nI_ltF, nI_leT, nI_leF, nI_eqF, nat_leF, or_self, or_false, false_or, if_true, if_false, not_true, not_false, bI_n0, bI_n1, b_em, eq_self]
    exact ⟨μ, rfl, hb, fq.refl _ _⟩
  | succ m ih =>
    intro i n μ b hi hn hU hq hb sb
    obtain ⟨n, rfl⟩ : ∃ m, n = m + 1 := ⟨n - 1, by omega⟩
    have hi24 : i < 24 := by omega
    have sm := zS_mate (s := sd) vq.1 (qV_S vq) (zU_mem hi24)
    have su : zS (zU i) := by unfold zS; rw [zU_N4 hi24]; decide
    have e := m_makes sd 4 hq (mUn_at hU hi24) os (show 4 * i + 3 < ml 1 by rw [ml1']; omega) (by decide) vq.1 (zU_L hi24) (qV_S vq) su
    generalize hρ : mPut μ 4 0 (zK sd q (zU i)) = ρ at e
    have r4 : mAt ρ 4 0 (zK sd q (zU i)) := by rw [← hρ]; exact mPut_at _ _ _ _
    have rf : fq (fun c => c = 4 ∨ c = 19) μ ρ := by rw [← hρ]; exact fq_put (P := fun c => c = 4 ∨ c = 19) (k := 4) 0 _ (Or.inl rfl)
    have r19 : mAt ρ 19 0 b := by rw [← hρ]; exact mAt_ne (by decide) hb
    have r13 : mAt ρ 13 (4 * s) q := rf.at (by decide) hq
    have rU : mUn ρ := mUn_fq hU rf (by decide)
    have g := m_gt r4 r19 (by decide) (by decide) sm sb
    rw [fX12_heads_L17]
    simp (disch := omega) only [Option.bind_some, i32_lit2, nI_add, nI_mulM, cI, nI_ltT, nI_ltF, nI_leT, nI_leF, nI_eqF, nat_leF, or_self, or_false, false_or, if_true, if_false, not_true, not_false, bI_n0, bI_n1, b_em, eq_self, e, g]
    rw [zUl_drop hi24, List.foldl_cons]
    unfold fX12_heads_J74
    by_cases hg : zGb (zK sd q (zU i)) b = true
    · have e2 : zHs sd q b (zU i) = zK sd q (zU i) := by unfold zHs; rw [if_pos hg]
      rw [e2, hg, if_neg (by decide), m_copies r4 (by decide) (show 0 + 3 < ml 19 by decide) (Or.inl (by decide)), Option.bind_some]
      simp only [Option.bind_some, i32_lit2, nI_add, nI_mulM, cI, nI_ltT, nI_ltF, nI_leT, nI_leF, nI_eqF, nat_leF, or_self, or_false, false_or, if_true, if_false, not_true, not_false, bI_n0, bI_n1, b_em, eq_self]
      have f2 : fq (fun c => c = 4 ∨ c = 19) ρ (mPut ρ 19 0 (zK sd q (zU i))) := fq_put (P := fun c => c = 4 ∨ c = 19) (k := 19) 0 _ (Or.inr rfl)
      obtain ⟨τ, t1, t2, t3⟩ := ih (i + 1) n (mPut ρ 19 0 (zK sd q (zU i))) (zK sd q (zU i)) (by omega) (by omega) (mUn_fq rU f2 (by decide)) (f2.at (by decide) r13) (mPut_at _ _ _ _) sm
      exact ⟨τ, t1, t2, (rf.trans f2).trans t3⟩
    · have hg' : zGb (zK sd q (zU i)) b = false := by cases h : zGb (zK sd q (zU i)) b; rfl; exact absurd h hg
      have e2 : zHs sd q b (zU i) = b := by unfold zHs; rw [if_neg hg]
      rw [e2, hg', if_pos rfl]
      simp only [Option.bind_some, i32_lit2, nI_add, nI_mulM, cI, nI_ltT, nI_ltF, nI_leT, nI_leF, nI_eqF, nat_leF, or_self, or_false, false_or, if_true, if_false, not_true, not_false, bI_n0, bI_n1, b_em, eq_self]
      obtain ⟨τ, t1, t2, t3⟩ := ih (i + 1) n ρ b (by omega) (by omega) rU r13 r19 sb
      exact ⟨τ, t1, t2, rf.trans t3⟩
theorem m_heads {μ : QMem} {s : Nat} (sd : Int32) {q : ZQ} (hs : s < 6) (vq : qV q) (hU : mUn μ) (hq : mAt μ 13 (4 * s) q) : ∃ τ, fX12_heads (nI s) sd μ = some τ ∧ mAt τ 19 0 (zHead sd q) ∧ fq (fun c => c = 4 ∨ c = 19) μ τ := by
  have os : 4 * s + 3 < ml 13 := by rw [ml13']; omega
  have f1 : fq (fun c => c = 4 ∨ c = 19) μ (mPut μ 19 0 q) := fq_put (P := fun c => c = 4 ∨ c = 19) (k := 19) 0 _ (Or.inr rfl)
  obtain ⟨τ, t1, t2, t3⟩ := m_head_loop sd hs vq 24 0 FU (mPut μ 19 0 q) q rfl (by unfold FU; omega) (mUn_fq hU f1 (by decide)) (f1.at (by decide) hq) (mPut_at _ _ _ _) (qV_S vq)
  unfold fX12_heads
  rw [nI_mul4, show (0 : Int32) = nI 0 from rfl, m_copies hq os (show 0 + 3 < ml 19 by decide) (Or.inl (by decide)), Option.bind_some]
  exact ⟨τ, t1, t2, f1.trans t3⟩
theorem m_neg1 {μ : QMem} {p2 : Int32} {s i n : Nat} (hs : s < 6) (hi : i < 4) : fX12_turn_L74 (nI s) p2 (n + 1) (nI i) μ = fX12_turn_L74 (nI s) p2 n (nI (i + 1)) (ms μ 19 i (-(μ 13 (4 * s + i)))) := by
  rw [fX12_turn_L74]
  simp (disch := omega) only [Option.bind_some, i32_lit2, nI_add, nI_mulM, cI, nI_ltT, nI_ltF, nI_leT, nI_leF, nI_eqF, nat_leF, or_self, or_false, false_or, if_true, if_false, not_true, not_false, bI_n0, bI_n1, b_em, eq_self, ml13', ml19']
theorem zNeg_N4 (q : ZQ) : zN4 (-q.1, -q.2.1, -q.2.2.1, -q.2.2.2) = zN4 q := by
  unfold zN4
  simp only [Int.neg_mul_neg]
theorem ag_turn (σ μ : QMem) (a1 a2 : Int32) (h : RR σ μ) : ∃ (r : Int32) (σ2 μ2 : QMem), fX11_turn a1 a2 σ = some (r, σ2) ∧ fX12_turn a1 a2 μ = some (r, μ2) ∧ RR σ2 μ2 := by
  unfold fX11_turn fX12_turn
  rcases slot_cases a1 with ⟨e1, e2⟩ | ⟨s, hs, rfl, e1, e2⟩
  · rw [e1, e2, Option.bind_some, Option.bind_some, if_pos rfl, if_pos rfl]; exact ag_same h _
  · rw [e1, e2, Option.bind_some, Option.bind_some, if_neg i10, if_neg i10]
    obtain ⟨S, hS⟩ := h
    obtain ⟨v1, q1, m1⟩ := hS.1 s hs
    have os : 4 * s + 3 < ml 13 := by rw [ml13']; omega
    have hU := hS.2.2.2.2.2.2.1
    have gd : ¬ (nI s < 0 ∨ xl 102 ≤ (nI s).toNatClampNeg) := nI_in (by rw [xl102']; exact hs) (by decide)
    have ec : xb 102 + (nI s).toNatClampNeg = s := by rw [nI_clamp (by omega), xb102']; omega
    have fin : ∀ (τ ν : QMem) (q : ZQ), sX σ τ → sM μ ν → qAt τ 34 q → mAt ν 19 0 q → qV q → ∃ (r : Int32) (σ2 μ2 : QMem), fX11_turn_J122 (nI s) a2 τ = some (r, σ2) ∧ fX12_turn_J109 (nI s) a2 ν = some (r, μ2) ∧ RR σ2 μ2 := by
      intro τ ν q hX hM k1 k2 k3
      obtain ⟨σ2, μ2, w1, w2, w3⟩ := ch_ok (RRS_keep hS hX hM) hs (k2 := 34) (k := 19) (o := 0) (by decide) k1 k3 (by decide) (by decide) k2
      unfold fX11_turn_J122 fX12_turn_J109
      rw [w1, show (0 : Int32) = nI 0 from rfl, w2]
      exact ⟨_, _, _, rfl, rfl, ⟨_, w3⟩⟩
    have fqX : ∀ τ, qSame (fun c => c = 45 ∨ c = 46 ∨ c = 34) σ τ → sX σ τ := fun τ t => t.sX (fun c hc => by unfold eX; omega)
    have fqM : ∀ ν, fq (fun c => c = 4 ∨ c = 19) μ ν → sM μ ν := fun ν t => t.sM (fun c hc => by unfold eM; omega)
    have vh : ∀ sd, qV (zHead sd (S s)) := fun sd => qV_of (zHead_L v1.1) (by rw [zHead_N v1.1]; exact qV_N v1)
    by_cases w0 : a2 = 0
    · rw [if_pos w0, if_pos w0, if_neg gd, ec, c_conj 34 q1, Option.bind_some, nI_mul4, m_conj2 m1 os (show ¬ 13 = 19 by decide) (show 3 < ml 19 by decide), Option.bind_some]
      exact fin _ _ (zC (S s)) (sX_put _ (by unfold eX; omega) (by decide)) (sM_put _ _ (by unfold eM; omega) (by decide)) (qPut_at _ _ _) (mPut_at _ _ _ _) ⟨zC_L v1.1, by rw [zC_N4]; exact v1.2⟩
    rw [if_neg w0, if_neg w0]
    by_cases w1 : a2 = 1
    · obtain ⟨τ, t1, t2, t3⟩ := c_head 0 (k1 := 34) (k2 := s) (by decide) (by omega) (by omega) q1 v1.1 (qV_S v1)
      obtain ⟨ν, n1, n2, n3⟩ := m_heads 0 hs v1 hU m1
      rw [if_pos w1, if_pos w1, if_neg gd, ec, t1, Option.bind_some, show a2 - 1 = 0 by rw [w1]; rfl, n1, Option.bind_some]
      exact fin _ _ _ (fqX τ t3) (fqM ν n3) t2 n2 (vh 0)
    rw [if_neg w1, if_neg w1]
    by_cases w2 : a2 = 2
    · obtain ⟨τ, t1, t2, t3⟩ := c_head 1 (k1 := 34) (k2 := s) (by decide) (by omega) (by omega) q1 v1.1 (qV_S v1)
      obtain ⟨ν, n1, n2, n3⟩ := m_heads 1 hs v1 hU m1
      rw [if_pos w2, if_pos w2, if_neg gd, ec, t1, Option.bind_some, show a2 - 1 = 1 by rw [w2]; rfl, n1, Option.bind_some]
      exact fin _ _ _ (fqX τ t3) (fqM ν n3) t2 n2 (vh 1)
    rw [if_neg w2, if_neg w2]
    by_cases w3 : a2 = 3
    · rw [if_pos w3, if_pos w3, if_neg gd, ec, c_neg 34 q1, Option.bind_some, show FU = 1995 + 1 + 1 + 1 + 1 + 1 from rfl, show (0 : Int32) = nI 0 from rfl, m_neg1 hs (by decide), m_neg1 hs (by decide), m_neg1 hs (by decide), m_neg1 hs (by decide)]
      obtain ⟨p1, p2, p3, p4⟩ := m1
      rw [ms_cell _ (by decide), ms_cell _ (by decide), ms_cell _ (by decide), ms_cell _ (by decide), ms_cell _ (by decide), ms_cell _ (by decide), show 4 * s + 0 = 4 * s from rfl, p1, show 4 * s + (0 + 1) = 4 * s + 1 from rfl, p2, show 4 * s + (0 + 1 + 1) = 4 * s + 2 from rfl, p3, show 4 * s + (0 + 1 + 1 + 1) = 4 * s + 3 from rfl, p4, qj_neg, qj_neg, qj_neg, qj_neg]
      rw [fX12_turn_L74, if_pos (by decide : (4 : Int32) ≤ nI (0 + 1 + 1 + 1 + 1))]
      exact fin _ (mPut μ 19 0 (-(S s).1, -(S s).2.1, -(S s).2.2.1, -(S s).2.2.2)) _ (sX_put _ (by unfold eX; omega) (by decide)) (sM_put _ _ (by unfold eM; omega) (by decide)) (qPut_at _ _ _) (mPut_at _ _ _ _) ⟨by have := v1.1; unfold zL at this ⊢; simp only; omega, by rw [zNeg_N4]; exact v1.2⟩
    · rw [if_neg w3, if_neg w3]
      exact ag_same ⟨S, hS⟩ _
/-! set, add -/
theorem p_qj (p : Int32) : p = qj p.toInt := (Int32.ofInt_toInt p).symm
theorem p_R (p : Int32) : qR p.toInt := ⟨by have := Int32.le_toInt p; simpa using this, by have := Int32.toInt_lt p; simpa using this⟩
theorem m_sm1 {μ : QMem} {k n i : Nat} {a : Int} {b : Bool} (hk : 3 < ml k) (hi : i < 4) (ha : μ k i = qj a) (ra : qR a) : fX12_isSmall_L4 k (n + 1) (bI b) (nI i) μ = fX12_isSmall_L4 k n (bI (b && decide (-48 ≤ a ∧ a ≤ 48))) (nI (i + 1)) μ := by
  have hm := ml_small k
  rw [fX12_isSmall_L4]
  unfold fX12_isSmall_J30 fX12_isSmall_J31
  cases b
  · simp (disch := omega) only [Option.bind_some, i32_lit2, nI_add, nI_mulM, cI, nI_ltT, nI_ltF, nI_leT, nI_leF, nI_eqF, nat_leF, or_self, or_false, false_or, if_true, if_false, not_true, not_false, bI_n0, bI_n1, b_em, eq_self, Bool.false_and, bI_f]
  · have c1 : (qj a < -48) = (a < -48) := propext (by show qj a < qj (-48) ↔ _; rw [qj_lt ra (qR_of (by decide) (by decide))])
    have c2 : ((48 : Int32) < qj a) = (48 < a) := propext (by show qj 48 < qj a ↔ _; rw [qj_lt (qR_of (by decide) (by decide)) ra])
    have e : fX12_in (qj a) (-48) 48 = some (bI (decide (-48 ≤ a ∧ a ≤ 48))) := by
      unfold fX12_in
      simp only [c1, c2]
      by_cases h1 : a < -48
      · rw [if_pos h1, decide_eq_false (by omega)]; rfl
      · rw [if_neg h1]
        by_cases h2 : 48 < a
        · rw [if_pos h2, decide_eq_false (by omega)]; rfl
        · rw [if_neg h2, decide_eq_true (by omega)]; rfl
    have e4 : ¬ (4 : Int32) ≤ nI i := nI_ge hi (by decide)
    rw [if_neg e4, if_neg (by decide), if_neg (nI_in (show i < ml k by omega) (by omega)), nI_clamp (by omega), ha, e, Option.bind_some, Bool.true_and]
    simp only [bI_0]
    rw [show nI i + 1 = nI (i + 1) from nI_1 i]
    cases decide (-48 ≤ a ∧ a ≤ 48)
    · rw [if_pos rfl]; rfl
    · rw [if_neg (by decide)]; rfl
def zBb (q : ZQ) : Bool := decide ((-48 ≤ q.1 ∧ q.1 ≤ 48) ∧ (-48 ≤ q.2.1 ∧ q.2.1 ≤ 48) ∧ (-48 ≤ q.2.2.1 ∧ q.2.2.1 ≤ 48) ∧ -48 ≤ q.2.2.2 ∧ q.2.2.2 ≤ 48)
theorem zBb_iff (q : ZQ) : zBb q = true ↔ zB 48 q := decide_eq_true_iff
theorem m_small {μ : QMem} {k : Nat} {q : ZQ} (hk : 3 < ml k) (hq : mAt μ k 0 q) (r1 : qR q.1) (r2 : qR q.2.1) (r3 : qR q.2.2.1) (r4 : qR q.2.2.2) : fX12_isSmall k μ = some (bI (zBb q && decide (zN q ≤ 150)), μ) := by
  have hq' := hq
  obtain ⟨h1, h2, h3, h4⟩ := hq
  unfold fX12_isSmall
  rw [show FU = 1995 + 1 + 1 + 1 + 1 + 1 from rfl, show (1 : Int32) = bI true from rfl, show (0 : Int32) = nI 0 from rfl, m_sm1 hk (by decide) h1 r1, m_sm1 (i := 0 + 1) hk (by decide) h2 r2, m_sm1 (i := 0 + 1 + 1) hk (by decide) h3 r3, m_sm1 (i := 0 + 1 + 1 + 1) hk (by decide) h4 r4]
  have eb : (true && decide (-48 ≤ q.1 ∧ q.1 ≤ 48) && decide (-48 ≤ q.2.1 ∧ q.2.1 ≤ 48) && decide (-48 ≤ q.2.2.1 ∧ q.2.2.1 ≤ 48) && decide (-48 ≤ q.2.2.2 ∧ q.2.2.2 ≤ 48)) = zBb q := by
    apply b_ext
    rw [zBb_iff]
    simp only [Bool.and_eq_true, decide_eq_true_iff, true_and]
    unfold zB
    exact ⟨fun h => ⟨h.1.1.1, h.1.1.2, h.1.2, h.2⟩, fun h => ⟨⟨⟨h.1, h.2.1⟩, h.2.2.1⟩, h.2.2.2⟩⟩
  rw [eb, fX12_isSmall_L4, if_pos (by decide : (4 : Int32) ≤ nI (0 + 1 + 1 + 1 + 1))]
  simp only [bI_0]
  cases hbb : zBb q
  case true =>
    have hb := (zBb_iff q).mp hbb
    have sb : zN4 q ≤ 9216 := by
      obtain ⟨b1, b2, b3, b4⟩ := hb
      have := mul_bd b1 b1
      have := mul_bd b2 b2
      have := mul_bd b3 b3
      have := mul_bd b4 b4
      unfold zN4
      omega
    have n0 := zN_nn q
    have n1 : zN q ≤ 2304 := by unfold zN; omega
    rw [if_neg (by decide), show (0 : Int32) = nI 0 from rfl, m_norm hq' (by omega) (by omega), Option.bind_some]
    have c : ((150 : Int32) < qj (zN q)) = (150 < zN q) := propext (by show qj 150 < qj _ ↔ _; rw [qj_lt (qR_of (by decide) (by decide)) (qR_of (by omega) (by omega))])
    simp only [c]
    by_cases h150 : 150 < zN q
    · rw [if_pos h150, decide_eq_false (by omega)]; rfl
    · rw [if_neg h150, decide_eq_true (by omega)]; rfl
  case false =>
    rw [if_pos rfl, Bool.false_and]
    rfl

theorem ag_set (σ μ : QMem) (a1 a2 a3 a4 a5 : Int32) (h : RR σ μ) : ∃ (r : Int32) (σ2 μ2 : QMem), fX11_set a1 a2 a3 a4 a5 σ = some (r, σ2) ∧ fX12_set a1 a2 a3 a4 a5 μ = some (r, μ2) ∧ RR σ2 μ2 := by
  rw [p_qj a2, p_qj a3, p_qj a4, p_qj a5]
  have ra := p_R a2
  have rb := p_R a3
  have rc := p_R a4
  have rd := p_R a5
  generalize a2.toInt = a at *
  generalize a3.toInt = b at *
  generalize a4.toInt = c at *
  generalize a5.toInt = d at *
  unfold fX11_set fX12_set
  rcases slot_cases a1 with ⟨e1, e2⟩ | ⟨s, hs, rfl, e1, e2⟩
  · rw [e1, e2, Option.bind_some, Option.bind_some, if_pos rfl, if_pos rfl]; exact ag_same h _
  · rw [e1, e2, Option.bind_some, Option.bind_some, if_neg i10, if_neg i10]
    have rch : ∀ t : Int, qR t → fX11_isInReach (qj t) = some (bI (decide (-24 ≤ t ∧ t ≤ 24))) := by
      intro t rt
      have c1 : (qj t < -24) = (t < -24) := propext (by show qj t < qj (-24) ↔ _; rw [qj_lt rt (qR_of (by decide) (by decide))])
      have c2 : ((24 : Int32) < qj t) = (24 < t) := propext (by show qj 24 < qj t ↔ _; rw [qj_lt (qR_of (by decide) (by decide)) rt])
      unfold fX11_isInReach
      simp only [c1, c2]
      by_cases h1 : t < -24
      · rw [if_pos h1, decide_eq_false (by omega)]; rfl
      · rw [if_neg h1]
        by_cases h2 : 24 < t
        · rw [if_pos h2, decide_eq_false (by omega)]; rfl
        · rw [if_neg h2, decide_eq_true (by omega)]; rfl
    have m19 : ms (ms (ms (ms μ 19 0 (qj a)) 19 1 (qj b)) 19 2 (qj c)) 19 3 (qj d) = mPut μ 19 0 (a, b, c, d) := rfl
    have hM : sM μ (mPut μ 19 0 (a, b, c, d)) := sM_put _ _ (by unfold eM; omega) (by decide)
    have small := m_small (μ := mPut μ 19 0 (a, b, c, d)) (k := 19) (q := (a, b, c, d)) (by decide) (mPut_at _ _ _ _) ra rb rc rd
    rw [rch a ra, rch b rb, rch c rc, rch d rd]
    have z19 : ml 19 = 4 := rfl
    have g0 : ¬ ((0 : Int32) < 0 ∨ ml 19 ≤ (0 : Int32).toNatClampNeg) := by rw [z19]; decide
    have g1 : ¬ ((1 : Int32) < 0 ∨ ml 19 ≤ (1 : Int32).toNatClampNeg) := by rw [z19]; decide
    have g2 : ¬ ((2 : Int32) < 0 ∨ ml 19 ≤ (2 : Int32).toNatClampNeg) := by rw [z19]; decide
    have g3 : ¬ ((3 : Int32) < 0 ∨ ml 19 ≤ (3 : Int32).toNatClampNeg) := by rw [z19]; decide
    have k0 : (0 : Int32).toNatClampNeg = 0 := by decide
    have k1 : (1 : Int32).toNatClampNeg = 1 := by decide
    have k2 : (2 : Int32).toNatClampNeg = 2 := by decide
    have k3 : (3 : Int32).toNatClampNeg = 3 := by decide
    rw [if_neg g0, if_neg g1, if_neg g2, if_neg g3, k0, k1, k2, k3, m19, small, Option.bind_some]
    simp only [Option.bind_some, bI_0, qj_xor1, c_put]
    by_cases ok : zL (a, b, c, d) ∧ zN4 (a, b, c, d) ≤ 600
    · obtain ⟨⟨b1, b2⟩, ⟨b3, b4⟩, ⟨b5, b6⟩, b7, b8⟩ := qV_24 ok.2
      simp only at b1 b2 b3 b4 b5 b6 b7 b8
      have v : qV (a, b, c, d) := ok
      have nv := qV_N v
      have n0 := zN_nn (a, b, c, d)
      have zb : zBb (a, b, c, d) = true := (zBb_iff _).mpr ⟨by simp only; omega, by simp only; omega, by simp only; omega, by simp only; omega⟩
      have lk : zLb a b c d = true := (zLb_iff (a, b, c, d)).mpr ok.1
      obtain ⟨l1, l2, l3⟩ := ok.1
      simp only at l1 l2 l3
      have tf : ¬ (true = false) := by decide
      rw [decide_eq_true ⟨b1, b2⟩, decide_eq_true ⟨b3, b4⟩, decide_eq_true ⟨b5, b6⟩, decide_eq_true ⟨b7, b8⟩, if_neg tf, if_neg tf, if_neg tf, if_neg tf, if_pos l1, if_pos l2, if_pos l3, c_norm (qPut_at _ _ _) (by have := ok.2; omega), Option.bind_some, zb, decide_eq_true nv, Bool.true_and, if_neg tf, m_like (by omega) (by omega) (by omega) (by omega), Option.bind_some, lk]
      simp only [bI_0]
      have c1 : qj (zN (a, b, c, d)) ≤ 150 := by
        show qj _ ≤ qj 150
        rw [qj_le (qR_of (by omega) (by omega)) (qR_of (by decide) (by decide))]
        exact nv
      rw [if_pos c1, if_neg tf]
      obtain ⟨S, hS⟩ := h
      obtain ⟨σ2, μ2, w1, w2, w3⟩ := ch_ok (RRS_keep hS (sX_put (k := 34) (a, b, c, d) (by unfold eX; omega) (by decide)) hM) hs (k2 := 34) (k := 19) (o := 0) (by decide) (qPut_at _ _ _) v (by decide) (by decide) (mPut_at _ _ _ _)
      rw [w1, show (0 : Int32) = nI 0 from rfl, w2]
      exact ⟨_, _, _, rfl, rfl, ⟨_, w3⟩⟩
    · -- refused on both sides
      have refd : ∀ X : QMem, (if (zBb (a, b, c, d) && decide (zN (a, b, c, d) ≤ 150)) = false then some ((-1002 : Int32), X) else ((fX12_areLike (qj a) (qj b) (qj c) (qj d)).bind fun xq11 => if xq11 = 0 then some (-1002, X) else ((fX12_becomes (nI s) 19 0 X).bind fun xq14 => some (xq14.1, xq14.2)))) = some (-1002, X) := by
        intro X
        cases hb : (zBb (a, b, c, d) && decide (zN (a, b, c, d) ≤ 150))
        · exact if_pos rfl
        · rw [if_neg (by decide)]
          rw [Bool.and_eq_true, zBb_iff, decide_eq_true_iff] at hb
          obtain ⟨⟨⟨b1, b2⟩, ⟨b3, b4⟩, ⟨b5, b6⟩, b7, b8⟩, hn⟩ := hb
          simp only at b1 b2 b3 b4 b5 b6 b7 b8
          rw [m_like (by omega) (by omega) (by omega) (by omega), Option.bind_some]
          cases hl : zLb a b c d
          · exact if_pos rfl
          · exfalso
            have ll : zL (a, b, c, d) := (zLb_iff (a, b, c, d)).mp hl
            have := zN4_four ll
            exact ok ⟨ll, by omega⟩
      rw [refd]
      have cls : ∀ (X : QMem) (A : Option (Int32 × QMem)), (zN (a, b, c, d) ≤ 150 → zL (a, b, c, d) → False) → True := fun _ _ _ => trivial
      cases d1 : decide (-24 ≤ a ∧ a ≤ 24)
      · rw [if_pos rfl]; exact ag_of h _ (sX.refl _) hM
      rw [if_neg (by decide)]
      cases d2 : decide (-24 ≤ b ∧ b ≤ 24)
      · rw [if_pos rfl]; exact ag_of h _ (sX.refl _) hM
      rw [if_neg (by decide)]
      cases d3 : decide (-24 ≤ c ∧ c ≤ 24)
      · rw [if_pos rfl]; exact ag_of h _ (sX.refl _) hM
      rw [if_neg (by decide)]
      cases d4 : decide (-24 ≤ d ∧ d ≤ 24)
      · rw [if_pos rfl]; exact ag_of h _ (sX.refl _) hM
      rw [if_neg (by decide)]
      by_cases l1 : (a - b) % 2 = 0
      · rw [if_pos l1]
        by_cases l2 : (a - c) % 2 = 0
        · rw [if_pos l2]
          by_cases l3 : (a - d) % 2 = 0
          · rw [if_pos l3]
            rw [decide_eq_true_iff] at d1 d2 d3 d4
            have q1 := mul_bd d1 d1
            have q2 := mul_bd d2 d2
            have q3 := mul_bd d3 d3
            have q4 := mul_bd d4 d4
            have ll : zL (a, b, c, d) := ⟨l1, l2, l3⟩
            have f4 := zN4_four ll
            have n4 : zN4 (a, b, c, d) ≤ 2304 := by unfold zN4; simp only; omega
            have n0 := zN_nn (a, b, c, d)
            have hn : ¬ zN (a, b, c, d) ≤ 150 := fun z => ok ⟨ll, by omega⟩
            rw [c_norm (qPut_at _ _ _) (by omega), Option.bind_some]
            have c1 : ¬ qj (zN (a, b, c, d)) ≤ 150 := by
              show ¬ qj _ ≤ qj 150
              rw [qj_le (qR_of (by omega) (by omega)) (qR_of (by decide) (by decide))]
              exact hn
            rw [if_neg c1]
            exact ag_of h _ (sX_put _ (by unfold eX; omega) (by decide)) hM
          · rw [if_neg l3]; exact ag_of h _ (sX.refl _) hM
        · rw [if_neg l2]; exact ag_of h _ (sX.refl _) hM
      · rw [if_neg l1]; exact ag_of h _ (sX.refl _) hM
theorem m_add1 {μ : QMem} {s t i n : Nat} (hs : s < 6) (ht : t < 6) (hi : i < 4) : fX12_add_L20 (nI s) (nI t) (n + 1) (nI i) μ = fX12_add_L20 (nI s) (nI t) n (nI (i + 1)) (ms μ 19 i (μ 13 (4 * s + i) + μ 13 (4 * t + i))) := by
  rw [fX12_add_L20]
  simp (disch := omega) only [Option.bind_some, i32_lit2, nI_add, nI_mulM, cI, nI_ltT, nI_ltF, nI_leT, nI_leF, nI_eqF, nat_leF, or_self, or_false, false_or, if_true, if_false, not_true, not_false, bI_n0, bI_n1, b_em, eq_self, ml13', ml19']
theorem ag_add (σ μ : QMem) (a1 a2 : Int32) (h : RR σ μ) : ∃ (r : Int32) (σ2 μ2 : QMem), fX11_add a1 a2 σ = some (r, σ2) ∧ fX12_add a1 a2 μ = some (r, μ2) ∧ RR σ2 μ2 := by
  unfold fX11_add fX12_add
  rcases slot_cases a1 with ⟨e1, e2⟩ | ⟨s, hs, rfl, e1, e2⟩
  · rw [e1, e2, Option.bind_some, Option.bind_some, if_pos rfl, if_pos rfl]; exact ag_same h _
  · rcases slot_cases a2 with ⟨e3, e4⟩ | ⟨t, ht, rfl, e3, e4⟩
    · rw [e1, e2, Option.bind_some, Option.bind_some, if_neg i10, if_neg i10, e3, e4, Option.bind_some, Option.bind_some, if_pos rfl, if_pos rfl]; exact ag_same h _
    · rw [e1, e2, Option.bind_some, Option.bind_some, if_neg i10, if_neg i10, e3, e4, Option.bind_some, Option.bind_some, if_neg i10, if_neg i10]
      obtain ⟨S, hS⟩ := h
      obtain ⟨v1, q1, m1⟩ := hS.1 s hs
      obtain ⟨v2, q2, m2⟩ := hS.1 t ht
      obtain ⟨⟨a1, a2⟩, ⟨a3, a4⟩, ⟨a5, a6⟩, a7, a8⟩ := qV_24 v1.2
      obtain ⟨⟨b1, b2⟩, ⟨b3, b4⟩, ⟨b5, b6⟩, b7, b8⟩ := qV_24 v2.2
      have gs : ¬ (nI s < 0 ∨ xl 102 ≤ (nI s).toNatClampNeg) := nI_in (by rw [xl102']; exact hs) (by decide)
      have gt : ¬ (nI t < 0 ∨ xl 102 ≤ (nI t).toNatClampNeg) := nI_in (by rw [xl102']; exact ht) (by decide)
      have es : xb 102 + (nI s).toNatClampNeg = s := by rw [nI_clamp (by omega), xb102']; omega
      have et : xb 102 + (nI t).toNatClampNeg = t := by rw [nI_clamp (by omega), xb102']; omega
      have bA : zB 48 (zAdd (S s) (S t)) := by
        unfold zAdd
        refine ⟨?_, ?_, ?_, ?_⟩ <;> simp only <;> omega
      have n4 : zN4 (zAdd (S s) (S t)) ≤ 9216 := by
        obtain ⟨b1, b2, b3, b4⟩ := bA
        have := mul_bd b1 b1
        have := mul_bd b2 b2
        have := mul_bd b3 b3
        have := mul_bd b4 b4
        unfold zN4
        omega
      have lA : zL (zAdd (S s) (S t)) := zAdd_L v1.1 v2.1
      have n0 := zN_nn (zAdd (S s) (S t))
      have f4 := zN4_four lA
      have hX : sX σ (qPut σ 34 (zAdd (S s) (S t))) := sX_put _ (by unfold eX; omega) (by decide)
      have hM : sM μ (mPut μ 19 0 (zAdd (S s) (S t))) := sM_put _ _ (by unfold eM; omega) (by decide)
      rw [if_neg gs, if_neg gt, es, et, c_sum 34 q1 q2, Option.bind_some, c_norm (qPut_at _ _ _) (by omega), Option.bind_some, show FU = 1995 + 1 + 1 + 1 + 1 + 1 from rfl, show (0 : Int32) = nI 0 from rfl, m_add1 hs ht (by decide), m_add1 hs ht (by decide), m_add1 hs ht (by decide), m_add1 hs ht (by decide)]
      obtain ⟨p1, p2, p3, p4⟩ := m1
      obtain ⟨r1, r2, r3, r4⟩ := m2
      rw [ms_cell _ (by decide), ms_cell _ (by decide), ms_cell _ (by decide), ms_cell _ (by decide), ms_cell _ (by decide), ms_cell _ (by decide), show 4 * s + 0 = 4 * s from rfl, p1, show 4 * s + (0 + 1) = 4 * s + 1 from rfl, p2, show 4 * s + (0 + 1 + 1) = 4 * s + 2 from rfl, p3, show 4 * s + (0 + 1 + 1 + 1) = 4 * s + 3 from rfl, p4, show 4 * t + 0 = 4 * t from rfl, r1, show 4 * t + (0 + 1) = 4 * t + 1 from rfl, r2, show 4 * t + (0 + 1 + 1) = 4 * t + 2 from rfl, r3, show 4 * t + (0 + 1 + 1 + 1) = 4 * t + 3 from rfl, r4, qj_add, qj_add, qj_add, qj_add]
      have m19 : ms (ms (ms (ms μ 19 0 (qj ((S s).1 + (S t).1))) 19 (0 + 1) (qj ((S s).2.1 + (S t).2.1))) 19 (0 + 1 + 1) (qj ((S s).2.2.1 + (S t).2.2.1))) 19 (0 + 1 + 1 + 1) (qj ((S s).2.2.2 + (S t).2.2.2)) = mPut μ 19 0 (zAdd (S s) (S t)) := rfl
      obtain ⟨c1, c2, c3, c4⟩ := bA
      have small := m_small (μ := mPut μ 19 0 (zAdd (S s) (S t))) (k := 19) (q := zAdd (S s) (S t)) (by decide) (mPut_at _ _ _ _) (qR_of (by omega) (by omega)) (qR_of (by omega) (by omega)) (qR_of (by omega) (by omega)) (qR_of (by omega) (by omega))
      rw [m19, fX12_add_L20, if_pos (by decide : (4 : Int32) ≤ nI (0 + 1 + 1 + 1 + 1)), small, Option.bind_some, (zBb_iff _).mpr ⟨c1, c2, c3, c4⟩, Bool.true_and]
      have cc : (qj (zN (zAdd (S s) (S t))) ≤ 150) = (zN (zAdd (S s) (S t)) ≤ 150) := propext (by show qj _ ≤ qj 150 ↔ _; rw [qj_le (qR_of (by omega) (by omega)) (qR_of (by decide) (by decide))])
      simp only [cc, bI_0]
      by_cases hn : zN (zAdd (S s) (S t)) ≤ 150
      · rw [if_pos hn, decide_eq_true hn, if_neg (by decide)]
        obtain ⟨σ2, μ2, w1, w2, w3⟩ := ch_ok (RRS_keep hS hX hM) hs (k2 := 34) (k := 19) (o := 0) (by decide) (qPut_at _ _ _) (qV_of lA hn) (by decide) (by decide) (mPut_at _ _ _ _)
        rw [w1, show (0 : Int32) = nI 0 from rfl, w2]
        exact ⟨_, _, _, rfl, rfl, ⟨_, w3⟩⟩
      · rw [if_neg hn, decide_eq_false hn, if_pos rfl]
        exact ag_of ⟨S, hS⟩ _ hX hM
