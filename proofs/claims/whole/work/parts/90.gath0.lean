/-! the tries without units, for the reference's start -/
def mUh (hd : Bool) (μ : QMem) : Prop := hd = true → mUn μ
theorem mUh_fq {P : Nat → Prop} {hd : Bool} {μ ν : QMem} (h : mUh hd μ) (hs : fq P μ ν) (h1 : ¬ P 1) : mUh hd ν := fun e => mUn_fq (h e) hs h1
theorem mUh_fr {P : Nat → Prop} {hd : Bool} {μ ν : QMem} (h : mUh hd μ) (hs : fr P μ ν) (h1 : ¬ P 1) : mUh hd ν := fun e => mUn_fr (h e) hs h1
theorem m_triesh {μ : QMem} {L : List ZQ} {q t0 t1 : ZQ} (s : Int32) (hd : Bool) {tg : Nat} (hU : mUh hd μ) (hT : mTg μ tg t0 t1) (hF : mFd μ L) (hl : L.length < 600) (hq : mAt μ 6 0 q) (vq : qV q) (h0 : q ≠ z0) :
    ∃ τ, fX12_tries s (bI hd) (nI tg) μ = some τ ∧ mFd τ (gSt (gP s hd tg t0 t1) 600 L q) ∧ fr gtP μ τ := by
  have n28 : ∀ P : Nat → Prop, (∀ c, P c → c ≤ 5) → ¬ P 28 := fun P h q => by have := h 28 q; omega
  -- heads
  have st63 : ∀ (ρ : QMem), mUh hd ρ → mFd ρ L → mAt ρ 6 0 q → fr gtP μ ρ → (1 ≤ tg → zD s q t0) → (2 ≤ tg → zD s q t1) → ∃ τ, fX12_tries_J63 s (bI hd) (nI tg) 1 ρ = some τ ∧ mFd τ (gSt (gP s hd tg t0 t1) 600 L q) ∧ fr gtP μ τ := by
    intro ρ r1 r2 r3 r4 k1 k2
    unfold fX12_tries_J63
    rw [if_neg (by decide)]
    simp only [bI_0]
    cases hd
    · rw [if_pos rfl]
      obtain ⟨τ, t1, t2, t3⟩ := m_add s (bI false) (nI tg) r2 hl r3
      exact ⟨τ, t1, by rw [gSt_yes hl ⟨k1, k2, fun z => absurd z (by decide)⟩]; exact t2, r4.trans t3⟩
    · rw [if_neg (by decide)]
      obtain ⟨ρ2, u1, u2⟩ := m_isHead s (r1 rfl) r3 (by decide) (by decide) vq.1 (qV_S vq)
      rw [show (0 : Int32) = nI 0 from rfl, u1, Option.bind_some]
      simp only [bI_n0]
      have f2 : fr gtP μ ρ2 := r4.trans ((u2.weaken (fun c h => by unfold gtP; omega)).fr (by unfold gtP; decide))
      cases hh : zHb s q
      · rw [if_pos rfl, gSt_no (fun z => by
          have := (zHb_iff s q).mpr (z.2.2.2 rfl)
          rw [hh] at this
          exact absurd this (by decide))]
        exact ⟨ρ2, rfl, mFd_fq r2 u2 (by decide) (by decide), f2⟩
      · rw [if_neg (by decide)]
        obtain ⟨τ, t1, t2, t3⟩ := m_add s (bI true) (nI tg) (mFd_fq r2 u2 (by decide) (by decide)) hl (u2.at (by decide) r3)
        exact ⟨τ, t1, by rw [gSt_yes hl ⟨k1, k2, fun _ => (zHb_iff s q).mp hh⟩]; exact t2, f2.trans t3⟩
  have no63 : ∀ (ρ : QMem), mFd ρ L → fr gtP μ ρ → ¬ gP s hd tg t0 t1 q → ∃ τ, fX12_tries_J62 s (bI hd) (nI tg) ρ = some τ ∧ mFd τ (gSt (gP s hd tg t0 t1) 600 L q) ∧ fr gtP μ τ := by
    intro ρ r1 r2 k
    unfold fX12_tries_J62 fX12_tries_J63
    rw [if_pos rfl, gSt_no (fun z => k z.2)]
    exact ⟨ρ, rfl, r1, r2⟩
  have st28 : ∀ (ρ : QMem), mUh hd ρ → mTg ρ tg t0 t1 → mFd ρ L → mAt ρ 6 0 q → fr gtP μ ρ → (1 ≤ tg → zD s q t0) → ∃ τ, fX12_tries_J28 s (bI hd) (nI tg) 1 ρ = some τ ∧ mFd τ (gSt (gP s hd tg t0 t1) 600 L q) ∧ fr gtP μ τ := by
    intro ρ r1 rT r2 r3 r4 k1
    unfold fX12_tries_J28
    rw [if_neg (by decide), show (2 : Int32) = nI 2 from rfl]
    by_cases ht : tg < 2
    · rw [if_pos (nI_lt ht (by decide))]
      exact st63 ρ r1 r2 r3 r4 k1 (fun z => by omega)
    · rw [if_neg (nI_nlt (by omega) (by have := hT.1; omega))]
      obtain ⟨g1, g2⟩ := rT.2.2 (by omega)
      obtain ⟨ρ2, u1, -, u3⟩ := m_isDiv s r3 g1 (by decide) (by decide) (by decide) (by decide) vq g2 h0
      rw [show (0 : Int32) = nI 0 from rfl, show (4 : Int32) = nI 4 from rfl, u1, Option.bind_some]
      simp only [bI_n0]
      have f2 : fr gtP μ ρ2 := r4.trans ((u3.weaken (fun c h => by unfold gtP; omega)).fr (by unfold gtP; decide))
      cases hh : zDb s q t1
      · rw [if_pos rfl]
        exact no63 ρ2 (mFd_fq r2 u3 (by decide) (by decide)) f2 (fun z => by
          have := zDb_iff.mpr (z.2.1 (by omega))
          rw [hh] at this
          exact absurd this (by decide))
      · rw [if_neg (by decide)]
        exact st63 ρ2 (mUh_fq r1 u3 (by decide)) (mFd_fq r2 u3 (by decide) (by decide)) (u3.at (by decide) r3) f2 k1 (fun _ => zDb_iff.mp hh)
  unfold fX12_tries
  rw [show (1 : Int32) = nI 1 from rfl]
  by_cases ht : tg < 1
  · rw [if_pos (nI_lt ht (by decide))]
    exact st28 μ hU hT hF hq (fr.refl _ _) (fun z => by omega)
  · rw [if_neg (nI_nlt (by omega) (by have := hT.1; omega))]
    obtain ⟨g1, g2⟩ := hT.2.1 (by omega)
    obtain ⟨ρ2, u1, -, u3⟩ := m_isDiv s hq g1 (by decide) (by decide) (by decide) (by decide) vq g2 h0
    rw [show (0 : Int32) = nI 0 from rfl, u1, Option.bind_some]
    simp only [bI_n0]
    have f2 : fr gtP μ ρ2 := (u3.weaken (fun c h => by unfold gtP; omega)).fr (by unfold gtP; decide)
    cases hh : zDb s q t0
    · rw [if_pos rfl]
      unfold fX12_tries_J28
      rw [if_pos (show nI 0 = 0 from rfl)]
      exact no63 ρ2 (mFd_fq hF u3 (by decide) (by decide)) f2 (fun z => by
        have := zDb_iff.mpr (z.1 (by omega))
        rw [hh] at this
        exact absurd this (by decide))
    · rw [if_neg (by decide)]
      unfold fX12_tries_J23
      exact st28 ρ2 (mUh_fq hU u3 (by decide)) (mTg_fr hT f2 (by unfold gtP; decide)) (mFd_fq hF u3 (by decide) (by decide)) (u3.at (by decide) hq) f2 (fun _ => zDb_iff.mp hh)
theorem m_lasth {μ : QMem} {L : List ZQ} {t0 t1 : ZQ} (s : Int32) (hd : Bool) {tg : Nat} {a b c d : Int} (hU : mUh hd μ) (hT : mTg μ tg t0 t1) (hF : mFd μ L) (hl : L.length < 600) (ha : μ 6 0 = qj a) (hb : μ 6 1 = qj b) (hc : μ 6 2 = qj c) (hn : zN4 (a, b, c, d) ≤ 600) (h0 : (a, b, c, d) ≠ z0) :
    ∃ τ, fX12_triesLast (qj d) s (bI hd) (nI tg) μ = some τ ∧ mFd τ (if (a - b) % 2 = 0 ∧ (a - c) % 2 = 0 ∧ (a - d) % 2 = 0 then gSt (gP s hd tg t0 t1) 600 L (a, b, c, d) else L) ∧ fr gaP μ τ ∧ τ 6 0 = qj a ∧ τ 6 1 = qj b ∧ τ 6 2 = qj c := by
  obtain ⟨⟨a1, a2⟩, ⟨b1, b2⟩, ⟨c1, c2⟩, d1, d2⟩ := qV_24 hn
  simp only at a1 a2 b1 b2 c1 c2 d1 d2
  have m6 : ml 6 = 4 := rfl
  unfold fX12_triesLast
  simp (disch := omega) only [Option.bind_some, i32_lit, nI_add, nI_mulM, cI, nI_ltT, nI_ltF, nI_leT, nI_leF, nI_eqF, nat_leF, or_self, or_false, false_or, if_true, if_false, not_true, not_false, bI_n0, m6]
  rw [ms_place _ _ (by decide), ms_place _ _ (by decide), ms_place _ _ (by decide), ha, hb, hc, m_like (by omega) (by omega) (by omega) (by omega), Option.bind_some]
  generalize hρ : ms μ 6 3 (qj d) = ρ
  have r6 : mAt ρ 6 0 (a, b, c, d) := by
    rw [← hρ]
    exact ⟨by rw [ms_place _ _ (by decide)]; exact ha, by rw [ms_place _ _ (by decide)]; exact hb, by rw [ms_place _ _ (by decide)]; exact hc, ms_same _ _ _ _⟩
  have rf : fr gaP μ ρ := by
    rw [← hρ]
    refine ⟨fun k hk _ => ms_cell _ (fun e => hk (by unfold gaP; omega)) _ _, fun j _ => by rw [ms_cell _ (by decide)]⟩
  have rF : mFd ρ L := by
    rw [← hρ]
    unfold mFd
    rw [ms_cell _ (by decide), ms_cell _ (by decide)]
    exact hF
  unfold zLb
  by_cases hk : (a - b) % 2 = 0 ∧ (a - c) % 2 = 0 ∧ (a - d) % 2 = 0
  · rw [decide_eq_true hk, if_pos hk]
    have e1 : (if bI true = nI 0 then some ρ else ((fX12_tries s (bI hd) (nI tg) ρ).bind fun xq8 => some xq8)) = (fX12_tries s (bI hd) (nI tg) ρ).bind fun xq8 => some xq8 := if_neg (by decide)
    obtain ⟨τ, t1, t2, t3⟩ := m_triesh s hd (mUh_fr hU rf (by unfold gaP; decide)) (mTg_fr hT rf (by unfold gaP; decide)) rF hl r6 ⟨hk, hn⟩ h0
    have e2 : ((fX12_tries s (bI hd) (nI tg) ρ).bind fun xq8 => some xq8) = some τ := by rw [t1]; rfl
    have t6 := t3.at (by unfold gtP; decide) (by decide) r6
    exact ⟨τ, e1.trans e2, t2, rf.trans (t3.weaken (fun c h => by unfold gtP at h; unfold gaP; omega)), t6.1, t6.2.1, t6.2.2.1⟩
  · rw [decide_eq_false hk, if_neg hk]
    exact ⟨ρ, if_pos rfl, rF, rf, r6.1, r6.2.1, r6.2.2.1⟩

def gIh (hd : Bool) (μ : QMem) (tg : Nat) (t0 t1 : ZQ) : Prop := mUh hd μ ∧ mTg μ tg t0 t1 ∧ mRt μ
theorem gIh_fr {hd : Bool} {μ ν : QMem} {tg : Nat} {t0 t1 : ZQ} (h : gIh hd μ tg t0 t1) (hs : fr gaP μ ν) : gIh hd ν tg t0 t1 := ⟨mUh_fr h.1 hs (by unfold gaP; decide), mTg_fr h.2.1 hs (by unfold gaP; decide), mRt_fr h.2.2 hs (by unfold gaP; decide)⟩
theorem m_bodyh {L : List ZQ} {t0 t1 : ZQ} (s : Int32) (hd : Bool) {tg most nn : Nat} {a b c : Int} (v6 : Int32) (K28 : Int32 → Int32 → QMem → Option QMem) (K49 : Int32 → Int32 → Int32 → QMem → Option QMem) (K70 : Int32 → Int32 → Int32 → Int32 → QMem → Option QMem) {μ : QMem} (hI : gIh hd μ tg t0 t1) (hF : mFd μ L) (hl : L.length < most) (hm : most ≤ 600) (hn : nn ≤ 150) (hn0 : 0 < nn) (l : Int) (hL : l = 4 * (nn : Int) - a * a - b * b - c * c) :
    ∃ τ, fX12_gathers_J126 (nI nn) s (bI hd) (nI tg) (nI most) K28 K49 K70 v6 (qj a) (qj b) (qj c) (qj (if l < 0 then -1 else zRt l.toNat)) μ = K70 v6 (qj a) (qj b) (qj c + -1) τ ∧ mFd τ (gF (gP s hd tg t0 t1) most L (zLast a b c l)) ∧ fr gaP μ τ := by
  have m6 : ml 6 = 4 := rfl
  have s1 := sq_nn a
  have s2 := sq_nn b
  have s3 := sq_nn c
  have dd : (if l < 0 then -1 else zRt l.toNat) = -1 ∨ (0 ≤ (if l < 0 then -1 else zRt l.toNat) ∧ (if l < 0 then -1 else zRt l.toNat) ≤ 24 ∧ (if l < 0 then -1 else zRt l.toNat) * (if l < 0 then -1 else zRt l.toNat) = l) := by
    by_cases h : l < 0
    · rw [if_pos h]; exact Or.inl rfl
    · rw [if_neg h]
      have := zRt_bd (n := l.toNat) (by omega)
      by_cases h2 : zRt l.toNat < 0
      · exact Or.inl (by omega)
      · have := zRt_nn (n := l.toNat) (by omega)
        exact Or.inr ⟨by omega, by omega, by omega⟩
  unfold zLast
  generalize (if l < 0 then -1 else zRt l.toNat) = d at dd
  simp only
  unfold fX12_gathers_J126
  simp (disch := omega) only [Option.bind_some, i32_lit2, nI_add, nI_mulM, cI, nI_ltT, nI_ltF, nI_leT, nI_leF, nI_eqF, nat_leF, or_self, or_false, false_or, if_true, if_false, not_true, not_false, bI_n0, bI_n1, b_em, eq_self, m6]
  generalize hρ : ms (ms (ms μ 6 0 (qj a)) 6 1 (qj b)) 6 2 (qj c) = ρ
  have r0 : ρ 6 0 = qj a := by rw [← hρ, ms_place _ _ (by decide), ms_place _ _ (by decide), ms_same]
  have r1 : ρ 6 1 = qj b := by rw [← hρ, ms_place _ _ (by decide), ms_same]
  have r2 : ρ 6 2 = qj c := by rw [← hρ, ms_same]
  have rf : fr gaP μ ρ := by
    rw [← hρ]
    refine ⟨fun k hk _ => ?_, fun j _ => by rw [ms_cell _ (by decide), ms_cell _ (by decide), ms_cell _ (by decide)]⟩
    unfold gaP at hk
    rw [ms_cell _ (by omega), ms_cell _ (by omega), ms_cell _ (by omega)]
  have rF : mFd ρ L := by
    rw [← hρ]
    unfold mFd
    rw [ms_cell _ (by decide), ms_cell _ (by decide), ms_cell _ (by decide), ms_cell _ (by decide), ms_cell _ (by decide), ms_cell _ (by decide)]
    exact hF
  have rI := gIh_fr hI rf
  have lq : ∀ e : Int, e * e = l → zN4 (a, b, c, e) ≤ 600 ∧ (a, b, c, e) ≠ z0 := by
    intro e he
    have e4 : zN4 (a, b, c, e) = 4 * (nn : Int) := by unfold zN4; simp only; omega
    refine ⟨by omega, fun z => ?_⟩
    rw [z] at e4
    have : zN4 z0 = 0 := by decide
    omega
  have rd : qR d := by
    rcases dd with h | ⟨h1, h2, -⟩
    · rw [h]; exact qR_of (by decide) (by decide)
    · exact qR_of (by omega) (by omega)
  -- behind the first try
  have second : ∀ (π : QMem) (M : List ZQ), π 6 0 = qj a → π 6 1 = qj b → π 6 2 = qj c → fr gaP μ π → mFd π M → gIh hd π tg t0 t1 → M.length ≤ most → (0 ≤ d → d * d = l ∧ d ≤ 24) →
      ∃ τ, fX12_gathers_J167 (nI nn) s (bI hd) (nI tg) (nI most) K28 K49 K70 v6 (qj a) (qj b) (qj c) (qj d) π = K70 v6 (qj a) (qj b) (qj c + -1) τ ∧ mFd τ (gF (gP s hd tg t0 t1) most M (if d > 0 ∧ ((a - b) % 2 = 0 ∧ (a - c) % 2 = 0 ∧ (a - -d) % 2 = 0) then [(a, b, c, -d)] else [])) ∧ fr gaP μ τ := by
    intro π M p0 p1 p2 pf pF pI pl pd
    unfold fX12_gathers_J167 fX12_gathers_J192
    by_cases h0 : 0 < d
    · have c0 : ¬ qj d ≤ 0 := by rw [← qj_0, qj_le rd (qR_of (by decide) (by decide))]; omega
      rw [if_neg c0, pF.1]
      by_cases hM : most ≤ M.length
      · rw [if_pos (nI_le hM (by have := pF.2.1; omega)), gF_full hM]
        exact ⟨π, rfl, pF, pf⟩
      · rw [if_neg (nI_ge (by omega) (by omega)), qj_neg]
        obtain ⟨k1, k2⟩ := lq (-d) (by rw [Int.neg_mul_neg]; exact (pd (by omega)).1)
        obtain ⟨τ, t1', t2, t3, -⟩ := m_lasth s hd pI.1 pI.2.1 pF (by omega) p0 p1 p2 k1 k2
        rw [t1', Option.bind_some]
        refine ⟨τ, rfl, ?_, pf.trans t3⟩
        by_cases hk : (a - b) % 2 = 0 ∧ (a - c) % 2 = 0 ∧ (a - -d) % 2 = 0
        · rw [if_pos hk] at t2
          rw [if_pos ⟨h0, hk⟩, gF_one, ← gSt_600 (by omega) hm]
          exact t2
        · rw [if_neg hk] at t2
          rw [if_neg (fun z => hk z.2)]
          exact t2
    · have c0 : qj d ≤ 0 := by rw [← qj_0, qj_le rd (qR_of (by decide) (by decide))]; omega
      rw [if_pos c0, if_neg (fun z => h0 z.1), gF_nil]
      exact ⟨π, rfl, pF, pf⟩
  rw [gF_app]
  have clt : (qj d < nI 0) = (d < 0) := propext (by rw [show nI 0 = qj 0 from rfl, qj_lt rd (qR_of (by decide) (by decide))])
  simp only [clt]
  rcases dd with h | ⟨h1, h2, h3⟩
  · rw [if_pos (by omega), if_neg (fun z => by omega), gF_nil]
    exact second ρ L r0 r1 r2 rf rF rI (by omega) (fun z => by omega)
  · obtain ⟨k1, k2⟩ := lq d h3
    obtain ⟨τ, t1', t2, t3, t6, t7, t8⟩ := m_lasth s hd rI.1 rI.2.1 rF (by omega) r0 r1 r2 k1 k2
    rw [if_neg (by omega), t1', Option.bind_some]
    refine second τ _ t6 t7 t8 (rf.trans t3) ?_ (gIh_fr rI t3) (gF_len _ (by omega)) (fun _ => ⟨h3, h2⟩)
    by_cases hk : (a - b) % 2 = 0 ∧ (a - c) % 2 = 0 ∧ (a - d) % 2 = 0
    · rw [if_pos hk] at t2
      rw [if_pos ⟨h1, hk⟩, gF_one, ← gSt_600 hl hm]
      exact t2
    · rw [if_neg hk] at t2
      rw [if_neg (fun z => hk z.2)]
      exact t2
theorem m_loopCh {t0 t1 : ZQ} (s : Int32) (hd : Bool) {tg most nn f : Nat} {a b : Int} (K28 : Int32 → Int32 → QMem → Option QMem) (K49 : Int32 → Int32 → Int32 → QMem → Option QMem) (hm : most ≤ 600) (hn : nn ≤ 150) (hn0 : 0 < nn) (hf : f ≤ 24) (ha : -24 ≤ a ∧ a ≤ 24) (hb : -24 ≤ b ∧ b ≤ 24) : ∀ (m i n : Nat) (μ : QMem) (L : List ZQ), i + m = 2 * f + 1 → m < n → gIh hd μ tg t0 t1 → mFd μ L → L.length ≤ most →
    ∃ τ, fX12_gathers_L70 (nI nn) s (bI hd) (nI tg) (nI most) K28 K49 n (nI f) (qj a) (qj b) (qj ((f : Int) - (i : Int))) μ = K49 (nI f) (qj a) (qj b + -1) τ ∧ mFd τ (gF (gP s hd tg t0 t1) most L (((zRng f).drop i).flatMap fun c => zLast a b c (4 * (nn : Int) - a * a - b * b - c * c))) ∧ fr gaP μ τ := by
  intro m
  induction m with
  | zero =>
    intro i n μ L hi hn' hI hF hl
    obtain ⟨n, rfl⟩ : ∃ m, n = m + 1 := ⟨n - 1, by omega⟩
    have c1 : qj ((f : Int) - (i : Int)) < -nI f := by
      rw [qj_nat, qj_neg, qj_lt (qR_of (by omega) (by omega)) (qR_of (by omega) (by omega))]
      omega
    rw [fX12_gathers_L70, if_pos c1, zRng_end (by omega), List.flatMap_nil, gF_nil]
    exact ⟨μ, rfl, hF, fr.refl _ _⟩
  | succ m ih =>
    intro i n μ L hi hn' hI hF hl
    obtain ⟨n, rfl⟩ : ∃ m, n = m + 1 := ⟨n - 1, by omega⟩
    have c1 : ¬ qj ((f : Int) - (i : Int)) < -nI f := by
      rw [qj_nat, qj_neg, qj_lt (qR_of (by omega) (by omega)) (qR_of (by omega) (by omega))]
      omega
    rw [fX12_gathers_L70, if_neg c1, hF.1]
    by_cases hM : most ≤ L.length
    · rw [if_pos (nI_le hM (by have := hF.2.1; omega)), gF_full hM]
      exact ⟨μ, rfl, hF, fr.refl _ _⟩
    · rw [if_neg (nI_ge (by omega) (by omega)), zRng_drop (by omega), List.flatMap_cons, gF_app]
      generalize hc : (f : Int) - (i : Int) = c at *
      have q1 := mul_bd (m := 24) (n := 24) ha ha
      have q2 := mul_bd (m := 24) (n := 24) hb hb
      have q3 := mul_bd (m := 24) (n := 24) (a := c) (b := c) (by omega) (by omega)
      have p1 := sq_nn a
      have p2 := sq_nn b
      have p3 := sq_nn c
      have el : (4 : Int32) * nI nn - qj a * qj a - qj b * qj b - qj c * qj c = qj (4 * (nn : Int) - a * a - b * b - c * c) := by
        rw [qj_nat]
        show qj 4 * qj _ - _ - _ - _ = _
        rw [qj_mul, qj_mul, qj_mul, qj_mul, qj_sub, qj_sub, qj_sub]
      rw [el]
      generalize hl' : 4 * (nn : Int) - a * a - b * b - c * c = l at *
      obtain ⟨ρ, r1, r2, r3⟩ := m_bodyh s hd (nI f) K28 K49 (fX12_gathers_L70 (nI nn) s (bI hd) (nI tg) (nI most) K28 K49 n) hI hF (by omega) hm hn hn0 l hl'.symm
      have body : (if 0 ≤ qj l then (if qj l < 0 ∨ ml 0 ≤ (qj l).toNatClampNeg then none else fX12_gathers_J126 (nI nn) s (bI hd) (nI tg) (nI most) K28 K49 (fX12_gathers_L70 (nI nn) s (bI hd) (nI tg) (nI most) K28 K49 n) (nI f) (qj a) (qj b) (qj c) (μ 0 (qj l).toNatClampNeg) μ) else fX12_gathers_J126 (nI nn) s (bI hd) (nI tg) (nI most) K28 K49 (fX12_gathers_L70 (nI nn) s (bI hd) (nI tg) (nI most) K28 K49 n) (nI f) (qj a) (qj b) (qj c) (-1) μ) = fX12_gathers_J126 (nI nn) s (bI hd) (nI tg) (nI most) K28 K49 (fX12_gathers_L70 (nI nn) s (bI hd) (nI tg) (nI most) K28 K49 n) (nI f) (qj a) (qj b) (qj c) (qj (if l < 0 then -1 else zRt l.toNat)) μ := by
        by_cases hl0 : l < 0
        · have c2 : ¬ 0 ≤ qj l := by rw [← qj_0, qj_le (qR_of (by decide) (by decide)) (qR_of (by omega) (by omega))]; omega
          rw [if_neg c2, if_pos hl0]
          rfl
        · have c2 : 0 ≤ qj l := by rw [← qj_0, qj_le (qR_of (by decide) (by decide)) (qR_of (by omega) (by omega))]; omega
          have en : qj l = nI l.toNat := by rw [qj_nat]; congr 1; omega
          have m0 : ml 0 = 601 := rfl
          rw [if_pos c2, if_neg hl0, en, m0, if_neg (nI_in (show l.toNat < 601 by omega) (by decide)), nI_clamp (by omega), hI.2.2 _ (by omega)]
      rw [body, r1]
      have ec : qj c + -1 = qj ((f : Int) - ((i + 1 : Nat) : Int)) := by
        show qj _ + qj (-1) = _
        rw [qj_add]
        congr 1
        omega
      rw [ec]
      obtain ⟨τ, u1, u2, u3⟩ := ih (i + 1) n ρ _ (by omega) (by omega) (gIh_fr hI r3) r2 (gF_len _ hl)
      exact ⟨τ, u1, u2, r3.trans u3⟩
theorem m_loopBh {t0 t1 : ZQ} (s : Int32) (hd : Bool) {tg most nn f : Nat} {a : Int} (K28 : Int32 → Int32 → QMem → Option QMem) (hm : most ≤ 600) (hn : nn ≤ 150) (hn0 : 0 < nn) (hf : f ≤ 24) (ha : -24 ≤ a ∧ a ≤ 24) : ∀ (m i n : Nat) (μ : QMem) (L : List ZQ), i + m = 2 * f + 1 → m < n → gIh hd μ tg t0 t1 → mFd μ L → L.length ≤ most →
    ∃ τ, fX12_gathers_L49 (nI nn) s (bI hd) (nI tg) (nI most) K28 n (nI f) (qj a) (qj ((f : Int) - (i : Int))) μ = K28 (nI f) (qj a + -1) τ ∧ mFd τ (gF (gP s hd tg t0 t1) most L (((zRng f).drop i).flatMap fun b => (zRng f).flatMap fun c => zLast a b c (4 * (nn : Int) - a * a - b * b - c * c))) ∧ fr gaP μ τ := by
  intro m
  induction m with
  | zero =>
    intro i n μ L hi hn' hI hF hl
    obtain ⟨n, rfl⟩ : ∃ m, n = m + 1 := ⟨n - 1, by omega⟩
    have c1 : qj ((f : Int) - (i : Int)) < -nI f := by
      rw [qj_nat, qj_neg, qj_lt (qR_of (by omega) (by omega)) (qR_of (by omega) (by omega))]
      omega
    rw [fX12_gathers_L49, if_pos c1, zRng_end (by omega), List.flatMap_nil, gF_nil]
    exact ⟨μ, rfl, hF, fr.refl _ _⟩
  | succ m ih =>
    intro i n μ L hi hn' hI hF hl
    obtain ⟨n, rfl⟩ : ∃ m, n = m + 1 := ⟨n - 1, by omega⟩
    have c1 : ¬ qj ((f : Int) - (i : Int)) < -nI f := by
      rw [qj_nat, qj_neg, qj_lt (qR_of (by omega) (by omega)) (qR_of (by omega) (by omega))]
      omega
    rw [fX12_gathers_L49, if_neg c1, hF.1]
    by_cases hM : most ≤ L.length
    · rw [if_pos (nI_le hM (by have := hF.2.1; omega)), gF_full hM]
      exact ⟨μ, rfl, hF, fr.refl _ _⟩
    · rw [if_neg (nI_ge (by omega) (by omega)), zRng_drop (by omega), List.flatMap_cons, gF_app]
      obtain ⟨ρ, r1, r2, r3⟩ := m_loopCh s hd (f := f) (a := a) (b := (f : Int) - (i : Int)) K28 (fX12_gathers_L49 (nI nn) s (bI hd) (nI tg) (nI most) K28 n) hm hn hn0 hf ha (by omega) (2 * f + 1) 0 FU μ L (by omega) (by unfold FU; omega) hI hF hl
      have e0 : qj ((f : Int) - ((0 : Nat) : Int)) = nI f := by rw [qj_nat]; congr 1
      have ec : qj ((f : Int) - (i : Int)) + -1 = qj ((f : Int) - ((i + 1 : Nat) : Int)) := by
        show qj _ + qj (-1) = _
        rw [qj_add]
        congr 1
        omega
      rw [e0, ec] at r1
      rw [List.drop_zero] at r2
      rw [r1]
      obtain ⟨τ, u1, u2, u3⟩ := ih (i + 1) n ρ _ (by omega) (by omega) (gIh_fr hI r3) r2 (gF_len _ hl)
      exact ⟨τ, u1, u2, r3.trans u3⟩
theorem m_loopAh {t0 t1 : ZQ} (s : Int32) (hd : Bool) {tg most nn f : Nat} (hm : most ≤ 600) (hn : nn ≤ 150) (hn0 : 0 < nn) (hf : f ≤ 24) : ∀ (m i n : Nat) (μ : QMem) (L : List ZQ), i + m = 2 * f + 1 → m < n → gIh hd μ tg t0 t1 → mFd μ L → L.length ≤ most →
    ∃ τ, fX12_gathers_L28 (nI nn) s (bI hd) (nI tg) (nI most) n (nI f) (qj ((f : Int) - (i : Int))) μ = some τ ∧ mFd τ (gF (gP s hd tg t0 t1) most L (((zRng f).drop i).flatMap fun a => (zRng f).flatMap fun b => (zRng f).flatMap fun c => zLast a b c (4 * (nn : Int) - a * a - b * b - c * c))) ∧ fr gaP μ τ := by
  intro m
  induction m with
  | zero =>
    intro i n μ L hi hn' hI hF hl
    obtain ⟨n, rfl⟩ : ∃ m, n = m + 1 := ⟨n - 1, by omega⟩
    have c1 : qj ((f : Int) - (i : Int)) < -nI f := by
      rw [qj_nat, qj_neg, qj_lt (qR_of (by omega) (by omega)) (qR_of (by omega) (by omega))]
      omega
    rw [fX12_gathers_L28, if_pos c1, zRng_end (by omega), List.flatMap_nil, gF_nil]
    exact ⟨μ, rfl, hF, fr.refl _ _⟩
  | succ m ih =>
    intro i n μ L hi hn' hI hF hl
    obtain ⟨n, rfl⟩ : ∃ m, n = m + 1 := ⟨n - 1, by omega⟩
    have c1 : ¬ qj ((f : Int) - (i : Int)) < -nI f := by
      rw [qj_nat, qj_neg, qj_lt (qR_of (by omega) (by omega)) (qR_of (by omega) (by omega))]
      omega
    rw [fX12_gathers_L28, if_neg c1, hF.1]
    by_cases hM : most ≤ L.length
    · rw [if_pos (nI_le hM (by have := hF.2.1; omega)), gF_full hM]
      exact ⟨μ, rfl, hF, fr.refl _ _⟩
    · rw [if_neg (nI_ge (by omega) (by omega)), zRng_drop (by omega), List.flatMap_cons, gF_app]
      obtain ⟨ρ, r1, r2, r3⟩ := m_loopBh s hd (f := f) (a := (f : Int) - (i : Int)) (fX12_gathers_L28 (nI nn) s (bI hd) (nI tg) (nI most) n) hm hn hn0 hf (by omega) (2 * f + 1) 0 FU μ L (by omega) (by unfold FU; omega) hI hF hl
      have e0 : qj ((f : Int) - ((0 : Nat) : Int)) = nI f := by rw [qj_nat]; congr 1
      have ec : qj ((f : Int) - (i : Int)) + -1 = qj ((f : Int) - ((i + 1 : Nat) : Int)) := by
        show qj _ + qj (-1) = _
        rw [qj_add]
        congr 1
        omega
      rw [e0, ec] at r1
      rw [List.drop_zero] at r2
      rw [r1]
      obtain ⟨τ, u1, u2, u3⟩ := ih (i + 1) n ρ _ (by omega) (by omega) (gIh_fr hI r3) r2 (gF_len _ hl)
      exact ⟨τ, u1, u2, r3.trans u3⟩
theorem m_gathersh {t0 t1 : ZQ} (s : Int32) (hd : Bool) {tg most nn : Nat} (hm : most ≤ 600) (hn : nn ≤ 150) (hn0 : 0 < nn) {μ : QMem} {L : List ZQ} (hI : gIh hd μ tg t0 t1) (hF : mFd μ L) (hl : L.length ≤ most) :
    ∃ τ, fX12_gathers (nI nn) s (bI hd) (nI tg) (nI most) μ = some τ ∧ mFd τ (L ++ (zF (gP s hd tg t0 t1) (zAll nn)).take (most - L.length)) ∧ fr gaP μ τ := by
  have hb := zSq_le (n := 4 * nn) (by omega)
  unfold fX12_gathers
  rw [show (0 : Int32) = nI 0 from rfl, m_far hn (zSq (4 * nn)) 0 FU μ (by omega) (by unfold FU; omega)]
  obtain ⟨ρ, r1, r2, r3⟩ := m_loopAh s hd hm hn hn0 hb (2 * zSq (4 * nn) + 1) 0 FU μ L (by omega) (by unfold FU; omega) hI hF hl
  have e0 : qj ((zSq (4 * nn) : Int) - ((0 : Nat) : Int)) = nI (zSq (4 * nn)) := by rw [qj_nat]; congr 1
  rw [e0] at r1
  rw [List.drop_zero] at r2
  refine ⟨ρ, r1, ?_, r3⟩
  rw [← gF_eq _ _ _ _ hl]
  exact r2
