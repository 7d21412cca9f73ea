/-! THE REFERENCE'S WAY THROUGH ALL OF A NORM -/
theorem i32_lit2 (n : Nat) : (OfNat.ofNat n : Int32) = nI (OfNat.ofNat n) := id rfl
def gP (s : Int32) (hd : Bool) (tg : Nat) (t0 t1 q : ZQ) : Prop := (1 ≤ tg → zD s q t0) ∧ (2 ≤ tg → zD s q t1) ∧ (hd = true → zHd s q)
/-- those found, in their order -/
def mFd (μ : QMem) (L : List ZQ) : Prop := μ 28 6 = nI L.length ∧ L.length ≤ 600 ∧ rwF (μ 5) L
noncomputable def gSt (P : ZQ → Prop) (most : Nat) (L : List ZQ) (q : ZQ) : List ZQ := @ite _ (L.length < most ∧ P q) (Classical.propDecidable _) (L ++ [q]) L
theorem gSt_yes {P : ZQ → Prop} {most : Nat} {L : List ZQ} {q : ZQ} (h : L.length < most) (h2 : P q) : gSt P most L q = L ++ [q] := by unfold gSt; rw [if_pos ⟨h, h2⟩]
theorem gSt_no {P : ZQ → Prop} {most : Nat} {L : List ZQ} {q : ZQ} (h2 : ¬ (L.length < most ∧ P q)) : gSt P most L q = L := by unfold gSt; rw [if_neg h2]
noncomputable def gF (P : ZQ → Prop) (most : Nat) (L l : List ZQ) : List ZQ := l.foldl (gSt P most) L
theorem gF_full {P : ZQ → Prop} {most : Nat} {L : List ZQ} (h : most ≤ L.length) (l : List ZQ) : gF P most L l = L := by
  unfold gF
  induction l with
  | nil => rfl
  | cons x l ih => rw [List.foldl_cons, gSt_no (by omega), ih]
theorem gF_app (P : ZQ → Prop) (most : Nat) (L l1 l2 : List ZQ) : gF P most L (l1 ++ l2) = gF P most (gF P most L l1) l2 := by unfold gF; rw [List.foldl_append]
theorem gSt_len {P : ZQ → Prop} {most : Nat} {L : List ZQ} {q : ZQ} (h : L.length ≤ most) : (gSt P most L q).length ≤ most := by
  by_cases c : L.length < most ∧ P q
  · rw [gSt_yes c.1 c.2, List.length_append, List.length_singleton]; omega
  · rw [gSt_no c]; exact h
theorem gF_len {P : ZQ → Prop} {most : Nat} (l : List ZQ) : ∀ {L : List ZQ}, L.length ≤ most → (gF P most L l).length ≤ most := by
  unfold gF
  induction l with
  | nil => intro L h; exact h
  | cons x l ih => intro L h; rw [List.foldl_cons]; exact ih (gSt_len h)
/-- what is found: those as told, the first ones, behind what was there -/
theorem gF_eq (P : ZQ → Prop) (most : Nat) (l : List ZQ) : ∀ L : List ZQ, L.length ≤ most → gF P most L l = L ++ (zF P l).take (most - L.length) := by
  unfold gF
  induction l with
  | nil => intro L _; simp [zF]
  | cons x l ih =>
    intro L h
    rw [List.foldl_cons, ih _ (gSt_len h)]
    by_cases hp : P x
    · have e : zF P (x :: l) = x :: zF P l := by unfold zF; rw [List.filter_cons, if_pos (by simpa using hp)]
      by_cases hl : L.length < most
      · rw [gSt_yes hl hp, e, List.length_append, List.length_singleton, List.append_assoc]
        congr 1
        have : most - L.length = (most - (L.length + 1)) + 1 := by omega
        rw [this, List.take_succ_cons]
        rfl
      · rw [gSt_no (by omega)]
        have : most - L.length = 0 := by omega
        rw [this, List.take_zero, List.take_zero]
    · have e : zF P (x :: l) = zF P l := by unfold zF; rw [List.filter_cons, if_neg (by simpa using hp)]
      rw [gSt_no (fun q => hp q.2), e]
def gtP (c : Nat) : Prop := 2 ≤ c ∧ c ≤ 5
def gaP (c : Nat) : Prop := 2 ≤ c ∧ c ≤ 6
/-- what the tries look at -/
def mTg (μ : QMem) (tg : Nat) (t0 t1 : ZQ) : Prop := tg ≤ 2 ∧ (1 ≤ tg → mAt μ 7 0 t0 ∧ qV t0) ∧ (2 ≤ tg → mAt μ 7 4 t1 ∧ qV t1)
theorem mTg_fr {P : Nat → Prop} {μ ν : QMem} {tg : Nat} {t0 t1 : ZQ} (h : mTg μ tg t0 t1) (hs : fr P μ ν) (h7 : ¬ P 7) : mTg ν tg t0 t1 :=
  ⟨h.1, fun k => ⟨hs.at h7 (by decide) (h.2.1 k).1, (h.2.1 k).2⟩, fun k => ⟨hs.at h7 (by decide) (h.2.2 k).1, (h.2.2 k).2⟩⟩
theorem mUn_fr {P : Nat → Prop} {μ ν : QMem} (h : mUn μ) (hs : fr P μ ν) (h1 : ¬ P 1) : mUn ν := by unfold mUn; rw [hs.1 1 h1 (by decide)]; exact h
theorem mFd_fq {P : Nat → Prop} {μ ν : QMem} {L : List ZQ} (h : mFd μ L) (hs : fq P μ ν) (h5 : ¬ P 5) (h28 : ¬ P 28) : mFd ν L := by unfold mFd; rw [hs 5 h5, hs 28 h28]; exact h
theorem m_add {μ : QMem} {L : List ZQ} {q : ZQ} (p1 p2 p3 : Int32) (hF : mFd μ L) (hl : L.length < 600) (hq : mAt μ 6 0 q) : ∃ τ, fX12_tries_J87 p1 p2 p3 μ = some τ ∧ mFd τ (L ++ [q]) ∧ fr gtP μ τ := by
  obtain ⟨h1, h2, h3⟩ := hF
  unfold fX12_tries_J87
  rw [h1, show (4 : Int32) = nI 4 from rfl, nI_mulM, show (0 : Int32) = nI 0 from rfl, m_copies hq (by decide) (show 4 * L.length + 3 < ml 5 by have : ml 5 = 2400 := rfl; omega) (Or.inl (by decide)), Option.bind_some]
  have e28 : mPut μ 5 (4 * L.length) q 28 6 = nI L.length := by rw [mPut_cell _ _ _ (by decide)]; exact h1
  rw [e28]
  refine ⟨_, rfl, ⟨?_, ?_, ?_⟩, ?_, ?_⟩
  · rw [ms_same, List.length_append, List.length_singleton]
    exact nI_add _ 1
  · rw [List.length_append, List.length_singleton]; omega
  · rw [ms_cell _ (by decide)]
    obtain ⟨p1, p2, p3, p4⟩ := mPut_at μ 5 (4 * L.length) q
    exact rwF_app h3 (fun j hj => mPut_place _ _ _ (by omega)) p1 p2 p3 p4
  · intro k a b
    unfold gtP at a
    rw [ms_cell _ b, mPut_cell _ _ _ (by omega)]
  · intro j hj
    rw [ms_place _ _ hj, mPut_cell _ _ _ (by decide)]
theorem m_tries {μ : QMem} {L : List ZQ} {q t0 t1 : ZQ} (s : Int32) (hd : Bool) {tg : Nat} (hU : mUn μ) (hT : mTg μ tg t0 t1) (hF : mFd μ L) (hl : L.length < 600) (hq : mAt μ 6 0 q) (vq : qV q) (h0 : q ≠ z0) :
    ∃ τ, fX12_tries s (bI hd) (nI tg) μ = some τ ∧ mFd τ (gSt (gP s hd tg t0 t1) 600 L q) ∧ fr gtP μ τ := by
  have n28 : ∀ P : Nat → Prop, (∀ c, P c → c ≤ 5) → ¬ P 28 := fun P h q => by have := h 28 q; omega
  -- heads
  have st63 : ∀ (ρ : QMem), mUn ρ → mFd ρ L → mAt ρ 6 0 q → fr gtP μ ρ → (1 ≤ tg → zD s q t0) → (2 ≤ tg → zD s q t1) → ∃ τ, fX12_tries_J63 s (bI hd) (nI tg) 1 ρ = some τ ∧ mFd τ (gSt (gP s hd tg t0 t1) 600 L q) ∧ fr gtP μ τ := by
    intro ρ r1 r2 r3 r4 k1 k2
    unfold fX12_tries_J63
    rw [if_neg (by decide)]
    simp only [bI_0]
    cases hd
    · rw [if_pos rfl]
      obtain ⟨τ, t1, t2, t3⟩ := m_add s (bI false) (nI tg) r2 hl r3
      exact ⟨τ, t1, by rw [gSt_yes hl ⟨k1, k2, fun z => absurd z (by decide)⟩]; exact t2, r4.trans t3⟩
    · rw [if_neg (by decide)]
      obtain ⟨ρ2, u1, u2⟩ := m_isHead s r1 r3 (by decide) (by decide) vq.1 (qV_S vq)
      rw [show (0 : Int32) = nI 0 from rfl, u1, Option.bind_some]
      simp only [bI_n0]
      have f2 : fr gtP μ ρ2 := r4.trans ((u2.weaken (fun c h => by unfold gtP; omega)).fr (by unfold gtP; decide))
      cases hh : zHb s q
      · rw [if_pos rfl, gSt_no (fun z => by
          have := (zHb_iff s q).mpr (z.2.2.2 rfl)
          rw [hh] at this
          exact absurd this (by decide))]
        exact ⟨ρ2, rfl, mFd_fq r2 u2 (by decide) (by decide), f2⟩
      · rw [if_neg (by decide)]
        obtain ⟨τ, t1, t2, t3⟩ := m_add s (bI true) (nI tg) (mFd_fq r2 u2 (by decide) (by decide)) hl (u2.at (by decide) r3)
        exact ⟨τ, t1, by rw [gSt_yes hl ⟨k1, k2, fun _ => (zHb_iff s q).mp hh⟩]; exact t2, f2.trans t3⟩
  have no63 : ∀ (ρ : QMem), mFd ρ L → fr gtP μ ρ → ¬ gP s hd tg t0 t1 q → ∃ τ, fX12_tries_J62 s (bI hd) (nI tg) ρ = some τ ∧ mFd τ (gSt (gP s hd tg t0 t1) 600 L q) ∧ fr gtP μ τ := by
    intro ρ r1 r2 k
    unfold fX12_tries_J62 fX12_tries_J63
    rw [if_pos rfl, gSt_no (fun z => k z.2)]
    exact ⟨ρ, rfl, r1, r2⟩
  have st28 : ∀ (ρ : QMem), mUn ρ → mTg ρ tg t0 t1 → mFd ρ L → mAt ρ 6 0 q → fr gtP μ ρ → (1 ≤ tg → zD s q t0) → ∃ τ, fX12_tries_J28 s (bI hd) (nI tg) 1 ρ = some τ ∧ mFd τ (gSt (gP s hd tg t0 t1) 600 L q) ∧ fr gtP μ τ := by
    intro ρ r1 rT r2 r3 r4 k1
    unfold fX12_tries_J28
    rw [if_neg (by decide), show (2 : Int32) = nI 2 from rfl]
    by_cases ht : tg < 2
    · rw [if_pos (nI_lt ht (by decide))]
      exact st63 ρ r1 r2 r3 r4 k1 (fun z => by omega)
    · rw [if_neg (nI_nlt (by omega) (by have := hT.1; omega))]
      obtain ⟨g1, g2⟩ := rT.2.2 (by omega)
      obtain ⟨ρ2, u1, -, u3⟩ := m_isDiv s r3 g1 (by decide) (by decide) (by decide) (by decide) vq g2 h0
      rw [show (0 : Int32) = nI 0 from rfl, show (4 : Int32) = nI 4 from rfl, u1, Option.bind_some]
      simp only [bI_n0]
      have f2 : fr gtP μ ρ2 := r4.trans ((u3.weaken (fun c h => by unfold gtP; omega)).fr (by unfold gtP; decide))
      cases hh : zDb s q t1
      · rw [if_pos rfl]
        exact no63 ρ2 (mFd_fq r2 u3 (by decide) (by decide)) f2 (fun z => by
          have := zDb_iff.mpr (z.2.1 (by omega))
          rw [hh] at this
          exact absurd this (by decide))
      · rw [if_neg (by decide)]
        exact st63 ρ2 (mUn_fq r1 u3 (by decide)) (mFd_fq r2 u3 (by decide) (by decide)) (u3.at (by decide) r3) f2 k1 (fun _ => zDb_iff.mp hh)
  unfold fX12_tries
  rw [show (1 : Int32) = nI 1 from rfl]
  by_cases ht : tg < 1
  · rw [if_pos (nI_lt ht (by decide))]
    exact st28 μ hU hT hF hq (fr.refl _ _) (fun z => by omega)
  · rw [if_neg (nI_nlt (by omega) (by have := hT.1; omega))]
    obtain ⟨g1, g2⟩ := hT.2.1 (by omega)
    obtain ⟨ρ2, u1, -, u3⟩ := m_isDiv s hq g1 (by decide) (by decide) (by decide) (by decide) vq g2 h0
    rw [show (0 : Int32) = nI 0 from rfl, u1, Option.bind_some]
    simp only [bI_n0]
    have f2 : fr gtP μ ρ2 := (u3.weaken (fun c h => by unfold gtP; omega)).fr (by unfold gtP; decide)
    cases hh : zDb s q t0
    · rw [if_pos rfl]
      unfold fX12_tries_J28
      rw [if_pos (show nI 0 = 0 from rfl)]
      exact no63 ρ2 (mFd_fq hF u3 (by decide) (by decide)) f2 (fun z => by
        have := zDb_iff.mpr (z.1 (by omega))
        rw [hh] at this
        exact absurd this (by decide))
    · rw [if_neg (by decide)]
      unfold fX12_tries_J23
      exact st28 ρ2 (mUn_fq hU u3 (by decide)) (mTg_fr hT f2 (by unfold gtP; decide)) (mFd_fq hF u3 (by decide) (by decide)) (u3.at (by decide) hq) f2 (fun _ => zDb_iff.mp hh)
theorem m_last {μ : QMem} {L : List ZQ} {t0 t1 : ZQ} (s : Int32) (hd : Bool) {tg : Nat} {a b c d : Int} (hU : mUn μ) (hT : mTg μ tg t0 t1) (hF : mFd μ L) (hl : L.length < 600) (ha : μ 6 0 = qj a) (hb : μ 6 1 = qj b) (hc : μ 6 2 = qj c) (hn : zN4 (a, b, c, d) ≤ 600) (h0 : (a, b, c, d) ≠ z0) :
    ∃ τ, fX12_triesLast (qj d) s (bI hd) (nI tg) μ = some τ ∧ mFd τ (if (a - b) % 2 = 0 ∧ (a - c) % 2 = 0 ∧ (a - d) % 2 = 0 then gSt (gP s hd tg t0 t1) 600 L (a, b, c, d) else L) ∧ fr gaP μ τ ∧ τ 6 0 = qj a ∧ τ 6 1 = qj b ∧ τ 6 2 = qj c := by
  obtain ⟨⟨a1, a2⟩, ⟨b1, b2⟩, ⟨c1, c2⟩, d1, d2⟩ := qV_24 hn
  simp only at a1 a2 b1 b2 c1 c2 d1 d2
  have m6 : ml 6 = 4 := rfl
  unfold fX12_triesLast
  simp (disch := omega) only [Option.bind_some, i32_lit, nI_add, nI_mulM, cI, nI_ltT, nI_ltF, nI_leT, nI_leF, nI_eqF, nat_leF, or_self, or_false, false_or, if_true, if_false, not_true, not_false, bI_n0, m6]
  rw [ms_place _ _ (by decide), ms_place _ _ (by decide), ms_place _ _ (by decide), ha, hb, hc, m_like (by omega) (by omega) (by omega) (by omega), Option.bind_some]
  generalize hρ : ms μ 6 3 (qj d) = ρ
  have r6 : mAt ρ 6 0 (a, b, c, d) := by
    rw [← hρ]
    exact ⟨by rw [ms_place _ _ (by decide)]; exact ha, by rw [ms_place _ _ (by decide)]; exact hb, by rw [ms_place _ _ (by decide)]; exact hc, ms_same _ _ _ _⟩
  have rf : fr gaP μ ρ := by
    rw [← hρ]
    refine ⟨fun k hk _ => ms_cell _ (fun e => hk (by unfold gaP; omega)) _ _, fun j _ => by rw [ms_cell _ (by decide)]⟩
  have rF : mFd ρ L := by
    rw [← hρ]
    unfold mFd
    rw [ms_cell _ (by decide), ms_cell _ (by decide)]
    exact hF
  unfold zLb
  by_cases hk : (a - b) % 2 = 0 ∧ (a - c) % 2 = 0 ∧ (a - d) % 2 = 0
  · rw [decide_eq_true hk, if_pos hk]
    have e1 : (if bI true = nI 0 then some ρ else ((fX12_tries s (bI hd) (nI tg) ρ).bind fun xq8 => some xq8)) = (fX12_tries s (bI hd) (nI tg) ρ).bind fun xq8 => some xq8 := if_neg (by decide)
    obtain ⟨τ, t1, t2, t3⟩ := m_tries s hd (mUn_fr hU rf (by unfold gaP; decide)) (mTg_fr hT rf (by unfold gaP; decide)) rF hl r6 ⟨hk, hn⟩ h0
    have e2 : ((fX12_tries s (bI hd) (nI tg) ρ).bind fun xq8 => some xq8) = some τ := by rw [t1]; rfl
    have t6 := t3.at (by unfold gtP; decide) (by decide) r6
    exact ⟨τ, e1.trans e2, t2, rf.trans (t3.weaken (fun c h => by unfold gtP at h; unfold gaP; omega)), t6.1, t6.2.1, t6.2.2.1⟩
  · rw [decide_eq_false hk, if_neg hk]
    exact ⟨ρ, if_pos rfl, rF, rf, r6.1, r6.2.1, r6.2.2.1⟩

/-! the loops: the last number, then c, b, a -/
def mRt (μ : QMem) : Prop := ∀ j, j < 601 → μ 0 j = qj (zRt j)
theorem mRt_fr {P : Nat → Prop} {μ ν : QMem} (h : mRt μ) (hs : fr P μ ν) (h1 : ¬ P 0) : mRt ν := by unfold mRt; rw [hs.1 0 h1 (by decide)]; exact h
/-- all that the loops need -/
def gI0 (μ : QMem) (tg : Nat) (t0 t1 : ZQ) : Prop := mUn μ ∧ mTg μ tg t0 t1 ∧ mRt μ
theorem gI0_fr {μ ν : QMem} {tg : Nat} {t0 t1 : ZQ} (h : gI0 μ tg t0 t1) (hs : fr gaP μ ν) : gI0 ν tg t0 t1 := ⟨mUn_fr h.1 hs (by unfold gaP; decide), mTg_fr h.2.1 hs (by unfold gaP; decide), mRt_fr h.2.2 hs (by unfold gaP; decide)⟩
theorem zRt_bd {n : Nat} (h : n < 601) : -1 ≤ zRt n ∧ zRt n ≤ 24 := by
  unfold zRt
  have := zSq_le h
  split <;> omega
theorem gF_nil (P : ZQ → Prop) (most : Nat) (L : List ZQ) : gF P most L [] = L := rfl
theorem gF_one (P : ZQ → Prop) (most : Nat) (L : List ZQ) (q : ZQ) : gF P most L [q] = gSt P most L q := rfl
theorem gSt_600 {P : ZQ → Prop} {most : Nat} {L : List ZQ} {q : ZQ} (h : L.length < most) (h2 : most ≤ 600) : gSt P 600 L q = gSt P most L q := by
  by_cases c : P q
  · rw [gSt_yes (by omega) c, gSt_yes h c]
  · rw [gSt_no (fun z => c z.2), gSt_no (fun z => c z.2)]
theorem m_body {L : List ZQ} {t0 t1 : ZQ} (s : Int32) (hd : Bool) {tg most nn : Nat} {a b c : Int} (v6 : Int32) (K28 : Int32 → Int32 → QMem → Option QMem) (K49 : Int32 → Int32 → Int32 → QMem → Option QMem) (K70 : Int32 → Int32 → Int32 → Int32 → QMem → Option QMem) {μ : QMem} (hI : gI0 μ tg t0 t1) (hF : mFd μ L) (hl : L.length < most) (hm : most ≤ 600) (hn : nn ≤ 150) (hn0 : 0 < nn) (l : Int) (hL : l = 4 * (nn : Int) - a * a - b * b - c * c) :
    ∃ τ, fX12_gathers_J126 (nI nn) s (bI hd) (nI tg) (nI most) K28 K49 K70 v6 (qj a) (qj b) (qj c) (qj (if l < 0 then -1 else zRt l.toNat)) μ = K70 v6 (qj a) (qj b) (qj c + -1) τ ∧ mFd τ (gF (gP s hd tg t0 t1) most L (zLast a b c l)) ∧ fr gaP μ τ := by
  have m6 : ml 6 = 4 := rfl
  have s1 := sq_nn a
  have s2 := sq_nn b
  have s3 := sq_nn c
  have dd : (if l < 0 then -1 else zRt l.toNat) = -1 ∨ (0 ≤ (if l < 0 then -1 else zRt l.toNat) ∧ (if l < 0 then -1 else zRt l.toNat) ≤ 24 ∧ (if l < 0 then -1 else zRt l.toNat) * (if l < 0 then -1 else zRt l.toNat) = l) := by
    by_cases h : l < 0
    · rw [if_pos h]; exact Or.inl rfl
    · rw [if_neg h]
      have := zRt_bd (n := l.toNat) (by omega)
      by_cases h2 : zRt l.toNat < 0
      · exact Or.inl (by omega)
      · have := zRt_nn (n := l.toNat) (by omega)
        exact Or.inr ⟨by omega, by omega, by omega⟩
  unfold zLast
  generalize (if l < 0 then -1 else zRt l.toNat) = d at dd
  simp only
  unfold fX12_gathers_J126
  simp (disch := omega) only [Option.bind_some, i32_lit2, nI_add, nI_mulM, cI, nI_ltT, nI_ltF, nI_leT, nI_leF, nI_eqF, nat_leF, or_self, or_false, false_or, if_true, if_false, not_true, not_false, bI_n0, bI_n1, b_em, eq_self, m6]
  generalize hρ : ms (ms (ms μ 6 0 (qj a)) 6 1 (qj b)) 6 2 (qj c) = ρ
  have r0 : ρ 6 0 = qj a := by rw [← hρ, ms_place _ _ (by decide), ms_place _ _ (by decide), ms_same]
  have r1 : ρ 6 1 = qj b := by rw [← hρ, ms_place _ _ (by decide), ms_same]
  have r2 : ρ 6 2 = qj c := by rw [← hρ, ms_same]
  have rf : fr gaP μ ρ := by
    rw [← hρ]
    refine ⟨fun k hk _ => ?_, fun j _ => by rw [ms_cell _ (by decide), ms_cell _ (by decide), ms_cell _ (by decide)]⟩
    unfold gaP at hk
    rw [ms_cell _ (by omega), ms_cell _ (by omega), ms_cell _ (by omega)]
  have rF : mFd ρ L := by
    rw [← hρ]
    unfold mFd
    rw [ms_cell _ (by decide), ms_cell _ (by decide), ms_cell _ (by decide), ms_cell _ (by decide), ms_cell _ (by decide), ms_cell _ (by decide)]
    exact hF
  have rI := gI0_fr hI rf
  have lq : ∀ e : Int, e * e = l → zN4 (a, b, c, e) ≤ 600 ∧ (a, b, c, e) ≠ z0 := by
    intro e he
    have e4 : zN4 (a, b, c, e) = 4 * (nn : Int) := by unfold zN4; simp only; omega
    refine ⟨by omega, fun z => ?_⟩
    rw [z] at e4
    have : zN4 z0 = 0 := by decide
    omega
  have rd : qR d := by
    rcases dd with h | ⟨h1, h2, -⟩
    · rw [h]; exact qR_of (by decide) (by decide)
    · exact qR_of (by omega) (by omega)
  -- behind the first try
  have second : ∀ (π : QMem) (M : List ZQ), π 6 0 = qj a → π 6 1 = qj b → π 6 2 = qj c → fr gaP μ π → mFd π M → gI0 π tg t0 t1 → M.length ≤ most → (0 ≤ d → d * d = l ∧ d ≤ 24) →
      ∃ τ, fX12_gathers_J167 (nI nn) s (bI hd) (nI tg) (nI most) K28 K49 K70 v6 (qj a) (qj b) (qj c) (qj d) π = K70 v6 (qj a) (qj b) (qj c + -1) τ ∧ mFd τ (gF (gP s hd tg t0 t1) most M (if d > 0 ∧ ((a - b) % 2 = 0 ∧ (a - c) % 2 = 0 ∧ (a - -d) % 2 = 0) then [(a, b, c, -d)] else [])) ∧ fr gaP μ τ := by
    intro π M p0 p1 p2 pf pF pI pl pd
    unfold fX12_gathers_J167 fX12_gathers_J192
    by_cases h0 : 0 < d
    · have c0 : ¬ qj d ≤ 0 := by rw [← qj_0, qj_le rd (qR_of (by decide) (by decide))]; omega
      rw [if_neg c0, pF.1]
      by_cases hM : most ≤ M.length
      · rw [if_pos (nI_le hM (by have := pF.2.1; omega)), gF_full hM]
        exact ⟨π, rfl, pF, pf⟩
      · rw [if_neg (nI_ge (by omega) (by omega)), qj_neg]
        obtain ⟨k1, k2⟩ := lq (-d) (by rw [Int.neg_mul_neg]; exact (pd (by omega)).1)
        obtain ⟨τ, t1', t2, t3, -⟩ := m_last s hd pI.1 pI.2.1 pF (by omega) p0 p1 p2 k1 k2
        rw [t1', Option.bind_some]
        refine ⟨τ, rfl, ?_, pf.trans t3⟩
        by_cases hk : (a - b) % 2 = 0 ∧ (a - c) % 2 = 0 ∧ (a - -d) % 2 = 0
        · rw [if_pos hk] at t2
          rw [if_pos ⟨h0, hk⟩, gF_one, ← gSt_600 (by omega) hm]
          exact t2
        · rw [if_neg hk] at t2
          rw [if_neg (fun z => hk z.2)]
          exact t2
    · have c0 : qj d ≤ 0 := by rw [← qj_0, qj_le rd (qR_of (by decide) (by decide))]; omega
      rw [if_pos c0, if_neg (fun z => h0 z.1), gF_nil]
      exact ⟨π, rfl, pF, pf⟩
  rw [gF_app]
  have clt : (qj d < nI 0) = (d < 0) := propext (by rw [show nI 0 = qj 0 from rfl, qj_lt rd (qR_of (by decide) (by decide))])
  simp only [clt]
  rcases dd with h | ⟨h1, h2, h3⟩
  · rw [if_pos (by omega), if_neg (fun z => by omega), gF_nil]
    exact second ρ L r0 r1 r2 rf rF rI (by omega) (fun z => by omega)
  · obtain ⟨k1, k2⟩ := lq d h3
    obtain ⟨τ, t1', t2, t3, t6, t7, t8⟩ := m_last s hd rI.1 rI.2.1 rF (by omega) r0 r1 r2 k1 k2
    rw [if_neg (by omega), t1', Option.bind_some]
    refine second τ _ t6 t7 t8 (rf.trans t3) ?_ (gI0_fr rI t3) (gF_len _ (by omega)) (fun _ => ⟨h3, h2⟩)
    by_cases hk : (a - b) % 2 = 0 ∧ (a - c) % 2 = 0 ∧ (a - d) % 2 = 0
    · rw [if_pos hk] at t2
      rw [if_pos ⟨h1, hk⟩, gF_one, ← gSt_600 hl hm]
      exact t2
    · rw [if_neg hk] at t2
      rw [if_neg (fun z => hk z.2)]
      exact t2
theorem zRng_drop {f i : Nat} (h : i < 2 * f + 1) : (zRng f).drop i = ((f : Int) - (i : Int)) :: (zRng f).drop (i + 1) := by
  have hlen : (zRng f).length = 2 * f + 1 := by unfold zRng; rw [List.length_map, List.length_range]
  rw [List.drop_eq_getElem_cons (by rw [hlen]; omega)]
  congr 1
  unfold zRng
  rw [List.getElem_map, List.getElem_range]
theorem zRng_end {f i : Nat} (h : 2 * f + 1 ≤ i) : (zRng f).drop i = [] := by
  have hlen : (zRng f).length = 2 * f + 1 := by unfold zRng; rw [List.length_map, List.length_range]
  rw [List.drop_eq_nil_iff, hlen]
  omega
theorem m_loopC {t0 t1 : ZQ} (s : Int32) (hd : Bool) {tg most nn f : Nat} {a b : Int} (K28 : Int32 → Int32 → QMem → Option QMem) (K49 : Int32 → Int32 → Int32 → QMem → Option QMem) (hm : most ≤ 600) (hn : nn ≤ 150) (hn0 : 0 < nn) (hf : f ≤ 24) (ha : -24 ≤ a ∧ a ≤ 24) (hb : -24 ≤ b ∧ b ≤ 24) : ∀ (m i n : Nat) (μ : QMem) (L : List ZQ), i + m = 2 * f + 1 → m < n → gI0 μ tg t0 t1 → mFd μ L → L.length ≤ most →
    ∃ τ, fX12_gathers_L70 (nI nn) s (bI hd) (nI tg) (nI most) K28 K49 n (nI f) (qj a) (qj b) (qj ((f : Int) - (i : Int))) μ = K49 (nI f) (qj a) (qj b + -1) τ ∧ mFd τ (gF (gP s hd tg t0 t1) most L (((zRng f).drop i).flatMap fun c => zLast a b c (4 * (nn : Int) - a * a - b * b - c * c))) ∧ fr gaP μ τ := by
  intro m
  induction m with
  | zero =>
    intro i n μ L hi hn' hI hF hl
    obtain ⟨n, rfl⟩ : ∃ m, n = m + 1 := ⟨n - 1, by omega⟩
    have c1 : qj ((f : Int) - (i : Int)) < -nI f := by
      rw [qj_nat, qj_neg, qj_lt (qR_of (by omega) (by omega)) (qR_of (by omega) (by omega))]
      omega
    rw [fX12_gathers_L70, if_pos c1, zRng_end (by omega), List.flatMap_nil, gF_nil]
    exact ⟨μ, rfl, hF, fr.refl _ _⟩
  | succ m ih =>
    intro i n μ L hi hn' hI hF hl
    obtain ⟨n, rfl⟩ : ∃ m, n = m + 1 := ⟨n - 1, by omega⟩
    have c1 : ¬ qj ((f : Int) - (i : Int)) < -nI f := by
      rw [qj_nat, qj_neg, qj_lt (qR_of (by omega) (by omega)) (qR_of (by omega) (by omega))]
      omega
    rw [fX12_gathers_L70, if_neg c1, hF.1]
    by_cases hM : most ≤ L.length
    · rw [if_pos (nI_le hM (by have := hF.2.1; omega)), gF_full hM]
      exact ⟨μ, rfl, hF, fr.refl _ _⟩
    · rw [if_neg (nI_ge (by omega) (by omega)), zRng_drop (by omega), List.flatMap_cons, gF_app]
      generalize hc : (f : Int) - (i : Int) = c at *
      have q1 := mul_bd (m := 24) (n := 24) ha ha
      have q2 := mul_bd (m := 24) (n := 24) hb hb
      have q3 := mul_bd (m := 24) (n := 24) (a := c) (b := c) (by omega) (by omega)
      have p1 := sq_nn a
      have p2 := sq_nn b
      have p3 := sq_nn c
      have el : (4 : Int32) * nI nn - qj a * qj a - qj b * qj b - qj c * qj c = qj (4 * (nn : Int) - a * a - b * b - c * c) := by
        rw [qj_nat]
        show qj 4 * qj _ - _ - _ - _ = _
        rw [qj_mul, qj_mul, qj_mul, qj_mul, qj_sub, qj_sub, qj_sub]
      rw [el]
      generalize hl' : 4 * (nn : Int) - a * a - b * b - c * c = l at *
      obtain ⟨ρ, r1, r2, r3⟩ := m_body s hd (nI f) K28 K49 (fX12_gathers_L70 (nI nn) s (bI hd) (nI tg) (nI most) K28 K49 n) hI hF (by omega) hm hn hn0 l hl'.symm
      have body : (if 0 ≤ qj l then (if qj l < 0 ∨ ml 0 ≤ (qj l).toNatClampNeg then none else fX12_gathers_J126 (nI nn) s (bI hd) (nI tg) (nI most) K28 K49 (fX12_gathers_L70 (nI nn) s (bI hd) (nI tg) (nI most) K28 K49 n) (nI f) (qj a) (qj b) (qj c) (μ 0 (qj l).toNatClampNeg) μ) else fX12_gathers_J126 (nI nn) s (bI hd) (nI tg) (nI most) K28 K49 (fX12_gathers_L70 (nI nn) s (bI hd) (nI tg) (nI most) K28 K49 n) (nI f) (qj a) (qj b) (qj c) (-1) μ) = fX12_gathers_J126 (nI nn) s (bI hd) (nI tg) (nI most) K28 K49 (fX12_gathers_L70 (nI nn) s (bI hd) (nI tg) (nI most) K28 K49 n) (nI f) (qj a) (qj b) (qj c) (qj (if l < 0 then -1 else zRt l.toNat)) μ := by
        by_cases hl0 : l < 0
        · have c2 : ¬ 0 ≤ qj l := by rw [← qj_0, qj_le (qR_of (by decide) (by decide)) (qR_of (by omega) (by omega))]; omega
          rw [if_neg c2, if_pos hl0]
          rfl
        · have c2 : 0 ≤ qj l := by rw [← qj_0, qj_le (qR_of (by decide) (by decide)) (qR_of (by omega) (by omega))]; omega
          have en : qj l = nI l.toNat := by rw [qj_nat]; congr 1; omega
          have m0 : ml 0 = 601 := rfl
          rw [if_pos c2, if_neg hl0, en, m0, if_neg (nI_in (show l.toNat < 601 by omega) (by decide)), nI_clamp (by omega), hI.2.2 _ (by omega)]
      rw [body, r1]
      have ec : qj c + -1 = qj ((f : Int) - ((i + 1 : Nat) : Int)) := by
        show qj _ + qj (-1) = _
        rw [qj_add]
        congr 1
        omega
      rw [ec]
      obtain ⟨τ, u1, u2, u3⟩ := ih (i + 1) n ρ _ (by omega) (by omega) (gI0_fr hI r3) r2 (gF_len _ hl)
      exact ⟨τ, u1, u2, r3.trans u3⟩
theorem m_loopB {t0 t1 : ZQ} (s : Int32) (hd : Bool) {tg most nn f : Nat} {a : Int} (K28 : Int32 → Int32 → QMem → Option QMem) (hm : most ≤ 600) (hn : nn ≤ 150) (hn0 : 0 < nn) (hf : f ≤ 24) (ha : -24 ≤ a ∧ a ≤ 24) : ∀ (m i n : Nat) (μ : QMem) (L : List ZQ), i + m = 2 * f + 1 → m < n → gI0 μ tg t0 t1 → mFd μ L → L.length ≤ most →
    ∃ τ, fX12_gathers_L49 (nI nn) s (bI hd) (nI tg) (nI most) K28 n (nI f) (qj a) (qj ((f : Int) - (i : Int))) μ = K28 (nI f) (qj a + -1) τ ∧ mFd τ (gF (gP s hd tg t0 t1) most L (((zRng f).drop i).flatMap fun b => (zRng f).flatMap fun c => zLast a b c (4 * (nn : Int) - a * a - b * b - c * c))) ∧ fr gaP μ τ := by
  intro m
  induction m with
  | zero =>
    intro i n μ L hi hn' hI hF hl
    obtain ⟨n, rfl⟩ : ∃ m, n = m + 1 := ⟨n - 1, by omega⟩
    have c1 : qj ((f : Int) - (i : Int)) < -nI f := by
      rw [qj_nat, qj_neg, qj_lt (qR_of (by omega) (by omega)) (qR_of (by omega) (by omega))]
      omega
    rw [fX12_gathers_L49, if_pos c1, zRng_end (by omega), List.flatMap_nil, gF_nil]
    exact ⟨μ, rfl, hF, fr.refl _ _⟩
  | succ m ih =>
    intro i n μ L hi hn' hI hF hl
    obtain ⟨n, rfl⟩ : ∃ m, n = m + 1 := ⟨n - 1, by omega⟩
    have c1 : ¬ qj ((f : Int) - (i : Int)) < -nI f := by
      rw [qj_nat, qj_neg, qj_lt (qR_of (by omega) (by omega)) (qR_of (by omega) (by omega))]
      omega
    rw [fX12_gathers_L49, if_neg c1, hF.1]
    by_cases hM : most ≤ L.length
    · rw [if_pos (nI_le hM (by have := hF.2.1; omega)), gF_full hM]
      exact ⟨μ, rfl, hF, fr.refl _ _⟩
    · rw [if_neg (nI_ge (by omega) (by omega)), zRng_drop (by omega), List.flatMap_cons, gF_app]
      obtain ⟨ρ, r1, r2, r3⟩ := m_loopC s hd (f := f) (a := a) (b := (f : Int) - (i : Int)) K28 (fX12_gathers_L49 (nI nn) s (bI hd) (nI tg) (nI most) K28 n) hm hn hn0 hf ha (by omega) (2 * f + 1) 0 FU μ L (by omega) (by unfold FU; omega) hI hF hl
      have e0 : qj ((f : Int) - ((0 : Nat) : Int)) = nI f := by rw [qj_nat]; congr 1
      have ec : qj ((f : Int) - (i : Int)) + -1 = qj ((f : Int) - ((i + 1 : Nat) : Int)) := by
        show qj _ + qj (-1) = _
        rw [qj_add]
        congr 1
        omega
      rw [e0, ec] at r1
      rw [List.drop_zero] at r2
      rw [r1]
      obtain ⟨τ, u1, u2, u3⟩ := ih (i + 1) n ρ _ (by omega) (by omega) (gI0_fr hI r3) r2 (gF_len _ hl)
      exact ⟨τ, u1, u2, r3.trans u3⟩
theorem m_loopA {t0 t1 : ZQ} (s : Int32) (hd : Bool) {tg most nn f : Nat} (hm : most ≤ 600) (hn : nn ≤ 150) (hn0 : 0 < nn) (hf : f ≤ 24) : ∀ (m i n : Nat) (μ : QMem) (L : List ZQ), i + m = 2 * f + 1 → m < n → gI0 μ tg t0 t1 → mFd μ L → L.length ≤ most →
    ∃ τ, fX12_gathers_L28 (nI nn) s (bI hd) (nI tg) (nI most) n (nI f) (qj ((f : Int) - (i : Int))) μ = some τ ∧ mFd τ (gF (gP s hd tg t0 t1) most L (((zRng f).drop i).flatMap fun a => (zRng f).flatMap fun b => (zRng f).flatMap fun c => zLast a b c (4 * (nn : Int) - a * a - b * b - c * c))) ∧ fr gaP μ τ := by
  intro m
  induction m with
  | zero =>
    intro i n μ L hi hn' hI hF hl
    obtain ⟨n, rfl⟩ : ∃ m, n = m + 1 := ⟨n - 1, by omega⟩
    have c1 : qj ((f : Int) - (i : Int)) < -nI f := by
      rw [qj_nat, qj_neg, qj_lt (qR_of (by omega) (by omega)) (qR_of (by omega) (by omega))]
      omega
    rw [fX12_gathers_L28, if_pos c1, zRng_end (by omega), List.flatMap_nil, gF_nil]
    exact ⟨μ, rfl, hF, fr.refl _ _⟩
  | succ m ih =>
    intro i n μ L hi hn' hI hF hl
    obtain ⟨n, rfl⟩ : ∃ m, n = m + 1 := ⟨n - 1, by omega⟩
    have c1 : ¬ qj ((f : Int) - (i : Int)) < -nI f := by
      rw [qj_nat, qj_neg, qj_lt (qR_of (by omega) (by omega)) (qR_of (by omega) (by omega))]
      omega
    rw [fX12_gathers_L28, if_neg c1, hF.1]
    by_cases hM : most ≤ L.length
    · rw [if_pos (nI_le hM (by have := hF.2.1; omega)), gF_full hM]
      exact ⟨μ, rfl, hF, fr.refl _ _⟩
    · rw [if_neg (nI_ge (by omega) (by omega)), zRng_drop (by omega), List.flatMap_cons, gF_app]
      obtain ⟨ρ, r1, r2, r3⟩ := m_loopB s hd (f := f) (a := (f : Int) - (i : Int)) (fX12_gathers_L28 (nI nn) s (bI hd) (nI tg) (nI most) n) hm hn hn0 hf (by omega) (2 * f + 1) 0 FU μ L (by omega) (by unfold FU; omega) hI hF hl
      have e0 : qj ((f : Int) - ((0 : Nat) : Int)) = nI f := by rw [qj_nat]; congr 1
      have ec : qj ((f : Int) - (i : Int)) + -1 = qj ((f : Int) - ((i + 1 : Nat) : Int)) := by
        show qj _ + qj (-1) = _
        rw [qj_add]
        congr 1
        omega
      rw [e0, ec] at r1
      rw [List.drop_zero] at r2
      rw [r1]
      obtain ⟨τ, u1, u2, u3⟩ := ih (i + 1) n ρ _ (by omega) (by omega) (gI0_fr hI r3) r2 (gF_len _ hl)
      exact ⟨τ, u1, u2, r3.trans u3⟩
theorem m_far {s : Int32} {hd : Bool} {tg most nn : Nat} (hn : nn ≤ 150) : ∀ (m k n : Nat) (μ : QMem), k + m = zSq (4 * nn) → m < n → fX12_gathers_L3 (nI nn) s (bI hd) (nI tg) (nI most) n (nI k) μ = fX12_gathers_L28 (nI nn) s (bI hd) (nI tg) (nI most) FU (nI (zSq (4 * nn))) (nI (zSq (4 * nn))) μ := by
  have hb := zSq_le (n := 4 * nn) (by omega)
  obtain ⟨z1, z2⟩ := zSq_spec (4 * nn)
  intro m
  induction m with
  | zero =>
    intro k n μ hk hn'
    obtain ⟨n, rfl⟩ : ∃ m, n = m + 1 := ⟨n - 1, by omega⟩
    have : k = zSq (4 * nn) := by omega
    subst this
    have b2 : (zSq (4 * nn) + 1) * (zSq (4 * nn) + 1) ≤ 25 * 25 := Nat.mul_self_le_mul_self (by omega)
    rw [fX12_gathers_L3]
    simp (disch := omega) only [Option.bind_some, i32_lit2, nI_add, nI_mulM, cI, nI_ltT, nI_ltF, nI_leT, nI_leF, nI_eqF, nat_leF, or_self, or_false, false_or, if_true, if_false, not_true, not_false, bI_n0, bI_n1, b_em, eq_self]
  | succ m ih =>
    intro k n μ hk hn'
    obtain ⟨n, rfl⟩ : ∃ m, n = m + 1 := ⟨n - 1, by omega⟩
    have b2 : (k + 1) * (k + 1) ≤ zSq (4 * nn) * zSq (4 * nn) := Nat.mul_self_le_mul_self (by omega)
    rw [fX12_gathers_L3]
    simp (disch := omega) only [Option.bind_some, i32_lit2, nI_add, nI_mulM, cI, nI_ltT, nI_ltF, nI_leT, nI_leF, nI_eqF, nat_leF, or_self, or_false, false_or, if_true, if_false, not_true, not_false, bI_n0, bI_n1, b_em, eq_self]
    exact ih (k + 1) n μ (by omega) (by omega)
/-- all of the norm n that are as told come behind those found, up to so many of all -/
theorem m_gathers {t0 t1 : ZQ} (s : Int32) (hd : Bool) {tg most nn : Nat} (hm : most ≤ 600) (hn : nn ≤ 150) (hn0 : 0 < nn) {μ : QMem} {L : List ZQ} (hI : gI0 μ tg t0 t1) (hF : mFd μ L) (hl : L.length ≤ most) :
    ∃ τ, fX12_gathers (nI nn) s (bI hd) (nI tg) (nI most) μ = some τ ∧ mFd τ (L ++ (zF (gP s hd tg t0 t1) (zAll nn)).take (most - L.length)) ∧ fr gaP μ τ := by
  have hb := zSq_le (n := 4 * nn) (by omega)
  unfold fX12_gathers
  rw [show (0 : Int32) = nI 0 from rfl, m_far hn (zSq (4 * nn)) 0 FU μ (by omega) (by unfold FU; omega)]
  obtain ⟨ρ, r1, r2, r3⟩ := m_loopA s hd hm hn hn0 hb (2 * zSq (4 * nn) + 1) 0 FU μ L (by omega) (by unfold FU; omega) hI hF hl
  have e0 : qj ((zSq (4 * nn) : Int) - ((0 : Nat) : Int)) = nI (zSq (4 * nn)) := by rw [qj_nat]; congr 1
  rw [e0] at r1
  rw [List.drop_zero] at r2
  refine ⟨ρ, r1, ?_, r3⟩
  rw [← gF_eq _ _ _ _ hl]
  exact r2
