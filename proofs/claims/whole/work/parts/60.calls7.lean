/-! THE CALLS: turned; unit, content, prime factors of a slot -/
def zAx (a : Nat) : ZQ := (0, if a = 0 then 2 else 0, if a = 1 then 2 else 0, if a = 2 then 2 else 0)
theorem zAx_good : ∀ a, a < 3 → ((zAx a).1 - (zAx a).2.1) % 2 = 0 ∧ ((zAx a).1 - (zAx a).2.2.1) % 2 = 0 ∧ ((zAx a).1 - (zAx a).2.2.2) % 2 = 0 ∧ (zAx a).1 * (zAx a).1 + (zAx a).2.1 * (zAx a).2.1 + (zAx a).2.2.1 * (zAx a).2.2.1 + (zAx a).2.2.2 * (zAx a).2.2.2 = 4 := by decide
theorem c_ax {a : Nat} (ha : a < 3) (p1 p3 : Int32) (σ : QMem) : (if nI a = 0 then (fX11_turned_J47 p1 (nI a) p3 35 0 2 σ) else (fX11_turned_J47 p1 (nI a) p3 35 0 0 σ)) = fX11_turned_J67 p1 (nI a) p3 35 (qj (zAx a).1) (qj (zAx a).2.1) (qj (zAx a).2.2.1) (qj (zAx a).2.2.2) σ := by
  have : a = 0 ∨ a = 1 ∨ a = 2 := by omega
  unfold fX11_turned_J47 fX11_turned_J57
  rcases this with rfl | rfl | rfl
  · rw [if_pos (by decide), if_neg (by decide), if_neg (by decide)]; rfl
  · rw [if_neg (by decide), if_pos (by decide), if_neg (by decide)]; rfl
  · rw [if_neg (by decide), if_neg (by decide), if_pos (by decide)]; rfl
theorem m_ax1 {a i n : Nat} (ha : a < 3) (hi : i < 4) (p1 p3 : Int32) (μ : QMem) : fX12_turned_L36 p1 (nI a) p3 (n + 1) (nI i) μ = fX12_turned_L36 p1 (nI a) p3 n (nI (i + 1)) (ms μ 19 i (qj (if i = a + 1 then 2 else 0))) := by
  have c4 : ¬ (4 : Int32) ≤ nI i := nI_ge (b := 4) hi (by decide)
  have g : ¬ (nI i < 0 ∨ ml 19 ≤ (nI i).toNatClampNeg) := nI_in (by rw [ml19']; exact hi) (by decide)
  rw [fX12_turned_L36, if_neg c4, show nI a + 1 = nI (a + 1) from nI_1 a]
  unfold fX12_turned_J61
  rw [show nI i + 1 = nI (i + 1) from nI_1 i]
  by_cases e : i = a + 1
  · rw [if_pos (show nI i = nI (a + 1) by rw [e]), if_neg g, nI_clamp (by omega), if_pos e]; rfl
  · rw [if_neg (show ¬ nI i = nI (a + 1) from fun q => e ((nI_eq (by omega) (by omega)).mp q)), if_neg g, nI_clamp (by omega), if_neg e]; rfl
theorem m_ax {a : Nat} (ha : a < 3) (μ : QMem) : ms (ms (ms (ms μ 19 0 (qj (if 0 = a + 1 then 2 else 0))) 19 (0 + 1) (qj (if 0 + 1 = a + 1 then 2 else 0))) 19 (0 + 1 + 1) (qj (if 0 + 1 + 1 = a + 1 then 2 else 0))) 19 (0 + 1 + 1 + 1) (qj (if 0 + 1 + 1 + 1 = a + 1 then 2 else 0)) = mPut μ 19 0 (zAx a) := by
  have : a = 0 ∨ a = 1 ∨ a = 2 := by omega
  rcases this with rfl | rfl | rfl <;> rfl
theorem ag_turned (σ μ : QMem) (a1 a2 a3 : Int32) (h : RR σ μ) : ∃ (r : Int32) (σ2 μ2 : QMem), fX11_turned a1 a2 a3 σ = some (r, σ2) ∧ fX12_turned a1 a2 a3 μ = some (r, μ2) ∧ RR σ2 μ2 := by
  unfold fX11_turned fX12_turned
  rcases slot_cases a1 with ⟨e1, e2⟩ | ⟨s, hs, rfl, e1, e2⟩
  · rw [e1, e2, Option.bind_some, Option.bind_some, if_pos rfl, if_pos rfl]; exact ag_same h _
  rw [e1, e2, Option.bind_some, Option.bind_some, if_neg i10, if_neg i10, show (2 : Int32) = nI 2 from rfl, pin a2 2 (by decide), pin a3 2 (by decide), Option.bind_some]
  simp only [bI_0]
  rcases p_cases a2 3 (by decide) with h0 | ⟨a, ha, rfl⟩
  · rw [decide_eq_false (show ¬ (0 ≤ a2.toInt ∧ a2.toInt ≤ ((2 : Nat) : Int)) by omega), if_pos rfl]
    by_cases hn : a2 < 0
    · rw [if_pos hn]; exact ag_same h _
    · rw [if_neg hn, if_pos (show nI 2 < a2 by rw [i_neg] at hn; rw [Int32.lt_iff_toInt_lt, nI_toInt (by decide)]; omega)]; exact ag_same h _
  rw [decide_eq_true (show 0 ≤ (nI a).toInt ∧ (nI a).toInt ≤ ((2 : Nat) : Int) by rw [nI_toInt (by omega)]; omega), if_neg (show ¬ (true = false) by decide), if_neg (show ¬ nI a < 0 from nI_pos (by omega)), if_neg (show ¬ nI 2 < nI a from nI_nlt (by omega) (by decide)), Option.bind_some]
  simp only [bI_0]
  rcases p_cases a3 3 (by decide) with h0 | ⟨i, hi, rfl⟩
  · rw [decide_eq_false (show ¬ (0 ≤ a3.toInt ∧ a3.toInt ≤ ((2 : Nat) : Int)) by omega), if_pos rfl]
    by_cases hn : a3 < 0
    · rw [if_pos hn]; exact ag_same h _
    · rw [if_neg hn, if_neg (show ¬ a3 ≤ nI 2 by rw [i_neg] at hn; rw [Int32.le_iff_toInt_le, nI_toInt (by decide)]; omega)]; exact ag_same h _
  rw [decide_eq_true (show 0 ≤ (nI i).toInt ∧ (nI i).toInt ≤ ((2 : Nat) : Int) by rw [nI_toInt (by omega)]; omega), if_neg (show ¬ (true = false) by decide), if_neg (show ¬ nI i < 0 from nI_pos (by omega)), if_pos (show nI i ≤ nI 2 from nI_le (by omega) (by decide)), show nI 2 = (2 : Int32) from rfl, c_ax ha]
  obtain ⟨S, hR⟩ := h
  obtain ⟨v, q, mq⟩ := hR.1 s hs
  obtain ⟨x1, x2, x3, x4⟩ := zAx_good a ha
  have lx : zL (zAx a) := ⟨x1, x2, x3⟩
  have n4 : zN4 (zAx a) = 4 := x4
  have sx : zS (zAx a) := by unfold zS; omega
  have nx : zN (zAx a) = 1 := by unfold zN; rw [n4]; rfl
  have os : 4 * s + 3 < ml 13 := by rw [ml13']; omega
  have lp : zL (zM (S s) (zAx a)) := zM_L v.1 lx
  have np : zN (zM (S s) (zAx a)) ≤ 150 := by rw [zN_M v.1 lx, nx, Int.mul_one]; exact qV_N v
  have sp : zS (zM (S s) (zAx a)) := zS_of lp np (by decide)
  have lc := zC_L v.1
  have sc : zS (zC (S s)) := by unfold zS; rw [zC_N4]; exact qV_S v
  -- the desk
  unfold fX11_turned_J67
  rw [c_put, Option.bind_some, if_neg (gs6 hs), es6 hs, show qPut σ 35 ((zAx a).1, (zAx a).2.1, (zAx a).2.2.1, (zAx a).2.2.2) = qPut σ 35 (zAx a) from rfl, c_prod 34 (qAt_ne (k := s) (k2 := 35) (by omega) q) (qPut_at _ _ _) v.1 lx (qV_S v) sx, Option.bind_some, if_neg (show ¬ (nI s < 0 ∨ xl 102 ≤ (nI s).toNatClampNeg) from gs6 hs)]
  rw [c_conj 35 (qAt_ne (k := s) (k2 := 34) (by omega) (qAt_ne (k := s) (k2 := 35) (by omega) q)), Option.bind_some, c_prod 34 (qAt_ne (k := 34) (k2 := 35) (by decide) (qPut_at _ 34 _)) (qPut_at _ 35 _) lp lc sp sc, Option.bind_some, show nI i + 1 = nI (i + 1) from nI_1 i, c_part (show i + 1 < 4 by omega), Option.bind_some]
  -- the reference
  rw [show FU = 1995 + 1 + 1 + 1 + 1 + 1 from rfl, show (0 : Int32) = nI 0 from rfl, m_ax1 ha (by decide), m_ax1 ha (by decide), m_ax1 ha (by decide), m_ax1 ha (by decide), m_ax ha, fX12_turned_L36, if_pos (show (4 : Int32) ≤ nI (0 + 1 + 1 + 1 + 1) by decide), nI_mul4]
  have g20 := mAt_ne (k := 13) (k2 := 19) (o2 := 0) (r := zAx a) (by decide) mq
  rw [show (0 : Int32) = nI 0 from rfl, m_prod 20 g20 (mPut_at _ _ _ _) os (by decide) (by decide) v.1 lx (qV_S v) sx, Option.bind_some, m_conj (mAt_ne (k := 13) (k2 := 20) (by decide) g20) os (by decide), Option.bind_some, m_prod 19 (mAt_ne (k := 20) (k2 := 2) (by decide) (mPut_at _ 20 _ _)) (mPut_at _ 2 _ _) (by decide) (by decide) (by decide) lp lc sp sc, Option.bind_some]
  have e1i : (1 : Int32) + nI i = nI (i + 1) := by rw [Int32.add_comm]; exact nI_1 i
  have gg : ¬ (nI (i + 1) < nI 0 ∨ ml 19 ≤ (nI (i + 1)).toNatClampNeg) := nI_in (show i + 1 < ml 19 by rw [ml19']; omega) (by decide)
  rw [e1i, if_neg gg, nI_clamp (by omega)]
  generalize hz : zM (zM (S s) (zAx a)) (zC (S s)) = w
  have ev : ∀ (σ' μ' : QMem), qPut σ' 34 w 34 (i + 1) = mPut μ' 19 0 w 19 (i + 1) := by
    intro σ' μ'
    obtain ⟨p1, p2, p3, p4⟩ := qPut_at σ' 34 w
    obtain ⟨r1, r2, r3, r4⟩ := mPut_at μ' 19 0 w
    have : i = 0 ∨ i = 1 ∨ i = 2 := by omega
    rcases this with rfl | rfl | rfl
    · exact p2.trans r2.symm
    · exact p3.trans r3.symm
    · exact p4.trans r4.symm
  rw [ev _ (mPut (mPut (mPut μ 19 0 (zAx a)) 20 0 (zM (S s) (zAx a))) 2 0 (zC (S s)))]
  have hX : ∀ (q1 q2 q3 q4 : ZQ), sX σ (qPut (qPut (qPut (qPut σ 35 q1) 34 q2) 35 q3) 34 q4) := fun q1 q2 q3 q4 => (sX_put _ (by unfold eX; omega) (by decide)).trans ((sX_put _ (by unfold eX; omega) (by decide)).trans ((sX_put _ (by unfold eX; omega) (by decide)).trans (sX_put _ (by unfold eX; omega) (by decide))))
  have hM : ∀ (q1 q2 q3 q4 : ZQ), sM μ (mPut (mPut (mPut (mPut μ 19 0 q1) 20 0 q2) 2 0 q3) 19 0 q4) := fun q1 q2 q3 q4 => (sM_put _ _ (by unfold eM; omega) (by decide)).trans ((sM_put _ _ (by unfold eM; omega) (by decide)).trans ((sM_put _ _ (by unfold eM; omega) (by decide)).trans (sM_put _ _ (by unfold eM; omega) (by decide))))
  exact ag_of ⟨S, hR⟩ _ (hX _ _ _ _) (hM _ _ _ _)
/-! which unit -/
theorem unit_ok {σ μ : QMem} {S : Nat → ZQ} (h : RSl σ μ S) (hU : mUn μ) {s : Nat} (hs : s < 6) : ∀ (m i n n2 : Nat) (σ1 : QMem), i + m = 24 → m < n → m < n2 → qAt σ1 s (S s) → ∃ r τ, fX11_unitNumber_L2 s n (nI i) σ1 = some (r, τ) ∧ fX12_unitOf_L2 (nI s) n2 (nI i) μ = some (r, μ) ∧ qSame (fun c => c = 35) σ1 τ := by
  obtain ⟨v, -, mq⟩ := h s hs
  have os : 4 * s + 3 < ml 13 := by rw [ml13']; omega
  intro m
  induction m with
  | zero =>
    intro i n n2 σ1 hi hn hn2 hq
    obtain ⟨n, rfl⟩ : ∃ m, n = m + 1 := ⟨n - 1, by omega⟩
    obtain ⟨n2, rfl⟩ : ∃ m, n2 = m + 1 := ⟨n2 - 1, by omega⟩
    have : i = 24 := by omega
    subst this
    rw [fX11_unitNumber_L2, fX12_unitOf_L2, if_pos (show (24 : Int32) ≤ nI 24 by decide), if_pos (show (24 : Int32) ≤ nI 24 by decide)]
    exact ⟨_, _, rfl, rfl, qSame.refl _ _⟩
  | succ m ih =>
    intro i n n2 σ1 hi hn hn2 hq
    obtain ⟨n, rfl⟩ : ∃ m, n = m + 1 := ⟨n - 1, by omega⟩
    obtain ⟨n2, rfl⟩ : ∃ m, n2 = m + 1 := ⟨n2 - 1, by omega⟩
    have hi24 : i < 24 := by omega
    have c24 : ¬ (24 : Int32) ≤ nI i := nI_ge (b := 24) hi24 (by decide)
    have su : zS (zU i) := by unfold zS; rw [zU_N4 hi24]; decide
    have ou : 4 * i + 3 < ml 1 := by rw [ml1']; omega
    have fr1 : qSame (fun c => c = 35) σ1 (qPut σ1 35 (zU i)) := qPut_sm (P := fun c => c = 35) _ rfl
    rw [fX11_unitNumber_L2, fX12_unitOf_L2, if_neg c24, if_neg c24, c_unit hi24, Option.bind_some, c_same (qPut_at _ _ _) (qAt_ne (k := s) (k2 := 35) (by omega) hq) su (qV_S v), Option.bind_some, nI_mul4, nI_mul4, m_gt (mUn_at hU hi24) mq ou os su (qV_S v), Option.bind_some]
    unfold fX12_unitOf_J50
    simp only [bI_0]
    rw [show nI i + 1 = nI (i + 1) from nI_1 i]
    obtain ⟨r, τ, t1, t2, t3⟩ := ih (i + 1) n n2 (qPut σ1 35 (zU i)) (by omega) (by omega) (by omega) (qAt_ne (by omega) hq)
    by_cases e : zU i = S s
    · rw [decide_eq_true e, if_neg (by decide), e, (zGb_not _ _).mpr (zGt_irr _), if_pos rfl, m_gt mq (by rw [← e]; exact mUn_at hU hi24) os ou (qV_S v) (qV_S v), Option.bind_some]
      simp only [bI_0]
      rw [(zGb_not _ _).mpr (zGt_irr _), if_pos rfl]
      exact ⟨_, _, rfl, rfl, by rw [← e]; exact fr1⟩
    · rw [decide_eq_false e, if_pos rfl]
      cases g1 : zGb (zU i) (S s)
      · have g2 : zGb (S s) (zU i) = true := by
          cases g2 : zGb (S s) (zU i)
          · exact absurd (zGt_eq ((zGb_not _ _).mp g1) ((zGb_not _ _).mp g2)) e
          · rfl
        rw [if_pos rfl, m_gt mq (mUn_at hU hi24) os ou (qV_S v) su, Option.bind_some]
        simp only [bI_0]
        rw [g2, if_neg (by decide)]
        exact ⟨r, τ, t1, t2, fr1.trans t3⟩
      · rw [if_neg (by decide)]
        exact ⟨r, τ, t1, t2, fr1.trans t3⟩
/-! content -/
def cTn (q : ZQ) : Nat → Nat
  | 0 => 1
  | m + 1 => if m = 0 then 1 else if zTb ((m + 1 : Nat) : Int) q = true then m + 1 else cTn q m
theorem c_cont {k : Nat} {q : ZQ} (h0 : q ≠ z0) (sq : zS q) (σ : QMem) (hq : qAt σ k q) : ∀ (m n : Nat), m ≤ 24 → m < n → 1 ≤ m → fX6_content_L3 k n (nI m) σ = some (nI (cTn q m), σ) := by
  intro m
  induction m with
  | zero => intro n _ _ h; omega
  | succ m ih =>
    intro n hm hn _
    obtain ⟨n, rfl⟩ : ∃ m, n = m + 1 := ⟨n - 1, by omega⟩
    by_cases h1 : m = 0
    · subst h1
      rw [fX6_content_L3, if_pos (show nI (0 + 1) ≤ 1 by decide)]
      rfl
    · have c1 : ¬ nI (m + 1) ≤ (1 : Int32) := nI_ge (a := 1) (by omega) (by omega)
      rw [fX6_content_L3, if_neg c1, c_zero hq sq, Option.bind_some]
      simp only [bI_0]
      rw [decide_eq_false h0, if_pos rfl, show nI (m + 1) = qj ((m + 1 : Nat) : Int) from qj_nat _, c_times hq sq (by omega) (by omega), Option.bind_some]
      simp only [bI_0]
      rw [← qj_nat, nI_m1 (by omega), Nat.add_sub_cancel]
      have e : cTn q (m + 1) = if m = 0 then 1 else if zTb ((m + 1 : Nat) : Int) q = true then m + 1 else cTn q m := rfl
      rw [e, if_neg h1]
      cases hz : zTb ((m + 1 : Nat) : Int) q
      · rw [if_pos rfl, if_neg (by decide)]
        exact ih n (by omega) (by omega) (by omega)
      · rw [if_neg (by decide), if_pos rfl]
theorem m_cont1 {s n i : Nat} {K4 : Int32 → Int32 → QMem → Option (Int32 × QMem)} {v2 : Int32} {d : Nat} {b : Bool} {μ : QMem} {e : Int} (hs : s < 6) (hi : i < 4) (hd : 0 < d ∧ d ≤ 24) (he : μ 13 (4 * s + i) = qj e) (be : -2000000000 ≤ e ∧ e ≤ 2000000000) : fX12_content_L16 (nI s) K4 (n + 1) v2 (nI d) (bI b) (nI i) μ = fX12_content_L16 (nI s) K4 n v2 (nI d) (bI (b && decide ((d : Int) ∣ e))) (nI (i + 1)) μ := by
  have c4 : ¬ (4 : Int32) ≤ nI i := nI_ge (b := 4) hi (by decide)
  have d0 : ¬ nI d = 0 := nI_ne0 (by omega) (by omega)
  rw [fX12_content_L16, if_neg c4]
  unfold fX12_content_J47 fX12_content_J48
  rw [show nI i + 1 = nI (i + 1) from nI_1 i]
  cases b
  · rw [if_pos (show bI false = 0 from rfl), Bool.false_and]; rfl
  · rw [if_neg (show ¬ bI true = 0 by decide), nI_mul4, nI_add, if_neg (nI_in (show 4 * s + i < ml 13 by rw [ml13']; omega) (by decide)), if_neg d0, nI_clamp (by omega), he, Bool.true_and]
    simp only [qj_dvdN be (show d < 2000000000 by omega)]
    by_cases h : (d : Int) ∣ e
    · rw [if_pos h, decide_eq_true h]; rfl
    · rw [if_neg h, decide_eq_false h]; rfl
theorem m_cont {s : Nat} {q : ZQ} (hs : s < 6) (v : qV q) {μ : QMem} (mq : mAt μ 13 (4 * s) q) : ∀ (m d n : Nat), d + m = 25 → m < n → 2 ≤ d → fX12_content_L4 (nI s) n (nI (cTn q (d - 1))) (nI d) μ = some (nI (cTn q 24), μ) := by
  intro m
  induction m with
  | zero =>
    intro d n hd hn h2
    obtain ⟨n, rfl⟩ : ∃ m, n = m + 1 := ⟨n - 1, by omega⟩
    have : d = 25 := by omega
    subst this
    rw [fX12_content_L4, if_pos (show (24 : Int32) < nI 25 by decide)]
  | succ m ih =>
    intro d n hd hn h2
    obtain ⟨n, rfl⟩ : ∃ m, n = m + 1 := ⟨n - 1, by omega⟩
    have c24 : ¬ (24 : Int32) < nI d := nI_nlt (a := 24) (by omega) (by decide)
    obtain ⟨b1, b2, b3, b4⟩ := qV_24 v.2
    have mq' := mq
    obtain ⟨h1, h2', h3, h4⟩ := mq
    have d0 : ¬ nI d = 0 := nI_ne0 (by omega) (by omega)
    rw [fX12_content_L4, if_neg c24, show FU = 1995 + 1 + 1 + 1 + 1 + 1 from rfl, show (1 : Int32) = bI true from rfl, show (0 : Int32) = nI 0 from rfl, m_cont1 hs (i := 0) (by decide) (by omega) h1 (by omega), m_cont1 hs (i := 0 + 1) (by decide) (by omega) h2' (by omega), m_cont1 hs (i := 0 + 1 + 1) (by decide) (by omega) h3 (by omega), m_cont1 hs (i := 0 + 1 + 1 + 1) (by decide) (by omega) h4 (by omega), fX12_content_L16, if_pos (show (4 : Int32) ≤ nI (0 + 1 + 1 + 1 + 1) by decide)]
    have dv : (true && decide ((d : Int) ∣ q.1) && decide ((d : Int) ∣ q.2.1) && decide ((d : Int) ∣ q.2.2.1) && decide ((d : Int) ∣ q.2.2.2)) = true ↔ zDv (d : Int) q := by
      simp only [Bool.and_eq_true, decide_eq_true_iff, true_and]
      unfold zDv
      exact ⟨fun h => ⟨h.1.1.1, h.1.1.2, h.1.2, h.2⟩, fun h => ⟨⟨⟨h.1, h.2.1⟩, h.2.2.1⟩, h.2.2.2⟩⟩
    have ec : cTn q d = if zTb (d : Int) q = true then d else cTn q (d - 1) := by
      obtain ⟨d', rfl⟩ : ∃ d', d = d' + 1 := ⟨d - 1, by omega⟩
      have e : cTn q (d' + 1) = if d' = 0 then 1 else if zTb ((d' + 1 : Nat) : Int) q = true then d' + 1 else cTn q d' := rfl
      rw [e, if_neg (by omega), Nat.add_sub_cancel]
    have nx := ih (d + 1) n (by omega) (by omega) (by omega)
    rw [Nat.add_sub_cancel, ec] at nx
    unfold fX12_content_J118 fX12_content_J119
    rw [show nI d + 1 = nI (d + 1) from nI_1 d]
    cases hb : (true && decide ((d : Int) ∣ q.1) && decide ((d : Int) ∣ q.2.1) && decide ((d : Int) ∣ q.2.2.1) && decide ((d : Int) ∣ q.2.2.2))
    · have nz : ¬ zTb (d : Int) q = true := fun z => by
        have := dv.mpr ((zTb_iff _ _).mp z).1
        rw [hb] at this
        exact absurd this (by decide)
      rw [if_pos (show bI false = 0 from rfl)]
      rw [if_neg nz] at nx
      exact nx
    · have D := dv.mp hb
      have qd : ∀ t : Int, (d : Int) ∣ t → -24 ≤ t ∧ t ≤ 24 → qj t / nI d = qj (t / (d : Int)) := fun t ht hb => by
        rw [qj_nat, qj_div (qR_of (by omega) (by omega)) (qR_of (by omega) (by omega)) (by omega), Int.tdiv_eq_ediv_of_dvd ht]
      have qb : ∀ t : Int, -24 ≤ t ∧ t ≤ 24 → -20000 ≤ t / (d : Int) ∧ t / (d : Int) ≤ 20000 := fun t ht => by
        have e1 := Int.mul_ediv_add_emod t (d : Int)
        have e2 := Int.emod_nonneg t (show (d : Int) ≠ 0 by omega)
        have e3 := Int.emod_lt_of_pos t (show 0 < (d : Int) by omega)
        constructor
        · apply Classical.byContradiction
          intro z
          have : (d : Int) * (t / (d : Int)) ≤ (d : Int) * (-25) := Int.mul_le_mul_of_nonneg_left (by omega) (by omega)
          omega
        · apply Classical.byContradiction
          intro z
          have : (d : Int) * 25 ≤ (d : Int) * (t / (d : Int)) := Int.mul_le_mul_of_nonneg_left (by omega) (by omega)
          omega
      have g : ∀ j, j < 4 → ¬ (nI (4 * s + j) < 0 ∨ ml 13 ≤ (nI (4 * s + j)).toNatClampNeg) := fun j hj => nI_in (by rw [ml13']; omega) (by decide)
      rw [if_neg (show ¬ bI true = 0 by decide), nI_mul4, show nI (4 * s) + 1 = nI (4 * s + 1) from nI_1 _, show nI (4 * s) + 2 = nI (4 * s + 2) from nI_a2 _, show nI (4 * s) + 3 = nI (4 * s + 3) from nI_a3 _, if_neg (show ¬ (nI (4 * s) < 0 ∨ ml 13 ≤ (nI (4 * s)).toNatClampNeg) from g 0 (by decide)), if_neg d0, if_neg (g 1 (by decide)), if_neg d0, if_neg (g 2 (by decide)), if_neg d0, if_neg (g 3 (by decide)), if_neg d0, nI_clamp (by omega), nI_clamp (by omega), nI_clamp (by omega), nI_clamp (by omega), h1, h2', h3, h4, qd _ D.1 b1, qd _ D.2.1 b2, qd _ D.2.2.1 b3, qd _ D.2.2.2 b4, m_like (qb _ b1) (qb _ b2) (qb _ b3) (qb _ b4), Option.bind_some]
      have el : zTb (d : Int) q = zLb (q.1 / (d : Int)) (q.2.1 / (d : Int)) (q.2.2.1 / (d : Int)) (q.2.2.2 / (d : Int)) := b_ext (by rw [zTb_iff]; exact ⟨fun z => (zLb_iff (zQu (d : Int) q)).mpr z.2, fun z => ⟨D, (zLb_iff (zQu (d : Int) q)).mp z⟩⟩)
      rw [el] at nx
      simp only [bI_0, bI_n0]
      cases hl : zLb (q.1 / (d : Int)) (q.2.1 / (d : Int)) (q.2.2.1 / (d : Int)) (q.2.2.2 / (d : Int))
      · rw [hl, if_neg (by decide)] at nx
        rw [if_pos rfl]
        exact nx
      · rw [hl, if_pos rfl] at nx
        rw [if_neg (by decide)]
        exact nx
