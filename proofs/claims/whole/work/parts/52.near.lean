/-! THE REFERENCE'S NEAREST QUOTIENT: all that lie no farther than told are tried -/
theorem zDs_N {s : Int32} {q d x y : ZQ} (hq : zL q) (hd : zL d) (h0 : d ≠ z0) (hx : zL x) (hy : zL y) : (zDs (zEx s q d) (zN d) x ≤ zDs (zEx s q d) (zN d) y ↔ zN (zSub q (zK s d x)) ≤ zN (zSub q (zK s d y))) ∧ (zDs (zEx s q d) (zN d) x = zDs (zEx s q d) (zN d) y ↔ zN (zSub q (zK s d x)) = zN (zSub q (zK s d y))) := by
  have hn := zN_pos hd h0
  rw [zDs_rest hq hd hx, zDs_rest hq hd hy]
  generalize zN (zSub q (zK s d x)) = A
  generalize zN (zSub q (zK s d y)) = B
  constructor
  · constructor
    · intro h
      exact Int.le_of_mul_le_mul_left (a := zN d) (by omega) hn
    · intro h
      have := Int.mul_le_mul_of_nonneg_left h (Int.le_of_lt hn)
      omega
  · constructor
    · intro h
      exact Int.eq_of_mul_eq_mul_left (a := zN d) (by omega) (by omega)
    · rintro rfl
      rfl
/-- x is better than y -/
def zBt (s : Int32) (q d x y : ZQ) : Prop := zN (zSub q (zK s d x)) < zN (zSub q (zK s d y)) ∨ (zN (zSub q (zK s d x)) = zN (zSub q (zK s d y)) ∧ zGt x y)
theorem zBt_step {s : Int32} {q d c x y : ZQ} (h1 : zBt s q d x y) (h2 : ¬ zBt s q d c y) : ¬ zBt s q d c x := by
  intro h3
  apply h2
  unfold zBt at *
  rcases h3 with h3 | ⟨h3, h4⟩
  · rcases h1 with h1 | ⟨h1, h5⟩
    · left; omega
    · left; omega
  · rcases h1 with h1 | ⟨h1, h5⟩
    · left; omega
    · right; exact ⟨by omega, zGt_trans h4 h5⟩
theorem zBt_irr (s : Int32) (q d x : ZQ) : ¬ zBt s q d x x := by
  intro h
  unfold zBt at h
  rcases h with h | h
  · omega
  · exact zGt_irr x h.2
def zCand (e : ZQ) (n : Int) (c : Nat) : ZQ := (e.1 / n + 3 - ((c % 6 : Nat) : Int), e.2.1 / n + 3 - ((c / 6 % 6 : Nat) : Int), e.2.2.1 / n + 3 - ((c / 6 / 6 % 6 : Nat) : Int), e.2.2.2 / n + 3 - ((c / 6 / 6 / 6 % 6 : Nat) : Int))
theorem zNc_dig {p n v : Int} (hn : 0 < n) (h : zNc p n v) : 0 ≤ p / n + 3 - v ∧ p / n + 3 - v < 6 := by
  obtain ⟨h1, h2⟩ := h
  have e1 := Int.mul_ediv_add_emod p n
  have e2 := Int.emod_nonneg p (show n ≠ 0 by omega)
  have e3 := Int.emod_lt_of_pos p hn
  have a1 : n * v < n * (p / n + 2) := by rw [Int.mul_add]; omega
  have a2 : n * (p / n - 1) < n * v := by rw [Int.mul_sub]; omega
  have b1 := Int.lt_of_mul_lt_mul_left a1 (by omega)
  have b2 := Int.lt_of_mul_lt_mul_left a2 (by omega)
  omega
theorem zCand_has {e : ZQ} {n : Int} (hn : 0 < n) {x : ZQ} (h1 : zNc e.1 n x.1) (h2 : zNc e.2.1 n x.2.1) (h3 : zNc e.2.2.1 n x.2.2.1) (h4 : zNc e.2.2.2 n x.2.2.2) : ∃ c, c < 1296 ∧ zCand e n c = x := by
  have d1 := zNc_dig hn h1
  have d2 := zNc_dig hn h2
  have d3 := zNc_dig hn h3
  have d4 := zNc_dig hn h4
  obtain ⟨a, ha⟩ : ∃ a : Nat, (a : Int) = e.1 / n + 3 - x.1 := ⟨(e.1 / n + 3 - x.1).toNat, by omega⟩
  obtain ⟨b, hb⟩ : ∃ b : Nat, (b : Int) = e.2.1 / n + 3 - x.2.1 := ⟨(e.2.1 / n + 3 - x.2.1).toNat, by omega⟩
  obtain ⟨c, hc⟩ : ∃ c : Nat, (c : Int) = e.2.2.1 / n + 3 - x.2.2.1 := ⟨(e.2.2.1 / n + 3 - x.2.2.1).toNat, by omega⟩
  obtain ⟨d, hd⟩ : ∃ d : Nat, (d : Int) = e.2.2.2 / n + 3 - x.2.2.2 := ⟨(e.2.2.2 / n + 3 - x.2.2.2).toNat, by omega⟩
  refine ⟨a + 6 * (b + 6 * (c + 6 * d)), by omega, ?_⟩
  have m1 : (a + 6 * (b + 6 * (c + 6 * d))) % 6 = a := by omega
  have m2 : (a + 6 * (b + 6 * (c + 6 * d))) / 6 = b + 6 * (c + 6 * d) := by omega
  have m3 : (b + 6 * (c + 6 * d)) % 6 = b := by omega
  have m4 : (b + 6 * (c + 6 * d)) / 6 = c + 6 * d := by omega
  have m5 : (c + 6 * d) % 6 = c := by omega
  have m6 : (c + 6 * d) / 6 = d := by omega
  have m7 : d % 6 = d := by omega
  unfold zCand
  rw [m1, m2, m3, m4, m5, m6, m7]
  refine zq_ext ?_ ?_ ?_ ?_ <;> simp only <;> omega
theorem m_down {a n : Int} (ha : -1000 ≤ a ∧ a ≤ 1000) (hn : 0 < n ∧ n ≤ 1000) : fX12_down (qj a) (qj n) = some (qj (a / n)) := by
  have ra : qR a := qR_of (by omega) (by omega)
  have rn : qR n := qR_of (by omega) (by omega)
  have c0 : (qj a < 0) = (a < 0) := propext (by rw [← qj_0, qj_lt ra (qR_of (by decide) (by decide))])
  have c1 : ¬ qj n = 0 := by rw [← qj_0, qj_eq rn (qR_of (by decide) (by decide))]; omega
  unfold fX12_down
  simp only [c0]
  rw [if_neg c1]
  by_cases h : a < 0
  · have en : qj n - 1 - qj a = qj (n - 1 - a) := by show qj n - qj 1 - qj a = _; rw [qj_sub, qj_sub]
    rw [if_pos h, en, qj_div (qR_of (by omega) (by omega)) rn (by omega), qj_neg, Int.tdiv_eq_ediv_of_nonneg (by omega)]
    congr 2
    have e1 := Int.mul_ediv_add_emod a n
    have e2 := Int.emod_nonneg a (show n ≠ 0 by omega)
    have e3 := Int.emod_lt_of_pos a hn.1
    have f1 := Int.mul_ediv_add_emod (n - 1 - a) n
    have f2 := Int.emod_nonneg (n - 1 - a) (show n ≠ 0 by omega)
    have f3 := Int.emod_lt_of_pos (n - 1 - a) hn.1
    generalize a / n = u at *
    generalize (n - 1 - a) / n = v at *
    have a1 : n * (-v) < n * (u + 1) := by rw [Int.mul_add, Int.mul_neg]; omega
    have a2 : n * (u - 1) < n * (-v) := by rw [Int.mul_sub, Int.mul_neg]; omega
    have b1 := Int.lt_of_mul_lt_mul_left a1 (by omega)
    have b2 := Int.lt_of_mul_lt_mul_left a2 (by omega)
    omega
  · rw [if_neg h, if_neg c1, qj_div ra rn (by omega), Int.tdiv_eq_ediv_of_nonneg (by omega)]
theorem zB_S {x : ZQ} {n : Int} (h : zB n x) (hn : 0 ≤ n ∧ n ≤ 10000) : zS x := by
  obtain ⟨a1, a2, a3, a4⟩ := h
  have q := mul_bd (m := 10000) (n := 10000) (a := x.1) (b := x.1) (by omega) (by omega)
  have := mul_bd (m := 10000) (n := 10000) (a := x.2.1) (b := x.2.1) (by omega) (by omega)
  have := mul_bd (m := 10000) (n := 10000) (a := x.2.2.1) (b := x.2.2.1) (by omega) (by omega)
  have := mul_bd (m := 10000) (n := 10000) (a := x.2.2.2) (b := x.2.2.2) (by omega) (by omega)
  unfold zS zN4
  omega
theorem zRest_S {s : Int32} {q d x : ZQ} (vq : qV q) (vd : qV d) (lx : zL x) (bx : zB 304 x) : zS (zSub q (zK s d x)) ∧ zN4 x ≤ 369664 := by
  obtain ⟨⟨a1, a2⟩, ⟨a3, a4⟩, ⟨a5, a6⟩, a7, a8⟩ := bx
  have m1 := mul_bd (m := 304) (n := 304) ⟨a1, a2⟩ ⟨a1, a2⟩
  have m2 := mul_bd (m := 304) (n := 304) ⟨a3, a4⟩ ⟨a3, a4⟩
  have m3 := mul_bd (m := 304) (n := 304) ⟨a5, a6⟩ ⟨a5, a6⟩
  have m4 := mul_bd (m := 304) (n := 304) ⟨a7, a8⟩ ⟨a7, a8⟩
  have n4 : zN4 x ≤ 369664 := by unfold zN4; omega
  have nx : zN x ≤ 92416 := by have := zN4_four lx; omega
  have np : zN (zK s d x) ≤ 13862400 := by
    rw [zK_N vd.1 lx]
    have := qV_N vd
    have := zN_nn d
    have := zN_nn x
    exact (mul_bd (m := 150) (n := 92416) (a := zN d) (b := zN x) (by omega) (by omega)).2
  have bp : zB 7500 (zK s d x) := zN4_B (by decide) (by have := zN4_four (zK_L (s := s) vd.1 lx); omega)
  obtain ⟨b1, b2, b3, b4⟩ := qV_24 vq.2
  obtain ⟨c1, c2, c3, c4⟩ := bp
  refine ⟨zB_S (n := 7524) ⟨?_, ?_, ?_, ?_⟩ (by decide), n4⟩ <;> unfold zSub <;> simp only <;> omega
/-- the norm of any row can be taken -/
theorem m_normAny (μ : QMem) {k o : Nat} (ho : o + 3 < ml k) : ∃ v, fX12_normOf k (nI o) μ = some (v, μ) := by
  have hm := ml_small k
  unfold fX12_normOf
  simp (disch := omega) only [Option.bind_some, i32_lit2, nI_add, nI_mulM, cI, nI_ltT, nI_ltF, nI_leT, nI_leF, nI_eqF, nat_leF, or_self, or_false, false_or, if_true, if_false, not_true, not_false, bI_n0, bI_n1, b_em, eq_self]
  exact ⟨_, rfl⟩
theorem m_rest1 {μ : QMem} {k o k3 : Nat} {p4 p5 p6 : Int32} {n i : Nat} {a b : Int} (ho : o + 3 < ml k) (hi : i < 4) (h1 : μ k (o + i) = qj a) (h2 : μ 11 i = qj b) : fX12_triesNearest_L51 k (nI o) k3 p4 p5 p6 (n + 1) (nI i) μ = fX12_triesNearest_L51 k (nI o) k3 p4 p5 p6 n (nI (i + 1)) (ms μ 11 i (qj (a - b))) := by
  have hm := ml_small k
  have m11 : ml 11 = 4 := rfl
  rw [fX12_triesNearest_L51]
  simp (disch := omega) only [Option.bind_some, i32_lit2, nI_add, nI_mulM, cI, nI_ltT, nI_ltF, nI_leT, nI_leF, nI_eqF, nat_leF, or_self, or_false, false_or, if_true, if_false, not_true, not_false, bI_n0, bI_n1, b_em, eq_self, m11, h1, h2, qj_sub]
def tnP (c : Nat) : Prop := c = 8 ∨ c = 9 ∨ c = 11
theorem m_tries1 {μ : QMem} {k o k3 o3 : Nat} {q d x : ZQ} (s : Int32) (hk : ¬ k = 11 ∧ ¬ k = 8 ∧ ¬ k = 9) (hk3 : ¬ k3 = 11) (ho : o + 3 < ml k) (ho3 : o3 + 3 < ml k3) (hq : mAt μ k o q) (hd : mAt μ k3 o3 d) (hx : mAt μ 10 0 x) (vq : qV q) (vd : qV d) (lx : zL x) (bx : zB 304 x) :
    ∃ ρ, (∀ p6, fX12_triesNearest k (nI o) k3 (nI o3) s p6 μ = fX12_triesNearest_L51 k (nI o) k3 (nI o3) s p6 (1995 + 1) (nI 4) ρ) ∧ mAt ρ 11 0 (zSub q (zK s d x)) ∧ mAt ρ 10 0 x ∧ fq (fun c => c = 11) μ ρ := by
  obtain ⟨⟨a1, a2⟩, ⟨a3, a4⟩, ⟨a5, a6⟩, a7, a8⟩ := bx
  have m10 : ml 10 = 4 := rfl
  obtain ⟨r1, r2⟩ := zRest_S (s := s) vq vd lx ⟨⟨a1, a2⟩, ⟨a3, a4⟩, ⟨a5, a6⟩, a7, a8⟩
  have hx' := hx
  obtain ⟨x1, x2, x3, x4⟩ := hx
  have x2' : μ 10 1 = qj x.2.1 := x2
  have x3' : μ 10 2 = qj x.2.2.1 := x3
  have x4' : μ 10 3 = qj x.2.2.2 := x4
  have lk : zLb x.1 x.2.1 x.2.2.1 x.2.2.2 = true := (zLb_iff x).mpr lx
  obtain ⟨q1, q2, q3, q4⟩ := hq
  obtain ⟨e1, e2, e3, e4⟩ := mPut_at μ 11 0 (zK s d x)
  have mk := m_makes s 11 hd hx' ho3 (by decide) (by decide) vd.1 lx (qV_S vd) (show zS x by unfold zS; omega)
  have rk : ∀ j, mPut μ 11 0 (zK s d x) k j = μ k j := fun j => by rw [mPut_cell _ _ _ hk.1]
  refine ⟨mPut (mPut μ 11 0 (zK s d x)) 11 0 (zSub q (zK s d x)), ?_, mPut_at _ _ _ _, mAt_ne (by decide) (mAt_ne (by decide) hx'), (fq_put (P := fun c => c = 11) (k := 11) 0 _ rfl).trans (fq_put (k := 11) 0 _ rfl)⟩
  intro p6
  unfold fX12_triesNearest
  simp (disch := omega) only [Option.bind_some, i32_lit2, nI_add, nI_mulM, cI, nI_ltT, nI_ltF, nI_leT, nI_leF, nI_eqF, nat_leF, or_self, or_false, false_or, if_true, if_false, not_true, not_false, bI_n0, bI_n1, b_em, eq_self, m10]
  rw [x1, x2', x3', x4', m_like (by omega) (by omega) (by omega) (by omega), Option.bind_some, lk]
  simp only [bI_n0]
  rw [if_neg (by decide), mk, Option.bind_some]
  rw [show FU = 1996 + 1 + 1 + 1 + 1 from rfl]
  rw [m_rest1 (i := 0) (a := q.1) (b := (zK s d x).1) ho (by decide) (by rw [rk]; exact q1) e1]
  rw [m_rest1 (i := 0 + 1) (a := q.2.1) (b := (zK s d x).2.1) ho (by decide) (by rw [ms_cell _ hk.1, rk]; exact q2) (by rw [ms_place _ _ (by decide)]; exact e2)]
  rw [m_rest1 (i := 0 + 1 + 1) (a := q.2.2.1) (b := (zK s d x).2.2.1) ho (by decide) (by rw [ms_cell _ hk.1, ms_cell _ hk.1, rk]; exact q3) (by rw [ms_place _ _ (by decide), ms_place _ _ (by decide)]; exact e3)]
  rw [m_rest1 (i := 0 + 1 + 1 + 1) (a := q.2.2.2) (b := (zK s d x).2.2.2) ho (by decide) (by rw [ms_cell _ hk.1, ms_cell _ hk.1, ms_cell _ hk.1, rk]; exact q4) (by rw [ms_place _ _ (by decide), ms_place _ _ (by decide), ms_place _ _ (by decide)]; exact e4)]
  rfl
theorem m_takes2 {ρ : QMem} {x r : ZQ} (k1 : Nat) (p2 : Int32) (k3 : Nat) (p4 p5 p6 : Int32) (hx : mAt ρ 10 0 x) (hr : mAt ρ 11 0 r) : ∃ τ, fX12_triesNearest_J139 k1 p2 k3 p4 p5 p6 ρ = some τ ∧ mAt τ 8 0 x ∧ mAt τ 9 0 r ∧ fq (fun c => c = 8 ∨ c = 9) ρ τ := by
  unfold fX12_triesNearest_J139
  rw [show (0 : Int32) = nI 0 from rfl, m_copies hx (by decide) (show 0 + 3 < ml 8 by decide) (Or.inl (by decide)), Option.bind_some, m_copies (mAt_ne (k := 11) (k2 := 8) (by decide) hr) (by decide) (show 0 + 3 < ml 9 by decide) (Or.inl (by decide)), Option.bind_some]
  exact ⟨_, rfl, mAt_ne (by decide) (mPut_at _ _ _ _), mPut_at _ _ _ _, (fq_put (P := fun c => c = 8 ∨ c = 9) (k := 8) 0 _ (Or.inl rfl)).trans (fq_put (k := 9) 0 _ (Or.inr rfl))⟩
/-- one that is tried: the best so far afterwards -/
theorem m_tryN {μ : QMem} {k o k3 o3 : Nat} {q d x : ZQ} (s : Int32) (hk : ¬ k = 11 ∧ ¬ k = 8 ∧ ¬ k = 9) (hk3 : ¬ k3 = 11) (ho : o + 3 < ml k) (ho3 : o3 + 3 < ml k3) (hq : mAt μ k o q) (hd : mAt μ k3 o3 d) (hx : mAt μ 10 0 x) (vq : qV q) (vd : qV d) (lx : zL x) (bx : zB 304 x) (first : Bool)
    (hb : first = false → ∃ y, mAt μ 8 0 y ∧ mAt μ 9 0 (zSub q (zK s d y)) ∧ zL y ∧ zB 304 y) :
    ∃ τ y, fX12_triesNearest k (nI o) k3 (nI o3) s (bI first) μ = some τ ∧ mAt τ 8 0 y ∧ mAt τ 9 0 (zSub q (zK s d y)) ∧ fq tnP μ τ ∧ ((first = true ∧ y = x) ∨ (first = false ∧ ∀ y0, mAt μ 8 0 y0 → mAt μ 9 0 (zSub q (zK s d y0)) → zL y0 → zB 304 y0 → (zBt s q d x y0 ∧ y = x) ∨ (¬ zBt s q d x y0 ∧ y = y0))) := by
  obtain ⟨ρ, e, r1, r2, r3⟩ := m_tries1 s hk hk3 ho ho3 hq hd hx vq vd lx bx
  obtain ⟨sr, sx⟩ := zRest_S (s := s) vq vd lx bx
  have e1 : fX12_triesNearest k (nI o) k3 (nI o3) s (bI first) μ = fX12_triesNearest_L51 k (nI o) k3 (nI o3) s (bI first) (1995 + 1) (nI 4) ρ := by
    rw [e]
  rw [e1, fX12_triesNearest_L51]
  have rf : fq tnP μ ρ := r3.weaken (fun c h => by unfold tnP; omega)
  obtain ⟨τ, t1, t2, t3, t4⟩ := m_takes2 k (nI o) k3 (nI o3) s (bI first) r2 r1
  have tf : fq tnP μ τ := rf.trans (t4.weaken (fun c h => by unfold tnP; omega))
  rw [show (4 : Int32) = nI 4 from rfl, if_pos (nI_le (by decide) (by decide)), show (0 : Int32) = nI 0 from rfl, m_norm r1 (by decide) (Int.le_trans sr (by decide)), Option.bind_some]
  simp only
  cases first
  · obtain ⟨y, y1, y2, y3, y4⟩ := hb rfl
    obtain ⟨sr2, sy⟩ := zRest_S (s := s) vq vd y3 y4
    have ry8 := r3.at (by decide) y1
    have ry9 := r3.at (by decide) y2
    have b1 := zN_nn (zSub q (zK s d x))
    have b2 := zN_nn (zSub q (zK s d y))
    have b3 : zN (zSub q (zK s d x)) ≤ 100000000 := by unfold zN; unfold zS at sr; omega
    have b4 : zN (zSub q (zK s d y)) ≤ 100000000 := by unfold zN; unfold zS at sr2; omega
    rw [m_norm ry9 (by decide) (Int.le_trans sr2 (by decide)), Option.bind_some]
    simp only [bI_n0]
    rw [if_pos trivial]
    simp only [qj_lt (qR_of (show -2000000000 ≤ zN (zSub q (zK s d x)) by omega) (by omega)) (qR_of (show -2000000000 ≤ zN (zSub q (zK s d y)) by omega) (by omega)), qj_eq (qR_of (show -2000000000 ≤ zN (zSub q (zK s d x)) by omega) (by omega)) (qR_of (show -2000000000 ≤ zN (zSub q (zK s d y)) by omega) (by omega))]
    have uniq : ∀ y0, mAt μ 8 0 y0 → zB 304 y0 → y0 = y := by
      intro y0 z1 z2
      obtain ⟨u1, u2, u3, u4⟩ := z1
      obtain ⟨v1, v2, v3, v4⟩ := y1
      obtain ⟨w1, w2, w3, w4⟩ := z2
      obtain ⟨p1, p2, p3, p4⟩ := y4
      exact zq_ext ((qj_eq (qR_of (by omega) (by omega)) (qR_of (by omega) (by omega))).mp (u1.symm.trans v1)) ((qj_eq (qR_of (by omega) (by omega)) (qR_of (by omega) (by omega))).mp (u2.symm.trans v2)) ((qj_eq (qR_of (by omega) (by omega)) (qR_of (by omega) (by omega))).mp (u3.symm.trans v3)) ((qj_eq (qR_of (by omega) (by omega)) (qR_of (by omega) (by omega))).mp (u4.symm.trans v4))
    have yes : zBt s q d x y → ∃ τ2 y2, some τ = some τ2 ∧ mAt τ2 8 0 y2 ∧ mAt τ2 9 0 (zSub q (zK s d y2)) ∧ fq tnP μ τ2 ∧ ((false = true ∧ y2 = x) ∨ (True ∧ ∀ y0, mAt μ 8 0 y0 → mAt μ 9 0 (zSub q (zK s d y0)) → zL y0 → zB 304 y0 → (zBt s q d x y0 ∧ y2 = x) ∨ (¬ zBt s q d x y0 ∧ y2 = y0))) := by
      intro hbt
      refine ⟨τ, x, rfl, t2, t3, tf, Or.inr ⟨trivial, fun y0 z1 _ _ z4 => ?_⟩⟩
      have := uniq y0 z1 z4
      subst this
      exact Or.inl ⟨hbt, rfl⟩
    have no : ¬ zBt s q d x y → ∃ τ2 y2, some ρ = some τ2 ∧ mAt τ2 8 0 y2 ∧ mAt τ2 9 0 (zSub q (zK s d y2)) ∧ fq tnP μ τ2 ∧ ((false = true ∧ y2 = x) ∨ (True ∧ ∀ y0, mAt μ 8 0 y0 → mAt μ 9 0 (zSub q (zK s d y0)) → zL y0 → zB 304 y0 → (zBt s q d x y0 ∧ y2 = x) ∨ (¬ zBt s q d x y0 ∧ y2 = y0))) := by
      intro hbt
      refine ⟨ρ, y, rfl, ry8, ry9, rf, Or.inr ⟨trivial, fun y0 z1 _ _ z4 => ?_⟩⟩
      have := uniq y0 z1 z4
      subst this
      exact Or.inr ⟨hbt, rfl⟩
    by_cases c1 : zN (zSub q (zK s d x)) < zN (zSub q (zK s d y))
    · rw [if_pos c1, t1]
      exact yes (Or.inl c1)
    · rw [if_neg c1]
      by_cases c2 : zN (zSub q (zK s d x)) = zN (zSub q (zK s d y))
      · rw [if_pos c2, m_gt r2 ry8 (by decide) (by decide) (show zS x by unfold zS; omega) (show zS y by unfold zS; omega), Option.bind_some]
        simp only [bI_n0]
        cases c3 : zGb x y
        · rw [if_pos rfl]
          exact no (fun z => by rcases z with z | z; exact c1 z; exact (zGb_not _ _).mp c3 z.2)
        · rw [if_neg (by decide), t1]
          exact yes (Or.inr ⟨c2, (zGb_iff _ _).mp c3⟩)
      · rw [if_neg c2]
        exact no (fun z => by rcases z with z | z; exact c1 z; exact c2 z.1)
  · obtain ⟨v, hv⟩ := m_normAny ρ (k := 9) (o := 0) (by decide)
    rw [hv, Option.bind_some]
    simp only [bI_n0]
    rw [if_neg (by decide), t1]
    exact ⟨τ, x, rfl, t2, t3, tf, Or.inl ⟨trivial, rfl⟩⟩

/-- the digits of a code, laid down one after the other -/
theorem nI_div6 {c : Nat} (h : c < 2000000) : nI c / nI 6 = nI (c / 6) := by
  rw [qj_nat, qj_nat, qj_nat, qj_div (qR_of (by omega) (by omega)) (qR_of (by decide) (by decide)) (by decide), Int.tdiv_eq_ediv_of_nonneg (by omega)]
  rfl
theorem m_dig {n : Int} {k1 : Nat} {p2 : Int32} {k3 : Nat} {p4 p5 v7 v8 : Int32} (K : Int32 → Int32 → Int32 → QMem → Option QMem) {m i c : Nat} {μ : QMem} {e : Int} (hi : i < 4) (hc : c < 2000) (he : μ 12 i = qj e) (be : -1000 ≤ e ∧ e ≤ 1000) (hn : 0 < n ∧ n ≤ 1000) : fX12_laysNearest_L55 k1 p2 k3 p4 p5 K (m + 1) (qj n) v7 v8 (nI c) (nI i) μ = fX12_laysNearest_L55 k1 p2 k3 p4 p5 K m (qj n) v7 v8 (nI (c / 6)) (nI (i + 1)) (ms μ 10 i (qj (e / n + 3 - ((c % 6 : Nat) : Int)))) := by
  have m10 : ml 10 = 4 := rfl
  have m12 : ml 12 = 4 := rfl
  have dg : nI c - nI (c / 6) * nI 6 = qj ((c % 6 : Nat) : Int) := by
    rw [qj_nat, qj_nat, qj_nat, qj_mul, qj_sub]
    congr 1
    omega
  rw [fX12_laysNearest_L55]
  simp (disch := omega) only [Option.bind_some, i32_lit2, nI_add, cI, nI_ltT, nI_ltF, nI_leT, nI_leF, nI_eqF, nat_leF, or_self, or_false, false_or, if_true, if_false, not_true, not_false, bI_n0, bI_n1, b_em, eq_self, m10, m12, he, m_down be hn, nI_div6, dg]
  rw [show nI 3 = qj 3 from rfl, qj_add, qj_sub]
def lnP (c : Nat) : Prop := c = 2 ∨ (8 ≤ c ∧ c ≤ 12)
theorem zCand_B {e : ZQ} {n : Int} {c : Nat} (he : zB 300 e) (hn : 0 < n) : zB 304 (zCand e n c) := by
  have q : ∀ t : Int, -300 ≤ t ∧ t ≤ 300 → -300 ≤ t / n ∧ t / n ≤ 300 := by
    intro t ht
    have e1 := Int.mul_ediv_add_emod t n
    have e2 := Int.emod_nonneg t (show n ≠ 0 by omega)
    have e3 := Int.emod_lt_of_pos t hn
    constructor
    · apply Classical.byContradiction
      intro z
      have : n * (t / n) ≤ n * (-301) := Int.mul_le_mul_of_nonneg_left (by omega) (by omega)
      omega
    · apply Classical.byContradiction
      intro z
      have : n * 301 ≤ n * (t / n) := Int.mul_le_mul_of_nonneg_left (by omega) (by omega)
      omega
  obtain ⟨a1, a2, a3, a4⟩ := he
  have b1 := q _ a1
  have b2 := q _ a2
  have b3 := q _ a3
  have b4 := q _ a4
  unfold zCand
  refine ⟨?_, ?_, ?_, ?_⟩ <;> simp only <;> omega
/-- the best of those tried so far -/
def nBest (s : Int32) (q d : ZQ) (c : Nat) (μ : QMem) (first : Bool) : Prop :=
  (first = true ∧ ∀ j, j < c → ¬ zL (zCand (zEx s q d) (zN d) j)) ∨ (first = false ∧ ∃ y, mAt μ 8 0 y ∧ mAt μ 9 0 (zSub q (zK s d y)) ∧ zL y ∧ zB 304 y ∧ (∃ j, j < c ∧ y = zCand (zEx s q d) (zN d) j) ∧ ∀ j, j < c → zL (zCand (zEx s q d) (zN d) j) → ¬ zBt s q d (zCand (zEx s q d) (zN d) j) y)
theorem m_near_loop {k o k3 o3 : Nat} {q d : ZQ} (s : Int32) (hk : ¬ lnP k) (hk3 : ¬ lnP k3) (ho : o + 3 < ml k) (ho3 : o3 + 3 < ml k3) (vq : qV q) (vd : qV d) (h0 : d ≠ z0) : ∀ (m c n : Nat) (μ : QMem) (first : Bool), c + m = 1296 → m < n → mAt μ k o q → mAt μ k3 o3 d → mAt μ 12 0 (zEx s q d) → nBest s q d c μ first →
    ∃ τ first2, fX12_laysNearest_L40 k (nI o) k3 (nI o3) s n (qj (zN d)) (bI first) (nI c) μ = some τ ∧ nBest s q d 1296 τ first2 ∧ fq lnP μ τ := by
  have hn := zN_pos vd.1 h0
  have hn2 := qV_N vd
  have eB := zEx_B (s := s) vq vd
  unfold lnP at hk hk3
  intro m
  induction m with
  | zero =>
    intro c n μ first hc hn' hq hd he hb
    obtain ⟨n, rfl⟩ : ∃ m, n = m + 1 := ⟨n - 1, by omega⟩
    have : c = 1296 := by omega
    subst this
    rw [fX12_laysNearest_L40]
    simp (disch := omega) only [Option.bind_some, i32_lit2, nI_add, nI_mulM, cI, nI_ltT, nI_ltF, nI_leT, nI_leF, nI_eqF, nat_leF, or_self, or_false, false_or, if_true, if_false, not_true, not_false, bI_n0, bI_n1, b_em, eq_self]
    exact ⟨μ, first, rfl, hb, fq.refl _ _⟩
  | succ m ih =>
    intro c n μ first hc hn' hq hd he hb
    obtain ⟨n, rfl⟩ : ∃ m, n = m + 1 := ⟨n - 1, by omega⟩
    have he' := he
    obtain ⟨e1, e2, e3, e4⟩ := he
    have xB := zCand_B (c := c) eB hn
    rw [fX12_laysNearest_L40]
    simp (disch := omega) only [Option.bind_some, i32_lit2, nI_add, nI_mulM, cI, nI_ltT, nI_ltF, nI_leT, nI_leF, nI_eqF, nat_leF, or_self, or_false, false_or, if_true, if_false, not_true, not_false, bI_n0, bI_n1, b_em, eq_self]
    rw [show FU = 1995 + 1 + 1 + 1 + 1 + 1 from rfl]
    have b := eB
    obtain ⟨b1, b2, b3, b4⟩ := b
    have w : ∀ t : Int, (-300 ≤ t ∧ t ≤ 300) → -1000 ≤ t ∧ t ≤ 1000 := fun t h => by omega
    rw [m_dig (e := (zEx s q d).1) _ (i := 0) (by decide) (by omega) e1 (w _ b1) ⟨hn, by omega⟩]
    rw [m_dig (e := (zEx s q d).2.1) _ (i := 0 + 1) (by decide) (by omega) (by rw [ms_cell _ (by decide)]; exact e2) (w _ b2) ⟨hn, by omega⟩]
    rw [m_dig (e := (zEx s q d).2.2.1) _ (i := 0 + 1 + 1) (by decide) (by omega) (by rw [ms_cell _ (by decide), ms_cell _ (by decide)]; exact e3) (w _ b3) ⟨hn, by omega⟩]
    rw [m_dig (e := (zEx s q d).2.2.2) _ (i := 0 + 1 + 1 + 1) (by decide) (by omega) (by rw [ms_cell _ (by decide), ms_cell _ (by decide), ms_cell _ (by decide)]; exact e4) (w _ b4) ⟨hn, by omega⟩]
    have fin : ms (ms (ms (ms μ 10 0 (qj ((zEx s q d).1 / zN d + 3 - ((c % 6 : Nat) : Int)))) 10 (0 + 1) (qj ((zEx s q d).2.1 / zN d + 3 - ((c / 6 % 6 : Nat) : Int)))) 10 (0 + 1 + 1) (qj ((zEx s q d).2.2.1 / zN d + 3 - ((c / 6 / 6 % 6 : Nat) : Int)))) 10 (0 + 1 + 1 + 1) (qj ((zEx s q d).2.2.2 / zN d + 3 - ((c / 6 / 6 / 6 % 6 : Nat) : Int))) = mPut μ 10 0 (zCand (zEx s q d) (zN d) c) := rfl
    rw [fin]
    generalize hx : zCand (zEx s q d) (zN d) c = x at xB
    generalize hρ : mPut μ 10 0 x = ρ
    have rx : mAt ρ 10 0 x := by rw [← hρ]; exact mPut_at _ _ _ _
    have rf : fq (fun c => c = 10) μ ρ := by rw [← hρ]; exact fq_put (P := fun c => c = 10) (k := 10) 0 _ rfl
    have rf2 : fq lnP μ ρ := rf.weaken (fun c h => by unfold lnP; omega)
    have rq := rf.at (by omega) hq
    have rd := rf.at (by omega) hd
    have re := rf.at (by decide) he'
    have m10 : ml 10 = 4 := rfl
    have rx' := rx
    obtain ⟨x1, x2, x3, x4⟩ := rx
    have x2' : ρ 10 1 = qj x.2.1 := x2
    have x3' : ρ 10 2 = qj x.2.2.1 := x3
    have x4' : ρ 10 3 = qj x.2.2.2 := x4
    obtain ⟨y1, y2, y3, y4⟩ := xB
    have tb : ∀ t : Int, (-304 ≤ t ∧ t ≤ 304) → -20000 ≤ t ∧ t ≤ 20000 := fun t h => by omega
    rw [fX12_laysNearest_L55]
    simp (disch := omega) only [Option.bind_some, i32_lit2, nI_add, nI_mulM, cI, nI_ltT, nI_ltF, nI_leT, nI_leF, nI_eqF, nat_leF, or_self, or_false, false_or, if_true, if_false, not_true, not_false, bI_n0, bI_n1, b_em, eq_self, m10]
    rw [x1, x2', x3', x4', m_like (tb _ y1) (tb _ y2) (tb _ y3) (tb _ y4), Option.bind_some]
    simp only [bI_n0]
    cases lk : zLb x.1 x.2.1 x.2.2.1 x.2.2.2
    · have nl : ¬ zL x := fun z => by
        have := (zLb_iff x).mpr z
        rw [lk] at this
        exact absurd this (by decide)
      rw [if_pos rfl]
      unfold fX12_laysNearest_J147
      have step : nBest s q d (c + 1) ρ first := by
        rcases hb with ⟨u1, u2⟩ | ⟨u1, y, v1, v2, v3, v4, ⟨j, v5, v6⟩, v7⟩
        · refine Or.inl ⟨u1, fun j hj => ?_⟩
          by_cases hjc : j = c
          · rw [hjc, hx]; exact nl
          · exact u2 j (by omega)
        · refine Or.inr ⟨u1, y, rf.at (by decide) v1, rf.at (by decide) v2, v3, v4, ⟨j, by omega, v6⟩, fun j hj hl => ?_⟩
          by_cases hjc : j = c
          · rw [hjc, hx] at hl; exact absurd hl nl
          · exact v7 j (by omega) hl
      obtain ⟨τ, f2, t1, t2, t3⟩ := ih (c + 1) n ρ first (by omega) (by omega) rq rd re step
      refine ⟨τ, f2, ?_, t2, rf2.trans t3⟩
      simp only [Option.bind_some, i32_lit2, nI_add, nI_mulM, cI, nI_ltT, nI_ltF, nI_leT, nI_leF, nI_eqF, nat_leF, or_self, or_false, false_or, if_true, if_false, not_true, not_false, bI_n0, bI_n1, b_em, eq_self]
      exact t1
    · have ll : zL x := (zLb_iff x).mp lk
      rw [if_neg (by decide)]
      have hb' : first = false → ∃ y, mAt ρ 8 0 y ∧ mAt ρ 9 0 (zSub q (zK s d y)) ∧ zL y ∧ zB 304 y := by
        intro hf
        rcases hb with ⟨u1, -⟩ | ⟨-, y, v1, v2, v3, v4, -, -⟩
        · rw [hf] at u1; exact absurd u1 (by decide)
        · exact ⟨y, rf.at (by decide) v1, rf.at (by decide) v2, v3, v4⟩
      obtain ⟨π, y, p1, p2, p3, p4, p5⟩ := m_tryN s (by omega) (by omega) ho ho3 rq rd rx' vq vd ll ⟨y1, y2, y3, y4⟩ first hb'
      rw [p1, Option.bind_some]
      unfold fX12_laysNearest_J147
      have step : nBest s q d (c + 1) π false := by
        right
        refine ⟨rfl, y, p2, p3, ?_⟩
        rcases p5 with ⟨u1, rfl⟩ | ⟨u1, u2⟩
        · refine ⟨ll, ⟨y1, y2, y3, y4⟩, ⟨c, by omega, hx.symm⟩, fun j hj hl => ?_⟩
          rcases hb with ⟨-, w2⟩ | ⟨w1, -⟩
          · by_cases hjc : j = c
            · rw [hjc, hx]; exact zBt_irr s q d y
            · exact absurd hl (w2 j (by omega))
          · rw [u1] at w1; exact absurd w1 (by decide)
        · rcases hb with ⟨w1, -⟩ | ⟨-, y0, v1, v2, v3, v4, ⟨j0, v5, v6⟩, v7⟩
          · rw [u1] at w1; exact absurd w1 (by decide)
          · rcases u2 y0 (rf.at (by decide) v1) (rf.at (by decide) v2) v3 v4 with ⟨a1, rfl⟩ | ⟨a1, rfl⟩
            · refine ⟨ll, ⟨y1, y2, y3, y4⟩, ⟨c, by omega, hx.symm⟩, fun j hj hl => ?_⟩
              by_cases hjc : j = c
              · rw [hjc, hx]; exact zBt_irr s q d y
              · exact zBt_step a1 (v7 j (by omega) hl)
            · refine ⟨v3, v4, ⟨j0, by omega, v6⟩, fun j hj hl => ?_⟩
              by_cases hjc : j = c
              · rw [hjc, hx]; exact a1
              · exact v7 j (by omega) hl
      have pf2 : fq lnP ρ π := p4.weaken (fun c h => by unfold tnP at h; unfold lnP; omega)
      obtain ⟨τ, f2, t1, t2, t3⟩ := ih (c + 1) n π false (by omega) (by omega) (p4.at (by unfold tnP; omega) rq) (p4.at (by unfold tnP; omega) rd) (p4.at (by unfold tnP; decide) re) step
      refine ⟨τ, f2, ?_, t2, (rf2.trans pf2).trans t3⟩
      simp only [Option.bind_some, i32_lit2, nI_add, nI_mulM, cI, nI_ltT, nI_ltF, nI_leT, nI_leF, nI_eqF, nat_leF, or_self, or_false, false_or, if_true, if_false, not_true, not_false, bI_n0, bI_n1, b_em, eq_self]
      exact t1
theorem m_lays {μ : QMem} {k o k3 o3 : Nat} {q d : ZQ} (s : Int32) (hk : ¬ lnP k) (hk3 : ¬ lnP k3) (ho : o + 3 < ml k) (ho3 : o3 + 3 < ml k3) (hq : mAt μ k o q) (hd : mAt μ k3 o3 d) (vq : qV q) (vd : qV d) (h0 : d ≠ z0) :
    ∃ τ, fX12_laysNearest k (nI o) k3 (nI o3) s μ = some τ ∧ mAt τ 8 0 (zNx s q d) ∧ mAt τ 9 0 (zRs s q d) ∧ fq lnP μ τ := by
  have hn := zN_pos vd.1 h0
  have sC : zS (zC d) := by unfold zS; rw [zC_N4]; exact qV_S vd
  have hk' := hk
  have hk3' := hk3
  unfold lnP at hk' hk3'
  unfold fX12_laysNearest
  rw [m_norm hd ho3 (Int.le_trans vd.2 (by decide)), Option.bind_some]
  simp only
  rw [m_conj hd ho3 (by omega), Option.bind_some, show (0 : Int32) = nI 0 from rfl, m_makes s 12 (mPut_at μ 2 0 (zC d)) (mAt_ne (k := k) (k2 := 2) (by omega) hq) (by decide) ho (by decide) (zC_L vd.1) vq.1 sC (qV_S vq), Option.bind_some]
  have f1 : fq lnP μ (mPut (mPut μ 2 0 (zC d)) 12 0 (zK s (zC d) q)) := (fq_put (P := lnP) (k := 2) 0 _ (Or.inl rfl)).trans (fq_put (k := 12) 0 _ (Or.inr (by decide)))
  obtain ⟨τ, f2, t1, t2, t3⟩ := m_near_loop s hk hk3 ho ho3 vq vd h0 1296 0 FU (mPut (mPut μ 2 0 (zC d)) 12 0 (zK s (zC d) q)) true (by omega) (by unfold FU; omega) (f1.at hk hq) (f1.at hk3 hd) (mPut_at _ _ _ _) (Or.inl ⟨rfl, fun j hj => by omega⟩)
  have best := zNr_best (e := zEx s q d) hn
  obtain ⟨n1, n2, n3, n4⟩ := zNr_nc (e := zEx s q d) hn
  obtain ⟨c, c1, c2⟩ := zCand_has hn n1 n2 n3 n4
  have key : mAt τ 8 0 (zNx s q d) ∧ mAt τ 9 0 (zRs s q d) := by
    rcases t2 with ⟨-, u2⟩ | ⟨-, y, v1, v2, v3, v4, -, v7⟩
    · exact absurd (by rw [c2]; exact best.1) (u2 c c1)
    · have nb := v7 c c1 (by rw [c2]; exact best.1)
      rw [c2] at nb
      obtain ⟨b1, b2⟩ := best.2 y v3
      have iff := zDs_N (s := s) vq.1 vd.1 h0 best.1 v3
      have iff2 := zDs_N (s := s) vq.1 vd.1 h0 v3 best.1
      rw [iff.1] at b1
      rw [iff2.2] at b2
      have ey : y = zNx s q d := by
        unfold zBt at nb
        have eq : zN (zSub q (zK s d y)) = zN (zSub q (zK s d (zNr (zEx s q d) (zN d)))) := by
          apply Classical.byContradiction
          intro z
          exact nb (Or.inl (by omega))
        exact zGt_eq (b2 eq) (fun z => nb (Or.inr ⟨eq.symm, z⟩))
      subst ey
      exact ⟨v1, v2⟩
  exact ⟨τ, t1, key.1, key.2, f1.trans t3⟩
