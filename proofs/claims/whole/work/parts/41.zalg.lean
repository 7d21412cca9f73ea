/-! QUATERNIONS ALONE: the ring, on either side -/
theorem zq_ext {x y : ZQ} (h1 : x.1 = y.1) (h2 : x.2.1 = y.2.1) (h3 : x.2.2.1 = y.2.2.1) (h4 : x.2.2.2 = y.2.2.2) : x = y := Prod.ext h1 (Prod.ext h2 (Prod.ext h3 h4))
theorem zq_inj {a b c d e f g h : Int} (q : ((a, b, c, d) : ZQ) = (e, f, g, h)) : a = e ∧ b = f ∧ c = g ∧ d = h := by
  simp only [Prod.mk.injEq] at q
  exact q
def zAdd (x y : ZQ) : ZQ := (x.1 + y.1, x.2.1 + y.2.1, x.2.2.1 + y.2.2.1, x.2.2.2 + y.2.2.2)
def zSub (x y : ZQ) : ZQ := (x.1 - y.1, x.2.1 - y.2.1, x.2.2.1 - y.2.2.1, x.2.2.2 - y.2.2.2)
def zSc (n : Int) (x : ZQ) : ZQ := (n * x.1, n * x.2.1, n * x.2.2.1, n * x.2.2.2)
def z1 : ZQ := (2, 0, 0, 0)
def zN (q : ZQ) : Int := zN4 q / 4
theorem zL_par {x : ZQ} (h : zL x) : ∃ a b c d : Int, x = (a, a + 2 * b, a + 2 * c, a + 2 * d) := by
  obtain ⟨a, b, c, d⟩ := x
  unfold zL at h
  simp only at h
  refine ⟨a, (b - a) / 2, (c - a) / 2, (d - a) / 2, ?_⟩
  refine zq_ext rfl ?_ ?_ ?_ <;> simp only <;> omega
theorem zL_of (a b c d : Int) : zL (a, a + 2 * b, a + 2 * c, a + 2 * d) := by
  unfold zL
  simp only
  omega
def zPm (a b c d e f g h : Int) : ZQ := (-(a*e) - a*f - a*g - a*h - b*e - c*e - d*e - 2*(b*f) - 2*(c*g) - 2*(d*h), a*e + a*f + b*e + a*h + c*e + 2*(c*h) - a*g - d*e - 2*(d*g), a*e + a*g - a*h - b*e - 2*(b*h) + c*e + a*f + d*e + 2*(d*f), a*e + a*h + a*g + b*e + 2*(b*g) - a*f - c*e - 2*(c*f) + d*e)
theorem zM_par (a b c d e f g h : Int) : zM (a, a + 2 * b, a + 2 * c, a + 2 * d) (e, e + 2 * f, e + 2 * g, e + 2 * h) = zPm a b c d e f g h := by
  have h1 : zM2 (a, a + 2 * b, a + 2 * c, a + 2 * d) (e, e + 2 * f, e + 2 * g, e + 2 * h) = zSc 2 (zPm a b c d e f g h) := by
    unfold zM2 zSc zPm
    refine zq_ext ?_ ?_ ?_ ?_ <;> simp only <;> grind
  unfold zM
  rw [h1]
  unfold zSc
  refine zq_ext ?_ ?_ ?_ ?_ <;> simp only <;> omega
theorem zPm_L (a b c d e f g h : Int) : zL (zPm a b c d e f g h) := by
  unfold zL zPm
  simp only
  omega
theorem zM_L {x y : ZQ} (hx : zL x) (hy : zL y) : zL (zM x y) := by
  obtain ⟨a, b, c, d, rfl⟩ := zL_par hx
  obtain ⟨e, f, g, h, rfl⟩ := zL_par hy
  rw [zM_par]
  exact zPm_L _ _ _ _ _ _ _ _
theorem zM_dbl {x y : ZQ} (hx : zL x) (hy : zL y) : zSc 2 (zM x y) = zM2 x y := (zM_two hx hy).symm
theorem zSc_inj {n : Int} (hn : n ≠ 0) {x y : ZQ} (h : zSc n x = zSc n y) : x = y := by
  obtain ⟨h1, h2, h3, h4⟩ := zq_inj h
  exact zq_ext (Int.eq_of_mul_eq_mul_left hn h1) (Int.eq_of_mul_eq_mul_left hn h2) (Int.eq_of_mul_eq_mul_left hn h3) (Int.eq_of_mul_eq_mul_left hn h4)
theorem zSc_zSc (m n : Int) (x : ZQ) : zSc m (zSc n x) = zSc (m * n) x := by
  unfold zSc
  refine zq_ext ?_ ?_ ?_ ?_ <;> simp only <;> exact (Int.mul_assoc _ _ _).symm
theorem zM2_scl (n : Int) (x y : ZQ) : zM2 (zSc n x) y = zSc n (zM2 x y) := by
  unfold zM2 zSc
  refine zq_ext ?_ ?_ ?_ ?_ <;> simp only <;> grind
theorem zM2_scr (n : Int) (x y : ZQ) : zM2 x (zSc n y) = zSc n (zM2 x y) := by
  unfold zM2 zSc
  refine zq_ext ?_ ?_ ?_ ?_ <;> simp only <;> grind
theorem zM_assoc {x y z : ZQ} (hx : zL x) (hy : zL y) (hz : zL z) : zM (zM x y) z = zM x (zM y z) := by
  apply zSc_inj (n := 4) (by decide)
  have e1 : zSc 4 (zM (zM x y) z) = zM2 (zM2 x y) z := by
    rw [← zM_dbl hx hy, zM2_scl, ← zM_dbl (zM_L hx hy) hz, zSc_zSc]
    rfl
  have e2 : zSc 4 (zM x (zM y z)) = zM2 x (zM2 y z) := by
    rw [← zM_dbl hy hz, zM2_scr, ← zM_dbl hx (zM_L hy hz), zSc_zSc]
    rfl
  rw [e1, e2, zM2_assoc]
theorem zN4_four {x : ZQ} (h : zL x) : zN4 x = 4 * zN x := by
  obtain ⟨a, b, c, d, rfl⟩ := zL_par h
  have e : zN4 (a, a + 2 * b, a + 2 * c, a + 2 * d) = 4 * (a * a + a * b + a * c + a * d + b * b + c * c + d * d) := by
    unfold zN4
    simp only
    grind
  unfold zN
  rw [e]
  omega
theorem zN4_nn (x : ZQ) : 0 ≤ zN4 x := by
  unfold zN4
  have h1 := sq_nn x.1
  have h2 := sq_nn x.2.1
  have h3 := sq_nn x.2.2.1
  have h4 := sq_nn x.2.2.2
  omega
theorem zN_nn (x : ZQ) : 0 ≤ zN x := by
  have := zN4_nn x
  unfold zN
  omega
theorem zN4_zero {x : ZQ} (h : zN4 x = 0) : x = z0 := by
  unfold zN4 at h
  have h1 := sq_nn x.1
  have h2 := sq_nn x.2.1
  have h3 := sq_nn x.2.2.1
  have h4 := sq_nn x.2.2.2
  have s : ∀ t : Int, t * t = 0 → t = 0 := fun t q => (Int.mul_eq_zero.mp q).elim id id
  exact zq_ext (s _ (by omega)) (s _ (by omega)) (s _ (by omega)) (s _ (by omega))
theorem zN_zero {x : ZQ} (hx : zL x) (h : zN x = 0) : x = z0 := zN4_zero (by rw [zN4_four hx, h]; rfl)
theorem zN_pos {x : ZQ} (hx : zL x) (h : x ≠ z0) : 0 < zN x := by
  have h1 := zN_nn x
  rcases Int.lt_or_eq_of_le h1 with q | q
  · exact q
  · exact absurd (zN_zero hx q.symm) h
theorem zN_M {x y : ZQ} (hx : zL x) (hy : zL y) : zN (zM x y) = zN x * zN y := by
  have h := zN4_M hx hy
  rw [zN4_four (zM_L hx hy), zN4_four hx, zN4_four hy] at h
  have e : 4 * zN x * (4 * zN y) = 16 * (zN x * zN y) := by grind
  omega
theorem zC_L {x : ZQ} (h : zL x) : zL (zC x) := by
  unfold zL at *
  unfold zC
  simp only
  omega
theorem zC_C (x : ZQ) : zC (zC x) = x := by
  unfold zC
  refine zq_ext rfl ?_ ?_ ?_ <;> simp only <;> omega
theorem zC_N4 (x : ZQ) : zN4 (zC x) = zN4 x := by
  unfold zN4 zC
  simp only [Int.neg_mul_neg]
theorem zC_N (x : ZQ) : zN (zC x) = zN x := by unfold zN; rw [zC_N4]
theorem zC_M {x y : ZQ} (hx : zL x) (hy : zL y) : zC (zM x y) = zM (zC y) (zC x) := by
  apply zSc_inj (n := 2) (by decide)
  rw [zM_dbl (zC_L hy) (zC_L hx)]
  have e : zSc 2 (zC (zM x y)) = zC (zSc 2 (zM x y)) := by
    unfold zSc zC
    refine zq_ext rfl ?_ ?_ ?_ <;> simp only <;> omega
  rw [e, zM_dbl hx hy]
  unfold zM2 zC
  refine zq_ext ?_ ?_ ?_ ?_ <;> simp only <;> grind
theorem zM2_Cl (d x : ZQ) : zM2 (zC d) (zM2 d x) = zSc (zN4 d) x := by
  unfold zM2 zC zSc zN4
  refine zq_ext ?_ ?_ ?_ ?_ <;> simp only <;> grind
theorem zM2_Cr (d x : ZQ) : zM2 (zM2 x d) (zC d) = zSc (zN4 d) x := by
  unfold zM2 zC zSc zN4
  refine zq_ext ?_ ?_ ?_ ?_ <;> simp only <;> grind
theorem zM_Cl {d x : ZQ} (hd : zL d) (hx : zL x) : zM (zC d) (zM d x) = zSc (zN d) x := by
  apply zSc_inj (n := 4) (by decide)
  have e : zSc 4 (zM (zC d) (zM d x)) = zM2 (zC d) (zM2 d x) := by
    rw [← zM_dbl hd hx, zM2_scr, ← zM_dbl (zC_L hd) (zM_L hd hx), zSc_zSc]
    rfl
  rw [e, zM2_Cl, zSc_zSc, ← zN4_four hd]
theorem zM_Cr {d x : ZQ} (hd : zL d) (hx : zL x) : zM (zM x d) (zC d) = zSc (zN d) x := by
  apply zSc_inj (n := 4) (by decide)
  have e : zSc 4 (zM (zM x d) (zC d)) = zM2 (zM2 x d) (zC d) := by
    rw [← zM_dbl hx hd, zM2_scl, ← zM_dbl (zM_L hx hd) (zC_L hd), zSc_zSc]
    rfl
  rw [e, zM2_Cr, zSc_zSc, ← zN4_four hd]
theorem zSub_L {x y : ZQ} (hx : zL x) (hy : zL y) : zL (zSub x y) := by
  unfold zL at *
  unfold zSub
  simp only
  omega
theorem zAdd_L {x y : ZQ} (hx : zL x) (hy : zL y) : zL (zAdd x y) := by
  unfold zL at *
  unfold zAdd
  simp only
  omega
theorem zSc_L {x : ZQ} (n : Int) (hx : zL x) : zL (zSc n x) := by
  obtain ⟨a, b, c, d, rfl⟩ := zL_par hx
  have e : zSc n (a, a + 2 * b, a + 2 * c, a + 2 * d) = (n * a, n * a + 2 * (n * b), n * a + 2 * (n * c), n * a + 2 * (n * d)) := by
    unfold zSc
    refine zq_ext rfl ?_ ?_ ?_ <;> simp only <;> grind
  rw [e]
  exact zL_of _ _ _ _
theorem z0_L : zL z0 := by unfold zL z0; decide
theorem z1_L : zL z1 := by unfold zL z1; decide
theorem zM_lin {x y z : ZQ} (hx : zL x) (hy : zL y) (hz : zL z) : zM x (zSub y z) = zSub (zM x y) (zM x z) ∧ zM (zSub y z) x = zSub (zM y x) (zM z x) ∧ zM x (zAdd y z) = zAdd (zM x y) (zM x z) ∧ zM (zAdd y z) x = zAdd (zM y x) (zM z x) := by
  have s2 : ∀ u v : ZQ, zSc 2 (zSub u v) = zSub (zSc 2 u) (zSc 2 v) := fun u v => by
    unfold zSc zSub
    refine zq_ext ?_ ?_ ?_ ?_ <;> simp only <;> omega
  have a2 : ∀ u v : ZQ, zSc 2 (zAdd u v) = zAdd (zSc 2 u) (zSc 2 v) := fun u v => by
    unfold zSc zAdd
    refine zq_ext ?_ ?_ ?_ ?_ <;> simp only <;> omega
  refine ⟨?_, ?_, ?_, ?_⟩ <;> apply zSc_inj (n := 2) (by decide)
  · rw [s2, zM_dbl hx (zSub_L hy hz), zM_dbl hx hy, zM_dbl hx hz]
    unfold zM2 zSub
    refine zq_ext ?_ ?_ ?_ ?_ <;> simp only <;> grind
  · rw [s2, zM_dbl (zSub_L hy hz) hx, zM_dbl hy hx, zM_dbl hz hx]
    unfold zM2 zSub
    refine zq_ext ?_ ?_ ?_ ?_ <;> simp only <;> grind
  · rw [a2, zM_dbl hx (zAdd_L hy hz), zM_dbl hx hy, zM_dbl hx hz]
    unfold zM2 zAdd
    refine zq_ext ?_ ?_ ?_ ?_ <;> simp only <;> grind
  · rw [a2, zM_dbl (zAdd_L hy hz) hx, zM_dbl hy hx, zM_dbl hz hx]
    unfold zM2 zAdd
    refine zq_ext ?_ ?_ ?_ ?_ <;> simp only <;> grind
theorem zM_sc {x y : ZQ} (hx : zL x) (hy : zL y) (n : Int) : zM x (zSc n y) = zSc n (zM x y) ∧ zM (zSc n x) y = zSc n (zM x y) := by
  have c2 : ∀ u : ZQ, zSc 2 (zSc n u) = zSc n (zSc 2 u) := fun u => by rw [zSc_zSc, zSc_zSc, Int.mul_comm]
  constructor <;> apply zSc_inj (n := 2) (by decide)
  · rw [c2, zM_dbl hx hy, zM_dbl hx (zSc_L n hy), zM2_scr]
  · rw [c2, zM_dbl hx hy, zM_dbl (zSc_L n hx) hy, zM2_scl]
theorem zM_one {x : ZQ} (hx : zL x) : zM x z1 = x ∧ zM z1 x = x := by
  constructor <;> apply zSc_inj (n := 2) (by decide)
  · rw [zM_dbl hx z1_L]
    unfold zM2 zSc z1
    refine zq_ext ?_ ?_ ?_ ?_ <;> simp only <;> omega
  · rw [zM_dbl z1_L hx]
    unfold zM2 zSc z1
    refine zq_ext ?_ ?_ ?_ ?_ <;> simp only <;> omega
/-! on a side: what two make there -/
def zK (s : Int32) (d x : ZQ) : ZQ := if s = 0 then zM d x else zM x d
theorem zK_L {s : Int32} {x y : ZQ} (hx : zL x) (hy : zL y) : zL (zK s x y) := by
  unfold zK
  split
  · exact zM_L hx hy
  · exact zM_L hy hx
theorem zK_N {s : Int32} {x y : ZQ} (hx : zL x) (hy : zL y) : zN (zK s x y) = zN x * zN y := by
  unfold zK
  split
  · exact zN_M hx hy
  · rw [zN_M hy hx, Int.mul_comm]
theorem zK_assoc {s : Int32} {x y z : ZQ} (hx : zL x) (hy : zL y) (hz : zL z) : zK s (zK s x y) z = zK s x (zK s y z) := by
  unfold zK
  split
  · exact zM_assoc hx hy hz
  · exact (zM_assoc hz hy hx).symm
theorem zK_C {s : Int32} {d x : ZQ} (hd : zL d) (hx : zL x) : zK s (zC d) (zK s d x) = zSc (zN d) x := by
  unfold zK
  split
  · exact zM_Cl hd hx
  · exact zM_Cr hd hx
theorem zK_C2 {s : Int32} {d x : ZQ} (hd : zL d) (hx : zL x) : zK s d (zK s (zC d) x) = zSc (zN d) x := by
  have h := zK_C (s := s) (zC_L hd) hx
  rw [zC_C, zC_N] at h
  exact h
theorem zC_K {s : Int32} {x y : ZQ} (hx : zL x) (hy : zL y) : zC (zK s x y) = zK s (zC y) (zC x) := by
  unfold zK
  split
  · exact zC_M hx hy
  · exact zC_M hy hx
theorem zK_sub {s : Int32} {x y z : ZQ} (hx : zL x) (hy : zL y) (hz : zL z) : zK s x (zSub y z) = zSub (zK s x y) (zK s x z) := by
  obtain ⟨h1, h2, -, -⟩ := zM_lin hx hy hz
  unfold zK
  split
  · exact h1
  · exact h2
theorem zK_subl {s : Int32} {x y z : ZQ} (hx : zL x) (hy : zL y) (hz : zL z) : zK s (zSub y z) x = zSub (zK s y x) (zK s z x) := by
  obtain ⟨h1, h2, -, -⟩ := zM_lin hx hy hz
  unfold zK
  split
  · exact h2
  · exact h1
theorem zK_add {s : Int32} {x y z : ZQ} (hx : zL x) (hy : zL y) (hz : zL z) : zK s x (zAdd y z) = zAdd (zK s x y) (zK s x z) := by
  obtain ⟨-, -, h1, h2⟩ := zM_lin hx hy hz
  unfold zK
  split
  · exact h1
  · exact h2
theorem zK_addl {s : Int32} {x y z : ZQ} (hx : zL x) (hy : zL y) (hz : zL z) : zK s (zAdd y z) x = zAdd (zK s y x) (zK s z x) := by
  obtain ⟨-, -, h1, h2⟩ := zM_lin hx hy hz
  unfold zK
  split
  · exact h2
  · exact h1
theorem zK_sc {s : Int32} {x y : ZQ} (hx : zL x) (hy : zL y) (n : Int) : zK s x (zSc n y) = zSc n (zK s x y) := by
  unfold zK
  split
  · exact (zM_sc hx hy n).1
  · exact (zM_sc hy hx n).2
theorem zK_scl {s : Int32} {x y : ZQ} (hx : zL x) (hy : zL y) (n : Int) : zK s (zSc n x) y = zSc n (zK s x y) := by
  unfold zK
  split
  · exact (zM_sc hx hy n).2
  · exact (zM_sc hy hx n).1
theorem zK_one {s : Int32} {x : ZQ} (hx : zL x) : zK s x z1 = x := by
  unfold zK
  split
  · exact (zM_one hx).1
  · exact (zM_one hx).2
theorem zK_onel {s : Int32} {x : ZQ} (hx : zL x) : zK s z1 x = x := by
  unfold zK
  split
  · exact (zM_one hx).2
  · exact (zM_one hx).1
theorem zSc_zero (x : ZQ) : zSc 0 x = z0 := by
  unfold zSc z0
  simp only [Int.zero_mul]
theorem zSc_one (x : ZQ) : zSc 1 x = x := by
  unfold zSc
  simp only [Int.one_mul]
theorem zN4_Sc (n : Int) (x : ZQ) : zN4 (zSc n x) = n * n * zN4 x := by
  unfold zN4 zSc
  simp only
  grind
theorem zN_Sc {x : ZQ} (hx : zL x) (n : Int) : zN (zSc n x) = n * n * zN x := by
  have h := zN4_Sc n x
  rw [zN4_four (zSc_L n hx), zN4_four hx] at h
  have e : n * n * (4 * zN x) = 4 * (n * n * zN x) := by grind
  omega
theorem zN_z0 : zN z0 = 0 := by decide
theorem zN_z1 : zN z1 = 1 := by decide
theorem zK_z0 {s : Int32} {x : ZQ} (hx : zL x) : zK s x z0 = z0 := by
  have h := zK_sc (s := s) hx z0_L 0
  rw [zSc_zero, zSc_zero] at h
  exact h
theorem zK_z0l {s : Int32} {x : ZQ} (hx : zL x) : zK s z0 x = z0 := by
  have h := zK_scl (s := s) z0_L hx 0
  rw [zSc_zero, zSc_zero] at h
  exact h
theorem zK_cancel {s : Int32} {d x y : ZQ} (hd : zL d) (h0 : d ≠ z0) (hx : zL x) (hy : zL y) (h : zK s d x = zK s d y) : x = y := by
  have h1 := congrArg (zK s (zC d)) h
  rw [zK_C hd hx, zK_C hd hy] at h1
  have := zN_pos hd h0
  exact zSc_inj (by omega) h1
theorem zSub_self (x : ZQ) : zSub x x = z0 := by
  unfold zSub z0
  simp only [Int.sub_self]
theorem zSub_eq0 {x y : ZQ} (h : zSub x y = z0) : x = y := by
  unfold zSub z0 at h
  obtain ⟨h1, h2, h3, h4⟩ := zq_inj h
  exact zq_ext (by omega) (by omega) (by omega) (by omega)
theorem zAdd_sub (x y : ZQ) : zAdd y (zSub x y) = x := by
  unfold zSub zAdd
  refine zq_ext ?_ ?_ ?_ ?_ <;> simp only <;> omega
theorem zSub_add (x y z : ZQ) : zSub (zAdd x y) (zAdd x z) = zSub y z := by
  unfold zSub zAdd
  refine zq_ext ?_ ?_ ?_ ?_ <;> simp only <;> omega
/-! what divides what -/
def zD (s : Int32) (d q : ZQ) : Prop := ∃ x, zL x ∧ zK s d x = q
theorem zD.refl {s : Int32} {q : ZQ} (hq : zL q) : zD s q q := ⟨z1, z1_L, zK_one hq⟩
theorem zD.trans {s : Int32} {a b c : ZQ} (ha : zL a) (h1 : zD s a b) (h2 : zD s b c) : zD s a c := by
  obtain ⟨x, hx, rfl⟩ := h1
  obtain ⟨y, hy, rfl⟩ := h2
  exact ⟨zK s x y, zK_L hx hy, (zK_assoc ha hx hy).symm⟩
theorem zD.zero {s : Int32} {d : ZQ} (hd : zL d) : zD s d z0 := ⟨z0, z0_L, zK_z0 hd⟩
theorem zD.mul {s : Int32} {d q y : ZQ} (hd : zL d) (h : zD s d q) (hy : zL y) : zD s d (zK s q y) := by
  obtain ⟨x, hx, rfl⟩ := h
  exact ⟨zK s x y, zK_L hx hy, (zK_assoc hd hx hy).symm⟩
theorem zD.sub {s : Int32} {d p q : ZQ} (hd : zL d) (h1 : zD s d p) (h2 : zD s d q) : zD s d (zSub p q) := by
  obtain ⟨x, hx, rfl⟩ := h1
  obtain ⟨y, hy, rfl⟩ := h2
  exact ⟨zSub x y, zSub_L hx hy, zK_sub hd hx hy⟩
theorem zD.add {s : Int32} {d p q : ZQ} (hd : zL d) (h1 : zD s d p) (h2 : zD s d q) : zD s d (zAdd p q) := by
  obtain ⟨x, hx, rfl⟩ := h1
  obtain ⟨y, hy, rfl⟩ := h2
  exact ⟨zAdd x y, zAdd_L hx hy, zK_add hd hx hy⟩
theorem zD.norm {s : Int32} {d q : ZQ} (hd : zL d) (h : zD s d q) : zN d ∣ zN q := by
  obtain ⟨x, hx, rfl⟩ := h
  exact ⟨zN x, zK_N hd hx⟩
theorem zD.L {s : Int32} {d q : ZQ} (hd : zL d) (h : zD s d q) : zL q := by
  obtain ⟨x, hx, rfl⟩ := h
  exact zK_L hd hx
/-- division by numbers, all four -/
def zDv (n : Int) (x : ZQ) : Prop := n ∣ x.1 ∧ n ∣ x.2.1 ∧ n ∣ x.2.2.1 ∧ n ∣ x.2.2.2
def zQu (n : Int) (x : ZQ) : ZQ := (x.1 / n, x.2.1 / n, x.2.2.1 / n, x.2.2.2 / n)
theorem zQu_Sc {n : Int} (hn : n ≠ 0) (x : ZQ) : zQu n (zSc n x) = x := by
  unfold zQu zSc
  refine zq_ext ?_ ?_ ?_ ?_ <;> simp only <;> exact Int.mul_ediv_cancel_left _ hn
theorem zDv_Sc (n : Int) (x : ZQ) : zDv n (zSc n x) := ⟨⟨_, rfl⟩, ⟨_, rfl⟩, ⟨_, rfl⟩, ⟨_, rfl⟩⟩
theorem zSc_Qu {n : Int} {x : ZQ} (h : zDv n x) : zSc n (zQu n x) = x := by
  unfold zQu zSc
  exact zq_ext (Int.mul_ediv_cancel' h.1) (Int.mul_ediv_cancel' h.2.1) (Int.mul_ediv_cancel' h.2.2.1) (Int.mul_ediv_cancel' h.2.2.2)
/-- what the test of division computes -/
theorem zD_iff {s : Int32} {d q : ZQ} (hd : zL d) (h0 : d ≠ z0) (hq : zL q) : zD s d q ↔ zDv (zN d) (zK s (zC d) q) ∧ zL (zQu (zN d) (zK s (zC d) q)) := by
  have hn := zN_pos hd h0
  constructor
  · rintro ⟨x, hx, rfl⟩
    rw [zK_C hd hx, zQu_Sc (by omega)]
    exact ⟨zDv_Sc _ _, hx⟩
  · rintro ⟨h1, h2⟩
    refine ⟨_, h2, ?_⟩
    have e := zK_C2 (s := s) hd hq
    rw [← zSc_Qu h1, zK_sc hd h2] at e
    exact zSc_inj (by omega) e
theorem zD_qu {s : Int32} {d x : ZQ} (hd : zL d) (h0 : d ≠ z0) (hx : zL x) : zQu (zN d) (zK s (zC d) (zK s d x)) = x := by
  have hn := zN_pos hd h0
  rw [zK_C hd hx, zQu_Sc (by omega)]
theorem z0_D {s : Int32} {q : ZQ} : zD s z0 q ↔ q = z0 := by
  constructor
  · rintro ⟨x, hx, rfl⟩
    exact zK_z0l hx
  · rintro rfl
    exact ⟨z0, z0_L, zK_z0 z0_L⟩
