/-! PRIMES OVER A PRIME, alone -/
theorem zN_addp {x y : ZQ} (hx : zL x) (hy : zL y) (p : Int) : zN (zAdd x (zSc p y)) = zN x + p * (zN (zAdd x y) - zN x - zN y) + p * p * zN y := by
  have e : zN4 (zAdd x (zSc p y)) = zN4 x + p * (zN4 (zAdd x y) - zN4 x - zN4 y) + p * p * zN4 y := by
    unfold zN4 zAdd zSc
    simp only
    grind
  rw [zN4_four (zAdd_L hx (zSc_L p hy)), zN4_four hx, zN4_four hy, zN4_four (zAdd_L hx hy)] at e
  generalize zN (zAdd x (zSc p y)) = a at *
  generalize zN (zAdd x y) = b at *
  generalize zN x = c at *
  generalize zN y = d at *
  have e2 : 4 * c + p * (4 * b - 4 * c - 4 * d) + p * p * (4 * d) = 4 * (c + p * (b - c - d) + p * p * d) := by grind
  omega
theorem zK_P {s : Int32} {p : Int} {v : ZQ} (hv : zL v) : zK s (zSc p z1) v = zSc p v := by rw [zK_scl z1_L hv, zK_onel hv]
theorem zP_N (p : Int) : zN (zSc p z1) = p * p := by rw [zN_Sc z1_L, zN_z1, Int.mul_one]
theorem zP_L (p : Int) : zL (zSc p z1) := zSc_L p z1_L
/-- a prime number, with what is needed of it -/
def zPr (p : Int) : Prop := 1 < p ∧ ∀ m : Int, 0 ≤ m → m ∣ p → m = 1 ∨ m = p
theorem zPr_sq {p m : Int} (h : zPr p) (hm : 0 < m) (hd : m ∣ p * p) (hp : p ∣ m) : m = p ∨ m = p * p := by
  obtain ⟨k, rfl⟩ := hp
  have p0 : p ≠ 0 := by have := h.1; omega
  have hk : k ∣ p := by
    obtain ⟨j, hj⟩ := hd
    refine ⟨j, ?_⟩
    rw [Int.mul_assoc] at hj
    exact Int.eq_of_mul_eq_mul_left p0 hj
  have k0 : 0 ≤ k := by
    apply Classical.byContradiction
    intro c
    have : p * k ≤ p * (-1) := Int.mul_le_mul_of_nonneg_left (by omega) (by have := h.1; omega)
    have := h.1
    omega
  rcases h.2 k k0 hk with rfl | rfl
  · left; omega
  · right; rfl
/-- Bezout, for what a slot and what a prime number make -/
theorem zBez (s : Int32) {a b : ZQ} (ha : zL a) (hb : zL b) (h : zN b < 2 ^ 20) : ∃ g, zL g ∧ (∀ x, zL x → ((zD s x a ∧ zD s x b) ↔ zD s x g)) ∧ ∃ u v, zL u ∧ zL v ∧ g = zAdd (zK s a u) (zK s b v) := by
  obtain ⟨h1, h2, ⟨u, v, hu, hv, e⟩, -, -⟩ := zGd_big s 20 a b ha hb h
  exact ⟨_, h1, h2, u, v, hu, hv, e⟩
/-- p divides q, number by number: p times a quaternion -/
theorem zDp_norm {s : Int32} {p : Int} {q : ZQ} (h : zD s (zSc p z1) q) : p * p ∣ zN q := by
  have := h.norm (zP_L p)
  rw [zP_N] at this
  exact this
/-- some quaternion has that norm -/
def evC (n : Nat) : Nat := (evN * (evN * (evN * evN))) / 4294967296 ^ (4 * n) % 4294967296
theorem evC_pos : ∀ n, n < 151 → 0 < n → ¬ evC n = 0 := by decide +kernel
theorem zHas {n : Nat} (hn : n < 151) (h0 : 0 < n) : ∃ q, zL q ∧ zN q = n := by
  have h := evC_pos n hn h0
  have e : evC n = ((tup evL).filter fun q => (zN4 q).toNat = 4 * n).length := by
    rw [pC_filter, tup_sq]
    unfold evC evN
    rw [← pS_M, ← pS_M, ← pS_M, pS_get]
    rw [pM_len, pM_len, pM_len]; decide
  rw [e] at h
  obtain ⟨q, hq⟩ := List.exists_mem_of_length_pos (show 0 < ((tup evL).filter fun q => (zN4 q).toNat = 4 * n).length by omega)
  rw [List.mem_filter, tup_mem] at hq
  obtain ⟨⟨a1, a2, a3, a4⟩, a5⟩ := hq
  have ev : ∀ t ∈ evL, t % 2 = 0 := by decide
  have e1 := ev _ a1
  have e2 := ev _ a2
  have e3 := ev _ a3
  have e4 := ev _ a4
  have lq : zL q := by unfold zL; omega
  have a6 : (zN4 q).toNat = 4 * n := of_decide_eq_true a5
  have := zN4_nn q
  have := zN4_four lq
  exact ⟨q, lq, by omega⟩
/-- over each prime number that divides the norm there is a divisor -/
theorem zPr_has {s : Int32} {q : ZQ} (hq : zL q) {p : Nat} (hp : zPr (p : Int)) (h150 : p < 151) (hd : (p : Int) ∣ zN q) : ∃ x, zL x ∧ zN x = p ∧ zD s x q := by
  have p1 := hp.1
  obtain ⟨g, g1, g2, u, v, hu, hv, ge⟩ := zBez s hq (zP_L (p : Int)) (by
    rw [zP_N]
    have := mul_bd (m := 150) (n := 150) (a := (p : Int)) (b := (p : Int)) (by omega) (by omega)
    omega)
  have gg := (g2 g g1).mpr (zD.refl g1)
  have gn : zN g ∣ (p : Int) * p := by have := gg.2.norm g1; rw [zP_N] at this; exact this
  have g0 : 0 < zN g := by
    rcases Int.lt_or_eq_of_le (zN_nn g) with z | z
    · exact z
    · rw [← z] at gn
      have := Int.zero_dvd.mp gn
      have k := Int.mul_pos (show (0 : Int) < p by omega) (show (0 : Int) < p by omega)
      omega
  have pg : (p : Int) ∣ zN g := by
    rw [ge, zK_P hv, zN_addp (zK_L hq hu) hv, zK_N hq hu]
    refine Int.dvd_add (Int.dvd_add ?_ ⟨_, rfl⟩) ?_
    · exact Int.dvd_mul_of_dvd_left hd
    · rw [Int.mul_assoc]; exact ⟨_, rfl⟩
  rcases zPr_sq hp g0 gn pg with z | z
  · exact ⟨g, g1, z, gg.1⟩
  · have gz : g ≠ z0 := fun e => by rw [e, zN_z0] at g0; omega
    have A := gg.2.A g1 gz (by rw [zP_N]; exact z.symm)
    have D : zD s (zSc (p : Int) z1) q := (A.symm g1).D.trans (zP_L _) gg.1
    obtain ⟨y, y1, y2⟩ := zHas h150 (by omega)
    refine ⟨y, y1, y2, ?_⟩
    have e : zD s y (zSc (p : Int) z1) := ⟨zC y, zC_L y1, by
      have := zK_C2 (s := s) y1 z1_L
      rw [zK_one (zC_L y1), y2] at this
      exact this⟩
    exact e.trans y1 D
/-- two of them: then p itself divides -/
theorem zPr_two {s : Int32} {q x y : ZQ} {p : Nat} (hp : zPr (p : Int)) (h150 : p < 151) (lx : zL x) (ly : zL y) (nx : zN x = p) (ny : zN y = p) (hx : zD s x q) (hy : zD s y q) (h : ¬ zA s x y) : zD s (zSc (p : Int) z1) q := by
  have p1 := hp.1
  have x0 : x ≠ z0 := fun e => by rw [e, zN_z0] at nx; omega
  obtain ⟨g, g1, g2, u, v, hu, hv, ge⟩ := zBez s lx ly (by rw [ny]; omega)
  have gg := (g2 g g1).mpr (zD.refl g1)
  have gn : zN g ∣ (p : Int) := by have := gg.1.norm g1; rw [nx] at this; exact this
  have g0 : g ≠ z0 := fun e => by
    rw [e, z0_D] at gg
    exact x0 gg.1
  have gp := zN_pos g1 g0
  rcases hp.2 _ (by omega) gn with z | z
  · -- 1 is made of both
    have gu := zUl_all g1 z
    have one : zAdd (zK s x (zK s u (zC g))) (zK s y (zK s v (zC g))) = z1 := by
      have c := zK_C2 (s := s) g1 z1_L
      rw [zK_one (zC_L g1), z, zSc_one] at c
      have e2 := congrArg (fun t => zK s t (zC g)) ge
      rw [c, zK_addl (zC_L g1) (zK_L lx hu) (zK_L ly hv), zK_assoc lx hu (zC_L g1), zK_assoc ly hv (zC_L g1)] at e2
      exact e2.symm
    obtain ⟨a, ha, ea⟩ := hx
    obtain ⟨b, hb, eb⟩ := hy
    have lq : zL q := by rw [← ea]; exact zK_L lx ha
    have lU := zK_L (s := s) hu (zC_L g1)
    have lV := zK_L (s := s) hv (zC_L g1)
    have fx : ∀ w, zL w → zK s (zC q) (zK s x w) = zSc (p : Int) (zK s (zC a) w) := by
      intro w hw
      rw [← ea, zC_K lx ha, zK_assoc (zC_L ha) (zC_L lx) (zK_L lx hw), zK_C lx hw, nx, zK_sc (zC_L ha) hw]
    have fy : ∀ w, zL w → zK s (zC q) (zK s y w) = zSc (p : Int) (zK s (zC b) w) := by
      intro w hw
      rw [← eb, zC_K ly hb, zK_assoc (zC_L hb) (zC_L ly) (zK_L ly hw), zK_C ly hw, ny, zK_sc (zC_L hb) hw]
    have e3 : zC q = zSc (p : Int) (zAdd (zK s (zC a) (zK s u (zC g))) (zK s (zC b) (zK s v (zC g)))) := by
      have e4 := congrArg (zK s (zC q)) one
      rw [zK_add (zC_L lq) (zK_L lx lU) (zK_L ly lV), zK_one (zC_L lq), fx _ lU, fy _ lV] at e4
      rw [← e4]
      unfold zAdd zSc
      refine zq_ext ?_ ?_ ?_ ?_ <;> simp only <;> exact (Int.mul_add _ _ _).symm
    generalize hw : zAdd (zK s (zC a) (zK s u (zC g))) (zK s (zC b) (zK s v (zC g))) = w at e3
    have lw : zL w := by rw [← hw]; exact zAdd_L (zK_L (zC_L ha) lU) (zK_L (zC_L hb) lV)
    refine ⟨zC w, zC_L lw, ?_⟩
    rw [zK_P (zC_L lw)]
    have e5 := congrArg zC e3
    rw [zC_C] at e5
    rw [e5]
    unfold zC zSc
    refine zq_ext rfl ?_ ?_ ?_ <;> simp only <;> exact Int.mul_neg _ _
  · exfalso
    have A1 := gg.1.A g1 g0 (by omega)
    have A2 := gg.2.A g1 g0 (by omega)
    exact h ((A1.symm g1).trans lx A2)
/-! prime numbers up to 150, on the side of the numbers -/
def ipN (n : Nat) : Bool := decide (1 < n) && (List.range 13).all fun k => decide (k < 2) || decide (n < k * k) || decide (¬ n % k = 0)
def zPrB (p : Nat) : Bool := decide (1 < p) && (List.range (p + 1)).all fun m => decide (¬ p % m = 0) || decide (m = 1) || decide (m = p)
theorem ipN_good : ∀ p, p < 151 → ipN p = zPrB p := by decide +kernel
theorem zPrB_pr {p : Nat} (h : zPrB p = true) : zPr (p : Int) := by
  unfold zPrB at h
  rw [Bool.and_eq_true, decide_eq_true_iff, List.all_eq_true] at h
  obtain ⟨h1, h2⟩ := h
  refine ⟨by omega, fun m hm hd => ?_⟩
  obtain ⟨k, rfl⟩ : ∃ k : Nat, m = (k : Int) := ⟨m.toNat, by omega⟩
  have hk : k ∣ p := Int.natCast_dvd_natCast.mp hd
  have kp : k ≤ p := Nat.le_of_dvd (by omega) hk
  have := h2 k (List.mem_range.mpr (by omega))
  rw [Bool.or_eq_true, Bool.or_eq_true, decide_eq_true_iff, decide_eq_true_iff, decide_eq_true_iff] at this
  rcases this with (z | z) | z
  · exact absurd (Nat.mod_eq_zero_of_dvd hk) z
  · left; omega
  · right; omega
theorem ipN_pr {p : Nat} (hp : p < 151) (h : ipN p = true) : zPr (p : Int) := zPrB_pr (by rw [← ipN_good p hp]; exact h)
/-- the prime numbers of a norm -/
def prL (n : Nat) : List Nat := (List.range (n + 1)).filter fun p => decide (2 ≤ p) && decide (n % p = 0) && ipN p
theorem prL_mem {n p : Nat} : p ∈ prL n ↔ p ≤ n ∧ 2 ≤ p ∧ n % p = 0 ∧ ipN p = true := by
  unfold prL
  rw [List.mem_filter, List.mem_range, Bool.and_eq_true, Bool.and_eq_true, decide_eq_true_iff, decide_eq_true_iff]
  constructor
  · rintro ⟨h1, ⟨h2, h3⟩, h4⟩; exact ⟨by omega, h2, h3, h4⟩
  · rintro ⟨h1, h2, h3, h4⟩; exact ⟨by omega, ⟨h2, h3⟩, h4⟩
theorem prL_16 : ∀ n, n < 151 → ((prL n).map fun p => if n % (p * p) = 0 then cH p else 1).foldl (· + ·) 0 ≤ 16 := by decide +kernel
/-- heads over prime numbers that divide q, by norm -/
noncomputable def zPl (s : Int32) (q : ZQ) (ps : List Nat) : List ZQ := ps.flatMap fun p => zF (fun x => zD s x q) (zCl s p)
theorem foldl_sum (l : List Nat) (a : Nat) : l.foldl (· + ·) a = a + l.foldl (· + ·) 0 := by
  induction l generalizing a with
  | nil => rfl
  | cons x l ih => rw [List.foldl_cons, List.foldl_cons, ih (a + x), ih (0 + x)]; omega
theorem zPl1_len {s : Int32} {q : ZQ} {p n : Nat} (hn : zN q = n) (h0 : 0 < n) (hp : p < 151) (hpr : zPr (p : Int)) : (zF (fun x => zD s x q) (zCl s p)).length ≤ if n % (p * p) = 0 then cH p else 1 := by
  have p1 := hpr.1
  have pw := zF_pw (P := fun x => zD s x q) (zCl_pw (s := s) (n := p) (by omega))
  have mem : ∀ x, x ∈ zF (fun x => zD s x q) (zCl s p) → zL x ∧ zN x = p ∧ zHd s x ∧ zD s x q := by
    intro x hx
    rw [zF_mem, zCl_mem (by omega) (by omega)] at hx
    exact ⟨hx.1.1, hx.1.2.1, hx.1.2.2, hx.2⟩
  split
  · exact hd_cH (by omega) (by omega) (pw_nd pw) (fun x hx => ⟨(mem x hx).1, (mem x hx).2.1, (mem x hx).2.2.1⟩)
  · rename_i hsq
    match hl : zF (fun x => zD s x q) (zCl s p) with
    | [] => exact Nat.zero_le _
    | [x] => exact Nat.le_refl _
    | x :: y :: l =>
      exfalso
      rw [hl] at pw mem
      obtain ⟨x1, x2, x3, x4⟩ := mem x (by simp)
      obtain ⟨y1, y2, y3, y4⟩ := mem y (by simp)
      have ne : ¬ zA s x y := fun z => by
        have e := zHd_uniq x1 z x3 y3
        have g := (List.pairwise_cons.mp pw).1 y (by simp)
        rw [e] at g
        exact zGt_irr _ g
      have := zDp_norm (zPr_two hpr hp x1 y1 x2 y2 x4 y4 ne)
      rw [hn] at this
      have d : p * p ∣ n := by
        have e : ((p * p : Nat) : Int) ∣ (n : Int) := by rw [Int.natCast_mul]; exact this
        exact Int.natCast_dvd_natCast.mp e
      exact hsq (Nat.mod_eq_zero_of_dvd d)
theorem zPl_len {s : Int32} {q : ZQ} {n : Nat} (hn : zN q = n) (h0 : 0 < n) (h150 : n < 151) : (zPl s q (prL n)).length ≤ 16 := by
  refine Nat.le_trans ?_ (prL_16 n h150)
  have key : ∀ l : List Nat, (∀ p, p ∈ l → p ∈ prL n) → (zPl s q l).length ≤ (l.map fun p => if n % (p * p) = 0 then cH p else 1).foldl (· + ·) 0 := by
    intro l
    induction l with
    | nil => intro _; exact Nat.le_refl _
    | cons p l ih =>
      intro h
      have a := ih (fun p hp => h p (List.mem_cons_of_mem _ hp))
      obtain ⟨h1, h2, h3, h4⟩ := prL_mem.mp (h p (List.mem_cons_self ..))
      have b := zPl1_len (s := s) (p := p) hn h0 (by omega) (ipN_pr (by omega) h4)
      unfold zPl at a ⊢
      rw [List.flatMap_cons, List.length_append, List.map_cons, List.foldl_cons, foldl_sum]
      omega
  exact key _ (fun _ h => h)
