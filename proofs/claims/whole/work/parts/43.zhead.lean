/-! UNITS, MATES, HEADS, LISTS OF A NORM, alone -/
def zGb (x y : ZQ) : Bool := decide (x.1 > y.1 ∨ x.1 = y.1 ∧ (x.2.1 > y.2.1 ∨ x.2.1 = y.2.1 ∧ (x.2.2.1 > y.2.2.1 ∨ x.2.2.1 = y.2.2.1 ∧ x.2.2.2 > y.2.2.2)))
theorem zGb_iff (x y : ZQ) : zGb x y = true ↔ zGt x y := decide_eq_true_iff
theorem zGb_not (x y : ZQ) : zGb x y = false ↔ ¬ zGt x y := by rw [← zGb_iff]; cases zGb x y <;> simp
def zUl : List ZQ := [(2, 0, 0, 0), (1, 1, 1, 1), (1, 1, 1, -1), (1, 1, -1, 1), (1, 1, -1, -1), (1, -1, 1, 1), (1, -1, 1, -1), (1, -1, -1, 1), (1, -1, -1, -1), (0, 2, 0, 0), (0, 0, 2, 0), (0, 0, 0, 2), (0, 0, 0, -2), (0, 0, -2, 0), (0, -2, 0, 0), (-1, 1, 1, 1), (-1, 1, 1, -1), (-1, 1, -1, 1), (-1, 1, -1, -1), (-1, -1, 1, 1), (-1, -1, 1, -1), (-1, -1, -1, 1), (-1, -1, -1, -1), (-2, 0, 0, 0)]
def zU (k : Nat) : ZQ := zUl.getD k z0
theorem zUl_len : zUl.length = 24 := rfl
theorem zU_mem {k : Nat} (h : k < 24) : zU k ∈ zUl := by
  unfold zU
  rw [List.getD_eq_getElem?_getD, List.getElem?_eq_getElem (by rw [zUl_len]; exact h), Option.getD_some]
  exact List.getElem_mem _
theorem zU_inv {u : ZQ} (h : u ∈ zUl) : ∃ k, k < 24 ∧ u = zU k := by
  obtain ⟨k, hk, e⟩ := List.mem_iff_getElem.mp h
  rw [zUl_len] at hk
  refine ⟨k, hk, ?_⟩
  unfold zU
  rw [List.getD_eq_getElem?_getD, List.getElem?_eq_getElem (by rw [zUl_len]; exact hk), Option.getD_some]
  exact e.symm
theorem zUl_good : ∀ u ∈ zUl, ((u.1 - u.2.1) % 2 = 0 ∧ (u.1 - u.2.2.1) % 2 = 0 ∧ (u.1 - u.2.2.2) % 2 = 0) ∧ u.1 * u.1 + u.2.1 * u.2.1 + u.2.2.1 * u.2.2.1 + u.2.2.2 * u.2.2.2 = 4 := by decide +kernel
theorem zUl_L {u : ZQ} (h : u ∈ zUl) : zL u := (zUl_good u h).1
theorem zUl_N4 {u : ZQ} (h : u ∈ zUl) : zN4 u = 4 := (zUl_good u h).2
theorem zUl_N {u : ZQ} (h : u ∈ zUl) : zN u = 1 := by unfold zN; rw [zUl_N4 h]; rfl
theorem zU_L {k : Nat} (h : k < 24) : zL (zU k) := zUl_L (zU_mem h)
theorem zU_N4 {k : Nat} (h : k < 24) : zN4 (zU k) = 4 := zUl_N4 (zU_mem h)
theorem zUl_find : ∀ a ∈ [-2, -1, 0, 1, (2 : Int)], ∀ b ∈ [-2, -1, 0, 1, (2 : Int)], ∀ c ∈ [-2, -1, 0, 1, (2 : Int)], ∀ d ∈ [-2, -1, 0, 1, (2 : Int)], ((a - b) % 2 = 0 ∧ (a - c) % 2 = 0 ∧ (a - d) % 2 = 0) → a * a + b * b + c * c + d * d = 4 → ((a, b, c, d) : ZQ) ∈ zUl := by decide +kernel
theorem in5 {a : Int} (h1 : -2 ≤ a) (h2 : a ≤ 2) : a ∈ [-2, -1, 0, 1, (2 : Int)] := by
  have : a = -2 ∨ a = -1 ∨ a = 0 ∨ a = 1 ∨ a = 2 := by omega
  rcases this with rfl | rfl | rfl | rfl | rfl <;> decide
theorem zN4_B {x : ZQ} {n : Int} (hn : 0 ≤ n) (h : zN4 x ≤ n * n) : zB n x := by
  unfold zN4 at h
  have h1 := sq_nn x.1
  have h2 := sq_nn x.2.1
  have h3 := sq_nn x.2.2.1
  have h4 := sq_nn x.2.2.2
  exact ⟨sq_le hn (by omega), sq_le hn (by omega), sq_le hn (by omega), sq_le hn (by omega)⟩
theorem zUl_all {u : ZQ} (hu : zL u) (h : zN u = 1) : u ∈ zUl := by
  have h4 : zN4 u = 4 := by rw [zN4_four hu, h]; rfl
  obtain ⟨⟨a1, a2⟩, ⟨b1, b2⟩, ⟨c1, c2⟩, d1, d2⟩ := zN4_B (x := u) (n := 2) (by decide) (by omega)
  exact zUl_find u.1 (in5 a1 a2) u.2.1 (in5 b1 b2) u.2.2.1 (in5 c1 c2) u.2.2.2 (in5 d1 d2) hu h4
theorem zUl_C {u : ZQ} (h : u ∈ zUl) : zC u ∈ zUl := zUl_all (zC_L (zUl_L h)) (by rw [zC_N]; exact zUl_N h)
theorem zUl_K {s : Int32} {u v : ZQ} (h : u ∈ zUl) (g : v ∈ zUl) : zK s u v ∈ zUl := zUl_all (zK_L (zUl_L h) (zUl_L g)) (by rw [zK_N (zUl_L h) (zUl_L g), zUl_N h, zUl_N g]; rfl)
theorem zUl_one : z1 ∈ zUl := by decide +kernel
theorem zK_uC {s : Int32} {x u : ZQ} (hx : zL x) (h : u ∈ zUl) : zK s (zK s x u) (zC u) = x := by
  have e := zK_C2 (s := s) (zUl_L h) z1_L
  rw [zK_one (zC_L (zUl_L h)), zUl_N h, zSc_one] at e
  rw [zK_assoc hx (zUl_L h) (zC_L (zUl_L h)), e, zK_one hx]
/-- mates of one another -/
def zA (s : Int32) (x y : ZQ) : Prop := ∃ u, u ∈ zUl ∧ y = zK s x u
theorem zA.refl {s : Int32} {x : ZQ} (hx : zL x) : zA s x x := ⟨z1, zUl_one, (zK_one hx).symm⟩
theorem zA.symm {s : Int32} {x y : ZQ} (hx : zL x) (h : zA s x y) : zA s y x := by
  obtain ⟨u, hu, rfl⟩ := h
  exact ⟨zC u, zUl_C hu, (zK_uC hx hu).symm⟩
theorem zA.trans {s : Int32} {x y z : ZQ} (hx : zL x) (h : zA s x y) (g : zA s y z) : zA s x z := by
  obtain ⟨u, hu, rfl⟩ := h
  obtain ⟨v, hv, rfl⟩ := g
  exact ⟨zK s u v, zUl_K hu hv, zK_assoc hx (zUl_L hu) (zUl_L hv)⟩
theorem zA.L {s : Int32} {x y : ZQ} (hx : zL x) (h : zA s x y) : zL y := by
  obtain ⟨u, hu, rfl⟩ := h
  exact zK_L hx (zUl_L hu)
theorem zA.N {s : Int32} {x y : ZQ} (hx : zL x) (h : zA s x y) : zN y = zN x := by
  obtain ⟨u, hu, rfl⟩ := h
  rw [zK_N hx (zUl_L hu), zUl_N hu, Int.mul_one]
theorem zA.D {s : Int32} {x y : ZQ} (h : zA s x y) : zD s x y := by
  obtain ⟨u, hu, rfl⟩ := h
  exact ⟨u, zUl_L hu, rfl⟩
/-- a divisor of like norm is a mate -/
theorem zD.A {s : Int32} {x y : ZQ} (hx : zL x) (h0 : x ≠ z0) (h : zD s x y) (hn : zN y = zN x) : zA s x y := by
  obtain ⟨u, hu, rfl⟩ := h
  rw [zK_N hx hu] at hn
  have hp := zN_pos hx h0
  have : zN u = 1 := by
    have e : zN x * zN u = zN x * 1 := by omega
    exact Int.eq_of_mul_eq_mul_left (by omega) e
  exact ⟨u, zUl_all hu this, rfl⟩
/-! heads -/
def zHd (s : Int32) (q : ZQ) : Prop := ∀ u, u ∈ zUl → ¬ zGt (zK s q u) q
theorem zHd_uniq {s : Int32} {x y : ZQ} (hx : zL x) (h : zA s x y) (g1 : zHd s x) (g2 : zHd s y) : x = y := by
  obtain ⟨u, hu, e⟩ := h.symm hx
  obtain ⟨v, hv, e2⟩ := h
  have a := g1 v hv
  have b := g2 u hu
  rw [← e2] at a
  rw [← e] at b
  exact zGt_eq b a
def zHs (s : Int32) (q : ZQ) (best : ZQ) (u : ZQ) : ZQ := if zGb (zK s q u) best then zK s q u else best
def zHead (s : Int32) (q : ZQ) : ZQ := zUl.foldl (zHs s q) q
theorem zHs_fold {s : Int32} {q : ZQ} (l : List ZQ) : ∀ b : ZQ, (l.foldl (zHs s q) b = b ∨ ∃ u, u ∈ l ∧ l.foldl (zHs s q) b = zK s q u) ∧ ¬ zGt b (l.foldl (zHs s q) b) ∧ ∀ u, u ∈ l → ¬ zGt (zK s q u) (l.foldl (zHs s q) b) := by
  induction l with
  | nil => intro b; exact ⟨Or.inl rfl, zGt_irr b, fun u hu => absurd hu (by simp)⟩
  | cons v l ih =>
    intro b
    rw [List.foldl_cons]
    obtain ⟨h1, h2, h3⟩ := ih (zHs s q b v)
    by_cases hc : zGt (zK s q v) b
    · have e : zHs s q b v = zK s q v := by unfold zHs; rw [if_pos ((zGb_iff _ _).mpr hc)]
      rw [e] at h1 h2 h3 ⊢
      refine ⟨Or.inr ?_, fun g => h2 (zGt_trans hc g), fun u hu => ?_⟩
      · rcases h1 with h1 | ⟨u, hu, h1⟩
        · exact ⟨v, List.mem_cons_self .., h1⟩
        · exact ⟨u, List.mem_cons_of_mem _ hu, h1⟩
      · rcases List.mem_cons.mp hu with rfl | hu
        · exact h2
        · exact h3 u hu
    · have e : zHs s q b v = b := by unfold zHs; rw [if_neg (fun q => hc ((zGb_iff _ _).mp q))]
      rw [e] at h1 h2 h3 ⊢
      refine ⟨?_, h2, fun u hu => ?_⟩
      · rcases h1 with h1 | ⟨u, hu, h1⟩
        · exact Or.inl h1
        · exact Or.inr ⟨u, List.mem_cons_of_mem _ hu, h1⟩
      · rcases List.mem_cons.mp hu with rfl | hu
        · intro g
          rcases zGt_tri b (zK s q u) with k | k | k
          · exact h2 (zGt_trans k g)
          · rw [← k] at g; exact h2 g
          · exact hc k
        · exact h3 u hu
theorem zHead_A {s : Int32} {q : ZQ} (hq : zL q) : zA s q (zHead s q) := by
  rcases (zHs_fold (s := s) (q := q) zUl q).1 with h | ⟨u, hu, h⟩
  · exact ⟨z1, zUl_one, by rw [zK_one hq]; exact h⟩
  · exact ⟨u, hu, h⟩
theorem zHead_max {s : Int32} {q : ZQ} : ∀ u, u ∈ zUl → ¬ zGt (zK s q u) (zHead s q) := (zHs_fold zUl q).2.2
theorem zHead_Hd {s : Int32} {q : ZQ} (hq : zL q) : zHd s (zHead s q) := by
  intro v hv
  obtain ⟨u, hu, e⟩ := zHead_A (s := s) hq
  have h := zHead_max (s := s) (q := q) _ (zUl_K (s := s) hu hv)
  rw [← zK_assoc hq (zUl_L hu) (zUl_L hv), ← e] at h
  exact h
theorem zHead_L {s : Int32} {q : ZQ} (hq : zL q) : zL (zHead s q) := (zHead_A hq).L hq
theorem zHead_N {s : Int32} {q : ZQ} (hq : zL q) : zN (zHead s q) = zN q := (zHead_A hq).N hq
theorem zHead_eq {s : Int32} {q x : ZQ} (hq : zL q) (h : zA s q x) (g : zHd s x) : zHead s q = x :=
  zHd_uniq (zHead_L hq) ((zHead_A hq).symm hq |>.trans (zHead_L hq) h) (zHead_Hd hq) g
theorem zHead_of {s : Int32} {q r : ZQ} (hq : zL q) (h : zA s q r) : zHead s q = zHead s r :=
  zHead_eq hq (h.trans hq (zHead_A (h.L hq))) (zHead_Hd (h.L hq))
/-- the first number of what two make is alike on both sides -/
theorem zK_fst (s : Int32) (x y : ZQ) : (zK s x y).1 = (x.1 * y.1 - x.2.1 * y.2.1 - x.2.2.1 * y.2.2.1 - x.2.2.2 * y.2.2.2) / 2 := by
  unfold zK zM zM2
  split
  · rfl
  · simp only
    rw [Int.mul_comm y.1, Int.mul_comm y.2.1, Int.mul_comm y.2.2.1, Int.mul_comm y.2.2.2]
def zOt (q : ZQ) : Int := (q.2.1.natAbs : Int) + (q.2.2.1.natAbs : Int) + (q.2.2.2.natAbs : Int)
/-- a head's first number is not below the others together -/
theorem zHd_ot {s : Int32} {q : ZQ} (hq : zL q) (h : zHd s q) : zOt q ≤ q.1 := by
  apply Classical.byContradiction
  intro hc
  obtain ⟨a, b, c, d⟩ := q
  unfold zOt at hc
  unfold zL at hq
  simp only at hc hq
  have key : ∀ f g k : Int, (f = 1 ∨ f = -1) → (g = 1 ∨ g = -1) → (k = 1 ∨ k = -1) → ((1, f, g, k) : ZQ) ∈ zUl → b * f = -(b.natAbs : Int) → c * g = -(c.natAbs : Int) → d * k = -(d.natAbs : Int) → False := by
    intro f g k hf hg hk hm e1 e2 e3
    apply h _ hm
    unfold zGt
    left
    rw [zK_fst]
    simp only
    rw [e1, e2, e3]
    omega
  have sg : ∀ t : Int, t * 1 = -(t.natAbs : Int) ∨ t * (-1) = -(t.natAbs : Int) := fun t => by omega
  have mm : ∀ f : Int, (f = 1 ∨ f = -1) → ∀ g : Int, (g = 1 ∨ g = -1) → ∀ k : Int, (k = 1 ∨ k = -1) → ((1, f, g, k) : ZQ) ∈ zUl := by
    rintro f (rfl | rfl) g (rfl | rfl) k (rfl | rfl) <;> decide +kernel
  rcases sg b with e1 | e1 <;> rcases sg c with e2 | e2 <;> rcases sg d with e3 | e3 <;> exact key _ _ _ (by decide) (by decide) (by decide) (mm _ (by decide) _ (by decide) _ (by decide)) e1 e2 e3
theorem zUl_odd : ∀ u ∈ zUl, u = z1 ∨ (u.1 = -2 ∧ u.2.1 = 0 ∧ u.2.2.1 = 0 ∧ u.2.2.2 = 0) ∨ (u.1 = 0 ∧ ((u.2.1 = 2 ∨ u.2.1 = -2) ∧ u.2.2.1 = 0 ∧ u.2.2.2 = 0 ∨ (u.2.2.1 = 2 ∨ u.2.2.1 = -2) ∧ u.2.1 = 0 ∧ u.2.2.2 = 0 ∨ (u.2.2.2 = 2 ∨ u.2.2.2 = -2) ∧ u.2.1 = 0 ∧ u.2.2.1 = 0)) ∨ ((u.1 = 1 ∨ u.1 = -1) ∧ (u.2.1 = 1 ∨ u.2.1 = -1) ∧ (u.2.2.1 = 1 ∨ u.2.2.1 = -1) ∧ (u.2.2.2 = 1 ∨ u.2.2.2 = -1)) := by decide +kernel
/-- where it is above them, it is a head -/
theorem zHd_lt {s : Int32} {q : ZQ} (hq : zL q) (h : zOt q < q.1) : zHd s q := by
  intro u hu
  rcases zUl_odd u hu with rfl | hc
  · rw [zK_one hq]; exact zGt_irr q
  · have lt : (zK s q u).1 < q.1 := by
      rw [zK_fst]
      obtain ⟨a, b, c, d⟩ := q
      obtain ⟨e, f, g, k⟩ := u
      unfold zOt at h
      simp only at h hc ⊢
      rcases hc with ⟨rfl, rfl, rfl, rfl⟩ | ⟨rfl, ⟨hf, rfl, rfl⟩ | ⟨hf, rfl, rfl⟩ | ⟨hf, rfl, rfl⟩⟩ | ⟨he, hf, hg, hk⟩
      · omega
      · rcases hf with rfl | rfl <;> omega
      · rcases hf with rfl | rfl <;> omega
      · rcases hf with rfl | rfl <;> omega
      · rcases he with rfl | rfl <;> rcases hf with rfl | rfl <;> rcases hg with rfl | rfl <;> rcases hk with rfl | rfl <;> omega
    unfold zGt
    omega
/-! lists that fall -/
theorem fall_ext : ∀ (l1 l2 : List ZQ), l1.Pairwise zGt → l2.Pairwise zGt → (∀ x, x ∈ l1 ↔ x ∈ l2) → l1 = l2 := by
  intro l1
  induction l1 with
  | nil =>
    intro l2 _ _ h
    cases l2 with
    | nil => rfl
    | cons y l => exact absurd ((h y).mpr (List.mem_cons_self ..)) (by simp)
  | cons x l1 ih =>
    intro l2 h1 h2 h
    cases l2 with
    | nil => exact absurd ((h x).mp (List.mem_cons_self ..)) (by simp)
    | cons y l2 =>
      obtain ⟨a1, b1⟩ := List.pairwise_cons.mp h1
      obtain ⟨a2, b2⟩ := List.pairwise_cons.mp h2
      have e : x = y := by
        rcases List.mem_cons.mp ((h x).mp (List.mem_cons_self ..)) with k | k
        · exact k
        · rcases List.mem_cons.mp ((h y).mpr (List.mem_cons_self ..)) with k2 | k2
          · exact k2.symm
          · exact absurd (a2 x k) (zGt_asym (a1 y k2))
      subst e
      congr 1
      refine ih l2 b1 b2 (fun z => ⟨fun hz => ?_, fun hz => ?_⟩)
      · rcases List.mem_cons.mp ((h z).mp (List.mem_cons_of_mem _ hz)) with k | k
        · subst k; exact absurd (a1 z hz) (zGt_irr z)
        · exact k
      · rcases List.mem_cons.mp ((h z).mpr (List.mem_cons_of_mem _ hz)) with k | k
        · subst k; exact absurd (a2 z hz) (zGt_irr z)
        · exact k
