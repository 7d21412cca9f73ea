/-! THE ORDER, THE NEAREST QUOTIENT, COMMON DIVISORS, alone -/
theorem zGt_irr (x : ZQ) : ¬ zGt x x := by unfold zGt; omega
theorem zGt_trans {x y z : ZQ} (h1 : zGt x y) (h2 : zGt y z) : zGt x z := by unfold zGt at *; omega
theorem zGt_tri (x y : ZQ) : zGt x y ∨ x = y ∨ zGt y x := by
  by_cases h1 : zGt x y
  · exact Or.inl h1
  · by_cases h2 : zGt y x
    · exact Or.inr (Or.inr h2)
    · refine Or.inr (Or.inl ?_)
      unfold zGt at h1 h2
      exact zq_ext (by omega) (by omega) (by omega) (by omega)
theorem zGt_asym {x y : ZQ} (h : zGt x y) : ¬ zGt y x := fun h2 => zGt_irr x (zGt_trans h h2)
theorem zGt_eq {x y : ZQ} (h1 : ¬ zGt x y) (h2 : ¬ zGt y x) : x = y := by
  rcases zGt_tri x y with h | h | h
  · exact absurd h h1
  · exact h
  · exact absurd h h2
/-- how far n times x is from e -/
def zDs (e : ZQ) (n : Int) (x : ZQ) : Int := zN4 (zSub e (zSc n x))
/-- the best of all: none is nearer, none as near is greater -/
def zBest (e : ZQ) (n : Int) (x : ZQ) : Prop := zL x ∧ ∀ y, zL y → zDs e n x ≤ zDs e n y ∧ (zDs e n y = zDs e n x → ¬ zGt y x)
theorem zBest_uniq {e : ZQ} {n : Int} {x y : ZQ} (hx : zBest e n x) (hy : zBest e n y) : x = y := by
  obtain ⟨x1, x2⟩ := hx
  obtain ⟨y1, y2⟩ := hy
  obtain ⟨a1, a2⟩ := x2 y y1
  obtain ⟨b1, b2⟩ := y2 x x1
  have q : zDs e n y = zDs e n x := by omega
  exact zGt_eq (b2 q.symm) (a2 q)
/-- a number next to p / n among those as v is -/
def zNc (p n v : Int) : Prop := -n ≤ p - n * v ∧ p - n * v < n
theorem zNc_best {p n v x : Int} (hn : 0 < n) (h : zNc p n v) (hp : (x - v) % 2 = 0) : (p - n * v) * (p - n * v) ≤ (p - n * x) * (p - n * x) ∧ ((p - n * x) * (p - n * x) = (p - n * v) * (p - n * v) → x ≤ v) := by
  obtain ⟨h1, h2⟩ := h
  obtain ⟨t, ht⟩ : ∃ t, x = v + 2 * t := ⟨(x - v) / 2, by omega⟩
  subst ht
  generalize hr : p - n * v = r at h1 h2
  have e1 : p - n * (v + 2 * t) = r - 2 * (n * t) := by grind
  have e2 : (r - 2 * (n * t)) * (r - 2 * (n * t)) = r * r + 4 * ((n * t) * (n * t - r)) := by grind
  rw [e1, e2]
  rcases Int.lt_trichotomy t 0 with q | q | q
  · have a1 : n * t ≤ n * (-1) := Int.mul_le_mul_of_nonneg_left (by omega) (by omega)
    have a2 : 0 ≤ (n * t) * (n * t - r) := by
      have := Int.mul_nonneg (show 0 ≤ -(n * t) by omega) (show 0 ≤ -(n * t - r) by omega)
      rwa [Int.neg_mul_neg] at this
    omega
  · subst q
    simp
  · have a1 : n * 1 ≤ n * t := Int.mul_le_mul_of_nonneg_left (by omega) (by omega)
    have a2 : 0 < (n * t) * (n * t - r) := Int.mul_pos (by omega) (by omega)
    omega
theorem zDs_parts (e : ZQ) (n : Int) (x : ZQ) : zDs e n x = (e.1 - n * x.1) * (e.1 - n * x.1) + (e.2.1 - n * x.2.1) * (e.2.1 - n * x.2.1) + (e.2.2.1 - n * x.2.2.1) * (e.2.2.1 - n * x.2.2.1) + (e.2.2.2 - n * x.2.2.2) * (e.2.2.2 - n * x.2.2.2) := rfl
/-- the best of its kind (all even, or all odd) -/
theorem zKind_best {e : ZQ} {n : Int} {v x : ZQ} (hn : 0 < n) (h1 : zNc e.1 n v.1) (h2 : zNc e.2.1 n v.2.1) (h3 : zNc e.2.2.1 n v.2.2.1) (h4 : zNc e.2.2.2 n v.2.2.2) (hv : zL v) (hx : zL x) (hp : (x.1 - v.1) % 2 = 0) : zDs e n v ≤ zDs e n x ∧ (zDs e n x = zDs e n v → ¬ zGt x v) := by
  unfold zL at hv hx
  obtain ⟨a1, b1⟩ := zNc_best hn h1 hp
  obtain ⟨a2, b2⟩ := zNc_best (x := x.2.1) hn h2 (by omega)
  obtain ⟨a3, b3⟩ := zNc_best (x := x.2.2.1) hn h3 (by omega)
  obtain ⟨a4, b4⟩ := zNc_best (x := x.2.2.2) hn h4 (by omega)
  rw [zDs_parts, zDs_parts]
  refine ⟨by omega, fun q => ?_⟩
  have c1 := b1 (by omega)
  have c2 := b2 (by omega)
  have c3 := b3 (by omega)
  have c4 := b4 (by omega)
  unfold zGt
  omega
/-- of the best even and the best odd one the better -/
theorem zBest_of {e : ZQ} {n : Int} {v w : ZQ} (hn : 0 < n) (h1 : zNc e.1 n v.1) (h2 : zNc e.2.1 n v.2.1) (h3 : zNc e.2.2.1 n v.2.2.1) (h4 : zNc e.2.2.2 n v.2.2.2) (g1 : zNc e.1 n w.1) (g2 : zNc e.2.1 n w.2.1) (g3 : zNc e.2.2.1 n w.2.2.1) (g4 : zNc e.2.2.2 n w.2.2.2) (hv : zL v) (hw : zL w) (hve : v.1 % 2 = 0) (hwo : w.1 % 2 = 1) :
    (zDs e n w < zDs e n v ∨ (zDs e n v = zDs e n w ∧ zGt w v) → zBest e n w) ∧ (¬ (zDs e n w < zDs e n v ∨ (zDs e n v = zDs e n w ∧ zGt w v)) → zBest e n v) := by
  have ev : ∀ y : ZQ, zL y → y.1 % 2 = 0 → zDs e n v ≤ zDs e n y ∧ (zDs e n y = zDs e n v → ¬ zGt y v) := fun y hy q => zKind_best hn h1 h2 h3 h4 hv hy (by omega)
  have ow : ∀ y : ZQ, zL y → y.1 % 2 = 1 → zDs e n w ≤ zDs e n y ∧ (zDs e n y = zDs e n w → ¬ zGt y w) := fun y hy q => zKind_best hn g1 g2 g3 g4 hw hy (by omega)
  constructor
  · intro hc
    refine ⟨hw, fun y hy => ?_⟩
    rcases Int.emod_two_eq y.1 with q | q
    · obtain ⟨a, b⟩ := ev y hy q
      refine ⟨by omega, fun k g => ?_⟩
      rcases hc with c | ⟨c, c2⟩
      · omega
      · exact b (by omega) (zGt_trans g c2)
    · exact ow y hy q
  · intro hc
    refine ⟨hv, fun y hy => ?_⟩
    rcases Int.emod_two_eq y.1 with q | q
    · exact ev y hy q
    · obtain ⟨a, b⟩ := ow y hy q
      refine ⟨?_, fun k g => ?_⟩
      · apply Classical.byContradiction
        intro z
        exact hc (Or.inl (by omega))
      · apply hc
        by_cases z : zDs e n w < zDs e n v
        · exact Or.inl z
        · refine Or.inr ⟨by omega, ?_⟩
          rcases zGt_tri w y with c | c | c
          · exact zGt_trans c g
          · rw [c]; exact g
          · exact absurd c (b (by omega))
/-- half the divisor's norm bounds the rest's, times the divisor's norm -/
theorem zNc_half {p n v w : Int} (hn : 0 < n) (h : zNc p n v) (g : zNc p n w) (hv : v % 2 = 0) (hw : w % 2 = 1) : (p - n * v) * (p - n * v) + (p - n * w) * (p - n * w) ≤ n * n := by
  obtain ⟨h1, h2⟩ := h
  obtain ⟨g1, g2⟩ := g
  generalize hr : p - n * v = r at h1 h2
  have hd : w = v + 1 ∨ w = v - 1 := by
    have a1 : n * (w - v) < n * 2 := by
      have : n * (w - v) = n * w - n * v := Int.mul_sub _ _ _
      omega
    have a2 : n * (-2) < n * (w - v) := by
      have : n * (w - v) = n * w - n * v := Int.mul_sub _ _ _
      omega
    have b1 := Int.lt_of_mul_lt_mul_left a1 (by omega)
    have b2 := Int.lt_of_mul_lt_mul_left a2 (by omega)
    omega
  rcases hd with rfl | rfl
  · have e : p - n * (v + 1) = r - n := by grind
    rw [e] at g1 g2 ⊢
    have k : 0 ≤ r * (n - r) := Int.mul_nonneg (by omega) (by omega)
    have e2 : (r - n) * (r - n) = r * r - 2 * (r * n) + n * n := by grind
    have e3 : r * (n - r) = r * n - r * r := by grind
    omega
  · have e : p - n * (v - 1) = r + n := by grind
    rw [e] at g1 g2 ⊢
    have k : 0 ≤ (-r) * (n + r) := Int.mul_nonneg (by omega) (by omega)
    have e2 : (r + n) * (r + n) = r * r + 2 * (r * n) + n * n := by grind
    have e3 : (-r) * (n + r) = -(r * n) - r * r := by grind
    omega
theorem zBest_half {e : ZQ} {n : Int} {v w x : ZQ} (hn : 0 < n) (h1 : zNc e.1 n v.1) (h2 : zNc e.2.1 n v.2.1) (h3 : zNc e.2.2.1 n v.2.2.1) (h4 : zNc e.2.2.2 n v.2.2.2) (g1 : zNc e.1 n w.1) (g2 : zNc e.2.1 n w.2.1) (g3 : zNc e.2.2.1 n w.2.2.1) (g4 : zNc e.2.2.2 n w.2.2.2) (hv : zL v) (hw : zL w) (hve : v.1 % 2 = 0) (hwo : w.1 % 2 = 1) (hx : zBest e n x) : zDs e n x ≤ 2 * (n * n) := by
  have a := (hx.2 v hv).1
  have b := (hx.2 w hw).1
  rw [zDs_parts] at a b
  unfold zL at hv hw
  have k1 := zNc_half hn h1 g1 hve hwo
  have k2 := zNc_half hn h2 g2 (by omega) (by omega)
  have k3 := zNc_half hn h3 g3 (by omega) (by omega)
  have k4 := zNc_half hn h4 g4 (by omega) (by omega)
  rw [zDs_parts] at a b ⊢
  omega
def zEv (p n : Int) : Int := 2 * ((p + n) / (2 * n))
def zOd (p n : Int) : Int := 2 * (p / (2 * n)) + 1
theorem zEv_nc {p n : Int} (hn : 0 < n) : zNc p n (zEv p n) := by
  unfold zNc zEv
  have h := Int.mul_ediv_add_emod (p + n) (2 * n)
  have h1 := Int.emod_nonneg (p + n) (show 2 * n ≠ 0 by omega)
  have h2 := Int.emod_lt_of_pos (p + n) (show 0 < 2 * n by omega)
  have e : n * (2 * ((p + n) / (2 * n))) = 2 * n * ((p + n) / (2 * n)) := by grind
  omega
theorem zOd_nc {p n : Int} (hn : 0 < n) : zNc p n (zOd p n) := by
  unfold zNc zOd
  have h := Int.mul_ediv_add_emod p (2 * n)
  have h1 := Int.emod_nonneg p (show 2 * n ≠ 0 by omega)
  have h2 := Int.emod_lt_of_pos p (show 0 < 2 * n by omega)
  have e : n * (2 * (p / (2 * n)) + 1) = 2 * n * (p / (2 * n)) + n := by grind
  omega
def zEvq (e : ZQ) (n : Int) : ZQ := (zEv e.1 n, zEv e.2.1 n, zEv e.2.2.1 n, zEv e.2.2.2 n)
def zOdq (e : ZQ) (n : Int) : ZQ := (zOd e.1 n, zOd e.2.1 n, zOd e.2.2.1 n, zOd e.2.2.2 n)
theorem zEvq_L (e : ZQ) (n : Int) : zL (zEvq e n) := by unfold zL zEvq zEv; simp only; omega
theorem zOdq_L (e : ZQ) (n : Int) : zL (zOdq e n) := by unfold zL zOdq zOd; simp only; omega
theorem zGt_dec (x y : ZQ) : zGt x y ∨ ¬ zGt x y := Classical.em _
/-- the nearest quotient, from the exact one (n times it) -/
noncomputable def zNr (e : ZQ) (n : Int) : ZQ := @ite _ (zDs e n (zOdq e n) < zDs e n (zEvq e n) ∨ (zDs e n (zEvq e n) = zDs e n (zOdq e n) ∧ zGt (zOdq e n) (zEvq e n))) (Classical.propDecidable _) (zOdq e n) (zEvq e n)
theorem zNr_best {e : ZQ} {n : Int} (hn : 0 < n) : zBest e n (zNr e n) := by
  have k := zBest_of (e := e) (n := n) (v := zEvq e n) (w := zOdq e n) hn (zEv_nc hn) (zEv_nc hn) (zEv_nc hn) (zEv_nc hn) (zOd_nc hn) (zOd_nc hn) (zOd_nc hn) (zOd_nc hn) (zEvq_L e n) (zOdq_L e n) (by unfold zEvq zEv; simp only; omega) (by unfold zOdq zOd; simp only; omega)
  unfold zNr
  split
  · rename_i h; exact k.1 h
  · rename_i h; exact k.2 h
theorem zNr_nc {e : ZQ} {n : Int} (hn : 0 < n) : zNc e.1 n (zNr e n).1 ∧ zNc e.2.1 n (zNr e n).2.1 ∧ zNc e.2.2.1 n (zNr e n).2.2.1 ∧ zNc e.2.2.2 n (zNr e n).2.2.2 := by
  unfold zNr
  split
  · exact ⟨zOd_nc hn, zOd_nc hn, zOd_nc hn, zOd_nc hn⟩
  · exact ⟨zEv_nc hn, zEv_nc hn, zEv_nc hn, zEv_nc hn⟩
theorem zNr_half {e : ZQ} {n : Int} (hn : 0 < n) : zDs e n (zNr e n) ≤ 2 * (n * n) :=
  zBest_half (e := e) (n := n) (v := zEvq e n) (w := zOdq e n) hn (zEv_nc hn) (zEv_nc hn) (zEv_nc hn) (zEv_nc hn) (zOd_nc hn) (zOd_nc hn) (zOd_nc hn) (zOd_nc hn) (zEvq_L e n) (zOdq_L e n) (by unfold zEvq zEv; simp only; omega) (by unfold zOdq zOd; simp only; omega) (zNr_best hn)
theorem zNr_L {e : ZQ} {n : Int} (hn : 0 < n) : zL (zNr e n) := (zNr_best hn).1
/-- exact quotient times the divisor's norm; nearest quotient; rest -/
def zEx (s : Int32) (q d : ZQ) : ZQ := zK s (zC d) q
noncomputable def zNx (s : Int32) (q d : ZQ) : ZQ := zNr (zEx s q d) (zN d)
noncomputable def zRs (s : Int32) (q d : ZQ) : ZQ := zSub q (zK s d (zNx s q d))
theorem zEx_L {s : Int32} {q d : ZQ} (hq : zL q) (hd : zL d) : zL (zEx s q d) := zK_L (zC_L hd) hq
theorem zNx_L {s : Int32} {q d : ZQ} (hd : zL d) (h0 : d ≠ z0) : zL (zNx s q d) := zNr_L (zN_pos hd h0)
theorem zRs_L {s : Int32} {q d : ZQ} (hq : zL q) (hd : zL d) (h0 : d ≠ z0) : zL (zRs s q d) := zSub_L hq (zK_L hd (zNx_L hd h0))
/-- what is far from the exact quotient has a great rest -/
theorem zDs_rest {s : Int32} {q d x : ZQ} (hq : zL q) (hd : zL d) (hx : zL x) : zDs (zEx s q d) (zN d) x = 4 * (zN d * zN (zSub q (zK s d x))) := by
  have h := zK_sub (s := s) (zC_L hd) hq (zK_L (s := s) hd hx)
  rw [zK_C hd hx] at h
  unfold zDs zEx
  rw [← h, zN4_four (zK_L (zC_L hd) (zSub_L hq (zK_L hd hx))), zK_N (zC_L hd) (zSub_L hq (zK_L hd hx)), zC_N]
theorem zRs_half {s : Int32} {q d : ZQ} (hq : zL q) (hd : zL d) (h0 : d ≠ z0) : 2 * zN (zRs s q d) ≤ zN d := by
  have hn := zN_pos hd h0
  have h1 := zNr_half (e := zEx s q d) hn
  have h2 := zDs_rest (s := s) hq hd (zNx_L (s := s) (q := q) hd h0)
  unfold zRs
  unfold zNx at h2 ⊢
  rw [h2] at h1
  have h3 : zN d * (2 * zN (zSub q (zK s d (zNr (zEx s q d) (zN d))))) ≤ zN d * zN d := by
    have e : zN d * (2 * zN (zSub q (zK s d (zNr (zEx s q d) (zN d))))) = 2 * (zN d * zN (zSub q (zK s d (zNr (zEx s q d) (zN d))))) := by grind
    omega
  exact Int.le_of_mul_le_mul_left h3 hn
/-- an exact quotient is the nearest one -/
theorem zNx_exact {s : Int32} {d x : ZQ} (hd : zL d) (h0 : d ≠ z0) (hx : zL x) : zNx s (zK s d x) d = x := by
  have hn := zN_pos hd h0
  have e0 : zDs (zEx s (zK s d x) d) (zN d) x = 0 := by
    rw [zDs_rest (zK_L hd hx) hd hx, zSub_self, zN_z0, Int.mul_zero]
    rfl
  have b := zNr_best (e := zEx s (zK s d x) d) hn
  have b1 := (b.2 x hx).1
  rw [e0] at b1
  have e1 : zSub (zEx s (zK s d x) d) (zSc (zN d) (zNx s (zK s d x) d)) = z0 := zN4_zero (by
    have := zN4_nn (zSub (zEx s (zK s d x) d) (zSc (zN d) (zNx s (zK s d x) d)))
    have b2 : zN4 (zSub (zEx s (zK s d x) d) (zSc (zN d) (zNx s (zK s d x) d))) ≤ 0 := b1
    omega)
  have e2 := zSub_eq0 e1
  unfold zEx at e2
  rw [zK_C hd hx] at e2
  exact (zSc_inj (by omega) e2).symm
/-! common divisors -/
theorem zCd_step {s : Int32} {q d x y : ZQ} (hq : zL q) (hd : zL d) (hx : zL x) (hy : zL y) : (zD s x q ∧ zD s x d) ↔ (zD s x d ∧ zD s x (zSub q (zK s d y))) := by
  constructor
  · rintro ⟨h1, h2⟩
    exact ⟨h2, h1.sub hx (h2.mul hx hy)⟩
  · rintro ⟨h1, h2⟩
    refine ⟨?_, h1⟩
    have := (h1.mul hx hy).add hx h2
    rw [zAdd_sub] at this
    exact this
/-- by steps of division, the last divisor -/
noncomputable def zGd (s : Int32) : Nat → ZQ → ZQ → ZQ × Nat
  | 0, q, _ => (q, 0)
  | f + 1, q, d => @ite _ (d = z0) (Classical.propDecidable _) (q, 0) ((zGd s f d (zRs s q d)).1, (zGd s f d (zRs s q d)).2 + 1)
theorem zGd_0 (s : Int32) (f : Nat) (q : ZQ) : zGd s f q z0 = (q, 0) := by
  cases f with
  | zero => rfl
  | succ f => unfold zGd; rw [if_pos rfl]
theorem zGd_s {s : Int32} {f : Nat} {q d : ZQ} (h : d ≠ z0) : zGd s (f + 1) q d = ((zGd s f d (zRs s q d)).1, (zGd s f d (zRs s q d)).2 + 1) := by
  show @ite _ (d = z0) (Classical.propDecidable _) _ _ = _
  rw [if_neg h]
/-- enough steps are enough -/
theorem zGd_big (s : Int32) : ∀ (f : Nat) (q d : ZQ), zL q → zL d → zN d < 2 ^ f → zL (zGd s (f + 1) q d).1 ∧ (∀ x, zL x → ((zD s x q ∧ zD s x d) ↔ zD s x (zGd s (f + 1) q d).1)) ∧ (∃ u v, zL u ∧ zL v ∧ (zGd s (f + 1) q d).1 = zAdd (zK s q u) (zK s d v)) ∧ (∀ g, zGd s (f + 1 + g) q d = zGd s (f + 1) q d) ∧ (zGd s (f + 1) q d).2 ≤ f + 1 := by
  intro f
  induction f with
  | zero =>
    intro q d hq hd h
    have : zN d = 0 := by have := zN_nn d; have : zN d < 1 := h; omega
    have e := zN_zero hd this
    subst e
    rw [zGd_0]
    refine ⟨hq, fun x hx => ⟨fun k => k.1, fun k => ⟨k, zD.zero hx⟩⟩, ⟨z1, z0, z1_L, z0_L, ?_⟩, fun g => zGd_0 _ _ _, by omega⟩
    rw [zK_one hq, zK_z0 z0_L]
    unfold zAdd z0
    refine zq_ext ?_ ?_ ?_ ?_ <;> simp only <;> omega
  | succ f ih =>
    intro q d hq hd h
    by_cases h0 : d = z0
    · subst h0
      rw [zGd_0]
      refine ⟨hq, fun x hx => ⟨fun k => k.1, fun k => ⟨k, zD.zero hx⟩⟩, ⟨z1, z0, z1_L, z0_L, ?_⟩, fun g => zGd_0 _ _ _, by omega⟩
      rw [zK_one hq, zK_z0 z0_L]
      unfold zAdd z0
      refine zq_ext ?_ ?_ ?_ ?_ <;> simp only <;> omega
    · rw [zGd_s h0]
      have hr := zRs_L (s := s) hq hd h0
      have hh := zRs_half (s := s) hq hd h0
      have hp : (2 : Int) ^ (f + 1) = 2 * 2 ^ f := by rw [Int.pow_succ]; omega
      obtain ⟨a1, a2, ⟨u, v, hu, hv, a3⟩, a4, a5⟩ := ih d (zRs s q d) hd hr (by omega)
      have hy := zNx_L (s := s) (q := q) hd h0
      refine ⟨a1, fun x hx => ?_, ⟨v, zSub u (zK s (zNx s q d) v), hv, zSub_L hu (zK_L hy hv), ?_⟩, fun g => ?_, ?_⟩
      · rw [← a2 x hx]
        exact zCd_step hq hd hx hy
      · simp only
        rw [a3]
        unfold zRs
        rw [zK_subl hv hq (zK_L hd hy), zK_sub hd hu (zK_L hy hv), zK_assoc hd hy hv]
        unfold zAdd zSub
        refine zq_ext ?_ ?_ ?_ ?_ <;> simp only <;> omega
      · have e : f + 1 + 1 + g = (f + 1 + g) + 1 := by omega
        rw [e, zGd_s h0, a4]
      · simp only
        omega
