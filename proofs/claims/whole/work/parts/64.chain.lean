/-! CHAINS, counted from either end, alone -/
def zOm : List ZQ := (List.range 150).flatMap fun i => zCl 0 (i + 1)
theorem zOm_mem {x : ZQ} : x ∈ zOm ↔ zL x ∧ zHd 0 x ∧ 1 ≤ zN x ∧ zN x ≤ 150 := by
  unfold zOm
  rw [List.mem_flatMap]
  constructor
  · rintro ⟨i, hi, h⟩
    have hi := List.mem_range.mp hi
    rw [zCl_mem (by omega) (by omega)] at h
    exact ⟨h.1, h.2.2, by omega, by omega⟩
  · rintro ⟨h1, h2, h3, h4⟩
    refine ⟨(zN x).toNat - 1, List.mem_range.mpr (by omega), ?_⟩
    rw [zCl_mem (by omega) (by omega)]
    exact ⟨h1, by omega, h2⟩
theorem zOm_nd : zOm.Nodup := by
  unfold zOm List.Nodup
  rw [List.pairwise_flatMap]
  constructor
  · intro i hi
    have hi := List.mem_range.mp hi
    exact pw_nd (zCl_pw (by omega))
  · have pr : (List.range 150).Pairwise (· < ·) := List.pairwise_lt_range
    exact List.Pairwise.imp_of_mem (fun {a b} ha hb hab x hx y hy e => by
      have a6 := List.mem_range.mp ha
      have b6 := List.mem_range.mp hb
      rw [zCl_mem (by omega) (by omega)] at hx hy
      have := hx.2.1
      have := hy.2.1
      rw [e] at *
      omega) pr
theorem zF_nd {P : ZQ → Prop} {l : List ZQ} (h : l.Nodup) : (zF P l).Nodup := List.Pairwise.filter _ h
noncomputable def sP (P : ZQ → Prop) (f : ZQ → Nat) : Nat := ((zF P zOm).map f).sum
theorem sum_perm {l1 l2 : List ZQ} (h1 : l1.Nodup) (h2 : l2.Nodup) (h : ∀ x, x ∈ l1 ↔ x ∈ l2) (f : ZQ → Nat) : (l1.map f).sum = (l2.map f).sum := by
  have p : l1.Perm l2 := (List.perm_ext_iff_of_nodup h1 h2).mpr h
  exact (p.map f).sum_nat
theorem sP_list {P : ZQ → Prop} {l : List ZQ} (h1 : l.Nodup) (h : ∀ x, x ∈ l ↔ x ∈ zOm ∧ P x) (f : ZQ → Nat) : (l.map f).sum = sP P f :=
  sum_perm h1 (zF_nd zOm_nd) (fun x => by rw [zF_mem]; exact h x) f
theorem sum_congr {l : List ZQ} {f g : ZQ → Nat} (h : ∀ x, x ∈ l → f x = g x) : (l.map f).sum = (l.map g).sum := by
  rw [List.map_congr_left h]
theorem sP_congr {P Q : ZQ → Prop} {f g : ZQ → Nat} (hP : ∀ x, x ∈ zOm → (P x ↔ Q x)) (h : ∀ x, x ∈ zOm → P x → f x = g x) : sP P f = sP Q g := by
  unfold sP
  rw [sum_perm (zF_nd zOm_nd) (zF_nd (P := Q) zOm_nd) (fun x => by rw [zF_mem, zF_mem]; exact and_congr_right (fun hx => hP x hx)) f]
  exact sum_congr (fun x hx => by rw [zF_mem] at hx; exact h x hx.1 ((hP x hx.1).mpr hx.2))
theorem sum_swap (l1 l2 : List ZQ) (g : ZQ → ZQ → Nat) : (l1.map fun a => (l2.map fun b => g a b).sum).sum = (l2.map fun b => (l1.map fun a => g a b).sum).sum := by
  induction l1 with
  | nil =>
    simp only [List.map_nil, List.sum_nil]
    induction l2 with
    | nil => rfl
    | cons b l2 ih => rw [List.map_cons, List.sum_cons, ← ih, Nat.add_zero]
  | cons a l1 ih =>
    rw [List.map_cons, List.sum_cons, ih]
    clear ih
    induction l2 with
    | nil => rfl
    | cons b l2 ih => simp only [List.map_cons, List.sum_cons] at ih ⊢; omega
/-- sums over pairs may be taken in either order -/
theorem sP_swap (P : ZQ → Prop) (Q : ZQ → ZQ → Prop) (g : ZQ → ZQ → Nat) : sP P (fun a => sP (Q a) (g a)) = sP (fun _ => True) (fun b => sP (fun a => P a ∧ Q a b) (fun a => g a b)) := by
  have one : ∀ (P : ZQ → Prop) (f : ZQ → Nat), sP P f = (zOm.map fun a => @ite _ (P a) (Classical.propDecidable _) (f a) 0).sum := by
    intro P f
    unfold sP zF
    generalize zOm = l
    induction l with
    | nil => rfl
    | cons x l ih =>
      rw [List.filter_cons, List.map_cons, List.sum_cons, ← ih]
      by_cases h : P x
      · rw [if_pos h, if_pos (by simpa using h), List.map_cons, List.sum_cons]
      · rw [if_neg h, if_neg (by simpa using h), Nat.zero_add]
  rw [one, one]
  have e1 : (fun a => @ite _ (P a) (Classical.propDecidable _) (sP (Q a) (g a)) 0) = fun a => (zOm.map fun b => @ite _ (P a ∧ Q a b) (Classical.propDecidable _) (g a b) 0).sum := by
    funext a
    by_cases h : P a
    · rw [if_pos h, one]
      congr 2
      funext b
      by_cases h2 : Q a b
      · rw [if_pos h2, if_pos ⟨h, h2⟩]
      · rw [if_neg h2, if_neg (fun z => h2 z.2)]
    · rw [if_neg h]
      have : (fun b => @ite _ (P a ∧ Q a b) (Classical.propDecidable _) (g a b) 0) = fun _ => 0 := by
        funext b
        rw [if_neg (fun z => h z.1)]
      rw [this]
      generalize zOm = l
      induction l with
      | nil => rfl
      | cons x l ih => rw [List.map_cons, List.sum_cons, ← ih]
  rw [e1, sum_swap]
  exact congrArg (fun h => (zOm.map h).sum) (funext fun b => by rw [if_pos trivial, one])
/-- d is next below q -/
def zCov (q d : ZQ) : Prop := zD 0 d q ∧ ∃ p : Int, zPr p ∧ zN q = zN d * p
/-- x is a prime head that divides q -/
def zPd (q x : ZQ) : Prop := zD 0 x q ∧ zPr (zN x)
noncomputable def cT : Nat → ZQ → Nat
  | 0, _ => 1
  | f + 1, q => @ite _ (zN q = 1) (Classical.propDecidable _) 1 (sP (zCov q) (cT f))
noncomputable def cB : Nat → ZQ → Nat
  | 0, _ => 1
  | f + 1, q => @ite _ (zN q = 1) (Classical.propDecidable _) 1 (sP (zPd q) (fun x => cB f (zNx 0 q x)))
theorem zCov_lt {q d : ZQ} (h : zCov q d) (hd : 0 < zN d) : zN d < zN q := by
  obtain ⟨-, p, hp, e⟩ := h
  have : zN d * 2 ≤ zN d * p := Int.mul_le_mul_of_nonneg_left (by have := hp.1; omega) (by omega)
  omega
/-- what is left of q by x -/
theorem zLq {q x : ZQ} (lq : zL q) (lx : zL x) (x0 : x ≠ z0) (h : zD 0 x q) : zL (zNx 0 q x) ∧ zK 0 x (zNx 0 q x) = q ∧ zN q = zN x * zN (zNx 0 q x) := by
  obtain ⟨v, v1, v2⟩ := h
  have e : zNx 0 q x = v := by rw [← v2]; exact zNx_exact lx x0 v1
  rw [e]
  exact ⟨v1, v2, by rw [← v2]; exact zK_N lx v1⟩
theorem om_0 {x : ZQ} (h : x ∈ zOm) : x ≠ z0 := fun e => by
  have := (zOm_mem.mp h).2.2.1
  rw [e, zN_z0] at this
  omega
theorem cT_fuel : ∀ (f : Nat) (q : ZQ), 1 ≤ zN q → zN q ≤ f → cT (f + 1) q = cT f q := by
  intro f
  induction f with
  | zero => intro q h1 h2; omega
  | succ f ih =>
    intro q h1 h2
    show @ite _ (zN q = 1) (Classical.propDecidable _) 1 (sP (zCov q) (cT (f + 1))) = @ite _ (zN q = 1) (Classical.propDecidable _) 1 (sP (zCov q) (cT f))
    congr 1
    refine sP_congr (fun _ _ => Iff.rfl) (fun d hd hc => ?_)
    obtain ⟨-, -, h3, -⟩ := zOm_mem.mp hd
    have := zCov_lt hc (by omega)
    exact ih d h3 (by omega)
theorem cB_fuel : ∀ (f : Nat) (q : ZQ), zL q → 1 ≤ zN q → zN q ≤ f → cB (f + 1) q = cB f q := by
  intro f
  induction f with
  | zero => intro q _ h1 h2; omega
  | succ f ih =>
    intro q lq h1 h2
    show @ite _ (zN q = 1) (Classical.propDecidable _) 1 (sP (zPd q) (fun x => cB (f + 1) (zNx 0 q x))) = @ite _ (zN q = 1) (Classical.propDecidable _) 1 (sP (zPd q) (fun x => cB f (zNx 0 q x)))
    congr 1
    refine sP_congr (fun _ _ => Iff.rfl) (fun x hx hc => ?_)
    obtain ⟨lx, -, h3, -⟩ := zOm_mem.mp hx
    obtain ⟨k1, -, k3⟩ := zLq lq lx (om_0 hx) hc.1
    have n0 := zN_nn (zNx 0 q x)
    have p2 := hc.2.1
    have n1 : 1 ≤ zN (zNx 0 q x) := by
      apply Classical.byContradiction
      intro z
      have : zN (zNx 0 q x) = 0 := by omega
      rw [this, Int.mul_zero] at k3
      omega
    have : 2 * zN (zNx 0 q x) ≤ zN x * zN (zNx 0 q x) := Int.mul_le_mul_of_nonneg_right (by omega) (by omega)
    exact ih _ k1 n1 (by omega)
noncomputable def zT (q : ZQ) : Nat := cT 151 q
noncomputable def zBc (q : ZQ) : Nat := cB 151 q
theorem zT_1 {q : ZQ} (h : zN q = 1) : zT q = 1 := by
  show @ite _ (zN q = 1) (Classical.propDecidable _) 1 (sP (zCov q) (cT 150)) = 1
  rw [if_pos h]
theorem zBc_1 {q : ZQ} (h : zN q = 1) : zBc q = 1 := by
  show @ite _ (zN q = 1) (Classical.propDecidable _) 1 (sP (zPd q) (fun x => cB 150 (zNx 0 q x))) = 1
  rw [if_pos h]
theorem zT_s {q : ZQ} (h : ¬ zN q = 1) : zT q = sP (zCov q) zT := by
  show @ite _ (zN q = 1) (Classical.propDecidable _) 1 (sP (zCov q) (cT 150)) = _
  rw [if_neg h]
  refine sP_congr (fun _ _ => Iff.rfl) (fun d hd hc => ?_)
  obtain ⟨-, -, h3, h4⟩ := zOm_mem.mp hd
  exact (cT_fuel 150 d h3 h4).symm
theorem zBc_s {q : ZQ} (lq : zL q) (h : ¬ zN q = 1) (h1 : 1 ≤ zN q) (h150 : zN q ≤ 150) : zBc q = sP (zPd q) (fun x => zBc (zNx 0 q x)) := by
  show @ite _ (zN q = 1) (Classical.propDecidable _) 1 (sP (zPd q) (fun x => cB 150 (zNx 0 q x))) = _
  rw [if_neg h]
  refine sP_congr (fun _ _ => Iff.rfl) (fun x hx hc => ?_)
  obtain ⟨lx, -, h3, -⟩ := zOm_mem.mp hx
  obtain ⟨k1, -, k3⟩ := zLq lq lx (om_0 hx) hc.1
  have n0 := zN_nn (zNx 0 q x)
  have n1 : 1 ≤ zN (zNx 0 q x) := by
    apply Classical.byContradiction
    intro z
    have : zN (zNx 0 q x) = 0 := by omega
    rw [this, Int.mul_zero] at k3
    omega
  have : 1 * zN (zNx 0 q x) ≤ zN x * zN (zNx 0 q x) := Int.mul_le_mul_of_nonneg_right (by omega) (by omega)
  exact (cB_fuel 150 _ k1 n1 (by omega)).symm
/-- mates have as many -/
theorem zT_mate {q r : ZQ} (lq : zL q) (h : zA 0 q r) : zT q = zT r := by
  have nr := h.N lq
  by_cases h1 : zN q = 1
  · rw [zT_1 h1, zT_1 (by omega)]
  · rw [zT_s h1, zT_s (by omega)]
    refine sP_congr (fun d hd => ?_) (fun _ _ _ => rfl)
    obtain ⟨ld, -⟩ := zOm_mem.mp hd
    unfold zCov
    rw [nr]
    exact ⟨fun z => ⟨z.1.trans ld h.D, z.2⟩, fun z => ⟨z.1.trans ld (h.symm lq).D, z.2⟩⟩
theorem zPr_ne1 {p : Int} (h : zPr p) : ¬ p = 1 := by have := h.1; omega
theorem zN_1_D {q : ZQ} {x : ZQ} (lx : zL x) (h : zN x = 1) : ∀ (_ : zL q), zD 0 x q := by
  intro lq
  have e := zK_C2 (s := 0) lx lq
  rw [h, zSc_one] at e
  exact ⟨_, zK_L (zC_L lx) lq, e⟩
/-- fixed the first prime x: what lies between x and q is what lies below the rest -/
theorem chain_x {q x : ZQ} (lq : zL q) (h1 : 1 ≤ zN q) (h150 : zN q ≤ 150) (hx : x ∈ zOm) (hxq : zD 0 x q) (h2 : ¬ zN (zNx 0 q x) = 1) :
    sP (fun d => zCov q d ∧ zD 0 x d) (fun d => zT (zNx 0 d x)) = zT (zNx 0 q x) := by
  obtain ⟨lx, hxd, x1, x150⟩ := zOm_mem.mp hx
  have x0 := om_0 hx
  obtain ⟨k1, k2, k3⟩ := zLq lq lx x0 hxq
  rw [zT_s h2]
  generalize hr : zNx 0 q x = r at k1 k2 k3
  -- e below r goes to the head of x e
  have lst : ∀ e, e ∈ zF (zCov r) zOm → zL e ∧ zHd 0 e ∧ 1 ≤ zN e ∧ zN e ≤ 150 ∧ zCov r e := by
    intro e he
    rw [zF_mem, zOm_mem] at he
    exact ⟨he.1.1, he.1.2.1, he.1.2.2.1, he.1.2.2.2, he.2⟩
  have hd_xe : ∀ e, zL e → zL (zK 0 x e) ∧ zL (zHead 0 (zK 0 x e)) ∧ zA 0 (zK 0 x e) (zHead 0 (zK 0 x e)) ∧ zN (zHead 0 (zK 0 x e)) = zN x * zN e := by
    intro e le
    have l1 := zK_L (s := 0) lx le
    exact ⟨l1, zHead_L l1, zHead_A l1, by rw [zHead_N l1, zK_N lx le]⟩
  -- what is left of that by x is a mate of e
  have left_xe : ∀ e, zL e → zD 0 x (zHead 0 (zK 0 x e)) ∧ zA 0 e (zNx 0 (zHead 0 (zK 0 x e)) x) := by
    intro e le
    obtain ⟨l1, l2, ⟨u, hu, eu⟩, -⟩ := hd_xe e le
    have e1 : zHead 0 (zK 0 x e) = zK 0 x (zK 0 e u) := by rw [eu, zK_assoc lx le (zUl_L hu)]
    rw [e1, zNx_exact lx x0 (zK_L le (zUl_L hu))]
    exact ⟨⟨_, zK_L le (zUl_L hu), rfl⟩, u, hu, rfl⟩
  have nd2 : ((zF (zCov r) zOm).map fun e => zHead 0 (zK 0 x e)).Nodup := by
    unfold List.Nodup
    rw [List.pairwise_map]
    exact List.Pairwise.imp_of_mem (fun {a b} ha hb hab e => by
      obtain ⟨la, hda, -⟩ := lst a ha
      obtain ⟨lb, hdb, -⟩ := lst b hb
      obtain ⟨-, A1⟩ := left_xe a la
      obtain ⟨-, A2⟩ := left_xe b lb
      rw [e] at A1
      exact hab (zHd_uniq la (A1.trans la (A2.symm lb)) hda hdb)) (zF_nd zOm_nd)
  have mem2 : ∀ d, d ∈ ((zF (zCov r) zOm).map fun e => zHead 0 (zK 0 x e)) ↔ d ∈ zOm ∧ (zCov q d ∧ zD 0 x d) := by
    intro d
    rw [List.mem_map]
    constructor
    · rintro ⟨e, he, rfl⟩
      obtain ⟨le, hde, e1, e150, hc, p, hp, en⟩ := lst e he
      obtain ⟨l1, l2, l3, l4⟩ := hd_xe e le
      have nq : zN q = zN (zHead 0 (zK 0 x e)) * p := by rw [l4, k3, en, Int.mul_assoc]
      have dq : zD 0 (zHead 0 (zK 0 x e)) q := by
        obtain ⟨y, hy, ey⟩ := hc
        have : zD 0 (zK 0 x e) q := ⟨y, hy, by rw [zK_assoc lx le hy, ey, k2]⟩
        exact (l3.symm l1).D.trans l2 this
      have pos : 0 < zN x * zN e := Int.mul_pos (by omega) (by omega)
      have le2 := Int.le_of_dvd (by omega) (dq.norm l2)
      exact ⟨zOm_mem.mpr ⟨l2, zHead_Hd l1, by omega, by omega⟩, ⟨dq, p, hp, nq⟩, (left_xe e le).1⟩
    · rintro ⟨hd, ⟨dq, p, hp, nq⟩, xd⟩
      obtain ⟨ld, hdd, d1, d150⟩ := zOm_mem.mp hd
      obtain ⟨m1, m2, m3⟩ := zLq ld lx x0 xd
      generalize hg : zNx 0 d x = g at m1 m2 m3
      have g1 : 1 ≤ zN g := by
        have := zN_nn g
        apply Classical.byContradiction
        intro z
        have : zN g = 0 := by omega
        rw [this, Int.mul_zero] at m3
        omega
      have ghA := zHead_A (s := 0) m1
      have ghL := zHead_L (s := 0) m1
      refine ⟨zHead 0 g, ?_, ?_⟩
      · rw [zF_mem, zOm_mem]
        have gle : zN g ≤ zN d := by
          have : 1 * zN g ≤ zN x * zN g := Int.mul_le_mul_of_nonneg_right (by omega) (by omega)
          omega
        refine ⟨⟨ghL, zHead_Hd m1, by rw [zHead_N m1]; omega, by rw [zHead_N m1]; omega⟩, ?_, p, hp, ?_⟩
        · -- g divides r, for x g = d divides q = x r
          obtain ⟨y, hy, ey⟩ := dq
          rw [← m2, zK_assoc lx m1 hy] at ey
          have : zK 0 g y = r := zK_cancel lx x0 (zK_L m1 hy) k1 (ey.trans k2.symm)
          exact (ghA.symm m1).D.trans ghL ⟨y, hy, this⟩
        · rw [zHead_N m1]
          have e : zN x * zN r = zN x * (zN g * p) := by rw [← k3, nq, m3, Int.mul_assoc]
          exact Int.eq_of_mul_eq_mul_left (by omega) e
      · obtain ⟨l1, l2, l3, -⟩ := hd_xe (zHead 0 g) ghL
        obtain ⟨u, hu, eu⟩ := ghA
        have A : zA 0 d (zK 0 x (zHead 0 g)) := ⟨u, hu, by rw [eu, ← m2, zK_assoc lx m1 (zUl_L hu)]⟩
        exact zHd_uniq l2 ((l3.symm l1).trans l2 (A.symm ld)) (zHead_Hd l1) hdd
  have s1 := sP_list nd2 mem2 (fun d => zT (zNx 0 d x))
  rw [← s1, List.map_map]
  unfold sP
  refine sum_congr (fun e he => ?_)
  obtain ⟨le, -⟩ := lst e he
  exact (zT_mate le (left_xe e le).2).symm
theorem zPr_prod {a b : Int} (ha : 1 < a) (hb : 1 < b) : ¬ zPr (a * b) := by
  intro h
  rcases h.2 a (by omega) ⟨b, rfl⟩ with z | z
  · omega
  · have : a * 1 < a * b := Int.mul_lt_mul_of_pos_left hb (by omega)
    omega
/-- from either end as many -/
theorem zT_B : ∀ (n : Nat) (q : ZQ), zL q → zN q = n → 1 ≤ n → n ≤ 150 → zT q = zBc q := by
  intro n
  induction n using Nat.strongRecOn with
  | ind n ih =>
    intro q lq hn h1 h150
    by_cases hq1 : zN q = 1
    · rw [zT_1 hq1, zBc_1 hq1]
    · rw [zT_s hq1, zBc_s lq hq1 (by omega) (by omega)]
      by_cases hp : zPr (zN q)
      · -- one step is all
        have eT : sP (zCov q) zT = sP (zCov q) (fun _ => 1) := sP_congr (fun _ _ => Iff.rfl) (fun d hd hc => by
          obtain ⟨-, -, d1, -⟩ := zOm_mem.mp hd
          obtain ⟨-, p, pp, e⟩ := hc
          apply zT_1
          apply Classical.byContradiction
          intro z
          rw [e] at hp
          exact zPr_prod (by omega) pp.1 hp)
        have eB : sP (zPd q) (fun x => zBc (zNx 0 q x)) = sP (zPd q) (fun _ => 1) := sP_congr (fun _ _ => Iff.rfl) (fun x hx hc => by
          obtain ⟨lx, -, x1, -⟩ := zOm_mem.mp hx
          obtain ⟨k1, k2, k3⟩ := zLq lq lx (om_0 hx) hc.1
          apply zBc_1
          apply Classical.byContradiction
          intro z
          have g0 := zN_nn (zNx 0 q x)
          have g1 : ¬ zN (zNx 0 q x) = 0 := fun y => by rw [y, Int.mul_zero] at k3; omega
          rw [k3] at hp
          exact zPr_prod hc.2.1 (by omega) hp)
        rw [eT, eB]
        -- below q lies the unit alone, over it the head of q alone
        have l1 := sP_list (P := zCov q) (l := [z1]) (by simp) (fun x => by
          rw [List.mem_singleton]
          constructor
          · rintro rfl
            refine ⟨zOm_mem.mpr ⟨z1_L, ?_, by decide, by decide⟩, zN_1_D z1_L zN_z1 lq, zN q, hp, by rw [zN_z1, Int.one_mul]⟩
            exact (zHb_iff 0 z1).mp (by decide +kernel)
          · rintro ⟨hx, -, p, pp, e⟩
            obtain ⟨lx, hxd, x1, -⟩ := zOm_mem.mp hx
            have n1 : zN x = 1 := by
              apply Classical.byContradiction
              intro z
              rw [e] at hp
              exact zPr_prod (by omega) pp.1 hp
            have xu := zUl_all lx n1
            have hz1 : zHd 0 z1 := (zHb_iff 0 z1).mp (by decide +kernel)
            exact (zHd_uniq z1_L ⟨x, xu, (zK_onel lx).symm⟩ hz1 hxd).symm) (fun _ => 1)
        have l2 := sP_list (P := zPd q) (l := [zHead 0 q]) (by simp) (fun x => by
          rw [List.mem_singleton]
          constructor
          · rintro rfl
            exact ⟨zOm_mem.mpr ⟨zHead_L lq, zHead_Hd lq, by rw [zHead_N lq]; omega, by rw [zHead_N lq]; omega⟩, ((zHead_A lq).symm lq).D, by rw [zHead_N lq]; exact hp⟩
          · rintro ⟨hx, xq, xp⟩
            obtain ⟨lx, hxd, x1, -⟩ := zOm_mem.mp hx
            rcases hp.2 (zN x) (by omega) (xq.norm lx) with z | z
            · exact absurd z (zPr_ne1 xp)
            · exact (zHead_eq lq ((xq.A lx (om_0 hx) z.symm).symm lx) hxd).symm) (fun _ => 1)
        rw [← l1, ← l2]
        rfl
      · -- by pairs
        have eT : sP (zCov q) zT = sP (zCov q) (fun d => sP (zPd d) (fun x => zT (zNx 0 d x))) := sP_congr (fun _ _ => Iff.rfl) (fun d hd hc => by
          obtain ⟨ld, -, d1, d150⟩ := zOm_mem.mp hd
          have lt := zCov_lt hc (by omega)
          have dn1 : ¬ zN d = 1 := fun z => by
            obtain ⟨-, p, pp, e⟩ := hc
            rw [z, Int.one_mul] at e
            rw [e] at hp
            exact hp pp
          rw [ih (zN d).toNat (by omega) d ld (by omega) (by omega) (by omega), zBc_s ld dn1 d1 d150]
          refine sP_congr (fun _ _ => Iff.rfl) (fun x hx hcx => ?_)
          obtain ⟨lx, -, x1, -⟩ := zOm_mem.mp hx
          obtain ⟨k1, k2, k3⟩ := zLq ld lx (om_0 hx) hcx.1
          have g0 := zN_nn (zNx 0 d x)
          have g1 : ¬ zN (zNx 0 d x) = 0 := fun y => by rw [y, Int.mul_zero] at k3; omega
          have : 1 * zN (zNx 0 d x) ≤ zN x * zN (zNx 0 d x) := Int.mul_le_mul_of_nonneg_right (by omega) (by omega)
          exact (ih (zN (zNx 0 d x)).toNat (by omega) _ k1 (by omega) (by omega) (by omega)).symm)
        rw [eT, sP_swap]
        have eB : sP (zPd q) (fun x => zBc (zNx 0 q x)) = sP (fun _ => True) (fun x => sP (fun d => zCov q d ∧ zPd d x) (fun d => zT (zNx 0 d x))) := by
          -- over all x: those that aren't prime heads of q give nothing
          have one : ∀ (f : ZQ → Nat), sP (zPd q) f = sP (fun _ => True) (fun x => @ite _ (zPd q x) (Classical.propDecidable _) (f x) 0) := by
            intro f
            unfold sP zF
            generalize zOm = l
            induction l with
            | nil => rfl
            | cons x l ih2 =>
              simp only [List.filter_cons, decide_true, if_true, List.map_cons, List.sum_cons] at ih2 ⊢
              by_cases h : zPd q x
              · simp only [h, decide_true, if_true, List.map_cons, List.sum_cons]
                rw [ih2]
              · simp only [h, decide_false, if_false]
                rw [if_neg (show ¬ (false = true) by decide), ih2, Nat.zero_add]
          rw [one]
          refine sP_congr (fun _ _ => Iff.rfl) (fun x hx _ => ?_)
          obtain ⟨lx, -, x1, -⟩ := zOm_mem.mp hx
          by_cases h : zPd q x
          · rw [if_pos h]
            obtain ⟨k1, k2, k3⟩ := zLq lq lx (om_0 hx) h.1
            have g0 := zN_nn (zNx 0 q x)
            have g1 : ¬ zN (zNx 0 q x) = 0 := fun y => by rw [y, Int.mul_zero] at k3; omega
            have p2 := h.2.1
            have : 2 * zN (zNx 0 q x) ≤ zN x * zN (zNx 0 q x) := Int.mul_le_mul_of_nonneg_right (by omega) (by omega)
            have r1 : ¬ zN (zNx 0 q x) = 1 := fun z => by
              rw [z, Int.mul_one] at k3
              rw [k3] at hp
              exact hp h.2
            rw [← ih (zN (zNx 0 q x)).toNat (by omega) _ k1 (by omega) (by omega) (by omega), ← chain_x lq (by omega) (by omega) hx h.1 r1]
            refine sP_congr (fun d hd => ?_) (fun _ _ _ => rfl)
            exact ⟨fun z => ⟨z.1, z.2, h.2⟩, fun z => ⟨z.1, z.2.1⟩⟩
          · rw [if_neg h]
            have : sP (fun d => zCov q d ∧ zPd d x) (fun d => zT (zNx 0 d x)) = sP (fun _ => False) (fun _ => 0) := sP_congr (fun d hd => ⟨fun z => h ⟨z.2.1.trans lx z.1.1, z.2.2⟩, fun z => z.elim⟩) (fun d _ z => absurd ⟨z.2.1.trans lx z.1.1, z.2.2⟩ h)
            rw [this]
            unfold sP
            have : zF (fun _ => False) zOm = [] := by
              rw [List.eq_nil_iff_forall_not_mem]
              intro y hy
              rw [zF_mem] at hy
              exact hy.2
            rw [this]
            rfl
        rw [eB]
