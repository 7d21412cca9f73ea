/-! THE METHODS OF Division: nearest quotient, rest, steps, the test -/
theorem qj_tb (a : Int) : (qj a).toBitVec = BitVec.ofInt 32 a := rfl
theorem msb_q {a : Int} (h : qR a) : (BitVec.ofInt 32 a).msb = decide (a < 0) := by
  rw [BitVec.msb_eq_toInt]
  have : (BitVec.ofInt 32 a).toInt = a := qj_toInt h
  rw [this]
theorem xor_nn {a b : Int} (ha : qR a) (hb : 0 < b) (hb2 : qR b) : (0 ≤ qj a ^^^ qj b) = (0 ≤ a) := by
  apply propext
  rw [Int32.le_iff_toInt_le]
  show (0 : Int) ≤ (qj a ^^^ qj b).toBitVec.toInt ↔ 0 ≤ a
  have h : (qj a ^^^ qj b).toBitVec.msb = decide (a < 0) := by
    rw [Int32.toBitVec_xor, BitVec.msb_xor, qj_tb, qj_tb, msb_q ha, msb_q hb2, decide_eq_false (show ¬ b < 0 by omega), Bool.xor_false]
  rw [BitVec.msb_eq_toInt] at h
  have h2 := decide_eq_decide.mp h
  omega
theorem qfd_q {a b : Int} (ha : -2000000 ≤ a ∧ a ≤ 2000000) (hb : 0 < b ∧ b ≤ 2000000) : qfd (qj a) (qj b) = qj (a / b) := by
  have ra : qR a := qR_of (by omega) (by omega)
  have rb : qR b := qR_of (by omega) (by omega)
  have hn := Int.natAbs_tdiv_le_natAbs a b
  unfold qfd
  simp only [xor_nn ra hb.1 rb]
  rw [qj_div ra rb (by omega), qj_mul]
  have key := Int.tdiv_eq_ediv (a := a) (b := b)
  simp only [qj_eq (qR_of (show -2000000000 ≤ a.tdiv b * b by have d1 := Int.tdiv_mul_add_tmod a b; have h1 := Int.natAbs_tmod a b; have h2 : a.natAbs % b.natAbs ≤ a.natAbs := Nat.mod_le _ _; omega) (show a.tdiv b * b ≤ 2000000000 by have d1 := Int.tdiv_mul_add_tmod a b; have h1 := Int.natAbs_tmod a b; have h2 : a.natAbs % b.natAbs ≤ a.natAbs := Nat.mod_le _ _; omega)) ra]
  by_cases h0 : 0 ≤ a
  · rw [if_pos h0, Int.tdiv_eq_ediv_of_nonneg h0]
  · rw [if_neg h0]
    by_cases h2 : b ∣ a
    · have e : a.tdiv b * b = a := Int.tdiv_mul_cancel h2
      rw [if_pos e, Int.tdiv_eq_ediv_of_dvd h2]
    · have e : ¬ a.tdiv b * b = a := fun q => h2 ⟨a.tdiv b, by rw [Int.mul_comm]; exact q.symm⟩
      rw [if_neg e]
      show qj (a.tdiv b) - qj 1 = _
      rw [qj_sub]
      congr 1
      rw [if_neg (by rintro (z | z); exact h0 z; exact h2 z), Int.sign_eq_one_of_pos hb.1] at key
      omega
theorem c_nearEven {p n : Int} (hp : -1000 ≤ p ∧ p ≤ 1000) (hn : 0 < n ∧ n ≤ 1000) : fX1_nearEven (qj p) (qj n) = some (qj (zEv p n)) := by
  unfold fX1_nearEven
  have h1 : ¬ qj n ≤ 0 := by rw [← qj_0, qj_le (qR_of (by omega) (by omega)) (qR_of (by decide) (by decide))]; omega
  have e : (2 : Int32) * qj n = qj (2 * n) := qj_mul 2 n
  have h2 : ¬ qj (2 * n) = 0 := by rw [← qj_0, qj_eq (qR_of (by omega) (by omega)) (qR_of (by decide) (by decide))]; omega
  rw [if_neg h1, e, if_neg h2, qj_add, qfd_q (by omega) (by omega)]
  show some (qj 2 * _) = _
  rw [qj_mul]
  rfl
theorem c_nearOdd {p n : Int} (hp : -1000 ≤ p ∧ p ≤ 1000) (hn : 0 < n ∧ n ≤ 1000) : fX1_nearOdd (qj p) (qj n) = some (qj (zOd p n)) := by
  unfold fX1_nearOdd
  have h1 : ¬ qj n ≤ 0 := by rw [← qj_0, qj_le (qR_of (by omega) (by omega)) (qR_of (by decide) (by decide))]; omega
  have e : (2 : Int32) * qj n = qj (2 * n) := qj_mul 2 n
  have h2 : ¬ qj (2 * n) = 0 := by rw [← qj_0, qj_eq (qR_of (by omega) (by omega)) (qR_of (by decide) (by decide))]; omega
  rw [if_neg h1, e, if_neg h2, qfd_q (by omega) (by omega)]
  show some (qj 2 * _ + qj 1) = _
  rw [qj_mul, qj_add]
  rfl
theorem c_dist {σ : QMem} {k : Nat} {e x : ZQ} {n : Int} (he : qAt σ 39 e) (hx : qAt σ k x) : fX1_distance k (qj n) σ = some (qj (zDs e n x), σ) := by
  obtain ⟨h1, h2, h3, h4⟩ := he
  obtain ⟨g1, g2, g3, g4⟩ := hx
  unfold fX1_distance
  rw [h1, h2, h3, h4, g1, g2, g3, g4, zDs_parts]
  simp only [qj_mul, qj_sub, qj_add]
/-- a quaternion that a slot may hold -/
def qV (q : ZQ) : Prop := zL q ∧ zN4 q ≤ 600
/-- norms of what a slot may hold -/
theorem qV_N {q : ZQ} (h : qV q) : zN q ≤ 150 := by
  have := zN4_four h.1
  have := h.2
  omega
theorem qV_of {q : ZQ} (h : zL q) (h2 : zN q ≤ 150) : qV q := ⟨h, by have := zN4_four h; omega⟩
theorem qV_S {q : ZQ} (h : qV q) : zS q := Int.le_trans h.2 (by decide)
theorem zS_of {q : ZQ} (h : zL q) {n : Int} (h2 : zN q ≤ n) (hn : n ≤ 100000000) : zS q := by
  have := zN4_four h
  unfold zS
  omega
theorem zEx_N {s : Int32} {q d : ZQ} (hq : qV q) (hd : qV d) : zN (zEx s q d) ≤ 22500 := by
  unfold zEx
  rw [zK_N (zC_L hd.1) hq.1, zC_N]
  have a := qV_N hq
  have b := qV_N hd
  have c := zN_nn q
  have e := zN_nn d
  exact (mul_bd (m := 150) (n := 150) ⟨by omega, b⟩ ⟨by omega, a⟩).2
theorem zEx_B {s : Int32} {q d : ZQ} (hq : qV q) (hd : qV d) : zB 300 (zEx s q d) := by
  refine zN4_B (by decide) ?_
  have := zN4_four (zEx_L (s := s) hq.1 hd.1)
  have := zEx_N (s := s) hq hd
  omega
theorem zNc_bd {p n v : Int} (hn : 0 < n) (hp : -300 ≤ p ∧ p ≤ 300) (h : zNc p n v) : -301 ≤ v ∧ v ≤ 301 := by
  obtain ⟨h1, h2⟩ := h
  constructor
  · apply Classical.byContradiction
    intro c
    have : n * v ≤ n * (-302) := Int.mul_le_mul_of_nonneg_left (by omega) (by omega)
    omega
  · apply Classical.byContradiction
    intro c
    have : n * 302 ≤ n * v := Int.mul_le_mul_of_nonneg_left (by omega) (by omega)
    omega
theorem zq_S {x : ZQ} (h : zB 301 x) : zS x := by
  obtain ⟨a1, a2, a3, a4⟩ := h
  have := mul_bd a1 a1
  have := mul_bd a2 a2
  have := mul_bd a3 a3
  have := mul_bd a4 a4
  unfold zS zN4
  omega
theorem zEvq_S {e : ZQ} {n : Int} (hn : 0 < n) (he : zB 300 e) : zS (zEvq e n) := zq_S ⟨zNc_bd hn he.1 (zEv_nc hn), zNc_bd hn he.2.1 (zEv_nc hn), zNc_bd hn he.2.2.1 (zEv_nc hn), zNc_bd hn he.2.2.2 (zEv_nc hn)⟩
theorem zOdq_S {e : ZQ} {n : Int} (hn : 0 < n) (he : zB 300 e) : zS (zOdq e n) := zq_S ⟨zNc_bd hn he.1 (zOd_nc hn), zNc_bd hn he.2.1 (zOd_nc hn), zNc_bd hn he.2.2.1 (zOd_nc hn), zNc_bd hn he.2.2.2 (zOd_nc hn)⟩
theorem sq_nc {p n v : Int} (hn : 0 < n ∧ n ≤ 150) (h : zNc p n v) : (p - n * v) * (p - n * v) ≤ 22500 := by
  obtain ⟨h1, h2⟩ := h
  exact (mul_bd (m := 150) (n := 150) ⟨by omega, by omega⟩ ⟨by omega, by omega⟩).2
theorem zDs_bd {e x : ZQ} {n : Int} (hn : 0 < n ∧ n ≤ 150) (h1 : zNc e.1 n x.1) (h2 : zNc e.2.1 n x.2.1) (h3 : zNc e.2.2.1 n x.2.2.1) (h4 : zNc e.2.2.2 n x.2.2.2) : 0 ≤ zDs e n x ∧ zDs e n x ≤ 90000 := by
  refine ⟨zN4_nn _, ?_⟩
  rw [zDs_parts]
  have := sq_nc hn h1
  have := sq_nc hn h2
  have := sq_nc hn h3
  have := sq_nc hn h4
  omega
/-- what a division leaves behind -/
def dvP (c : Nat) : Prop := 36 ≤ c ∧ c ≤ 41
theorem zNx_S {s : Int32} {q d : ZQ} (hq : qV q) (hd : qV d) (h0 : d ≠ z0) : zS (zNx s q d) := by
  have hn := zN_pos hd.1 h0
  obtain ⟨a1, a2, a3, a4⟩ := zNr_nc (e := zEx s q d) hn
  obtain ⟨b1, b2, b3, b4⟩ := zEx_B (s := s) hq hd
  exact zq_S ⟨zNc_bd hn b1 a1, zNc_bd hn b2 a2, zNc_bd hn b3 a3, zNc_bd hn b4 a4⟩
theorem c_perf2 {σ : QMem} {k1 k2 : Nat} {q d x : ZQ} (s : Int32) (hk1 : ¬ dvP k1) (hk2 : ¬ dvP k2) (hq : qAt σ k1 q) (hd : qAt σ k2 d) (hx : qAt σ 36 x) (ld : zL d) (lx : zL x) (sd : zS d) (sx : zS x) :
    ∃ τ, fX1_perform_J211 k1 k2 s σ = some τ ∧ qAt τ 36 x ∧ qAt τ 37 (zSub q (zK s d x)) ∧ qSame dvP σ τ := by
  unfold dvP at hk1 hk2
  unfold fX1_perform_J211
  rw [c_made 41 s hd hx ld lx sd sx, Option.bind_some, c_diff 37 (qAt_ne (k2 := 41) (by omega) hq) (qPut_at _ _ _), Option.bind_some]
  refine ⟨_, rfl, qAt_ne (by decide) (qAt_ne (by decide) hx), qPut_at _ _ _, fun c hc => ?_⟩
  unfold dvP at hc
  rw [qPut_ne _ _ (by omega), qPut_ne _ _ (by omega)]
theorem qSame.mono {P Q : Nat → Prop} {σ τ ρ : QMem} (h1 : qSame P σ τ) (h2 : qSame Q τ ρ) (hP : ∀ k, P k → Q k) : qSame Q σ ρ := (h1.weaken hP).trans h2
theorem qPut_sm {P : Nat → Prop} {σ : QMem} {k : Nat} (q : ZQ) (h : P k) : qSame P σ (qPut σ k q) := fun c hc => qPut_ne σ q (fun e => hc (e ▸ h))
theorem c_perform {σ : QMem} {k1 k2 : Nat} {q d : ZQ} (s : Int32) (hk1 : ¬ dvP k1) (hk2 : ¬ dvP k2) (hq : qAt σ k1 q) (hd : qAt σ k2 d) (vq : qV q) (vd : qV d) (h0 : d ≠ z0) :
    ∃ τ, fX1_perform k1 k2 s σ = some τ ∧ qAt τ 36 (zNx s q d) ∧ qAt τ 37 (zRs s q d) ∧ qSame dvP σ τ := by
  have hn := zN_pos vd.1 h0
  have hn2 := qV_N vd
  obtain ⟨b1, b2, b3, b4⟩ := zEx_B (s := s) vq vd
  have hp : zL (zEx s q d) := zEx_L vq.1 vd.1
  unfold dvP at hk1 hk2
  unfold fX1_perform
  have e0 : fX6_put 36 0 0 0 0 σ = some (qPut σ 36 z0) := rfl
  have a1 : qAt (qPut σ 36 z0) k2 d := qAt_ne (by omega) hd
  have a2 : qAt (qPut σ 36 z0) k1 q := qAt_ne (by omega) hq
  have pos : ¬ qj (zN d) ≤ 0 := by rw [← qj_0, qj_le (qR_of (by omega) (by omega)) (qR_of (by decide) (by decide))]; omega
  rw [e0, Option.bind_some, c_norm a1 (Int.le_trans vd.2 (by decide)), Option.bind_some, if_neg pos, c_conj 38 a1, Option.bind_some]
  have a3 : qAt (qPut (qPut σ 36 z0) 38 (zC d)) k1 q := qAt_ne (by omega) a2
  have sC : zS (zC d) := by unfold zS; rw [zC_N4]; exact qV_S vd
  rw [c_made 39 s (qPut_at _ _ _) a3 (zC_L vd.1) vq.1 sC (qV_S vq), Option.bind_some]
  generalize hρ : qPut (qPut (qPut σ 36 z0) 38 (zC d)) 39 (zK s (zC d) q) = ρ
  have r39 : qAt ρ 39 (zEx s q d) := by rw [← hρ]; exact qPut_at _ _ _
  have r1 : qAt ρ k1 q := by rw [← hρ]; exact qAt_ne (by omega) a3
  have r2 : qAt ρ k2 d := by rw [← hρ]; exact qAt_ne (by omega) (qAt_ne (by omega) a1)
  have rs : qSame dvP σ ρ := by
    rw [← hρ]
    exact (qPut_sm _ (by unfold dvP; omega)).trans ((qPut_sm _ (by unfold dvP; omega)).trans (qPut_sm _ (by unfold dvP; omega)))
  obtain ⟨q1, q2, q3, q4⟩ := r39
  rw [q1, q2, q3, q4, c_nearEven (by omega) ⟨hn, by omega⟩, Option.bind_some, c_nearEven (by omega) ⟨hn, by omega⟩, Option.bind_some, c_nearEven (by omega) ⟨hn, by omega⟩, Option.bind_some, c_nearEven (by omega) ⟨hn, by omega⟩, Option.bind_some, c_put, Option.bind_some]
  have s39 : qAt (qPut ρ 36 (zEvq (zEx s q d) (zN d))) 39 (zEx s q d) := qAt_ne (by decide) ⟨q1, q2, q3, q4⟩
  obtain ⟨p1, p2, p3, p4⟩ := s39
  have ee : qPut ρ 36 (zEv (zEx s q d).1 (zN d), zEv (zEx s q d).2.1 (zN d), zEv (zEx s q d).2.2.1 (zN d), zEv (zEx s q d).2.2.2 (zN d)) = qPut ρ 36 (zEvq (zEx s q d) (zN d)) := rfl
  have eo : ∀ ρ3 : QMem, qPut ρ3 40 (zOd (zEx s q d).1 (zN d), zOd (zEx s q d).2.1 (zN d), zOd (zEx s q d).2.2.1 (zN d), zOd (zEx s q d).2.2.2 (zN d)) = qPut ρ3 40 (zOdq (zEx s q d) (zN d)) := fun _ => rfl
  rw [ee]
  rw [p1, p2, p3, p4, c_nearOdd (by omega) ⟨hn, by omega⟩, Option.bind_some, c_nearOdd (by omega) ⟨hn, by omega⟩, Option.bind_some, c_nearOdd (by omega) ⟨hn, by omega⟩, Option.bind_some, c_nearOdd (by omega) ⟨hn, by omega⟩, Option.bind_some, c_put, Option.bind_some]
  rw [eo]
  generalize hπ : qPut (qPut ρ 36 (zEvq (zEx s q d) (zN d))) 40 (zOdq (zEx s q d) (zN d)) = π
  have t36 : qAt π 36 (zEvq (zEx s q d) (zN d)) := by rw [← hπ]; exact qAt_ne (by decide) (qPut_at _ _ _)
  have t40 : qAt π 40 (zOdq (zEx s q d) (zN d)) := by rw [← hπ]; exact qPut_at _ _ _
  have t39 : qAt π 39 (zEx s q d) := by rw [← hπ]; exact qAt_ne (by decide) (qAt_ne (by decide) ⟨q1, q2, q3, q4⟩)
  have t1 : qAt π k1 q := by rw [← hπ]; exact qAt_ne (by omega) (qAt_ne (by omega) r1)
  have t2 : qAt π k2 d := by rw [← hπ]; exact qAt_ne (by omega) (qAt_ne (by omega) r2)
  have ts : qSame dvP σ π := by
    rw [← hπ]
    exact rs.trans ((qPut_sm _ (by unfold dvP; omega)).trans (qPut_sm _ (by unfold dvP; omega)))
  have dv := zDs_bd (e := zEx s q d) (x := zEvq (zEx s q d) (zN d)) ⟨hn, hn2⟩ (zEv_nc hn) (zEv_nc hn) (zEv_nc hn) (zEv_nc hn)
  have dw := zDs_bd (e := zEx s q d) (x := zOdq (zEx s q d) (zN d)) ⟨hn, hn2⟩ (zOd_nc hn) (zOd_nc hn) (zOd_nc hn) (zOd_nc hn)
  have sv := zEvq_S hn (zEx_B (s := s) vq vd)
  have sw := zOdq_S hn (zEx_B (s := s) vq vd)
  rw [c_dist t39 t36, Option.bind_some, c_dist t39 t40, Option.bind_some]
  have fin : ∀ (ρ2 : QMem) (x : ZQ), qAt ρ2 36 x → qAt ρ2 k1 q → qAt ρ2 k2 d → qSame dvP σ ρ2 → zL x → zS x → x = zNx s q d → ∃ τ, fX1_perform_J211 k1 k2 s ρ2 = some τ ∧ qAt τ 36 (zNx s q d) ∧ qAt τ 37 (zRs s q d) ∧ qSame dvP σ τ := by
    intro ρ2 x u1 u2 u3 u4 u5 u6 u7
    obtain ⟨τ, v1, v2, v3, v4⟩ := c_perf2 s (by unfold dvP; omega) (by unfold dvP; omega) u2 u3 u1 vd.1 u5 (qV_S vd) u6
    subst u7
    exact ⟨τ, v1, v2, v3, u4.trans v4⟩
  have fin2 : ∀ (ρ2 : QMem), ρ2 = π → zOdq (zEx s q d) (zN d) = zNx s q d → ∃ τ, fX1_perform_J200 k1 k2 s ρ2 = some τ ∧ qAt τ 36 (zNx s q d) ∧ qAt τ 37 (zRs s q d) ∧ qSame dvP σ τ := by
    intro ρ2 e u7
    subst e
    unfold fX1_perform_J200
    rw [c_copy 36 t40, Option.bind_some]
    exact fin _ _ (qPut_at _ _ _) (qAt_ne (by omega) t1) (qAt_ne (by omega) t2) (ts.trans (qPut_sm _ (by unfold dvP; omega))) (zOdq_L _ _) sw u7
  have z0le : (0 < qj (zDs (zEx s q d) (zN d) (zEvq (zEx s q d) (zN d))) - qj (zDs (zEx s q d) (zN d) (zOdq (zEx s q d) (zN d)))) = (zDs (zEx s q d) (zN d) (zOdq (zEx s q d) (zN d)) < zDs (zEx s q d) (zN d) (zEvq (zEx s q d) (zN d))) := by
    apply propext
    rw [qj_sub, ← qj_0, qj_lt (qR_of (by decide) (by decide)) (qR_of (by omega) (by omega))]
    omega
  have z0eq : (qj (zDs (zEx s q d) (zN d) (zEvq (zEx s q d) (zN d))) - qj (zDs (zEx s q d) (zN d) (zOdq (zEx s q d) (zN d))) = 0) = (zDs (zEx s q d) (zN d) (zEvq (zEx s q d) (zN d)) = zDs (zEx s q d) (zN d) (zOdq (zEx s q d) (zN d))) := by
    apply propext
    rw [qj_sub, ← qj_0, qj_eq (qR_of (by omega) (by omega)) (qR_of (by decide) (by decide))]
    omega
  simp only [z0le, z0eq]
  have isW : (zDs (zEx s q d) (zN d) (zOdq (zEx s q d) (zN d)) < zDs (zEx s q d) (zN d) (zEvq (zEx s q d) (zN d)) ∨ (zDs (zEx s q d) (zN d) (zEvq (zEx s q d) (zN d)) = zDs (zEx s q d) (zN d) (zOdq (zEx s q d) (zN d)) ∧ zGt (zOdq (zEx s q d) (zN d)) (zEvq (zEx s q d) (zN d)))) → zOdq (zEx s q d) (zN d) = zNx s q d := by
    intro h
    unfold zNx zNr
    rw [if_pos h]
  have isV : ¬ (zDs (zEx s q d) (zN d) (zOdq (zEx s q d) (zN d)) < zDs (zEx s q d) (zN d) (zEvq (zEx s q d) (zN d)) ∨ (zDs (zEx s q d) (zN d) (zEvq (zEx s q d) (zN d)) = zDs (zEx s q d) (zN d) (zOdq (zEx s q d) (zN d)) ∧ zGt (zOdq (zEx s q d) (zN d)) (zEvq (zEx s q d) (zN d)))) → zEvq (zEx s q d) (zN d) = zNx s q d := by
    intro h
    unfold zNx zNr
    rw [if_neg h]
  by_cases c1 : zDs (zEx s q d) (zN d) (zOdq (zEx s q d) (zN d)) < zDs (zEx s q d) (zN d) (zEvq (zEx s q d) (zN d))
  · rw [if_pos c1]
    exact fin2 _ rfl (isW (Or.inl c1))
  · rw [if_neg c1]
    by_cases c2 : zDs (zEx s q d) (zN d) (zEvq (zEx s q d) (zN d)) = zDs (zEx s q d) (zN d) (zOdq (zEx s q d) (zN d))
    · rw [if_pos c2, c_gt t40 t36 sw sv, Option.bind_some]
      simp only [bI_0]
      by_cases c3 : zGt (zOdq (zEx s q d) (zN d)) (zEvq (zEx s q d) (zN d))
      · rw [(zGb_iff _ _).mpr c3, if_neg (by decide)]
        exact fin2 _ rfl (isW (Or.inr ⟨c2, c3⟩))
      · rw [(zGb_not _ _).mpr c3, if_pos rfl]
        exact fin _ _ t36 t1 t2 ts (zEvq_L _ _) sv (isV (fun z => by rcases z with z | z; exact c1 z; exact c3 z.2))
    · rw [if_neg c2]
      exact fin _ _ t36 t1 t2 ts (zEvq_L _ _) sv (isV (fun z => by rcases z with z | z; exact c1 z; exact c2 z.1))
theorem qV_R {s : Int32} {q d : ZQ} (vq : qV q) (vd : qV d) (h0 : d ≠ z0) : qV (zRs s q d) := by
  refine qV_of (zRs_L vq.1 vd.1 h0) ?_
  have := zRs_half (s := s) vq.1 vd.1 h0
  have := qV_N vd
  have := zN_nn (zRs s q d)
  omega
def dsP (c : Nat) : Prop := 36 ≤ c ∧ c ≤ 43
theorem c_desc_loop (s : Int32) (k1 k2 : Nat) : ∀ (f n i : Nat) (σ : QMem) (q d : ZQ) (t : Int), f < n → i + f < 1000 → qAt σ 42 q → qAt σ 43 d → qV q → qV d → zN d < 2 ^ f → 0 ≤ t → t + f < 2000 →
    ∃ τ, fX1_descend_L22 k1 k2 s n (qj t) (nI i) σ = some (qj (t + (zGd s (f + 1) q d).2), τ) ∧ qAt τ 42 (zGd s (f + 1) q d).1 ∧ qSame dsP σ τ := by
  intro f
  induction f with
  | zero =>
    intro n i σ q d t hn hi hq hd vq vd h ht ht2
    obtain ⟨n, rfl⟩ : ∃ m, n = m + 1 := ⟨n - 1, by omega⟩
    have : zN d = 0 := by have := zN_nn d; have : zN d < 1 := h; omega
    have e := zN_zero vd.1 this
    subst e
    rw [zGd_0]
    unfold fX1_descend_L22
    simp (disch := omega) only [Option.bind_some, i32_lit, nI_add, nI_mulM, cI, nI_ltT, nI_ltF, nI_leT, nI_leF, nI_eqF, nat_leF, or_self, or_false, false_or, if_true, if_false, not_true, not_false, bI_n0, c_zero hd (qV_S vd)]
    rw [if_neg (by decide)]
    exact ⟨σ, by simp, hq, qSame.refl _ _⟩
  | succ f ih =>
    intro n i σ q d t hn hi hq hd vq vd h ht ht2
    obtain ⟨n, rfl⟩ : ∃ m, n = m + 1 := ⟨n - 1, by omega⟩
    by_cases h0 : d = z0
    · subst h0
      rw [zGd_0]
      unfold fX1_descend_L22
      simp (disch := omega) only [Option.bind_some, i32_lit, nI_add, nI_mulM, cI, nI_ltT, nI_ltF, nI_leT, nI_leF, nI_eqF, nat_leF, or_self, or_false, false_or, if_true, if_false, not_true, not_false, bI_n0, c_zero hd (qV_S vd)]
      rw [if_neg (by decide)]
      exact ⟨σ, by simp, hq, qSame.refl _ _⟩
    · rw [zGd_s h0]
      have hh := zRs_half (s := s) vq.1 vd.1 h0
      have hp : (2 : Int) ^ (f + 1) = 2 * 2 ^ f := by rw [Int.pow_succ]; omega
      obtain ⟨τ, e1, -, e3, e4⟩ := c_perform s (σ := σ) (k1 := 42) (k2 := 43) (by unfold dvP; omega) (by unfold dvP; omega) hq hd vq vd h0
      have g1 : qAt τ 43 d := e4.at (by unfold dvP; omega) hd
      obtain ⟨ρ, w1, w2, w3⟩ := ih n (i + 1) (qPut (qPut τ 42 d) 43 (zRs s q d)) d (zRs s q d) (t + 1) (by omega) (by omega) (qAt_ne (by decide) (qPut_at _ _ _)) (qPut_at _ _ _) vd (qV_R vq vd h0) (by omega) (by omega) (by omega)
      unfold fX1_descend_L22
      simp (disch := omega) only [Option.bind_some, i32_lit, nI_add, nI_mulM, cI, nI_ltT, nI_ltF, nI_leT, nI_leF, nI_eqF, nat_leF, or_self, or_false, false_or, if_true, if_false, not_true, not_false, bI_n0, c_zero hd (qV_S vd), decide_eq_false h0, e1, c_copy 42 g1, c_copy 43 (qAt_ne (k := 37) (k2 := 42) (by decide) e3)]
      have et : qj t + nI 1 = qj (t + 1) := qj_add t 1
      rw [et, w1]
      refine ⟨ρ, ?_, w2, ?_⟩
      · have e : t + 1 + ((zGd s (f + 1) d (zRs s q d)).2 : Int) = t + (((zGd s (f + 1) d (zRs s q d)).2 + 1 : Nat) : Int) := by omega
        rw [e]
      · exact ((e4.weaken (fun c h => by unfold dvP at h; unfold dsP; omega)).trans ((qPut_sm _ (by unfold dsP; omega)).trans (qPut_sm _ (by unfold dsP; omega)))).trans w3
theorem c_descend {σ : QMem} {k1 k2 : Nat} {q d : ZQ} (s : Int32) (hk1 : ¬ dsP k1) (hk2 : ¬ dsP k2) (hq : qAt σ k1 q) (hd : qAt σ k2 d) (vq : qV q) (vd : qV d) :
    ∃ τ, fX1_descend k1 k2 s σ = some (qj ((zGd s 9 q d).2 : Int), τ) ∧ qAt τ 42 (zGd s 9 q d).1 ∧ qSame dsP σ τ := by
  unfold dsP at hk1 hk2
  unfold fX1_descend
  rw [c_copy 42 hq, Option.bind_some, c_copy 43 (qAt_ne (k := k2) (k2 := 42) (by omega) hd), Option.bind_some]
  have hb : zN d < 2 ^ 8 := by have := qV_N vd; omega
  obtain ⟨τ, w1, w2, w3⟩ := c_desc_loop s k1 k2 8 FU 0 (qPut (qPut σ 42 q) 43 d) q d 0 (by unfold FU; omega) (by omega) (qAt_ne (by decide) (qPut_at _ _ _)) (qPut_at _ _ _) vq vd hb (by omega) (by omega)
  refine ⟨τ, ?_, w2, ((qPut_sm _ (by unfold dsP; omega)).trans (qPut_sm _ (by unfold dsP; omega))).trans w3⟩
  rw [Int.zero_add] at w1
  exact w1
/-- the test of division, also by 0 -/
noncomputable def zDb (s : Int32) (d q : ZQ) : Bool := @decide (zD s d q) (Classical.propDecidable _)
theorem zDb_iff {s : Int32} {d q : ZQ} : zDb s d q = true ↔ zD s d q := by unfold zDb; exact @decide_eq_true_iff _ (Classical.propDecidable _)
theorem b_ext {a b : Bool} (h : a = true ↔ b = true) : a = b := by cases a <;> cases b <;> simp_all
def dtP (c : Nat) : Prop := c = 38 ∨ c = 39
theorem c_isDiv {σ : QMem} {k1 k2 : Nat} {d q : ZQ} (s : Int32) (hk1 : ¬ dtP k1) (hk2 : ¬ dtP k2) (hd : qAt σ k1 d) (hq : qAt σ k2 q) (vd : qV d) (vq : qV q) :
    ∃ τ, fX1_isDivisor k1 k2 s σ = some (bI (zDb s d q), τ) ∧ qSame dtP σ τ := by
  unfold dtP at hk1 hk2
  have hn2 := qV_N vd
  have hn3 := zN_nn d
  unfold fX1_isDivisor
  rw [c_norm hd (Int.le_trans vd.2 (by decide)), Option.bind_some]
  simp only [qj_is0 (qR_of (show -2000000000 ≤ zN d by omega) (by omega))]
  by_cases h0 : d = z0
  · subst h0
    rw [if_pos zN_z0, c_zero hq (qV_S vq), Option.bind_some]
    simp only [bI_01, not_true, if_false]
    refine ⟨σ, ?_, qSame.refl _ _⟩
    have e : zDb s z0 q = decide (q = z0) := b_ext (by rw [zDb_iff, z0_D, decide_eq_true_iff])
    rw [e]
  · have hn := zN_pos vd.1 h0
    have sC : zS (zC d) := by unfold zS; rw [zC_N4]; exact qV_S vd
    rw [if_neg (by omega), c_conj 38 hd, Option.bind_some, c_made 39 s (qPut_at _ _ _) (qAt_ne (k := k2) (k2 := 38) (by omega) hq) (zC_L vd.1) vq.1 sC (qV_S vq), Option.bind_some, c_times (q := zK s (zC d) q) (qPut_at _ _ _) (zS_of (zEx_L (s := s) vq.1 vd.1) (zEx_N vq vd) (by decide)) hn (by omega), Option.bind_some]
    simp only [bI_01, not_true, if_false]
    refine ⟨qPut (qPut σ 38 (zC d)) 39 (zK s (zC d) q), ?_, (qPut_sm (P := dtP) (k := 38) _ (by unfold dtP; omega)).trans (qPut_sm (P := dtP) (k := 39) _ (by unfold dtP; omega))⟩
    have e : zDb s d q = zTb (zN d) (zK s (zC d) q) := b_ext (by rw [zDb_iff, zTb_iff, zD_iff vd.1 h0 vq.1])
    rw [e]
