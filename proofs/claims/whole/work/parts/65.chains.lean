/-! CHAINS, on both sides -/
theorem zPl_mem {s : Int32} {q : ZQ} {n : Nat} (hn : zN q = n) (h0 : 0 < n) (h150 : n < 151) {x : ZQ} : x ∈ zPl s q (prL n) ↔ (zL x ∧ zHd s x ∧ 1 ≤ zN x ∧ zN x ≤ 150) ∧ zD s x q ∧ zPr (zN x) := by
  unfold zPl
  rw [List.mem_flatMap]
  constructor
  · rintro ⟨p, hp, hx⟩
    obtain ⟨p1, p2, p3, p4⟩ := prL_mem.mp hp
    rw [zF_mem, zCl_mem (by omega) (by omega)] at hx
    obtain ⟨⟨x1, x2, x3⟩, x4⟩ := hx
    exact ⟨⟨x1, x3, by omega, by omega⟩, x4, by rw [x2]; exact ipN_pr (by omega) p4⟩
  · rintro ⟨⟨x1, x2, x3, x4⟩, x5, x6⟩
    obtain ⟨p, hp⟩ : ∃ p : Nat, zN x = p := ⟨(zN x).toNat, by omega⟩
    have dv : p ∣ n := by
      have := x5.norm x1
      rw [hp, hn] at this
      exact Int.natCast_dvd_natCast.mp this
    have p2 : 2 ≤ p := by have := x6.1; omega
    have pb : ipN p = true := by
      rw [ipN_good p (by omega)]
      unfold zPrB
      rw [Bool.and_eq_true, decide_eq_true_iff, List.all_eq_true]
      refine ⟨by omega, fun m hm => ?_⟩
      rw [Bool.or_eq_true, Bool.or_eq_true, decide_eq_true_iff, decide_eq_true_iff, decide_eq_true_iff]
      by_cases hd : p % m = 0
      · have d2 : (m : Int) ∣ zN x := by rw [hp]; exact Int.natCast_dvd_natCast.mpr (Nat.dvd_of_mod_eq_zero hd)
        rcases x6.2 (m : Int) (by omega) d2 with z | z
        · left; right; omega
        · right; omega
      · left; left; exact hd
    refine ⟨p, prL_mem.mpr ⟨Nat.le_of_dvd h0 dv, p2, Nat.mod_eq_zero_of_dvd dv, pb⟩, ?_⟩
    rw [zF_mem, zCl_mem (by omega) (by omega)]
    exact ⟨⟨x1, hp, x2⟩, x5⟩
theorem zPl_nd {s : Int32} {q : ZQ} {n : Nat} (h150 : n < 151) : (zPl s q (prL n)).Nodup := by
  unfold zPl List.Nodup
  rw [List.pairwise_flatMap]
  constructor
  · intro p hp
    obtain ⟨p1, p2, -, -⟩ := prL_mem.mp hp
    exact zF_nd (pw_nd (zCl_pw (by omega)))
  · have pr : (prL n).Pairwise (· < ·) := by
      unfold prL
      exact List.Pairwise.filter _ List.pairwise_lt_range
    exact List.Pairwise.imp_of_mem (fun {a b} ha hb hab x hx y hy e => by
      obtain ⟨a1, a2, -, -⟩ := prL_mem.mp ha
      obtain ⟨b1, b2, -, -⟩ := prL_mem.mp hb
      rw [zF_mem, zCl_mem (by omega) (by omega)] at hx hy
      have e1 := hx.1.2.1
      have e2 := hy.1.2.1
      rw [e] at e1
      omega) pr
theorem pfN_any : ∀ n, n < 151 → 0 < n → ∀ p ∈ prL n, pfN n = pfN (n / p) + 1 := by decide +kernel
theorem zBc_sum {q : ZQ} {n : Nat} (lq : zL q) (hn : zN q = n) (h1 : 1 < n) (h150 : n < 151) : zBc q = ((zPl 0 q (prL n)).map fun x => zBc (zNx 0 q x)).sum := by
  rw [zBc_s lq (by omega) (by omega) (by omega)]
  refine (sP_list (zPl_nd h150) (fun x => ?_) _).symm
  rw [zPl_mem hn (by omega) h150, zOm_mem]
  rfl
/-- the rest by a prime head -/
theorem zRest {q x : ZQ} {n : Nat} (lq : zL q) (hn : zN q = n) (h1 : 1 < n) (h150 : n < 151) (hx : x ∈ zPl 0 q (prL n)) : qV x ∧ x ≠ z0 ∧ zL (zNx 0 q x) ∧ ∃ m, zN (zNx 0 q x) = (m : Nat) ∧ 0 < m ∧ m < 151 ∧ pfN n = pfN m + 1 := by
  obtain ⟨⟨x1, x2, x3, x4⟩, x5, x6⟩ := (zPl_mem hn (by omega) h150).mp hx
  have x0 : x ≠ z0 := fun e => by rw [e, zN_z0] at x3; omega
  obtain ⟨k1, k2, k3⟩ := zLq lq x1 x0 x5
  obtain ⟨m, hm⟩ : ∃ m : Nat, zN (zNx 0 q x) = m := ⟨(zN (zNx 0 q x)).toNat, by have := zN_nn (zNx 0 q x); omega⟩
  obtain ⟨p, hp⟩ : ∃ p : Nat, zN x = p := ⟨(zN x).toNat, by omega⟩
  have e : n = p * m := by
    rw [hn, hp, hm] at k3
    have : ((n : Nat) : Int) = ((p * m : Nat) : Int) := by rw [k3, Int.natCast_mul]
    omega
  have p2 := x6.1
  have m0 : 0 < m := by
    rcases Nat.eq_zero_or_pos m with z | z
    · rw [z, Nat.mul_zero] at e; omega
    · exact z
  have mp : n / p = m := by rw [e]; exact Nat.mul_div_cancel_left _ (by omega)
  have pm : p ∈ prL n := by
    unfold zPl at hx
    obtain ⟨p', hp', hx'⟩ := List.mem_flatMap.mp hx
    obtain ⟨q1, q2, -, -⟩ := prL_mem.mp hp'
    rw [zF_mem, zCl_mem (by omega) (by omega)] at hx'
    have := hx'.1.2.1
    have : p' = p := by omega
    rw [← this]; exact hp'
  have pf := pfN_any n h150 (by omega) p pm
  rw [mp] at pf
  have mle : m ≤ n := by rw [e]; exact Nat.le_mul_of_pos_left m (by omega)
  exact ⟨qV_of x1 (by omega), x0, k1, m, hm, m0, by omega, pf⟩
def chP (l : Nat) (c : Nat) : Prop := (26 + l ≤ c ∧ c < 34) ∨ (48 + l ≤ c ∧ c ≤ 56) ∨ (60 + l ≤ c ∧ c < 68) ∨ (71 + l ≤ c ∧ c < 79) ∨ (36 ≤ c ∧ c ≤ 41) ∨ (44 ≤ c ∧ c ≤ 46) ∨ c = 57 ∨ c = 68
theorem c_chains : ∀ (d l k1 : Nat) (σ : QMem) (q : ZQ) (n : Nat), pfN n + l ≤ 7 → pfN n < d → ¬ chP l k1 → zL q → zN q = n → 0 < n → n < 151 → xRt σ → qAt σ k1 q →
    ∃ τ, fX3_chains d k1 (nI l) σ = some (nI (zBc q), τ) ∧ qSame (chP l) σ τ := by
  have x113 : xl 113 = 8 := rfl
  have b113 : xb 113 = 87 := rfl
  have x104 : xl 104 = 8 := rfl
  have b104 : xb 104 = 26 := rfl
  intro d
  induction d with
  | zero => intro l k1 σ q n h1 h2; omega
  | succ d ih =>
    intro l k1 σ q n hl hd hk lq hn h0 h150 hR hq
    have vq : qV q := qV_of lq (by omega)
    have hk' := hk
    unfold chP at hk'
    unfold fX3_chains
    rw [c_norm hq (Int.le_trans vq.2 (by decide)), Option.bind_some]
    simp only
    by_cases h1 : n = 1
    · have c1 : ¬ (1 : Int32) < qj (zN q) := by
        rw [← qj_1, qj_lt (qR_of (by decide) (by decide)) (qR_of (by omega) (by omega))]
        omega
      rw [if_neg c1, zBc_1 (by omega)]
      exact ⟨σ, rfl, qSame.refl _ _⟩
    · have c1 : (1 : Int32) < qj (zN q) := by
        rw [← qj_1, qj_lt (qR_of (by decide) (by decide)) (qR_of (by omega) (by omega))]
        omega
      have hn1 : 1 < n := by omega
      have pf1 := (pfN_good n h150 hn1).1
      have l8 : nI l < (8 : Int32) := nI_lt (b := 8) (by omega) (by decide)
      have g113 : ¬ (nI l < 0 ∨ xl 113 ≤ (nI l).toNatClampNeg) := nI_in (by rw [x113]; omega) (by decide)
      have g104 : ¬ (nI l < 0 ∨ xl 104 ≤ (nI l).toNatClampNeg) := nI_in (by rw [x104]; omega) (by decide)
      have k113 : xb 113 + (nI l).toNatClampNeg = 87 + l := by rw [b113, nI_clamp (by omega)]
      have k104 : xb 104 + (nI l).toNatClampNeg = 26 + l := by rw [b104, nI_clamp (by omega)]
      obtain ⟨ρ, r1, r2, r3⟩ := c_pg 0 (k0 := 87 + l) (k1 := k1) (by omega) (by unfold pgP; omega) vq hn h0 hR hq
      have fr3 : qSame (chP l) σ ρ := r3.weaken (fun c h => by unfold pgP at h; unfold chP; omega)
      rw [if_pos c1, if_neg (nI_pos (by omega)), if_pos l8, if_neg g113, if_neg g104, if_neg g113, k113, k104, r1, Option.bind_some, show 87 + l - 27 = 60 + l by omega, show (0 : Int32) = nI 0 from rfl]
      rw [show 87 + l - 27 = 60 + l by omega] at r2
      -- the loop over the prime heads
      have len := zPl_len (s := 0) hn h0 h150
      generalize hL : zPl 0 q (prL n) = Lx at r2 len
      have loop : ∀ (m i f acc : Nat) (π : QMem), i + m = Lx.length → m < f → xRw π (60 + l) Lx → qAt π k1 q → xRt π → qSame (chP l) σ π → ∃ τ, fX3_chains_L57 k1 (nI l) (fX3_chains d) f (60 + l) (26 + l) (nI acc) (nI i) π = some (nI (acc + ((Lx.drop i).map fun x => zBc (zNx 0 q x)).sum), τ) ∧ qSame (chP l) σ τ := by
        intro m
        induction m with
        | zero =>
          intro i f acc π hi hf hx hqq hRR hs
          obtain ⟨f, rfl⟩ : ∃ m, f = m + 1 := ⟨f - 1, by omega⟩
          have : i = Lx.length := by omega
          subst this
          rw [fX3_chains_L57, c_size hx, Option.bind_some]
          simp only
          rw [if_pos (nI_le (Nat.le_refl _) (by omega)), List.drop_length, List.map_nil, List.sum_nil, Nat.add_zero]
          exact ⟨π, rfl, hs⟩
        | succ m ih2 =>
          intro i f acc π hi hf hx hqq hRR hs
          obtain ⟨f, rfl⟩ : ∃ m, f = m + 1 := ⟨f - 1, by omega⟩
          have hiL : i < Lx.length := by omega
          have mem := getD_mem hiL
          have hdrop : Lx.drop i = Lx.getD i z0 :: Lx.drop (i + 1) := by
            rw [List.drop_eq_getElem_cons hiL]
            congr 1
            rw [List.getD_eq_getElem?_getD, List.getElem?_eq_getElem hiL, Option.getD_some]
          rw [hdrop, List.map_cons, List.sum_cons]
          generalize hxx : Lx.getD i z0 = x at mem
          rw [← hL] at mem
          obtain ⟨vx, x0, lr, mm, hmm, m0, m150, pfm⟩ := zRest lq hn hn1 h150 mem
          have row := c_putRow hx 56 hiL
          rw [hxx] at row
          have q56 : qAt (qPut π 56 x) k1 q := qAt_ne (by omega) hqq
          obtain ⟨θ, t1, t2, -, t4⟩ := c_perform (k1 := k1) (k2 := 56) 0 (by unfold dvP; omega) (by unfold dvP; omega) q56 (qPut_at π 56 x) vq vx x0
          have f56 : qSame (chP l) σ (qPut π 56 x) := hs.trans (qPut_sm _ (by unfold chP; omega))
          have fθ : qSame (chP l) σ θ := f56.trans (t4.weaken (fun c h => by unfold dvP at h; unfold chP; omega))
          generalize hψ : qPut θ (26 + l) (zNx 0 q x) = ψ
          have pψ : qAt ψ (26 + l) (zNx 0 q x) := by rw [← hψ]; exact qPut_at _ _ _
          have fψ : qSame (chP l) σ ψ := by rw [← hψ]; exact fθ.trans (qPut_sm _ (by unfold chP; omega))
          have kψ : ∀ c, ¬ c = 56 → ¬ dvP c → ¬ c = 26 + l → ψ c = π c := fun c h1 h2 h3 => by
            rw [← hψ, qPut_ne _ _ h3, t4 c h2, qPut_ne _ _ h1]
          have Rψ : xRt ψ := by unfold xRt; rw [kψ 85 (by decide) (by unfold dvP; omega) (by omega)]; exact hRR
          obtain ⟨ω, w1, w2⟩ := ih (l + 1) (26 + l) ψ (zNx 0 q x) mm (by omega) (by omega) (by unfold chP; omega) lr hmm m0 m150 Rψ pψ
          have fω : qSame (chP l) σ ω := fψ.trans (w2.weaken (fun c h => by unfold chP at h ⊢; omega))
          have kω : ∀ c, ¬ chP (l + 1) c → ¬ c = 56 → ¬ dvP c → ¬ c = 26 + l → ω c = π c := fun c h0 h1 h2 h3 => by rw [w2 c h0, kψ c h1 h2 h3]
          have xω : xRw ω (60 + l) Lx := by
            unfold xRw
            rw [kω (60 + l) (by unfold chP; omega) (by omega) (by unfold dvP; omega) (by omega), kω (60 + l + 11) (by unfold chP; omega) (by omega) (by unfold dvP; omega) (by omega)]
            exact hx
          have Rω : xRt ω := by unfold xRt; rw [kω 85 (by unfold chP; omega) (by decide) (by unfold dvP; omega) (by omega)]; exact hRR
          have qω : qAt ω k1 q := fω.at hk hq
          obtain ⟨τ, u1, u2⟩ := ih2 (i + 1) f (acc + zBc (zNx 0 q x)) ω (by omega) (by omega) xω qω Rω fω
          rw [fX3_chains_L57, c_size hx, Option.bind_some]
          simp only
          rw [if_neg (nI_ge hiL (by omega)), row, Option.bind_some, t1, Option.bind_some, c_copy (26 + l) t2, Option.bind_some, hψ, show nI l + 1 = nI (l + 1) from nI_1 l, w1, Option.bind_some]
          simp only
          rw [show nI i + 1 = nI (i + 1) from nI_1 i, nI_add, u1, Nat.add_assoc]
          exact ⟨τ, rfl, u2⟩
      obtain ⟨τ, t1, t2⟩ := loop Lx.length 0 FU 0 ρ (by omega) (by unfold FU; omega) r2 (fr3.at hk hq) (xRt_same hR r3 (by unfold pgP; omega)) fr3
      rw [Nat.zero_add, List.drop_zero] at t1
      rw [zBc_sum lq hn hn1 h150, hL]
      exact ⟨τ, t1, t2⟩
/-! the reference: all divisors, by norm -/
noncomputable def Fl (q : ZQ) (n : Nat) : Nat → List ZQ
  | 0 => []
  | m + 1 => Fl q n m ++ (if n % (m + 1) = 0 then zF (fun x => zD 0 x q) (zCl 0 (m + 1)) else [])
def bL (n : Nat) : Nat → Nat
  | 0 => 0
  | m + 1 => bL n m + (if n % (m + 1) = 0 then cH (m + 1) else 0)
theorem bL_600 : ∀ n, n < 151 → bL n n ≤ 600 := by decide +kernel
theorem bL_mono (n m k : Nat) : bL n m ≤ bL n (m + k) := by
  induction k with
  | zero => exact Nat.le_refl _
  | succ k ih =>
    have e : bL n (m + (k + 1)) = bL n (m + k) + (if n % (m + k + 1) = 0 then cH (m + k + 1) else 0) := rfl
    rw [e]; omega
theorem Fl_mem {q : ZQ} {n m : Nat} (hm : m ≤ 150) {x : ZQ} : x ∈ Fl q n m ↔ zL x ∧ zHd 0 x ∧ zD 0 x q ∧ ∃ k : Nat, zN x = k ∧ 1 ≤ k ∧ k ≤ m ∧ n % k = 0 := by
  induction m with
  | zero =>
    constructor
    · intro h; exact absurd h (by unfold Fl; simp)
    · rintro ⟨-, -, -, k, -, h1, h2, -⟩; omega
  | succ m ih =>
    have e : Fl q n (m + 1) = Fl q n m ++ (if n % (m + 1) = 0 then zF (fun x => zD 0 x q) (zCl 0 (m + 1)) else []) := rfl
    rw [e, List.mem_append, ih (by omega)]
    constructor
    · rintro (⟨h1, h2, h3, k, h4, h5, h6, h7⟩ | h)
      · exact ⟨h1, h2, h3, k, h4, h5, by omega, h7⟩
      · split at h
        · rename_i hd
          rw [zF_mem, zCl_mem (by omega) (by omega)] at h
          exact ⟨h.1.1, h.1.2.2, h.2, m + 1, h.1.2.1, by omega, by omega, hd⟩
        · exact absurd h (by simp)
    · rintro ⟨h1, h2, h3, k, h4, h5, h6, h7⟩
      by_cases hk : k = m + 1
      · subst hk
        right
        rw [if_pos h7, zF_mem, zCl_mem (by omega) (by omega)]
        exact ⟨⟨h1, h4, h2⟩, h3⟩
      · left
        exact ⟨h1, h2, h3, k, h4, h5, by omega, h7⟩
theorem Fl_pw {q : ZQ} {n m : Nat} (hm : m ≤ 150) : (Fl q n m).Pairwise (fun a b => zN a ≤ zN b) ∧ (Fl q n m).Nodup := by
  induction m with
  | zero => exact ⟨List.Pairwise.nil, List.Pairwise.nil⟩
  | succ m ih =>
    obtain ⟨i1, i2⟩ := ih (by omega)
    have e : Fl q n (m + 1) = Fl q n m ++ (if n % (m + 1) = 0 then zF (fun x => zD 0 x q) (zCl 0 (m + 1)) else []) := rfl
    have hr : ∀ x, x ∈ (if n % (m + 1) = 0 then zF (fun x => zD 0 x q) (zCl 0 (m + 1)) else []) → zN x = ((m + 1 : Nat) : Int) := by
      intro x hx
      split at hx
      · rw [zF_mem, zCl_mem (by omega) (by omega)] at hx
        exact hx.1.2.1
      · exact absurd hx (by simp)
    have hnd : (if n % (m + 1) = 0 then zF (fun x => zD 0 x q) (zCl 0 (m + 1)) else []).Nodup := by
      split
      · exact zF_nd (pw_nd (zCl_pw (by omega)))
      · exact List.Pairwise.nil
    have hl : ∀ x, x ∈ Fl q n m → zN x ≤ m := by
      intro x hx
      obtain ⟨-, -, -, k, h4, h5, h6, -⟩ := (Fl_mem (by omega)).mp hx
      omega
    rw [e]
    unfold List.Nodup at *
    rw [List.pairwise_append, List.pairwise_append]
    refine ⟨⟨i1, List.Pairwise.imp_of_mem (fun {a b} ha hb _ => by rw [hr a ha, hr b hb]; omega) hnd, fun a ha b hb => ?_⟩, ⟨i2, hnd, fun a ha b hb e => ?_⟩⟩
    · have := hl a ha
      rw [hr b hb]
      omega
    · have := hl a ha
      rw [e, hr b hb] at this
      omega
theorem Fl_len {q : ZQ} {n m : Nat} (hm : m ≤ 150) : (Fl q n m).length ≤ bL n m := by
  induction m with
  | zero => exact Nat.le_refl _
  | succ m ih =>
    have e : Fl q n (m + 1) = Fl q n m ++ (if n % (m + 1) = 0 then zF (fun x => zD 0 x q) (zCl 0 (m + 1)) else []) := rfl
    have e2 : bL n (m + 1) = bL n m + (if n % (m + 1) = 0 then cH (m + 1) else 0) := rfl
    rw [e, e2, List.length_append]
    have := ih (by omega)
    split
    · have := hd_cH (s := 0) (n := m + 1) (by omega) (by omega) (l := zF (fun x => zD 0 x q) (zCl 0 (m + 1))) (zF_nd (pw_nd (zCl_pw (by omega)))) (fun x hx => by
        rw [zF_mem, zCl_mem (by omega) (by omega)] at hx
        exact hx.1)
      omega
    · simp only [List.length_nil]; omega
theorem Fl_600 {q : ZQ} {n m : Nat} (h150 : n < 151) (hm : m ≤ n) : (Fl q n m).length ≤ 600 := by
  have a := Fl_len (q := q) (n := n) (m := m) (by omega)
  have b := bL_mono n m (n - m)
  rw [show m + (n - m) = n by omega] at b
  have := bL_600 n h150
  omega
/-- what one divisor's chains are made of -/
theorem zT_F {q : ZQ} {n k : Nat} (h150 : n < 151) {x : ZQ} (hk : k < (Fl q n n).length) (hx : (Fl q n n).getD k z0 = x) : zT x = (if zN x = 1 then 1 else 0) + ((zF (zCov x) ((Fl q n n).take k)).map zT).sum := by
  obtain ⟨pw, nd⟩ := Fl_pw (q := q) (n := n) (m := n) (by omega)
  have xF : x ∈ Fl q n n := by rw [← hx]; exact getD_mem hk
  obtain ⟨x1, x2, x3, kx, x4, x5, x6, x7⟩ := (Fl_mem (by omega)).mp xF
  have nd2 : ((Fl q n n).take k).Nodup := List.Pairwise.sublist (List.take_sublist _ _) nd
  by_cases h1 : zN x = 1
  · have e : zF (zCov x) ((Fl q n n).take k) = [] := by
      rw [List.eq_nil_iff_forall_not_mem]
      intro d hd
      rw [zF_mem] at hd
      obtain ⟨d1, d2⟩ := hd
      obtain ⟨-, -, -, kd, d4, d5, -, -⟩ := (Fl_mem (by omega)).mp (List.mem_of_mem_take d1)
      have := zCov_lt d2 (by omega)
      omega
    rw [zT_1 h1, if_pos h1, e]
    rfl
  · rw [zT_s h1, if_neg h1, Nat.zero_add]
    refine (sP_list (zF_nd nd2) (fun d => ?_) zT).symm
    rw [zF_mem]
    constructor
    · rintro ⟨d1, d2⟩
      obtain ⟨a1, a2, a3, kd, a4, a5, a6, a7⟩ := (Fl_mem (by omega)).mp (List.mem_of_mem_take d1)
      exact ⟨zOm_mem.mpr ⟨a1, a2, by omega, by omega⟩, d2⟩
    · rintro ⟨d1, d2⟩
      refine ⟨?_, d2⟩
      obtain ⟨a1, a2, a3, a4⟩ := zOm_mem.mp d1
      have lt := zCov_lt d2 (by omega)
      have dF : d ∈ Fl q n n := by
        rw [Fl_mem (by omega)]
        refine ⟨a1, a2, d2.1.trans a1 x3, (zN d).toNat, by omega, by omega, by omega, ?_⟩
        obtain ⟨-, p, pp, e⟩ := d2
        have : (zN d).toNat ∣ kx := by
          have z : zN d ∣ zN x := ⟨p, e⟩
          rw [x4] at z
          have w : (((zN d).toNat : Nat) : Int) = zN d := by omega
          rw [← w] at z
          exact Int.natCast_dvd_natCast.mp z
        exact Nat.mod_eq_zero_of_dvd (Nat.dvd_trans this (Nat.dvd_of_mod_eq_zero x7))
      obtain ⟨j, hj, ej⟩ := List.mem_iff_getElem.mp dF
      have jk : j < k := by
        apply Classical.byContradiction
        intro c
        have le : zN x ≤ zN d := by
          rcases Nat.lt_or_eq_of_le (show k ≤ j by omega) with z | z
          · have := List.pairwise_iff_getElem.mp pw k j hk hj z
            rw [ej] at this
            rw [List.getD_eq_getElem?_getD, List.getElem?_eq_getElem hk, Option.getD_some] at hx
            rw [hx] at this
            exact this
          · subst z
            rw [List.getD_eq_getElem?_getD, List.getElem?_eq_getElem hk, Option.getD_some] at hx
            rw [← hx, ej]
            omega
        omega
      rw [List.mem_take_iff_getElem]
      exact ⟨j, by omega, ej⟩
