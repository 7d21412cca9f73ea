/-! FACTORS: how many, and each -/
def rpc : Nat → Nat → Nat → Nat
  | 0, _, _ => 0
  | f + 1, p, l => if l % p = 0 then rpc f p (l / p) + 1 else 0
def pfL : Nat → Nat → Nat → Nat → Nat
  | 0, _, _, c => c
  | m + 1, p, l, c => pfL m (p + 1) (rp 8 p l) (c + rpc 8 p l)
def pfN (n : Nat) : Nat := pfL (n - 1) 2 n 0
def lpN (n : Nat) : Nat := (prL n).getD 0 1
theorem pfN_good : ∀ n, n < 151 → 1 < n → pfN n = pfN (n / lpN n) + 1 ∧ 2 ≤ lpN n ∧ n % lpN n = 0 ∧ ipN (lpN n) = true ∧ lpN n ≤ n := by decide +kernel
theorem pfN_7 : ∀ n, n < 151 → pfN n ≤ 7 := by decide +kernel
theorem lpN_ref : ∀ n, n < 151 → 1 < n → fX12_leastPrime (nI n) = some (nI (lpN n)) := by decide +kernel
theorem prL_ne : ∀ n, n < 151 → 1 < n → ¬ prL n = [] := by decide +kernel
theorem pfN_1 : pfN 1 = 0 := rfl
theorem c_pf14 (p0 : Int32) (K : Int32 → Int32 → Int32 → Option Int32) {p : Nat} (hp : 2 ≤ p ∧ p < 1000) : ∀ (f i l c n : Nat), f + i = 8 → f < n → 0 < l → l < 1000 → fX11_primeFactors_L14 p0 K n (nI l) (nI c) (nI p) (nI i) = K (nI (rp f p l)) (nI (c + rpc f p l)) (nI (p + 1)) := by
  intro f
  induction f with
  | zero =>
    intro i l c n hi hn hl0 hl
    obtain ⟨n, rfl⟩ : ∃ m, n = m + 1 := ⟨n - 1, by omega⟩
    have : i = 8 := by omega
    subst this
    rw [fX11_primeFactors_L14, if_pos (show (8 : Int32) ≤ nI 8 by decide)]
    unfold fX11_primeFactors_J45
    rw [show nI p + 1 = nI (p + 1) from nI_1 p]
    rfl
  | succ f ih =>
    intro i l c n hi hn hl0 hl
    obtain ⟨n, rfl⟩ : ∃ m, n = m + 1 := ⟨n - 1, by omega⟩
    have c8 : ¬ (8 : Int32) ≤ nI i := nI_ge (b := 8) (by omega) (by decide)
    have p0' : ¬ nI p = 0 := nI_ne0 (by omega) (by omega)
    rw [fX11_primeFactors_L14, if_neg c8]
    unfold fX11_primeFactors_J45
    rw [show nI p + 1 = nI (p + 1) from nI_1 p]
    unfold rp rpc
    by_cases hl1 : l ≤ 1
    · have : l = 1 := by omega
      subst this
      have hm : ¬ 1 % p = 0 := by rw [Nat.mod_eq_of_lt (by omega)]; decide
      rw [if_pos (show nI 1 ≤ 1 by decide), if_neg hm, if_neg hm]
      rfl
    · rw [if_neg (show ¬ nI l ≤ 1 from nI_ge (a := 1) (by omega) (by omega)), if_neg p0', if_neg p0']
      simp only [nI_dvd (show l < 2000000 by omega) (show 0 < p ∧ p < 2000000 by omega)]
      by_cases hm : l % p = 0
      · rw [if_pos hm, if_pos hm, if_pos hm, nI_div (by omega) (by omega), show nI i + 1 = nI (i + 1) from nI_1 i, show nI c + 1 = nI (c + 1) from nI_1 c]
        have := Nat.div_le_self l p
        have h1 : 0 < l / p := Nat.div_pos (Nat.le_of_dvd hl0 (Nat.dvd_of_mod_eq_zero hm)) (by omega)
        rw [ih (i + 1) (l / p) (c + 1) n (by omega) (by omega) h1 (by omega), show c + 1 + rpc f p (l / p) = c + (rpc f p (l / p) + 1) by omega]
      · rw [if_neg hm, if_neg hm, if_neg hm]
        rfl
theorem c_pf {nn : Nat} (h150 : nn < 151) (h0 : 0 < nn) : fX11_primeFactors (nI nn) = some (nI (pfN nn)) := by
  have key : ∀ (m p l c n : Nat), p + m = nn + 1 → m < n → 2 ≤ p → 0 < l → l < 1000 → fX11_primeFactors_L6 (nI nn) n (nI l) (nI c) (nI p) = some (nI (pfL m p l c)) := by
    intro m
    induction m with
    | zero =>
      intro p l c n hp hn h2 hl0 hl
      obtain ⟨n, rfl⟩ : ∃ m, n = m + 1 := ⟨n - 1, by omega⟩
      rw [fX11_primeFactors_L6, if_pos (nI_lt (by omega) (by omega))]
      rfl
    | succ m ih =>
      intro p l c n hp hn h2 hl0 hl
      obtain ⟨n, rfl⟩ : ∃ m, n = m + 1 := ⟨n - 1, by omega⟩
      obtain ⟨r1, r2⟩ := rp_pos h2 8 l hl0
      rw [fX11_primeFactors_L6, if_neg (nI_nlt (by omega) (by omega)), show (0 : Int32) = nI 0 from rfl, c_pf14 (nI nn) _ (by omega) 8 0 l c FU rfl (by unfold FU; omega) hl0 hl]
      exact ih (p + 1) (rp 8 p l) (c + rpc 8 p l) n (by omega) (by omega) (by omega) r1 (by omega)
  by_cases h1 : nn = 1
  · subst h1
    decide
  · exact key (nn - 1) 2 nn 0 FU (by omega) (by unfold FU; omega) (by decide) h0 (by omega)
theorem m_pf13 (p1 : Int32) (K : Int32 → Int32 → Int32 → QMem → Option (Int32 × QMem)) {p : Nat} (hp : 2 ≤ p ∧ p < 1000) (τ : QMem) : ∀ (f l c n : Nat), f < n → 0 < l → l < 1000 → l < 2 ^ f → fX12_primesIn_L13 p1 K n (nI l) (nI c) (nI p) τ = K (nI (rp f p l)) (nI (c + rpc f p l)) (nI (p + 1)) τ := by
  intro f
  induction f with
  | zero => intro l c n hn h0 hl h2; omega
  | succ f ih =>
    intro l c n hn hl0 hl h2
    obtain ⟨n, rfl⟩ : ∃ m, n = m + 1 := ⟨n - 1, by omega⟩
    have p0' : ¬ nI p = 0 := nI_ne0 (by omega) (by omega)
    rw [fX12_primesIn_L13, if_neg p0', if_neg p0']
    simp only [nI_dvd (show l < 2000000 by omega) (show 0 < p ∧ p < 2000000 by omega)]
    unfold rp rpc
    by_cases hm : l % p = 0
    · rw [if_pos hm, if_pos hm, if_pos hm, nI_div (by omega) (by omega), show nI c + 1 = nI (c + 1) from nI_1 c]
      have h1 : 0 < l / p := Nat.div_pos (Nat.le_of_dvd hl0 (Nat.dvd_of_mod_eq_zero hm)) (by omega)
      have h3 : l / p ≤ l / 2 := Nat.div_le_div_left hp.1 (by decide)
      have hpow : 2 ^ (f + 1) = 2 * 2 ^ f := by rw [Nat.pow_succ]; omega
      rw [ih (l / p) (c + 1) n (by omega) h1 (by omega) (by omega), show c + 1 + rpc f p (l / p) = c + (rpc f p (l / p) + 1) by omega]
    · rw [if_neg hm, if_neg hm, if_neg hm, show nI p + 1 = nI (p + 1) from nI_1 p]
      rfl
theorem m_pf {nn : Nat} (h150 : nn < 151) (h0 : 0 < nn) (τ : QMem) : fX12_primesIn (nI nn) τ = some (nI (pfN nn), τ) := by
  have key : ∀ (m p l c n : Nat), p + m = nn + 1 → m < n → 2 ≤ p → 0 < l → l < 256 → fX12_primesIn_L7 (nI nn) n (nI l) (nI c) (nI p) τ = some (nI (pfL m p l c), τ) := by
    intro m
    induction m with
    | zero =>
      intro p l c n hp hn h2 hl0 hl
      obtain ⟨n, rfl⟩ : ∃ m, n = m + 1 := ⟨n - 1, by omega⟩
      rw [fX12_primesIn_L7, if_pos (nI_lt (by omega) (by omega))]
      rfl
    | succ m ih =>
      intro p l c n hp hn h2 hl0 hl
      obtain ⟨n, rfl⟩ : ∃ m, n = m + 1 := ⟨n - 1, by omega⟩
      obtain ⟨r1, r2⟩ := rp_pos h2 8 l hl0
      rw [fX12_primesIn_L7, if_neg (nI_nlt (by omega) (by omega)), m_pf13 (nI nn) _ (by omega) τ 8 l c FU (by unfold FU; omega) hl0 (by omega) (by omega)]
      exact ih (p + 1) (rp 8 p l) (c + rpc 8 p l) n (by omega) (by omega) (by omega) r1 (by omega)
  by_cases h1 : nn = 1
  · subst h1
    unfold fX12_primesIn
    rw [show FU = 1999 + 1 from rfl, fX12_primesIn_L7, if_pos (show nI 1 < 2 by decide)]
    rfl
  · exact key (nn - 1) 2 nn 0 FU (by omega) (by unfold FU; omega) (by decide) h0 (by omega)
/-! the next factor, on the left -/
noncomputable def zFx (w : ZQ) : ZQ := (zPl 0 w (prL (zN w).toNat)).getD 0 z0
noncomputable def zFn (w : ZQ) : ZQ := zNx 0 w (zFx w)
theorem zFx_good {w : ZQ} {n : Nat} (lw : zL w) (hn : zN w = n) (h1 : 1 < n) (h150 : n < 151) (t1 : ZQ) :
    ∃ l, zPl 0 w (prL n) = zFx w :: l ∧ zL (zFx w) ∧ zN (zFx w) = lpN n ∧ zD 0 (zFx w) w ∧ (zF (gP 0 false 1 w t1) (zAll (lpN n))).take 1 = [zFx w] := by
  obtain ⟨-, g2, g3, g4, g5⟩ := pfN_good n h150 h1
  have ne := prL_ne n h150 h1
  have hnat : (zN w).toNat = n := by omega
  obtain ⟨ps, hps⟩ : ∃ ps, prL n = lpN n :: ps := by
    cases h : prL n with
    | nil => exact absurd h ne
    | cons a b => exact ⟨b, by unfold lpN; rw [h]; rfl⟩
  have pr := ipN_pr (by omega) g4
  have dv : ((lpN n : Nat) : Int) ∣ zN w := by rw [hn]; exact Int.natCast_dvd_natCast.mpr (Nat.dvd_of_mod_eq_zero g3)
  obtain ⟨y, y1, y2, y3⟩ := zPr_has (s := 0) lw pr (by omega) dv
  have memH : ∀ x, x ∈ zF (fun x => zD 0 x w) (zCl 0 (lpN n)) ↔ (zL x ∧ zN x = lpN n ∧ zHd 0 x) ∧ zD 0 x w := by
    intro x
    rw [zF_mem, zCl_mem (by omega) (by omega)]
  have hd : ∀ x, zL x → zN x = lpN n → zD 0 x w → zHead 0 x ∈ zF (fun x => zD 0 x w) (zCl 0 (lpN n)) := by
    intro x a b c
    rw [memH]
    exact ⟨⟨zHead_L a, by rw [zHead_N a]; exact b, zHead_Hd a⟩, ((zHead_A (s := 0) a).symm a).D.trans (zHead_L a) c⟩
  have pw := zF_pw (P := fun x => zD 0 x w) (zCl_pw (s := 0) (n := lpN n) (by omega))
  cases hl : zF (fun x => zD 0 x w) (zCl 0 (lpN n)) with
  | nil =>
    have := hd y y1 y2 y3
    rw [hl] at this
    exact absurd this (by simp)
  | cons x l =>
    have ePl : zPl 0 w (prL n) = x :: (l ++ zPl 0 w ps) := by rw [hps, zPl_cons, hl]; rfl
    have eFx : zFx w = x := by unfold zFx; rw [hnat, ePl]; rfl
    obtain ⟨⟨x1, x2, x3⟩, x4⟩ := (memH x).mp (by rw [hl]; simp)
    rw [eFx]
    refine ⟨_, ePl, x1, x2, x4, ?_⟩
    refine take1_max (zF_pw (zAll_pw _)) ?_ (fun z hz => ?_)
    · rw [zF_mem, zAll_mem]
      exact ⟨⟨x1, x2⟩, fun _ => x4, fun q => by omega, fun q => absurd q (by decide)⟩
    · rw [zF_mem, zAll_mem] at hz
      obtain ⟨⟨z1, z2⟩, z3, -⟩ := hz
      have m := hd z z1 z2 (z3 (by decide))
      have top := zHead_max (s := 0) (q := z) _ zUl_one
      rw [zK_one z1] at top
      rw [hl] at m
      rw [hl] at pw
      intro g
      rcases List.mem_cons.mp m with e | e
      · rw [e] at top; exact top g
      · exact top (zGt_trans g ((List.pairwise_cons.mp pw).1 _ e))
theorem zFn_good {w : ZQ} {n : Nat} (lw : zL w) (hn : zN w = n) (h1 : 1 < n) (h150 : n < 151) : zL (zFn w) ∧ zK 0 (zFx w) (zFn w) = w ∧ zN (zFn w) = ((n / lpN n : Nat) : Int) ∧ zQu (zN (zFx w)) (zK 0 (zC (zFx w)) w) = zFn w ∧ zFx w ≠ z0 := by
  obtain ⟨-, g2, g3, g4, g5⟩ := pfN_good n h150 h1
  obtain ⟨l, -, x1, x2, ⟨v, v1, v2⟩, -⟩ := zFx_good lw hn h1 h150 z0
  have x0 : zFx w ≠ z0 := fun e => by rw [e, zN_z0] at x2; omega
  have e : zFn w = v := by unfold zFn; rw [← v2]; exact zNx_exact x1 x0 v1 |> fun q => by rw [v2] at q ⊢; exact q
  rw [e]
  refine ⟨v1, v2, ?_, ?_, x0⟩
  · have := zK_N (s := 0) x1 v1
    rw [v2, hn, x2] at this
    have hp : 0 < lpN n := by omega
    have e2 : ((lpN n : Nat) : Int) * zN v = ((lpN n : Nat) : Int) * ((n / lpN n : Nat) : Int) := by
      rw [← this]
      have := Nat.div_add_mod n (lpN n)
      rw [g3, Nat.add_zero] at this
      have := congrArg (fun t : Nat => (t : Int)) this
      simp only [Int.natCast_mul] at this
      exact this.symm
    exact Int.eq_of_mul_eq_mul_left (by omega) e2
  · have := zD_qu (s := 0) x1 x0 v1
    rw [v2] at this
    exact this
/-- factor d of w; behind the last one the unit -/
noncomputable def zFac : Nat → ZQ → ZQ
  | 0, w => @ite _ (zN w = 1) (Classical.propDecidable _) w (zFx w)
  | d + 1, w => zFac d (zFn w)
theorem zFac_1 {w : ZQ} (h : zN w = 1) : zFac 0 w = w := by unfold zFac; rw [if_pos h]
theorem zFac_0 {w : ZQ} (h : ¬ zN w = 1) : zFac 0 w = zFx w := by unfold zFac; rw [if_neg h]
def ftP (c : Nat) : Prop := c = 26 ∨ c = 34 ∨ dvP c ∨ pgP 87 c
theorem c_fac {k2 kk : Nat} (hkk : kk < 2147483648) : ∀ (r i n : Nat) (σ : QMem) (w : ZQ) (nn : Nat), pfN nn = r → zL w → zN w = nn → 0 < nn → nn < 151 → i + r ≤ 7 → i ≤ kk → r + 1 < n → xRt σ → qAt σ 26 w →
    (kk ≤ i + r → ∃ τ, fX3_putFactor_L17 34 k2 (nI kk) n 26 (nI i) σ = some (1, τ) ∧ qAt τ 34 (zFac (kk - i) w) ∧ qSame ftP σ τ) ∧ (i + r < kk → ∃ τ, fX3_putFactor_L17 34 k2 (nI kk) n 26 (nI i) σ = some (0, τ) ∧ qSame ftP σ τ) := by
  have x113 : xl 113 = 8 := rfl
  have b113 : xb 113 = 87 := rfl
  have g113 : ¬ ((0 : Int32) < 0 ∨ xl 113 ≤ (0 : Int32).toNatClampNeg) := by rw [x113]; decide
  have k113 : xb 113 + (0 : Int32).toNatClampNeg = 87 := by rw [b113]; decide
  intro r
  induction r with
  | zero =>
    intro i n σ w nn hr lw hn h0 h150 hi hik hn' hR hq
    obtain ⟨n, rfl⟩ : ∃ m, n = m + 1 := ⟨n - 1, by omega⟩
    have n1 : nn = 1 := by
      apply Classical.byContradiction
      intro c
      have := (pfN_good nn h150 (by omega)).1
      omega
    subst n1
    have vw : qV w := qV_of lw (by omega)
    have w0 : w ≠ z0 := fun e => by rw [e, zN_z0] at hn; omega
    have c8 : ¬ (8 : Int32) ≤ nI i := nI_ge (b := 8) (by omega) (by decide)
    have st : fX3_putFactor_L17 34 k2 (nI kk) (n + 1) 26 (nI i) σ = if nI i = nI kk then some (1, qPut σ 34 w) else some (0, qPut σ 34 w) := by
      rw [fX3_putFactor_L17, if_neg c8, c_zero hq (qV_S vw), Option.bind_some]
      simp only [bI_0]
      rw [decide_eq_false w0, if_pos rfl, c_norm hq (Int.le_trans vw.2 (by decide)), Option.bind_some, hn]
      simp only
      rw [if_pos (show qj ((1 : Nat) : Int) = 1 from rfl), c_copy 34 hq, Option.bind_some]
    have fr : qSame ftP σ (qPut σ 34 w) := qPut_sm _ (Or.inr (Or.inl rfl))
    constructor
    · intro hk
      have : kk = i := by omega
      subst this
      rw [st, if_pos rfl, Nat.sub_self, zFac_1 hn]
      exact ⟨_, rfl, qPut_at _ _ _, fr⟩
    · intro hk
      rw [st, if_neg (fun z => by have := (nI_eq (by omega) (by omega)).mp z; omega)]
      exact ⟨_, rfl, fr⟩
  | succ r ih =>
    intro i n σ w nn hr lw hn h0 h150 hi hik hn' hR hq
    obtain ⟨n, rfl⟩ : ∃ m, n = m + 1 := ⟨n - 1, by omega⟩
    have h1 : 1 < nn := by
      apply Classical.byContradiction
      intro c
      have : nn = 1 := by omega
      rw [this, pfN_1] at hr
      omega
    obtain ⟨p1, p2, p3, p4, p5⟩ := pfN_good nn h150 h1
    have vw : qV w := qV_of lw (by omega)
    have w0 : w ≠ z0 := fun e => by rw [e, zN_z0] at hn; omega
    have nw1 : ¬ zN w = 1 := by omega
    have c8 : ¬ (8 : Int32) ≤ nI i := nI_ge (b := 8) (by omega) (by decide)
    obtain ⟨l, e1, x1, x2, x3, -⟩ := zFx_good lw hn h1 h150 z0
    obtain ⟨f1, f2, f3, -, x0⟩ := zFn_good lw hn h1 h150
    have vx : qV (zFx w) := qV_of x1 (by omega)
    have ndiv : nn / lpN nn ≤ nn := Nat.div_le_self _ _
    have pdiv : 0 < nn / lpN nn := Nat.div_pos p5 (by omega)
    obtain ⟨ρ, r1, r2, r3⟩ := c_pg 0 (k0 := 87) (k1 := 26) (by decide) (by unfold pgP; omega) vw hn h0 hR hq
    rw [e1] at r2
    have row := c_putRow r2 34 (i := 0) (by rw [List.length_cons]; omega)
    have qρ : qAt ρ 26 w := r3.at (by unfold pgP; omega) hq
    generalize hπ : qPut ρ 34 (zFx w) = π
    have row' : fX7_putRow (87 - 27) 34 0 ρ = some π := by rw [← hπ]; exact row
    have π34 : qAt π 34 (zFx w) := by rw [← hπ]; exact qPut_at _ _ _
    have π26 : qAt π 26 w := by rw [← hπ]; exact qAt_ne (by decide) qρ
    have fπ : qSame ftP σ π := by
      rw [← hπ]
      exact (r3.weaken (fun c h => Or.inr (Or.inr (Or.inr h)))).trans (qPut_sm _ (Or.inr (Or.inl rfl)))
    obtain ⟨θ, t1, t2, -, t4⟩ := c_perform (k1 := 26) (k2 := 34) 0 (by unfold dvP; omega) (by unfold dvP; omega) π26 π34 vw vx x0
    have st : fX3_putFactor_L17 34 k2 (nI kk) (n + 1) 26 (nI i) σ = if nI i = nI kk then some (1, π) else fX3_putFactor_L17 34 k2 (nI kk) n 26 (nI (i + 1)) (qPut θ 26 (zFn w)) := by
      rw [fX3_putFactor_L17, if_neg c8, c_zero hq (qV_S vw), Option.bind_some]
      simp only [bI_0]
      rw [decide_eq_false w0, if_pos rfl, c_norm hq (Int.le_trans vw.2 (by decide)), Option.bind_some]
      simp only
      have cn : ¬ qj (zN w) = 1 := fun z => nw1 ((qj_eq (qR_of (by omega) (by omega)) (qR_of (show -2000000000 ≤ (1 : Int) by decide) (by decide))).mp z)
      rw [if_neg cn, if_neg g113, k113, r1, Option.bind_some, if_neg g113, row', Option.bind_some, t1, Option.bind_some, c_copy 26 t2, Option.bind_some, show nI i + 1 = nI (i + 1) from nI_1 i]
      rfl
    have fθ : qSame ftP σ (qPut θ 26 (zFn w)) := (fπ.trans (t4.weaken (fun c h => Or.inr (Or.inr (Or.inl h))))).trans (qPut_sm _ (Or.inl rfl))
    have rcq := ih (i + 1) n (qPut θ 26 (zFn w)) (zFn w) (nn / lpN nn) (by omega) f1 f3 pdiv (by omega) (by omega)
    by_cases hik2 : i = kk
    · subst hik2
      constructor
      · intro hk
        rw [st, if_pos rfl, Nat.sub_self, zFac_0 nw1]
        exact ⟨_, rfl, π34, fπ⟩
      · intro hk; omega
    · have ne : ¬ nI i = nI kk := fun z => hik2 ((nI_eq (by omega) (by omega)).mp z)
      obtain ⟨R1, R2⟩ := rcq (by omega) (by omega) (xRt_same hR fθ (by unfold ftP dvP pgP; omega)) (qPut_at _ _ _)
      rw [st, if_neg ne]
      constructor
      · intro hk
        obtain ⟨τ, u1, u2, u3⟩ := R1 (by omega)
        have ed : kk - i = (kk - (i + 1)) + 1 := by omega
        rw [ed]
        exact ⟨τ, u1, u2, fθ.trans u3⟩
      · intro hk
        obtain ⟨τ, u1, u3⟩ := R2 (by omega)
        exact ⟨τ, u1, fθ.trans u3⟩
def qpart (q : ZQ) (j : Nat) : Int32 := if j = 0 then qj q.1 else if j = 1 then qj q.2.1 else if j = 2 then qj q.2.2.1 else qj q.2.2.2
theorem qpart_at {τ : QMem} {k j : Nat} {q : ZQ} (h : τ k 0 = qj q.1 ∧ τ k 1 = qj q.2.1 ∧ τ k 2 = qj q.2.2.1 ∧ τ k 3 = qj q.2.2.2) (hj : j < 4) : τ k j = qpart q j := by
  obtain ⟨h1, h2, h3, h4⟩ := h
  have : j = 0 ∨ j = 1 ∨ j = 2 ∨ j = 3 := by omega
  rcases this with rfl | rfl | rfl | rfl
  · exact h1
  · exact h2
  · exact h3
  · exact h4
def fmP (c : Nat) : Prop := (2 ≤ c ∧ c ≤ 7) ∨ c = 21
theorem m_fac {p1 : Int32} {kk j : Nat} (hkk : kk < 100) (hj : j < 4) : ∀ (d i n : Nat) (μ : QMem) (w : ZQ) (nn : Nat), i + d = kk → d ≤ pfN nn → zL w → zN w = nn → 0 < nn → nn < 151 → d + 2 < n → mUn μ → mRt μ → mAt μ 7 0 w →
    ∃ τ, fX12_factor_L71 p1 (nI kk) (nI j) n (nI i) μ = some (qpart (zFac d w) j, τ) ∧ fr fmP μ τ := by
  have get : ∀ (τ : QMem) (k : Nat) (q : ZQ), mAt τ k 0 q → τ k j = qpart q j := by
    intro τ k q h
    exact qpart_at h hj
  have g7 : ¬ (nI j < 0 ∨ ml 7 ≤ (nI j).toNatClampNeg) := nI_in (show j < 8 by omega) (by decide)
  have g21 : ¬ (nI j < 0 ∨ ml 21 ≤ (nI j).toNatClampNeg) := nI_in (show j < 4 from hj) (by decide)
  intro d
  -- one step: the next factor is laid, and taken away
  have step : ∀ (i n : Nat) (μ : QMem) (w : ZQ) (nn : Nat), i ≤ kk → zL w → zN w = nn → 1 < nn → nn < 151 → mUn μ → mRt μ → mAt μ 7 0 w → ∃ ρ, fX12_factor_L71 p1 (nI kk) (nI j) (n + 1) (nI i) μ = fX12_factor_L71 p1 (nI kk) (nI j) n (nI (i + 1)) ρ ∧ mAt ρ 21 0 (zFx w) ∧ mAt ρ 7 0 (zFn w) ∧ fr fmP μ ρ := by
    intro i n μ w nn hik lw hn h1 h150 hU hR hw
    obtain ⟨p1', p2, p3, p4, p5⟩ := pfN_good nn h150 h1
    have vw : qV w := qV_of lw (by omega)
    obtain ⟨l, -, x1, x2, x3, x4⟩ := zFx_good lw hn h1 h150 z0
    obtain ⟨f1, f2, f3, f4, x0⟩ := zFn_good lw hn h1 h150
    have vx : qV (zFx w) := qV_of x1 (by omega)
    have ck : ¬ nI kk < nI i := nI_nlt hik (by omega)
    have cn : ¬ qj (zN w) = 1 := fun z => by
      have := (qj_eq (qR_of (by omega) (by omega)) (qR_of (show -2000000000 ≤ (1 : Int) by decide) (by decide))).mp z
      omega
    obtain ⟨y1, y2⟩ := m_many0 μ
    generalize hν : ms μ 28 6 0 = ν at y1 y2
    have w7 := y2.at (fun z => z) (by decide) hw
    have hI : gI0 ν 1 w z0 := ⟨mUn_fr hU y2 (fun z => z), ⟨by decide, fun _ => ⟨w7, vw⟩, fun z => by omega⟩, mRt_fr hR y2 (fun z => z)⟩
    obtain ⟨ρ, r1, r2, r3⟩ := m_gathers 0 false (tg := 1) (most := 1) (nn := lpN nn) (by decide) (by omega) (by omega) hI y1 (by decide)
    rw [List.nil_append, List.length_nil, Nat.sub_zero, x4] at r2
    have f5 : mAt ρ 5 0 (zFx w) := rwF_one r2.2.2
    have w7' := r3.at (by unfold gaP; omega) (by decide) w7
    obtain ⟨π, q1, q2, q3⟩ := m_isDiv (k := 21) (k2 := 7) (o := 0) (o2 := 0) 0 (mPut_at ρ 21 0 (zFx w)) (mAt_ne (k := 7) (k2 := 21) (by decide) w7') (by decide) (by decide) (by decide) (by decide) vx vw x0
    have q3' := q2 x3
    rw [f4] at q3'
    refine ⟨mPut π 7 0 (zFn w), ?_, mAt_ne (by decide) (q3.at (by decide) (mPut_at _ _ _ _)), mPut_at _ _ _ _, ?_⟩
    · rw [fX12_factor_L71, if_neg ck, show (0 : Int32) = nI 0 from rfl, m_norm hw (by decide) (Int.le_trans vw.2 (by decide)), Option.bind_some]
      simp only
      rw [if_neg cn, hn, ← qj_nat, lpN_ref nn h150 h1, Option.bind_some, show nI 0 = 0 from rfl, hν, show fX12_gathers (nI (lpN nn)) 0 0 1 1 ν = some ρ from r1, Option.bind_some, show (0 : Int32) = nI 0 from rfl, m_copies f5 (by decide) (show 0 + 3 < ml 21 by decide) (Or.inl (by decide)), Option.bind_some, show fX12_isDivisor 21 (nI 0) 7 (nI 0) (nI 0) (mPut ρ 21 0 (zFx w)) = _ from q1, Option.bind_some]
      simp only
      rw [m_copies q3' (by decide) (show 0 + 3 < ml 7 by decide) (Or.inl (by decide)), Option.bind_some, show nI i + 1 = nI (i + 1) from nI_1 i]
    · refine (y2.weaken (fun c h => h.elim)).trans ((r3.weaken (fun c h => by unfold gaP at h; unfold fmP; omega)).trans ?_)
      have a1 : fr fmP ρ (mPut ρ 21 0 (zFx w)) := fr_put 0 _ (by unfold fmP; omega) (by decide)
      have a2 : fr fmP (mPut ρ 21 0 (zFx w)) π := (q3.weaken (fun c h => by unfold fmP; omega)).fr (by unfold fmP; omega)
      exact a1.trans (a2.trans (fr_put 0 _ (by unfold fmP; omega) (by decide)))
  induction d with
  | zero =>
    intro i n μ w nn hi hd lw hn h0 h150 hn' hU hR hw
    obtain ⟨n, rfl⟩ : ∃ m, n = m + 1 := ⟨n - 1, by omega⟩
    have vw : qV w := qV_of lw (by omega)
    by_cases h1 : zN w = 1
    · have ck : ¬ nI kk < nI i := nI_nlt (by omega) (by omega)
      rw [zFac_1 h1, fX12_factor_L71, if_neg ck, show (0 : Int32) = nI 0 from rfl, m_norm hw (by decide) (Int.le_trans vw.2 (by decide)), Option.bind_some, h1]
      simp only
      rw [if_pos (show qj 1 = 1 from rfl), show nI 0 = 0 from rfl, if_neg g7, nI_clamp (by omega), get μ 7 w hw]
      exact ⟨μ, rfl, fr.refl _ _⟩
    · obtain ⟨ρ, s1, s2, s3, s4⟩ := step i n μ w nn (by omega) lw hn (by omega) h150 hU hR hw
      obtain ⟨n, rfl⟩ : ∃ m, n = m + 1 := ⟨n - 1, by omega⟩
      rw [s1, zFac_0 h1, fX12_factor_L71, if_pos (nI_lt (by omega) (by omega)), if_neg g21, nI_clamp (by omega), get ρ 21 _ s2]
      exact ⟨ρ, rfl, s4⟩
  | succ d ih =>
    intro i n μ w nn hi hd lw hn h0 h150 hn' hU hR hw
    obtain ⟨n, rfl⟩ : ∃ m, n = m + 1 := ⟨n - 1, by omega⟩
    have h1 : 1 < nn := by
      apply Classical.byContradiction
      intro c
      have : nn = 1 := by omega
      rw [this, pfN_1] at hd
      omega
    obtain ⟨p1', p2, p3, p4, p5⟩ := pfN_good nn h150 h1
    obtain ⟨f1, f2, f3, -, -⟩ := zFn_good lw hn h1 h150
    obtain ⟨ρ, s1, s2, s3, s4⟩ := step i n μ w nn (by omega) lw hn h1 h150 hU hR hw
    obtain ⟨τ, t1, t2⟩ := ih (i + 1) n ρ (zFn w) (nn / lpN nn) (by omega) (by omega) f1 f3 (Nat.div_pos p5 (by omega)) (by have := Nat.div_le_self nn (lpN nn); omega) (by omega) (mUn_fr hU s4 (by unfold fmP; omega)) (mRt_fr hR s4 (by unfold fmP; omega)) s3
    rw [s1]
    exact ⟨τ, t1, s4.trans t2⟩
theorem ag_factor (σ μ : QMem) (a1 a2 a3 : Int32) (h : RR σ μ) : ∃ (r : Int32) (σ2 μ2 : QMem), fX11_factor a1 a2 a3 σ = some (r, σ2) ∧ fX12_factor a1 a2 a3 μ = some (r, μ2) ∧ RR σ2 μ2 := by
  unfold fX11_factor fX12_factor
  rcases slot_cases a1 with ⟨e1, e2⟩ | ⟨s, hs, rfl, e1, e2⟩
  · rw [e1, e2, Option.bind_some, Option.bind_some, if_pos rfl, if_pos rfl]; exact ag_same h _
  rw [e1, e2, Option.bind_some, Option.bind_some, if_neg i10, if_neg i10]
  rcases part_cases a3 with ⟨e3, e4⟩ | ⟨j, hj, rfl, e3, e4⟩
  · rw [e3, e4, Option.bind_some, Option.bind_some, if_pos rfl, if_pos rfl]; exact ag_same h _
  rw [e3, e4, Option.bind_some, Option.bind_some, if_neg i10, if_neg i10]
  by_cases hk0 : 0 ≤ a2
  · rw [if_pos hk0, if_pos hk0]
    obtain ⟨kk, hkk, rfl⟩ : ∃ kk : Nat, kk < 2147483648 ∧ a2 = nI kk := by
      rw [Int32.le_iff_toInt_le] at hk0
      have e0 : (0 : Int32).toInt = 0 := by decide
      have up := (p_R a2).2
      refine ⟨a2.toInt.toNat, by omega, ?_⟩
      rw [← Int32.toInt_inj, nI_toInt (by omega)]
      omega
    obtain ⟨S, hS⟩ := h
    obtain ⟨v, q, mq⟩ := hS.1 s hs
    obtain ⟨hU, hR, hx⟩ := hS.2.2.2.2.2.2
    have os : 4 * s + 3 < ml 13 := by rw [ml13']; omega
    rw [if_neg (gs6 hs), es6 hs, c_zero q (qV_S v), m_empty hs v mq, Option.bind_some, Option.bind_some]
    simp only [bI_0]
    by_cases h0 : S s = z0
    · have tf : ¬ (true = false) := by decide
      rw [decide_eq_true h0, if_neg tf, if_neg tf]
      exact ag_same ⟨S, hS⟩ _
    · obtain ⟨nn, hnn⟩ : ∃ nn : Nat, zN (S s) = nn := ⟨(zN (S s)).toNat, by have := zN_nn (S s); omega⟩
      have hpos := zN_pos v.1 h0
      have h150 := qV_N v
      have p7 := pfN_7 nn (by omega)
      have nrm : fX12_norm (nI s) μ = some (nI nn, μ) := by
        unfold fX12_norm
        rw [nI_mul4, m_norm mq os (Int.le_trans v.2 (by decide)), hnn, ← qj_nat]
        rfl
      have x104 : xl 104 = 8 := rfl
      have b104 : xb 104 = 26 := rfl
      have g104 : ¬ ((0 : Int32) < 0 ∨ xl 104 ≤ (0 : Int32).toNatClampNeg) := by rw [x104]; decide
      have k104 : xb 104 + (0 : Int32).toNatClampNeg = 26 := by rw [b104]; decide
      have f26 : qSame ftP σ (qPut σ 26 (S s)) := qPut_sm _ (Or.inl rfl)
      obtain ⟨C1, C2⟩ := c_fac (k2 := s) hkk (pfN nn) 0 FU (qPut σ 26 (S s)) (S s) nn rfl v.1 hnn (by omega) (by omega) (by omega) (Nat.zero_le _) (by unfold FU; omega) (xRt_same hx f26 (by unfold ftP dvP pgP; omega)) (qPut_at _ _ _)
      rw [decide_eq_false h0, if_pos rfl, if_pos rfl, if_neg (gs6 hs), nrm, Option.bind_some]
      simp only
      rw [m_pf (by omega) (by omega), Option.bind_some]
      simp only
      unfold fX3_putFactor
      rw [if_neg g104, k104, c_copy 26 q, Option.bind_some]
      have hsX : ∀ τ, qSame ftP (qPut σ 26 (S s)) τ → sX σ τ := fun τ t => (f26.trans t).sX (fun c hc => by unfold ftP dvP pgP at hc; unfold eX; omega)
      by_cases hk : kk ≤ pfN nn
      · obtain ⟨τ, t1, t2, t3⟩ := C1 (by omega)
        have f7 : fr fmP μ (mPut μ 7 0 (S s)) := fr_put 0 _ (by unfold fmP; omega) (by decide)
        obtain ⟨ν, n1, n2⟩ := m_fac (p1 := nI s) (kk := kk) (j := j) (by omega) hj kk 0 FU (mPut μ 7 0 (S s)) (S s) nn (by omega) hk v.1 hnn (by omega) (by omega) (by unfold FU; omega) (mUn_fr hU f7 (by unfold fmP; omega)) (mRt_fr hR f7 (by unfold fmP; omega)) (mPut_at _ _ _ _)
        rw [Nat.sub_zero] at t2
        rw [show fX3_putFactor_L17 34 s (nI kk) FU 26 0 (qPut σ 26 (S s)) = _ from t1, Option.bind_some]
        simp only
        rw [if_neg i10, c_part hj, Option.bind_some, if_pos (nI_le hk (by omega)), nI_mul4, show (0 : Int32) = nI 0 from rfl, m_copies mq os (show 0 + 3 < ml 7 by decide) (Or.inl (by decide)), Option.bind_some, n1]
        have ev : τ 34 j = qpart (zFac kk (S s)) j := qpart_at t2 hj
        rw [ev]
        exact ag_of ⟨S, hS⟩ _ (hsX τ t3) ((f7.trans n2).sM (fun c hc => by unfold fmP at hc; unfold eM; omega))
      · obtain ⟨τ, t1, t3⟩ := C2 (by omega)
        rw [show fX3_putFactor_L17 34 s (nI kk) FU 26 0 (qPut σ 26 (S s)) = _ from t1, Option.bind_some]
        simp only
        rw [if_pos trivial, if_neg (nI_ge (by omega) (by omega))]
        exact ag_of ⟨S, hS⟩ _ (hsX τ t3) (sM.refl _)
  · rw [if_neg hk0, if_neg hk0]
    exact ag_same h _
