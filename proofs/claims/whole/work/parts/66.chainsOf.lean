/-! CHAINS, on the reference's side; the call of -/
theorem ipN_conv {p : Nat} (pb : p < 151) (h : zPr (p : Int)) : ipN p = true := by
  rw [ipN_good p (by omega)]
  unfold zPrB
  rw [Bool.and_eq_true, decide_eq_true_iff, List.all_eq_true]
  refine ⟨by have := h.1; omega, fun m hm => ?_⟩
  rw [Bool.or_eq_true, Bool.or_eq_true, decide_eq_true_iff, decide_eq_true_iff, decide_eq_true_iff]
  by_cases hd : p % m = 0
  · have d2 : (m : Int) ∣ (p : Int) := Int.natCast_dvd_natCast.mpr (Nat.dvd_of_mod_eq_zero hd)
    rcases h.2 (m : Int) (by omega) d2 with z | z
    · left; right; omega
    · right; omega
  · left; left; exact hd
theorem cov_iff {x d : ZQ} {a b : Nat} (ha : zN x = a) (hb : zN d = b) (a0 : 0 < a) (b0 : 0 < b) (a150 : a < 151) : zCov x d ↔ a % b = 0 ∧ ipN (a / b) = true ∧ zD 0 d x := by
  constructor
  · rintro ⟨h1, p, p1, p2⟩
    obtain ⟨k, rfl⟩ : ∃ k : Nat, p = k := ⟨p.toNat, by have := p1.1; omega⟩
    rw [ha, hb, ← Int.natCast_mul] at p2
    have e : a = b * k := by omega
    have hk : a / b = k := by rw [e]; exact Nat.mul_div_cancel_left _ b0
    have kle : k ≤ a := by rw [e]; exact Nat.le_mul_of_pos_left k b0
    exact ⟨by rw [e]; exact Nat.mul_mod_right _ _, by rw [hk]; exact ipN_conv (by omega) p1, h1⟩
  · rintro ⟨h1, h2, h3⟩
    have e := Nat.div_add_mod a b
    rw [h1, Nat.add_zero] at e
    have kle := Nat.div_le_self a b
    refine ⟨h3, ((a / b : Nat) : Int), ipN_pr (by omega) h2, ?_⟩
    rw [ha, hb, ← Int.natCast_mul, e]
theorem zF_yes {P : ZQ → Prop} {x : ZQ} {l : List ZQ} (h : P x) : zF P (x :: l) = x :: zF P l := by
  unfold zF
  rw [List.filter_cons, if_pos]
  exact @decide_eq_true _ (Classical.propDecidable _) h
theorem zF_no {P : ZQ → Prop} {x : ZQ} {l : List ZQ} (h : ¬ P x) : zF P (x :: l) = zF P l := by
  unfold zF
  rw [List.filter_cons, if_neg]
  intro e
  exact h (@of_decide_eq_true _ (Classical.propDecidable _) e)
theorem drop_D {L : List ZQ} {i : Nat} (h : i < L.length) : L.drop i = L.getD i z0 :: L.drop (i + 1) := by
  rw [List.drop_eq_getElem_cons h]
  congr 1
  rw [List.getD_eq_getElem?_getD, List.getElem?_eq_getElem h, Option.getD_some]
/-- what each found is -/
def dvG (n : Nat) (L : List ZQ) : Prop := ∀ x, x ∈ L → zL x ∧ ∃ a : Nat, zN x = a ∧ 1 ≤ a ∧ a ≤ n
theorem Fl_dv {q : ZQ} {n : Nat} (h150 : n < 151) : dvG n (Fl q n n) := by
  intro x hx
  obtain ⟨x1, -, -, k, x4, x5, x6, -⟩ := (Fl_mem (by omega)).mp hx
  exact ⟨x1, k, x4, x5, x6⟩
def lcP (c : Nat) : Prop := c = 2 ∨ c = 3 ∨ c = 18 ∨ c = 19
theorem m_lc38 {n k : Nat} {L : List ZQ} (h150 : n < 151) (hG : dvG n L) (hk : k < L.length) (hl : L.length ≤ 600) : ∀ (m j f acc : Nat) (μ : QMem), j + m = k → m < f → rwF (μ 5) L → (∀ i, i < L.length → μ 17 i = qj (zN (L.getD i z0))) → (∀ i, i < k → μ 18 i = nI (zT (L.getD i z0))) → μ 18 k = nI acc → mAt μ 20 0 (L.getD k z0) →
    ∃ τ, fX12_laysChain_L38 (nI k) f (nI j) μ = some τ ∧ τ 18 k = nI (acc + ((zF (zCov (L.getD k z0)) ((L.take k).drop j)).map zT).sum) ∧ (∀ i, ¬ i = k → τ 18 i = μ 18 i) ∧ fq lcP μ τ := by
  intro m
  induction m with
  | zero =>
    intro j f acc μ hj hf h5 h17 h18 hacc h20
    obtain ⟨f, rfl⟩ : ∃ m, f = m + 1 := ⟨f - 1, by omega⟩
    have : j = k := by omega
    subst this
    rw [fX12_laysChain_L38, if_pos (nI_le (Nat.le_refl _) (by omega))]
    refine ⟨μ, rfl, ?_, fun _ _ => rfl, fq.refl _ _⟩
    have e : (L.take j).drop j = [] := List.drop_eq_nil_of_le (by rw [List.length_take]; omega)
    rw [e, hacc]
    rfl
  | succ m ih =>
    intro j f acc μ hj hf h5 h17 h18 hacc h20
    obtain ⟨f, rfl⟩ : ∃ m, f = m + 1 := ⟨f - 1, by omega⟩
    have m5 : ml 5 = 2400 := rfl
    have m17 : ml 17 = 600 := rfl
    have m18 : ml 18 = 600 := rfl
    have jt : j < (L.take k).length := by rw [List.length_take]; omega
    have e1 : (L.take k).getD j z0 = L.getD j z0 := by
      rw [List.getD_eq_getElem?_getD, List.getD_eq_getElem?_getD, List.getElem?_take_of_lt (by omega)]
    have ed := drop_D jt
    rw [e1] at ed
    obtain ⟨lx, a, xa, a1, an⟩ := hG _ (getD_mem hk)
    obtain ⟨ld, b, db, b1, bn⟩ := hG _ (getD_mem (show j < L.length by omega))
    have vx : qV (L.getD k z0) := qV_of lx (by omega)
    have vd : qV (L.getD j z0) := qV_of ld (by omega)
    have d0 : L.getD j z0 ≠ z0 := fun e => by rw [e, zN_z0] at db; omega
    have cv := cov_iff xa db (by omega) (by omega) (by omega)
    have gk17 : ¬ (nI k < 0 ∨ ml 17 ≤ (nI k).toNatClampNeg) := nI_in (by rw [m17]; omega) (by decide)
    have gj17 : ¬ (nI j < 0 ∨ ml 17 ≤ (nI j).toNatClampNeg) := nI_in (by rw [m17]; omega) (by decide)
    have gk18 : ¬ (nI k < 0 ∨ ml 18 ≤ (nI k).toNatClampNeg) := nI_in (by rw [m18]; omega) (by decide)
    have gj18 : ¬ (nI j < 0 ∨ ml 18 ≤ (nI j).toNatClampNeg) := nI_in (by rw [m18]; omega) (by decide)
    have kk : (nI k).toNatClampNeg = k := nI_clamp (by omega)
    have kj : (nI j).toNatClampNeg = j := nI_clamp (by omega)
    have gk17' := gk17
    have gj17' := gj17
    have gj18' := gj18
    have gk18' := gk18
    rw [kk] at gk17' gk18'
    rw [kj] at gj17' gj18'
    have gk18z : ¬ (nI k < nI 0 ∨ ml 18 ≤ (nI k).toNatClampNeg) := gk18
    have gj18z : ¬ (nI j < nI 0 ∨ ml 18 ≤ j) := gj18'
    have v17k : μ 17 k = nI a := by rw [h17 k hk, xa, ← qj_nat]
    have v17j : μ 17 j = nI b := by rw [h17 j (by omega), db, ← qj_nat]
    have nb0 : ¬ nI b = 0 := nI_ne0 (by omega) (by omega)
    rw [fX12_laysChain_L38, if_neg (nI_ge (show j < k by omega) (by omega)), if_neg gk17, if_neg gj17, kk, kj, v17k, v17j, if_neg nb0]
    simp only [nI_dvd (show a < 2000000 by omega) (show 0 < b ∧ b < 2000000 by omega)]
    have skip : ¬ zCov (L.getD k z0) (L.getD j z0) → ∃ τ, fX12_laysChain_L38 (nI k) f (nI j + 1) μ = some τ ∧ τ 18 k = nI (acc + ((zF (zCov (L.getD k z0)) ((L.take k).drop j)).map zT).sum) ∧ (∀ i, ¬ i = k → τ 18 i = μ 18 i) ∧ fq lcP μ τ := by
      intro hc
      rw [ed, zF_no hc, show nI j + 1 = nI (j + 1) from nI_1 j]
      exact ih (j + 1) f acc μ (by omega) (by omega) h5 h17 h18 hacc h20
    by_cases hm : a % b = 0
    · rw [if_pos hm, if_neg gk17', if_neg gj17', if_neg nb0, nI_div (by omega) ⟨by omega, by omega⟩, m_isPrime (a / b) (by have := Nat.div_le_self a b; omega), Option.bind_some]
      simp only [bI_0]
      by_cases hi : ipN (a / b) = true
      · have nf : ¬ ipN (a / b) = false := by rw [hi]; decide
        have o10 : ¬ (1 : Int32) = 0 := by decide
        have q5 : mAt μ 5 (4 * j) (L.getD j z0) := h5 j (by omega)
        rw [if_neg nf]
        unfold fX12_laysChain_J83
        rw [if_neg o10, nI_mul4, show (0 : Int32) = nI 0 from rfl, m_copies q5 (by rw [m5]; omega) (show 0 + 3 < ml 19 by decide) (Or.inl (by decide)), Option.bind_some, if_neg gk18z]
        obtain ⟨ν, n1, -, n3⟩ := m_isDiv (nI 0) (mPut_at μ 19 0 (L.getD j z0)) (mAt_ne (k2 := 19) (o2 := 0) (r := L.getD j z0) (show ¬ 20 = 19 by decide) h20) (by decide) (by decide) (by decide) (by decide) vd vx d0
        have fν : fq (fun c => c = 2 ∨ c = 3 ∨ c = 19) μ ν := (fq_put (P := fun c => c = 2 ∨ c = 3 ∨ c = 19) 0 _ (by omega)).trans (n3.weaken (fun c hc => by omega))
        have p18 : mPut μ 19 0 (L.getD j z0) 18 = μ 18 := mPut_cell _ _ _ (by decide)
        have ν18 : ν 18 = μ 18 := fν 18 (by decide)
        rw [n1, Option.bind_some]
        simp only [bI_n0]
        rw [p18, kk, kj, ν18, hacc, h18 j (by omega)]
        unfold fX12_laysChain_J138 fX12_laysChain_J140
        rw [if_neg gk18, kk]
        have go : ∀ (u : Nat), ∃ τ, fX12_laysChain_L38 (nI k) f (nI j + 1) (ms ν 18 k (nI acc + nI u)) = some τ ∧ τ 18 k = nI (acc + u + ((zF (zCov (L.getD k z0)) ((L.take k).drop (j + 1))).map zT).sum) ∧ (∀ i, ¬ i = k → τ 18 i = μ 18 i) ∧ fq lcP μ τ := by
          intro u
          generalize hω : ms ν 18 k (nI acc + nI u) = ω
          have ωc : ∀ c, ¬ c = 18 → ω c = ν c := fun c hc => by rw [← hω]; exact ms_cell _ hc _ _
          have fω : fq lcP μ ω := fun c hc => by
            unfold lcP at hc
            rw [ωc c (by omega), fν c (by omega)]
          have ωi : ∀ i, ¬ i = k → ω 18 i = μ 18 i := fun i hi => by
            rw [← hω, ms_get, if_neg (by omega), ν18]
          have ωk : ω 18 k = nI (acc + u) := by
            rw [← hω, ms_get, if_pos ⟨rfl, rfl⟩, nI_add]
          obtain ⟨τ, t1, t2, t3, t4⟩ := ih (j + 1) f (acc + u) ω (by omega) (by omega) (by rw [ωc 5 (by decide), fν 5 (by decide)]; exact h5) (by rw [ωc 17 (by decide), fν 17 (by decide)]; exact h17) (fun i hi => by rw [ωi i (by omega)]; exact h18 i hi) ωk (mAt_cell (by rw [ωc 20 (by decide), fν 20 (by decide)]) h20)
          rw [show nI j + 1 = nI (j + 1) from nI_1 j]
          exact ⟨τ, t1, t2, fun i hi => by rw [t3 i hi, ωi i hi], fω.trans t4⟩
        by_cases hD : zD (nI 0) (L.getD j z0) (L.getD k z0)
        · have tb : zDb (nI 0) (L.getD j z0) (L.getD k z0) = true := zDb_iff.mpr hD
          rw [tb, if_neg (by decide), if_neg gj18z, if_neg gk18']
          have c : zCov (L.getD k z0) (L.getD j z0) := cv.mpr ⟨hm, hi, hD⟩
          obtain ⟨τ, t1, t2, t3⟩ := go (zT (L.getD j z0))
          rw [ed, zF_yes c, List.map_cons, List.sum_cons, ← Nat.add_assoc]
          exact ⟨τ, t1, t2, t3⟩
        · have tb : zDb (nI 0) (L.getD j z0) (L.getD k z0) = false := by
            cases hz : zDb (nI 0) (L.getD j z0) (L.getD k z0)
            · rfl
            · exact absurd (zDb_iff.mp hz) hD
          rw [tb, if_pos rfl]
          have c : ¬ zCov (L.getD k z0) (L.getD j z0) := fun z => hD (cv.mp z).2.2
          obtain ⟨τ, t1, t2, t3⟩ := go 0
          rw [ed, zF_no c]
          exact ⟨τ, t1, t2, t3⟩
      · have nf : ipN (a / b) = false := by cases h : ipN (a / b); rfl; exact absurd h hi
        rw [if_pos nf]
        unfold fX12_laysChain_J82 fX12_laysChain_J83 fX12_laysChain_J140
        rw [if_pos rfl]
        exact skip (fun z => hi (cv.mp z).2.1)
    · rw [if_neg hm]
      unfold fX12_laysChain_J82 fX12_laysChain_J83 fX12_laysChain_J140
      rw [if_pos rfl]
      exact skip (fun z => hm (cv.mp z).1)

/-- one divisor -/
theorem m_lc {q : ZQ} {n k : Nat} (h150 : n < 151) (hk : k < (Fl q n n).length) {μ : QMem} (h5 : rwF (μ 5) (Fl q n n)) (h17 : ∀ i, i < (Fl q n n).length → μ 17 i = qj (zN ((Fl q n n).getD i z0))) (h18 : ∀ i, i < k → μ 18 i = nI (zT ((Fl q n n).getD i z0))) :
    ∃ τ, fX12_laysChain (nI k) μ = some τ ∧ (∀ i, i < k + 1 → τ 18 i = nI (zT ((Fl q n n).getD i z0))) ∧ fq (fun c => c = 2 ∨ c = 3 ∨ (18 ≤ c ∧ c ≤ 20)) μ τ := by
  have hl := Fl_600 (q := q) h150 (Nat.le_refl n)
  have m5 : ml 5 = 2400 := rfl
  have m17 : ml 17 = 600 := rfl
  have m18 : ml 18 = 600 := rfl
  have hG := Fl_dv (q := q) h150
  have hF := zT_F (q := q) h150 hk rfl
  generalize hL : Fl q n n = L at hk h5 h17 h18 hl hG hF ⊢
  have gk17 : ¬ (nI k < 0 ∨ ml 17 ≤ (nI k).toNatClampNeg) := nI_in (by rw [m17]; omega) (by decide)
  have gk18 : ¬ (nI k < 0 ∨ ml 18 ≤ (nI k).toNatClampNeg) := nI_in (by rw [m18]; omega) (by decide)
  have kk : (nI k).toNatClampNeg = k := nI_clamp (by omega)
  obtain ⟨lx, a, xa, a1, an⟩ := hG _ (getD_mem hk)
  have go : ∀ u : Nat, zT (L.getD k z0) = u + ((zF (zCov (L.getD k z0)) (L.take k)).map zT).sum → ∃ τ, fX12_laysChain_J20 (nI k) 18 (nI k) (nI u) μ = some τ ∧ (∀ i, i < k + 1 → τ 18 i = nI (zT (L.getD i z0))) ∧ fq (fun c => c = 2 ∨ c = 3 ∨ (18 ≤ c ∧ c ≤ 20)) μ τ := by
    intro u hu
    unfold fX12_laysChain_J20
    generalize hω : ms μ 18 k (nI u) = ω
    have ωc : ∀ c, ¬ c = 18 → ω c = μ c := fun c hc => by rw [← hω]; exact ms_cell _ hc _ _
    have ωi : ∀ i, ¬ i = k → ω 18 i = μ 18 i := fun i hi => by rw [← hω, ms_get, if_neg (by omega)]
    have ωk : ω 18 k = nI u := by rw [← hω, ms_get, if_pos ⟨rfl, rfl⟩]
    have q5 : mAt ω 5 (4 * k) (L.getD k z0) := mAt_cell (ωc 5 (by decide)) (h5 k hk)
    have pc : ∀ c, ¬ c = 20 → mPut ω 20 0 (L.getD k z0) c = ω c := fun c hc => mPut_cell _ _ _ hc
    obtain ⟨τ, t1, t2, t3, t4⟩ := m_lc38 h150 hG hk hl k 0 FU u (mPut ω 20 0 (L.getD k z0)) (Nat.zero_add k) (by unfold FU; omega) (by rw [pc 5 (by decide), ωc 5 (by decide)]; exact h5) (by rw [pc 17 (by decide), ωc 17 (by decide)]; exact h17) (fun i hi => by rw [pc 18 (by decide), ωi i (by omega)]; exact h18 i hi) (by rw [pc 18 (by decide)]; exact ωk) (mPut_at _ _ _ _)
    rw [if_neg gk18, kk, hω, nI_mul4, show (0 : Int32) = nI 0 from rfl, m_copies q5 (by rw [m5]; omega) (show 0 + 3 < ml 20 by decide) (Or.inl (by decide)), Option.bind_some, t1]
    rw [List.drop_zero, ← hu] at t2
    refine ⟨τ, rfl, fun i hi => ?_, fun c hc => ?_⟩
    · by_cases e : i = k
      · rw [e]; exact t2
      · rw [t3 i e, pc 18 (by decide), ωi i e]
        exact h18 i (by omega)
    · rw [t4 c (by unfold lcP; omega), pc c (by omega), ωc c (by omega)]
  unfold fX12_laysChain
  have v17k : μ 17 k = nI a := by rw [h17 k hk, xa, ← qj_nat]
  rw [if_neg gk17, kk, v17k]
  by_cases h1 : a = 1
  · have c1 : nI a = 1 := by rw [h1]; rfl
    rw [if_pos c1, show (1 : Int32) = nI 1 from rfl]
    exact go 1 (by rw [hF, if_pos (by omega)])
  · have c1 : ¬ nI a = 1 := fun e => h1 ((nI_eq (a := a) (b := 1) (by omega) (by decide)).mp e)
    rw [if_neg c1, show (0 : Int32) = nI 0 from rfl]
    exact go 0 (by rw [hF, if_neg (by omega)])
/-- all divisors -/
theorem m_lcs {q : ZQ} {n : Nat} (p1 : Int32) (h150 : n < 151) (h0 : 0 < (Fl q n n).length) : ∀ (m k f : Nat) (μ : QMem), k + m = (Fl q n n).length → m < f → mFd μ (Fl q n n) → (∀ i, i < (Fl q n n).length → μ 17 i = qj (zN ((Fl q n n).getD i z0))) → (∀ i, i < k → μ 18 i = nI (zT ((Fl q n n).getD i z0))) →
    ∃ τ, fX12_chainsOf_L91 p1 f (nI k) μ = some (nI (zT ((Fl q n n).getD ((Fl q n n).length - 1) z0)), τ) ∧ fq (fun c => c = 2 ∨ c = 3 ∨ (18 ≤ c ∧ c ≤ 20)) μ τ := by
  have hl := Fl_600 (q := q) h150 (Nat.le_refl n)
  have m18 : ml 18 = 600 := rfl
  intro m
  induction m with
  | zero =>
    intro k f μ hk hf h5 h17 h18
    obtain ⟨f, rfl⟩ : ∃ m, f = m + 1 := ⟨f - 1, by omega⟩
    have : k = (Fl q n n).length := by omega
    subst this
    have e1 : nI (Fl q n n).length - 1 = nI ((Fl q n n).length - 1) := by
      rw [← nI_m1 h0]; exact Int32.sub_eq_add_neg _ _
    rw [fX12_chainsOf_L91, h5.1, if_pos (nI_le (Nat.le_refl _) (by omega)), e1, if_neg (nI_in (by rw [m18]; omega) (by decide)), nI_clamp (by omega), h18 _ (by omega)]
    exact ⟨μ, rfl, fq.refl _ _⟩
  | succ m ih =>
    intro k f μ hk hf h5 h17 h18
    obtain ⟨f, rfl⟩ : ∃ m, f = m + 1 := ⟨f - 1, by omega⟩
    obtain ⟨τ, t1, t2, t3⟩ := m_lc (q := q) (k := k) h150 (by omega) h5.2.2 h17 h18
    obtain ⟨ρ, r1, r2⟩ := ih (k + 1) f τ (by omega) (by omega) ⟨by rw [t3 28 (by decide)]; exact h5.1, h5.2.1, by rw [t3 5 (by decide)]; exact h5.2.2⟩ (by rw [t3 17 (by decide)]; exact h17) t2
    rw [fX12_chainsOf_L91, h5.1, if_neg (nI_ge (show k < (Fl q n n).length by omega) (by omega)), t1, Option.bind_some, show nI k + 1 = nI (k + 1) from nI_1 k, r1]
    exact ⟨ρ, rfl, t3.trans r2⟩
