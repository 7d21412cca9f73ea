/-! the call squares -/
def qcI (k : Int) (T : List Nat) : Nat := if 0 ≤ k then pC k.toNat T else 0
theorem pC_addn (n s : Nat) (T : List Nat) : pC n (T.map fun t => s + t) = if s ≤ n then pC (n - s) T else 0 := by
  induction T with
  | nil => show 0 = _; split <;> rfl
  | cons t T ih =>
    rw [List.map_cons, pC_cons, ih, pC_cons]
    by_cases h : s ≤ n
    · rw [if_pos h, if_pos h]
      congr 1
      by_cases e : s + t = n
      · rw [if_pos e, if_pos (by omega)]
      · rw [if_neg e, if_neg (by omega)]
    · rw [if_neg h, if_neg h, if_neg (by omega)]
theorem qcI_M (k : Int) (T : List Nat) : ∀ m, qcI k (pM (sqL (dL m)) T) = ((dL m).map fun a => qcI (k - a * a) T).sum := by
  intro m
  induction m with
  | zero => unfold qcI; show (if 0 ≤ k then 0 else 0) = 0; split <;> rfl
  | succ m ih =>
    have e : pM (sqL (dL (m + 1))) T = (T.map fun t => (((m : Int) - 12) * ((m : Int) - 12)).toNat + t) ++ pM (sqL (dL m)) T := by
      unfold pM sqL
      rw [dL, List.map_cons, List.flatMap_cons]
    have nn := sq_nn ((m : Int) - 12)
    rw [e, dL, List.map_cons, List.sum_cons, ← ih]
    generalize ((m : Int) - 12) * ((m : Int) - 12) = s at nn ⊢
    unfold qcI
    rw [pC_app, pC_addn]
    by_cases h : 0 ≤ k
    · rw [if_pos h, if_pos h]
      congr 1
      by_cases g : s.toNat ≤ k.toNat
      · rw [if_pos g, if_pos (by omega)]
        congr 1
        omega
      · rw [if_neg g, if_neg (by omega)]
    · rw [if_neg h, if_neg h, if_neg (by omega)]
theorem sqW_pC : ∀ k, k < 151 → sqW (zRt k) = pC k sqD := by decide +kernel
theorem sqW_q {n : Nat} (hn : n < 151) {k : Int} (hk : k ≤ n) : sqW (rI k) = qcI k sqD := by
  unfold rI qcI
  by_cases h : 0 ≤ k
  · rw [if_pos h, if_pos h]; exact sqW_pC _ (by omega)
  · rw [if_neg h, if_neg h]; rfl
theorem map_sum_congr {f g : Int → Nat} {l : List Int} (h : ∀ x, x ∈ l → f x = g x) : (l.map f).sum = (l.map g).sum := by
  rw [List.map_congr_left h]
theorem sAll_eq {n : Nat} (hn : n < 151) : sAll n = pC n (pM sqD (pM sqD (pM sqD sqD))) := by
  have e2 : ∀ a b : Int, sA2 n a b = qcI ((n : Int) - a * a - b * b) (pM sqD sqD) := by
    intro a b
    have h := qcI_M ((n : Int) - a * a - b * b) sqD 25
    rw [show pM (sqL (dL 25)) sqD = pM sqD sqD from rfl] at h
    rw [h]
    unfold sA2
    refine map_sum_congr (fun c _ => ?_)
    have := sq_nn a
    have := sq_nn b
    have := sq_nn c
    exact sqW_q hn (by unfold sqR; omega)
  have e1 : ∀ a : Int, sA1 n a = qcI ((n : Int) - a * a) (pM sqD (pM sqD sqD)) := by
    intro a
    have h := qcI_M ((n : Int) - a * a) (pM sqD sqD) 25
    rw [show pM (sqL (dL 25)) (pM sqD sqD) = pM sqD (pM sqD sqD) from rfl] at h
    rw [h]
    unfold sA1
    exact map_sum_congr (fun b _ => e2 a b)
  have h := qcI_M (n : Int) (pM sqD (pM sqD sqD)) 25
  rw [show pM (sqL (dL 25)) (pM sqD (pM sqD sqD)) = pM sqD (pM sqD (pM sqD sqD)) from rfl] at h
  have e0 : sAll n = qcI (n : Int) (pM sqD (pM sqD (pM sqD sqD))) := by
    rw [h]
    unfold sAll
    exact map_sum_congr (fun a _ => e1 a)
  rw [e0]
  unfold qcI
  rw [if_pos (by omega), Int.toNat_natCast]
theorem dBs_sm {n : Nat} {x : ZQ} (hx : x ∈ dBs n) : smQ x := by
  unfold dBs at hx
  obtain ⟨a, ha, hx⟩ := List.mem_flatMap.mp hx
  unfold dB1 at hx
  obtain ⟨b, hb, hx⟩ := List.mem_flatMap.mp hx
  unfold dB2 at hx
  obtain ⟨c, hc, hx⟩ := List.mem_flatMap.mp hx
  have a1 := nL_mem ha
  have b1 := nL_mem hb
  have c1 := nL_mem hc
  unfold sqB at hx
  split at hx
  · exact absurd hx (by simp)
  · rename_i g
    rw [List.mem_singleton] at hx
    subst hx
    unfold smQ
    simp only
    omega
theorem hitF_neg {p2 : Int32} (p3 : Int32) (h : p2 < 0) : ∀ (L : List ZQ) (cnt : Nat), cnt + L.length < 100 → hitF p2 p3 cnt L = none := by
  intro L
  induction L with
  | nil => intro cnt _; rfl
  | cons x t ih =>
    intro cnt hc
    rw [List.length_cons] at hc
    have ne : ¬ nI cnt = p2 := by
      intro e
      rw [← e] at h
      exact nI_pos (by omega) h
    rw [hitF, if_neg ne]
    exact ih (cnt + 1) (by omega)
theorem hitF_in (p3 : Int32) {k : Nat} (hk : k < 2147483648) : ∀ (L : List ZQ) (cnt : Nat), cnt ≤ k → cnt + L.length < 100 → hitF (nI k) p3 cnt L = if k - cnt < L.length then some (zpart p3 (L.getD (k - cnt) z0)) else none := by
  intro L
  induction L with
  | nil => intro cnt _ _; rfl
  | cons x t ih =>
    intro cnt h1 hc
    rw [List.length_cons] at hc
    rw [hitF]
    by_cases e : cnt = k
    · subst e
      rw [if_pos rfl, Nat.sub_self, if_pos (by rw [List.length_cons]; omega)]
      rfl
    · have ne : ¬ nI cnt = nI k := fun z => e ((nI_eq (by omega) (by omega)).mp z)
      rw [if_neg ne, ih (cnt + 1) (by omega) (by omega), List.length_cons]
      have e2 : k - cnt = (k - (cnt + 1)) + 1 := by omega
      rw [e2, List.getD_cons_succ]
      by_cases g : k - (cnt + 1) < t.length
      · rw [if_pos g, if_pos (by omega)]
      · rw [if_neg g, if_neg (by omega)]
theorem norm_cases (p : Int32) : (p < 0 ∧ fX12_in p 0 150 = some 0) ∨ (¬ p < 0 ∧ 150 < p ∧ fX12_in p 0 150 = some 0) ∨ ∃ n, n < 151 ∧ p = nI n ∧ ¬ p < 0 ∧ ¬ 150 < p ∧ fX12_in p 0 150 = some 1 := by
  unfold fX12_in
  rcases p_cases p 151 (by decide) with h | ⟨j, hj, rfl⟩
  · rcases h with h | h
    · left
      constructor <;> simp (disch := omega) only [Option.bind_some, i32_lit2, nI_add, nI_mulM, cI, nI_ltT, nI_ltF, nI_leT, nI_leF, nI_eqF, nat_leF, or_self, or_false, false_or, if_true, if_false, not_true, not_false, bI_n0, bI_n1, b_em, eq_self, pLtT, pLtF, pLeT, pLeF, nLtT, nLtF, nLeT, nLeF, pEqF]
    · right; left
      refine ⟨?_, ?_, ?_⟩ <;> simp (disch := omega) only [Option.bind_some, i32_lit2, nI_add, nI_mulM, cI, nI_ltT, nI_ltF, nI_leT, nI_leF, nI_eqF, nat_leF, or_self, or_false, false_or, if_true, if_false, not_true, not_false, bI_n0, bI_n1, b_em, eq_self, pLtT, pLtF, pLeT, pLeF, nLtT, nLtF, nLeT, nLeF, pEqF] <;> exact id
  · right; right
    refine ⟨j, hj, rfl, ?_, ?_, ?_⟩ <;> simp (disch := omega) only [Option.bind_some, i32_lit2, nI_add, nI_mulM, cI, nI_ltT, nI_ltF, nI_leT, nI_leF, nI_eqF, nat_leF, or_self, or_false, false_or, if_true, if_false, not_true, not_false, bI_n0, bI_n1, b_em, eq_self, pLtT, pLtF, pLeT, pLeF, nLtT, nLtF, nLeT, nLeF, pEqF] <;> exact id
theorem rpart_z {σ : QMem} {k : Nat} {L : List ZQ} (h : xRw σ k L) {i j : Nat} (hi : i < L.length) (hj : j < 4) : σ (k + 11) (4 * i + j) = zpart (nI j) (L.getD i z0) := by
  obtain ⟨w0, w1, w2, w3⟩ := h.2.2 i hi
  rcases (show j = 0 ∨ j = 1 ∨ j = 2 ∨ j = 3 by omega) with rfl | rfl | rfl | rfl
  · exact w0
  · exact w1
  · exact w2
  · exact w3
theorem ag_squares (σ μ : QMem) (a1 a2 a3 : Int32) (h : RR σ μ) : ∃ (r : Int32) (σ2 μ2 : QMem), fX11_squares a1 a2 a3 σ = some (r, σ2) ∧ fX12_squares a1 a2 a3 μ = some (r, μ2) ∧ RR σ2 μ2 := by
  unfold fX11_squares fX12_squares
  rcases norm_cases a1 with ⟨g1, e3⟩ | ⟨g1, g2, e3⟩ | ⟨n, hn, rfl, g1, g2, e3⟩
  · rw [if_pos g1, e3, Option.bind_some, if_pos rfl]; exact ag_same h _
  · rw [if_neg g1, if_pos g2, e3, Option.bind_some, if_pos rfl]; exact ag_same h _
  rw [if_neg g1, if_neg g2, e3, Option.bind_some, if_neg i10]
  by_cases k1 : a2 < -2
  · rw [if_pos k1, if_pos k1]; exact ag_same h _
  rw [if_neg k1, if_neg k1]
  have body : (a2 < 0 ∨ ∃ j, j < 4 ∧ a3 = nI j) → ∃ (r : Int32) (σ2 μ2 : QMem), fX11_squares_J32 (nI n) a2 a3 σ = some (r, σ2) ∧ fX12_squares_J34 (nI n) a2 a3 μ = some (r, μ2) ∧ RR σ2 μ2 := by
    intro hp
    obtain ⟨S, hS⟩ := h
    obtain ⟨hU, hR, hx⟩ := hS.2.2.2.2.2.2
    have len := dBs_40 hn
    obtain ⟨τ, t1, t2, t3⟩ := cb_gather hn len σ
    have keep : ∀ r : Int32, ∃ (r2 : Int32) (σ2 μ2 : QMem), some (r, τ) = some (r2, σ2) ∧ some (r, μ) = some (r2, μ2) ∧ RR σ2 μ2 := fun r => ag_of ⟨S, hS⟩ r (t3.sX (fun c hc => by unfold bsP at hc; unfold eX; omega)) (sM.refl _)
    unfold fX11_squares_J32 fX12_squares_J34
    rw [t1, Option.bind_some, m_rows hn a2 a3 hR, sBs_eq, sAll_eq hn]
    by_cases h2 : a2 = -2
    · have ng : a2 < 0 := by rw [h2]; decide
      rw [if_pos h2, if_pos h2, hitF_neg a3 ng _ 0 (by omega), c_arrT t2 len (fun x hx => dBs_sm hx), dBs_all]
      exact keep _
    · rw [if_neg h2, if_neg h2]
      by_cases h1 : a2 = -1
      · have ng : a2 < 0 := by rw [h1]; decide
        rw [if_pos h1, if_pos h1, hitF_neg a3 ng _ 0 (by omega), c_size t2]
        exact keep _
      · rw [if_neg h1, if_neg h1, c_size t2, Option.bind_some]
        simp only
        have lo : 0 ≤ a2.toInt := by
          rw [Int32.lt_iff_toInt_lt] at k1
          have x2 : (-2 : Int32).toInt = -2 := by decide
          have n2 : a2.toInt ≠ -2 := fun e => h2 (Int32.toInt_inj.mp (e.trans x2.symm))
          have x1 : (-1 : Int32).toInt = -1 := by decide
          have n1 : a2.toInt ≠ -1 := fun e => h1 (Int32.toInt_inj.mp (e.trans x1.symm))
          omega
        obtain ⟨kk, hkk, rfl⟩ : ∃ kk : Nat, kk < 2147483648 ∧ a2 = nI kk := by
          have up := (p_R a2).2
          refine ⟨a2.toInt.toNat, by omega, ?_⟩
          rw [← Int32.toInt_inj, nI_toInt (by omega)]
          omega
        obtain ⟨j, hj, rfl⟩ : ∃ j, j < 4 ∧ a3 = nI j := by
          rcases hp with z | z
          · exact absurd z (nI_pos hkk)
          · exact z
        rw [hitF_in (nI j) hkk _ 0 (Nat.zero_le _) (by omega), Nat.sub_zero]
        by_cases g : kk < (dBs n).length
        · rw [if_pos g, if_neg (nI_ge g (by omega)), c_rpart t2 g hj, rpart_z t2 g hj]
          exact keep _
        · rw [if_neg g, if_pos (nI_le (by omega) hkk)]
          exact keep _
  by_cases k0 : a2 < 0
  · rw [if_pos k0, if_pos k0]; exact body (Or.inl k0)
  · rw [if_neg k0, if_neg k0]
    rcases part_cases a3 with ⟨e7, e8⟩ | ⟨j, hj, rfl, e7, e8⟩
    · rw [e7, e8, Option.bind_some, Option.bind_some, if_pos rfl, if_pos rfl]; exact ag_same h _
    · rw [e7, e8, Option.bind_some, Option.bind_some, if_neg i10, if_neg i10]
      exact body (Or.inr ⟨j, hj, rfl⟩)
