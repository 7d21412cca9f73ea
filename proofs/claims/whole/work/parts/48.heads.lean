/-! THE METHODS OF Rows AND Heads -/
/-- four ints of a row -/
def mAt (μ : QMem) (k o : Nat) (q : ZQ) : Prop := μ k o = qj q.1 ∧ μ k (o + 1) = qj q.2.1 ∧ μ k (o + 2) = qj q.2.2.1 ∧ μ k (o + 3) = qj q.2.2.2
/-- rows of four, one after the other -/
def rwF (f : Nat → Int32) (L : List ZQ) : Prop := ∀ i, i < L.length → f (4 * i) = qj (L.getD i z0).1 ∧ f (4 * i + 1) = qj (L.getD i z0).2.1 ∧ f (4 * i + 2) = qj (L.getD i z0).2.2.1 ∧ f (4 * i + 3) = qj (L.getD i z0).2.2.2
theorem rwF_nil (f : Nat → Int32) : rwF f [] := fun i hi => absurd hi (by simp)
theorem getD_app1 {L M : List ZQ} {i : Nat} (h : i < L.length) : (L ++ M).getD i z0 = L.getD i z0 := by
  rw [List.getD_eq_getElem?_getD, List.getD_eq_getElem?_getD, List.getElem?_append_left h]
theorem getD_app2 {L : List ZQ} {q : ZQ} : (L ++ [q]).getD L.length z0 = q := by
  rw [List.getD_eq_getElem?_getD, List.getElem?_append_right (Nat.le_refl _), Nat.sub_self]
  rfl
theorem getD_mem {L : List ZQ} {i : Nat} (h : i < L.length) : L.getD i z0 ∈ L := by
  rw [List.getD_eq_getElem?_getD, List.getElem?_eq_getElem h, Option.getD_some]
  exact List.getElem_mem _
theorem rwF_app {f g : Nat → Int32} {L : List ZQ} {q : ZQ} (h : rwF f L) (hg : ∀ j, j < 4 * L.length → g j = f j) (h1 : g (4 * L.length) = qj q.1) (h2 : g (4 * L.length + 1) = qj q.2.1) (h3 : g (4 * L.length + 2) = qj q.2.2.1) (h4 : g (4 * L.length + 3) = qj q.2.2.2) : rwF g (L ++ [q]) := by
  intro i hi
  rw [List.length_append, List.length_singleton] at hi
  by_cases k : i < L.length
  · rw [getD_app1 k, hg _ (by omega), hg _ (by omega), hg _ (by omega), hg _ (by omega)]
    exact h i k
  · have : i = L.length := by omega
    subst this
    rw [getD_app2]
    exact ⟨h1, h2, h3, h4⟩
/-- the cell k is Rows, its rows are L -/
def xRw (σ : QMem) (k : Nat) (L : List ZQ) : Prop := σ k 1 = nI L.length ∧ 4 * L.length ≤ xl (k + 11) ∧ rwF (σ (k + 11)) L
theorem xRw_same {P : Nat → Prop} {σ τ : QMem} {k : Nat} {L : List ZQ} (h : xRw σ k L) (hs : qSame P σ τ) (h1 : ¬ P k) (h2 : ¬ P (k + 11)) : xRw τ k L := by
  unfold xRw
  rw [hs k h1, hs (k + 11) h2]
  exact h
theorem c_clear (k : Nat) (σ : QMem) : ∃ τ, fX7_clear k σ = some τ ∧ xRw τ k [] ∧ qSame (fun c => c = k) σ τ := by
  refine ⟨ms σ k 1 0, rfl, ⟨ms_same _ _ _ _, by simp, rwF_nil _⟩, fun c hc => ms_cell σ hc 1 0⟩
theorem c_size {σ : QMem} {k : Nat} {L : List ZQ} (h : xRw σ k L) : fX7_size k σ = some (nI L.length, σ) := by
  unfold fX7_size
  rw [h.1]
theorem c_append {σ : QMem} {k : Nat} {L : List ZQ} (h : xRw σ k L) (a b c d : Int) (hl : 4 * (L.length + 1) ≤ xl (k + 11)) : ∃ τ, fX7_append k (qj a) (qj b) (qj c) (qj d) σ = some τ ∧ xRw τ k (L ++ [(a, b, c, d)]) ∧ qSame (fun c => c = k ∨ c = k + 11) σ τ := by
  obtain ⟨h1, h2, h3⟩ := h
  have hx := xl_small (k + 11)
  unfold fX7_append
  have eo : Int32.ofNat (xl (k + 11)) = nI (xl (k + 11)) := rfl
  rw [h1, eo]
  simp (disch := omega) only [Option.bind_some, i32_lit, nI_add, nI_mulM, cI, nI_ltT, nI_ltF, nI_leT, nI_leF, nI_eqF, nat_leF, or_self, or_false, false_or, if_true, if_false, not_true, not_false, bI_n0]
  refine ⟨_, rfl, ⟨?_, ?_, ?_⟩, ?_⟩
  · rw [ms_same, List.length_append, List.length_singleton]
    have e : ∀ σ' : QMem, ms σ' (k + 11) (4 * L.length + 3) (qj d) k 1 = σ' k 1 := fun σ' => by rw [ms_cell _ (by omega)]
    rw [e, ms_cell _ (by omega), ms_cell _ (by omega), ms_cell _ (by omega), h1, nI_add]
  · rw [List.length_append, List.length_singleton]; exact hl
  · rw [ms_cell _ (by omega)]
    refine rwF_app (q := (a, b, c, d)) h3 (fun j hj => ?_) ?_ ?_ ?_ ?_
    · rw [ms_place _ _ (by omega), ms_place _ _ (by omega), ms_place _ _ (by omega), ms_place _ _ (by omega)]
    · rw [ms_place _ _ (by omega), ms_place _ _ (by omega), ms_place _ _ (by omega), ms_same]
    · rw [ms_place _ _ (by omega), ms_place _ _ (by omega), ms_same]
    · rw [ms_place _ _ (by omega), ms_same]
    · rw [ms_same]
  · intro z hz
    rw [ms_cell _ (by omega), ms_cell _ (by omega), ms_cell _ (by omega), ms_cell _ (by omega), ms_cell _ (by omega)]
theorem c_rpart {σ : QMem} {k : Nat} {L : List ZQ} (h : xRw σ k L) {i j : Nat} (hi : i < L.length) (hj : j < 4) : fX7_part k (nI i) (nI j) σ = some (σ (k + 11) (4 * i + j), σ) := by
  obtain ⟨h1, h2, h3⟩ := h
  have hx := xl_small (k + 11)
  have eo : Int32.ofNat (xl (k + 11)) = nI (xl (k + 11)) := rfl
  unfold fX7_part fX11_isPart
  rw [h1, eo]
  simp (disch := omega) only [Option.bind_some, i32_lit, nI_add, nI_mulM, cI, nI_ltT, nI_ltF, nI_leT, nI_leF, nI_eqF, nat_leF, or_self, or_false, false_or, if_true, if_false, not_true, not_false, bI_n0]
theorem c_putRow {σ : QMem} {k : Nat} {L : List ZQ} (h : xRw σ k L) (k1 : Nat) {i : Nat} (hi : i < L.length) : fX7_putRow k k1 (nI i) σ = some (qPut σ k1 (L.getD i z0)) := by
  have e0 : (0 : Int32) = nI 0 := rfl
  have e1 : (1 : Int32) = nI 1 := rfl
  have e2 : (2 : Int32) = nI 2 := rfl
  have e3 : (3 : Int32) = nI 3 := rfl
  unfold fX7_putRow
  rw [e0, c_rpart h hi (by decide), Option.bind_some]
  simp only
  rw [e1, c_rpart h hi (by decide), Option.bind_some]
  simp only
  rw [e2, c_rpart h hi (by decide), Option.bind_some]
  simp only
  rw [e3, c_rpart h hi (by decide), Option.bind_some]
  simp only
  obtain ⟨r1, r2, r3, r4⟩ := h.2.2 i hi
  have r0 : σ (k + 11) (4 * i + 0) = qj (L.getD i z0).1 := r1
  rw [r0, r2, r3, r4, c_put]
  rfl
/-! Heads -/
theorem c_mate {σ : QMem} {k2 : Nat} {q : ZQ} (s : Int32) (k1 : Nat) {u : Nat} (hu : u < 24) (h2 : ¬ k2 = 45) (hq : qAt σ k2 q) (lq : zL q) (sq : zS q) : fX2_putMate k1 k2 s (nI u) σ = some (qPut (qPut σ 45 (zU u)) k1 (zK s q (zU u))) := by
  have su : zS (zU u) := by unfold zS; rw [zU_N4 hu]; decide
  unfold fX2_putMate
  rw [c_unit hu, Option.bind_some, c_made k1 s (qAt_ne h2 hq) (qPut_at _ _ _) lq (zU_L hu) sq su]
  rfl
theorem zUl_drop {i : Nat} (h : i < 24) : zUl.drop i = zU i :: zUl.drop (i + 1) := by
  rw [List.drop_eq_getElem_cons (by rw [zUl_len]; exact h)]
  congr 1
  unfold zU
  rw [List.getD_eq_getElem?_getD, List.getElem?_eq_getElem (by rw [zUl_len]; exact h), Option.getD_some]
theorem zS_mate {s : Int32} {q : ZQ} (lq : zL q) (sq : zS q) {u : ZQ} (hu : u ∈ zUl) : zS (zK s q u) := by
  unfold zS at *
  rw [zN4_four (zK_L lq (zUl_L hu)), zK_N lq (zUl_L hu), zUl_N hu, Int.mul_one, ← zN4_four lq]
  exact sq
theorem c_head_loop {k1 k2 : Nat} (s : Int32) {q : ZQ} (hk1 : ¬ k1 = 45 ∧ ¬ k1 = 46) (hk2 : ¬ k2 = 45 ∧ ¬ k2 = 46) (h12 : ¬ k1 = k2) (lq : zL q) (sq : zS q) : ∀ (m i n : Nat) (σ : QMem) (b : ZQ), i + m = 24 → m < n → qAt σ k2 q → qAt σ k1 b → zS b →
    ∃ τ, fX2_putHead_L8 k1 k2 s n (nI i) σ = some τ ∧ qAt τ k1 ((zUl.drop i).foldl (zHs s q) b) ∧ qSame (fun c => c = 45 ∨ c = 46 ∨ c = k1) σ τ := by
  intro m
  induction m with
  | zero =>
    intro i n σ b hi hn hq hb sb
    obtain ⟨n, rfl⟩ : ∃ m, n = m + 1 := ⟨n - 1, by omega⟩
    have : i = 24 := by omega
    subst this
    unfold fX2_putHead_L8
    simp (disch := omega) only [Option.bind_some, i32_lit, nI_add, nI_mulM, cI, nI_ltT, nI_ltF, nI_leT, nI_leF, nI_eqF, nat_leF, or_self, or_false, false_or, if_true, if_false, not_true, not_false, bI_n0]
    exact ⟨σ, rfl, hb, qSame.refl _ _⟩
  | succ m ih =>
    intro i n σ b hi hn hq hb sb
    obtain ⟨n, rfl⟩ : ∃ m, n = m + 1 := ⟨n - 1, by omega⟩
    have hi24 : i < 24 := by omega
    have sm := zS_mate (s := s) lq sq (zU_mem hi24)
    unfold fX2_putHead_L8
    simp (disch := omega) only [Option.bind_some, i32_lit, nI_add, nI_mulM, cI, nI_ltT, nI_ltF, nI_leT, nI_leF, nI_eqF, nat_leF, or_self, or_false, false_or, if_true, if_false, not_true, not_false, bI_n0, c_mate s 46 hi24 (show ¬ k2 = 45 by omega) hq lq sq]
    generalize hρ : qPut (qPut σ 45 (zU i)) 46 (zK s q (zU i)) = ρ
    have r1 : qAt ρ 46 (zK s q (zU i)) := by rw [← hρ]; exact qPut_at _ _ _
    have r2 : qAt ρ k1 b := by rw [← hρ]; exact qAt_ne (by omega) (qAt_ne (by omega) hb)
    have r3 : qAt ρ k2 q := by rw [← hρ]; exact qAt_ne (by omega) (qAt_ne (by omega) hq)
    have rs : qSame (fun c => c = 45 ∨ c = 46 ∨ c = k1) σ ρ := by
      rw [← hρ]
      exact (qPut_sm (P := fun c => c = 45 ∨ c = 46 ∨ c = k1) (k := 45) _ (Or.inl rfl)).trans (qPut_sm (k := 46) _ (Or.inr (Or.inl rfl)))
    rw [c_gt r1 r2 sm sb, Option.bind_some]
    simp only [bI_n0]
    rw [zUl_drop hi24, List.foldl_cons]
    by_cases hg : zGb (zK s q (zU i)) b = true
    · have e : zHs s q b (zU i) = zK s q (zU i) := by unfold zHs; rw [if_pos hg]
      rw [e, hg, if_neg (by decide), c_copy k1 r1, Option.bind_some]
      unfold fX2_putHead_J46
      obtain ⟨τ, t1, t2, t3⟩ := ih (i + 1) n (qPut ρ k1 (zK s q (zU i))) (zK s q (zU i)) (by omega) (by omega) (qAt_ne (by omega) r3) (qPut_at _ _ _) sm
      refine ⟨τ, ?_, t2, rs.trans ((qPut_sm (k := k1) _ (Or.inr (Or.inr rfl))).trans t3)⟩
      simp only [i32_lit, nI_add]
      exact t1
    · have hg' : zGb (zK s q (zU i)) b = false := by cases h : zGb (zK s q (zU i)) b; rfl; exact absurd h hg
      have e : zHs s q b (zU i) = b := by unfold zHs; rw [if_neg hg]
      rw [e, hg', if_pos rfl]
      unfold fX2_putHead_J46
      obtain ⟨τ, t1, t2, t3⟩ := ih (i + 1) n ρ b (by omega) (by omega) r3 r2 sb
      refine ⟨τ, ?_, t2, rs.trans t3⟩
      simp only [i32_lit, nI_add]
      exact t1
theorem zHead_tail {s : Int32} {q : ZQ} (lq : zL q) : (zUl.drop 1).foldl (zHs s q) q = zHead s q := by
  unfold zHead
  have e : zUl = z1 :: zUl.drop 1 := rfl
  have e2 : zHs s q q z1 = q := by
    unfold zHs
    rw [zK_one lq]
    split <;> rfl
  rw [e, List.foldl_cons, e2]
  rfl
theorem c_head {σ : QMem} {k1 k2 : Nat} (s : Int32) {q : ZQ} (hk1 : ¬ k1 = 45 ∧ ¬ k1 = 46) (hk2 : ¬ k2 = 45 ∧ ¬ k2 = 46) (h12 : ¬ k1 = k2) (hq : qAt σ k2 q) (lq : zL q) (sq : zS q) :
    ∃ τ, fX2_putHead k1 k2 s σ = some τ ∧ qAt τ k1 (zHead s q) ∧ qSame (fun c => c = 45 ∨ c = 46 ∨ c = k1) σ τ := by
  unfold fX2_putHead
  rw [c_copy k1 hq, Option.bind_some]
  obtain ⟨τ, t1, t2, t3⟩ := c_head_loop s hk1 hk2 h12 lq sq 23 1 FU (qPut σ k1 q) q rfl (by unfold FU; omega) (qAt_ne (by omega) hq) (qPut_at _ _ _) sq
  rw [zHead_tail lq] at t2
  exact ⟨τ, t1, t2, (qPut_sm (k := k1) _ (Or.inr (Or.inr rfl))).trans t3⟩
theorem c_isHead_loop (s : Int32) {q : ZQ} (lq : zL q) (sq : zS q) : ∀ (m i n : Nat) (σ : QMem), i + m = 24 → m < n → qAt σ 44 q →
    ∃ τ, fX2_isHead_L2 s n (nI i) σ = some (bI ((zUl.drop i).all fun u => !zGb (zK s q u) q), τ) ∧ qSame (fun c => c = 45 ∨ c = 46) σ τ := by
  intro m
  induction m with
  | zero =>
    intro i n σ hi hn hq
    obtain ⟨n, rfl⟩ : ∃ m, n = m + 1 := ⟨n - 1, by omega⟩
    have : i = 24 := by omega
    subst this
    unfold fX2_isHead_L2
    simp (disch := omega) only [Option.bind_some, i32_lit, nI_add, nI_mulM, cI, nI_ltT, nI_ltF, nI_leT, nI_leF, nI_eqF, nat_leF, or_self, or_false, false_or, if_true, if_false, not_true, not_false, bI_n0]
    exact ⟨σ, rfl, qSame.refl _ _⟩
  | succ m ih =>
    intro i n σ hi hn hq
    obtain ⟨n, rfl⟩ : ∃ m, n = m + 1 := ⟨n - 1, by omega⟩
    have hi24 : i < 24 := by omega
    have sm := zS_mate (s := s) lq sq (zU_mem hi24)
    have su : zS (zU i) := by unfold zS; rw [zU_N4 hi24]; decide
    unfold fX2_isHead_L2
    simp (disch := omega) only [Option.bind_some, i32_lit, nI_add, nI_mulM, cI, nI_ltT, nI_ltF, nI_leT, nI_leF, nI_eqF, nat_leF, or_self, or_false, false_or, if_true, if_false, not_true, not_false, bI_n0, c_unit hi24]
    rw [c_made 46 s (qAt_ne (k := 44) (k2 := 45) (by decide) hq) (qPut_at _ _ _) lq (zU_L hi24) sq su, Option.bind_some, c_gt (qPut_at _ 46 _) (qAt_ne (k := 44) (k2 := 46) (by decide) (qAt_ne (k := 44) (k2 := 45) (by decide) hq)) sm sq, Option.bind_some]
    simp only [bI_n0]
    rw [zUl_drop hi24, List.all_cons]
    have fr : qSame (fun c => c = 45 ∨ c = 46) σ (qPut (qPut σ 45 (zU i)) 46 (zK s q (zU i))) := (qPut_sm (P := fun c => c = 45 ∨ c = 46) (k := 45) _ (Or.inl rfl)).trans (qPut_sm (k := 46) _ (Or.inr rfl))
    cases hg : zGb (zK s q (zU i)) q
    · rw [if_pos rfl]
      obtain ⟨τ, t1, t2⟩ := ih (i + 1) n (qPut (qPut σ 45 (zU i)) 46 (zK s q (zU i))) (by omega) (by omega) (qAt_ne (by decide) (qAt_ne (by decide) hq))
      exact ⟨τ, t1, fr.trans t2⟩
    · rw [if_neg (by decide)]
      exact ⟨_, rfl, fr⟩
theorem c_isHead {σ : QMem} (s : Int32) {q : ZQ} (hq : qAt σ 44 q) (lq : zL q) (sq : zS q) : ∃ τ, fX2_isHead s σ = some (bI (zHb s q), τ) ∧ qSame (fun c => c = 45 ∨ c = 46) σ τ := by
  obtain ⟨τ, t1, t2⟩ := c_isHead_loop s lq sq 23 1 FU σ rfl (by unfold FU; omega) hq
  refine ⟨τ, ?_, t2⟩
  unfold fX2_isHead
  have e : zHb s q = (zUl.drop 1).all fun u => !zGb (zK s q u) q := by
    unfold zHb
    have e : zUl = z1 :: zUl.drop 1 := rfl
    rw [e, List.all_cons, zK_one lq, (zGb_not _ _).mpr (zGt_irr q)]
    rfl
  rw [e]
  exact t1
/-- the roots' row -/
def xRt (σ : QMem) : Prop := ∀ j, j < 601 → σ 85 j = nI (zSq j)
theorem zSq_le {n : Nat} (h : n < 601) : zSq n ≤ 24 := by
  have := (zSq_spec n).1
  apply Classical.byContradiction
  intro c
  have : 25 * 25 ≤ zSq n * zSq n := Nat.mul_self_le_mul_self (by omega)
  omega
theorem c_root {σ : QMem} (h : xRt σ) {r a : Int} (hr : -2000 ≤ r ∧ r ≤ 2000) (ha : -2000 ≤ a ∧ a ≤ 2000) : fX2_likeRoot (qj r) (qj a) σ = some (qj (zLr r a), σ) := by
  unfold fX2_likeRoot zLr
  by_cases h0 : r < 0
  · have c : qj r < 0 := by rw [← qj_0, qj_lt (qR_of (by omega) (by omega)) (qR_of (by decide) (by decide))]; exact h0
    rw [if_pos c, if_pos h0]
    rfl
  · have c : ¬ qj r < 0 := by rw [← qj_0, qj_lt (qR_of (by omega) (by omega)) (qR_of (by decide) (by decide))]; exact h0
    have e : Int32.ofNat (xl 85) = qj 601 := rfl
    rw [if_neg c, if_neg h0, e]
    by_cases h1 : r < 601
    · have c2 : qj r < qj 601 := by rw [qj_lt (qR_of (by omega) (by omega)) (qR_of (by decide) (by decide))]; exact h1
      have en : qj r = nI r.toNat := by rw [qj_nat]; congr 1; omega
      have ex : xl 85 = 601 := rfl
      rw [if_pos c2, if_pos h1, zSf_ok (by omega), en, ex]
      have hh := h r.toNat (by omega)
      have hq : nI (zSq r.toNat) = qj (zSq r.toNat : Int) := qj_nat _
      have z : nI r.toNat < 0 ↔ False := ⟨fun q => by rw [show (0 : Int32) = nI 0 from rfl, nI_ltF (by omega) (by omega)] at q; exact q, False.elim⟩
      simp (disch := omega) only [z, cI, nat_leF, false_or, if_false]
      rw [hh, hq]
      have hm : qj (zSq r.toNat : Int) - 1 = qj ((zSq r.toNat : Int) - 1) := qj_sub _ 1
      rw [hm]
      simp only [qj_xor1]
      split <;> rfl
    · have c2 : ¬ qj r < qj 601 := by rw [qj_lt (qR_of (by omega) (by omega)) (qR_of (by decide) (by decide))]; exact h1
      rw [if_neg c2, if_neg h1]
      rfl
theorem zLr_bd (r a : Int) : -1 ≤ zLr r a ∧ zLr r a ≤ 24 := by
  unfold zLr
  by_cases h0 : r < 0
  · rw [if_pos h0]; decide
  · rw [if_neg h0]
    by_cases h1 : r < 601
    · rw [if_pos h1, zSf_ok (by omega)]
      have := zSq_le (n := r.toNat) (by omega)
      split <;> omega
    · rw [if_neg h1]; decide
