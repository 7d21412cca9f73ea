/-! THE RELATION of the desk's memory σ and the reference's memory μ -/
def RSl (σ μ : QMem) (S : Nat → ZQ) : Prop := ∀ s, s < 6 → qV (S s) ∧ qAt σ s (S s) ∧ mAt μ 13 (4 * s) (S s)
/-- what can be undone: c calls, the oldest at place b of the ring; the slots ahead of call i: T i -/
def RPa (σ μ : QMem) (S : Nat → ZQ) : Prop := ∃ (c b : Nat) (T : Nat → Nat → ZQ), c ≤ 8 ∧ b < 8 ∧ σ 108 3 = nI c ∧ σ 108 2 = nI b ∧ μ 28 15 = nI c ∧ (∀ s, s < 6 → T c s = S s) ∧
  ∀ i, i < c → (∀ s, s < 6 → qV (T i s) ∧ mAt μ 14 (24 * i + 4 * s) (T i s)) ∧ ∃ p, p < 6 ∧ σ 82 ((b + i) % 8) = nI p ∧ qAt σ (18 + (b + i) % 8) (T i p) ∧ ∀ s, s < 6 → ¬ s = p → T i s = T (i + 1) s
def RK (σ μ : QMem) : Prop := ∀ k, k < 2 → (σ (98 + k) 1 = 0 ∧ μ 15 k = 0) ∨ (σ (98 + k) 1 = 1 ∧ μ 15 k = 1 ∧ ∃ K : Nat → ZQ, ∀ s, s < 6 → qV (K s) ∧ qAt σ (6 + 6 * k + s) (K s) ∧ mAt μ 16 (24 * k + 4 * s) (K s))
def RT (σ μ : QMem) : Prop := ∃ n, n ≤ 200 ∧ σ 109 2 = nI n ∧ μ 28 26 = nI n ∧ ∀ i, i < n → σ 83 i = μ 23 i ∧ ∃ t, t < 256 ∧ μ 23 i = nI t
def RTa (σ μ : QMem) : Prop := ∀ t, t < 3 → ((σ (95 + t) 2 = 0 ∧ σ (95 + t) 1 = 0 ∧ μ 26 t = -1) ∨ ∃ n, n ≤ 6 ∧ σ (95 + t) 2 = 1 ∧ σ (95 + t) 1 = nI n ∧ μ 26 t = nI n) ∧ ∀ i, i < 6 → σ (79 + t) i = μ 27 (6 * t + i)
def RN (σ μ : QMem) : Prop := σ 105 12 = μ 28 33
def RB (σ μ : QMem) : Prop := mUn μ ∧ mRt μ ∧ xRt σ
def RRS (σ μ : QMem) (S : Nat → ZQ) : Prop := RSl σ μ S ∧ RPa σ μ S ∧ RK σ μ ∧ RT σ μ ∧ RTa σ μ ∧ RN σ μ ∧ RB σ μ
def RR (σ μ : QMem) : Prop := ∃ S, RRS σ μ S
/-! the cells that matter -/
def eX (k : Nat) : Prop := k < 26 ∨ (79 ≤ k ∧ k ≤ 83) ∨ k = 85 ∨ (95 ≤ k ∧ k ≤ 99) ∨ k = 105 ∨ k = 108
def eM (k : Nat) : Prop := k = 0 ∨ k = 1 ∨ (13 ≤ k ∧ k ≤ 16) ∨ k = 23 ∨ k = 26 ∨ k = 27
def sX (σ τ : QMem) : Prop := (∀ k, eX k → τ k = σ k) ∧ τ 109 2 = σ 109 2
def sM (σ τ : QMem) : Prop := (∀ k, eM k → τ k = σ k) ∧ τ 28 15 = σ 28 15 ∧ τ 28 26 = σ 28 26 ∧ τ 28 33 = σ 28 33
theorem sX.refl (σ : QMem) : sX σ σ := ⟨fun _ _ => rfl, rfl⟩
theorem sM.refl (σ : QMem) : sM σ σ := ⟨fun _ _ => rfl, rfl, rfl, rfl⟩
theorem sX.trans {σ τ ρ : QMem} (h1 : sX σ τ) (h2 : sX τ ρ) : sX σ ρ := ⟨fun k h => (h2.1 k h).trans (h1.1 k h), h2.2.trans h1.2⟩
theorem sM.trans {σ τ ρ : QMem} (h1 : sM σ τ) (h2 : sM τ ρ) : sM σ ρ := ⟨fun k h => (h2.1 k h).trans (h1.1 k h), h2.2.1.trans h1.2.1, h2.2.2.1.trans h1.2.2.1, h2.2.2.2.trans h1.2.2.2⟩
theorem qSame.sX {P : Nat → Prop} {σ τ : QMem} (h : qSame P σ τ) (hP : ∀ k, P k → ¬ eX k ∧ ¬ k = 109) : sX σ τ := ⟨fun k hk => h k (fun q => (hP k q).1 hk), by rw [h 109 (fun q => (hP 109 q).2 rfl)]⟩
theorem fr.sM {P : Nat → Prop} {μ ν : QMem} (h : fr P μ ν) (hP : ∀ k, P k → ¬ eM k ∧ ¬ k = 28) : sM μ ν := ⟨fun k hk => h.1 k (fun q => (hP k q).1 hk) (fun e => by unfold eM at hk; omega), h.2 15 (by decide), h.2 26 (by decide), h.2 33 (by decide)⟩
theorem fq.sM {P : Nat → Prop} {μ ν : QMem} (h : fq P μ ν) (hP : ∀ k, P k → ¬ eM k ∧ ¬ k = 28) : sM μ ν := (h.fr (fun q => (hP 28 q).2 rfl)).sM hP
theorem sX_put {σ : QMem} {k : Nat} (q : ZQ) (h : ¬ eX k) (h2 : ¬ k = 109) : sX σ (qPut σ k q) := (qPut_same σ k q).sX (fun c hc => by subst hc; exact ⟨h, h2⟩)
theorem sM_put {μ : QMem} {k : Nat} (o : Nat) (q : ZQ) (h : ¬ eM k) (h2 : ¬ k = 28) : sM μ (mPut μ k o q) := fq.sM (P := fun c => c = k) (fq_put o q rfl) (fun c hc => by subst hc; exact ⟨h, h2⟩)
theorem qAt_sX {σ τ : QMem} (h : sX σ τ) {k : Nat} (hk : k < 26) (q : ZQ) : qAt τ k q ↔ qAt σ k q := by unfold qAt; rw [h.1 k (Or.inl hk)]
theorem mAt_sM {σ τ : QMem} (h : sM σ τ) {k : Nat} (hk : eM k) (o : Nat) (q : ZQ) : mAt τ k o q ↔ mAt σ k o q := by unfold mAt; rw [h.1 k hk]
theorem RRS_keep {σ τ μ ν : QMem} {S : Nat → ZQ} (h : RRS σ μ S) (hX : sX σ τ) (hM : sM μ ν) : RRS τ ν S := by
  obtain ⟨h1, h2, h3, h4, h5, h6, h7⟩ := h
  have x82 := hX.1 82 (by unfold eX; omega)
  have x83 := hX.1 83 (by unfold eX; omega)
  have x85 := hX.1 85 (by unfold eX; omega)
  have x105 := hX.1 105 (by unfold eX; omega)
  have x108 := hX.1 108 (by unfold eX; omega)
  have m0 := hM.1 0 (by unfold eM; omega)
  have m1 := hM.1 1 (by unfold eM; omega)
  have m15 := hM.1 15 (by unfold eM; omega)
  have m23 := hM.1 23 (by unfold eM; omega)
  have m26 := hM.1 26 (by unfold eM; omega)
  have m27 := hM.1 27 (by unfold eM; omega)
  refine ⟨?_, ?_, ?_, ?_, ?_, ?_, ?_⟩
  · intro s hs
    obtain ⟨a1, a2, a3⟩ := h1 s hs
    exact ⟨a1, (qAt_sX hX (by omega) _).mpr a2, (mAt_sM hM (by unfold eM; omega) _ _).mpr a3⟩
  · obtain ⟨c, b, T, a1, a2, a3, a4, a5, a6, a7⟩ := h2
    refine ⟨c, b, T, a1, a2, by rw [x108]; exact a3, by rw [x108]; exact a4, by rw [hM.2.1]; exact a5, a6, fun i hi => ?_⟩
    obtain ⟨b1, p, b2, b3, b4, b5⟩ := a7 i hi
    refine ⟨fun s hs => ⟨(b1 s hs).1, (mAt_sM hM (by unfold eM; omega) _ _).mpr (b1 s hs).2⟩, p, b2, by rw [x82]; exact b3, (qAt_sX hX (by omega) _).mpr b4, b5⟩
  · intro k hk
    have xk := hX.1 (98 + k) (by unfold eX; omega)
    rcases h3 k hk with ⟨a1, a2⟩ | ⟨a1, a2, K, a3⟩
    · exact Or.inl ⟨by rw [xk]; exact a1, by rw [m15]; exact a2⟩
    · exact Or.inr ⟨by rw [xk]; exact a1, by rw [m15]; exact a2, K, fun s hs => ⟨(a3 s hs).1, (qAt_sX hX (by omega) _).mpr (a3 s hs).2.1, (mAt_sM hM (by unfold eM; omega) _ _).mpr (a3 s hs).2.2⟩⟩
  · obtain ⟨n, a1, a2, a3, a4⟩ := h4
    exact ⟨n, a1, by rw [hX.2]; exact a2, by rw [hM.2.2.1]; exact a3, fun i hi => by rw [x83, m23]; exact a4 i hi⟩
  · intro t ht
    have xt := hX.1 (95 + t) (by unfold eX; omega)
    have xp := hX.1 (79 + t) (by unfold eX; omega)
    rw [xt, xp, m26, m27]
    exact h5 t ht
  · unfold RN; rw [x105, hM.2.2.2]; exact h6
  · unfold RB mUn mRt xRt; rw [m0, m1, x85]; exact h7
theorem RR_keep {σ τ μ ν : QMem} (h : RR σ μ) (hX : sX σ τ) (hM : sM μ ν) : RR τ ν := by
  obtain ⟨S, h⟩ := h
  exact ⟨S, RRS_keep h hX hM⟩
/-- alike, and nothing changes -/
theorem ag_same {σ μ : QMem} (h : RR σ μ) (c : Int32) : ∃ (r : Int32) (σ2 μ2 : QMem), some (c, σ) = some (r, σ2) ∧ some (c, μ) = some (r, μ2) ∧ RR σ2 μ2 := ⟨c, σ, μ, rfl, rfl, h⟩
theorem ag_of {σ τ μ ν : QMem} (h : RR σ μ) (c : Int32) (hX : sX σ τ) (hM : sM μ ν) : ∃ (r : Int32) (σ2 μ2 : QMem), some (c, τ) = some (r, σ2) ∧ some (c, ν) = some (r, μ2) ∧ RR σ2 μ2 := ⟨c, τ, ν, rfl, rfl, RR_keep h hX hM⟩
/-! guards: an int against bounds -/
theorem i_neg {p : Int32} : p < 0 ↔ p.toInt < 0 := by rw [Int32.lt_iff_toInt_lt]; rfl
theorem pLtT {p : Int32} {k : Nat} (h : p.toInt < k) (hk : k < 2147483648) : (p < nI k) = True := eq_true (by rw [Int32.lt_iff_toInt_lt, nI_toInt hk]; exact h)
theorem pLtF {p : Int32} {k : Nat} (h : (k : Int) ≤ p.toInt) (hk : k < 2147483648) : (p < nI k) = False := eq_false (by rw [Int32.lt_iff_toInt_lt, nI_toInt hk]; omega)
theorem pLeT {p : Int32} {k : Nat} (h : p.toInt ≤ k) (hk : k < 2147483648) : (p ≤ nI k) = True := eq_true (by rw [Int32.le_iff_toInt_le, nI_toInt hk]; exact h)
theorem pLeF {p : Int32} {k : Nat} (h : (k : Int) < p.toInt) (hk : k < 2147483648) : (p ≤ nI k) = False := eq_false (by rw [Int32.le_iff_toInt_le, nI_toInt hk]; omega)
theorem nLtT {p : Int32} {k : Nat} (h : (k : Int) < p.toInt) (hk : k < 2147483648) : (nI k < p) = True := eq_true (by rw [Int32.lt_iff_toInt_lt, nI_toInt hk]; exact h)
theorem nLtF {p : Int32} {k : Nat} (h : p.toInt ≤ k) (hk : k < 2147483648) : (nI k < p) = False := eq_false (by rw [Int32.lt_iff_toInt_lt, nI_toInt hk]; omega)
theorem nLeT {p : Int32} {k : Nat} (h : (k : Int) ≤ p.toInt) (hk : k < 2147483648) : (nI k ≤ p) = True := eq_true (by rw [Int32.le_iff_toInt_le, nI_toInt hk]; exact h)
theorem nLeF {p : Int32} {k : Nat} (h : p.toInt < k) (hk : k < 2147483648) : (nI k ≤ p) = False := eq_false (by rw [Int32.le_iff_toInt_le, nI_toInt hk]; omega)
theorem pEqF {p : Int32} {k : Nat} (h : ¬ p.toInt = k) (hk : k < 2147483648) : (p = nI k) = False := eq_false (fun q => h (by rw [q, nI_toInt hk]))
/-- an int is one of 0 .. n - 1, or not -/
theorem p_cases (p : Int32) (n : Nat) (hn : n < 2147483648) : (p.toInt < 0 ∨ (n : Int) ≤ p.toInt) ∨ ∃ j, j < n ∧ p = nI j := by
  by_cases h : p.toInt < 0 ∨ (n : Int) ≤ p.toInt
  · exact Or.inl h
  · right
    refine ⟨p.toInt.toNat, by omega, ?_⟩
    rw [← Int32.toInt_inj, nI_toInt (by omega)]
    omega
theorem slot_cases (p : Int32) : (fX11_isSlot p = some 0 ∧ fX12_isSlot p = some 0) ∨ ∃ s, s < 6 ∧ p = nI s ∧ fX11_isSlot p = some 1 ∧ fX12_isSlot p = some 1 := by
  unfold fX11_isSlot fX12_isSlot fX12_in
  rcases p_cases p 6 (by decide) with h | ⟨j, hj, rfl⟩
  · left
    rcases h with h | h
    · constructor <;> simp (disch := omega) only [Option.bind_some, i32_lit2, nI_add, nI_mulM, cI, nI_ltT, nI_ltF, nI_leT, nI_leF, nI_eqF, nat_leF, or_self, or_false, false_or, if_true, if_false, not_true, not_false, bI_n0, bI_n1, b_em, eq_self, pLtT, pLtF, pLeT, pLeF, nLtT, nLtF, nLeT, nLeF, pEqF]
    · constructor <;> simp (disch := omega) only [Option.bind_some, i32_lit2, nI_add, nI_mulM, cI, nI_ltT, nI_ltF, nI_leT, nI_leF, nI_eqF, nat_leF, or_self, or_false, false_or, if_true, if_false, not_true, not_false, bI_n0, bI_n1, b_em, eq_self, pLtT, pLtF, pLeT, pLeF, nLtT, nLtF, nLeT, nLeF, pEqF]
  · right
    refine ⟨j, hj, rfl, ?_, ?_⟩ <;> simp (disch := omega) only [Option.bind_some, i32_lit2, nI_add, nI_mulM, cI, nI_ltT, nI_ltF, nI_leT, nI_leF, nI_eqF, nat_leF, or_self, or_false, false_or, if_true, if_false, not_true, not_false, bI_n0, bI_n1, b_em, eq_self, pLtT, pLtF, pLeT, pLeF, nLtT, nLtF, nLeT, nLeF, pEqF]
theorem side_cases (p : Int32) : (fX11_isSide p = some 0 ∧ fX12_isSide p = some 0) ∨ ((p = 0 ∨ p = 1) ∧ fX11_isSide p = some 1 ∧ fX12_isSide p = some 1) := by
  unfold fX11_isSide fX11_isSide_J9 fX12_isSide fX12_in
  rcases p_cases p 2 (by decide) with h | ⟨j, hj, rfl⟩
  · left
    rcases h with h | h
    · constructor <;> simp (disch := omega) only [Option.bind_some, i32_lit2, nI_add, nI_mulM, cI, nI_ltT, nI_ltF, nI_leT, nI_leF, nI_eqF, nat_leF, or_self, or_false, false_or, if_true, if_false, not_true, not_false, bI_n0, bI_n1, b_em, eq_self, pLtT, pLtF, pLeT, pLeF, nLtT, nLtF, nLeT, nLeF, pEqF]
    · constructor <;> simp (disch := omega) only [Option.bind_some, i32_lit2, nI_add, nI_mulM, cI, nI_ltT, nI_ltF, nI_leT, nI_leF, nI_eqF, nat_leF, or_self, or_false, false_or, if_true, if_false, not_true, not_false, bI_n0, bI_n1, b_em, eq_self, pLtT, pLtF, pLeT, pLeF, nLtT, nLtF, nLeT, nLeF, pEqF]
  · right
    have : j = 0 ∨ j = 1 := by omega
    rcases this with rfl | rfl
    · exact ⟨Or.inl rfl, by decide, by decide⟩
    · exact ⟨Or.inr rfl, by decide, by decide⟩
theorem part_cases (p : Int32) : (fX11_isPart p = some 0 ∧ fX12_in p 0 3 = some 0) ∨ ∃ j, j < 4 ∧ p = nI j ∧ fX11_isPart p = some 1 ∧ fX12_in p 0 3 = some 1 := by
  unfold fX11_isPart fX12_in
  rcases p_cases p 4 (by decide) with h | ⟨j, hj, rfl⟩
  · left
    rcases h with h | h
    · constructor <;> simp (disch := omega) only [Option.bind_some, i32_lit2, nI_add, nI_mulM, cI, nI_ltT, nI_ltF, nI_leT, nI_leF, nI_eqF, nat_leF, or_self, or_false, false_or, if_true, if_false, not_true, not_false, bI_n0, bI_n1, b_em, eq_self, pLtT, pLtF, pLeT, pLeF, nLtT, nLtF, nLeT, nLeF, pEqF]
    · constructor <;> simp (disch := omega) only [Option.bind_some, i32_lit2, nI_add, nI_mulM, cI, nI_ltT, nI_ltF, nI_leT, nI_leF, nI_eqF, nat_leF, or_self, or_false, false_or, if_true, if_false, not_true, not_false, bI_n0, bI_n1, b_em, eq_self, pLtT, pLtF, pLeT, pLeF, nLtT, nLtF, nLeT, nLeF, pEqF]
  · right
    refine ⟨j, hj, rfl, ?_, ?_⟩ <;> simp (disch := omega) only [Option.bind_some, i32_lit2, nI_add, nI_mulM, cI, nI_ltT, nI_ltF, nI_leT, nI_leF, nI_eqF, nat_leF, or_self, or_false, false_or, if_true, if_false, not_true, not_false, bI_n0, bI_n1, b_em, eq_self, pLtT, pLtF, pLeT, pLeF, nLtT, nLtF, nLeT, nLeF, pEqF]
theorem unit_cases (p : Int32) : (fX11_isUnit p = some 0 ∧ fX12_in p 0 23 = some 0) ∨ ∃ j, j < 24 ∧ p = nI j ∧ fX11_isUnit p = some 1 ∧ fX12_in p 0 23 = some 1 := by
  unfold fX11_isUnit fX12_in
  rcases p_cases p 24 (by decide) with h | ⟨j, hj, rfl⟩
  · left
    rcases h with h | h
    · constructor <;> simp (disch := omega) only [Option.bind_some, i32_lit2, nI_add, nI_mulM, cI, nI_ltT, nI_ltF, nI_leT, nI_leF, nI_eqF, nat_leF, or_self, or_false, false_or, if_true, if_false, not_true, not_false, bI_n0, bI_n1, b_em, eq_self, pLtT, pLtF, pLeT, pLeF, nLtT, nLtF, nLeT, nLeF, pEqF]
    · constructor <;> simp (disch := omega) only [Option.bind_some, i32_lit2, nI_add, nI_mulM, cI, nI_ltT, nI_ltF, nI_leT, nI_leF, nI_eqF, nat_leF, or_self, or_false, false_or, if_true, if_false, not_true, not_false, bI_n0, bI_n1, b_em, eq_self, pLtT, pLtF, pLeT, pLeF, nLtT, nLtF, nLeT, nLeF, pEqF]
  · right
    refine ⟨j, hj, rfl, ?_, ?_⟩ <;> simp (disch := omega) only [Option.bind_some, i32_lit2, nI_add, nI_mulM, cI, nI_ltT, nI_ltF, nI_leT, nI_leF, nI_eqF, nat_leF, or_self, or_false, false_or, if_true, if_false, not_true, not_false, bI_n0, bI_n1, b_em, eq_self, pLtT, pLtF, pLeT, pLeF, nLtT, nLtF, nLeT, nLeF, pEqF]
theorem tally_cases (p : Int32) : (fX11_isTally p = some 0 ∧ fX12_isTally p = some 0) ∨ ∃ s, s < 3 ∧ p = nI s ∧ fX11_isTally p = some 1 ∧ fX12_isTally p = some 1 := by
  unfold fX11_isTally fX12_isTally fX12_in
  rcases p_cases p 3 (by decide) with h | ⟨j, hj, rfl⟩
  · left
    rcases h with h | h
    · constructor <;> simp (disch := omega) only [Option.bind_some, i32_lit2, nI_add, nI_mulM, cI, nI_ltT, nI_ltF, nI_leT, nI_leF, nI_eqF, nat_leF, or_self, or_false, false_or, if_true, if_false, not_true, not_false, bI_n0, bI_n1, b_em, eq_self, pLtT, pLtF, pLeT, pLeF, nLtT, nLtF, nLeT, nLeF, pEqF]
    · constructor <;> simp (disch := omega) only [Option.bind_some, i32_lit2, nI_add, nI_mulM, cI, nI_ltT, nI_ltF, nI_leT, nI_leF, nI_eqF, nat_leF, or_self, or_false, false_or, if_true, if_false, not_true, not_false, bI_n0, bI_n1, b_em, eq_self, pLtT, pLtF, pLeT, pLeF, nLtT, nLtF, nLeT, nLeF, pEqF]
  · right
    refine ⟨j, hj, rfl, ?_, ?_⟩ <;> simp (disch := omega) only [Option.bind_some, i32_lit2, nI_add, nI_mulM, cI, nI_ltT, nI_ltF, nI_leT, nI_leF, nI_eqF, nat_leF, or_self, or_false, false_or, if_true, if_false, not_true, not_false, bI_n0, bI_n1, b_em, eq_self, pLtT, pLtF, pLeT, pLeF, nLtT, nLtF, nLeT, nLeF, pEqF]
/-! a slot becomes another quaternion -/
theorem qfm8 {a : Nat} (h : a < 1000) : qfm (nI a) 8 = nI (a % 8) := by
  have e0 : (0 ≤ nI a ^^^ (8 : Int32)) = True := by
    have e := xor_nn (a := (a : Int)) (b := 8) (qR_of (by omega) (by omega)) (by decide) (qR_of (by decide) (by decide))
    rw [← qj_nat, show qj 8 = 8 from rfl] at e
    rw [e]
    exact eq_true (by omega)
  unfold qfm
  rw [if_pos (of_eq_true e0), qj_nat]
  show qj (a : Int) - qj (a : Int) / qj 8 * qj 8 = _
  rw [qj_div (qR_of (by omega) (by omega)) (qR_of (by decide) (by decide)) (by decide), qj_mul, qj_sub, qj_nat, Int.tdiv_eq_ediv_of_nonneg (by omega)]
  congr 1
  omega
theorem marks52 {c : Nat} (hc : c < 8) : ∀ (m i n : Nat) (τ : QMem), i + m = 24 → m < n → τ 28 15 = nI c → ∃ τ2, fX12_marks_L52 n (nI i) τ = some τ2 ∧ (∀ k, ¬ k = 14 → ¬ k = 28 → τ2 k = τ k) ∧ τ2 28 15 = nI (c + 1) ∧ (∀ j, ¬ j = 15 → τ2 28 j = τ 28 j) ∧ ∀ j, τ2 14 j = if 24 * c + i ≤ j ∧ j < 24 * c + 24 then τ 13 (j - 24 * c) else τ 14 j := by
  have m13 : ml 13 = 24 := rfl
  have m14 : ml 14 = 192 := rfl
  intro m
  induction m with
  | zero =>
    intro i n τ hi hn h15
    obtain ⟨n, rfl⟩ : ∃ m, n = m + 1 := ⟨n - 1, by omega⟩
    have : i = 24 := by omega
    subst this
    rw [fX12_marks_L52]
    simp (disch := omega) only [Option.bind_some, i32_lit2, nI_add, nI_mulM, cI, nI_ltT, nI_ltF, nI_leT, nI_leF, nI_eqF, nat_leF, or_self, or_false, false_or, if_true, if_false, not_true, not_false, bI_n0, bI_n1, b_em, eq_self, h15]
    refine ⟨_, rfl, fun k _ hk => ms_cell _ hk _ _, ms_same _ _ _ _, fun j hj => ms_place _ _ hj _, fun j => ?_⟩
    rw [ms_cell _ (by decide), if_neg (by omega)]
  | succ m ih =>
    intro i n τ hi hn h15
    obtain ⟨n, rfl⟩ : ∃ m, n = m + 1 := ⟨n - 1, by omega⟩
    rw [fX12_marks_L52]
    simp (disch := omega) only [Option.bind_some, i32_lit2, nI_add, nI_mulM, cI, nI_ltT, nI_ltF, nI_leT, nI_leF, nI_eqF, nat_leF, or_self, or_false, false_or, if_true, if_false, not_true, not_false, bI_n0, bI_n1, b_em, eq_self, h15, m13, m14]
    obtain ⟨τ2, t1, t2, t3, t4, t5⟩ := ih (i + 1) n (ms τ 14 (24 * c + i) (τ 13 i)) (by omega) (by omega) (by rw [ms_cell _ (by decide)]; exact h15)
    refine ⟨τ2, t1, fun k h1 h2 => by rw [t2 k h1 h2, ms_cell _ h1], t3, fun j hj => by rw [t4 j hj, ms_cell _ (by decide)], fun j => ?_⟩
    rw [t5 j, ms_cell _ (by decide), ms_get]
    by_cases h1 : 24 * c + (i + 1) ≤ j ∧ j < 24 * c + 24
    · rw [if_pos h1, if_pos (by omega)]
    · rw [if_neg h1]
      by_cases h2 : j = 24 * c + i
      · rw [if_pos ⟨rfl, h2⟩, if_pos (by omega), h2]
        congr 1
        omega
      · rw [if_neg (fun z => h2 z.2), if_neg (by omega)]
theorem marks12 : ∀ (m i n : Nat) (τ : QMem), i + m = 192 → m < n → 24 ≤ i → τ 28 15 = nI 8 → ∃ τ2, fX12_marks_L12 n (nI i) τ = fX12_marks_J50 τ2 ∧ (∀ k, ¬ k = 14 → ¬ k = 28 → τ2 k = τ k) ∧ τ2 28 15 = nI 7 ∧ (∀ j, ¬ j = 15 → τ2 28 j = τ 28 j) ∧ ∀ j, τ2 14 j = if i ≤ j + 24 ∧ j < 168 then τ 14 (j + 24) else τ 14 j := by
  have m14 : ml 14 = 192 := rfl
  intro m
  induction m with
  | zero =>
    intro i n τ hi hn h24 h15
    obtain ⟨n, rfl⟩ : ∃ m, n = m + 1 := ⟨n - 1, by omega⟩
    have : i = 192 := by omega
    subst this
    rw [fX12_marks_L12]
    simp (disch := omega) only [Option.bind_some, i32_lit2, nI_add, nI_mulM, cI, nI_ltT, nI_ltF, nI_leT, nI_leF, nI_eqF, nat_leF, or_self, or_false, false_or, if_true, if_false, not_true, not_false, bI_n0, bI_n1, b_em, eq_self, h15]
    refine ⟨_, rfl, fun k _ hk => ms_cell _ hk _ _, ms_same _ _ _ _, fun j hj => ms_place _ _ hj _, fun j => ?_⟩
    rw [ms_cell _ (by decide), if_neg (by omega)]
  | succ m ih =>
    intro i n τ hi hn h24 h15
    obtain ⟨n, rfl⟩ : ∃ m, n = m + 1 := ⟨n - 1, by omega⟩
    have es : nI i - nI 24 = nI (i - 24) := by
      rw [qj_nat, qj_nat, qj_nat, qj_sub]
      congr 1
      omega
    rw [fX12_marks_L12]
    simp (disch := omega) only [Option.bind_some, i32_lit2, nI_add, nI_mulM, cI, nI_ltT, nI_ltF, nI_leT, nI_leF, nI_eqF, nat_leF, or_self, or_false, false_or, if_true, if_false, not_true, not_false, bI_n0, bI_n1, b_em, eq_self, h15, m14, es]
    obtain ⟨τ2, t1, t2, t3, t4, t5⟩ := ih (i + 1) n (ms τ 14 (i - 24) (τ 14 i)) (by omega) (by omega) (by omega) (by rw [ms_cell _ (by decide)]; exact h15)
    refine ⟨τ2, t1, fun k h1 h2 => by rw [t2 k h1 h2, ms_cell _ h1], t3, fun j hj => by rw [t4 j hj, ms_cell _ (by decide)], fun j => ?_⟩
    rw [t5 j, ms_get, ms_get]
    by_cases h1 : i + 1 ≤ j + 24 ∧ j < 168
    · rw [if_pos h1, if_neg (by omega), if_pos (by omega)]
    · rw [if_neg h1]
      by_cases h2 : j = i - 24
      · rw [if_pos ⟨rfl, h2⟩, if_pos (by omega), h2]
        congr 1
        omega
      · rw [if_neg (fun z => h2 z.2), if_neg (by omega)]
/-- the slots are laid behind those kept for undoing, of which the oldest goes if there are eight -/
theorem m_marks {μ : QMem} {c : Nat} (hc : c ≤ 8) (h15 : μ 28 15 = nI c) : ∃ τ, fX12_marks μ = some τ ∧ (∀ k, ¬ k = 14 → ¬ k = 28 → τ k = μ k) ∧ τ 28 15 = nI (if c = 8 then 8 else c + 1) ∧ (∀ j, ¬ j = 15 → τ 28 j = μ 28 j) ∧
    ∀ i j, j < 24 → (if c = 8 then i = 7 else i = c) → τ 14 (24 * i + j) = μ 13 j ∧ ∀ i2, i2 < i → τ 14 (24 * i2 + j) = μ 14 (24 * (if c = 8 then i2 + 1 else i2) + j) := by
  unfold fX12_marks
  rw [h15]
  by_cases h8 : c = 8
  · subst h8
    rw [if_pos (by decide)]
    obtain ⟨ρ, r1, r2, r3, r4, r5⟩ := marks12 168 24 FU μ (by decide) (by unfold FU; omega) (by decide) h15
    rw [show (24 : Int32) = nI 24 from rfl, r1]
    unfold fX12_marks_J50
    obtain ⟨τ, t1, t2, t3, t4, t5⟩ := marks52 (c := 7) (by decide) 24 0 FU ρ rfl (by unfold FU; omega) r3
    refine ⟨τ, t1, fun k a b => (t2 k a b).trans (r2 k a b), t3, fun j hj => (t4 j hj).trans (r4 j hj), fun i j hj hi => ?_⟩
    rw [if_pos rfl] at hi
    subst hi
    refine ⟨?_, fun i2 hi2 => ?_⟩
    · rw [t5, if_pos (by omega), r2 13 (by decide) (by decide), show 24 * 7 + j - 24 * 7 = j by omega]
    · rw [t5, if_neg (by omega), r5, if_pos (by omega), if_pos rfl, show 24 * i2 + j + 24 = 24 * (i2 + 1) + j by omega]
  · rw [if_neg (by rw [show (8 : Int32) = nI 8 from rfl, nI_eq (by omega) (by decide)]; exact h8)]
    unfold fX12_marks_J50
    obtain ⟨τ, t1, t2, t3, t4, t5⟩ := marks52 (c := c) (by omega) 24 0 FU μ rfl (by unfold FU; omega) h15
    refine ⟨τ, t1, t2, by rw [if_neg h8]; exact t3, t4, fun i j hj hi => ?_⟩
    rw [if_neg h8] at hi
    subst hi
    refine ⟨?_, fun i2 hi2 => ?_⟩
    · rw [t5, if_pos (by omega)]
      congr 1
      omega
    · rw [t5, if_neg (by omega), if_neg h8]
def uS (S : Nat → ZQ) (s : Nat) (q : ZQ) : Nat → ZQ := fun t => if t = s then q else S t
theorem uS_same (S : Nat → ZQ) (s : Nat) (q : ZQ) : uS S s q s = q := by unfold uS; rw [if_pos rfl]
theorem uS_ne (S : Nat → ZQ) {s t : Nat} (q : ZQ) (h : ¬ t = s) : uS S s q t = S t := by unfold uS; rw [if_neg h]

/-- what a call that changes a slot does, on both sides -/
theorem ch_ok {σ μ : QMem} {S : Nat → ZQ} (h : RRS σ μ S) {s : Nat} (hs : s < 6) {k2 k o : Nat} {q : ZQ} (hk2 : 26 ≤ k2 ∧ k2 < 57) (hq : qAt σ k2 q) (vq : qV q) (hk : ¬ k = 13 ∧ ¬ k = 14 ∧ ¬ k = 28) (ho : o + 3 < ml k) (hm : mAt μ k o q) :
    ∃ σ2 μ2, fX11_change (nI s) k2 σ = some (qj (zN q), σ2) ∧ fX12_becomes (nI s) k (nI o) μ = some (qj (zN q), μ2) ∧ RRS σ2 μ2 (uS S s q) := by
  obtain ⟨hS, ⟨c, b, T, c1, c2, c3, c4, c5, c6, c7⟩, hK, hT, hTa, hN, hB⟩ := h
  obtain ⟨vS, xS0, mS0⟩ := hS s hs
  have x82 : xl 82 = 8 := rfl
  have x102 : xl 102 = 6 := rfl
  have x103 : xl 103 = 8 := rfl
  have b102 : xb 102 = 0 := rfl
  have b103 : xb 103 = 18 := rfl
  -- the desk
  generalize hat : (b + c) % 8 = at'
  have hat8 : at' < 8 := by omega
  have n1 : nI b + nI c = nI (b + c) := nI_add _ _
  have hslot : fX11_isSlot (nI s) = some 1 := by
    rcases slot_cases (nI s) with ⟨z, -⟩ | ⟨j, -, -, z, -⟩
    · unfold fX11_isSlot at z
      simp (disch := omega) only [Option.bind_some, i32_lit2, nI_add, nI_mulM, cI, nI_ltT, nI_ltF, nI_leT, nI_leF, nI_eqF, nat_leF, or_self, or_false, false_or, if_true, if_false, not_true, not_false, bI_n0, bI_n1, b_em, eq_self] at z
      exact absurd z (by decide)
    · exact z
  have a1 : qAt (ms σ 82 at' (nI s)) s (S s) := by unfold qAt; rw [ms_cell _ (by omega)]; exact xS0
  obtain ⟨σa, eA, fA1, fA2, fA3, fA4, fA5⟩ : ∃ σa, fX4_append (nI s) (0 + s) σ = some σa ∧ (∀ k, ¬ k = 82 → ¬ k = 18 + at' → ¬ k = 108 → σa k = σ k) ∧ (∀ j, σa 82 j = if j = at' then nI s else σ 82 j) ∧ qAt σa (18 + at') (S s) ∧ σa 108 3 = nI (if c = 8 then 8 else c + 1) ∧ σa 108 2 = nI (if c = 8 then (b + 1) % 8 else b) := by
    unfold fX4_append
    rw [c3, c4, n1, qfm8 (by omega), hat, x82, x103, b103, if_neg (nI_in hat8 (by decide)), if_neg (nI_in hat8 (by decide)), nI_clamp (by omega), Nat.zero_add, c_copy (18 + at') a1, Option.bind_some]
    have e3 : qPut (ms σ 82 at' (nI s)) (18 + at') (S s) 108 = σ 108 := by rw [qPut_ne _ _ (by omega), ms_cell _ (by decide)]
    rw [e3, c3, c4, show (8 : Int32) = nI 8 from rfl]
    have common : ∀ (j : Nat) (v : Int32) (τ : QMem), τ = ms (qPut (ms σ 82 at' (nI s)) (18 + at') (S s)) 108 j v → (∀ k, ¬ k = 82 → ¬ k = 18 + at' → ¬ k = 108 → τ k = σ k) ∧ (∀ j, τ 82 j = if j = at' then nI s else σ 82 j) ∧ qAt τ (18 + at') (S s) := by
      rintro j v τ rfl
      refine ⟨fun k k1 k2 k3 => by rw [ms_cell _ k3, qPut_ne _ _ k2, ms_cell _ k1], fun j2 => ?_, ?_⟩
      · rw [ms_cell _ (by decide), qPut_ne _ _ (by omega), ms_get]
        by_cases z : j2 = at'
        · rw [if_pos ⟨rfl, z⟩, if_pos z]
        · rw [if_neg (fun y => z y.2), if_neg z]
      · unfold qAt
        rw [ms_cell _ (by omega)]
        exact qPut_at _ _ _
    by_cases h8 : c = 8
    · subst h8
      rw [if_pos (nI_le (by decide) (by decide)), show nI b + 1 = nI (b + 1) from nI_1 b, show nI 8 = (8 : Int32) from rfl, qfm8 (by omega)]
      obtain ⟨p1, p2, p3⟩ := common 2 (nI ((b + 1) % 8)) _ rfl
      refine ⟨_, rfl, p1, p2, p3, ?_, ?_⟩
      · rw [ms_place _ _ (by decide), e3, c3]; rfl
      · rw [ms_same]; rfl
    · rw [if_neg (nI_ge (by omega) (by decide)), show nI c + 1 = nI (c + 1) from nI_1 c]
      obtain ⟨p1, p2, p3⟩ := common 3 (nI (c + 1)) _ rfl
      refine ⟨_, rfl, p1, p2, p3, ?_, ?_⟩
      · rw [ms_same, if_neg h8]
      · rw [ms_place _ _ (by decide), e3, c4, if_neg h8]
  have aq : qAt σa k2 q := by unfold qAt; rw [fA1 k2 (by omega) (by omega) (by omega)]; exact hq
  have aq2 : qAt (qPut σa (0 + s) q) k2 q := qAt_ne (by omega) aq
  have desk : fX11_change (nI s) k2 σ = some (qj (zN q), qPut σa (0 + s) q) := by
    unfold fX11_change
    rw [hslot, Option.bind_some, if_neg (by decide), x102, if_neg (nI_in hs (by decide)), b102, nI_clamp (by omega), eA, Option.bind_some, if_neg (show ¬ (nI s < 0 ∨ 6 ≤ s) from fun z => by rcases z with z | z; exact nI_pos (by omega) z; omega), c_copy (0 + s) aq, Option.bind_some, c_norm aq2 (Int.le_trans vq.2 (by decide)), Option.bind_some]
  rw [Nat.zero_add] at desk
  -- the reference
  obtain ⟨μa, eM', g1, g2, g3, g4⟩ := m_marks c1 c5
  have mq : mAt μa k o q := mAt_cell (g1 k hk.2.1 hk.2.2) hm
  have m13 : ml 13 = 24 := rfl
  have ref : fX12_becomes (nI s) k (nI o) μ = some (qj (zN q), mPut μa 13 (4 * s) q) := by
    unfold fX12_becomes
    rw [eM', Option.bind_some, nI_mul4, m_copies mq ho (show 4 * s + 3 < ml 13 by omega) (Or.inl hk.1), Option.bind_some]
    unfold fX12_norm
    rw [nI_mul4, m_norm (mPut_at μa 13 (4 * s) q) (by omega) (Int.le_trans vq.2 (by decide)), Option.bind_some, Option.bind_some]
  refine ⟨_, _, desk, ref, ?_⟩
  -- the relation
  have fX : ∀ k, ¬ k = 82 → ¬ k = 18 + at' → ¬ k = 108 → ¬ k = s → qPut σa s q k = σ k := fun k k1 k2 k3 k4 => by rw [qPut_ne _ _ k4, fA1 k k1 k2 k3]
  have fM : ∀ k, ¬ k = 13 → ¬ k = 14 → ¬ k = 28 → mPut μa 13 (4 * s) q k = μ k := fun k k1 k2 k3 => by rw [mPut_cell _ _ _ k1, g1 k k2 k3]
  have f28 : ∀ j, ¬ j = 15 → mPut μa 13 (4 * s) q 28 j = μ 28 j := fun j hj => by rw [mPut_cell _ _ _ (by decide), g3 j hj]
  have m14 : mPut μa 13 (4 * s) q 14 = μa 14 := mPut_cell _ _ _ (by decide)
  refine ⟨?_, ?_, ?_, ?_, ?_, ?_, ?_⟩
  · intro t ht
    by_cases e : t = s
    · subst e
      rw [uS_same]
      exact ⟨vq, qPut_at _ _ _, mPut_at _ _ _ _⟩
    · obtain ⟨u1, u2, u3⟩ := hS t ht
      rw [uS_ne _ _ e]
      refine ⟨u1, ?_, mAt_far (by omega) (mAt_cell (g1 13 (by decide) (by decide)) u3)⟩
      unfold qAt
      rw [fX t (by omega) (by omega) (by omega) e]
      exact u2
  · have x108 : ∀ j, qPut σa s q 108 j = σa 108 j := fun j => by rw [qPut_ne _ _ (by omega)]
    have x82' : ∀ j, qPut σa s q 82 j = σa 82 j := fun j => by rw [qPut_ne _ _ (by omega)]
    have at14 : ∀ i s2, s2 < 6 → (if c = 8 then i = 7 else i = c) → mAt (mPut μa 13 (4 * s) q) 14 (24 * i + 4 * s2) (S s2) := by
      intro i s2 hs2 hi
      obtain ⟨-, -, u1, u2, u3, u4⟩ := hS s2 hs2
      unfold mAt
      rw [m14]
      have w : ∀ r, r < 4 → μa 14 (24 * i + 4 * s2 + r) = μ 13 (4 * s2 + r) := fun r hr => by
        rw [Nat.add_assoc]
        exact (g4 i (4 * s2 + r) (by omega) hi).1
      exact ⟨(w 0 (by decide)).trans u1, (w 1 (by decide)).trans u2, (w 2 (by decide)).trans u3, (w 3 (by decide)).trans u4⟩
    have old14 : ∀ i i2 s2 (r : ZQ), s2 < 6 → (if c = 8 then i = 7 else i = c) → i2 < i → mAt μ 14 (24 * (if c = 8 then i2 + 1 else i2) + 4 * s2) r → mAt (mPut μa 13 (4 * s) q) 14 (24 * i2 + 4 * s2) r := by
      intro i i2 s2 r hs2 hi hi2 hr
      obtain ⟨u1, u2, u3, u4⟩ := hr
      unfold mAt
      rw [m14]
      have w : ∀ r, r < 4 → μa 14 (24 * i2 + 4 * s2 + r) = μ 14 (24 * (if c = 8 then i2 + 1 else i2) + 4 * s2 + r) := fun r hr => by
        rw [Nat.add_assoc, Nat.add_assoc]
        exact (g4 i (4 * s2 + r) (by omega) hi).2 i2 hi2
      exact ⟨(w 0 (by decide)).trans u1, (w 1 (by decide)).trans u2, (w 2 (by decide)).trans u3, (w 3 (by decide)).trans u4⟩
    have qold : ∀ p, p < 8 → ¬ p = at' → ∀ r, qAt σ (18 + p) r → qAt (qPut σa s q) (18 + p) r := by
      intro p hp hne r hr
      unfold qAt
      rw [fX (18 + p) (by omega) (by omega) (by omega) (by omega)]
      exact hr
    have qnew : qAt (qPut σa s q) (18 + at') (S s) := qAt_ne (by omega) fA3
    by_cases h8 : c = 8
    · subst h8
      refine ⟨8, (b + 1) % 8, fun i => if i < 8 then T (i + 1) else uS S s q, by decide, by omega, ?_, ?_, ?_, fun t ht => rfl, fun i hi => ?_⟩
      · rw [x108, fA4]; rfl
      · rw [x108, fA5]; rfl
      · rw [mPut_cell _ _ _ (by decide), g2]; rfl
      · by_cases h7 : i = 7
        · subst h7
          have ea : ((b + 1) % 8 + 7) % 8 = at' := by omega
          refine ⟨fun t ht => ?_, s, hs, ?_, ?_, fun t ht hne => ?_⟩
          · show qV (T 8 t) ∧ mAt _ 14 _ (T 8 t)
            rw [c6 t ht]
            exact ⟨(hS t ht).1, at14 7 t ht rfl⟩
          · rw [ea, x82', fA2, if_pos rfl]
          · rw [ea]
            show qAt _ _ (T 8 s)
            rw [c6 s hs]
            exact qnew
          · show T 8 t = uS S s q t
            rw [c6 t ht, uS_ne _ _ hne]
        · obtain ⟨w1, p, w2, w3, w4, w5⟩ := c7 (i + 1) (by omega)
          have ea : ((b + 1) % 8 + i) % 8 = (b + (i + 1)) % 8 := by omega
          have en : ¬ (b + (i + 1)) % 8 = at' := by omega
          refine ⟨fun t ht => ?_, p, w2, ?_, ?_, fun t ht hne => ?_⟩
          · show qV ((if i < 8 then T (i + 1) else uS S s q) t) ∧ mAt _ 14 _ ((if i < 8 then T (i + 1) else uS S s q) t)
            rw [if_pos hi]
            exact ⟨(w1 t ht).1, old14 7 i t _ ht rfl (by omega) (w1 t ht).2⟩
          · rw [ea, x82', fA2, if_neg en]; exact w3
          · rw [ea]
            show qAt _ _ ((if i < 8 then T (i + 1) else uS S s q) p)
            rw [if_pos hi]
            exact qold _ (by omega) en _ w4
          · show (if i < 8 then T (i + 1) else uS S s q) t = (if i + 1 < 8 then T (i + 1 + 1) else uS S s q) t
            rw [if_pos hi, if_pos (by omega)]
            exact w5 t ht hne
    · refine ⟨c + 1, b, fun i => if i ≤ c then T i else uS S s q, by omega, c2, ?_, ?_, ?_, fun t ht => ?_, fun i hi => ?_⟩
      · rw [x108, fA4, if_neg h8]
      · rw [x108, fA5, if_neg h8]
      · rw [mPut_cell _ _ _ (by decide), g2, if_neg h8]
      · show (if c + 1 ≤ c then T (c + 1) else uS S s q) t = uS S s q t
        rw [if_neg (by omega)]
      · by_cases hic : i = c
        · subst hic
          refine ⟨fun t ht => ?_, s, hs, ?_, ?_, fun t ht hne => ?_⟩
          · show qV ((if i ≤ i then T i else uS S s q) t) ∧ mAt _ 14 _ ((if i ≤ i then T i else uS S s q) t)
            rw [if_pos (Nat.le_refl _), c6 t ht]
            exact ⟨(hS t ht).1, at14 i t ht (by rw [if_neg h8])⟩
          · rw [hat, x82', fA2, if_pos rfl]
          · rw [hat]
            show qAt _ _ ((if i ≤ i then T i else uS S s q) s)
            rw [if_pos (Nat.le_refl _), c6 s hs]
            exact qnew
          · show (if i ≤ i then T i else uS S s q) t = (if i + 1 ≤ i then T (i + 1) else uS S s q) t
            rw [if_pos (Nat.le_refl _), if_neg (by omega), c6 t ht, uS_ne _ _ hne]
        · obtain ⟨w1, p, w2, w3, w4, w5⟩ := c7 i (by omega)
          have en : ¬ (b + i) % 8 = at' := by omega
          refine ⟨fun t ht => ?_, p, w2, ?_, ?_, fun t ht hne => ?_⟩
          · show qV ((if i ≤ c then T i else uS S s q) t) ∧ mAt _ 14 _ ((if i ≤ c then T i else uS S s q) t)
            rw [if_pos (by omega)]
            exact ⟨(w1 t ht).1, old14 c i t _ ht (by rw [if_neg h8]) (by omega) (by rw [if_neg h8]; exact (w1 t ht).2)⟩
          · rw [x82', fA2, if_neg en]; exact w3
          · show qAt _ _ ((if i ≤ c then T i else uS S s q) p)
            rw [if_pos (by omega)]
            exact qold _ (by omega) en _ w4
          · show (if i ≤ c then T i else uS S s q) t = (if i + 1 ≤ c then T (i + 1) else uS S s q) t
            rw [if_pos (by omega), if_pos (by omega)]
            exact w5 t ht hne
  · intro k3 hk3
    have e1 : qPut σa s q (98 + k3) = σ (98 + k3) := fX _ (by omega) (by omega) (by omega) (by omega)
    have e2 : mPut μa 13 (4 * s) q 15 = μ 15 := fM _ (by decide) (by decide) (by decide)
    rw [e1, e2]
    rcases hK k3 hk3 with z | ⟨z1, z2, K, z3⟩
    · exact Or.inl z
    · refine Or.inr ⟨z1, z2, K, fun t ht => ?_⟩
      obtain ⟨y1, y2, y3⟩ := z3 t ht
      refine ⟨y1, ?_, mAt_cell (fM 16 (by decide) (by decide) (by decide)) y3⟩
      unfold qAt
      rw [fX (6 + 6 * k3 + t) (by omega) (by omega) (by omega) (by omega)]
      exact y2
  · obtain ⟨n, y1, y2, y3, y4⟩ := hT
    refine ⟨n, y1, by rw [fX 109 (by decide) (by omega) (by decide) (by omega)]; exact y2, by rw [f28 26 (by decide)]; exact y3, fun i hi => ?_⟩
    rw [fX 83 (by decide) (by omega) (by decide) (by omega), fM 23 (by decide) (by decide) (by decide)]
    exact y4 i hi
  · intro t ht
    rw [fX (95 + t) (by omega) (by omega) (by omega) (by omega), fX (79 + t) (by omega) (by omega) (by omega) (by omega), fM 26 (by decide) (by decide) (by decide), fM 27 (by decide) (by decide) (by decide)]
    exact hTa t ht
  · unfold RN
    rw [fX 105 (by decide) (by omega) (by decide) (by omega), f28 33 (by decide)]
    exact hN
  · unfold RB mUn mRt xRt
    rw [fM 0 (by decide) (by decide) (by decide), fM 1 (by decide) (by decide) (by decide), fX 85 (by decide) (by omega) (by decide) (by omega)]
    exact hB
