/-! TOOLS OF THE FUNCTIONS: ints, guards, cells -/
def bI (b : Bool) : Int32 := if b then 1 else 0
theorem bI_t : bI true = 1 := rfl
theorem bI_f : bI false = 0 := rfl
theorem bI_0 (b : Bool) : (bI b = 0) = (b = false) := by cases b <;> simp [bI]
theorem bI_n0 (b : Bool) : (bI b = nI 0) = (b = false) := bI_0 b
theorem bI_n01 (b : Bool) : (bI b = nI 0 ∨ bI b = nI 1) = True := by cases b <;> decide
theorem bI_01 (b : Bool) : (bI b = 0 ∨ bI b = 1) = True := by cases b <;> simp [bI]
theorem fu_s : FU = 1999 + 1 := rfl
theorem gI {c n : Nat} (h : c < n) (hn : n < 2147483648) : (nI c < 0 ∨ n ≤ (nI c).toNatClampNeg) = False := eq_false (nI_in h hn)
theorem ite_small {c : Prop} [Decidable c] {a b n : Nat} (ha : a < n) (hb : b < n) : (if c then a else b) < n := by split <;> assumption
theorem ml_small (k : Nat) : ml k < 3000 := by unfold ml; (repeat' apply ite_small) <;> decide
theorem xl_small (k : Nat) : xl k < 3000 := by unfold xl; (repeat' apply ite_small) <;> decide
theorem i32_lit (n : Nat) : (OfNat.ofNat n : Int32) = nI (OfNat.ofNat n) := rfl
theorem nI_mulM (a b : Nat) : nI a * nI b = nI (a * b) := (Int32.ofNat_mul a b).symm
theorem nI_ltT {a b : Nat} (h : a < b) (hb : b < 2147483648) : (nI a < nI b) = True := eq_true (nI_lt h hb)
theorem nI_ltF {a b : Nat} (h : b ≤ a) (hb : a < 2147483648) : (nI a < nI b) = False := eq_false (nI_nlt h hb)
theorem nI_leT {a b : Nat} (h : a ≤ b) (hb : b < 2147483648) : (nI a ≤ nI b) = True := eq_true (nI_le h hb)
theorem nI_leF {a b : Nat} (h : b < a) (hb : a < 2147483648) : (nI a ≤ nI b) = False := eq_false (nI_ge h hb)
theorem nI_eqF {a b : Nat} (h : ¬ a = b) (ha : a < 2147483648) (hb : b < 2147483648) : (nI a = nI b) = False := eq_false (fun q => h ((nI_eq ha hb).mp q))
theorem nat_leF {c n : Nat} (h : c < n) : (n ≤ c) = False := eq_false (Nat.not_le.mpr h)
theorem gM {c k : Nat} (h : c < ml k) : (nI c < 0 ∨ ml k ≤ (nI c).toNatClampNeg) = False := gI h (by have := ml_small k; omega)
theorem gX {c k : Nat} (h : c < xl k) : (nI c < 0 ∨ xl k ≤ (nI c).toNatClampNeg) = False := gI h (by have := xl_small k; omega)
theorem cI {c : Nat} (h : c < 2147483648) : (nI c).toNatClampNeg = c := nI_clamp h
theorem qR_of {z : Int} (h1 : -2000000000 ≤ z) (h2 : z ≤ 2000000000) : qR z := ⟨by omega, by omega⟩
theorem qj_0 : qj 0 = 0 := rfl
theorem qj_1 : qj 1 = 1 := rfl
theorem qj_is0 {z : Int} (h : qR z) : (qj z = 0) = (z = 0) := propext (by rw [← qj_0, qj_eq h (qR_of (by decide) (by decide))])
theorem par1 (a : Int) : (BitVec.ofInt 32 a).getLsbD 0 = decide (a % 2 = 1) := by
  rw [BitVec.getLsbD, BitVec.toNat_ofInt, Nat.testBit_zero]
  exact decide_eq_decide.mpr (by omega)
theorem and1 (x : BitVec 32) : x &&& 1#32 = 0#32 ↔ x.getLsbD 0 = false := by
  rw [BitVec.and_one_eq_setWidth_ofBool_getLsbD]
  cases x.getLsbD 0 <;> decide
theorem qj_and1 (a : Int) : (qj a &&& 1 = 0) = (a % 2 = 0) := by
  apply propext
  rw [← Int32.toBitVec_inj, Int32.toBitVec_and]
  show BitVec.ofInt 32 a &&& 1#32 = 0#32 ↔ _
  rw [and1, par1, decide_eq_false_iff_not]
  omega
theorem qj_xor1 (a b : Int) : ((qj a ^^^ qj b) &&& 1 = 0) = ((a - b) % 2 = 0) := by
  apply propext
  rw [← Int32.toBitVec_inj, Int32.toBitVec_and, Int32.toBitVec_xor]
  show (BitVec.ofInt 32 a ^^^ BitVec.ofInt 32 b) &&& 1#32 = 0#32 ↔ _
  rw [and1, BitVec.getLsbD_xor, par1, par1]
  by_cases h1 : a % 2 = 1 <;> by_cases h2 : b % 2 = 1 <;> simp [h1, h2] <;> omega
theorem qj_mod {a b : Int} (ha2 : -2000000000 ≤ a ∧ a ≤ 2000000000) (hb : qR b) (h : b ≠ -1) : (qj a - qj a / qj b * qj b = 0) = (b ∣ a) := by
  apply propext
  have ha : qR a := qR_of ha2.1 ha2.2
  rw [qj_div ha hb h, qj_mul, qj_sub]
  have e : a - a.tdiv b * b = a.tmod b := by have := Int.tdiv_mul_add_tmod a b; omega
  rw [e, ← qj_0, qj_eq _ (qR_of (by decide) (by decide))]
  · exact (Int.dvd_iff_tmod_eq_zero).symm
  · have h1 := Int.natAbs_tmod a b
    have h2 : a.natAbs % b.natAbs ≤ a.natAbs := Nat.mod_le _ _
    obtain ⟨a1, a2⟩ := ha2
    constructor <;> omega
theorem zB_of {x : ZQ} {n : Int} (hn : 0 ≤ n) (h : zN4 x ≤ n * n) : zB n x := zN4_B hn h
theorem qAt_ne {σ : QMem} {k k2 : Nat} {q r : ZQ} (h : ¬ k = k2) (hq : qAt σ k q) : qAt (qPut σ k2 r) k q := (qPut_same σ k2 r).at h hq
theorem qPut_ne (σ : QMem) {k k2 : Nat} (q : ZQ) (h : ¬ k = k2) : qPut σ k2 q k = σ k := qPut_same σ k2 q k h
theorem qR_sm {a : Int} (h : -30000 ≤ a ∧ a ≤ 30000) : qR a := qR_of (by omega) (by omega)
theorem zN4_le {x : ZQ} {a b : Int} (h : zN4 x ≤ a) (hab : a ≤ b) : zN4 x ≤ b := Int.le_trans h hab
/-! the methods of Quat -/
theorem c_put (k : Nat) (a b c d : Int) (σ : QMem) : fX6_put k (qj a) (qj b) (qj c) (qj d) σ = some (qPut σ k (a, b, c, d)) := rfl
theorem zN4_raw (q : ZQ) : qj q.1 * qj q.1 + qj q.2.1 * qj q.2.1 + qj q.2.2.1 * qj q.2.2.1 + qj q.2.2.2 * qj q.2.2.2 = qj (zN4 q) := by
  simp only [qj_mul, qj_add]
  rfl
theorem qj_quarter {z : Int} (h0 : 0 ≤ z) (h : z ≤ 2000000000) : qj z / 4 = qj (z / 4) := by
  show qj z / qj 4 = _
  rw [qj_div (qR_of (by omega) h) (qR_of (by decide) (by decide)) (by decide), Int.tdiv_eq_ediv_of_nonneg h0]
theorem c_norm {σ : QMem} {k : Nat} {q : ZQ} (h : qAt σ k q) (hb : zN4 q ≤ 2000000000) : fX6_norm k σ = some (qj (zN q), σ) := by
  obtain ⟨h1, h2, h3, h4⟩ := h
  unfold fX6_norm
  rw [h1, h2, h3, h4, zN4_raw, qj_quarter (zN4_nn q) hb]
  rfl
theorem c_conj {σ : QMem} {k1 : Nat} (k0 : Nat) {q : ZQ} (h : qAt σ k1 q) : fX6_becomeConjugate k0 k1 σ = some (qPut σ k0 (zC q)) := by
  obtain ⟨h1, h2, h3, h4⟩ := h
  unfold fX6_becomeConjugate
  rw [h1, h2, h3, h4, qj_neg, qj_neg, qj_neg, c_put]
  rfl
theorem c_neg {σ : QMem} {k1 : Nat} (k0 : Nat) {q : ZQ} (h : qAt σ k1 q) : fX6_becomeNegative k0 k1 σ = some (qPut σ k0 (-q.1, -q.2.1, -q.2.2.1, -q.2.2.2)) := by
  obtain ⟨h1, h2, h3, h4⟩ := h
  unfold fX6_becomeNegative
  rw [h1, h2, h3, h4, qj_neg, qj_neg, qj_neg, qj_neg, c_put]
  rfl
theorem c_copy {σ : QMem} {k1 : Nat} (k0 : Nat) {q : ZQ} (h : qAt σ k1 q) : fX6_copyFrom k0 k1 σ = some (qPut σ k0 q) := by
  obtain ⟨h1, h2, h3, h4⟩ := h
  unfold fX6_copyFrom
  rw [h1, h2, h3, h4, c_put]
  rfl
theorem c_sum {σ : QMem} {k1 k2 : Nat} (k0 : Nat) {x y : ZQ} (hx : qAt σ k1 x) (hy : qAt σ k2 y) : fX6_becomeSum k0 k1 k2 σ = some (qPut σ k0 (zAdd x y)) := by
  obtain ⟨h1, h2, h3, h4⟩ := hx
  obtain ⟨g1, g2, g3, g4⟩ := hy
  unfold fX6_becomeSum
  rw [h1, h2, h3, h4, g1, g2, g3, g4, qj_add, qj_add, qj_add, qj_add, c_put]
  rfl
theorem c_diff {σ : QMem} {k1 k2 : Nat} (k0 : Nat) {x y : ZQ} (hx : qAt σ k1 x) (hy : qAt σ k2 y) : fX6_becomeDifference k0 k1 k2 σ = some (qPut σ k0 (zSub x y)) := by
  obtain ⟨h1, h2, h3, h4⟩ := hx
  obtain ⟨g1, g2, g3, g4⟩ := hy
  unfold fX6_becomeDifference
  rw [h1, h2, h3, h4, g1, g2, g3, g4, qj_sub, qj_sub, qj_sub, qj_sub, c_put]
  rfl
theorem qj_half {z : Int} (h0 : z % 2 = 0) (h1 : -2000000000 ≤ z) (h2 : z ≤ 2000000000) : qj z / 2 = qj (z / 2) := by
  show qj z / qj 2 = _
  rw [qj_div (qR_of h1 h2) (qR_of (by decide) (by decide)) (by decide), Int.tdiv_eq_ediv_of_dvd (Int.dvd_of_emod_eq_zero h0)]
theorem mul_bd {a b m n : Int} (ha : -m ≤ a ∧ a ≤ m) (hb : -n ≤ b ∧ b ≤ n) : -(m * n) ≤ a * b ∧ a * b ≤ m * n := by
  have k1 := Int.mul_nonneg (show 0 ≤ m - a by omega) (show 0 ≤ n + b by omega)
  have k2 := Int.mul_nonneg (show 0 ≤ m + a by omega) (show 0 ≤ n - b by omega)
  have k3 := Int.mul_nonneg (show 0 ≤ m + a by omega) (show 0 ≤ n + b by omega)
  have k4 := Int.mul_nonneg (show 0 ≤ m - a by omega) (show 0 ≤ n - b by omega)
  have e1 : (m - a) * (n + b) = m * n + m * b - a * n - a * b := by grind
  have e2 : (m + a) * (n - b) = m * n - m * b + a * n - a * b := by grind
  have e3 : (m + a) * (n + b) = m * n + m * b + a * n + a * b := by grind
  have e4 : (m - a) * (n - b) = m * n - m * b - a * n + a * b := by grind
  omega
/-- the bounds under which products stay ints: numbers up to 20000 -/
def zS (q : ZQ) : Prop := zN4 q ≤ 400000000
theorem zS_B {q : ZQ} (h : zS q) : zB 20000 q := zN4_B (by decide) h
theorem zM2_bd {x y : ZQ} (hx : zS x) (hy : zS y) : (-1600000000 ≤ (zM2 x y).1 ∧ (zM2 x y).1 ≤ 1600000000) ∧ (-1600000000 ≤ (zM2 x y).2.1 ∧ (zM2 x y).2.1 ≤ 1600000000) ∧ (-1600000000 ≤ (zM2 x y).2.2.1 ∧ (zM2 x y).2.2.1 ≤ 1600000000) ∧ -1600000000 ≤ (zM2 x y).2.2.2 ∧ (zM2 x y).2.2.2 ≤ 1600000000 := by
  obtain ⟨a1, a2, a3, a4⟩ := zS_B hx
  obtain ⟨b1, b2, b3, b4⟩ := zS_B hy
  have := mul_bd a1 b1
  have := mul_bd a1 b2
  have := mul_bd a1 b3
  have := mul_bd a1 b4
  have := mul_bd a2 b1
  have := mul_bd a2 b2
  have := mul_bd a2 b3
  have := mul_bd a2 b4
  have := mul_bd a3 b1
  have := mul_bd a3 b2
  have := mul_bd a3 b3
  have := mul_bd a3 b4
  have := mul_bd a4 b1
  have := mul_bd a4 b2
  have := mul_bd a4 b3
  have := mul_bd a4 b4
  unfold zM2
  simp only
  omega
theorem zM_raw {x y : ZQ} (hx : zL x) (hy : zL y) (bx : zS x) (by_ : zS y) :
    ((((((qj x.1) * (qj y.1)) - ((qj x.2.1) * (qj y.2.1))) - ((qj x.2.2.1) * (qj y.2.2.1))) - ((qj x.2.2.2) * (qj y.2.2.2))) / 2) = qj (zM x y).1 ∧
    ((((((qj x.1) * (qj y.2.1)) + ((qj x.2.1) * (qj y.1))) + ((qj x.2.2.1) * (qj y.2.2.2))) - ((qj x.2.2.2) * (qj y.2.2.1))) / 2) = qj (zM x y).2.1 ∧
    ((((((qj x.1) * (qj y.2.2.1)) - ((qj x.2.1) * (qj y.2.2.2))) + ((qj x.2.2.1) * (qj y.1))) + ((qj x.2.2.2) * (qj y.2.1))) / 2) = qj (zM x y).2.2.1 ∧
    ((((((qj x.1) * (qj y.2.2.2)) + ((qj x.2.1) * (qj y.2.2.1))) - ((qj x.2.2.1) * (qj y.2.1))) + ((qj x.2.2.2) * (qj y.1))) / 2) = qj (zM x y).2.2.2 := by
  obtain ⟨e1, e2, e3, e4⟩ := zM_even hx hy
  obtain ⟨⟨a1, b1⟩, ⟨a2, b2⟩, ⟨a3, b3⟩, a4, b4⟩ := zM2_bd bx by_
  simp only [qj_mul, qj_add, qj_sub]
  exact ⟨qj_half e1 (Int.le_trans (by decide : (-2000000000 : Int) ≤ -1600000000) a1) (Int.le_trans b1 (by decide)), qj_half e2 (Int.le_trans (by decide : (-2000000000 : Int) ≤ -1600000000) a2) (Int.le_trans b2 (by decide)), qj_half e3 (Int.le_trans (by decide : (-2000000000 : Int) ≤ -1600000000) a3) (Int.le_trans b3 (by decide)), qj_half e4 (Int.le_trans (by decide : (-2000000000 : Int) ≤ -1600000000) a4) (Int.le_trans b4 (by decide))⟩
theorem c_prod {σ : QMem} {k1 k2 : Nat} (k0 : Nat) {x y : ZQ} (hx : qAt σ k1 x) (hy : qAt σ k2 y) (lx : zL x) (ly : zL y) (bx : zS x) (by_ : zS y) : fX6_becomeProduct k0 k1 k2 σ = some (qPut σ k0 (zM x y)) := by
  obtain ⟨h1, h2, h3, h4⟩ := hx
  obtain ⟨g1, g2, g3, g4⟩ := hy
  obtain ⟨r1, r2, r3, r4⟩ := zM_raw lx ly bx by_
  unfold fX6_becomeProduct
  rw [h1, h2, h3, h4, g1, g2, g3, g4, r1, r2, r3, r4]
  rfl
theorem c_made {σ : QMem} {k1 k2 : Nat} (k0 : Nat) {x y : ZQ} (s : Int32) (hx : qAt σ k1 x) (hy : qAt σ k2 y) (lx : zL x) (ly : zL y) (bx : zS x) (by_ : zS y) : fX6_becomeMade k0 k1 k2 s σ = some (qPut σ k0 (zK s x y)) := by
  unfold fX6_becomeMade zK
  by_cases h : s = 0
  · rw [if_pos h, if_pos h, c_prod k0 hx hy lx ly bx by_]; rfl
  · rw [if_neg h, if_neg h, c_prod k0 hy hx ly lx by_ bx]; rfl
theorem zGb_def (a b c d e f g h : Int) : zGb (a, b, c, d) (e, f, g, h) = decide (a > e ∨ a = e ∧ (b > f ∨ b = f ∧ (c > g ∨ c = g ∧ d > h))) := rfl
theorem c_gt {σ : QMem} {k0 k1 : Nat} {x y : ZQ} (hx : qAt σ k0 x) (hy : qAt σ k1 y) (bx : zS x) (by_ : zS y) : fX6_isGreaterThan k0 k1 σ = some (bI (zGb x y), σ) := by
  obtain ⟨a1, a2, a3, a4⟩ := zS_B bx
  obtain ⟨b1, b2, b3, b4⟩ := zS_B by_
  obtain ⟨h1, h2, h3, h4⟩ := hx
  obtain ⟨g1, g2, g3, g4⟩ := hy
  have q : ∀ t : Int, (-20000 ≤ t ∧ t ≤ 20000) → qR t := fun t h => qR_of (by omega) (by omega)
  unfold fX6_isGreaterThan
  rw [h1, h2, h3, h4, g1, g2, g3, g4]
  simp only [qj_eq (q _ a1) (q _ b1), qj_eq (q _ a2) (q _ b2), qj_eq (q _ a3) (q _ b3), qj_le (q _ a1) (q _ b1), qj_le (q _ a2) (q _ b2), qj_le (q _ a3) (q _ b3), qj_le (q _ a4) (q _ b4)]
  obtain ⟨a, b, c, d⟩ := x
  obtain ⟨e, f, g, h⟩ := y
  simp only
  rw [zGb_def]
  have t0 : ∀ P : Prop, [Decidable P] → ¬ P → some (bI (decide P), σ) = some ((0 : Int32), σ) := fun P _ h => by rw [decide_eq_false h]; rfl
  have t1 : ∀ P : Prop, [Decidable P] → P → some (bI (decide P), σ) = some ((1 : Int32), σ) := fun P _ h => by rw [decide_eq_true h]; rfl
  (repeat' split) <;> first | (rw [t0]; omega) | (rw [t1]; omega)
theorem c_zero {σ : QMem} {k0 : Nat} {x : ZQ} (hx : qAt σ k0 x) (bx : zS x) : fX6_isZero k0 σ = some (bI (decide (x = z0)), σ) := by
  obtain ⟨a1, a2, a3, a4⟩ := zS_B bx
  obtain ⟨h1, h2, h3, h4⟩ := hx
  have q : ∀ t : Int, (-20000 ≤ t ∧ t ≤ 20000) → qR t := fun t h => qR_of (by omega) (by omega)
  unfold fX6_isZero
  rw [h1, h2, h3, h4]
  simp only [qj_is0 (q _ a1), qj_is0 (q _ a2), qj_is0 (q _ a3), qj_is0 (q _ a4)]
  obtain ⟨a, b, c, d⟩ := x
  unfold z0
  simp only [Prod.mk.injEq]
  have t0 : ∀ P : Prop, [Decidable P] → ¬ P → some (bI (decide P), σ) = some ((0 : Int32), σ) := fun P _ h => by rw [decide_eq_false h]; rfl
  have t1 : ∀ P : Prop, [Decidable P] → P → some (bI (decide P), σ) = some ((1 : Int32), σ) := fun P _ h => by rw [decide_eq_true h]; rfl
  (repeat' split) <;> first | (rw [t0]; omega) | (rw [t1]; omega)
theorem c_same {σ : QMem} {k0 k1 : Nat} {x y : ZQ} (hx : qAt σ k0 x) (hy : qAt σ k1 y) (bx : zS x) (by_ : zS y) : fX6_isSame k0 k1 σ = some (bI (decide (x = y)), σ) := by
  obtain ⟨a1, a2, a3, a4⟩ := zS_B bx
  obtain ⟨b1, b2, b3, b4⟩ := zS_B by_
  obtain ⟨h1, h2, h3, h4⟩ := hx
  obtain ⟨g1, g2, g3, g4⟩ := hy
  have q : ∀ t : Int, (-20000 ≤ t ∧ t ≤ 20000) → qR t := fun t h => qR_of (by omega) (by omega)
  unfold fX6_isSame
  rw [h1, h2, h3, h4, g1, g2, g3, g4]
  simp only [qj_eq (q _ a1) (q _ b1), qj_eq (q _ a2) (q _ b2), qj_eq (q _ a3) (q _ b3), qj_eq (q _ a4) (q _ b4)]
  obtain ⟨a, b, c, d⟩ := x
  obtain ⟨e, f, g, h⟩ := y
  simp only [Prod.mk.injEq]
  have t0 : ∀ P : Prop, [Decidable P] → ¬ P → some (bI (decide P), σ) = some ((0 : Int32), σ) := fun P _ h => by rw [decide_eq_false h]; rfl
  have t1 : ∀ P : Prop, [Decidable P] → P → some (bI (decide P), σ) = some ((1 : Int32), σ) := fun P _ h => by rw [decide_eq_true h]; rfl
  (repeat' split) <;> first | (rw [t0]; omega) | (rw [t1]; omega)
theorem xU_zU : ∀ u, u < 24 → xU (4 * u) = qj (zU u).1 ∧ xU (4 * u + 1) = qj (zU u).2.1 ∧ xU (4 * u + 2) = qj (zU u).2.2.1 ∧ xU (4 * u + 3) = qj (zU u).2.2.2 := by decide +kernel
theorem nI_mul4 (u : Nat) : 4 * nI u = nI (4 * u) := (Int32.ofNat_mul 4 u).symm
theorem nI_a2 (u : Nat) : nI u + 2 = nI (u + 2) := nI_add u 2
theorem nI_a3 (u : Nat) : nI u + 3 = nI (u + 3) := nI_add u 3
theorem isUnit_in {u : Nat} (h : u < 24) : fX11_isUnit (nI u) = some 1 := by
  unfold fX11_isUnit
  simp (disch := omega) only [Option.bind_some, i32_lit, nI_add, nI_mulM, cI, nI_ltT, nI_ltF, nI_leT, nI_leF, nI_eqF, nat_leF, or_self, or_false, false_or, if_true, if_false, not_true, not_false, bI_n0]
theorem c_unit {u : Nat} (h : u < 24) (k : Nat) (σ : QMem) : fX6_putUnit k (nI u) σ = some (qPut σ k (zU u)) := by
  obtain ⟨x1, x2, x3, x4⟩ := xU_zU u h
  unfold fX6_putUnit
  rw [isUnit_in h]
  simp (disch := omega) only [Option.bind_some, i32_lit, nI_add, nI_mulM, cI, nI_ltT, nI_ltF, nI_leT, nI_leF, nI_eqF, nat_leF, or_self, or_false, false_or, if_true, if_false, not_true, not_false, bI_n0, x1, x2, x3, x4, c_put]
theorem c_part {i : Nat} (h : i < 4) (k : Nat) (σ : QMem) : fX6_part k (nI i) σ = some (σ k i, σ) := by
  have : i = 0 ∨ i = 1 ∨ i = 2 ∨ i = 3 := by omega
  rcases this with rfl | rfl | rfl | rfl <;> rfl
theorem c_even {σ : QMem} {k : Nat} {q : ZQ} (h : qAt σ k q) : fX6_isEven k σ = some (bI (decide (q.1 % 2 = 0)), σ) := by
  unfold fX6_isEven
  rw [h.1]
  simp only [qj_and1]
  split
  · rename_i h; rw [decide_eq_true h]; rfl
  · rename_i h; rw [decide_eq_false h]; rfl
/-- n times a quaternion -/
def zTb (n : Int) (q : ZQ) : Bool := decide ((n ∣ q.1 ∧ n ∣ q.2.1 ∧ n ∣ q.2.2.1 ∧ n ∣ q.2.2.2) ∧ (q.1 / n - q.2.1 / n) % 2 = 0 ∧ (q.1 / n - q.2.2.1 / n) % 2 = 0 ∧ (q.1 / n - q.2.2.2 / n) % 2 = 0)
theorem zTb_iff (n : Int) (q : ZQ) : zTb n q = true ↔ zDv n q ∧ zL (zQu n q) := decide_eq_true_iff
theorem c_times {σ : QMem} {k : Nat} {q : ZQ} {n : Int} (h : qAt σ k q) (hb : zS q) (hn : 0 < n) (hn2 : n ≤ 1000000) : fX6_isTimes k (qj n) σ = some (bI (zTb n q), σ) := by
  obtain ⟨a1, a2, a3, a4⟩ := zS_B hb
  obtain ⟨h1, h2, h3, h4⟩ := h
  have rn : qR n := qR_of (by omega) (by omega)
  have q0 : ∀ t : Int, (-20000 ≤ t ∧ t ≤ 20000) → qR t := fun t h => qR_of (by omega) (by omega)
  have q1 : ∀ t : Int, (-20000 ≤ t ∧ t ≤ 20000) → -2000000000 ≤ t ∧ t ≤ 2000000000 := fun t h => ⟨by omega, by omega⟩
  have n1 : ¬ qj n < 1 := by rw [← qj_1, qj_lt rn (qR_of (by decide) (by decide))]; omega
  have n0 : ¬ qj n = 0 := by rw [← qj_0, qj_eq rn (qR_of (by decide) (by decide))]; omega
  have dv : ∀ t : Int, (-20000 ≤ t ∧ t ≤ 20000) → n ∣ t → qj t / qj n = qj (t / n) := fun t ht hd => by
    rw [qj_div (q0 t ht) rn (by omega), Int.tdiv_eq_ediv_of_dvd hd]
  unfold fX6_isTimes zTb
  rw [h1, h2, h3, h4, if_neg n1]
  simp only [if_neg n0, qj_mod (q1 _ a1) rn (by omega), qj_mod (q1 _ a2) rn (by omega), qj_mod (q1 _ a3) rn (by omega), qj_mod (q1 _ a4) rn (by omega)]
  by_cases d1 : n ∣ q.1
  · by_cases d2 : n ∣ q.2.1
    · by_cases d3 : n ∣ q.2.2.1
      · by_cases d4 : n ∣ q.2.2.2
        · rw [if_pos d1, if_pos d2, if_pos d3, if_pos d4, dv _ a1 d1, dv _ a2 d2, dv _ a3 d3, dv _ a4 d4]
          simp only [qj_xor1]
          by_cases e1 : (q.1 / n - q.2.1 / n) % 2 = 0
          · by_cases e2 : (q.1 / n - q.2.2.1 / n) % 2 = 0
            · by_cases e3 : (q.1 / n - q.2.2.2 / n) % 2 = 0
              · rw [if_pos e1, if_pos e2, if_pos e3, decide_eq_true ⟨⟨d1, d2, d3, d4⟩, e1, e2, e3⟩]; rfl
              · rw [if_pos e1, if_pos e2, if_neg e3, decide_eq_false (fun z => e3 z.2.2.2)]; rfl
            · rw [if_pos e1, if_neg e2, decide_eq_false (fun z => e2 z.2.2.1)]; rfl
          · rw [if_neg e1, decide_eq_false (fun z => e1 z.2.1)]; rfl
        · rw [if_pos d1, if_pos d2, if_pos d3, if_neg d4, decide_eq_false (fun z => d4 z.1.2.2.2)]; rfl
      · rw [if_pos d1, if_pos d2, if_neg d3, decide_eq_false (fun z => d3 z.1.2.2.1)]; rfl
    · rw [if_pos d1, if_neg d2, decide_eq_false (fun z => d2 z.1.2.1)]; rfl
  · rw [if_neg d1, decide_eq_false (fun z => d1 z.1.1)]; rfl
