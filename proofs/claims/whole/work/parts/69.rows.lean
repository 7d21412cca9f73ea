/-! SQUARES, on the reference's side -/
def dL : Nat → List Int
  | 0 => []
  | m + 1 => ((m : Int) - 12) :: dL m
def rI (k : Int) : Int := if 0 ≤ k then zRt k.toNat else -1
def sqW (r : Int) : Nat := if 0 ≤ r then (if r = 0 then 1 else 2) else 0
def sqR (n : Nat) (a b c : Int) : Int := (n : Int) - a * a - b * b - c * c
def sqB (n : Nat) (a b c : Int) : List ZQ := if a < b ∨ b < c ∨ c < rI (sqR n a b c) ∨ rI (sqR n a b c) < 0 then [] else [(a, b, c, rI (sqR n a b c))]
def zpart (p3 : Int32) (x : ZQ) : Int32 := if p3 = 0 then qj x.1 else if p3 = 1 then qj x.2.1 else if p3 = 2 then qj x.2.2.1 else qj x.2.2.2
def hitF (p2 p3 : Int32) : Nat → List ZQ → Option Int32
  | _, [] => none
  | cnt, x :: t => if nI cnt = p2 then some (zpart p3 x) else hitF p2 p3 (cnt + 1) t
def hitK (h : Option Int32) (τ : QMem) (k : Option (Int32 × QMem)) : Option (Int32 × QMem) :=
  match h with
  | some v => some (v, τ)
  | none => k
theorem hitK_app (p2 p3 : Int32) (τ : QMem) (k : Option (Int32 × QMem)) (l2 : List ZQ) : ∀ (l1 : List ZQ) (cnt : Nat), hitK (hitF p2 p3 cnt (l1 ++ l2)) τ k = hitK (hitF p2 p3 cnt l1) τ (hitK (hitF p2 p3 (cnt + l1.length) l2) τ k) := by
  intro l1
  induction l1 with
  | nil => intro cnt; rfl
  | cons x t ih =>
    intro cnt
    rw [List.cons_append, hitF, hitF]
    by_cases h : nI cnt = p2
    · rw [if_pos h, if_pos h]; rfl
    · rw [if_neg h, if_neg h, ih (cnt + 1), List.length_cons, show cnt + 1 + t.length = cnt + (t.length + 1) by omega]
theorem hitK_nil (p2 p3 : Int32) (τ : QMem) (k : Option (Int32 × QMem)) (cnt : Nat) : hitK (hitF p2 p3 cnt []) τ k = k := rfl
theorem rI_bd {n : Nat} (hn : n < 151) {k : Int} (hk : k ≤ n) : -1 ≤ rI k ∧ rI k ≤ 24 := by
  unfold rI
  split
  · exact zRt_bd (by omega)
  · omega
theorem sq144 {a : Int} (h : -12 ≤ a ∧ a ≤ 12) : 0 ≤ a * a ∧ a * a ≤ 144 := by
  have h1 := sq_nn a
  have h2 : a * a = a.natAbs * a.natAbs := Int.natAbs_mul_self.symm
  have h3 : a.natAbs ≤ 12 := by omega
  have h4 := Nat.mul_le_mul h3 h3
  omega
theorem m_row1 {n : Nat} (hn : n < 151) (p2 p3 : Int32) (K10 : Int32 → Int32 → Int32 → QMem → Option (Int32 × QMem)) (K21 : Int32 → Int32 → Int32 → Int32 → QMem → Option (Int32 × QMem)) {a b c : Int} (ha : -12 ≤ a ∧ a ≤ 12) (hb : -12 ≤ b ∧ b ≤ 12) (hc : -12 ≤ c ∧ c ≤ 12) (f A cnt : Nat) {τ : QMem} (hR : mRt τ) :
    fX12_rowsOf_L32 (nI n) p2 p3 K10 K21 (f + 1) (nI A) (nI cnt) (qj a) (qj b) (qj c) τ = hitK (hitF p2 p3 cnt (sqB n a b c)) τ (fX12_rowsOf_L32 (nI n) p2 p3 K10 K21 f (nI (A + sqW (rI (sqR n a b c)))) (nI (cnt + (sqB n a b c).length)) (qj a) (qj b) (qj (c - 1)) τ) := by
  have a2 := sq144 ha
  have b2 := sq144 hb
  have c2 := sq144 hc
  have m0 : ml 0 = 601 := rfl
  have eR : nI n - qj a * qj a - qj b * qj b - qj c * qj c = qj (sqR n a b c) := by
    rw [qj_nat, qj_mul, qj_mul, qj_mul, qj_sub, qj_sub, qj_sub]; rfl
  have bR : -1000 ≤ sqR n a b c ∧ sqR n a b c ≤ n := by unfold sqR; omega
  have c12 : ¬ qj c < -12 := by
    rw [show (-12 : Int32) = qj (-12) from rfl, qj_lt (qR_of (by omega) (by omega)) (qR_of (by decide) (by decide))]
    omega
  have em1 : qj c + -1 = qj (c - 1) := by
    rw [show (-1 : Int32) = qj (-1) from rfl, qj_add]; rfl
  rw [fX12_rowsOf_L32, if_neg c12, eR]
  have rb := rI_bd hn bR.2
  -- what follows the root
  have rest : fX12_rowsOf_J76 (nI n) p2 p3 K10 K21 (fX12_rowsOf_L32 (nI n) p2 p3 K10 K21 f) (nI A) (nI cnt) (qj a) (qj b) (qj c) (qj (rI (sqR n a b c))) τ = hitK (hitF p2 p3 cnt (sqB n a b c)) τ (fX12_rowsOf_L32 (nI n) p2 p3 K10 K21 f (nI (A + sqW (rI (sqR n a b c)))) (nI (cnt + (sqB n a b c).length)) (qj a) (qj b) (qj (c - 1)) τ) := by
    unfold sqB
    generalize rI (sqR n a b c) = r at rb
    unfold fX12_rowsOf_J76
    have tail : ∀ w : Nat, sqW r = w → fX12_rowsOf_J99 (nI n) p2 p3 K10 K21 (fX12_rowsOf_L32 (nI n) p2 p3 K10 K21 f) (nI cnt) (qj a) (qj b) (qj c) (qj r) (nI A) (nI w) τ = hitK (hitF p2 p3 cnt (if a < b ∨ b < c ∨ c < r ∨ r < 0 then [] else [(a, b, c, r)])) τ (fX12_rowsOf_L32 (nI n) p2 p3 K10 K21 f (nI (A + sqW r)) (nI (cnt + (if a < b ∨ b < c ∨ c < r ∨ r < 0 then [] else [(a, b, c, r)]).length)) (qj a) (qj b) (qj (c - 1)) τ) := by
      intro w hw
      unfold fX12_rowsOf_J99 fX12_rowsOf_J162 fX12_isBase
      have q0 : (qj r < 0) = (r < 0) := by
        apply propext
        rw [← qj_0, qj_lt (qR_of (by omega) (by omega)) (qR_of (by decide) (by decide))]
      have q1 : (qj a < qj b) = (a < b) := propext (qj_lt (qR_of (by omega) (by omega)) (qR_of (by omega) (by omega)))
      have q2 : (qj b < qj c) = (b < c) := propext (qj_lt (qR_of (by omega) (by omega)) (qR_of (by omega) (by omega)))
      have q3 : (qj c < qj r) = (c < r) := propext (qj_lt (qR_of (by omega) (by omega)) (qR_of (by omega) (by omega)))
      simp only [q0, q1, q2, q3]
      rw [nI_add, em1, hw]
      by_cases g : a < b ∨ b < c ∨ c < r ∨ r < 0
      · rw [if_pos g]
        show _ = fX12_rowsOf_L32 (nI n) p2 p3 K10 K21 f (nI (A + w)) (nI cnt) (qj a) (qj b) (qj (c - 1)) τ
        by_cases g0 : r < 0
        · rw [if_pos g0]
        · rw [if_neg g0]
          have isb : (if a < b then some (0 : Int32) else if b < c then some 0 else if c < r then some 0 else if r < 0 then some 0 else some 1) = some 0 := by
            by_cases g1 : a < b
            · rw [if_pos g1]
            · rw [if_neg g1]
              by_cases g2 : b < c
              · rw [if_pos g2]
              · rw [if_neg g2]
                by_cases g3 : c < r
                · rw [if_pos g3]
                · exact absurd g (by omega)
          rw [isb, Option.bind_some, if_pos rfl]
      · rw [if_neg g]
        have g0 : ¬ r < 0 := fun z => g (by omega)
        have g1 : ¬ a < b := fun z => g (by omega)
        have g2 : ¬ b < c := fun z => g (by omega)
        have g3 : ¬ c < r := fun z => g (by omega)
        rw [if_neg g0, if_neg g1, if_neg g2, if_neg g3, if_neg g0, Option.bind_some, if_neg i10, hitF, hitF]
        by_cases hh : nI cnt = p2
        · rw [if_pos hh, if_pos hh]
          unfold zpart
          simp only
          by_cases e0 : p3 = 0
          · rw [if_pos e0, if_pos e0]; rfl
          · rw [if_neg e0, if_neg e0]
            by_cases e1 : p3 = 1
            · rw [if_pos e1, if_pos e1]; rfl
            · rw [if_neg e1, if_neg e1]
              by_cases e2 : p3 = 2
              · rw [if_pos e2, if_pos e2]; rfl
              · rw [if_neg e2, if_neg e2]; rfl
        · rw [if_neg hh, if_neg hh, show nI cnt + 1 = nI (cnt + 1) from nI_1 cnt]
          rfl
    have z0' : (0 ≤ qj r) = (0 ≤ r) := by
      apply propext
      rw [← qj_0, qj_le (qR_of (by decide) (by decide)) (qR_of (by omega) (by omega))]
    have z1' : (qj r = 0) = (r = 0) := by
      apply propext
      rw [← qj_0, qj_eq (qR_of (by omega) (by omega)) (qR_of (by decide) (by decide))]
    simp only [z0', z1']
    by_cases h1 : 0 ≤ r
    · rw [if_pos h1]
      by_cases h2 : r = 0
      · rw [if_pos h2]; exact tail 1 (by unfold sqW; rw [if_pos h1, if_pos h2])
      · rw [if_neg h2]; exact tail 2 (by unfold sqW; rw [if_pos h1, if_neg h2])
    · rw [if_neg h1]; exact tail 0 (by unfold sqW; rw [if_neg h1])
  have z0' : (0 ≤ qj (sqR n a b c)) = (0 ≤ sqR n a b c) := by
    apply propext
    rw [← qj_0, qj_le (qR_of (by decide) (by decide)) (qR_of (by omega) (by omega))]
  rw [← rest]
  by_cases h0 : 0 ≤ sqR n a b c
  · have cl : (qj (sqR n a b c)).toNatClampNeg = (sqR n a b c).toNat := qj_clamp (qR_of (by omega) (by omega))
    have gd : ¬ (qj (sqR n a b c) < 0 ∨ ml 0 ≤ (qj (sqR n a b c)).toNatClampNeg) := by
      rw [cl, ← qj_0, qj_lt (qR_of (by omega) (by omega)) (qR_of (by decide) (by decide)), m0]
      omega
    have er : rI (sqR n a b c) = zRt (sqR n a b c).toNat := by unfold rI; rw [if_pos h0]
    rw [if_pos (z0'.mpr h0), if_neg gd, cl, hR _ (by omega), ← er]
  · have er : rI (sqR n a b c) = -1 := by unfold rI; rw [if_neg h0]
    have n0 : ¬ 0 ≤ qj (sqR n a b c) := fun z => h0 (z0'.mp z)
    rw [if_neg n0, er]
    rfl
