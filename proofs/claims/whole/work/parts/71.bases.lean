/-! SQUARES, on the desk's side -/
def nL : Nat → List Nat
  | 0 => []
  | m + 1 => m :: nL m
def dB2 (n a b : Nat) : List ZQ := (nL (b + 1)).flatMap fun c : Nat => sqB n a b c
def dB1 (n a : Nat) : List ZQ := (nL (a + 1)).flatMap fun b => dB2 n a b
def dBs (n : Nat) : List ZQ := (nL 13).flatMap fun a => dB1 n a
def bsP (c : Nat) : Prop := c = 58 ∨ c = 69
theorem sqB_root {n a b c : Nat} {r : Int} (h : rI (sqR n a b c) = r) (h0 : 0 ≤ r) : (n : Int) = a * a + b * b + c * c + r * r := by
  unfold rI at h
  split at h
  · rename_i k
    have e := zRt_nn (n := (sqR n a b c).toNat) (by omega)
    rw [h] at e
    unfold sqR at e k
    omega
  · omega
theorem cb_offer {n a b c : Nat} (hn : n < 151) (ha : a ≤ 12) (hb : b ≤ a) (hc : c ≤ b) : ∀ (m d f : Nat) (σ : QMem) (L : List ZQ), d + m = c + 1 → m < f → xRw σ 58 L → L.length + (if (d : Int) ≤ rI (sqR n a b c) ∧ rI (sqR n a b c) ≤ c then [((a : Int), (b : Int), (c : Int), rI (sqR n a b c))] else []).length ≤ 40 →
    ∃ τ, fX0_offer_L3 (nI a) (nI b) (nI c) (qj (sqR n a b c)) f (nI d) σ = some τ ∧ xRw τ 58 (L ++ (if (d : Int) ≤ rI (sqR n a b c) ∧ rI (sqR n a b c) ≤ c then [((a : Int), (b : Int), (c : Int), rI (sqR n a b c))] else [])) ∧ qSame bsP σ τ := by
  have x69 : xl (58 + 11) = 160 := rfl
  have a2 := sq144 (a := (a : Int)) (by omega)
  have b2 := sq144 (a := (b : Int)) (by omega)
  have c2 := sq144 (a := (c : Int)) (by omega)
  have bR : -1000 ≤ sqR n a b c ∧ sqR n a b c ≤ n := by unfold sqR; omega
  intro m
  induction m with
  | zero =>
    intro d f σ L hd hf hx hl
    obtain ⟨f, rfl⟩ : ∃ k, f = k + 1 := ⟨f - 1, by omega⟩
    have g : ¬ ((d : Int) ≤ rI (sqR n a b c) ∧ rI (sqR n a b c) ≤ c) := by omega
    rw [fX0_offer_L3, if_pos (nI_lt (show c < d by omega) (by omega)), if_neg g, List.append_nil]
    exact ⟨σ, rfl, hx, qSame.refl _ _⟩
  | succ m ih =>
    intro d f σ L hd hf hx hl
    obtain ⟨f, rfl⟩ : ∃ k, f = k + 1 := ⟨f - 1, by omega⟩
    have d2 := sq144 (a := (d : Int)) (by omega)
    have e2 : nI d * nI d = qj ((d : Int) * d) := by rw [qj_nat, qj_mul]
    have q1 : (qj (sqR n a b c) < qj ((d : Int) * d)) = (sqR n a b c < (d : Int) * d) := propext (qj_lt (qR_of (by omega) (by omega)) (qR_of (by omega) (by omega)))
    have q2 : (qj ((d : Int) * d) = qj (sqR n a b c)) = ((d : Int) * d = sqR n a b c) := propext (qj_eq (qR_of (by omega) (by omega)) (qR_of (by omega) (by omega)))
    rw [fX0_offer_L3, if_neg (nI_nlt (show d ≤ c by omega) (by omega)), e2]
    simp only [q1, q2]
    unfold fX0_offer_J41
    rw [show nI d + 1 = nI (d + 1) from nI_1 d]
    by_cases g1 : sqR n a b c < (d : Int) * d
    · have g : ¬ ((d : Int) ≤ rI (sqR n a b c) ∧ rI (sqR n a b c) ≤ c) := by
        rintro ⟨z1, z2⟩
        have e := sqB_root (n := n) (a := a) (b := b) (c := c) rfl (by omega)
        have le : (d : Int) * d ≤ rI (sqR n a b c) * rI (sqR n a b c) := Int.mul_le_mul z1 z1 (by omega) (by omega)
        unfold sqR at g1 e le
        omega
      rw [if_pos g1, if_neg g, List.append_nil]
      exact ⟨σ, rfl, hx, qSame.refl _ _⟩
    · rw [if_neg g1]
      by_cases g2 : (d : Int) * d = sqR n a b c
      · have er : rI (sqR n a b c) = d := by
          unfold rI
          rw [if_pos (by omega), zRt_sq (d := (d : Int)) (by omega)]
          omega
        have g : (d : Int) ≤ rI (sqR n a b c) ∧ rI (sqR n a b c) ≤ c := by omega
        have g' : ¬ (((d + 1 : Nat) : Int) ≤ rI (sqR n a b c) ∧ rI (sqR n a b c) ≤ c) := by omega
        rw [if_pos g, List.length_singleton] at hl
        rw [if_pos g2, if_pos g]
        obtain ⟨ρ, r1, r2, r3⟩ := c_append hx (a : Int) b c d (by rw [x69]; omega)
        obtain ⟨τ, t1, t2, t3⟩ := ih (d + 1) f ρ (L ++ [((a : Int), (b : Int), (c : Int), (d : Int))]) (by omega) (by omega) r2 (by rw [if_neg g', List.length_append, List.length_singleton]; simp only [List.length_nil]; omega)
        rw [if_neg g', List.append_nil] at t2
        rw [qj_nat, qj_nat, qj_nat, qj_nat, r1, Option.bind_some, ← qj_nat, ← qj_nat, ← qj_nat, t1, er]
        exact ⟨τ, rfl, t2, (r3.weaken (fun c h => by unfold bsP; omega)).trans t3⟩
      · have g : ((d : Int) ≤ rI (sqR n a b c) ∧ rI (sqR n a b c) ≤ c) ↔ (((d + 1 : Nat) : Int) ≤ rI (sqR n a b c) ∧ rI (sqR n a b c) ≤ c) := by
          constructor
          · rintro ⟨z1, z2⟩
            refine ⟨?_, z2⟩
            rcases Int.lt_or_eq_of_le z1 with z | z
            · omega
            · have e := sqB_root (n := n) (a := a) (b := b) (c := c) rfl (by omega)
              rw [← z] at e
              exfalso
              apply g2
              unfold sqR
              omega
          · rintro ⟨z1, z2⟩
            exact ⟨by omega, z2⟩
        rw [if_neg g2]
        simp only [g] at hl ⊢
        exact ih (d + 1) f σ L (by omega) (by omega) hx hl
theorem cb_offer0 {n a b c : Nat} (hn : n < 151) (ha : a ≤ 12) (hb : b ≤ a) (hc : c ≤ b) {σ : QMem} {L : List ZQ} (hx : xRw σ 58 L) (hl : L.length + (sqB n a b c).length ≤ 40) :
    ∃ τ, fX0_offer (nI a) (nI b) (nI c) (qj (sqR n a b c)) σ = some τ ∧ xRw τ 58 (L ++ sqB n a b c) ∧ qSame bsP σ τ := by
  have e : sqB n a b c = if ((0 : Nat) : Int) ≤ rI (sqR n a b c) ∧ rI (sqR n a b c) ≤ c then [((a : Int), (b : Int), (c : Int), rI (sqR n a b c))] else [] := by
    unfold sqB
    by_cases g : (a : Int) < b ∨ (b : Int) < c ∨ (c : Int) < rI (sqR n a b c) ∨ rI (sqR n a b c) < 0
    · rw [if_pos g, if_neg (by omega)]
    · rw [if_neg g, if_pos (by omega)]
  rw [e] at hl ⊢
  exact cb_offer hn ha hb hc (c + 1) 0 FU σ L (by omega) (by unfold FU; omega) hx hl

theorem em1 (m : Nat) : nI (m + 1) + -1 = qj ((m : Int)) := by
  rw [show (-1 : Int32) = qj (-1) from rfl, qj_nat, qj_add]
  congr 1
  omega
theorem qm_lt {m : Nat} (h : m ≤ 100) : (qj ((m : Int) - 1) < 0) ↔ m = 0 := by
  rw [← qj_0, qj_lt (qR_of (by omega) (by omega)) (qR_of (by decide) (by decide))]
  omega
theorem qm_s (m : Nat) : qj (((m + 1 : Nat) : Int) - 1) = nI m := by
  rw [qj_nat]; congr 1; omega
theorem qm_d (m : Nat) : nI m + -1 = qj ((m : Int) - 1) := by
  rw [show (-1 : Int32) = qj (-1) from rfl, qj_nat, qj_add]; rfl
theorem cb_48 {n a b : Nat} (p1 : Int32) (K10 : Int32 → QMem → Option QMem) (K39 : Int32 → Int32 → Int32 → QMem → Option QMem) (hn : n < 151) (ha : a ≤ 12) (hb : b ≤ a) : ∀ (m f : Nat) (σ : QMem) (L : List ZQ), m ≤ b + 1 → m < f → xRw σ 58 L → L.length + ((nL m).flatMap fun c : Nat => sqB n a b c).length ≤ 40 →
    ∃ τ, fX0_gather_L48 p1 K10 K39 f (nI a) (qj ((n : Int) - a * a)) (nI b) (qj ((m : Int) - 1)) σ = K39 (nI a) (qj ((n : Int) - a * a)) (qj ((b : Int) - 1)) τ ∧ xRw τ 58 (L ++ (nL m).flatMap fun c : Nat => sqB n a b c) ∧ qSame bsP σ τ := by
  intro m
  induction m with
  | zero =>
    intro f σ L hm hf hx hl
    obtain ⟨f, rfl⟩ : ∃ k, f = k + 1 := ⟨f - 1, by omega⟩
    rw [fX0_gather_L48, if_pos ((qm_lt (by omega)).mpr rfl), qm_d]
    exact ⟨σ, rfl, by rw [nL, List.flatMap_nil, List.append_nil]; exact hx, qSame.refl _ _⟩
  | succ m ih =>
    intro f σ L hm hf hx hl
    obtain ⟨f, rfl⟩ : ∃ k, f = k + 1 := ⟨f - 1, by omega⟩
    have e : (nL (m + 1)).flatMap (fun c : Nat => sqB n a b c) = sqB n a b m ++ (nL m).flatMap (fun c : Nat => sqB n a b c) := rfl
    rw [e, List.length_append] at hl
    obtain ⟨ρ, r1, r2, r3⟩ := cb_offer0 (c := m) hn ha hb (by omega) hx (by omega)
    obtain ⟨τ, t1, t2, t3⟩ := ih f ρ _ (by omega) (by omega) r2 (by rw [List.length_append]; omega)
    have er : qj ((n : Int) - a * a) - nI b * nI b - nI m * nI m = qj (sqR n a b m) := by
      rw [qj_nat, qj_nat, qj_mul, qj_mul, qj_sub, qj_sub]; rfl
    rw [fX0_gather_L48, if_neg (fun z => absurd ((qm_lt (by omega)).mp z) (by omega)), qm_s, er, r1, Option.bind_some, qm_d, t1]
    rw [List.append_assoc, ← e] at t2
    exact ⟨τ, rfl, t2, r3.trans t3⟩
theorem cb_39 {n a : Nat} (p1 : Int32) (K10 : Int32 → QMem → Option QMem) (hn : n < 151) (ha : a ≤ 12) : ∀ (m f : Nat) (σ : QMem) (L : List ZQ), m ≤ a + 1 → m < f → xRw σ 58 L → L.length + ((nL m).flatMap fun b : Nat => dB2 n a b).length ≤ 40 →
    ∃ τ, fX0_gather_L39 p1 K10 f (nI a) (qj ((n : Int) - a * a)) (qj ((m : Int) - 1)) σ = K10 (qj ((a : Int) - 1)) τ ∧ xRw τ 58 (L ++ (nL m).flatMap fun b : Nat => dB2 n a b) ∧ qSame bsP σ τ := by
  intro m
  induction m with
  | zero =>
    intro f σ L hm hf hx hl
    obtain ⟨f, rfl⟩ : ∃ k, f = k + 1 := ⟨f - 1, by omega⟩
    rw [fX0_gather_L39, if_pos ((qm_lt (by omega)).mpr rfl)]
    unfold fX0_gather_J87
    rw [qm_d]
    exact ⟨σ, rfl, by rw [nL, List.flatMap_nil, List.append_nil]; exact hx, qSame.refl _ _⟩
  | succ m ih =>
    intro f σ L hm hf hx hl
    obtain ⟨f, rfl⟩ : ∃ k, f = k + 1 := ⟨f - 1, by omega⟩
    have e : (nL (m + 1)).flatMap (fun b : Nat => dB2 n a b) = dB2 n a m ++ (nL m).flatMap (fun b : Nat => dB2 n a b) := rfl
    rw [e, List.length_append] at hl
    obtain ⟨ρ, r1, r2, r3⟩ := cb_48 (b := m) p1 K10 (fX0_gather_L39 p1 K10 f) hn ha (by omega) (m + 1) FU σ L (Nat.le_refl _) (by unfold FU; omega) hx (by unfold dB2 at hl; omega)
    rw [show (L ++ (nL (m + 1)).flatMap fun c : Nat => sqB n a m c) = L ++ dB2 n a m from rfl] at r2
    obtain ⟨τ, t1, t2, t3⟩ := ih f ρ _ (by omega) (by omega) r2 (by rw [List.length_append]; omega)
    rw [qm_s] at r1 ⊢
    have qn : ¬ nI m < 0 := nI_pos (by omega)
    rw [fX0_gather_L39, if_neg qn, r1, t1]
    rw [List.append_assoc, ← e] at t2
    exact ⟨τ, rfl, t2, r3.trans t3⟩
theorem dB1_nil {n a : Nat} (h : (n : Int) < a * a ∨ (3 * a * a : Int) < (n : Int) - a * a) : dB1 n a = [] := by
  unfold dB1 dB2
  rw [List.flatMap_eq_nil_iff]
  intro b hb
  rw [List.flatMap_eq_nil_iff]
  intro c hc
  unfold sqB
  rw [if_pos]
  apply Classical.byContradiction
  intro g
  have g0 : 0 ≤ rI (sqR n a b c) := by omega
  have e := sqB_root (n := n) (a := a) (b := b) (c := c) rfl g0
  have s1 := sq_nn (b : Int)
  have s2 := sq_nn (c : Int)
  have s3 := sq_nn (rI (sqR n a b c))
  have l1 : (b : Int) * b ≤ a * a := Int.mul_le_mul (by omega) (by omega) (by omega) (by omega)
  have l2 : (c : Int) * c ≤ a * a := Int.mul_le_mul (by omega) (by omega) (by omega) (by omega)
  have l3 : rI (sqR n a b c) * rI (sqR n a b c) ≤ a * a := Int.mul_le_mul (by omega) (by omega) g0 (by omega)
  have e3 : (3 * a * a : Int) = 3 * (a * a) := Int.mul_assoc _ _ _
  omega
theorem cb_10 {n : Nat} (hn : n < 151) : ∀ (m f : Nat) (σ : QMem) (L : List ZQ), m ≤ 13 → m < f → xRw σ 58 L → L.length + ((nL m).flatMap fun a : Nat => dB1 n a).length ≤ 40 →
    ∃ τ, fX0_gather_L10 (nI n) f (qj ((m : Int) - 1)) σ = some τ ∧ xRw τ 58 (L ++ (nL m).flatMap fun a : Nat => dB1 n a) ∧ qSame bsP σ τ := by
  intro m
  induction m with
  | zero =>
    intro f σ L hm hf hx hl
    obtain ⟨f, rfl⟩ : ∃ k, f = k + 1 := ⟨f - 1, by omega⟩
    rw [fX0_gather_L10, if_pos ((qm_lt (by omega)).mpr rfl)]
    exact ⟨σ, rfl, by rw [nL, List.flatMap_nil, List.append_nil]; exact hx, qSame.refl _ _⟩
  | succ m ih =>
    intro f σ L hm hf hx hl
    obtain ⟨f, rfl⟩ : ∃ k, f = k + 1 := ⟨f - 1, by omega⟩
    have e : (nL (m + 1)).flatMap (fun a : Nat => dB1 n a) = dB1 n m ++ (nL m).flatMap (fun a : Nat => dB1 n a) := rfl
    rw [e, List.length_append] at hl
    have a2 := sq144 (a := (m : Int)) (by omega)
    have er : nI n - nI m * nI m = qj ((n : Int) - m * m) := by rw [qj_nat, qj_nat, qj_mul, qj_sub]
    have e3 : 3 * nI m * nI m = qj (3 * m * m) := by
      rw [show (3 : Int32) = qj 3 from rfl, qj_nat, qj_mul, qj_mul]
    have ee3 : (3 * m * m : Int) = 3 * (m * m) := Int.mul_assoc _ _ _
    have q1 : (qj ((n : Int) - m * m) < 0) = ((n : Int) < m * m) := by
      apply propext
      rw [← qj_0, qj_lt (qR_of (by omega) (by omega)) (qR_of (by decide) (by decide))]
      omega
    have q2 : (qj ((n : Int) - m * m) ≤ qj (3 * m * m)) = ((n : Int) - m * m ≤ 3 * m * m) := propext (qj_le (qR_of (by omega) (by omega)) (qR_of (by omega) (by omega)))
    have qn : ¬ nI m < 0 := nI_pos (by omega)
    have skip : dB1 n m = [] → ∃ τ, fX0_gather_J87 (nI n) (fX0_gather_L10 (nI n) f) (nI m) σ = some τ ∧ xRw τ 58 (L ++ (nL (m + 1)).flatMap fun a : Nat => dB1 n a) ∧ qSame bsP σ τ := by
      intro h0
      unfold fX0_gather_J87
      rw [qm_d, e, h0, List.nil_append]
      exact ih f σ L (by omega) (by omega) hx (by omega)
    rw [fX0_gather_L10, qm_s, if_neg qn, er, e3]
    simp only [q1, q2]
    by_cases g1 : (n : Int) < m * m
    · rw [if_pos g1]; exact skip (dB1_nil (Or.inl g1))
    · rw [if_neg g1]
      by_cases g2 : (n : Int) - m * m ≤ 3 * m * m
      · rw [if_pos g2]
        obtain ⟨ρ, r1, r2, r3⟩ := cb_39 (a := m) (nI n) (fX0_gather_L10 (nI n) f) hn (by omega) (m + 1) FU σ L (Nat.le_refl _) (by unfold FU; omega) hx (by unfold dB1 at hl; omega)
        rw [show (L ++ (nL (m + 1)).flatMap fun b : Nat => dB2 n m b) = L ++ dB1 n m from rfl] at r2
        obtain ⟨τ, t1, t2, t3⟩ := ih f ρ _ (by omega) (by omega) r2 (by rw [List.length_append]; omega)
        rw [qm_s] at r1
        rw [r1, t1]
        rw [List.append_assoc, ← e] at t2
        exact ⟨τ, rfl, t2, r3.trans t3⟩
      · rw [if_neg g2]; exact skip (dB1_nil (Or.inr (by omega)))
theorem cb_gather {n : Nat} (hn : n < 151) (hl : (dBs n).length ≤ 40) (σ : QMem) : ∃ τ, fX0_gather (nI n) σ = some τ ∧ xRw τ 58 (dBs n) ∧ qSame bsP σ τ := by
  obtain ⟨ρ, r1, r2, r3⟩ := c_clear 58 σ
  obtain ⟨τ, t1, t2, t3⟩ := cb_10 hn 13 FU ρ [] (Nat.le_refl _) (by unfold FU; omega) r2 (by rw [List.length_nil, Nat.zero_add]; exact hl)
  unfold fX0_gather
  rw [r1, Option.bind_some]
  exact ⟨τ, t1, t2, (r3.weaken (fun c h => Or.inl h)).trans t3⟩
