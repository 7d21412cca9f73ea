/-! SQUARES, the reference's loops -/
def sA2 (n : Nat) (a b : Int) : Nat := ((dL 25).map fun c => sqW (rI (sqR n a b c))).sum
def sB2 (n : Nat) (a b : Int) : List ZQ := (dL 25).flatMap (sqB n a b)
def sA1 (n : Nat) (a : Int) : Nat := ((dL 25).map (sA2 n a)).sum
def sB1 (n : Nat) (a : Int) : List ZQ := (dL 25).flatMap (sB2 n a)
def sAll (n : Nat) : Nat := ((dL 25).map (sA1 n)).sum
def sBs (n : Nat) : List ZQ := (dL 25).flatMap (sB1 n)
theorem qj_end : qj (((0 : Nat) : Int) - 13) < -12 := by decide
theorem qj_nend {m : Nat} (h : m ≤ 24) : ¬ qj (((m + 1 : Nat) : Int) - 13) < -12 := by
  rw [show (-12 : Int32) = qj (-12) from rfl, qj_lt (qR_of (by omega) (by omega)) (qR_of (by decide) (by decide))]
  omega
theorem m_row32 {n : Nat} (hn : n < 151) (p2 p3 : Int32) (K10 : Int32 → Int32 → Int32 → QMem → Option (Int32 × QMem)) (K21 : Int32 → Int32 → Int32 → Int32 → QMem → Option (Int32 × QMem)) {a b : Int} (ha : -12 ≤ a ∧ a ≤ 12) (hb : -12 ≤ b ∧ b ≤ 12) {τ : QMem} (hR : mRt τ) : ∀ (m f A cnt : Nat), m ≤ 25 → m < f →
    fX12_rowsOf_L32 (nI n) p2 p3 K10 K21 f (nI A) (nI cnt) (qj a) (qj b) (qj ((m : Int) - 13)) τ = hitK (hitF p2 p3 cnt ((dL m).flatMap (sqB n a b))) τ (K21 (nI (A + ((dL m).map fun c => sqW (rI (sqR n a b c))).sum)) (nI (cnt + ((dL m).flatMap (sqB n a b)).length)) (qj a) (qj (b - 1)) τ) := by
  intro m
  induction m with
  | zero =>
    intro f A cnt h1 h2
    obtain ⟨f, rfl⟩ : ∃ k, f = k + 1 := ⟨f - 1, by omega⟩
    rw [fX12_rowsOf_L32, if_pos qj_end]
    rw [show qj b + -1 = qj (b - 1) by rw [show (-1 : Int32) = qj (-1) from rfl, qj_add]; rfl]
    rfl
  | succ m ih =>
    intro f A cnt h1 h2
    obtain ⟨f, rfl⟩ : ∃ k, f = k + 1 := ⟨f - 1, by omega⟩
    have e1 : ((m + 1 : Nat) : Int) - 13 = (m : Int) - 12 := by omega
    have e2 : (m : Int) - 12 - 1 = (m : Int) - 13 := by omega
    rw [e1, m_row1 hn p2 p3 K10 K21 ha hb (c := (m : Int) - 12) (by omega) f A cnt hR, e2, ih f _ _ (by omega) (by omega)]
    show _ = hitK (hitF p2 p3 cnt (sqB n a b ((m : Int) - 12) ++ (dL m).flatMap (sqB n a b))) τ (K21 (nI (A + (sqW (rI (sqR n a b ((m : Int) - 12))) + ((dL m).map fun c => sqW (rI (sqR n a b c))).sum))) (nI (cnt + (sqB n a b ((m : Int) - 12) ++ (dL m).flatMap (sqB n a b)).length)) (qj a) (qj (b - 1)) τ)
    rw [hitK_app, List.length_append, Nat.add_assoc, Nat.add_assoc]
theorem m_row21 {n : Nat} (hn : n < 151) (p2 p3 : Int32) (K10 : Int32 → Int32 → Int32 → QMem → Option (Int32 × QMem)) {a : Int} (ha : -12 ≤ a ∧ a ≤ 12) {τ : QMem} (hR : mRt τ) : ∀ (m f A cnt : Nat), m ≤ 25 → m < f →
    fX12_rowsOf_L21 (nI n) p2 p3 K10 f (nI A) (nI cnt) (qj a) (qj ((m : Int) - 13)) τ = hitK (hitF p2 p3 cnt ((dL m).flatMap (sB2 n a))) τ (K10 (nI (A + ((dL m).map (sA2 n a)).sum)) (nI (cnt + ((dL m).flatMap (sB2 n a)).length)) (qj (a - 1)) τ) := by
  intro m
  induction m with
  | zero =>
    intro f A cnt h1 h2
    obtain ⟨f, rfl⟩ : ∃ k, f = k + 1 := ⟨f - 1, by omega⟩
    rw [fX12_rowsOf_L21, if_pos qj_end]
    rw [show qj a + -1 = qj (a - 1) by rw [show (-1 : Int32) = qj (-1) from rfl, qj_add]; rfl]
    rfl
  | succ m ih =>
    intro f A cnt h1 h2
    obtain ⟨f, rfl⟩ : ∃ k, f = k + 1 := ⟨f - 1, by omega⟩
    have e1 : ((m + 1 : Nat) : Int) - 13 = (m : Int) - 12 := by omega
    have e2 : (m : Int) - 12 - 1 = (m : Int) - 13 := by omega
    rw [fX12_rowsOf_L21, if_neg (qj_nend (by omega)), e1, show (12 : Int32) = qj (((25 : Nat) : Int) - 13) from rfl, m_row32 hn p2 p3 K10 _ ha (b := (m : Int) - 12) (by omega) hR 25 FU A cnt (Nat.le_refl _) (by unfold FU; omega), e2, ih f _ _ (by omega) (by omega)]
    show _ = hitK (hitF p2 p3 cnt (sB2 n a ((m : Int) - 12) ++ (dL m).flatMap (sB2 n a))) τ (K10 (nI (A + (sA2 n a ((m : Int) - 12) + ((dL m).map (sA2 n a)).sum))) (nI (cnt + (sB2 n a ((m : Int) - 12) ++ (dL m).flatMap (sB2 n a)).length)) (qj (a - 1)) τ)
    rw [hitK_app, List.length_append, ← Nat.add_assoc, ← Nat.add_assoc]
    rfl
theorem m_row10 {n : Nat} (hn : n < 151) (p2 p3 : Int32) {τ : QMem} (hR : mRt τ) : ∀ (m f A cnt : Nat), m ≤ 25 → m < f →
    fX12_rowsOf_L10 (nI n) p2 p3 f (nI A) (nI cnt) (qj ((m : Int) - 13)) τ = hitK (hitF p2 p3 cnt ((dL m).flatMap (sB1 n))) τ (if p2 = -2 then some (nI (A + ((dL m).map (sA1 n)).sum), τ) else if p2 = -1 then some (nI (cnt + ((dL m).flatMap (sB1 n)).length), τ) else some (-1003, τ)) := by
  intro m
  induction m with
  | zero =>
    intro f A cnt h1 h2
    obtain ⟨f, rfl⟩ : ∃ k, f = k + 1 := ⟨f - 1, by omega⟩
    rw [fX12_rowsOf_L10, if_pos qj_end]
    rfl
  | succ m ih =>
    intro f A cnt h1 h2
    obtain ⟨f, rfl⟩ : ∃ k, f = k + 1 := ⟨f - 1, by omega⟩
    have e1 : ((m + 1 : Nat) : Int) - 13 = (m : Int) - 12 := by omega
    have e2 : (m : Int) - 12 - 1 = (m : Int) - 13 := by omega
    rw [fX12_rowsOf_L10, if_neg (qj_nend (by omega)), e1, show (12 : Int32) = qj (((25 : Nat) : Int) - 13) from rfl, m_row21 hn p2 p3 _ (a := (m : Int) - 12) (by omega) hR 25 FU A cnt (Nat.le_refl _) (by unfold FU; omega), e2, ih f _ _ (by omega) (by omega)]
    show _ = hitK (hitF p2 p3 cnt (sB1 n ((m : Int) - 12) ++ (dL m).flatMap (sB1 n))) τ (if p2 = -2 then some (nI (A + (sA1 n ((m : Int) - 12) + ((dL m).map (sA1 n)).sum)), τ) else if p2 = -1 then some (nI (cnt + (sB1 n ((m : Int) - 12) ++ (dL m).flatMap (sB1 n)).length), τ) else some (-1003, τ))
    rw [hitK_app, List.length_append, ← Nat.add_assoc, ← Nat.add_assoc]
    rfl
theorem m_rows {n : Nat} (hn : n < 151) (p2 p3 : Int32) {τ : QMem} (hR : mRt τ) : fX12_rowsOf (nI n) p2 p3 τ = hitK (hitF p2 p3 0 (sBs n)) τ (if p2 = -2 then some (nI (sAll n), τ) else if p2 = -1 then some (nI (sBs n).length, τ) else some (-1003, τ)) := by
  have h := m_row10 hn p2 p3 hR 25 FU 0 0 (Nat.le_refl _) (by unfold FU; omega)
  rw [Nat.zero_add, Nat.zero_add] at h
  exact h
