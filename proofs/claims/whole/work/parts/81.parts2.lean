/-! THE TEXT, both sides: all parts of put -/
def sqS (x : Nat → Int) : Nat → Int
  | 0 => 0
  | k + 1 => sqS x k + x k * x k
theorem sqS_congr {x y : Nat → Int} : ∀ i, (∀ k, k < i → x k = y k) → sqS x i = sqS y i := by
  intro i
  induction i with
  | zero => intro _; rfl
  | succ i ih => intro h; rw [sqS, sqS, ih (fun k hk => h k (by omega)), h i (by omega)]
theorem m_skip68 {c p : Nat} (hc : c < 24) {μ : QMem} (h28 : μ 28 28 = 1) : ∀ (m i f : Nat), i + m = 4 → m < f → fX12_readsClause_L68 (nI c) f (nI p) (nI i) μ = some μ := by
  have m24 : ml 24 = 24 := rfl
  intro m
  induction m with
  | zero =>
    intro i f hi hf
    obtain ⟨f, rfl⟩ : ∃ k, f = k + 1 := ⟨f - 1, by omega⟩
    have : i = 4 := by omega
    subst this
    rw [fX12_readsClause_L68, if_pos (show (4 : Int32) ≤ nI 4 by decide)]
  | succ m ih =>
    intro i f hi hf
    obtain ⟨f, rfl⟩ : ∃ k, f = k + 1 := ⟨f - 1, by omega⟩
    have c4 : ¬ (4 : Int32) ≤ nI i := nI_ge (b := 4) (by omega) (by decide)
    have n0 : ¬ μ 28 28 = 0 := by rw [h28]; decide
    have tp : ∀ a b, fX12_takesPart a b μ = some μ := fun a b => by unfold fX12_takesPart; rw [if_neg n0]
    rw [fX12_readsClause_L68, if_neg c4, if_neg (nI_in (by rw [m24]; exact hc) (by decide))]
    by_cases e : μ 24 (nI c).toNatClampNeg = 1
    · rw [if_pos e, tp, Option.bind_some, show nI i + 1 = nI (i + 1) from nI_1 i]
      exact ih (i + 1) f (by omega) (by omega)
    · rw [if_neg e]
def pD (c j : Nat) : Prop := 6 * c ≤ j ∧ j < 6 * c + 6
def pM1 (c j : Nat) : Prop := j = c
def pM2 (c j : Nat) : Prop := 5 * c ≤ j ∧ j < 5 * c + 5
theorem al_parts {n : Nat} {g : Nat → Nat} (ho : gOk n g) {c : Nat} (hc : c < 24) : ∀ (m i f f2 a q : Nat) (σ μ : QMem) (s : Nat) (x : Nat → Int), i + m = 4 → m < f → m < f2 → Al n g σ μ s → μ 24 c = 1 → a ≤ 24 → q ≤ 576 * i → (i = 4 → q ≤ 600) → (∀ k, k < i → σ 84 (6 * c + (2 + k)) = qj (x k)) → (∀ k, k < i → μ 25 (5 * c + 1 + k) = qj (x k)) → (∀ k, k < i → -24 ≤ x k ∧ x k ≤ 24) → (∀ k, k < i → (x 0 - x k) % 2 = 0) → (1 ≤ i → a = (x 0).natAbs) → ((q : Nat) : Int) = sqS x i →
    (∃ σ2 μ2, fX8_readParts_L7 (nI c) f (nI a) (nI q) (nI i) σ = some (0, σ2) ∧ fX12_readsClause_L68 (nI c) f2 (nI (5 * c)) (nI i) μ = some μ2 ∧ Ft n g σ2 μ2 ∧ fD (pD c) σ σ2 ∧ fM (pM1 c) (pM2 c) μ μ2) ∨
    (∃ (X : ZQ) (σ2 μ2 : QMem) (s2 : Nat), qV X ∧ fX8_readParts_L7 (nI c) f (nI a) (nI q) (nI i) σ = some (1, σ2) ∧ fX12_readsClause_L68 (nI c) f2 (nI (5 * c)) (nI i) μ = some μ2 ∧ Al n g σ2 μ2 s2 ∧ mAt σ2 84 (6 * c + 2) X ∧ mAt μ2 25 (5 * c + 1) X ∧ fD (fun j => 6 * c + 2 ≤ j ∧ j < 6 * c + 6) σ σ2 ∧ fM (fun _ => False) (fun j => 5 * c + 1 ≤ j ∧ j < 5 * c + 5) μ μ2) := by
  have m24 : ml 24 = 24 := rfl
  intro m
  induction m with
  | zero =>
    intro i f f2 a q σ μ s x hi hf hf2 hA h24 ha hq hq6 hxD hxM hxb hxp hxa hxq
    right
    obtain ⟨f, rfl⟩ : ∃ k, f = k + 1 := ⟨f - 1, by omega⟩
    obtain ⟨f2, rfl⟩ : ∃ k, f2 = k + 1 := ⟨f2 - 1, by omega⟩
    have : i = 4 := by omega
    subst this
    rw [fX8_readParts_L7, fX12_readsClause_L68, if_pos (show (4 : Int32) ≤ nI 4 by decide), if_pos (show (4 : Int32) ≤ nI 4 by decide)]
    refine ⟨(x 0, x 1, x 2, x 3), σ, μ, s, ⟨⟨hxp 1 (by omega), hxp 2 (by omega), hxp 3 (by omega)⟩, ?_⟩, rfl, rfl, hA, ⟨hxD 0 (by omega), hxD 1 (by omega), hxD 2 (by omega), hxD 3 (by omega)⟩, ⟨hxM 0 (by omega), hxM 1 (by omega), hxM 2 (by omega), hxM 3 (by omega)⟩, fD.refl _ _, fM.refl _ _ _⟩
    have h6 := hq6 rfl
    unfold sqS sqS sqS sqS sqS at hxq
    unfold zN4
    simp only
    omega
  | succ m ih =>
    intro i f f2 a q σ μ s x hi hf hf2 hA h24 ha hq hq6 hxD hxM hxb hxp hxa hxq
    obtain ⟨f, rfl⟩ : ∃ k, f = k + 1 := ⟨f - 1, by omega⟩
    obtain ⟨f2, rfl⟩ : ∃ k, f2 = k + 1 := ⟨f2 - 1, by omega⟩
    have c4 : ¬ (4 : Int32) ≤ nI i := nI_ge (b := 4) (by omega) (by decide)
    have kc : (nI c).toNatClampNeg = c := nI_clamp (by omega)
    have g24 : ¬ (nI c < 0 ∨ ml 24 ≤ (nI c).toNatClampNeg) := nI_in (by rw [m24]; exact hc) (by decide)
    rw [kc] at g24
    rw [fX12_readsClause_L68, if_neg c4, kc, if_neg g24, if_pos h24, show nI (5 * c) + 1 = nI (5 * c + 1) from nI_1 _, show nI i + 1 = nI (i + 1) from nI_1 i]
    have ap := al_part (q := q) ho hA hc (show i < 4 by omega) ha (by omega) x hxM hxb hxp hxa (fun e => by
      subst e
      rw [hxq]
      unfold sqS sqS sqS sqS
      omega) f
    rcases ap with ⟨σ2, μ2, w1, w2, w3, w4, w5⟩ | ⟨y, σ2, μ2, s2, yb, yp, y6, w1, w2, w3, w4, w5, w6, w7⟩
    · left
      have w3k := w3
      obtain ⟨-, -, p, -, -, -, p28⟩ := w3
      rw [w1, w2, Option.bind_some, m_skip68 hc p28 m (i + 1) f2 (by omega) (by omega)]
      exact ⟨σ2, μ2, rfl, rfl, w3k, w4.weaken (fun j h => by unfold pD; omega), w5.weaken (fun j h => h.elim) (fun j h => by unfold pM2; omega)⟩
    · rw [w1, w2, Option.bind_some]
      have yy : y.natAbs * y.natAbs ≤ 24 * 24 := Nat.mul_le_mul (by omega) (by omega)
      have ex : ∀ k, k < i → (fun k => if k = i then y else x k) k = x k := fun k hk => by show (if k = i then y else x k) = x k; rw [if_neg (by omega)]
      have ei : (fun k => if k = i then y else x k) i = y := by show (if i = i then y else x i) = y; rw [if_pos rfl]
      generalize hX : (fun k => if k = i then y else x k) = x' at ex ei
      have nat : ((y.natAbs * y.natAbs : Nat) : Int) = y * y := Int.natAbs_mul_self
      have h := ih (i + 1) f f2 (if i = 0 then y.natAbs else a) (q + y.natAbs * y.natAbs) σ2 μ2 s2 x' (by omega) (by omega) (by omega) w3 (by rw [w7.2.2.1 c (fun z => z)]; exact h24) (by split <;> omega) (by omega) (fun e => y6 (by omega)) (fun k hk => by
          by_cases e : k = i
          · subst e; rw [ei]; exact w4
          · rw [ex k (by omega), w6.2.2 _ (by omega)]; exact hxD k (by omega)) (fun k hk => by
          by_cases e : k = i
          · subst e; rw [ei]; exact w5
          · rw [ex k (by omega), w7.2.2.2 _ (by omega)]; exact hxM k (by omega)) (fun k hk => by
          by_cases e : k = i
          · subst e; rw [ei]; exact yb
          · rw [ex k (by omega)]; exact hxb k (by omega)) (fun k hk => by
          by_cases e : k = i
          · subst e
            rw [ei]
            by_cases z : k = 0
            · subst z; rw [ei]; omega
            · rw [ex 0 (by omega)]; exact yp (by omega)
          · rw [ex k (by omega), ex 0 (by omega)]; exact hxp k (by omega)) (fun _ => by
          by_cases z : i = 0
          · subst z; rw [ei, if_pos rfl]
          · rw [if_neg z, ex 0 (by omega)]; exact hxa (by omega)) (by
          rw [sqS, ei, sqS_congr (y := x) i (fun k hk => ex k hk), ← hxq, ← nat]
          exact Int.natCast_add _ _)
      rcases h with ⟨σ3, μ3, v1, v2, v3, v4, v5⟩ | ⟨X, σ3, μ3, s3, vX, v1, v2, v3, v4, v5, v6, v7⟩
      · left
        exact ⟨σ3, μ3, v1, v2, v3, (w6.weaken (fun j h => by unfold pD; omega)).trans v4, (w7.weaken (fun j h => h.elim) (fun j h => by unfold pM2; omega)).trans v5⟩
      · right
        exact ⟨X, σ3, μ3, s3, vX, v1, v2, v3, v4, v5, (w6.weaken (fun j h => by omega)).trans v6, (w7.weaken (fun j h => h) (fun j h => by omega)).trans v7⟩
