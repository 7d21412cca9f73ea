/-! ALL HEADS OF A NORM, gathered -/
def hgP (c : Nat) : Prop := c = 44 ∨ c = 45 ∨ c = 46 ∨ c = 57 ∨ c = 68
theorem hg57 {c : Nat} (h : c = 57 ∨ c = 57 + 11) : hgP c := by unfold hgP; omega
theorem sm24 {a b c d : Int} (ha : -24 ≤ a ∧ a ≤ 24) (hb : -24 ≤ b ∧ b ≤ 24) (hc : -24 ≤ c ∧ c ≤ 24) (hd : -24 ≤ d ∧ d ≤ 24) : zS (a, b, c, d) := by
  have := mul_bd ha ha
  have := mul_bd hb hb
  have := mul_bd hc hc
  have := mul_bd hd hd
  unfold zS zN4
  simp only
  omega
theorem xRt_same {P : Nat → Prop} {σ τ : QMem} (h : xRt σ) (hs : qSame P σ τ) (h1 : ¬ P 85) : xRt τ := by
  unfold xRt
  rw [hs 85 h1]
  exact h
def zOf2 (s : Int32) (a b c d o : Int) : List ZQ := if 0 < d ∧ (o < a ∨ zHb s (a, b, c, -d) = true) then [(a, b, c, -d)] else []
theorem c_off85 {σ : QMem} {L : List ZQ} {s : Int32} {a b c d o : Int} (p4 : Int32) (hL : xRw σ 57 L) (ha : -24 ≤ a ∧ a ≤ 24) (hb : -24 ≤ b ∧ b ≤ 24) (hc : -24 ≤ c ∧ c ≤ 24) (hd : 0 ≤ d ∧ d ≤ 24) (ho : -1000 ≤ o ∧ o ≤ 1000) (pb : (a - b) % 2 = 0) (pc : (a - c) % 2 = 0) (pd : (a - d) % 2 = 0) (hl : L.length + (zOf2 s a b c d o).length ≤ 240) :
    ∃ τ, fX2_offer_J85 (qj a) (qj b) (qj c) p4 s (qj d) (qj o) σ = some τ ∧ xRw τ 57 (L ++ zOf2 s a b c d o) ∧ qSame hgP σ τ := by
  have lq : zL (a, b, c, -d) := by unfold zL; simp only; omega
  have sq : zS (a, b, c, -d) := sm24 ha hb hc (by omega)
  unfold fX2_offer_J85
  rw [qj_neg, c_put, Option.bind_some]
  have f1 : qSame hgP σ (qPut σ 44 (a, b, c, -d)) := qPut_sm _ (Or.inl rfl)
  have L1 : xRw (qPut σ 44 (a, b, c, -d)) 57 L := xRw_same hL (qPut_same σ 44 _) (by decide) (by decide)
  have c1 : (qj d ≤ 0) = (d ≤ 0) := propext (by rw [← qj_0, qj_le (qR_of (by omega) (by omega)) (qR_of (by decide) (by decide))])
  have c2 : (qj o < qj a) = (o < a) := propext (by rw [qj_lt (qR_of (by omega) (by omega)) (qR_of (by omega) (by omega))])
  simp only [c1, c2]
  unfold zOf2 at hl ⊢
  have app : ∀ ρ : QMem, xRw ρ 57 L → L.length + 1 ≤ 240 → qSame hgP σ ρ → ∃ τ, fX2_offer_J118 (qj a) (qj b) (qj c) p4 s (qj d) ρ = some τ ∧ xRw τ 57 (L ++ [(a, b, c, -d)]) ∧ qSame hgP σ τ := by
    intro ρ h1 h2 h3
    obtain ⟨τ, t1, t2, t3⟩ := c_append h1 a b c (-d) (show 4 * (L.length + 1) ≤ xl (57 + 11) by have : xl (57 + 11) = 960 := rfl; omega)
    unfold fX2_offer_J118
    rw [qj_neg, t1]
    exact ⟨τ, rfl, t2, h3.trans (t3.weaken (fun c h => hg57 h))⟩
  by_cases h0 : d ≤ 0
  · rw [if_pos h0, if_neg (by omega), List.append_nil]
    exact ⟨_, rfl, L1, f1⟩
  · rw [if_neg h0]
    by_cases h1 : o < a
    · have pp : 0 < d ∧ (o < a ∨ zHb s (a, b, c, -d) = true) := ⟨by omega, Or.inl h1⟩
      rw [if_pos pp] at hl
      rw [if_pos h1, if_pos pp]
      exact app _ L1 hl f1
    · rw [if_neg h1]
      obtain ⟨τ, t1, t2⟩ := c_isHead s (qPut_at σ 44 (a, b, c, -d)) lq sq
      rw [t1, Option.bind_some]
      simp only [bI_0]
      have f2 : qSame hgP σ τ := f1.trans (t2.weaken (fun c h => by unfold hgP; omega))
      have L2 : xRw τ 57 L := xRw_same L1 t2 (by decide) (by decide)
      cases hh : zHb s (a, b, c, -d)
      · rw [if_pos rfl, if_neg (fun q => by rcases q.2 with q | q; exact h1 q; exact absurd q (by decide)), List.append_nil]
        exact ⟨_, rfl, L2, f2⟩
      · rw [if_neg (by decide), if_pos ⟨by omega, Or.inr rfl⟩]
        rw [hh, if_pos ⟨by omega, Or.inr rfl⟩] at hl
        exact app _ L2 hl f2
theorem c_abs {b : Int} (hb : -24 ≤ b ∧ b ≤ 24) : (if 0 ≤ qj b then qj b else 0 - qj b) = qj (zAb b) := by
  unfold zAb
  have c : (0 ≤ qj b) = (0 ≤ b) := propext (by rw [← qj_0, qj_le (qR_of (by decide) (by decide)) (qR_of (by omega) (by omega))])
  simp only [c]
  split
  · rfl
  · exact qj_sub 0 b
theorem c_offer {σ : QMem} {L : List ZQ} (s : Int32) {a b c r : Int} (hR : xRt σ) (hL : xRw σ 57 L) (ha : 1 ≤ a ∧ a ≤ 24) (hb : -24 ≤ b ∧ b ≤ 24) (hc : -24 ≤ c ∧ c ≤ 24) (hr : -2000 ≤ r ∧ r ≤ 600) (pb : (a - b) % 2 = 0) (pc : (a - c) % 2 = 0) (hl : L.length + (zOff s a b c r).length ≤ 240) :
    ∃ τ, fX2_offer (qj a) (qj b) (qj c) (qj r) s σ = some τ ∧ xRw τ 57 (L ++ zOff s a b c r) ∧ qSame hgP σ τ := by
  have dbd := zLr_bd r a
  have ab := zAb_eq b
  have ac := zAb_eq c
  unfold fX2_offer
  rw [c_root hR (by omega) (by omega), Option.bind_some]
  have c1 : (qj (zLr r a) < 0) = (zLr r a < 0) := propext (by rw [← qj_0, qj_lt (qR_of (by omega) (by omega)) (qR_of (by decide) (by decide))])
  have sqb := mul_bd (m := 24) (n := 24) (a := zLr r a) (b := zLr r a) (by omega) (by omega)
  have c2 : (qj (zLr r a) * qj (zLr r a) = qj r) = (zLr r a * zLr r a = r) := propext (by rw [qj_mul, qj_eq (qR_of (by omega) (by omega)) (qR_of (by omega) (by omega))])
  simp only [c_abs hb, c_abs hc, qj_add, c1, c2]
  have c3 : (qj (zAb b + zAb c + zLr r a) ≤ qj a) = (zAb b + zAb c + zLr r a ≤ a) := propext (by rw [qj_le (qR_of (by omega) (by omega)) (qR_of (by omega) (by omega))])
  have c4 : (qj (zAb b + zAb c + zLr r a) < qj a) = (zAb b + zAb c + zLr r a < a) := propext (by rw [qj_lt (qR_of (by omega) (by omega)) (qR_of (by omega) (by omega))])
  simp only [c3, c4]
  unfold zOff at hl ⊢
  by_cases h1 : zLr r a < 0
  · rw [if_pos h1, if_pos h1, List.append_nil]
    exact ⟨σ, rfl, hL, qSame.refl _ _⟩
  · rw [if_neg h1] at hl ⊢
    rw [if_neg h1]
    by_cases h2 : zLr r a * zLr r a = r
    · rw [if_pos h2] at hl ⊢
      rw [if_pos h2]
      by_cases h3 : zAb b + zAb c + zLr r a ≤ a
      · rw [if_pos h3] at hl ⊢
        rw [if_pos h3, c_put, Option.bind_some]
        have pd : (a - zLr r a) % 2 = 0 := by
          rcases zLr_spec (r := r) (a := a) (by omega) with ⟨k, -⟩ | ⟨-, k, -⟩
          · omega
          · exact k
        have lq : zL (a, b, c, zLr r a) := by unfold zL; simp only; omega
        have sq : zS (a, b, c, zLr r a) := sm24 (by omega) hb hc (by omega)
        have f1 : qSame hgP σ (qPut σ 44 (a, b, c, zLr r a)) := qPut_sm _ (Or.inl rfl)
        have L1 : xRw (qPut σ 44 (a, b, c, zLr r a)) 57 L := xRw_same hL (qPut_same σ 44 _) (by decide) (by decide)
        rw [List.length_append] at hl
        have fold2 : (if 0 < zLr r a ∧ (zAb b + zAb c + zLr r a < a ∨ zHb s (a, b, c, -zLr r a) = true) then [((a, b, c, -zLr r a) : ZQ)] else []) = zOf2 s a b c (zLr r a) (zAb b + zAb c + zLr r a) := rfl
        rw [fold2] at hl ⊢
        have app : ∀ ρ : QMem, xRw ρ 57 L → L.length + 1 + (zOf2 s a b c (zLr r a) (zAb b + zAb c + zLr r a)).length ≤ 240 → qSame hgP σ ρ → ∃ τ, fX2_offer_J73 (qj a) (qj b) (qj c) (qj r) s (qj (zLr r a)) (qj (zAb b + zAb c + zLr r a)) ρ = some τ ∧ xRw τ 57 (L ++ ([(a, b, c, zLr r a)] ++ zOf2 s a b c (zLr r a) (zAb b + zAb c + zLr r a))) ∧ qSame hgP σ τ := by
          intro ρ k1 k2 k3
          obtain ⟨τ, t1, t2, t3⟩ := c_append k1 a b c (zLr r a) (show 4 * (L.length + 1) ≤ xl (57 + 11) by have : xl (57 + 11) = 960 := rfl; omega)
          obtain ⟨π, p1, p2, p3⟩ := c_off85 (s := s) (qj r) t2 (by omega) hb hc (show 0 ≤ zLr r a ∧ zLr r a ≤ 24 by omega) (show -1000 ≤ zAb b + zAb c + zLr r a ∧ zAb b + zAb c + zLr r a ≤ 1000 by omega) pb pc pd (by rw [List.length_append, List.length_singleton]; exact k2)
          unfold fX2_offer_J73
          rw [t1, Option.bind_some, p1]
          rw [List.append_assoc] at p2
          exact ⟨π, rfl, p2, (k3.trans (t3.weaken (fun c h => hg57 h))).trans p3⟩
        by_cases h4 : zAb b + zAb c + zLr r a < a
        · rw [if_pos (Or.inl h4)] at hl ⊢
          rw [if_pos h4]
          exact app _ L1 (by rw [List.length_singleton] at hl; omega) f1
        · rw [if_neg h4]
          obtain ⟨τ, t1, t2⟩ := c_isHead s (qPut_at σ 44 (a, b, c, zLr r a)) lq sq
          rw [t1, Option.bind_some]
          simp only [bI_0]
          have f2 : qSame hgP σ τ := f1.trans (t2.weaken (fun c h => by unfold hgP; omega))
          have L2 : xRw τ 57 L := xRw_same L1 t2 (by decide) (by decide)
          cases hh : zHb s (a, b, c, zLr r a)
          · have nn : ¬ (zAb b + zAb c + zLr r a < a ∨ false = true) := fun q => by rcases q with q | q; exact h4 q; exact absurd q (by decide)
            rw [hh, if_neg nn] at hl
            rw [if_pos rfl, if_neg nn, List.nil_append]
            obtain ⟨π, p1, p2, p3⟩ := c_off85 (s := s) (qj r) L2 (by omega) hb hc (show 0 ≤ zLr r a ∧ zLr r a ≤ 24 by omega) (show -1000 ≤ zAb b + zAb c + zLr r a ∧ zAb b + zAb c + zLr r a ≤ 1000 by omega) pb pc pd (by rw [List.length_nil] at hl; omega)
            exact ⟨π, p1, p2, f2.trans p3⟩
          · rw [hh, if_pos (Or.inr rfl)] at hl
            rw [if_neg (by decide), if_pos (Or.inr rfl)]
            exact app _ L2 (by rw [List.length_singleton] at hl; omega) f2
      · rw [if_neg h3, if_neg h3, List.append_nil]
        exact ⟨σ, rfl, hL, qSame.refl _ _⟩
    · rw [if_neg h2, if_neg h2, List.append_nil]
      exact ⟨σ, rfl, hL, qSame.refl _ _⟩
theorem zDn_drop {m : Int} {i : Nat} (h : (i : Int) ≤ m) : (zDn m).drop i = (m - 2 * (i : Int)) :: (zDn m).drop (i + 1) := by
  have hlen : (zDn m).length = (m + 1).toNat := by unfold zDn; rw [List.length_map, List.length_range]
  rw [List.drop_eq_getElem_cons (by rw [hlen]; omega)]
  congr 1
  unfold zDn
  rw [List.getElem_map, List.getElem_range]
theorem zDn_end {m : Int} {i : Nat} (h : m < (i : Int)) : (zDn m).drop i = [] := by
  have hlen : (zDn m).length = (m + 1).toNat := by unfold zDn; rw [List.length_map, List.length_range]
  rw [List.drop_eq_nil_iff, hlen]
  omega
theorem gt_loopC {s : Int32} {a b rB : Int} (p1 v4 v5 : Int32) (K10 : Int32 → QMem → Option QMem) (K52 : Int32 → Int32 → Int32 → Int32 → QMem → Option QMem) (ha : 1 ≤ a ∧ a ≤ 24) (hb : -24 ≤ b ∧ b ≤ 24) (hr : -1000 ≤ rB ∧ rB ≤ 600) (pb : (a - b) % 2 = 0) : ∀ (m i n : Nat) (σ : QMem) (L : List ZQ), (zLr rB a + 1 - i ≤ m) → m < n → 0 ≤ zLr rB a + 1 - (i : Int) → xRt σ → xRw σ 57 L → L.length + (((zDn (zLr rB a)).drop i).flatMap fun c => zOff s a b c (rB - c * c)).length ≤ 240 →
    ∃ τ, fX2_gather_L83 p1 s K10 K52 n (qj a) v4 v5 (qj b) (qj rB) (qj (zLr rB a)) (qj (zLr rB a - 2 * (i : Int))) σ = K52 (qj a) v4 v5 (qj b + -2) τ ∧ xRw τ 57 (L ++ ((zDn (zLr rB a)).drop i).flatMap fun c => zOff s a b c (rB - c * c)) ∧ qSame hgP σ τ := by
  have dbd := zLr_bd rB a
  intro m
  induction m with
  | zero =>
    intro i n σ L hm hn h0 hR hL hl
    obtain ⟨n, rfl⟩ : ∃ m, n = m + 1 := ⟨n - 1, by omega⟩
    have c1 : qj (zLr rB a - 2 * (i : Int)) < -qj (zLr rB a) := by
      rw [qj_neg, qj_lt (qR_of (by omega) (by omega)) (qR_of (by omega) (by omega))]
      omega
    unfold fX2_gather_L83
    rw [if_pos c1, zDn_end (by omega)]
    exact ⟨σ, rfl, by rw [List.flatMap_nil, List.append_nil]; exact hL, qSame.refl _ _⟩
  | succ m ih =>
    intro i n σ L hm hn h0 hR hL hl
    obtain ⟨n, rfl⟩ : ∃ m, n = m + 1 := ⟨n - 1, by omega⟩
    by_cases he : zLr rB a + 1 = (i : Int)
    · have c1 : qj (zLr rB a - 2 * (i : Int)) < -qj (zLr rB a) := by
        rw [qj_neg, qj_lt (qR_of (by omega) (by omega)) (qR_of (by omega) (by omega))]
        omega
      unfold fX2_gather_L83
      rw [if_pos c1, zDn_end (by omega)]
      exact ⟨σ, rfl, by rw [List.flatMap_nil, List.append_nil]; exact hL, qSame.refl _ _⟩
    · have c1 : ¬ qj (zLr rB a - 2 * (i : Int)) < -qj (zLr rB a) := by
        rw [qj_neg, qj_lt (qR_of (by omega) (by omega)) (qR_of (by omega) (by omega))]
        omega
      have mem : zLr rB a - 2 * (i : Int) ∈ zDn (zLr rB a) := zDn_mem.mpr (by omega)
      obtain ⟨pc, hsq⟩ := (zLr_dn (by omega)).mp mem
      have s0 := sq_nn (zLr rB a - 2 * (i : Int))
      have sqb := mul_bd (m := 24) (n := 24) (a := zLr rB a - 2 * (i : Int)) (b := zLr rB a - 2 * (i : Int)) (by omega) (by omega)
      rw [zDn_drop (by omega), List.flatMap_cons, List.length_append] at hl
      unfold fX2_gather_L83
      rw [if_neg c1, qj_mul, qj_sub]
      obtain ⟨ρ, r1, r2, r3⟩ := c_offer s (c := zLr rB a - 2 * (i : Int)) hR hL ha hb (by omega) (by omega) pb pc (by omega : L.length + (zOff s a b (zLr rB a - 2 * (i : Int)) (rB - (zLr rB a - 2 * (i : Int)) * (zLr rB a - 2 * (i : Int)))).length ≤ 240)
      rw [r1, Option.bind_some]
      have e2 : qj (zLr rB a - 2 * (i : Int)) + -2 = qj (zLr rB a - 2 * ((i + 1 : Nat) : Int)) := by
        show qj _ + qj (-2) = _
        rw [qj_add]
        congr 1
        omega
      rw [e2]
      obtain ⟨τ, t1, t2, t3⟩ := ih (i + 1) n ρ _ (by omega) (by omega) (by omega) (xRt_same hR r3 (by unfold hgP; decide)) r2 (by rw [List.length_append]; omega)
      refine ⟨τ, t1, ?_, r3.trans t3⟩
      rw [zDn_drop (by omega), List.flatMap_cons, ← List.append_assoc]
      exact t2
theorem gt_loopB {s : Int32} {a rA : Int} (p1 : Int32) (K10 : Int32 → QMem → Option QMem) (ha : 1 ≤ a ∧ a ≤ 24) (hr : -1000 ≤ rA ∧ rA ≤ 600) : ∀ (m i n : Nat) (σ : QMem) (L : List ZQ), (zLr rA a + 1 - i ≤ m) → m < n → 0 ≤ zLr rA a + 1 - (i : Int) → xRt σ → xRw σ 57 L → L.length + (((zDn (zLr rA a)).drop i).flatMap fun b => zClc s a b (rA - b * b)).length ≤ 240 →
    ∃ τ, fX2_gather_L52 p1 s K10 n (qj a) (qj rA) (qj (zLr rA a)) (qj (zLr rA a - 2 * (i : Int))) σ = K10 (qj a + -1) τ ∧ xRw τ 57 (L ++ ((zDn (zLr rA a)).drop i).flatMap fun b => zClc s a b (rA - b * b)) ∧ qSame hgP σ τ := by
  have dbd := zLr_bd rA a
  intro m
  induction m with
  | zero =>
    intro i n σ L hm hn h0 hR hL hl
    obtain ⟨n, rfl⟩ : ∃ m, n = m + 1 := ⟨n - 1, by omega⟩
    have c1 : qj (zLr rA a - 2 * (i : Int)) < -qj (zLr rA a) := by
      rw [qj_neg, qj_lt (qR_of (by omega) (by omega)) (qR_of (by omega) (by omega))]
      omega
    unfold fX2_gather_L52
    rw [if_pos c1, zDn_end (by omega)]
    exact ⟨σ, rfl, by rw [List.flatMap_nil, List.append_nil]; exact hL, qSame.refl _ _⟩
  | succ m ih =>
    intro i n σ L hm hn h0 hR hL hl
    obtain ⟨n, rfl⟩ : ∃ m, n = m + 1 := ⟨n - 1, by omega⟩
    by_cases he : zLr rA a + 1 = (i : Int)
    · have c1 : qj (zLr rA a - 2 * (i : Int)) < -qj (zLr rA a) := by
        rw [qj_neg, qj_lt (qR_of (by omega) (by omega)) (qR_of (by omega) (by omega))]
        omega
      unfold fX2_gather_L52
      rw [if_pos c1, zDn_end (by omega)]
      exact ⟨σ, rfl, by rw [List.flatMap_nil, List.append_nil]; exact hL, qSame.refl _ _⟩
    · have c1 : ¬ qj (zLr rA a - 2 * (i : Int)) < -qj (zLr rA a) := by
        rw [qj_neg, qj_lt (qR_of (by omega) (by omega)) (qR_of (by omega) (by omega))]
        omega
      have mem : zLr rA a - 2 * (i : Int) ∈ zDn (zLr rA a) := zDn_mem.mpr (by omega)
      obtain ⟨pb, hsq⟩ := (zLr_dn (by omega)).mp mem
      have s0 := sq_nn (zLr rA a - 2 * (i : Int))
      have sqb := mul_bd (m := 24) (n := 24) (a := zLr rA a - 2 * (i : Int)) (b := zLr rA a - 2 * (i : Int)) (by omega) (by omega)
      rw [zDn_drop (by omega), List.flatMap_cons, List.length_append] at hl
      unfold fX2_gather_L52
      rw [if_neg c1, qj_mul, qj_sub, c_root hR (by omega) (by omega), Option.bind_some]
      generalize hb : zLr rA a - 2 * (i : Int) = b at *
      have db := zLr_bd (rA - b * b) a
      obtain ⟨ρ, r1, r2, r3⟩ := gt_loopC (s := s) p1 (qj rA) (qj (zLr rA a)) K10 (fX2_gather_L52 p1 s K10 n) ha (b := b) (rB := rA - b * b) (by omega) (by omega) pb 30 0 FU σ L (by omega) (by unfold FU; omega) (by omega) hR hL (by rw [List.drop_zero]; unfold zClc at hl; omega)
      have e0 : zLr (rA - b * b) a - 2 * ((0 : Nat) : Int) = zLr (rA - b * b) a := by omega
      rw [e0] at r1
      rw [List.drop_zero] at r2
      have e2 : qj b + -2 = qj (zLr rA a - 2 * ((i + 1 : Nat) : Int)) := by
        show qj _ + qj (-2) = _
        rw [qj_add]
        congr 1
        omega
      rw [e2] at r1
      simp only
      rw [r1]
      obtain ⟨τ, t1, t2, t3⟩ := ih (i + 1) n ρ _ (by omega) (by omega) (by omega) (xRt_same hR r3 (by unfold hgP; decide)) r2 (by rw [List.length_append]; unfold zClc at hl ⊢; omega)
      refine ⟨τ, t1, ?_, r3.trans t3⟩
      rw [zDn_drop (by omega), List.flatMap_cons, ← List.append_assoc, hb]
      exact t2
theorem zAs_drop {i : Nat} (h : i < 24) : zAs.drop i = (24 - (i : Int)) :: zAs.drop (i + 1) := by
  have : ∀ i, i < 24 → zAs.drop i = (24 - (i : Int)) :: zAs.drop (i + 1) := by decide +kernel
  exact this i h
theorem gt_loopA {s : Int32} {nn : Nat} (hnn : nn ≤ 150) : ∀ (m i n : Nat) (σ : QMem) (L : List ZQ), i + m = 24 → m < n → xRt σ → xRw σ 57 L → L.length + ((zAs.drop i).flatMap fun a => zCla s nn a).length ≤ 240 →
    ∃ τ, fX2_gather_L10 (nI nn) s n (qj (24 - (i : Int))) σ = some τ ∧ xRw τ 57 (L ++ (zAs.drop i).flatMap fun a => zCla s nn a) ∧ qSame hgP σ τ := by
  intro m
  induction m with
  | zero =>
    intro i n σ L hm hn hR hL hl
    obtain ⟨n, rfl⟩ : ∃ m, n = m + 1 := ⟨n - 1, by omega⟩
    have : i = 24 := by omega
    subst this
    unfold fX2_gather_L10
    rw [if_pos (by decide)]
    exact ⟨σ, rfl, by rw [show zAs.drop 24 = [] from rfl, List.flatMap_nil, List.append_nil]; exact hL, qSame.refl _ _⟩
  | succ m ih =>
    intro i n σ L hm hn hR hL hl
    obtain ⟨n, rfl⟩ : ∃ m, n = m + 1 := ⟨n - 1, by omega⟩
    rw [zAs_drop (by omega), List.flatMap_cons, List.length_append] at hl
    rw [zAs_drop (by omega), List.flatMap_cons, ← List.append_assoc]
    unfold fX2_gather_L10
    generalize ha : 24 - (i : Int) = a at *
    have sqb := mul_bd (m := 24) (n := 24) (a := a) (b := a) (by omega) (by omega)
    have s0 := sq_nn a
    have c0 : ¬ qj a ≤ 0 := by rw [← qj_0, qj_le (qR_of (by omega) (by omega)) (qR_of (by decide) (by decide))]; omega
    have e4 : (4 : Int32) * nI nn - qj (a * a) = qj (4 * (nn : Int) - a * a) := by
      rw [qj_nat]
      show qj 4 * qj _ - _ = _
      rw [qj_mul, qj_sub]
    have ea : qj a + -1 = qj (24 - ((i + 1 : Nat) : Int)) := by
      show qj _ + qj (-1) = _
      rw [qj_add]
      congr 1
      omega
    have c1 : (qj (4 * (nn : Int) - a * a) < 0) = (4 * (nn : Int) - a * a < 0) := propext (by rw [← qj_0, qj_lt (qR_of (by omega) (by omega)) (qR_of (by decide) (by decide))])
    have c2 : (qj (4 * (nn : Int) - a * a) ≤ qj (a * a)) = (4 * (nn : Int) - a * a ≤ a * a) := propext (by rw [qj_le (qR_of (by omega) (by omega)) (qR_of (by omega) (by omega))])
    rw [if_neg c0]
    simp only [qj_mul, e4, c1, c2]
    by_cases h1 : 4 * (nn : Int) - a * a < 0
    · have e : zCla s nn a = [] := by unfold zCla; rw [if_pos h1]
      rw [e, List.length_nil] at hl
      rw [if_pos h1, e]
      unfold fX2_gather_J121
      rw [ea]
      obtain ⟨τ, t1, t2, t3⟩ := ih (i + 1) n σ L (by omega) (by omega) hR hL (by omega)
      exact ⟨τ, t1, by rw [List.append_nil]; exact t2, t3⟩
    · rw [if_neg h1]
      by_cases h2 : 4 * (nn : Int) - a * a ≤ a * a
      · have e : zCla s nn a = zClb s a (4 * (nn : Int) - a * a) := by unfold zCla; rw [if_neg h1, if_pos h2]
        rw [e] at hl
        rw [if_pos h2, c_root hR (by omega) (by omega), Option.bind_some, e]
        have db := zLr_bd (4 * (nn : Int) - a * a) a
        obtain ⟨ρ, r1, r2, r3⟩ := gt_loopB (s := s) (nI nn) (fX2_gather_L10 (nI nn) s n) (a := a) (rA := 4 * (nn : Int) - a * a) (by omega) (by omega) 30 0 FU σ L (by omega) (by unfold FU; omega) (by omega) hR hL (by rw [List.drop_zero]; unfold zClb at hl; omega)
        have e0 : zLr (4 * (nn : Int) - a * a) a - 2 * ((0 : Nat) : Int) = zLr (4 * (nn : Int) - a * a) a := by omega
        rw [e0, ea] at r1
        rw [List.drop_zero] at r2
        simp only
        rw [r1]
        obtain ⟨τ, t1, t2, t3⟩ := ih (i + 1) n ρ _ (by omega) (by omega) (xRt_same hR r3 (by unfold hgP; decide)) r2 (by rw [List.length_append]; unfold zClb at hl; omega)
        exact ⟨τ, t1, t2, r3.trans t3⟩
      · have e : zCla s nn a = [] := by unfold zCla; rw [if_neg h1, if_neg h2]
        rw [e, List.length_nil] at hl
        rw [if_neg h2, e]
        unfold fX2_gather_J121
        rw [ea]
        obtain ⟨τ, t1, t2, t3⟩ := ih (i + 1) n σ L (by omega) (by omega) hR hL (by omega)
        exact ⟨τ, t1, by rw [List.append_nil]; exact t2, t3⟩
theorem c_gather {σ : QMem} (s : Int32) {n : Nat} (hn : n ≤ 150) (h0 : 0 < n) (hR : xRt σ) : ∃ τ, fX2_gather (nI n) s σ = some τ ∧ xRw τ 57 (zCl s n) ∧ qSame hgP σ τ := by
  obtain ⟨ρ, r1, r2, r3⟩ := c_clear 57 σ
  have r3' : qSame hgP σ ρ := r3.weaken (fun c h => by unfold hgP; omega)
  unfold fX2_gather
  rw [r1, Option.bind_some]
  obtain ⟨τ, t1, t2, t3⟩ := gt_loopA (s := s) hn 24 0 FU ρ [] rfl (by unfold FU; omega) (xRt_same hR r3' (by unfold hgP; decide)) r2 (by rw [List.drop_zero, List.length_nil, Nat.zero_add]; exact zCl_240 hn h0)
  exact ⟨τ, t1, t2, r3'.trans t3⟩
