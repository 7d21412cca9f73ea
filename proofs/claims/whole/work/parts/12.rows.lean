def fX7_clear (k0 : Nat) (σ : QMem) : Option (QMem) :=
  some (ms σ k0 1 0)
set_option maxHeartbeats 4000000 in
set_option maxRecDepth 100000 in
theorem kX7_clear (l : Launch) (D : va_G) (G : xG) (ub : xB) (σ : QMem) (k0 : Nat) (hk0 : xk k0 = 1) (res : QMem) (h : fX7_clear k0 σ = some res) : Met l yX7_clear (.code yX7_clear cX7_clear 1 none :: lwW) (rmD 0) (xPc D G ub σ [.ref (G.1 k0)]) (xQv D G ub res) 0 0 (xA G) := by
  refine Met.ofW (cc := cX7_clear) (maxL := 1) (ret := none) (by decide) rfl ?_
  intro p e s m args below meth c s₁ B hml hv
  obtain ⟨rfl, h0⟩ := hv
  have hx := B.exec
  have hb := B.bytes
  have hr := B.returns
  have hts := fun (w : Cond) (hw : w ∈ lwW) => atoms_spec (ws := (.code yX7_clear cX7_clear 1 none :: lwW)) B.pre w (List.mem_cons_of_mem _ hw)
  have hown : s.vm.findClass RX7 = some m.cls := findClass_of_methodNamed B.named
  have hlocks := B.notSynchronized
  have hP := h0.1
  have hK := h0.2.1
  have hi := h0.2.2.1
  have hZ := h0.2.2.2
  have hN := h0.2.2.2.2.2.2.2.1
  have hV := h0.2.2.2.2.2.2.2.2.1
  have hS : va_S (xA G) s.heap s.heap [] := va_S.rf
  have hl := lv_entry ([.ref (G.1 k0)]) (n := 1) (Nat.le_of_ble_eq_true rfl)
  rw [lg_entry_eq]
  generalize (lg_sl ([.ref (G.1 k0)]) ++ List.replicate (1 - (lg_sl ([.ref (G.1 k0)])).length) Slot.unset).toArray = ls at hl ⊢
  have hl : lv_has ls 1 [(0, .ref (G.1 k0))] := hl
  unfold fX7_clear at h
  refine lv_aload_n hx hb dX7_clear_0 rfl (lv_at hl 0 rfl) ?_
  refine lv_iconst (v := 0) hx hb dX7_clear_1 (by decide) ?_
  refine va_put (D := D) (ci := 7) (v := .int 0) (ty := .int) (C := RX7) (T := TX7) (N := 2) hx hb hts iwX7 tyX7 tyX7_ok nmX7 hown hK hP (xD hi) hS k0 (xg_1 hk0) rfl 1 (by decide) (hts _ mw_193) (fun _ h9 => h9) rfl (by decide +kernel) rfl rfl (Nat.le_of_ble_eq_true rfl) dX7_clear_2 (fun H locs hP hD hS => ?_)
  have hP : va_P D vwCl (xW G (ms σ k0 1 0)) H := by rw [← xs_1_1 hk0]; exact hP
  obtain rfl := Option.some.inj h
  exact W.vret hx hb hr (fun t ht hW => ⟨⟨_, rfl, rfl, xPre_at h0 hS hP ht hW⟩, hS.F ht⟩) hS.2.2 dX7_clear_5
def fX7_append (k0 : Nat) (p1 : Int32) (p2 : Int32) (p3 : Int32) (p4 : Int32) (σ : QMem) : Option (QMem) :=
  if (4 * (σ k0 1)) < 0 then (some σ) else (if ((4 * (σ k0 1)) + 3) < (Int32.ofNat (xl (k0 + 11))) then (if (4 * (σ k0 1) < 0 ∨ xl (k0 + 11) ≤ (4 * (σ k0 1)).toNatClampNeg) then none else (if ((4 * (σ k0 1)) + 1 < 0 ∨ xl (k0 + 11) ≤ ((4 * (σ k0 1)) + 1).toNatClampNeg) then none else (if ((4 * (σ k0 1)) + 2 < 0 ∨ xl (k0 + 11) ≤ ((4 * (σ k0 1)) + 2).toNatClampNeg) then none else (if ((4 * (σ k0 1)) + 3 < 0 ∨ xl (k0 + 11) ≤ ((4 * (σ k0 1)) + 3).toNatClampNeg) then none else (some (ms (ms (ms (ms (ms σ (k0 + 11) (4 * (σ k0 1)).toNatClampNeg p1) (k0 + 11) ((4 * (σ k0 1)) + 1).toNatClampNeg p2) (k0 + 11) ((4 * (σ k0 1)) + 2).toNatClampNeg p3) (k0 + 11) ((4 * (σ k0 1)) + 3).toNatClampNeg p4) k0 1 (((ms (ms (ms (ms σ (k0 + 11) (4 * (σ k0 1)).toNatClampNeg p1) (k0 + 11) ((4 * (σ k0 1)) + 1).toNatClampNeg p2) (k0 + 11) ((4 * (σ k0 1)) + 2).toNatClampNeg p3) (k0 + 11) ((4 * (σ k0 1)) + 3).toNatClampNeg p4) k0 1) + 1))))))) else (some σ))
set_option maxHeartbeats 4000000 in
set_option maxRecDepth 100000 in
theorem kX7_append (l : Launch) (D : va_G) (G : xG) (ub : xB) (σ : QMem) (k0 : Nat) (hk0 : xk k0 = 1) (p1 : Int32) (p2 : Int32) (p3 : Int32) (p4 : Int32) (res : QMem) (h : fX7_append k0 p1 p2 p3 p4 σ = some res) : Met l yX7_append (.code yX7_append cX7_append 6 none :: lwW) (rmD 0) (xPc D G ub σ [.ref (G.1 k0), .int p1, .int p2, .int p3, .int p4]) (xQv D G ub res) 0 0 (xA G) := by
  refine Met.ofW (cc := cX7_append) (maxL := 6) (ret := none) (by decide) rfl ?_
  intro p e s m args below meth c s₁ B hml hv
  obtain ⟨rfl, h0⟩ := hv
  have hx := B.exec
  have hb := B.bytes
  have hr := B.returns
  have hts := fun (w : Cond) (hw : w ∈ lwW) => atoms_spec (ws := (.code yX7_append cX7_append 6 none :: lwW)) B.pre w (List.mem_cons_of_mem _ hw)
  have hown : s.vm.findClass RX7 = some m.cls := findClass_of_methodNamed B.named
  have hlocks := B.notSynchronized
  have hP := h0.1
  have hK := h0.2.1
  have hi := h0.2.2.1
  have hZ := h0.2.2.2
  have hN := h0.2.2.2.2.2.2.2.1
  have hV := h0.2.2.2.2.2.2.2.2.1
  have hS : va_S (xA G) s.heap s.heap [] := va_S.rf
  have hl := lv_entry ([.ref (G.1 k0), .int p1, .int p2, .int p3, .int p4]) (n := 6) (Nat.le_of_ble_eq_true rfl)
  rw [lg_entry_eq]
  generalize (lg_sl ([.ref (G.1 k0), .int p1, .int p2, .int p3, .int p4]) ++ List.replicate (6 - (lg_sl ([.ref (G.1 k0), .int p1, .int p2, .int p3, .int p4])).length) Slot.unset).toArray = ls at hl ⊢
  have hl : lv_has ls 6 [(0, .ref (G.1 k0)), (1, .int p1), (2, .int p2), (3, .int p3), (4, .int p4)] := hl
  unfold fX7_append at h
  refine lv_iconst (v := 4) hx hb dX7_append_0 (by decide) ?_
  refine lv_aload_n hx hb dX7_append_1 rfl (lv_at hl 0 rfl) ?_
  refine va_get (D := D) (ci := 7) (v := .int (σ k0 1)) (C := RX7) (T := TX7) (N := 2) hx hb hts iwX7 hown hK hP k0 (xg_1 hk0) rfl 1 (by decide) (hts _ mw_193) (fun _ h9 => h9) rfl dX7_append_2 ?_
  refine lv_imul hx hb dX7_append_5 ?_
  refine lv_istore (lv' := [(5, .int (4 * (σ k0 1))), (0, .ref (G.1 k0)), (1, .int p1), (2, .int p2), (3, .int p3), (4, .int p4)]) hx hb dX7_append_6 hl (by decide) rfl (fun ls hl => ?_)
  refine lv_iload hx hb dX7_append_8 (lv_at hl 0 rfl) ?_
  refine lv_if_lt (tgt := 25) hx hb dX7_append_10 (by decide) (fun hcq1 => ?_) (fun hcq1 => ?_)
  · have h := ifp hcq1 h
    obtain rfl := Option.some.inj h
    exact W.vret hx hb hr (fun t ht hW => ⟨⟨_, rfl, rfl, xPre_at h0 hS hP ht hW⟩, hS.F ht⟩) hS.2.2 dX7_append_25
  have h := ifn hcq1 h
  refine lv_iload hx hb dX7_append_13 (lv_at hl 0 rfl) ?_
  refine lv_iconst (v := 3) hx hb dX7_append_15 (by decide) ?_
  refine lv_iadd hx hb dX7_append_16 ?_
  refine lv_aload_n hx hb dX7_append_17 rfl (lv_at hl 1 rfl) ?_
  refine va_get (D := D) (ci := 7) (v := .ref (G.1 (k0 + 11))) (C := RX7) (T := TX7) (N := 2) hx hb hts iwX7 hown hK hP k0 (xg_1 hk0) rfl 0 (by decide) (hts _ mw_192) (fun _ h9 => h9) rfl dX7_append_18 ?_
  refine va_alen hx hb hK hP (k0 + 11) 0 (xg_2 (xf1_0 hk0)) rfl (v := Int32.ofNat (xl (k0 + 11))) rfl dX7_append_21 ?_
  refine lv_icmp_lt (tgt := 26) hx hb dX7_append_22 (by decide) (fun hcq2 => ?_) (fun hcq2 => ?_)
  · have h := ifp hcq2 h
    refine lv_aload_n hx hb dX7_append_26 rfl (lv_at hl 1 rfl) ?_
    refine va_get (D := D) (ci := 7) (v := .ref (G.1 (k0 + 11))) (C := RX7) (T := TX7) (N := 2) hx hb hts iwX7 hown hK hP k0 (xg_1 hk0) rfl 0 (by decide) (hts _ mw_192) (fun _ h9 => h9) rfl dX7_append_27 ?_
    refine lv_iload hx hb dX7_append_30 (lv_at hl 0 rfl) ?_
    refine lv_iload_n hx hb dX7_append_32 rfl (lv_at hl 2 rfl) ?_
    obtain ⟨hiq3, h⟩ := nif h
    refine va_iast hx hb hK hP (xD hi) hS (k0 + 11) 0 (xg_2 (xf1_0 hk0)) rfl hiq3 dX7_append_33 (fun H locs hP hD hS => ?_)
    have hP : va_P D vwCl (xW G (ms σ (k0 + 11) (4 * (σ k0 1)).toNatClampNeg p1)) H := by rw [← xs_2 (xf1_0 hk0)]; exact hP
    refine lv_aload_n hx hb dX7_append_34 rfl (lv_at hl 1 rfl) ?_
    refine va_get (D := D) (ci := 7) (v := .ref (G.1 (k0 + 11))) (C := RX7) (T := TX7) (N := 2) hx hb hts iwX7 hown hK hP k0 (xg_1 hk0) rfl 0 (by decide) (hts _ mw_192) (fun _ h9 => h9) rfl dX7_append_35 ?_
    refine lv_iload hx hb dX7_append_38 (lv_at hl 0 rfl) ?_
    refine lv_iconst (v := 1) hx hb dX7_append_40 (by decide) ?_
    refine lv_iadd hx hb dX7_append_41 ?_
    refine lv_iload_n hx hb dX7_append_42 rfl (lv_at hl 3 rfl) ?_
    obtain ⟨hiq4, h⟩ := nif h
    refine va_iast hx hb hK hP (xD hi) hS (k0 + 11) 0 (xg_2 (xf1_0 hk0)) rfl hiq4 dX7_append_43 (fun H locs hP hD hS => ?_)
    have hP : va_P D vwCl (xW G (ms (ms σ (k0 + 11) (4 * (σ k0 1)).toNatClampNeg p1) (k0 + 11) ((4 * (σ k0 1)) + 1).toNatClampNeg p2)) H := by rw [← xs_2 (xf1_0 hk0)]; exact hP
    refine lv_aload_n hx hb dX7_append_44 rfl (lv_at hl 1 rfl) ?_
    refine va_get (D := D) (ci := 7) (v := .ref (G.1 (k0 + 11))) (C := RX7) (T := TX7) (N := 2) hx hb hts iwX7 hown hK hP k0 (xg_1 hk0) rfl 0 (by decide) (hts _ mw_192) (fun _ h9 => h9) rfl dX7_append_45 ?_
    refine lv_iload hx hb dX7_append_48 (lv_at hl 0 rfl) ?_
    refine lv_iconst (v := 2) hx hb dX7_append_50 (by decide) ?_
    refine lv_iadd hx hb dX7_append_51 ?_
    refine lv_iload_n hx hb dX7_append_52 rfl (lv_at hl 4 rfl) ?_
    obtain ⟨hiq5, h⟩ := nif h
    refine va_iast hx hb hK hP (xD hi) hS (k0 + 11) 0 (xg_2 (xf1_0 hk0)) rfl hiq5 dX7_append_53 (fun H locs hP hD hS => ?_)
    have hP : va_P D vwCl (xW G (ms (ms (ms σ (k0 + 11) (4 * (σ k0 1)).toNatClampNeg p1) (k0 + 11) ((4 * (σ k0 1)) + 1).toNatClampNeg p2) (k0 + 11) ((4 * (σ k0 1)) + 2).toNatClampNeg p3)) H := by rw [← xs_2 (xf1_0 hk0)]; exact hP
    refine lv_aload_n hx hb dX7_append_54 rfl (lv_at hl 1 rfl) ?_
    refine va_get (D := D) (ci := 7) (v := .ref (G.1 (k0 + 11))) (C := RX7) (T := TX7) (N := 2) hx hb hts iwX7 hown hK hP k0 (xg_1 hk0) rfl 0 (by decide) (hts _ mw_192) (fun _ h9 => h9) rfl dX7_append_55 ?_
    refine lv_iload hx hb dX7_append_58 (lv_at hl 0 rfl) ?_
    refine lv_iconst (v := 3) hx hb dX7_append_60 (by decide) ?_
    refine lv_iadd hx hb dX7_append_61 ?_
    refine lv_iload hx hb dX7_append_62 (lv_at hl 5 rfl) ?_
    obtain ⟨hiq6, h⟩ := nif h
    refine va_iast hx hb hK hP (xD hi) hS (k0 + 11) 0 (xg_2 (xf1_0 hk0)) rfl hiq6 dX7_append_64 (fun H locs hP hD hS => ?_)
    have hP : va_P D vwCl (xW G (ms (ms (ms (ms σ (k0 + 11) (4 * (σ k0 1)).toNatClampNeg p1) (k0 + 11) ((4 * (σ k0 1)) + 1).toNatClampNeg p2) (k0 + 11) ((4 * (σ k0 1)) + 2).toNatClampNeg p3) (k0 + 11) ((4 * (σ k0 1)) + 3).toNatClampNeg p4)) H := by rw [← xs_2 (xf1_0 hk0)]; exact hP
    refine lv_aload_n hx hb dX7_append_65 rfl (lv_at hl 1 rfl) ?_
    refine lv_dup hx hb dX7_append_66 rfl ?_
    refine va_get (D := D) (ci := 7) (v := .int ((ms (ms (ms (ms σ (k0 + 11) (4 * (σ k0 1)).toNatClampNeg p1) (k0 + 11) ((4 * (σ k0 1)) + 1).toNatClampNeg p2) (k0 + 11) ((4 * (σ k0 1)) + 2).toNatClampNeg p3) (k0 + 11) ((4 * (σ k0 1)) + 3).toNatClampNeg p4) k0 1)) (C := RX7) (T := TX7) (N := 2) hx hb hts iwX7 hown hK hP k0 (xg_1 hk0) rfl 1 (by decide) (hts _ mw_193) (fun _ h9 => h9) rfl dX7_append_67 ?_
    refine lv_iconst (v := 1) hx hb dX7_append_70 (by decide) ?_
    refine lv_iadd hx hb dX7_append_71 ?_
    refine va_put (D := D) (ci := 7) (v := .int (((ms (ms (ms (ms σ (k0 + 11) (4 * (σ k0 1)).toNatClampNeg p1) (k0 + 11) ((4 * (σ k0 1)) + 1).toNatClampNeg p2) (k0 + 11) ((4 * (σ k0 1)) + 2).toNatClampNeg p3) (k0 + 11) ((4 * (σ k0 1)) + 3).toNatClampNeg p4) k0 1) + 1)) (ty := .int) (C := RX7) (T := TX7) (N := 2) hx hb hts iwX7 tyX7 tyX7_ok nmX7 hown hK hP (xD hi) hS k0 (xg_1 hk0) rfl 1 (by decide) (hts _ mw_193) (fun _ h9 => h9) rfl (by decide +kernel) rfl rfl (Nat.le_of_ble_eq_true rfl) dX7_append_72 (fun H locs hP hD hS => ?_)
    have hP : va_P D vwCl (xW G (ms (ms (ms (ms (ms σ (k0 + 11) (4 * (σ k0 1)).toNatClampNeg p1) (k0 + 11) ((4 * (σ k0 1)) + 1).toNatClampNeg p2) (k0 + 11) ((4 * (σ k0 1)) + 2).toNatClampNeg p3) (k0 + 11) ((4 * (σ k0 1)) + 3).toNatClampNeg p4) k0 1 (((ms (ms (ms (ms σ (k0 + 11) (4 * (σ k0 1)).toNatClampNeg p1) (k0 + 11) ((4 * (σ k0 1)) + 1).toNatClampNeg p2) (k0 + 11) ((4 * (σ k0 1)) + 2).toNatClampNeg p3) (k0 + 11) ((4 * (σ k0 1)) + 3).toNatClampNeg p4) k0 1) + 1))) H := by rw [← xs_1_1 hk0]; exact hP
    obtain rfl := Option.some.inj h
    exact W.vret hx hb hr (fun t ht hW => ⟨⟨_, rfl, rfl, xPre_at h0 hS hP ht hW⟩, hS.F ht⟩) hS.2.2 dX7_append_75
  have h := ifn hcq2 h
  obtain rfl := Option.some.inj h
  exact W.vret hx hb hr (fun t ht hW => ⟨⟨_, rfl, rfl, xPre_at h0 hS hP ht hW⟩, hS.F ht⟩) hS.2.2 dX7_append_25
def fX0_offer_J41 (p1 : Int32) (p2 : Int32) (p3 : Int32) (p4 : Int32) (K3 : Int32 → QMem → Option (QMem)) (v5 : Int32) (τ : QMem) : Option (QMem) :=
  K3 (v5 + 1) τ
def fX0_offer_L3 (p1 : Int32) (p2 : Int32) (p3 : Int32) (p4 : Int32) : Nat → Int32 → QMem → Option (QMem)
  | 0, _, _ => none
  | n + 1, v5, τ =>
  if p3 < v5 then (some τ) else (if p4 < (v5 * v5) then (some τ) else (if (v5 * v5) = p4 then ((fX7_append 58 p1 p2 p3 v5 τ).bind fun xq4 => (fX0_offer_J41 p1 p2 p3 p4 (fX0_offer_L3 p1 p2 p3 p4 n) v5 xq4)) else (fX0_offer_J41 p1 p2 p3 p4 (fX0_offer_L3 p1 p2 p3 p4 n) v5 τ)))
def fX0_offer (p1 : Int32) (p2 : Int32) (p3 : Int32) (p4 : Int32) (σ : QMem) : Option (QMem) :=
  fX0_offer_L3 p1 p2 p3 p4 FU 0 σ
set_option maxHeartbeats 4000000 in
set_option maxRecDepth 100000 in
theorem kX0_offer (l : Launch) (D : va_G) (G : xG) (ub : xB) (σ : QMem) (p1 : Int32) (p2 : Int32) (p3 : Int32) (p4 : Int32) (res : QMem) (h : fX0_offer p1 p2 p3 p4 σ = some res) : Met l yX0_offer (.code yX0_offer cX0_offer 6 none :: lwW) (rmD 1) (xPc D G ub σ [.ref (G.1 114), .int p1, .int p2, .int p3, .int p4]) (xQv D G ub res) 0 0 (xA G) := by
  refine Met.ofW (cc := cX0_offer) (maxL := 6) (ret := none) (by decide) rfl ?_
  intro p e s m args below meth c s₁ B hml hv
  obtain ⟨rfl, h0⟩ := hv
  have hx := B.exec
  have hb := B.bytes
  have hr := B.returns
  have hts := fun (w : Cond) (hw : w ∈ lwW) => atoms_spec (ws := (.code yX0_offer cX0_offer 6 none :: lwW)) B.pre w (List.mem_cons_of_mem _ hw)
  have hown : s.vm.findClass RX0 = some m.cls := findClass_of_methodNamed B.named
  have hlocks := B.notSynchronized
  have hP := h0.1
  have hK := h0.2.1
  have hi := h0.2.2.1
  have hZ := h0.2.2.2
  have hN := h0.2.2.2.2.2.2.2.1
  have hV := h0.2.2.2.2.2.2.2.2.1
  have hS : va_S (xA G) s.heap s.heap [] := va_S.rf
  have hl := lv_entry ([.ref (G.1 114), .int p1, .int p2, .int p3, .int p4]) (n := 6) (Nat.le_of_ble_eq_true rfl)
  rw [lg_entry_eq]
  generalize (lg_sl ([.ref (G.1 114), .int p1, .int p2, .int p3, .int p4]) ++ List.replicate (6 - (lg_sl ([.ref (G.1 114), .int p1, .int p2, .int p3, .int p4])).length) Slot.unset).toArray = ls at hl ⊢
  have hl : lv_has ls 6 [(0, .ref (G.1 114)), (1, .int p1), (2, .int p2), (3, .int p3), (4, .int p4)] := hl
  unfold fX0_offer at h
  have L3 : ∀ (n3 : Nat) (v5 : Int32) (τ : QMem) (H : Heap) (locs : List Loc) (ls : Array Slot), fX0_offer_L3 p1 p2 p3 p4 n3 v5 τ = some res → va_P D vwCl (xW G τ) H → va_S (xA G) s.heap H locs → lv_has ls 6 [(0, .ref (G.1 114)), (1, .int p1), (2, .int p2), (3, .int p3), (4, .int p4), (5, .int v5)] → W p l e (headSpec (.code yX0_offer cX0_offer 6 none :: lwW) (rmD 1)).room s m ([.ref (G.1 114), .int p1, .int p2, .int p3, .int p4] : List Value).toArray below meth c H locs 0 0 (MQ below (xQv D G ub res) ([.ref (G.1 114), .int p1, .int p2, .int p3, .int p4] : List Value).toArray s 0 0 (xA G)) (F0 m 3 ls []) := by
    intro n3
    induction n3 with
    | zero => intro v5 τ H locs ls h; rw [fX0_offer_L3] at h; cases h
    | succ n3 ih3 =>
      intro v5 τ H locs ls h hP hS hl
      rw [fX0_offer_L3] at h
      have J41 : ∀ (v5 : Int32) (τ : QMem) (H : Heap) (locs : List Loc) (ls : Array Slot), fX0_offer_J41 p1 p2 p3 p4 (fX0_offer_L3 p1 p2 p3 p4 n3) v5 τ = some res → va_P D vwCl (xW G τ) H → va_S (xA G) s.heap H locs → lv_has ls 6 [(0, .ref (G.1 114)), (1, .int p1), (2, .int p2), (3, .int p3), (4, .int p4), (5, .int v5)] → W p l e (headSpec (.code yX0_offer cX0_offer 6 none :: lwW) (rmD 1)).room s m ([.ref (G.1 114), .int p1, .int p2, .int p3, .int p4] : List Value).toArray below meth c H locs 0 0 (MQ below (xQv D G ub res) ([.ref (G.1 114), .int p1, .int p2, .int p3, .int p4] : List Value).toArray s 0 0 (xA G)) (F0 m 41 ls []) := by
        intro v5 τ H locs ls h hP hS hl
        unfold fX0_offer_J41 at h
        refine lv_iinc (v := v5 + 1) (lv' := [(5, .int (v5 + 1)), (0, .ref (G.1 114)), (1, .int p1), (2, .int p2), (3, .int p3), (4, .int p4)]) hx hb dX0_offer_41 hl (k := 5) rfl rfl (by decide) rfl (fun ls hl => ?_)
        refine lv_goto (tgt := 3) hx hb dX0_offer_44 (by decide) ?_
        exact ih3 (v5 + 1) _ _ _ _ h hP hS (lv_sub hl [1, 2, 3, 4, 5, 0] rfl)
      refine lv_iload hx hb dX0_offer_3 (lv_at hl 5 rfl) ?_
      refine lv_iload_n hx hb dX0_offer_5 rfl (lv_at hl 3 rfl) ?_
      refine lv_icmp_gt (tgt := 47) hx hb dX0_offer_6 (by decide) (fun hcq1 => ?_) (fun hcq1 => ?_)
      · have h := ifp hcq1 h
        obtain rfl := Option.some.inj h
        exact W.vret hx hb hr (fun t ht hW => ⟨⟨_, rfl, rfl, xPre_at h0 hS hP ht hW⟩, hS.F ht⟩) hS.2.2 dX0_offer_47
      have h := ifn hcq1 h
      refine lv_iload hx hb dX0_offer_9 (lv_at hl 5 rfl) ?_
      refine lv_iload hx hb dX0_offer_11 (lv_at hl 5 rfl) ?_
      refine lv_imul hx hb dX0_offer_13 ?_
      refine lv_iload hx hb dX0_offer_14 (lv_at hl 4 rfl) ?_
      refine lv_icmp_gt (tgt := 47) hx hb dX0_offer_16 (by decide) (fun hcq2 => ?_) (fun hcq2 => ?_)
      · have h := ifp hcq2 h
        obtain rfl := Option.some.inj h
        exact W.vret hx hb hr (fun t ht hW => ⟨⟨_, rfl, rfl, xPre_at h0 hS hP ht hW⟩, hS.F ht⟩) hS.2.2 dX0_offer_47
      have h := ifn hcq2 h
      refine lv_iload hx hb dX0_offer_19 (lv_at hl 5 rfl) ?_
      refine lv_iload hx hb dX0_offer_21 (lv_at hl 5 rfl) ?_
      refine lv_imul hx hb dX0_offer_23 ?_
      refine lv_iload hx hb dX0_offer_24 (lv_at hl 4 rfl) ?_
      refine lv_icmp_ne (tgt := 41) hx hb dX0_offer_26 (by decide) (fun hcq3 => ?_) (fun hcq3 => ?_)
      · have h := ifn hcq3 h
        exact J41 v5 _ _ _ _ h hP hS (lv_sub hl [0, 1, 2, 3, 4, 5] rfl)
      have h := ifp hcq3 h
      refine lv_aload_n hx hb dX0_offer_29 rfl (lv_at hl 0 rfl) ?_
      refine va_get (D := D) (ci := 0) (v := .ref (G.1 58)) (C := RX0) (T := TX0) (N := 1) hx hb hts iwX0 hown hK hP 114 (xg_16 rfl) rfl 0 (by decide) (hts _ mw_277) (fun _ h9 => h9) rfl dX0_offer_30 ?_
      refine lv_iload_n hx hb dX0_offer_33 rfl (lv_at hl 1 rfl) ?_
      refine lv_iload_n hx hb dX0_offer_34 rfl (lv_at hl 2 rfl) ?_
      refine lv_iload_n hx hb dX0_offer_35 rfl (lv_at hl 3 rfl) ?_
      refine lv_iload hx hb dX0_offer_36 (lv_at hl 5 rfl) ?_
      obtain ⟨xq4, hfq5, h⟩ := obd h
      refine va_callv (va_runV (As := [.int p1, .int p2, .int p3, .int v5]) (rest := []) ⟨hx, hb, hml, hown, hts⟩ (kX7_append l D G ub _ 58 rfl p1 p2 p3 v5 xq4 hfq5) (cwV 4 hts (lwW_gV mw_815 mw_591 mw_592 mw_10 mw_593) rfl rfl rfl (by decide +kernel) ⟨Nat.le_of_ble_eq_true rfl, Nat.le_of_ble_eq_true rfl⟩) ⟨fun a U g mk q => ⟨q.1, xPre_call q.2⟩, va_recv hK hP rfl (xg_1 rfl), fun U hU hW => ⟨rfl, xPre_at h0 hS hP hU hW⟩⟩ rfl rfl hl.1 rfl (lv_room (Nat.le_of_ble_eq_true rfl)) dX0_offer_38 ⟨Nat.zero_le _, Nat.zero_le _⟩) hS (fun q _ h => h) (fun q h => h) (fun u t H1 locs ht hvm hw hB hz1 hq1 hS => ?_)
      obtain rfl := hw.symm
      have hP := hB.1
      rw [ht] at hP
      refine W.widen (k := 0) (n := 0) (Nat.le_refl _) (Nat.le_refl _) ?_
      exact J41 v5 _ _ _ _ h hP hS (lv_sub hl [0, 1, 2, 3, 4, 5] rfl)
  refine lv_iconst (v := 0) hx hb dX0_offer_0 (by decide) ?_
  refine lv_istore (lv' := [(5, .int 0), (0, .ref (G.1 114)), (1, .int p1), (2, .int p2), (3, .int p3), (4, .int p4)]) hx hb dX0_offer_1 hl (by decide) rfl (fun ls hl => ?_)
  exact L3 FU 0 _ _ _ _ h hP hS (lv_sub hl [1, 2, 3, 4, 5, 0] rfl)
def fX0_gather_J87 (p1 : Int32) (K10 : Int32 → QMem → Option (QMem)) (v2 : Int32) (τ : QMem) : Option (QMem) :=
  K10 (v2 + (-1)) τ
def fX0_gather_L48 (p1 : Int32) (K10 : Int32 → QMem → Option (QMem)) (K39 : Int32 → Int32 → Int32 → QMem → Option (QMem)) : Nat → Int32 → Int32 → Int32 → Int32 → QMem → Option (QMem)
  | 0, _, _, _, _, _ => none
  | n + 1, v2, v3, v4, v5, τ =>
  if v5 < 0 then (K39 v2 v3 (v4 + (-1)) τ) else ((fX0_offer v2 v4 v5 ((v3 - (v4 * v4)) - (v5 * v5)) τ).bind fun xq2 => ((fX0_gather_L48 p1 K10 K39 n) v2 v3 v4 (v5 + (-1)) xq2))
def fX0_gather_L39 (p1 : Int32) (K10 : Int32 → QMem → Option (QMem)) : Nat → Int32 → Int32 → Int32 → QMem → Option (QMem)
  | 0, _, _, _, _ => none
  | n + 1, v2, v3, v4, τ =>
  if v4 < 0 then (fX0_gather_J87 p1 K10 v2 τ) else (fX0_gather_L48 p1 K10 (fX0_gather_L39 p1 K10 n) FU v2 v3 v4 v4 τ)
def fX0_gather_L10 (p1 : Int32) : Nat → Int32 → QMem → Option (QMem)
  | 0, _, _ => none
  | n + 1, v2, τ =>
  if v2 < 0 then (some τ) else (if (p1 - (v2 * v2)) < 0 then (fX0_gather_J87 p1 (fX0_gather_L10 p1 n) v2 τ) else (if (p1 - (v2 * v2)) ≤ ((3 * v2) * v2) then (fX0_gather_L39 p1 (fX0_gather_L10 p1 n) FU v2 (p1 - (v2 * v2)) v2 τ) else (fX0_gather_J87 p1 (fX0_gather_L10 p1 n) v2 τ)))
def fX0_gather (p1 : Int32) (σ : QMem) : Option (QMem) :=
  (fX7_clear 58 σ).bind fun xq8 => (fX0_gather_L10 p1 FU 12 xq8)
set_option maxHeartbeats 4000000 in
set_option maxRecDepth 100000 in
theorem kX0_gather (l : Launch) (D : va_G) (G : xG) (ub : xB) (σ : QMem) (p1 : Int32) (res : QMem) (h : fX0_gather p1 σ = some res) : Met l yX0_gather (.code yX0_gather cX0_gather 6 none :: lwW) (rmD 2) (xPc D G ub σ [.ref (G.1 114), .int p1]) (xQv D G ub res) 0 0 (xA G) := by
  refine Met.ofW (cc := cX0_gather) (maxL := 6) (ret := none) (by decide) rfl ?_
  intro p e s m args below meth c s₁ B hml hv
  obtain ⟨rfl, h0⟩ := hv
  have hx := B.exec
  have hb := B.bytes
  have hr := B.returns
  have hts := fun (w : Cond) (hw : w ∈ lwW) => atoms_spec (ws := (.code yX0_gather cX0_gather 6 none :: lwW)) B.pre w (List.mem_cons_of_mem _ hw)
  have hown : s.vm.findClass RX0 = some m.cls := findClass_of_methodNamed B.named
  have hlocks := B.notSynchronized
  have hP := h0.1
  have hK := h0.2.1
  have hi := h0.2.2.1
  have hZ := h0.2.2.2
  have hN := h0.2.2.2.2.2.2.2.1
  have hV := h0.2.2.2.2.2.2.2.2.1
  have hS : va_S (xA G) s.heap s.heap [] := va_S.rf
  have hl := lv_entry ([.ref (G.1 114), .int p1]) (n := 6) (Nat.le_of_ble_eq_true rfl)
  rw [lg_entry_eq]
  generalize (lg_sl ([.ref (G.1 114), .int p1]) ++ List.replicate (6 - (lg_sl ([.ref (G.1 114), .int p1])).length) Slot.unset).toArray = ls at hl ⊢
  have hl : lv_has ls 6 [(0, .ref (G.1 114)), (1, .int p1)] := hl
  unfold fX0_gather at h
  have L10 : ∀ (n10 : Nat) (v2 : Int32) (τ : QMem) (H : Heap) (locs : List Loc) (ls : Array Slot), fX0_gather_L10 p1 n10 v2 τ = some res → va_P D vwCl (xW G τ) H → va_S (xA G) s.heap H locs → lv_has ls 6 [(0, .ref (G.1 114)), (1, .int p1), (2, .int v2)] → W p l e (headSpec (.code yX0_gather cX0_gather 6 none :: lwW) (rmD 2)).room s m ([.ref (G.1 114), .int p1] : List Value).toArray below meth c H locs 0 0 (MQ below (xQv D G ub res) ([.ref (G.1 114), .int p1] : List Value).toArray s 0 0 (xA G)) (F0 m 10 ls []) := by
    intro n10
    induction n10 with
    | zero => intro v2 τ H locs ls h; rw [fX0_gather_L10] at h; cases h
    | succ n10 ih10 =>
      intro v2 τ H locs ls h hP hS hl
      rw [fX0_gather_L10] at h
      have J87 : ∀ (v2 : Int32) (τ : QMem) (H : Heap) (locs : List Loc) (ls : Array Slot), fX0_gather_J87 p1 (fX0_gather_L10 p1 n10) v2 τ = some res → va_P D vwCl (xW G τ) H → va_S (xA G) s.heap H locs → lv_has ls 6 [(0, .ref (G.1 114)), (1, .int p1), (2, .int v2)] → W p l e (headSpec (.code yX0_gather cX0_gather 6 none :: lwW) (rmD 2)).room s m ([.ref (G.1 114), .int p1] : List Value).toArray below meth c H locs 0 0 (MQ below (xQv D G ub res) ([.ref (G.1 114), .int p1] : List Value).toArray s 0 0 (xA G)) (F0 m 87 ls []) := by
        intro v2 τ H locs ls h hP hS hl
        unfold fX0_gather_J87 at h
        refine lv_iinc (v := v2 + (-1)) (lv' := [(2, .int (v2 + (-1))), (0, .ref (G.1 114)), (1, .int p1)]) hx hb dX0_gather_87 hl (k := 2) rfl rfl (by decide) rfl (fun ls hl => ?_)
        refine lv_goto (tgt := 10) hx hb dX0_gather_90 (by decide) ?_
        exact ih10 (v2 + (-1)) _ _ _ _ h hP hS (lv_sub hl [1, 2, 0] rfl)
      have L39 : ∀ (n39 : Nat) (v2 : Int32) (v3 : Int32) (v4 : Int32) (τ : QMem) (H : Heap) (locs : List Loc) (ls : Array Slot), fX0_gather_L39 p1 (fX0_gather_L10 p1 n10) n39 v2 v3 v4 τ = some res → va_P D vwCl (xW G τ) H → va_S (xA G) s.heap H locs → lv_has ls 6 [(0, .ref (G.1 114)), (1, .int p1), (2, .int v2), (3, .int v3), (4, .int v4)] → W p l e (headSpec (.code yX0_gather cX0_gather 6 none :: lwW) (rmD 2)).room s m ([.ref (G.1 114), .int p1] : List Value).toArray below meth c H locs 0 0 (MQ below (xQv D G ub res) ([.ref (G.1 114), .int p1] : List Value).toArray s 0 0 (xA G)) (F0 m 39 ls []) := by
        intro n39
        induction n39 with
        | zero => intro v2 v3 v4 τ H locs ls h; rw [fX0_gather_L39] at h; cases h
        | succ n39 ih39 =>
          intro v2 v3 v4 τ H locs ls h hP hS hl
          rw [fX0_gather_L39] at h
          have L48 : ∀ (n48 : Nat) (v2 : Int32) (v3 : Int32) (v4 : Int32) (v5 : Int32) (τ : QMem) (H : Heap) (locs : List Loc) (ls : Array Slot), fX0_gather_L48 p1 (fX0_gather_L10 p1 n10) (fX0_gather_L39 p1 (fX0_gather_L10 p1 n10) n39) n48 v2 v3 v4 v5 τ = some res → va_P D vwCl (xW G τ) H → va_S (xA G) s.heap H locs → lv_has ls 6 [(0, .ref (G.1 114)), (1, .int p1), (2, .int v2), (3, .int v3), (4, .int v4), (5, .int v5)] → W p l e (headSpec (.code yX0_gather cX0_gather 6 none :: lwW) (rmD 2)).room s m ([.ref (G.1 114), .int p1] : List Value).toArray below meth c H locs 0 0 (MQ below (xQv D G ub res) ([.ref (G.1 114), .int p1] : List Value).toArray s 0 0 (xA G)) (F0 m 48 ls []) := by
            intro n48
            induction n48 with
            | zero => intro v2 v3 v4 v5 τ H locs ls h; rw [fX0_gather_L48] at h; cases h
            | succ n48 ih48 =>
              intro v2 v3 v4 v5 τ H locs ls h hP hS hl
              rw [fX0_gather_L48] at h
              refine lv_iload hx hb dX0_gather_48 (lv_at hl 5 rfl) ?_
              refine lv_if_lt (tgt := 81) hx hb dX0_gather_50 (by decide) (fun hcq1 => ?_) (fun hcq1 => ?_)
              · have h := ifp hcq1 h
                refine lv_iinc (v := v4 + (-1)) (lv' := [(4, .int (v4 + (-1))), (0, .ref (G.1 114)), (1, .int p1), (2, .int v2), (3, .int v3), (5, .int v5)]) hx hb dX0_gather_81 hl (k := 4) rfl rfl (by decide) rfl (fun ls hl => ?_)
                refine lv_goto (tgt := 39) hx hb dX0_gather_84 (by decide) ?_
                exact ih39 v2 v3 (v4 + (-1)) _ _ _ _ h hP hS (lv_sub hl [1, 2, 3, 4, 0] rfl)
              have h := ifn hcq1 h
              refine lv_aload_n hx hb dX0_gather_53 rfl (lv_at hl 0 rfl) ?_
              refine lv_iload_n hx hb dX0_gather_54 rfl (lv_at hl 2 rfl) ?_
              refine lv_iload hx hb dX0_gather_55 (lv_at hl 4 rfl) ?_
              refine lv_iload hx hb dX0_gather_57 (lv_at hl 5 rfl) ?_
              refine lv_iload_n hx hb dX0_gather_59 rfl (lv_at hl 3 rfl) ?_
              refine lv_iload hx hb dX0_gather_60 (lv_at hl 4 rfl) ?_
              refine lv_iload hx hb dX0_gather_62 (lv_at hl 4 rfl) ?_
              refine lv_imul hx hb dX0_gather_64 ?_
              refine lv_isub hx hb dX0_gather_65 ?_
              refine lv_iload hx hb dX0_gather_66 (lv_at hl 5 rfl) ?_
              refine lv_iload hx hb dX0_gather_68 (lv_at hl 5 rfl) ?_
              refine lv_imul hx hb dX0_gather_70 ?_
              refine lv_isub hx hb dX0_gather_71 ?_
              obtain ⟨xq2, hfq3, h⟩ := obd h
              refine va_callv (va_runV (As := [.int v2, .int v4, .int v5, .int ((v3 - (v4 * v4)) - (v5 * v5))]) (rest := []) ⟨hx, hb, hml, hown, hts⟩ (kX0_offer l D G ub _ v2 v4 v5 ((v3 - (v4 * v4)) - (v5 * v5)) xq2 hfq3) (cwV 4 hts (lwW_gV mw_811 mw_813 ms_19 mw_13 mw_814) rfl rfl rfl (by decide +kernel) ⟨Nat.le_of_ble_eq_true rfl, Nat.le_of_ble_eq_true rfl⟩) ⟨fun a U g mk q => ⟨q.1, xPre_call q.2⟩, va_recv hK hP rfl (xg_16 rfl), fun U hU hW => ⟨rfl, xPre_at h0 hS hP hU hW⟩⟩ rfl rfl hl.1 rfl (lv_room (Nat.le_of_ble_eq_true rfl)) dX0_gather_72 ⟨Nat.zero_le _, Nat.zero_le _⟩) hS (fun q _ h => h) (fun q h => h) (fun u t H1 locs ht hvm hw hB hz1 hq1 hS => ?_)
              obtain rfl := hw.symm
              have hP := hB.1
              rw [ht] at hP
              refine W.widen (k := 0) (n := 0) (Nat.le_refl _) (Nat.le_refl _) ?_
              refine lv_iinc (v := v5 + (-1)) (lv' := [(5, .int (v5 + (-1))), (0, .ref (G.1 114)), (1, .int p1), (2, .int v2), (3, .int v3), (4, .int v4)]) hx hb dX0_gather_75 hl (k := 5) rfl rfl (by decide) rfl (fun ls hl => ?_)
              refine lv_goto (tgt := 48) hx hb dX0_gather_78 (by decide) ?_
              exact ih48 v2 v3 v4 (v5 + (-1)) _ _ _ _ h hP hS (lv_sub hl [1, 2, 3, 4, 5, 0] rfl)
          refine lv_iload hx hb dX0_gather_39 (lv_at hl 4 rfl) ?_
          refine lv_if_lt (tgt := 87) hx hb dX0_gather_41 (by decide) (fun hcq4 => ?_) (fun hcq4 => ?_)
          · have h := ifp hcq4 h
            exact J87 v2 _ _ _ _ h hP hS (lv_sub hl [0, 1, 2] rfl)
          have h := ifn hcq4 h
          refine lv_iload hx hb dX0_gather_44 (lv_at hl 4 rfl) ?_
          refine lv_istore (lv' := [(5, .int v4), (0, .ref (G.1 114)), (1, .int p1), (2, .int v2), (3, .int v3), (4, .int v4)]) hx hb dX0_gather_46 hl (by decide) rfl (fun ls hl => ?_)
          exact L48 FU v2 v3 v4 v4 _ _ _ _ h hP hS (lv_sub hl [1, 2, 3, 4, 5, 0] rfl)
      refine lv_iload_n hx hb dX0_gather_10 rfl (lv_at hl 2 rfl) ?_
      refine lv_if_lt (tgt := 93) hx hb dX0_gather_11 (by decide) (fun hcq5 => ?_) (fun hcq5 => ?_)
      · have h := ifp hcq5 h
        obtain rfl := Option.some.inj h
        exact W.vret hx hb hr (fun t ht hW => ⟨⟨_, rfl, rfl, xPre_at h0 hS hP ht hW⟩, hS.F ht⟩) hS.2.2 dX0_gather_93
      have h := ifn hcq5 h
      refine lv_iload_n hx hb dX0_gather_14 rfl (lv_at hl 1 rfl) ?_
      refine lv_iload_n hx hb dX0_gather_15 rfl (lv_at hl 2 rfl) ?_
      refine lv_iload_n hx hb dX0_gather_16 rfl (lv_at hl 2 rfl) ?_
      refine lv_imul hx hb dX0_gather_17 ?_
      refine lv_isub hx hb dX0_gather_18 ?_
      refine lv_istore_n (lv' := [(3, .int (p1 - (v2 * v2))), (0, .ref (G.1 114)), (1, .int p1), (2, .int v2)]) hx hb dX0_gather_19 rfl hl (by decide) rfl (fun ls hl => ?_)
      refine lv_iload_n hx hb dX0_gather_20 rfl (lv_at hl 0 rfl) ?_
      refine lv_if_lt (tgt := 87) hx hb dX0_gather_21 (by decide) (fun hcq6 => ?_) (fun hcq6 => ?_)
      · have h := ifp hcq6 h
        exact J87 v2 _ _ _ _ h hP hS (lv_sub hl [1, 2, 3] rfl)
      have h := ifn hcq6 h
      refine lv_iload_n hx hb dX0_gather_24 rfl (lv_at hl 0 rfl) ?_
      refine lv_iconst (v := 3) hx hb dX0_gather_25 (by decide) ?_
      refine lv_iload_n hx hb dX0_gather_26 rfl (lv_at hl 3 rfl) ?_
      refine lv_imul hx hb dX0_gather_27 ?_
      refine lv_iload_n hx hb dX0_gather_28 rfl (lv_at hl 3 rfl) ?_
      refine lv_imul hx hb dX0_gather_29 ?_
      refine lv_icmp_le (tgt := 36) hx hb dX0_gather_30 (by decide) (fun hcq7 => ?_) (fun hcq7 => ?_)
      · have h := ifp hcq7 h
        refine lv_iload_n hx hb dX0_gather_36 rfl (lv_at hl 3 rfl) ?_
        refine lv_istore (lv' := [(4, .int v2), (3, .int (p1 - (v2 * v2))), (0, .ref (G.1 114)), (1, .int p1), (2, .int v2)]) hx hb dX0_gather_37 hl (by decide) rfl (fun ls hl => ?_)
        exact L39 FU v2 (p1 - (v2 * v2)) v2 _ _ _ _ h hP hS (lv_sub hl [2, 3, 4, 1, 0] rfl)
      have h := ifn hcq7 h
      refine lv_goto (tgt := 87) hx hb dX0_gather_33 (by decide) ?_
      exact J87 v2 _ _ _ _ h hP hS (lv_sub hl [1, 2, 3] rfl)
  refine lv_aload_n hx hb dX0_gather_0 rfl (lv_at hl 0 rfl) ?_
  refine va_get (D := D) (ci := 0) (v := .ref (G.1 58)) (C := RX0) (T := TX0) (N := 1) hx hb hts iwX0 hown hK hP 114 (xg_16 rfl) rfl 0 (by decide) (hts _ mw_277) (fun _ h9 => h9) rfl dX0_gather_1 ?_
  obtain ⟨xq8, hfq9, h⟩ := obd h
  refine va_callv (va_runV (As := []) (rest := []) ⟨hx, hb, hml, hown, hts⟩ (kX7_clear l D G ub _ 58 rfl xq8 hfq9) (cwV 0 hts (lwW_gV mw_810 mw_552 mw_553 mw_10 mw_554) rfl rfl rfl (by decide +kernel) ⟨Nat.le_of_ble_eq_true rfl, Nat.le_of_ble_eq_true rfl⟩) ⟨fun a U g mk q => ⟨q.1, xPre_call q.2⟩, va_recv hK hP rfl (xg_1 rfl), fun U hU hW => ⟨rfl, xPre_at h0 hS hP hU hW⟩⟩ rfl rfl hl.1 rfl (lv_room (Nat.le_of_ble_eq_true rfl)) dX0_gather_4 ⟨Nat.zero_le _, Nat.zero_le _⟩) hS (fun q _ h => h) (fun q h => h) (fun u t H1 locs ht hvm hw hB hz1 hq1 hS => ?_)
  obtain rfl := hw.symm
  have hP := hB.1
  rw [ht] at hP
  refine W.widen (k := 0) (n := 0) (Nat.le_refl _) (Nat.le_refl _) ?_
  refine lv_bipush (v := 12) hx hb dX0_gather_7 (by decide) ?_
  refine lv_istore_n (lv' := [(2, .int 12), (0, .ref (G.1 114)), (1, .int p1)]) hx hb dX0_gather_9 rfl hl (by decide) rfl (fun ls hl => ?_)
  exact L10 FU 12 _ _ _ _ h hP hS (lv_sub hl [1, 2, 0] rfl)
def fX7_size (k0 : Nat) (σ : QMem) : Option (Int32 × QMem) :=
  some (σ k0 1, σ)
set_option maxHeartbeats 4000000 in
set_option maxRecDepth 100000 in
theorem kX7_size (l : Launch) (D : va_G) (G : xG) (ub : xB) (σ : QMem) (k0 : Nat) (hk0 : xk k0 = 1) (res : Int32 × QMem) (h : fX7_size k0 σ = some res) : Met l yX7_size (.code yX7_size cX7_size 1 (some .int) :: lwW) (rmD 0) (xPc D G ub σ [.ref (G.1 k0)]) (xQi D G ub res) 0 0 (xA G) := by
  refine Met.ofW (cc := cX7_size) (maxL := 1) (ret := (some .int)) (by decide) rfl ?_
  intro p e s m args below meth c s₁ B hml hv
  obtain ⟨rfl, h0⟩ := hv
  have hx := B.exec
  have hb := B.bytes
  have hr := B.returns
  have hts := fun (w : Cond) (hw : w ∈ lwW) => atoms_spec (ws := (.code yX7_size cX7_size 1 (some .int) :: lwW)) B.pre w (List.mem_cons_of_mem _ hw)
  have hown : s.vm.findClass RX7 = some m.cls := findClass_of_methodNamed B.named
  have hlocks := B.notSynchronized
  have hP := h0.1
  have hK := h0.2.1
  have hi := h0.2.2.1
  have hZ := h0.2.2.2
  have hN := h0.2.2.2.2.2.2.2.1
  have hV := h0.2.2.2.2.2.2.2.2.1
  have hS : va_S (xA G) s.heap s.heap [] := va_S.rf
  have hl := lv_entry ([.ref (G.1 k0)]) (n := 1) (Nat.le_of_ble_eq_true rfl)
  rw [lg_entry_eq]
  generalize (lg_sl ([.ref (G.1 k0)]) ++ List.replicate (1 - (lg_sl ([.ref (G.1 k0)])).length) Slot.unset).toArray = ls at hl ⊢
  have hl : lv_has ls 1 [(0, .ref (G.1 k0))] := hl
  unfold fX7_size at h
  refine lv_aload_n hx hb dX7_size_0 rfl (lv_at hl 0 rfl) ?_
  refine va_get (D := D) (ci := 7) (v := .int (σ k0 1)) (C := RX7) (T := TX7) (N := 2) hx hb hts iwX7 hown hK hP k0 (xg_1 hk0) rfl 1 (by decide) (hts _ mw_193) (fun _ h9 => h9) rfl dX7_size_1 ?_
  obtain rfl := Option.some.inj h
  exact W.iret (v := σ k0 1) hx hb hr (fun t ht hW => ⟨⟨_, _, rfl, ⟨rfl, rfl⟩, xPre_at h0 hS hP ht hW⟩, hS.F ht⟩) hS.2.2 dX7_size_4
def fX7_part (k0 : Nat) (p1 : Int32) (p2 : Int32) (σ : QMem) : Option (Int32 × QMem) :=
  if p1 < 0 then (some (0, σ)) else (if (σ k0 1) ≤ p1 then (some (0, σ)) else ((fX11_isPart p2).bind fun xq3 => (if xq3 = 0 then (some (0, σ)) else (if (Int32.ofNat (xl (k0 + 11))) ≤ ((4 * p1) + p2) then (some (0, σ)) else (if ((4 * p1) + p2 < 0 ∨ xl (k0 + 11) ≤ ((4 * p1) + p2).toNatClampNeg) then none else (some (σ (k0 + 11) ((4 * p1) + p2).toNatClampNeg, σ)))))))
set_option maxHeartbeats 4000000 in
set_option maxRecDepth 100000 in
theorem kX7_part (l : Launch) (D : va_G) (G : xG) (ub : xB) (σ : QMem) (k0 : Nat) (hk0 : xk k0 = 1) (p1 : Int32) (p2 : Int32) (res : Int32 × QMem) (h : fX7_part k0 p1 p2 σ = some res) : Met l yX7_part (.code yX7_part cX7_part 4 (some .int) :: lwW) (rmD 1) (xPc D G ub σ [.ref (G.1 k0), .int p1, .int p2]) (xQi D G ub res) 0 0 (xA G) := by
  refine Met.ofW (cc := cX7_part) (maxL := 4) (ret := (some .int)) (by decide) rfl ?_
  intro p e s m args below meth c s₁ B hml hv
  obtain ⟨rfl, h0⟩ := hv
  have hx := B.exec
  have hb := B.bytes
  have hr := B.returns
  have hts := fun (w : Cond) (hw : w ∈ lwW) => atoms_spec (ws := (.code yX7_part cX7_part 4 (some .int) :: lwW)) B.pre w (List.mem_cons_of_mem _ hw)
  have hown : s.vm.findClass RX7 = some m.cls := findClass_of_methodNamed B.named
  have hlocks := B.notSynchronized
  have hP := h0.1
  have hK := h0.2.1
  have hi := h0.2.2.1
  have hZ := h0.2.2.2
  have hN := h0.2.2.2.2.2.2.2.1
  have hV := h0.2.2.2.2.2.2.2.2.1
  have hS : va_S (xA G) s.heap s.heap [] := va_S.rf
  have hl := lv_entry ([.ref (G.1 k0), .int p1, .int p2]) (n := 4) (Nat.le_of_ble_eq_true rfl)
  rw [lg_entry_eq]
  generalize (lg_sl ([.ref (G.1 k0), .int p1, .int p2]) ++ List.replicate (4 - (lg_sl ([.ref (G.1 k0), .int p1, .int p2])).length) Slot.unset).toArray = ls at hl ⊢
  have hl : lv_has ls 4 [(0, .ref (G.1 k0)), (1, .int p1), (2, .int p2)] := hl
  unfold fX7_part at h
  refine lv_iload_n hx hb dX7_part_0 rfl (lv_at hl 1 rfl) ?_
  refine lv_if_lt (tgt := 19) hx hb dX7_part_1 (by decide) (fun hcq1 => ?_) (fun hcq1 => ?_)
  · have h := ifp hcq1 h
    refine lv_iconst (v := 0) hx hb dX7_part_19 (by decide) ?_
    obtain rfl := Option.some.inj h
    exact W.iret (v := 0) hx hb hr (fun t ht hW => ⟨⟨_, _, rfl, ⟨rfl, rfl⟩, xPre_at h0 hS hP ht hW⟩, hS.F ht⟩) hS.2.2 dX7_part_20
  have h := ifn hcq1 h
  refine lv_iload_n hx hb dX7_part_4 rfl (lv_at hl 1 rfl) ?_
  refine lv_aload_n hx hb dX7_part_5 rfl (lv_at hl 0 rfl) ?_
  refine va_get (D := D) (ci := 7) (v := .int (σ k0 1)) (C := RX7) (T := TX7) (N := 2) hx hb hts iwX7 hown hK hP k0 (xg_1 hk0) rfl 1 (by decide) (hts _ mw_193) (fun _ h9 => h9) rfl dX7_part_6 ?_
  refine lv_icmp_ge (tgt := 19) hx hb dX7_part_9 (by decide) (fun hcq2 => ?_) (fun hcq2 => ?_)
  · have h := ifp hcq2 h
    refine lv_iconst (v := 0) hx hb dX7_part_19 (by decide) ?_
    obtain rfl := Option.some.inj h
    exact W.iret (v := 0) hx hb hr (fun t ht hW => ⟨⟨_, _, rfl, ⟨rfl, rfl⟩, xPre_at h0 hS hP ht hW⟩, hS.F ht⟩) hS.2.2 dX7_part_20
  have h := ifn hcq2 h
  refine lv_iload_n hx hb dX7_part_12 rfl (lv_at hl 2 rfl) ?_
  obtain ⟨xq3, hfq4, h⟩ := obd h
  refine va_calli (va_runSN (As := [.int p2]) (rest := []) ⟨hx, hb, hml, hown, hts⟩ (kX11_isPart l p2 xq3 hfq4) ⟨va_cnB 1 hts (lwW_gc mw_502) rfl rfl rfl (hN.M 16 rfl) (hts _ mw_1) (by decide +kernel) ⟨Nat.le_of_ble_eq_true rfl, Nat.le_of_ble_eq_true rfl⟩, hts _ mw_501, trivial⟩ ⟨fun a U g mk q => ⟨q.1, trivial⟩, fun U hU hW => ⟨rfl, trivial⟩⟩ rfl rfl hl.1 rfl (lv_room (Nat.le_of_ble_eq_true rfl)) dX7_part_13 ⟨Nat.zero_le _, Nat.zero_le _⟩) hS (fun q _ h => h.elim) (fun q h => h.elim) (fun r u t H1 locs ht hvm hw hB hz1 hq1 hS => ?_)
  obtain rfl := hw.symm
  have hP := xP_kept hP hq1
  refine W.widen (k := 0) (n := 0) (Nat.le_refl _) (Nat.le_refl _) ?_
  refine lv_if_ne (tgt := 21) hx hb dX7_part_16 (by decide) (fun hcq5 => ?_) (fun hcq5 => ?_)
  · have h := ifn hcq5 h
    refine lv_iconst (v := 4) hx hb dX7_part_21 (by decide) ?_
    refine lv_iload_n hx hb dX7_part_22 rfl (lv_at hl 1 rfl) ?_
    refine lv_imul hx hb dX7_part_23 ?_
    refine lv_iload_n hx hb dX7_part_24 rfl (lv_at hl 2 rfl) ?_
    refine lv_iadd hx hb dX7_part_25 ?_
    refine lv_istore_n (lv' := [(3, .int ((4 * p1) + p2)), (0, .ref (G.1 k0)), (1, .int p1), (2, .int p2)]) hx hb dX7_part_26 rfl hl (by decide) rfl (fun ls hl => ?_)
    refine lv_iload_n hx hb dX7_part_27 rfl (lv_at hl 0 rfl) ?_
    refine lv_aload_n hx hb dX7_part_28 rfl (lv_at hl 1 rfl) ?_
    refine va_get (D := D) (ci := 7) (v := .ref (G.1 (k0 + 11))) (C := RX7) (T := TX7) (N := 2) hx hb hts iwX7 hown hK hP k0 (xg_1 hk0) rfl 0 (by decide) (hts _ mw_192) (fun _ h9 => h9) rfl dX7_part_29 ?_
    refine va_alen hx hb hK hP (k0 + 11) 0 (xg_2 (xf1_0 hk0)) rfl (v := Int32.ofNat (xl (k0 + 11))) rfl dX7_part_32 ?_
    refine lv_icmp_ge (tgt := 45) hx hb dX7_part_33 (by decide) (fun hcq6 => ?_) (fun hcq6 => ?_)
    · have h := ifp hcq6 h
      refine lv_iconst (v := 0) hx hb dX7_part_45 (by decide) ?_
      obtain rfl := Option.some.inj h
      exact W.iret (v := 0) hx hb hr (fun t ht hW => ⟨⟨_, _, rfl, ⟨rfl, rfl⟩, xPre_at h0 hS hP ht hW⟩, hS.F ht⟩) hS.2.2 dX7_part_46
    have h := ifn hcq6 h
    refine lv_aload_n hx hb dX7_part_36 rfl (lv_at hl 1 rfl) ?_
    refine va_get (D := D) (ci := 7) (v := .ref (G.1 (k0 + 11))) (C := RX7) (T := TX7) (N := 2) hx hb hts iwX7 hown hK hP k0 (xg_1 hk0) rfl 0 (by decide) (hts _ mw_192) (fun _ h9 => h9) rfl dX7_part_37 ?_
    refine lv_iload_n hx hb dX7_part_40 rfl (lv_at hl 0 rfl) ?_
    obtain ⟨hiq7, h⟩ := nif h
    refine va_iald hx hb hK hP (k0 + 11) 0 (xg_2 (xf1_0 hk0)) rfl hiq7 dX7_part_41 ?_
    refine lv_goto (tgt := 46) hx hb dX7_part_42 (by decide) ?_
    obtain rfl := Option.some.inj h
    exact W.iret (v := σ (k0 + 11) ((4 * p1) + p2).toNatClampNeg) hx hb hr (fun t ht hW => ⟨⟨_, _, rfl, ⟨rfl, rfl⟩, xPre_at h0 hS hP ht hW⟩, hS.F ht⟩) hS.2.2 dX7_part_46
  have h := ifp hcq5 h
  refine lv_iconst (v := 0) hx hb dX7_part_19 (by decide) ?_
  obtain rfl := Option.some.inj h
  exact W.iret (v := 0) hx hb hr (fun t ht hW => ⟨⟨_, _, rfl, ⟨rfl, rfl⟩, xPre_at h0 hS hP ht hW⟩, hS.F ht⟩) hS.2.2 dX7_part_20
def fX0_arrangementsOf_J77 (p1 : Int32) (K7 : Int32 → Int32 → Int32 → QMem → Option (Int32 × QMem)) (v3 : Int32) (v4 : Int32) (s0 : Int32) (s1 : Int32) (τ : QMem) : Option (Int32 × QMem) :=
  K7 (s0 * s1) v3 (v4 + 1) τ
def fX0_arrangementsOf_J54 (p1 : Int32) (K7 : Int32 → Int32 → Int32 → QMem → Option (Int32 × QMem)) (v2 : Int32) (v4 : Int32) (v5 : Int32) (s0 : Int32) (τ : QMem) : Option (Int32 × QMem) :=
  if (if s0 < 1 then 1 else s0) = 0 then none else (if v5 = 0 then (fX0_arrangementsOf_J77 p1 K7 s0 v4 ((v2 * (v4 + 1)) / (if s0 < 1 then 1 else s0)) 1 τ) else (fX0_arrangementsOf_J77 p1 K7 s0 v4 ((v2 * (v4 + 1)) / (if s0 < 1 then 1 else s0)) 2 τ))
def fX0_arrangementsOf_J53 (p1 : Int32) (K7 : Int32 → Int32 → Int32 → QMem → Option (Int32 × QMem)) (v2 : Int32) (v4 : Int32) (v5 : Int32) (τ : QMem) : Option (Int32 × QMem) :=
  fX0_arrangementsOf_J54 p1 K7 v2 v4 v5 1 τ
def fX0_arrangementsOf_L7 (p1 : Int32) : Nat → Int32 → Int32 → Int32 → QMem → Option (Int32 × QMem)
  | 0, _, _, _, _ => none
  | n + 1, v2, v3, v4, τ =>
  if 4 ≤ v4 then (some (v2, τ)) else ((fX7_part 58 p1 v4 τ).bind fun xq6 => (if v4 ≤ 0 then (fX0_arrangementsOf_J53 p1 (fX0_arrangementsOf_L7 p1 n) v2 v4 xq6.1 xq6.2) else ((fX7_part 58 p1 (v4 - 1) xq6.2).bind fun xq9 => (if xq6.1 = xq9.1 then (fX0_arrangementsOf_J54 p1 (fX0_arrangementsOf_L7 p1 n) v2 v4 xq6.1 (v3 + 1) xq9.2) else (fX0_arrangementsOf_J53 p1 (fX0_arrangementsOf_L7 p1 n) v2 v4 xq6.1 xq9.2)))))
def fX0_arrangementsOf (p1 : Int32) (σ : QMem) : Option (Int32 × QMem) :=
  fX0_arrangementsOf_L7 p1 FU 1 0 0 σ
set_option maxHeartbeats 4000000 in
set_option maxRecDepth 100000 in
theorem kX0_arrangementsOf (l : Launch) (D : va_G) (G : xG) (ub : xB) (σ : QMem) (p1 : Int32) (res : Int32 × QMem) (h : fX0_arrangementsOf p1 σ = some res) : Met l yX0_arrangementsOf (.code yX0_arrangementsOf cX0_arrangementsOf 6 (some .int) :: lwW) (rmD 2) (xPc D G ub σ [.ref (G.1 114), .int p1]) (xQi D G ub res) 0 0 (xA G) := by
  refine Met.ofW (cc := cX0_arrangementsOf) (maxL := 6) (ret := (some .int)) (by decide) rfl ?_
  intro p e s m args below meth c s₁ B hml hv
  obtain ⟨rfl, h0⟩ := hv
  have hx := B.exec
  have hb := B.bytes
  have hr := B.returns
  have hts := fun (w : Cond) (hw : w ∈ lwW) => atoms_spec (ws := (.code yX0_arrangementsOf cX0_arrangementsOf 6 (some .int) :: lwW)) B.pre w (List.mem_cons_of_mem _ hw)
  have hown : s.vm.findClass RX0 = some m.cls := findClass_of_methodNamed B.named
  have hlocks := B.notSynchronized
  have hP := h0.1
  have hK := h0.2.1
  have hi := h0.2.2.1
  have hZ := h0.2.2.2
  have hN := h0.2.2.2.2.2.2.2.1
  have hV := h0.2.2.2.2.2.2.2.2.1
  have hS : va_S (xA G) s.heap s.heap [] := va_S.rf
  have hl := lv_entry ([.ref (G.1 114), .int p1]) (n := 6) (Nat.le_of_ble_eq_true rfl)
  rw [lg_entry_eq]
  generalize (lg_sl ([.ref (G.1 114), .int p1]) ++ List.replicate (6 - (lg_sl ([.ref (G.1 114), .int p1])).length) Slot.unset).toArray = ls at hl ⊢
  have hl : lv_has ls 6 [(0, .ref (G.1 114)), (1, .int p1)] := hl
  unfold fX0_arrangementsOf at h
  have L7 : ∀ (n7 : Nat) (v2 : Int32) (v3 : Int32) (v4 : Int32) (τ : QMem) (H : Heap) (locs : List Loc) (ls : Array Slot), fX0_arrangementsOf_L7 p1 n7 v2 v3 v4 τ = some res → va_P D vwCl (xW G τ) H → va_S (xA G) s.heap H locs → lv_has ls 6 [(0, .ref (G.1 114)), (1, .int p1), (2, .int v2), (3, .int v3), (4, .int v4)] → W p l e (headSpec (.code yX0_arrangementsOf cX0_arrangementsOf 6 (some .int) :: lwW) (rmD 2)).room s m ([.ref (G.1 114), .int p1] : List Value).toArray below meth c H locs 0 0 (MQ below (xQi D G ub res) ([.ref (G.1 114), .int p1] : List Value).toArray s 0 0 (xA G)) (F0 m 7 ls []) := by
    intro n7
    induction n7 with
    | zero => intro v2 v3 v4 τ H locs ls h; rw [fX0_arrangementsOf_L7] at h; cases h
    | succ n7 ih7 =>
      intro v2 v3 v4 τ H locs ls h hP hS hl
      rw [fX0_arrangementsOf_L7] at h
      have J77 : ∀ (v3 : Int32) (v4 : Int32) (s0 : Int32) (s1 : Int32) (τ : QMem) (H : Heap) (locs : List Loc) (ls : Array Slot), fX0_arrangementsOf_J77 p1 (fX0_arrangementsOf_L7 p1 n7) v3 v4 s0 s1 τ = some res → va_P D vwCl (xW G τ) H → va_S (xA G) s.heap H locs → lv_has ls 6 [(0, .ref (G.1 114)), (1, .int p1), (3, .int v3), (4, .int v4)] → W p l e (headSpec (.code yX0_arrangementsOf cX0_arrangementsOf 6 (some .int) :: lwW) (rmD 2)).room s m ([.ref (G.1 114), .int p1] : List Value).toArray below meth c H locs 0 0 (MQ below (xQi D G ub res) ([.ref (G.1 114), .int p1] : List Value).toArray s 0 0 (xA G)) (F0 m 77 ls [.int s1, .int s0]) := by
        intro v3 v4 s0 s1 τ H locs ls h hP hS hl
        unfold fX0_arrangementsOf_J77 at h
        refine lv_imul hx hb dX0_arrangementsOf_77 ?_
        refine lv_istore_n (lv' := [(2, .int (s0 * s1)), (0, .ref (G.1 114)), (1, .int p1), (3, .int v3), (4, .int v4)]) hx hb dX0_arrangementsOf_78 rfl hl (by decide) rfl (fun ls hl => ?_)
        refine lv_iinc (v := v4 + 1) (lv' := [(4, .int (v4 + 1)), (2, .int (s0 * s1)), (0, .ref (G.1 114)), (1, .int p1), (3, .int v3)]) hx hb dX0_arrangementsOf_79 hl (k := 4) rfl rfl (by decide) rfl (fun ls hl => ?_)
        refine lv_goto (tgt := 7) hx hb dX0_arrangementsOf_82 (by decide) ?_
        exact ih7 (s0 * s1) v3 (v4 + 1) _ _ _ _ h hP hS (lv_sub hl [2, 3, 1, 4, 0] rfl)
      have J54 : ∀ (v2 : Int32) (v4 : Int32) (v5 : Int32) (s0 : Int32) (τ : QMem) (H : Heap) (locs : List Loc) (ls : Array Slot), fX0_arrangementsOf_J54 p1 (fX0_arrangementsOf_L7 p1 n7) v2 v4 v5 s0 τ = some res → va_P D vwCl (xW G τ) H → va_S (xA G) s.heap H locs → lv_has ls 6 [(0, .ref (G.1 114)), (1, .int p1), (2, .int v2), (4, .int v4), (5, .int v5)] → W p l e (headSpec (.code yX0_arrangementsOf cX0_arrangementsOf 6 (some .int) :: lwW) (rmD 2)).room s m ([.ref (G.1 114), .int p1] : List Value).toArray below meth c H locs 0 0 (MQ below (xQi D G ub res) ([.ref (G.1 114), .int p1] : List Value).toArray s 0 0 (xA G)) (F0 m 54 ls [.int s0]) := by
        intro v2 v4 v5 s0 τ H locs ls h hP hS hl
        unfold fX0_arrangementsOf_J54 at h
        refine lv_istore_n (lv' := [(3, .int s0), (0, .ref (G.1 114)), (1, .int p1), (2, .int v2), (4, .int v4), (5, .int v5)]) hx hb dX0_arrangementsOf_54 rfl hl (by decide) rfl (fun ls hl => ?_)
        refine lv_iload_n hx hb dX0_arrangementsOf_55 rfl (lv_at hl 3 rfl) ?_
        refine lv_iload hx hb dX0_arrangementsOf_56 (lv_at hl 4 rfl) ?_
        refine lv_iconst (v := 1) hx hb dX0_arrangementsOf_58 (by decide) ?_
        refine lv_iadd hx hb dX0_arrangementsOf_59 ?_
        refine lv_imul hx hb dX0_arrangementsOf_60 ?_
        refine lv_iload_n hx hb dX0_arrangementsOf_61 rfl (lv_at hl 0 rfl) ?_
        refine lv_iconst (v := 1) hx hb dX0_arrangementsOf_62 (by decide) ?_
        refine va_mmax hx hb (by rw [hml]; exact hl.1.symm) hown (hts _ mm_RX0_40) (hts _ mms_max) (hts _ mw_2) (hts _ mmc_max) (Nat.le_of_ble_eq_true rfl) (Nat.le_of_ble_eq_true rfl) (Nat.zero_le _) (Nat.zero_le _) dX0_arrangementsOf_63 ?_
        obtain ⟨hdq3, h⟩ := nif h
        refine lv_idiv hx hb dX0_arrangementsOf_66 hdq3 ?_
        refine lv_iload hx hb dX0_arrangementsOf_67 (lv_at hl 5 rfl) ?_
        refine lv_if_ne (tgt := 76) hx hb dX0_arrangementsOf_69 (by decide) (fun hcq4 => ?_) (fun hcq4 => ?_)
        · have h := ifn hcq4 h
          refine lv_iconst (v := 2) hx hb dX0_arrangementsOf_76 (by decide) ?_
          exact J77 s0 v4 ((v2 * (v4 + 1)) / (if s0 < 1 then 1 else s0)) 2 _ _ _ _ h hP hS (lv_sub hl [1, 2, 0, 4] rfl)
        have h := ifp hcq4 h
        refine lv_iconst (v := 1) hx hb dX0_arrangementsOf_72 (by decide) ?_
        refine lv_goto (tgt := 77) hx hb dX0_arrangementsOf_73 (by decide) ?_
        exact J77 s0 v4 ((v2 * (v4 + 1)) / (if s0 < 1 then 1 else s0)) 1 _ _ _ _ h hP hS (lv_sub hl [1, 2, 0, 4] rfl)
      have J53 : ∀ (v2 : Int32) (v4 : Int32) (v5 : Int32) (τ : QMem) (H : Heap) (locs : List Loc) (ls : Array Slot), fX0_arrangementsOf_J53 p1 (fX0_arrangementsOf_L7 p1 n7) v2 v4 v5 τ = some res → va_P D vwCl (xW G τ) H → va_S (xA G) s.heap H locs → lv_has ls 6 [(0, .ref (G.1 114)), (1, .int p1), (2, .int v2), (4, .int v4), (5, .int v5)] → W p l e (headSpec (.code yX0_arrangementsOf cX0_arrangementsOf 6 (some .int) :: lwW) (rmD 2)).room s m ([.ref (G.1 114), .int p1] : List Value).toArray below meth c H locs 0 0 (MQ below (xQi D G ub res) ([.ref (G.1 114), .int p1] : List Value).toArray s 0 0 (xA G)) (F0 m 53 ls []) := by
        intro v2 v4 v5 τ H locs ls h hP hS hl
        unfold fX0_arrangementsOf_J53 at h
        refine lv_iconst (v := 1) hx hb dX0_arrangementsOf_53 (by decide) ?_
        exact J54 v2 v4 v5 1 _ _ _ _ h hP hS (lv_sub hl [0, 1, 2, 3, 4] rfl)
      refine lv_iload hx hb dX0_arrangementsOf_7 (lv_at hl 4 rfl) ?_
      refine lv_iconst (v := 4) hx hb dX0_arrangementsOf_9 (by decide) ?_
      refine lv_icmp_ge (tgt := 85) hx hb dX0_arrangementsOf_10 (by decide) (fun hcq5 => ?_) (fun hcq5 => ?_)
      · have h := ifp hcq5 h
        refine lv_iload_n hx hb dX0_arrangementsOf_85 rfl (lv_at hl 2 rfl) ?_
        obtain rfl := Option.some.inj h
        exact W.iret (v := v2) hx hb hr (fun t ht hW => ⟨⟨_, _, rfl, ⟨rfl, rfl⟩, xPre_at h0 hS hP ht hW⟩, hS.F ht⟩) hS.2.2 dX0_arrangementsOf_86
      have h := ifn hcq5 h
      refine lv_aload_n hx hb dX0_arrangementsOf_13 rfl (lv_at hl 0 rfl) ?_
      refine va_get (D := D) (ci := 0) (v := .ref (G.1 58)) (C := RX0) (T := TX0) (N := 1) hx hb hts iwX0 hown hK hP 114 (xg_16 rfl) rfl 0 (by decide) (hts _ mw_277) (fun _ h9 => h9) rfl dX0_arrangementsOf_14 ?_
      refine lv_iload_n hx hb dX0_arrangementsOf_17 rfl (lv_at hl 1 rfl) ?_
      refine lv_iload hx hb dX0_arrangementsOf_18 (lv_at hl 4 rfl) ?_
      obtain ⟨xq6, hfq7, h⟩ := obd h
      refine va_calli (va_runV (As := [.int p1, .int v4]) (rest := []) ⟨hx, hb, hml, hown, hts⟩ (kX7_part l D G ub _ 58 rfl p1 v4 xq6 hfq7) (cwV 2 hts (lwW_gV mw_825 mw_607 mw_608 mw_10 mw_609) rfl rfl rfl (by decide +kernel) ⟨Nat.le_of_ble_eq_true rfl, Nat.le_of_ble_eq_true rfl⟩) ⟨fun a U g mk q => ⟨q.1, xPre_call q.2⟩, va_recv hK hP rfl (xg_1 rfl), fun U hU hW => ⟨rfl, xPre_at h0 hS hP hU hW⟩⟩ rfl rfl hl.1 rfl (lv_room (Nat.le_of_ble_eq_true rfl)) dX0_arrangementsOf_20 ⟨Nat.zero_le _, Nat.zero_le _⟩) hS (fun q _ h => h) (fun q h => h) (fun r u t H1 locs ht hvm hw hB hz1 hq1 hS => ?_)
      obtain ⟨rfl, rfl⟩ := hw
      have hP := hB.1
      rw [ht] at hP
      refine W.widen (k := 0) (n := 0) (Nat.le_refl _) (Nat.le_refl _) ?_
      refine lv_istore (lv' := [(5, .int xq6.1), (0, .ref (G.1 114)), (1, .int p1), (2, .int v2), (3, .int v3), (4, .int v4)]) hx hb dX0_arrangementsOf_23 hl (by decide) rfl (fun ls hl => ?_)
      refine lv_iload hx hb dX0_arrangementsOf_25 (lv_at hl 5 rfl) ?_
      refine lv_if_le (tgt := 53) hx hb dX0_arrangementsOf_27 (by decide) (fun hcq8 => ?_) (fun hcq8 => ?_)
      · have h := ifp hcq8 h
        exact J53 v2 v4 xq6.1 _ _ _ _ h hP hS (lv_sub hl [1, 2, 3, 5, 0] rfl)
      have h := ifn hcq8 h
      refine lv_iload hx hb dX0_arrangementsOf_30 (lv_at hl 0 rfl) ?_
      refine lv_aload_n hx hb dX0_arrangementsOf_32 rfl (lv_at hl 1 rfl) ?_
      refine va_get (D := D) (ci := 0) (v := .ref (G.1 58)) (C := RX0) (T := TX0) (N := 1) hx hb hts iwX0 hown hK hP 114 (xg_16 rfl) rfl 0 (by decide) (hts _ mw_277) (fun _ h9 => h9) rfl dX0_arrangementsOf_33 ?_
      refine lv_iload_n hx hb dX0_arrangementsOf_36 rfl (lv_at hl 2 rfl) ?_
      refine lv_iload hx hb dX0_arrangementsOf_37 (lv_at hl 5 rfl) ?_
      refine lv_iconst (v := 1) hx hb dX0_arrangementsOf_39 (by decide) ?_
      refine lv_isub hx hb dX0_arrangementsOf_40 ?_
      obtain ⟨xq9, hfq10, h⟩ := obd h
      refine va_calli (va_runV (As := [.int p1, .int (v4 - 1)]) (rest := [.int xq6.1]) ⟨hx, hb, hml, hown, hts⟩ (kX7_part l D G ub _ 58 rfl p1 (v4 - 1) xq9 hfq10) (cwV 2 hts (lwW_gV mw_825 mw_607 mw_608 mw_10 mw_609) rfl rfl rfl (by decide +kernel) ⟨Nat.le_of_ble_eq_true rfl, Nat.le_of_ble_eq_true rfl⟩) ⟨fun a U g mk q => ⟨q.1, xPre_call q.2⟩, va_recv hK hP rfl (xg_1 rfl), fun U hU hW => ⟨rfl, xPre_at h0 hS hP hU hW⟩⟩ rfl rfl hl.1 rfl (lv_room (Nat.le_of_ble_eq_true rfl)) dX0_arrangementsOf_41 ⟨Nat.zero_le _, Nat.zero_le _⟩) hS (fun q _ h => h) (fun q h => h) (fun r u t H1 locs ht hvm hw hB hz1 hq1 hS => ?_)
      obtain ⟨rfl, rfl⟩ := hw
      have hP := hB.1
      rw [ht] at hP
      refine W.widen (k := 0) (n := 0) (Nat.le_refl _) (Nat.le_refl _) ?_
      refine lv_icmp_ne (tgt := 53) hx hb dX0_arrangementsOf_44 (by decide) (fun hcq11 => ?_) (fun hcq11 => ?_)
      · have h := ifn hcq11 h
        exact J53 v2 v4 xq6.1 _ _ _ _ h hP hS (lv_sub hl [1, 2, 3, 5, 0] rfl)
      have h := ifp hcq11 h
      refine lv_iload_n hx hb dX0_arrangementsOf_47 rfl (lv_at hl 4 rfl) ?_
      refine lv_iconst (v := 1) hx hb dX0_arrangementsOf_48 (by decide) ?_
      refine lv_iadd hx hb dX0_arrangementsOf_49 ?_
      refine lv_goto (tgt := 54) hx hb dX0_arrangementsOf_50 (by decide) ?_
      exact J54 v2 v4 xq6.1 (v3 + 1) _ _ _ _ h hP hS (lv_sub hl [1, 2, 3, 5, 0] rfl)
  refine lv_iconst (v := 1) hx hb dX0_arrangementsOf_0 (by decide) ?_
  refine lv_istore_n (lv' := [(2, .int 1), (0, .ref (G.1 114)), (1, .int p1)]) hx hb dX0_arrangementsOf_1 rfl hl (by decide) rfl (fun ls hl => ?_)
  refine lv_iconst (v := 0) hx hb dX0_arrangementsOf_2 (by decide) ?_
  refine lv_istore_n (lv' := [(3, .int 0), (2, .int 1), (0, .ref (G.1 114)), (1, .int p1)]) hx hb dX0_arrangementsOf_3 rfl hl (by decide) rfl (fun ls hl => ?_)
  refine lv_iconst (v := 0) hx hb dX0_arrangementsOf_4 (by decide) ?_
  refine lv_istore (lv' := [(4, .int 0), (3, .int 0), (2, .int 1), (0, .ref (G.1 114)), (1, .int p1)]) hx hb dX0_arrangementsOf_5 hl (by decide) rfl (fun ls hl => ?_)
  exact L7 FU 1 0 0 _ _ _ _ h hP hS (lv_sub hl [3, 4, 2, 1, 0] rfl)
def fX0_arrangements_L4  : Nat → Int32 → Int32 → QMem → Option (Int32 × QMem)
  | 0, _, _, _ => none
  | n + 1, v1, v2, τ =>
  (fX7_size 58 τ).bind fun xq1 => (if xq1.1 ≤ v2 then (some (v1, xq1.2)) else ((fX0_arrangementsOf v2 xq1.2).bind fun xq4 => ((fX0_arrangements_L4 n) (v1 + xq4.1) (v2 + 1) xq4.2)))
def fX0_arrangements  (σ : QMem) : Option (Int32 × QMem) :=
  fX0_arrangements_L4 FU 0 0 σ
set_option maxHeartbeats 4000000 in
set_option maxRecDepth 100000 in
theorem kX0_arrangements (l : Launch) (D : va_G) (G : xG) (ub : xB) (σ : QMem) (res : Int32 × QMem) (h : fX0_arrangements σ = some res) : Met l yX0_arrangements (.code yX0_arrangements cX0_arrangements 3 (some .int) :: lwW) (rmD 3) (xPc D G ub σ [.ref (G.1 114)]) (xQi D G ub res) 0 0 (xA G) := by
  refine Met.ofW (cc := cX0_arrangements) (maxL := 3) (ret := (some .int)) (by decide) rfl ?_
  intro p e s m args below meth c s₁ B hml hv
  obtain ⟨rfl, h0⟩ := hv
  have hx := B.exec
  have hb := B.bytes
  have hr := B.returns
  have hts := fun (w : Cond) (hw : w ∈ lwW) => atoms_spec (ws := (.code yX0_arrangements cX0_arrangements 3 (some .int) :: lwW)) B.pre w (List.mem_cons_of_mem _ hw)
  have hown : s.vm.findClass RX0 = some m.cls := findClass_of_methodNamed B.named
  have hlocks := B.notSynchronized
  have hP := h0.1
  have hK := h0.2.1
  have hi := h0.2.2.1
  have hZ := h0.2.2.2
  have hN := h0.2.2.2.2.2.2.2.1
  have hV := h0.2.2.2.2.2.2.2.2.1
  have hS : va_S (xA G) s.heap s.heap [] := va_S.rf
  have hl := lv_entry ([.ref (G.1 114)]) (n := 3) (Nat.le_of_ble_eq_true rfl)
  rw [lg_entry_eq]
  generalize (lg_sl ([.ref (G.1 114)]) ++ List.replicate (3 - (lg_sl ([.ref (G.1 114)])).length) Slot.unset).toArray = ls at hl ⊢
  have hl : lv_has ls 3 [(0, .ref (G.1 114))] := hl
  unfold fX0_arrangements at h
  have L4 : ∀ (n4 : Nat) (v1 : Int32) (v2 : Int32) (τ : QMem) (H : Heap) (locs : List Loc) (ls : Array Slot), fX0_arrangements_L4 n4 v1 v2 τ = some res → va_P D vwCl (xW G τ) H → va_S (xA G) s.heap H locs → lv_has ls 3 [(0, .ref (G.1 114)), (1, .int v1), (2, .int v2)] → W p l e (headSpec (.code yX0_arrangements cX0_arrangements 3 (some .int) :: lwW) (rmD 3)).room s m ([.ref (G.1 114)] : List Value).toArray below meth c H locs 0 0 (MQ below (xQi D G ub res) ([.ref (G.1 114)] : List Value).toArray s 0 0 (xA G)) (F0 m 4 ls []) := by
    intro n4
    induction n4 with
    | zero => intro v1 v2 τ H locs ls h; rw [fX0_arrangements_L4] at h; cases h
    | succ n4 ih4 =>
      intro v1 v2 τ H locs ls h hP hS hl
      rw [fX0_arrangements_L4] at h
      refine lv_iload_n hx hb dX0_arrangements_4 rfl (lv_at hl 2 rfl) ?_
      refine lv_aload_n hx hb dX0_arrangements_5 rfl (lv_at hl 0 rfl) ?_
      refine va_get (D := D) (ci := 0) (v := .ref (G.1 58)) (C := RX0) (T := TX0) (N := 1) hx hb hts iwX0 hown hK hP 114 (xg_16 rfl) rfl 0 (by decide) (hts _ mw_277) (fun _ h9 => h9) rfl dX0_arrangements_6 ?_
      obtain ⟨xq1, hfq2, h⟩ := obd h
      refine va_calli (va_runV (As := []) (rest := [.int v2]) ⟨hx, hb, hml, hown, hts⟩ (kX7_size l D G ub _ 58 rfl xq1 hfq2) (cwV 0 hts (lwW_gV mw_820 mw_599 mw_600 mw_10 mw_601) rfl rfl rfl (by decide +kernel) ⟨Nat.le_of_ble_eq_true rfl, Nat.le_of_ble_eq_true rfl⟩) ⟨fun a U g mk q => ⟨q.1, xPre_call q.2⟩, va_recv hK hP rfl (xg_1 rfl), fun U hU hW => ⟨rfl, xPre_at h0 hS hP hU hW⟩⟩ rfl rfl hl.1 rfl (lv_room (Nat.le_of_ble_eq_true rfl)) dX0_arrangements_9 ⟨Nat.zero_le _, Nat.zero_le _⟩) hS (fun q _ h => h) (fun q h => h) (fun r u t H1 locs ht hvm hw hB hz1 hq1 hS => ?_)
      obtain ⟨rfl, rfl⟩ := hw
      have hP := hB.1
      rw [ht] at hP
      refine W.widen (k := 0) (n := 0) (Nat.le_refl _) (Nat.le_refl _) ?_
      refine lv_icmp_ge (tgt := 29) hx hb dX0_arrangements_12 (by decide) (fun hcq3 => ?_) (fun hcq3 => ?_)
      · have h := ifp hcq3 h
        refine lv_iload_n hx hb dX0_arrangements_29 rfl (lv_at hl 1 rfl) ?_
        obtain rfl := Option.some.inj h
        exact W.iret (v := v1) hx hb hr (fun t ht hW => ⟨⟨_, _, rfl, ⟨rfl, rfl⟩, xPre_at h0 hS hP ht hW⟩, hS.F ht⟩) hS.2.2 dX0_arrangements_30
      have h := ifn hcq3 h
      refine lv_iload_n hx hb dX0_arrangements_15 rfl (lv_at hl 1 rfl) ?_
      refine lv_aload_n hx hb dX0_arrangements_16 rfl (lv_at hl 0 rfl) ?_
      refine lv_iload_n hx hb dX0_arrangements_17 rfl (lv_at hl 2 rfl) ?_
      obtain ⟨xq4, hfq5, h⟩ := obd h
      refine va_calli (va_runV (As := [.int v2]) (rest := [.int v1]) ⟨hx, hb, hml, hown, hts⟩ (kX0_arrangementsOf l D G ub _ v2 xq4 hfq5) (cwV 1 hts (lwW_gV mw_821 mw_823 ms_20 mw_13 mw_824) rfl rfl rfl (by decide +kernel) ⟨Nat.le_of_ble_eq_true rfl, Nat.le_of_ble_eq_true rfl⟩) ⟨fun a U g mk q => ⟨q.1, xPre_call q.2⟩, va_recv hK hP rfl (xg_16 rfl), fun U hU hW => ⟨rfl, xPre_at h0 hS hP hU hW⟩⟩ rfl rfl hl.1 rfl (lv_room (Nat.le_of_ble_eq_true rfl)) dX0_arrangements_18 ⟨Nat.zero_le _, Nat.zero_le _⟩) hS (fun q _ h => h) (fun q h => h) (fun r u t H1 locs ht hvm hw hB hz1 hq1 hS => ?_)
      obtain ⟨rfl, rfl⟩ := hw
      have hP := hB.1
      rw [ht] at hP
      refine W.widen (k := 0) (n := 0) (Nat.le_refl _) (Nat.le_refl _) ?_
      refine lv_iadd hx hb dX0_arrangements_21 ?_
      refine lv_istore_n (lv' := [(1, .int (v1 + xq4.1)), (0, .ref (G.1 114)), (2, .int v2)]) hx hb dX0_arrangements_22 rfl hl (by decide) rfl (fun ls hl => ?_)
      refine lv_iinc (v := v2 + 1) (lv' := [(2, .int (v2 + 1)), (1, .int (v1 + xq4.1)), (0, .ref (G.1 114))]) hx hb dX0_arrangements_23 hl (k := 2) rfl rfl (by decide) rfl (fun ls hl => ?_)
      refine lv_goto (tgt := 4) hx hb dX0_arrangements_26 (by decide) ?_
      exact ih4 (v1 + xq4.1) (v2 + 1) _ _ _ _ h hP hS (lv_sub hl [2, 1, 0] rfl)
  refine lv_iconst (v := 0) hx hb dX0_arrangements_0 (by decide) ?_
  refine lv_istore_n (lv' := [(1, .int 0), (0, .ref (G.1 114))]) hx hb dX0_arrangements_1 rfl hl (by decide) rfl (fun ls hl => ?_)
  refine lv_iconst (v := 0) hx hb dX0_arrangements_2 (by decide) ?_
  refine lv_istore_n (lv' := [(2, .int 0), (1, .int 0), (0, .ref (G.1 114))]) hx hb dX0_arrangements_3 rfl hl (by decide) rfl (fun ls hl => ?_)
  exact L4 FU 0 0 _ _ _ _ h hP hS (lv_sub hl [2, 1, 0] rfl)
def fX7_putRow (k0 : Nat) (k1 : Nat) (p2 : Int32) (σ : QMem) : Option (QMem) :=
  (fX7_part k0 p2 0 σ).bind fun xq1 => ((fX7_part k0 p2 1 xq1.2).bind fun xq3 => ((fX7_part k0 p2 2 xq3.2).bind fun xq5 => ((fX7_part k0 p2 3 xq5.2).bind fun xq7 => ((fX6_put k1 xq1.1 xq3.1 xq5.1 xq7.1 xq7.2).bind fun xq9 => (some xq9)))))
set_option maxHeartbeats 4000000 in
set_option maxRecDepth 100000 in
theorem kX7_putRow (l : Launch) (D : va_G) (G : xG) (ub : xB) (σ : QMem) (k0 : Nat) (hk0 : xk k0 = 1) (k1 : Nat) (hk1 : xk k1 = 0) (p2 : Int32) (res : QMem) (h : fX7_putRow k0 k1 p2 σ = some res) : Met l yX7_putRow (.code yX7_putRow cX7_putRow 3 none :: lwW) (rmD 2) (xPc D G ub σ [.ref (G.1 k0), .ref (G.1 k1), .int p2]) (xQv D G ub res) 0 0 (xA G) := by
  refine Met.ofW (cc := cX7_putRow) (maxL := 3) (ret := none) (by decide) rfl ?_
  intro p e s m args below meth c s₁ B hml hv
  obtain ⟨rfl, h0⟩ := hv
  have hx := B.exec
  have hb := B.bytes
  have hr := B.returns
  have hts := fun (w : Cond) (hw : w ∈ lwW) => atoms_spec (ws := (.code yX7_putRow cX7_putRow 3 none :: lwW)) B.pre w (List.mem_cons_of_mem _ hw)
  have hown : s.vm.findClass RX7 = some m.cls := findClass_of_methodNamed B.named
  have hlocks := B.notSynchronized
  have hP := h0.1
  have hK := h0.2.1
  have hi := h0.2.2.1
  have hZ := h0.2.2.2
  have hN := h0.2.2.2.2.2.2.2.1
  have hV := h0.2.2.2.2.2.2.2.2.1
  have hS : va_S (xA G) s.heap s.heap [] := va_S.rf
  have hl := lv_entry ([.ref (G.1 k0), .ref (G.1 k1), .int p2]) (n := 3) (Nat.le_of_ble_eq_true rfl)
  rw [lg_entry_eq]
  generalize (lg_sl ([.ref (G.1 k0), .ref (G.1 k1), .int p2]) ++ List.replicate (3 - (lg_sl ([.ref (G.1 k0), .ref (G.1 k1), .int p2])).length) Slot.unset).toArray = ls at hl ⊢
  have hl : lv_has ls 3 [(0, .ref (G.1 k0)), (1, .ref (G.1 k1)), (2, .int p2)] := hl
  unfold fX7_putRow at h
  refine lv_aload_n hx hb dX7_putRow_0 rfl (lv_at hl 1 rfl) ?_
  refine lv_aload_n hx hb dX7_putRow_1 rfl (lv_at hl 0 rfl) ?_
  refine lv_iload_n hx hb dX7_putRow_2 rfl (lv_at hl 2 rfl) ?_
  refine lv_iconst (v := 0) hx hb dX7_putRow_3 (by decide) ?_
  obtain ⟨xq1, hfq2, h⟩ := obd h
  refine va_calli (va_runV (As := [.int p2, .int 0]) (rest := [.ref (G.1 k1)]) ⟨hx, hb, hml, hown, hts⟩ (kX7_part l D G ub _ k0 hk0 p2 0 xq1 hfq2) (cwV 2 hts (lwW_gV mw_606 mw_607 mw_608 mw_10 mw_609) rfl rfl rfl (by decide +kernel) ⟨Nat.le_of_ble_eq_true rfl, Nat.le_of_ble_eq_true rfl⟩) ⟨fun a U g mk q => ⟨q.1, xPre_call q.2⟩, va_recv hK hP rfl (xg_1 hk0), fun U hU hW => ⟨rfl, xPre_at h0 hS hP hU hW⟩⟩ rfl rfl hl.1 rfl (lv_room (Nat.le_of_ble_eq_true rfl)) dX7_putRow_4 ⟨Nat.zero_le _, Nat.zero_le _⟩) hS (fun q _ h => h) (fun q h => h) (fun r u t H1 locs ht hvm hw hB hz1 hq1 hS => ?_)
  obtain ⟨rfl, rfl⟩ := hw
  have hP := hB.1
  rw [ht] at hP
  refine W.widen (k := 0) (n := 0) (Nat.le_refl _) (Nat.le_refl _) ?_
  refine lv_aload_n hx hb dX7_putRow_7 rfl (lv_at hl 0 rfl) ?_
  refine lv_iload_n hx hb dX7_putRow_8 rfl (lv_at hl 2 rfl) ?_
  refine lv_iconst (v := 1) hx hb dX7_putRow_9 (by decide) ?_
  obtain ⟨xq3, hfq4, h⟩ := obd h
  refine va_calli (va_runV (As := [.int p2, .int 1]) (rest := [.int xq1.1, .ref (G.1 k1)]) ⟨hx, hb, hml, hown, hts⟩ (kX7_part l D G ub _ k0 hk0 p2 1 xq3 hfq4) (cwV 2 hts (lwW_gV mw_606 mw_607 mw_608 mw_10 mw_609) rfl rfl rfl (by decide +kernel) ⟨Nat.le_of_ble_eq_true rfl, Nat.le_of_ble_eq_true rfl⟩) ⟨fun a U g mk q => ⟨q.1, xPre_call q.2⟩, va_recv hK hP rfl (xg_1 hk0), fun U hU hW => ⟨rfl, xPre_at h0 hS hP hU hW⟩⟩ rfl rfl hl.1 rfl (lv_room (Nat.le_of_ble_eq_true rfl)) dX7_putRow_10 ⟨Nat.zero_le _, Nat.zero_le _⟩) hS (fun q _ h => h) (fun q h => h) (fun r u t H1 locs ht hvm hw hB hz1 hq1 hS => ?_)
  obtain ⟨rfl, rfl⟩ := hw
  have hP := hB.1
  rw [ht] at hP
  refine W.widen (k := 0) (n := 0) (Nat.le_refl _) (Nat.le_refl _) ?_
  refine lv_aload_n hx hb dX7_putRow_13 rfl (lv_at hl 0 rfl) ?_
  refine lv_iload_n hx hb dX7_putRow_14 rfl (lv_at hl 2 rfl) ?_
  refine lv_iconst (v := 2) hx hb dX7_putRow_15 (by decide) ?_
  obtain ⟨xq5, hfq6, h⟩ := obd h
  refine va_calli (va_runV (As := [.int p2, .int 2]) (rest := [.int xq3.1, .int xq1.1, .ref (G.1 k1)]) ⟨hx, hb, hml, hown, hts⟩ (kX7_part l D G ub _ k0 hk0 p2 2 xq5 hfq6) (cwV 2 hts (lwW_gV mw_606 mw_607 mw_608 mw_10 mw_609) rfl rfl rfl (by decide +kernel) ⟨Nat.le_of_ble_eq_true rfl, Nat.le_of_ble_eq_true rfl⟩) ⟨fun a U g mk q => ⟨q.1, xPre_call q.2⟩, va_recv hK hP rfl (xg_1 hk0), fun U hU hW => ⟨rfl, xPre_at h0 hS hP hU hW⟩⟩ rfl rfl hl.1 rfl (lv_room (Nat.le_of_ble_eq_true rfl)) dX7_putRow_16 ⟨Nat.zero_le _, Nat.zero_le _⟩) hS (fun q _ h => h) (fun q h => h) (fun r u t H1 locs ht hvm hw hB hz1 hq1 hS => ?_)
  obtain ⟨rfl, rfl⟩ := hw
  have hP := hB.1
  rw [ht] at hP
  refine W.widen (k := 0) (n := 0) (Nat.le_refl _) (Nat.le_refl _) ?_
  refine lv_aload_n hx hb dX7_putRow_19 rfl (lv_at hl 0 rfl) ?_
  refine lv_iload_n hx hb dX7_putRow_20 rfl (lv_at hl 2 rfl) ?_
  refine lv_iconst (v := 3) hx hb dX7_putRow_21 (by decide) ?_
  obtain ⟨xq7, hfq8, h⟩ := obd h
  refine va_calli (va_runV (As := [.int p2, .int 3]) (rest := [.int xq5.1, .int xq3.1, .int xq1.1, .ref (G.1 k1)]) ⟨hx, hb, hml, hown, hts⟩ (kX7_part l D G ub _ k0 hk0 p2 3 xq7 hfq8) (cwV 2 hts (lwW_gV mw_606 mw_607 mw_608 mw_10 mw_609) rfl rfl rfl (by decide +kernel) ⟨Nat.le_of_ble_eq_true rfl, Nat.le_of_ble_eq_true rfl⟩) ⟨fun a U g mk q => ⟨q.1, xPre_call q.2⟩, va_recv hK hP rfl (xg_1 hk0), fun U hU hW => ⟨rfl, xPre_at h0 hS hP hU hW⟩⟩ rfl rfl hl.1 rfl (lv_room (Nat.le_of_ble_eq_true rfl)) dX7_putRow_22 ⟨Nat.zero_le _, Nat.zero_le _⟩) hS (fun q _ h => h) (fun q h => h) (fun r u t H1 locs ht hvm hw hB hz1 hq1 hS => ?_)
  obtain ⟨rfl, rfl⟩ := hw
  have hP := hB.1
  rw [ht] at hP
  refine W.widen (k := 0) (n := 0) (Nat.le_refl _) (Nat.le_refl _) ?_
  obtain ⟨xq9, hfq10, h⟩ := obd h
  refine va_callv (va_runV (As := [.int xq1.1, .int xq3.1, .int xq5.1, .int xq7.1]) (rest := []) ⟨hx, hb, hml, hown, hts⟩ (kX6_put l D G ub _ k1 hk1 xq1.1 xq3.1 xq5.1 xq7.1 xq9 hfq10) (cwV 4 hts (lwW_gV mw_611 mw_467 mw_468 mw_3 mw_469) rfl rfl rfl (by decide +kernel) ⟨Nat.le_of_ble_eq_true rfl, Nat.le_of_ble_eq_true rfl⟩) ⟨fun a U g mk q => ⟨q.1, xPre_call q.2⟩, va_recv hK hP rfl (xg_0 hk1), fun U hU hW => ⟨rfl, xPre_at h0 hS hP hU hW⟩⟩ rfl rfl hl.1 rfl (lv_room (Nat.le_of_ble_eq_true rfl)) dX7_putRow_25 ⟨Nat.zero_le _, Nat.zero_le _⟩) hS (fun q _ h => h) (fun q h => h) (fun u t H1 locs ht hvm hw hB hz1 hq1 hS => ?_)
  obtain rfl := hw.symm
  have hP := hB.1
  rw [ht] at hP
  refine W.widen (k := 0) (n := 0) (Nat.le_refl _) (Nat.le_refl _) ?_
  obtain rfl := Option.some.inj h
  exact W.vret hx hb hr (fun t ht hW => ⟨⟨_, rfl, rfl, xPre_at h0 hS hP ht hW⟩, hS.F ht⟩) hS.2.2 dX7_putRow_28
def fX4_clear  (σ : QMem) : Option (QMem) :=
  some (ms σ 108 3 0)
set_option maxHeartbeats 4000000 in
set_option maxRecDepth 100000 in
theorem kX4_clear (l : Launch) (D : va_G) (G : xG) (ub : xB) (σ : QMem) (res : QMem) (h : fX4_clear σ = some res) : Met l yX4_clear (.code yX4_clear cX4_clear 1 none :: lwW) (rmD 0) (xPc D G ub σ [.ref (G.1 108)]) (xQv D G ub res) 0 0 (xA G) := by
  refine Met.ofW (cc := cX4_clear) (maxL := 1) (ret := none) (by decide) rfl ?_
  intro p e s m args below meth c s₁ B hml hv
  obtain ⟨rfl, h0⟩ := hv
  have hx := B.exec
  have hb := B.bytes
  have hr := B.returns
  have hts := fun (w : Cond) (hw : w ∈ lwW) => atoms_spec (ws := (.code yX4_clear cX4_clear 1 none :: lwW)) B.pre w (List.mem_cons_of_mem _ hw)
  have hown : s.vm.findClass RX4 = some m.cls := findClass_of_methodNamed B.named
  have hlocks := B.notSynchronized
  have hP := h0.1
  have hK := h0.2.1
  have hi := h0.2.2.1
  have hZ := h0.2.2.2
  have hN := h0.2.2.2.2.2.2.2.1
  have hV := h0.2.2.2.2.2.2.2.2.1
  have hS : va_S (xA G) s.heap s.heap [] := va_S.rf
  have hl := lv_entry ([.ref (G.1 108)]) (n := 1) (Nat.le_of_ble_eq_true rfl)
  rw [lg_entry_eq]
  generalize (lg_sl ([.ref (G.1 108)]) ++ List.replicate (1 - (lg_sl ([.ref (G.1 108)])).length) Slot.unset).toArray = ls at hl ⊢
  have hl : lv_has ls 1 [(0, .ref (G.1 108))] := hl
  unfold fX4_clear at h
  refine lv_aload_n hx hb dX4_clear_0 rfl (lv_at hl 0 rfl) ?_
  refine lv_iconst (v := 0) hx hb dX4_clear_1 (by decide) ?_
  refine va_put (D := D) (ci := 4) (v := .int 0) (ty := .int) (C := RX4) (T := TX4) (N := 4) hx hb hts iwX4 tyX4 tyX4_ok nmX4 hown hK hP (xD hi) hS 108 (xg_10 rfl) rfl 3 (by decide) (hts _ mw_104) (fun _ h9 => h9) rfl (by decide +kernel) rfl rfl (Nat.le_of_ble_eq_true rfl) dX4_clear_2 (fun H locs hP hD hS => ?_)
  have hP : va_P D vwCl (xW G (ms σ 108 3 0)) H := by rw [← xs_10_3 rfl]; exact hP
  obtain rfl := Option.some.inj h
  exact W.vret hx hb hr (fun t ht hW => ⟨⟨_, rfl, rfl, xPre_at h0 hS hP ht hW⟩, hS.F ht⟩) hS.2.2 dX4_clear_5
def fX4_size  (σ : QMem) : Option (Int32 × QMem) :=
  some (σ 108 3, σ)
set_option maxHeartbeats 4000000 in
set_option maxRecDepth 100000 in
theorem kX4_size (l : Launch) (D : va_G) (G : xG) (ub : xB) (σ : QMem) (res : Int32 × QMem) (h : fX4_size σ = some res) : Met l yX4_size (.code yX4_size cX4_size 1 (some .int) :: lwW) (rmD 0) (xPc D G ub σ [.ref (G.1 108)]) (xQi D G ub res) 0 0 (xA G) := by
  refine Met.ofW (cc := cX4_size) (maxL := 1) (ret := (some .int)) (by decide) rfl ?_
  intro p e s m args below meth c s₁ B hml hv
  obtain ⟨rfl, h0⟩ := hv
  have hx := B.exec
  have hb := B.bytes
  have hr := B.returns
  have hts := fun (w : Cond) (hw : w ∈ lwW) => atoms_spec (ws := (.code yX4_size cX4_size 1 (some .int) :: lwW)) B.pre w (List.mem_cons_of_mem _ hw)
  have hown : s.vm.findClass RX4 = some m.cls := findClass_of_methodNamed B.named
  have hlocks := B.notSynchronized
  have hP := h0.1
  have hK := h0.2.1
  have hi := h0.2.2.1
  have hZ := h0.2.2.2
  have hN := h0.2.2.2.2.2.2.2.1
  have hV := h0.2.2.2.2.2.2.2.2.1
  have hS : va_S (xA G) s.heap s.heap [] := va_S.rf
  have hl := lv_entry ([.ref (G.1 108)]) (n := 1) (Nat.le_of_ble_eq_true rfl)
  rw [lg_entry_eq]
  generalize (lg_sl ([.ref (G.1 108)]) ++ List.replicate (1 - (lg_sl ([.ref (G.1 108)])).length) Slot.unset).toArray = ls at hl ⊢
  have hl : lv_has ls 1 [(0, .ref (G.1 108))] := hl
  unfold fX4_size at h
  refine lv_aload_n hx hb dX4_size_0 rfl (lv_at hl 0 rfl) ?_
  refine va_get (D := D) (ci := 4) (v := .int (σ 108 3)) (C := RX4) (T := TX4) (N := 4) hx hb hts iwX4 hown hK hP 108 (xg_10 rfl) rfl 3 (by decide) (hts _ mw_104) (fun _ h9 => h9) rfl dX4_size_1 ?_
  obtain rfl := Option.some.inj h
  exact W.iret (v := σ 108 3) hx hb hr (fun t ht hW => ⟨⟨_, _, rfl, ⟨rfl, rfl⟩, xPre_at h0 hS hP ht hW⟩, hS.F ht⟩) hS.2.2 dX4_size_4
def fX4_append (p1 : Int32) (k2 : Nat) (σ : QMem) : Option (QMem) :=
  if ((qfm ((σ 108 2) + (σ 108 3)) 8) < 0 ∨ xl 82 ≤ (qfm ((σ 108 2) + (σ 108 3)) 8).toNatClampNeg) then none else (if ((qfm ((σ 108 2) + (σ 108 3)) 8) < 0 ∨ xl 103 ≤ (qfm ((σ 108 2) + (σ 108 3)) 8).toNatClampNeg) then none else ((fX6_copyFrom (xb 103 + (qfm ((σ 108 2) + (σ 108 3)) 8).toNatClampNeg) k2 (ms σ 82 (qfm ((σ 108 2) + (σ 108 3)) 8).toNatClampNeg p1)).bind fun xq3 => (if 8 ≤ (xq3 108 3) then (some (ms xq3 108 2 (qfm ((xq3 108 2) + 1) 8))) else (some (ms xq3 108 3 ((xq3 108 3) + 1))))))
set_option maxHeartbeats 4000000 in
set_option maxRecDepth 100000 in
theorem kX4_append (l : Launch) (D : va_G) (G : xG) (ub : xB) (σ : QMem) (p1 : Int32) (k2 : Nat) (hk2 : xk k2 = 0) (res : QMem) (h : fX4_append p1 k2 σ = some res) : Met l yX4_append (.code yX4_append cX4_append 4 none :: lwW) (rmD 2) (xPc D G ub σ [.ref (G.1 108), .int p1, .ref (G.1 k2)]) (xQv D G ub res) 0 0 (xA G) := by
  refine Met.ofW (cc := cX4_append) (maxL := 4) (ret := none) (by decide) rfl ?_
  intro p e s m args below meth c s₁ B hml hv
  obtain ⟨rfl, h0⟩ := hv
  have hx := B.exec
  have hb := B.bytes
  have hr := B.returns
  have hts := fun (w : Cond) (hw : w ∈ lwW) => atoms_spec (ws := (.code yX4_append cX4_append 4 none :: lwW)) B.pre w (List.mem_cons_of_mem _ hw)
  have hown : s.vm.findClass RX4 = some m.cls := findClass_of_methodNamed B.named
  have hlocks := B.notSynchronized
  have hP := h0.1
  have hK := h0.2.1
  have hi := h0.2.2.1
  have hZ := h0.2.2.2
  have hN := h0.2.2.2.2.2.2.2.1
  have hV := h0.2.2.2.2.2.2.2.2.1
  have hS : va_S (xA G) s.heap s.heap [] := va_S.rf
  have hl := lv_entry ([.ref (G.1 108), .int p1, .ref (G.1 k2)]) (n := 4) (Nat.le_of_ble_eq_true rfl)
  rw [lg_entry_eq]
  generalize (lg_sl ([.ref (G.1 108), .int p1, .ref (G.1 k2)]) ++ List.replicate (4 - (lg_sl ([.ref (G.1 108), .int p1, .ref (G.1 k2)])).length) Slot.unset).toArray = ls at hl ⊢
  have hl : lv_has ls 4 [(0, .ref (G.1 108)), (1, .int p1), (2, .ref (G.1 k2))] := hl
  unfold fX4_append at h
  refine lv_aload_n hx hb dX4_append_0 rfl (lv_at hl 0 rfl) ?_
  refine va_get (D := D) (ci := 4) (v := .int (σ 108 2)) (C := RX4) (T := TX4) (N := 4) hx hb hts iwX4 hown hK hP 108 (xg_10 rfl) rfl 2 (by decide) (hts _ mw_103) (fun _ h9 => h9) rfl dX4_append_1 ?_
  refine lv_aload_n hx hb dX4_append_4 rfl (lv_at hl 0 rfl) ?_
  refine va_get (D := D) (ci := 4) (v := .int (σ 108 3)) (C := RX4) (T := TX4) (N := 4) hx hb hts iwX4 hown hK hP 108 (xg_10 rfl) rfl 3 (by decide) (hts _ mw_104) (fun _ h9 => h9) rfl dX4_append_5 ?_
  refine lv_iadd hx hb dX4_append_8 ?_
  refine lv_bipush (v := 8) hx hb dX4_append_9 (by decide) ?_
  refine va_mfloorMod hx hb (by rw [hml]; exact hl.1.symm) hown (hts _ mw_674) (hts _ mw_675) (hts _ mw_2) (hts _ mw_676) (Nat.le_of_ble_eq_true rfl) (Nat.le_of_ble_eq_true rfl) (Nat.zero_le _) (Nat.zero_le _) (by decide) dX4_append_11 ?_
  refine lv_istore_n (lv' := [(3, .int (qfm ((σ 108 2) + (σ 108 3)) 8)), (0, .ref (G.1 108)), (1, .int p1), (2, .ref (G.1 k2))]) hx hb dX4_append_14 rfl hl (by decide) rfl (fun ls hl => ?_)
  refine lv_aload_n hx hb dX4_append_15 rfl (lv_at hl 1 rfl) ?_
  refine va_get (D := D) (ci := 4) (v := .ref (G.1 82)) (C := RX4) (T := TX4) (N := 4) hx hb hts iwX4 hown hK hP 108 (xg_10 rfl) rfl 0 (by decide) (hts _ mw_101) (fun _ h9 => h9) rfl dX4_append_16 ?_
  refine lv_iload_n hx hb dX4_append_19 rfl (lv_at hl 0 rfl) ?_
  refine lv_iload_n hx hb dX4_append_20 rfl (lv_at hl 2 rfl) ?_
  obtain ⟨hiq1, h⟩ := nif h
  refine va_iast hx hb hK hP (xD hi) hS 82 0 (xg_2 rfl) rfl hiq1 dX4_append_21 (fun H locs hP hD hS => ?_)
  have hP : va_P D vwCl (xW G (ms σ 82 (qfm ((σ 108 2) + (σ 108 3)) 8).toNatClampNeg p1)) H := by rw [← xs_2 rfl]; exact hP
  refine lv_aload_n hx hb dX4_append_22 rfl (lv_at hl 1 rfl) ?_
  refine va_get (D := D) (ci := 4) (v := .ref (G.1 103)) (C := RX4) (T := TX4) (N := 4) hx hb hts iwX4 hown hK hP 108 (xg_10 rfl) rfl 1 (by decide) (hts _ mw_102) (fun _ h9 => h9) rfl dX4_append_23 ?_
  refine lv_iload_n hx hb dX4_append_26 rfl (lv_at hl 0 rfl) ?_
  obtain ⟨hiq2, h⟩ := nif h
  refine va_aldq hx hb hK hP 103 1 (xg_6 rfl) rfl hiq2 dX4_append_27 ?_
  refine W.eq (g2 := F0 m 28 ls [.ref (G.1 (xb 103 + (qfm ((σ 108 2) + (σ 108 3)) 8).toNatClampNeg))]) rfl ?_
  refine lv_aload_n hx hb dX4_append_28 rfl (lv_at hl 3 rfl) ?_
  obtain ⟨xq3, hfq4, h⟩ := obd h
  refine va_callv (va_runV (As := [.ref (G.1 k2)]) (rest := []) ⟨hx, hb, hml, hown, hts⟩ (kX6_copyFrom l D G ub _ (xb 103 + (qfm ((σ 108 2) + (σ 108 3)) 8).toNatClampNeg) (xr6 rfl (vp_lt hiq2)) k2 hk2 xq3 hfq4) (cwV 1 hts (lwW_gV mw_677 mw_481 mw_482 mw_3 mw_483) rfl rfl rfl (by decide +kernel) ⟨Nat.le_of_ble_eq_true rfl, Nat.le_of_ble_eq_true rfl⟩) ⟨fun a U g mk q => ⟨q.1, xPre_call q.2⟩, va_recv hK hP rfl (xg_0 (xr6 rfl (vp_lt hiq2))), fun U hU hW => ⟨rfl, xPre_at h0 hS hP hU hW⟩⟩ rfl rfl hl.1 rfl (lv_room (Nat.le_of_ble_eq_true rfl)) dX4_append_29 ⟨Nat.zero_le _, Nat.zero_le _⟩) hS (fun q _ h => h) (fun q h => h) (fun u t H1 locs ht hvm hw hB hz1 hq1 hS => ?_)
  obtain rfl := hw.symm
  have hP := hB.1
  rw [ht] at hP
  refine W.widen (k := 0) (n := 0) (Nat.le_refl _) (Nat.le_refl _) ?_
  refine lv_aload_n hx hb dX4_append_32 rfl (lv_at hl 1 rfl) ?_
  refine va_get (D := D) (ci := 4) (v := .int (xq3 108 3)) (C := RX4) (T := TX4) (N := 4) hx hb hts iwX4 hown hK hP 108 (xg_10 rfl) rfl 3 (by decide) (hts _ mw_104) (fun _ h9 => h9) rfl dX4_append_33 ?_
  refine lv_bipush (v := 8) hx hb dX4_append_36 (by decide) ?_
  refine lv_icmp_ge (tgt := 54) hx hb dX4_append_38 (by decide) (fun hcq5 => ?_) (fun hcq5 => ?_)
  · have h := ifp hcq5 h
    refine lv_aload_n hx hb dX4_append_54 rfl (lv_at hl 1 rfl) ?_
    refine lv_aload_n hx hb dX4_append_55 rfl (lv_at hl 1 rfl) ?_
    refine va_get (D := D) (ci := 4) (v := .int (xq3 108 2)) (C := RX4) (T := TX4) (N := 4) hx hb hts iwX4 hown hK hP 108 (xg_10 rfl) rfl 2 (by decide) (hts _ mw_103) (fun _ h9 => h9) rfl dX4_append_56 ?_
    refine lv_iconst (v := 1) hx hb dX4_append_59 (by decide) ?_
    refine lv_iadd hx hb dX4_append_60 ?_
    refine lv_bipush (v := 8) hx hb dX4_append_61 (by decide) ?_
    refine va_mfloorMod hx hb (by rw [hml]; exact hl.1.symm) hown (hts _ mw_674) (hts _ mw_675) (hts _ mw_2) (hts _ mw_676) (Nat.le_of_ble_eq_true rfl) (Nat.le_of_ble_eq_true rfl) (Nat.zero_le _) (Nat.zero_le _) (by decide) dX4_append_63 ?_
    refine va_put (D := D) (ci := 4) (v := .int (qfm ((xq3 108 2) + 1) 8)) (ty := .int) (C := RX4) (T := TX4) (N := 4) hx hb hts iwX4 tyX4 tyX4_ok nmX4 hown hK hP (xD hi) hS 108 (xg_10 rfl) rfl 2 (by decide) (hts _ mw_103) (fun _ h9 => h9) rfl (by decide +kernel) rfl rfl (Nat.le_of_ble_eq_true rfl) dX4_append_66 (fun H locs hP hD hS => ?_)
    have hP : va_P D vwCl (xW G (ms xq3 108 2 (qfm ((xq3 108 2) + 1) 8))) H := by rw [← xs_10_2 rfl]; exact hP
    obtain rfl := Option.some.inj h
    exact W.vret hx hb hr (fun t ht hW => ⟨⟨_, rfl, rfl, xPre_at h0 hS hP ht hW⟩, hS.F ht⟩) hS.2.2 dX4_append_69
  have h := ifn hcq5 h
  refine lv_aload_n hx hb dX4_append_41 rfl (lv_at hl 1 rfl) ?_
  refine lv_dup hx hb dX4_append_42 rfl ?_
  refine va_get (D := D) (ci := 4) (v := .int (xq3 108 3)) (C := RX4) (T := TX4) (N := 4) hx hb hts iwX4 hown hK hP 108 (xg_10 rfl) rfl 3 (by decide) (hts _ mw_104) (fun _ h9 => h9) rfl dX4_append_43 ?_
  refine lv_iconst (v := 1) hx hb dX4_append_46 (by decide) ?_
  refine lv_iadd hx hb dX4_append_47 ?_
  refine va_put (D := D) (ci := 4) (v := .int ((xq3 108 3) + 1)) (ty := .int) (C := RX4) (T := TX4) (N := 4) hx hb hts iwX4 tyX4 tyX4_ok nmX4 hown hK hP (xD hi) hS 108 (xg_10 rfl) rfl 3 (by decide) (hts _ mw_104) (fun _ h9 => h9) rfl (by decide +kernel) rfl rfl (Nat.le_of_ble_eq_true rfl) dX4_append_48 (fun H locs hP hD hS => ?_)
  have hP : va_P D vwCl (xW G (ms xq3 108 3 ((xq3 108 3) + 1))) H := by rw [← xs_10_3 rfl]; exact hP
  refine lv_goto (tgt := 69) hx hb dX4_append_51 (by decide) ?_
  obtain rfl := Option.some.inj h
  exact W.vret hx hb hr (fun t ht hW => ⟨⟨_, rfl, rfl, xPre_at h0 hS hP ht hW⟩, hS.F ht⟩) hS.2.2 dX4_append_69
def fX4_takeLast (k1 : Nat) (σ : QMem) : Option (Int32 × QMem) :=
  if 0 < (σ 108 3) then (if ((qfm (((ms σ 108 3 ((σ 108 3) - 1)) 108 2) + ((ms σ 108 3 ((σ 108 3) - 1)) 108 3)) 8) < 0 ∨ xl 103 ≤ (qfm (((ms σ 108 3 ((σ 108 3) - 1)) 108 2) + ((ms σ 108 3 ((σ 108 3) - 1)) 108 3)) 8).toNatClampNeg) then none else ((fX6_copyFrom k1 (xb 103 + (qfm (((ms σ 108 3 ((σ 108 3) - 1)) 108 2) + ((ms σ 108 3 ((σ 108 3) - 1)) 108 3)) 8).toNatClampNeg) (ms σ 108 3 ((σ 108 3) - 1))).bind fun xq3 => (if ((qfm (((ms σ 108 3 ((σ 108 3) - 1)) 108 2) + ((ms σ 108 3 ((σ 108 3) - 1)) 108 3)) 8) < 0 ∨ xl 82 ≤ (qfm (((ms σ 108 3 ((σ 108 3) - 1)) 108 2) + ((ms σ 108 3 ((σ 108 3) - 1)) 108 3)) 8).toNatClampNeg) then none else (some (xq3 82 (qfm (((ms σ 108 3 ((σ 108 3) - 1)) 108 2) + ((ms σ 108 3 ((σ 108 3) - 1)) 108 3)) 8).toNatClampNeg, xq3))))) else (some ((-1), σ))
set_option maxHeartbeats 4000000 in
set_option maxRecDepth 100000 in
theorem kX4_takeLast (l : Launch) (D : va_G) (G : xG) (ub : xB) (σ : QMem) (k1 : Nat) (hk1 : xk k1 = 0) (res : Int32 × QMem) (h : fX4_takeLast k1 σ = some res) : Met l yX4_takeLast (.code yX4_takeLast cX4_takeLast 3 (some .int) :: lwW) (rmD 2) (xPc D G ub σ [.ref (G.1 108), .ref (G.1 k1)]) (xQi D G ub res) 0 0 (xA G) := by
  refine Met.ofW (cc := cX4_takeLast) (maxL := 3) (ret := (some .int)) (by decide) rfl ?_
  intro p e s m args below meth c s₁ B hml hv
  obtain ⟨rfl, h0⟩ := hv
  have hx := B.exec
  have hb := B.bytes
  have hr := B.returns
  have hts := fun (w : Cond) (hw : w ∈ lwW) => atoms_spec (ws := (.code yX4_takeLast cX4_takeLast 3 (some .int) :: lwW)) B.pre w (List.mem_cons_of_mem _ hw)
  have hown : s.vm.findClass RX4 = some m.cls := findClass_of_methodNamed B.named
  have hlocks := B.notSynchronized
  have hP := h0.1
  have hK := h0.2.1
  have hi := h0.2.2.1
  have hZ := h0.2.2.2
  have hN := h0.2.2.2.2.2.2.2.1
  have hV := h0.2.2.2.2.2.2.2.2.1
  have hS : va_S (xA G) s.heap s.heap [] := va_S.rf
  have hl := lv_entry ([.ref (G.1 108), .ref (G.1 k1)]) (n := 3) (Nat.le_of_ble_eq_true rfl)
  rw [lg_entry_eq]
  generalize (lg_sl ([.ref (G.1 108), .ref (G.1 k1)]) ++ List.replicate (3 - (lg_sl ([.ref (G.1 108), .ref (G.1 k1)])).length) Slot.unset).toArray = ls at hl ⊢
  have hl : lv_has ls 3 [(0, .ref (G.1 108)), (1, .ref (G.1 k1))] := hl
  unfold fX4_takeLast at h
  refine lv_aload_n hx hb dX4_takeLast_0 rfl (lv_at hl 0 rfl) ?_
  refine va_get (D := D) (ci := 4) (v := .int (σ 108 3)) (C := RX4) (T := TX4) (N := 4) hx hb hts iwX4 hown hK hP 108 (xg_10 rfl) rfl 3 (by decide) (hts _ mw_104) (fun _ h9 => h9) rfl dX4_takeLast_1 ?_
  refine lv_if_gt (tgt := 9) hx hb dX4_takeLast_4 (by decide) (fun hcq1 => ?_) (fun hcq1 => ?_)
  · have h := ifp hcq1 h
    refine lv_aload_n hx hb dX4_takeLast_9 rfl (lv_at hl 0 rfl) ?_
    refine lv_dup hx hb dX4_takeLast_10 rfl ?_
    refine va_get (D := D) (ci := 4) (v := .int (σ 108 3)) (C := RX4) (T := TX4) (N := 4) hx hb hts iwX4 hown hK hP 108 (xg_10 rfl) rfl 3 (by decide) (hts _ mw_104) (fun _ h9 => h9) rfl dX4_takeLast_11 ?_
    refine lv_iconst (v := 1) hx hb dX4_takeLast_14 (by decide) ?_
    refine lv_isub hx hb dX4_takeLast_15 ?_
    refine va_put (D := D) (ci := 4) (v := .int ((σ 108 3) - 1)) (ty := .int) (C := RX4) (T := TX4) (N := 4) hx hb hts iwX4 tyX4 tyX4_ok nmX4 hown hK hP (xD hi) hS 108 (xg_10 rfl) rfl 3 (by decide) (hts _ mw_104) (fun _ h9 => h9) rfl (by decide +kernel) rfl rfl (Nat.le_of_ble_eq_true rfl) dX4_takeLast_16 (fun H locs hP hD hS => ?_)
    have hP : va_P D vwCl (xW G (ms σ 108 3 ((σ 108 3) - 1))) H := by rw [← xs_10_3 rfl]; exact hP
    refine lv_aload_n hx hb dX4_takeLast_19 rfl (lv_at hl 0 rfl) ?_
    refine va_get (D := D) (ci := 4) (v := .int ((ms σ 108 3 ((σ 108 3) - 1)) 108 2)) (C := RX4) (T := TX4) (N := 4) hx hb hts iwX4 hown hK hP 108 (xg_10 rfl) rfl 2 (by decide) (hts _ mw_103) (fun _ h9 => h9) rfl dX4_takeLast_20 ?_
    refine lv_aload_n hx hb dX4_takeLast_23 rfl (lv_at hl 0 rfl) ?_
    refine va_get (D := D) (ci := 4) (v := .int ((ms σ 108 3 ((σ 108 3) - 1)) 108 3)) (C := RX4) (T := TX4) (N := 4) hx hb hts iwX4 hown hK hP 108 (xg_10 rfl) rfl 3 (by decide) (hts _ mw_104) (fun _ h9 => h9) rfl dX4_takeLast_24 ?_
    refine lv_iadd hx hb dX4_takeLast_27 ?_
    refine lv_bipush (v := 8) hx hb dX4_takeLast_28 (by decide) ?_
    refine va_mfloorMod hx hb (by rw [hml]; exact hl.1.symm) hown (hts _ mw_674) (hts _ mw_675) (hts _ mw_2) (hts _ mw_676) (Nat.le_of_ble_eq_true rfl) (Nat.le_of_ble_eq_true rfl) (Nat.zero_le _) (Nat.zero_le _) (by decide) dX4_takeLast_30 ?_
    refine lv_istore_n (lv' := [(2, .int (qfm (((ms σ 108 3 ((σ 108 3) - 1)) 108 2) + ((ms σ 108 3 ((σ 108 3) - 1)) 108 3)) 8)), (0, .ref (G.1 108)), (1, .ref (G.1 k1))]) hx hb dX4_takeLast_33 rfl hl (by decide) rfl (fun ls hl => ?_)
    refine lv_aload_n hx hb dX4_takeLast_34 rfl (lv_at hl 2 rfl) ?_
    refine lv_aload_n hx hb dX4_takeLast_35 rfl (lv_at hl 1 rfl) ?_
    refine va_get (D := D) (ci := 4) (v := .ref (G.1 103)) (C := RX4) (T := TX4) (N := 4) hx hb hts iwX4 hown hK hP 108 (xg_10 rfl) rfl 1 (by decide) (hts _ mw_102) (fun _ h9 => h9) rfl dX4_takeLast_36 ?_
    refine lv_iload_n hx hb dX4_takeLast_39 rfl (lv_at hl 0 rfl) ?_
    obtain ⟨hiq2, h⟩ := nif h
    refine va_aldq hx hb hK hP 103 1 (xg_6 rfl) rfl hiq2 dX4_takeLast_40 ?_
    refine W.eq (g2 := F0 m 41 ls [.ref (G.1 (xb 103 + (qfm (((ms σ 108 3 ((σ 108 3) - 1)) 108 2) + ((ms σ 108 3 ((σ 108 3) - 1)) 108 3)) 8).toNatClampNeg)), .ref (G.1 k1)]) rfl ?_
    obtain ⟨xq3, hfq4, h⟩ := obd h
    refine va_callv (va_runV (As := [.ref (G.1 (xb 103 + (qfm (((ms σ 108 3 ((σ 108 3) - 1)) 108 2) + ((ms σ 108 3 ((σ 108 3) - 1)) 108 3)) 8).toNatClampNeg))]) (rest := []) ⟨hx, hb, hml, hown, hts⟩ (kX6_copyFrom l D G ub _ k1 hk1 (xb 103 + (qfm (((ms σ 108 3 ((σ 108 3) - 1)) 108 2) + ((ms σ 108 3 ((σ 108 3) - 1)) 108 3)) 8).toNatClampNeg) (xr6 rfl (vp_lt hiq2)) xq3 hfq4) (cwV 1 hts (lwW_gV mw_677 mw_481 mw_482 mw_3 mw_483) rfl rfl rfl (by decide +kernel) ⟨Nat.le_of_ble_eq_true rfl, Nat.le_of_ble_eq_true rfl⟩) ⟨fun a U g mk q => ⟨q.1, xPre_call q.2⟩, va_recv hK hP rfl (xg_0 hk1), fun U hU hW => ⟨rfl, xPre_at h0 hS hP hU hW⟩⟩ rfl rfl hl.1 rfl (lv_room (Nat.le_of_ble_eq_true rfl)) dX4_takeLast_41 ⟨Nat.zero_le _, Nat.zero_le _⟩) hS (fun q _ h => h) (fun q h => h) (fun u t H1 locs ht hvm hw hB hz1 hq1 hS => ?_)
    obtain rfl := hw.symm
    have hP := hB.1
    rw [ht] at hP
    refine W.widen (k := 0) (n := 0) (Nat.le_refl _) (Nat.le_refl _) ?_
    refine lv_aload_n hx hb dX4_takeLast_44 rfl (lv_at hl 1 rfl) ?_
    refine va_get (D := D) (ci := 4) (v := .ref (G.1 82)) (C := RX4) (T := TX4) (N := 4) hx hb hts iwX4 hown hK hP 108 (xg_10 rfl) rfl 0 (by decide) (hts _ mw_101) (fun _ h9 => h9) rfl dX4_takeLast_45 ?_
    refine lv_iload_n hx hb dX4_takeLast_48 rfl (lv_at hl 0 rfl) ?_
    obtain ⟨hiq5, h⟩ := nif h
    refine va_iald hx hb hK hP 82 0 (xg_2 rfl) rfl hiq5 dX4_takeLast_49 ?_
    obtain rfl := Option.some.inj h
    exact W.iret (v := xq3 82 (qfm (((ms σ 108 3 ((σ 108 3) - 1)) 108 2) + ((ms σ 108 3 ((σ 108 3) - 1)) 108 3)) 8).toNatClampNeg) hx hb hr (fun t ht hW => ⟨⟨_, _, rfl, ⟨rfl, rfl⟩, xPre_at h0 hS hP ht hW⟩, hS.F ht⟩) hS.2.2 dX4_takeLast_50
  have h := ifn hcq1 h
  refine lv_iconst (v := (-1)) hx hb dX4_takeLast_7 (by decide) ?_
  obtain rfl := Option.some.inj h
  exact W.iret (v := (-1)) hx hb hr (fun t ht hW => ⟨⟨_, _, rfl, ⟨rfl, rfl⟩, xPre_at h0 hS hP ht hW⟩, hS.F ht⟩) hS.2.2 dX4_takeLast_8
def fX9_clear (k0 : Nat) (σ : QMem) : Option (QMem) :=
  some (ms σ k0 1 0)
set_option maxHeartbeats 4000000 in
set_option maxRecDepth 100000 in
theorem kX9_clear (l : Launch) (D : va_G) (G : xG) (ub : xB) (σ : QMem) (k0 : Nat) (hk0 : xk k0 = 5) (res : QMem) (h : fX9_clear k0 σ = some res) : Met l yX9_clear (.code yX9_clear cX9_clear 1 none :: lwW) (rmD 0) (xPc D G ub σ [.ref (G.1 k0)]) (xQv D G ub res) 0 0 (xA G) := by
  refine Met.ofW (cc := cX9_clear) (maxL := 1) (ret := none) (by decide) rfl ?_
  intro p e s m args below meth c s₁ B hml hv
  obtain ⟨rfl, h0⟩ := hv
  have hx := B.exec
  have hb := B.bytes
  have hr := B.returns
  have hts := fun (w : Cond) (hw : w ∈ lwW) => atoms_spec (ws := (.code yX9_clear cX9_clear 1 none :: lwW)) B.pre w (List.mem_cons_of_mem _ hw)
  have hown : s.vm.findClass RX9 = some m.cls := findClass_of_methodNamed B.named
  have hlocks := B.notSynchronized
  have hP := h0.1
  have hK := h0.2.1
  have hi := h0.2.2.1
  have hZ := h0.2.2.2
  have hN := h0.2.2.2.2.2.2.2.1
  have hV := h0.2.2.2.2.2.2.2.2.1
  have hS : va_S (xA G) s.heap s.heap [] := va_S.rf
  have hl := lv_entry ([.ref (G.1 k0)]) (n := 1) (Nat.le_of_ble_eq_true rfl)
  rw [lg_entry_eq]
  generalize (lg_sl ([.ref (G.1 k0)]) ++ List.replicate (1 - (lg_sl ([.ref (G.1 k0)])).length) Slot.unset).toArray = ls at hl ⊢
  have hl : lv_has ls 1 [(0, .ref (G.1 k0))] := hl
  unfold fX9_clear at h
  refine lv_aload_n hx hb dX9_clear_0 rfl (lv_at hl 0 rfl) ?_
  refine lv_iconst (v := 0) hx hb dX9_clear_1 (by decide) ?_
  refine va_put (D := D) (ci := 9) (v := .int 0) (ty := .boolean) (C := RX9) (T := TX9) (N := 2) hx hb hts iwX9 tyX9 tyX9_ok nmX9 hown hK hP (xD hi) hS k0 (xg_5 hk0) rfl 1 (by decide) (hts _ mw_70) (fun _ h9 => h9) rfl (by decide +kernel) rfl rfl (Nat.le_of_ble_eq_true rfl) dX9_clear_2 (fun H locs hP hD hS => ?_)
  have hP : va_P D vwCl (xW G (ms σ k0 1 0)) H := by rw [← xs_5_1 hk0]; exact hP
  obtain rfl := Option.some.inj h
  exact W.vret hx hb hr (fun t ht hW => ⟨⟨_, rfl, rfl, xPre_at h0 hS hP ht hW⟩, hS.F ht⟩) hS.2.2 dX9_clear_5
def fX9_isStored (k0 : Nat) (σ : QMem) : Option (Int32 × QMem) :=
  if ¬ ((σ k0 1) = 0 ∨ (σ k0 1) = 1) then none else (some (σ k0 1, σ))
set_option maxHeartbeats 4000000 in
set_option maxRecDepth 100000 in
theorem kX9_isStored (l : Launch) (D : va_G) (G : xG) (ub : xB) (σ : QMem) (k0 : Nat) (hk0 : xk k0 = 5) (res : Int32 × QMem) (h : fX9_isStored k0 σ = some res) : Met l yX9_isStored (.code yX9_isStored cX9_isStored 1 (some .boolean) :: lwW) (rmD 0) (xPc D G ub σ [.ref (G.1 k0)]) (xQi D G ub res) 0 0 (xA G) := by
  refine Met.ofW (cc := cX9_isStored) (maxL := 1) (ret := (some .boolean)) (by decide) rfl ?_
  intro p e s m args below meth c s₁ B hml hv
  obtain ⟨rfl, h0⟩ := hv
  have hx := B.exec
  have hb := B.bytes
  have hr := B.returns
  have hts := fun (w : Cond) (hw : w ∈ lwW) => atoms_spec (ws := (.code yX9_isStored cX9_isStored 1 (some .boolean) :: lwW)) B.pre w (List.mem_cons_of_mem _ hw)
  have hown : s.vm.findClass RX9 = some m.cls := findClass_of_methodNamed B.named
  have hlocks := B.notSynchronized
  have hP := h0.1
  have hK := h0.2.1
  have hi := h0.2.2.1
  have hZ := h0.2.2.2
  have hN := h0.2.2.2.2.2.2.2.1
  have hV := h0.2.2.2.2.2.2.2.2.1
  have hS : va_S (xA G) s.heap s.heap [] := va_S.rf
  have hl := lv_entry ([.ref (G.1 k0)]) (n := 1) (Nat.le_of_ble_eq_true rfl)
  rw [lg_entry_eq]
  generalize (lg_sl ([.ref (G.1 k0)]) ++ List.replicate (1 - (lg_sl ([.ref (G.1 k0)])).length) Slot.unset).toArray = ls at hl ⊢
  have hl : lv_has ls 1 [(0, .ref (G.1 k0))] := hl
  unfold fX9_isStored at h
  refine lv_aload_n hx hb dX9_isStored_0 rfl (lv_at hl 0 rfl) ?_
  refine va_get (D := D) (ci := 9) (v := .int (σ k0 1)) (C := RX9) (T := TX9) (N := 2) hx hb hts iwX9 hown hK hP k0 (xg_5 hk0) rfl 1 (by decide) (hts _ mw_70) (fun _ h9 => h9) rfl dX9_isStored_1 ?_
  obtain ⟨hzq1, h⟩ := nif h
  have hzq1 := Decidable.not_not.mp hzq1
  obtain rfl := Option.some.inj h
  exact W.zret hx hb hr (nar01 hzq1) (fun t ht hW => ⟨⟨_, _, rfl, ⟨rfl, rfl⟩, xPre_at h0 hS hP ht hW⟩, hS.F ht⟩) hS.2.2 dX9_isStored_4
def fX9_store_J35 (k0 : Nat) (k1 : Nat)  (τ : QMem) : Option (QMem) :=
  some (ms τ k0 1 1)
def fX9_store_L2 (k0 : Nat) (k1 : Nat) : Nat → Int32 → QMem → Option (QMem)
  | 0, _, _ => none
  | n + 1, v2, τ =>
  if (Int32.ofNat (xl (k0 + 2))) ≤ v2 then (fX9_store_J35 k0 k1 τ) else (if (Int32.ofNat (xl k1)) ≤ v2 then (fX9_store_J35 k0 k1 τ) else (if (v2 < 0 ∨ xl (k0 + 2) ≤ v2.toNatClampNeg) then none else (if (v2 < 0 ∨ xl k1 ≤ v2.toNatClampNeg) then none else ((fX6_copyFrom (xb (k0 + 2) + v2.toNatClampNeg) (xb k1 + v2.toNatClampNeg) τ).bind fun xq5 => ((fX9_store_L2 k0 k1 n) (v2 + 1) xq5)))))
def fX9_store (k0 : Nat) (k1 : Nat) (σ : QMem) : Option (QMem) :=
  fX9_store_L2 k0 k1 FU 0 σ
set_option maxHeartbeats 4000000 in
set_option maxRecDepth 100000 in
theorem kX9_store (l : Launch) (D : va_G) (G : xG) (ub : xB) (σ : QMem) (k0 : Nat) (hk0 : xk k0 = 5) (k1 : Nat) (hk1 : xk k1 = 6) (res : QMem) (h : fX9_store k0 k1 σ = some res) : Met l yX9_store (.code yX9_store cX9_store 3 none :: lwW) (rmD 2) (xPc D G ub σ [.ref (G.1 k0), .ref (G.1 k1)]) (xQv D G ub res) 0 0 (xA G) := by
  refine Met.ofW (cc := cX9_store) (maxL := 3) (ret := none) (by decide) rfl ?_
  intro p e s m args below meth c s₁ B hml hv
  obtain ⟨rfl, h0⟩ := hv
  have hx := B.exec
  have hb := B.bytes
  have hr := B.returns
  have hts := fun (w : Cond) (hw : w ∈ lwW) => atoms_spec (ws := (.code yX9_store cX9_store 3 none :: lwW)) B.pre w (List.mem_cons_of_mem _ hw)
  have hown : s.vm.findClass RX9 = some m.cls := findClass_of_methodNamed B.named
  have hlocks := B.notSynchronized
  have hP := h0.1
  have hK := h0.2.1
  have hi := h0.2.2.1
  have hZ := h0.2.2.2
  have hN := h0.2.2.2.2.2.2.2.1
  have hV := h0.2.2.2.2.2.2.2.2.1
  have hS : va_S (xA G) s.heap s.heap [] := va_S.rf
  have hl := lv_entry ([.ref (G.1 k0), .ref (G.1 k1)]) (n := 3) (Nat.le_of_ble_eq_true rfl)
  rw [lg_entry_eq]
  generalize (lg_sl ([.ref (G.1 k0), .ref (G.1 k1)]) ++ List.replicate (3 - (lg_sl ([.ref (G.1 k0), .ref (G.1 k1)])).length) Slot.unset).toArray = ls at hl ⊢
  have hl : lv_has ls 3 [(0, .ref (G.1 k0)), (1, .ref (G.1 k1))] := hl
  unfold fX9_store at h
  have J35 : ∀ (τ : QMem) (H : Heap) (locs : List Loc) (ls : Array Slot), fX9_store_J35 k0 k1 τ = some res → va_P D vwCl (xW G τ) H → va_S (xA G) s.heap H locs → lv_has ls 3 [(0, .ref (G.1 k0))] → W p l e (headSpec (.code yX9_store cX9_store 3 none :: lwW) (rmD 2)).room s m ([.ref (G.1 k0), .ref (G.1 k1)] : List Value).toArray below meth c H locs 0 0 (MQ below (xQv D G ub res) ([.ref (G.1 k0), .ref (G.1 k1)] : List Value).toArray s 0 0 (xA G)) (F0 m 35 ls []) := by
    intro τ H locs ls h hP hS hl
    unfold fX9_store_J35 at h
    refine lv_aload_n hx hb dX9_store_35 rfl (lv_at hl 0 rfl) ?_
    refine lv_iconst (v := 1) hx hb dX9_store_36 (by decide) ?_
    refine va_put (D := D) (ci := 9) (v := .int 1) (ty := .boolean) (C := RX9) (T := TX9) (N := 2) hx hb hts iwX9 tyX9 tyX9_ok nmX9 hown hK hP (xD hi) hS k0 (xg_5 hk0) rfl 1 (by decide) (hts _ mw_70) (fun _ h9 => h9) rfl (by decide +kernel) rfl rfl (Nat.le_of_ble_eq_true rfl) dX9_store_37 (fun H locs hP hD hS => ?_)
    have hP : va_P D vwCl (xW G (ms τ k0 1 1)) H := by rw [← xs_5_1 hk0]; exact hP
    obtain rfl := Option.some.inj h
    exact W.vret hx hb hr (fun t ht hW => ⟨⟨_, rfl, rfl, xPre_at h0 hS hP ht hW⟩, hS.F ht⟩) hS.2.2 dX9_store_40
  have L2 : ∀ (n2 : Nat) (v2 : Int32) (τ : QMem) (H : Heap) (locs : List Loc) (ls : Array Slot), fX9_store_L2 k0 k1 n2 v2 τ = some res → va_P D vwCl (xW G τ) H → va_S (xA G) s.heap H locs → lv_has ls 3 [(0, .ref (G.1 k0)), (1, .ref (G.1 k1)), (2, .int v2)] → W p l e (headSpec (.code yX9_store cX9_store 3 none :: lwW) (rmD 2)).room s m ([.ref (G.1 k0), .ref (G.1 k1)] : List Value).toArray below meth c H locs 0 0 (MQ below (xQv D G ub res) ([.ref (G.1 k0), .ref (G.1 k1)] : List Value).toArray s 0 0 (xA G)) (F0 m 2 ls []) := by
    intro n2
    induction n2 with
    | zero => intro v2 τ H locs ls h; rw [fX9_store_L2] at h; cases h
    | succ n2 ih2 =>
      intro v2 τ H locs ls h hP hS hl
      rw [fX9_store_L2] at h
      refine lv_iload_n hx hb dX9_store_2 rfl (lv_at hl 2 rfl) ?_
      refine lv_aload_n hx hb dX9_store_3 rfl (lv_at hl 0 rfl) ?_
      refine va_get (D := D) (ci := 9) (v := .ref (G.1 (k0 + 2))) (C := RX9) (T := TX9) (N := 2) hx hb hts iwX9 hown hK hP k0 (xg_5 hk0) rfl 0 (by decide) (hts _ mw_69) (fun _ h9 => h9) rfl dX9_store_4 ?_
      refine va_alen hx hb hK hP (k0 + 2) 1 (xg_6 (xf5_0 hk0)) rfl (v := Int32.ofNat (xl (k0 + 2))) rfl dX9_store_7 ?_
      refine lv_icmp_ge (tgt := 35) hx hb dX9_store_8 (by decide) (fun hcq1 => ?_) (fun hcq1 => ?_)
      · have h := ifp hcq1 h
        exact J35 _ _ _ _ h hP hS (lv_sub hl [0] rfl)
      have h := ifn hcq1 h
      refine lv_iload_n hx hb dX9_store_11 rfl (lv_at hl 2 rfl) ?_
      refine lv_aload_n hx hb dX9_store_12 rfl (lv_at hl 1 rfl) ?_
      refine va_alen hx hb hK hP k1 1 (xg_6 hk1) rfl (v := Int32.ofNat (xl k1)) rfl dX9_store_13 ?_
      refine lv_icmp_ge (tgt := 35) hx hb dX9_store_14 (by decide) (fun hcq2 => ?_) (fun hcq2 => ?_)
      · have h := ifp hcq2 h
        exact J35 _ _ _ _ h hP hS (lv_sub hl [0] rfl)
      have h := ifn hcq2 h
      refine lv_aload_n hx hb dX9_store_17 rfl (lv_at hl 0 rfl) ?_
      refine va_get (D := D) (ci := 9) (v := .ref (G.1 (k0 + 2))) (C := RX9) (T := TX9) (N := 2) hx hb hts iwX9 hown hK hP k0 (xg_5 hk0) rfl 0 (by decide) (hts _ mw_69) (fun _ h9 => h9) rfl dX9_store_18 ?_
      refine lv_iload_n hx hb dX9_store_21 rfl (lv_at hl 2 rfl) ?_
      obtain ⟨hiq3, h⟩ := nif h
      refine va_aldq hx hb hK hP (k0 + 2) 1 (xg_6 (xf5_0 hk0)) rfl hiq3 dX9_store_22 ?_
      refine W.eq (g2 := F0 m 23 ls [.ref (G.1 (xb (k0 + 2) + v2.toNatClampNeg))]) rfl ?_
      refine lv_aload_n hx hb dX9_store_23 rfl (lv_at hl 1 rfl) ?_
      refine lv_iload_n hx hb dX9_store_24 rfl (lv_at hl 2 rfl) ?_
      obtain ⟨hiq4, h⟩ := nif h
      refine va_aldq hx hb hK hP k1 1 (xg_6 hk1) rfl hiq4 dX9_store_25 ?_
      refine W.eq (g2 := F0 m 26 ls [.ref (G.1 (xb k1 + v2.toNatClampNeg)), .ref (G.1 (xb (k0 + 2) + v2.toNatClampNeg))]) rfl ?_
      obtain ⟨xq5, hfq6, h⟩ := obd h
      refine va_callv (va_runV (As := [.ref (G.1 (xb k1 + v2.toNatClampNeg))]) (rest := []) ⟨hx, hb, hml, hown, hts⟩ (kX6_copyFrom l D G ub _ (xb (k0 + 2) + v2.toNatClampNeg) (xr6 (xf5_0 hk0) (vp_lt hiq3)) (xb k1 + v2.toNatClampNeg) (xr6 hk1 (vp_lt hiq4)) xq5 hfq6) (cwV 1 hts (lwW_gV mw_746 mw_481 mw_482 mw_3 mw_483) rfl rfl rfl (by decide +kernel) ⟨Nat.le_of_ble_eq_true rfl, Nat.le_of_ble_eq_true rfl⟩) ⟨fun a U g mk q => ⟨q.1, xPre_call q.2⟩, va_recv hK hP rfl (xg_0 (xr6 (xf5_0 hk0) (vp_lt hiq3))), fun U hU hW => ⟨rfl, xPre_at h0 hS hP hU hW⟩⟩ rfl rfl hl.1 rfl (lv_room (Nat.le_of_ble_eq_true rfl)) dX9_store_26 ⟨Nat.zero_le _, Nat.zero_le _⟩) hS (fun q _ h => h) (fun q h => h) (fun u t H1 locs ht hvm hw hB hz1 hq1 hS => ?_)
      obtain rfl := hw.symm
      have hP := hB.1
      rw [ht] at hP
      refine W.widen (k := 0) (n := 0) (Nat.le_refl _) (Nat.le_refl _) ?_
      refine lv_iinc (v := v2 + 1) (lv' := [(2, .int (v2 + 1)), (0, .ref (G.1 k0)), (1, .ref (G.1 k1))]) hx hb dX9_store_29 hl (k := 2) rfl rfl (by decide) rfl (fun ls hl => ?_)
      refine lv_goto (tgt := 2) hx hb dX9_store_32 (by decide) ?_
      exact ih2 (v2 + 1) _ _ _ _ h hP hS (lv_sub hl [1, 2, 0] rfl)
  refine lv_iconst (v := 0) hx hb dX9_store_0 (by decide) ?_
  refine lv_istore_n (lv' := [(2, .int 0), (0, .ref (G.1 k0)), (1, .ref (G.1 k1))]) hx hb dX9_store_1 rfl hl (by decide) rfl (fun ls hl => ?_)
  exact L2 FU 0 _ _ _ _ h hP hS (lv_sub hl [1, 2, 0] rfl)
def fX9_restore_L2 (k0 : Nat) (k1 : Nat) : Nat → Int32 → QMem → Option (QMem)
  | 0, _, _ => none
  | n + 1, v2, τ =>
  if (Int32.ofNat (xl (k0 + 2))) ≤ v2 then (some τ) else (if (Int32.ofNat (xl k1)) ≤ v2 then (some τ) else (if (v2 < 0 ∨ xl k1 ≤ v2.toNatClampNeg) then none else (if (v2 < 0 ∨ xl (k0 + 2) ≤ v2.toNatClampNeg) then none else ((fX6_copyFrom (xb k1 + v2.toNatClampNeg) (xb (k0 + 2) + v2.toNatClampNeg) τ).bind fun xq5 => ((fX9_restore_L2 k0 k1 n) (v2 + 1) xq5)))))
def fX9_restore (k0 : Nat) (k1 : Nat) (σ : QMem) : Option (QMem) :=
  fX9_restore_L2 k0 k1 FU 0 σ
set_option maxHeartbeats 4000000 in
set_option maxRecDepth 100000 in
theorem kX9_restore (l : Launch) (D : va_G) (G : xG) (ub : xB) (σ : QMem) (k0 : Nat) (hk0 : xk k0 = 5) (k1 : Nat) (hk1 : xk k1 = 6) (res : QMem) (h : fX9_restore k0 k1 σ = some res) : Met l yX9_restore (.code yX9_restore cX9_restore 3 none :: lwW) (rmD 2) (xPc D G ub σ [.ref (G.1 k0), .ref (G.1 k1)]) (xQv D G ub res) 0 0 (xA G) := by
  refine Met.ofW (cc := cX9_restore) (maxL := 3) (ret := none) (by decide) rfl ?_
  intro p e s m args below meth c s₁ B hml hv
  obtain ⟨rfl, h0⟩ := hv
  have hx := B.exec
  have hb := B.bytes
  have hr := B.returns
  have hts := fun (w : Cond) (hw : w ∈ lwW) => atoms_spec (ws := (.code yX9_restore cX9_restore 3 none :: lwW)) B.pre w (List.mem_cons_of_mem _ hw)
  have hown : s.vm.findClass RX9 = some m.cls := findClass_of_methodNamed B.named
  have hlocks := B.notSynchronized
  have hP := h0.1
  have hK := h0.2.1
  have hi := h0.2.2.1
  have hZ := h0.2.2.2
  have hN := h0.2.2.2.2.2.2.2.1
  have hV := h0.2.2.2.2.2.2.2.2.1
  have hS : va_S (xA G) s.heap s.heap [] := va_S.rf
  have hl := lv_entry ([.ref (G.1 k0), .ref (G.1 k1)]) (n := 3) (Nat.le_of_ble_eq_true rfl)
  rw [lg_entry_eq]
  generalize (lg_sl ([.ref (G.1 k0), .ref (G.1 k1)]) ++ List.replicate (3 - (lg_sl ([.ref (G.1 k0), .ref (G.1 k1)])).length) Slot.unset).toArray = ls at hl ⊢
  have hl : lv_has ls 3 [(0, .ref (G.1 k0)), (1, .ref (G.1 k1))] := hl
  unfold fX9_restore at h
  have L2 : ∀ (n2 : Nat) (v2 : Int32) (τ : QMem) (H : Heap) (locs : List Loc) (ls : Array Slot), fX9_restore_L2 k0 k1 n2 v2 τ = some res → va_P D vwCl (xW G τ) H → va_S (xA G) s.heap H locs → lv_has ls 3 [(0, .ref (G.1 k0)), (1, .ref (G.1 k1)), (2, .int v2)] → W p l e (headSpec (.code yX9_restore cX9_restore 3 none :: lwW) (rmD 2)).room s m ([.ref (G.1 k0), .ref (G.1 k1)] : List Value).toArray below meth c H locs 0 0 (MQ below (xQv D G ub res) ([.ref (G.1 k0), .ref (G.1 k1)] : List Value).toArray s 0 0 (xA G)) (F0 m 2 ls []) := by
    intro n2
    induction n2 with
    | zero => intro v2 τ H locs ls h; rw [fX9_restore_L2] at h; cases h
    | succ n2 ih2 =>
      intro v2 τ H locs ls h hP hS hl
      rw [fX9_restore_L2] at h
      refine lv_iload_n hx hb dX9_restore_2 rfl (lv_at hl 2 rfl) ?_
      refine lv_aload_n hx hb dX9_restore_3 rfl (lv_at hl 0 rfl) ?_
      refine va_get (D := D) (ci := 9) (v := .ref (G.1 (k0 + 2))) (C := RX9) (T := TX9) (N := 2) hx hb hts iwX9 hown hK hP k0 (xg_5 hk0) rfl 0 (by decide) (hts _ mw_69) (fun _ h9 => h9) rfl dX9_restore_4 ?_
      refine va_alen hx hb hK hP (k0 + 2) 1 (xg_6 (xf5_0 hk0)) rfl (v := Int32.ofNat (xl (k0 + 2))) rfl dX9_restore_7 ?_
      refine lv_icmp_ge (tgt := 35) hx hb dX9_restore_8 (by decide) (fun hcq1 => ?_) (fun hcq1 => ?_)
      · have h := ifp hcq1 h
        obtain rfl := Option.some.inj h
        exact W.vret hx hb hr (fun t ht hW => ⟨⟨_, rfl, rfl, xPre_at h0 hS hP ht hW⟩, hS.F ht⟩) hS.2.2 dX9_restore_35
      have h := ifn hcq1 h
      refine lv_iload_n hx hb dX9_restore_11 rfl (lv_at hl 2 rfl) ?_
      refine lv_aload_n hx hb dX9_restore_12 rfl (lv_at hl 1 rfl) ?_
      refine va_alen hx hb hK hP k1 1 (xg_6 hk1) rfl (v := Int32.ofNat (xl k1)) rfl dX9_restore_13 ?_
      refine lv_icmp_ge (tgt := 35) hx hb dX9_restore_14 (by decide) (fun hcq2 => ?_) (fun hcq2 => ?_)
      · have h := ifp hcq2 h
        obtain rfl := Option.some.inj h
        exact W.vret hx hb hr (fun t ht hW => ⟨⟨_, rfl, rfl, xPre_at h0 hS hP ht hW⟩, hS.F ht⟩) hS.2.2 dX9_restore_35
      have h := ifn hcq2 h
      refine lv_aload_n hx hb dX9_restore_17 rfl (lv_at hl 1 rfl) ?_
      refine lv_iload_n hx hb dX9_restore_18 rfl (lv_at hl 2 rfl) ?_
      obtain ⟨hiq3, h⟩ := nif h
      refine va_aldq hx hb hK hP k1 1 (xg_6 hk1) rfl hiq3 dX9_restore_19 ?_
      refine W.eq (g2 := F0 m 20 ls [.ref (G.1 (xb k1 + v2.toNatClampNeg))]) rfl ?_
      refine lv_aload_n hx hb dX9_restore_20 rfl (lv_at hl 0 rfl) ?_
      refine va_get (D := D) (ci := 9) (v := .ref (G.1 (k0 + 2))) (C := RX9) (T := TX9) (N := 2) hx hb hts iwX9 hown hK hP k0 (xg_5 hk0) rfl 0 (by decide) (hts _ mw_69) (fun _ h9 => h9) rfl dX9_restore_21 ?_
      refine lv_iload_n hx hb dX9_restore_24 rfl (lv_at hl 2 rfl) ?_
      obtain ⟨hiq4, h⟩ := nif h
      refine va_aldq hx hb hK hP (k0 + 2) 1 (xg_6 (xf5_0 hk0)) rfl hiq4 dX9_restore_25 ?_
      refine W.eq (g2 := F0 m 26 ls [.ref (G.1 (xb (k0 + 2) + v2.toNatClampNeg)), .ref (G.1 (xb k1 + v2.toNatClampNeg))]) rfl ?_
      obtain ⟨xq5, hfq6, h⟩ := obd h
      refine va_callv (va_runV (As := [.ref (G.1 (xb (k0 + 2) + v2.toNatClampNeg))]) (rest := []) ⟨hx, hb, hml, hown, hts⟩ (kX6_copyFrom l D G ub _ (xb k1 + v2.toNatClampNeg) (xr6 hk1 (vp_lt hiq3)) (xb (k0 + 2) + v2.toNatClampNeg) (xr6 (xf5_0 hk0) (vp_lt hiq4)) xq5 hfq6) (cwV 1 hts (lwW_gV mw_746 mw_481 mw_482 mw_3 mw_483) rfl rfl rfl (by decide +kernel) ⟨Nat.le_of_ble_eq_true rfl, Nat.le_of_ble_eq_true rfl⟩) ⟨fun a U g mk q => ⟨q.1, xPre_call q.2⟩, va_recv hK hP rfl (xg_0 (xr6 hk1 (vp_lt hiq3))), fun U hU hW => ⟨rfl, xPre_at h0 hS hP hU hW⟩⟩ rfl rfl hl.1 rfl (lv_room (Nat.le_of_ble_eq_true rfl)) dX9_restore_26 ⟨Nat.zero_le _, Nat.zero_le _⟩) hS (fun q _ h => h) (fun q h => h) (fun u t H1 locs ht hvm hw hB hz1 hq1 hS => ?_)
      obtain rfl := hw.symm
      have hP := hB.1
      rw [ht] at hP
      refine W.widen (k := 0) (n := 0) (Nat.le_refl _) (Nat.le_refl _) ?_
      refine lv_iinc (v := v2 + 1) (lv' := [(2, .int (v2 + 1)), (0, .ref (G.1 k0)), (1, .ref (G.1 k1))]) hx hb dX9_restore_29 hl (k := 2) rfl rfl (by decide) rfl (fun ls hl => ?_)
      refine lv_goto (tgt := 2) hx hb dX9_restore_32 (by decide) ?_
      exact ih2 (v2 + 1) _ _ _ _ h hP hS (lv_sub hl [1, 2, 0] rfl)
  refine lv_iconst (v := 0) hx hb dX9_restore_0 (by decide) ?_
  refine lv_istore_n (lv' := [(2, .int 0), (0, .ref (G.1 k0)), (1, .ref (G.1 k1))]) hx hb dX9_restore_1 rfl hl (by decide) rfl (fun ls hl => ?_)
  exact L2 FU 0 _ _ _ _ h hP hS (lv_sub hl [1, 2, 0] rfl)
def fX10_isMissing (k0 : Nat) (σ : QMem) : Option (Int32 × QMem) :=
  if (σ k0 2) = 0 then (some (1, σ)) else (some (0, σ))
set_option maxHeartbeats 4000000 in
set_option maxRecDepth 100000 in
theorem kX10_isMissing (l : Launch) (D : va_G) (G : xG) (ub : xB) (σ : QMem) (k0 : Nat) (hk0 : xk k0 = 4) (res : Int32 × QMem) (h : fX10_isMissing k0 σ = some res) : Met l yX10_isMissing (.code yX10_isMissing cX10_isMissing 1 (some .boolean) :: lwW) (rmD 0) (xPc D G ub σ [.ref (G.1 k0)]) (xQi D G ub res) 0 0 (xA G) := by
  refine Met.ofW (cc := cX10_isMissing) (maxL := 1) (ret := (some .boolean)) (by decide) rfl ?_
  intro p e s m args below meth c s₁ B hml hv
  obtain ⟨rfl, h0⟩ := hv
  have hx := B.exec
  have hb := B.bytes
  have hr := B.returns
  have hts := fun (w : Cond) (hw : w ∈ lwW) => atoms_spec (ws := (.code yX10_isMissing cX10_isMissing 1 (some .boolean) :: lwW)) B.pre w (List.mem_cons_of_mem _ hw)
  have hown : s.vm.findClass RX10 = some m.cls := findClass_of_methodNamed B.named
  have hlocks := B.notSynchronized
  have hP := h0.1
  have hK := h0.2.1
  have hi := h0.2.2.1
  have hZ := h0.2.2.2
  have hN := h0.2.2.2.2.2.2.2.1
  have hV := h0.2.2.2.2.2.2.2.2.1
  have hS : va_S (xA G) s.heap s.heap [] := va_S.rf
  have hl := lv_entry ([.ref (G.1 k0)]) (n := 1) (Nat.le_of_ble_eq_true rfl)
  rw [lg_entry_eq]
  generalize (lg_sl ([.ref (G.1 k0)]) ++ List.replicate (1 - (lg_sl ([.ref (G.1 k0)])).length) Slot.unset).toArray = ls at hl ⊢
  have hl : lv_has ls 1 [(0, .ref (G.1 k0))] := hl
  unfold fX10_isMissing at h
  refine lv_aload_n hx hb dX10_isMissing_0 rfl (lv_at hl 0 rfl) ?_
  refine va_get (D := D) (ci := 10) (v := .int (σ k0 2)) (C := RX10) (T := TX10) (N := 3) hx hb hts iwX10 hown hK hP k0 (xg_4 hk0) rfl 2 (by decide) (hts _ mw_85) (fun _ h9 => h9) rfl dX10_isMissing_1 ?_
  refine lv_if_ne (tgt := 11) hx hb dX10_isMissing_4 (by decide) (fun hcq1 => ?_) (fun hcq1 => ?_)
  · have h := ifn hcq1 h
    refine lv_iconst (v := 0) hx hb dX10_isMissing_11 (by decide) ?_
    obtain rfl := Option.some.inj h
    exact W.zret hx hb hr rfl (fun t ht hW => ⟨⟨_, _, rfl, ⟨rfl, rfl⟩, xPre_at h0 hS hP ht hW⟩, hS.F ht⟩) hS.2.2 dX10_isMissing_12
  have h := ifp hcq1 h
  refine lv_iconst (v := 1) hx hb dX10_isMissing_7 (by decide) ?_
  refine lv_goto (tgt := 12) hx hb dX10_isMissing_8 (by decide) ?_
  obtain rfl := Option.some.inj h
  exact W.zret hx hb hr rfl (fun t ht hW => ⟨⟨_, _, rfl, ⟨rfl, rfl⟩, xPre_at h0 hS hP ht hW⟩, hS.F ht⟩) hS.2.2 dX10_isMissing_12
def fX10_size (k0 : Nat) (σ : QMem) : Option (Int32 × QMem) :=
  some (σ k0 1, σ)
set_option maxHeartbeats 4000000 in
set_option maxRecDepth 100000 in
theorem kX10_size (l : Launch) (D : va_G) (G : xG) (ub : xB) (σ : QMem) (k0 : Nat) (hk0 : xk k0 = 4) (res : Int32 × QMem) (h : fX10_size k0 σ = some res) : Met l yX10_size (.code yX10_size cX10_size 1 (some .int) :: lwW) (rmD 0) (xPc D G ub σ [.ref (G.1 k0)]) (xQi D G ub res) 0 0 (xA G) := by
  refine Met.ofW (cc := cX10_size) (maxL := 1) (ret := (some .int)) (by decide) rfl ?_
  intro p e s m args below meth c s₁ B hml hv
  obtain ⟨rfl, h0⟩ := hv
  have hx := B.exec
  have hb := B.bytes
  have hr := B.returns
  have hts := fun (w : Cond) (hw : w ∈ lwW) => atoms_spec (ws := (.code yX10_size cX10_size 1 (some .int) :: lwW)) B.pre w (List.mem_cons_of_mem _ hw)
  have hown : s.vm.findClass RX10 = some m.cls := findClass_of_methodNamed B.named
  have hlocks := B.notSynchronized
  have hP := h0.1
  have hK := h0.2.1
  have hi := h0.2.2.1
  have hZ := h0.2.2.2
  have hN := h0.2.2.2.2.2.2.2.1
  have hV := h0.2.2.2.2.2.2.2.2.1
  have hS : va_S (xA G) s.heap s.heap [] := va_S.rf
  have hl := lv_entry ([.ref (G.1 k0)]) (n := 1) (Nat.le_of_ble_eq_true rfl)
  rw [lg_entry_eq]
  generalize (lg_sl ([.ref (G.1 k0)]) ++ List.replicate (1 - (lg_sl ([.ref (G.1 k0)])).length) Slot.unset).toArray = ls at hl ⊢
  have hl : lv_has ls 1 [(0, .ref (G.1 k0))] := hl
  unfold fX10_size at h
  refine lv_aload_n hx hb dX10_size_0 rfl (lv_at hl 0 rfl) ?_
  refine va_get (D := D) (ci := 10) (v := .int (σ k0 1)) (C := RX10) (T := TX10) (N := 3) hx hb hts iwX10 hown hK hP k0 (xg_4 hk0) rfl 1 (by decide) (hts _ mw_84) (fun _ h9 => h9) rfl dX10_size_1 ?_
  obtain rfl := Option.some.inj h
  exact W.iret (v := σ k0 1) hx hb hr (fun t ht hW => ⟨⟨_, _, rfl, ⟨rfl, rfl⟩, xPre_at h0 hS hP ht hW⟩, hS.F ht⟩) hS.2.2 dX10_size_4
def fX10_hasPlace (k0 : Nat) (p1 : Int32) (σ : QMem) : Option (Int32 × QMem) :=
  if p1 < 0 then (some (0, σ)) else (if (σ k0 1) ≤ p1 then (some (0, σ)) else (some (1, σ)))
set_option maxHeartbeats 4000000 in
set_option maxRecDepth 100000 in
theorem kX10_hasPlace (l : Launch) (D : va_G) (G : xG) (ub : xB) (σ : QMem) (k0 : Nat) (hk0 : xk k0 = 4) (p1 : Int32) (res : Int32 × QMem) (h : fX10_hasPlace k0 p1 σ = some res) : Met l yX10_hasPlace (.code yX10_hasPlace cX10_hasPlace 2 (some .boolean) :: lwW) (rmD 0) (xPc D G ub σ [.ref (G.1 k0), .int p1]) (xQi D G ub res) 0 0 (xA G) := by
  refine Met.ofW (cc := cX10_hasPlace) (maxL := 2) (ret := (some .boolean)) (by decide) rfl ?_
  intro p e s m args below meth c s₁ B hml hv
  obtain ⟨rfl, h0⟩ := hv
  have hx := B.exec
  have hb := B.bytes
  have hr := B.returns
  have hts := fun (w : Cond) (hw : w ∈ lwW) => atoms_spec (ws := (.code yX10_hasPlace cX10_hasPlace 2 (some .boolean) :: lwW)) B.pre w (List.mem_cons_of_mem _ hw)
  have hown : s.vm.findClass RX10 = some m.cls := findClass_of_methodNamed B.named
  have hlocks := B.notSynchronized
  have hP := h0.1
  have hK := h0.2.1
  have hi := h0.2.2.1
  have hZ := h0.2.2.2
  have hN := h0.2.2.2.2.2.2.2.1
  have hV := h0.2.2.2.2.2.2.2.2.1
  have hS : va_S (xA G) s.heap s.heap [] := va_S.rf
  have hl := lv_entry ([.ref (G.1 k0), .int p1]) (n := 2) (Nat.le_of_ble_eq_true rfl)
  rw [lg_entry_eq]
  generalize (lg_sl ([.ref (G.1 k0), .int p1]) ++ List.replicate (2 - (lg_sl ([.ref (G.1 k0), .int p1])).length) Slot.unset).toArray = ls at hl ⊢
  have hl : lv_has ls 2 [(0, .ref (G.1 k0)), (1, .int p1)] := hl
  unfold fX10_hasPlace at h
  refine lv_iload_n hx hb dX10_hasPlace_0 rfl (lv_at hl 1 rfl) ?_
  refine lv_if_lt (tgt := 16) hx hb dX10_hasPlace_1 (by decide) (fun hcq1 => ?_) (fun hcq1 => ?_)
  · have h := ifp hcq1 h
    refine lv_iconst (v := 0) hx hb dX10_hasPlace_16 (by decide) ?_
    obtain rfl := Option.some.inj h
    exact W.zret hx hb hr rfl (fun t ht hW => ⟨⟨_, _, rfl, ⟨rfl, rfl⟩, xPre_at h0 hS hP ht hW⟩, hS.F ht⟩) hS.2.2 dX10_hasPlace_17
  have h := ifn hcq1 h
  refine lv_iload_n hx hb dX10_hasPlace_4 rfl (lv_at hl 1 rfl) ?_
  refine lv_aload_n hx hb dX10_hasPlace_5 rfl (lv_at hl 0 rfl) ?_
  refine va_get (D := D) (ci := 10) (v := .int (σ k0 1)) (C := RX10) (T := TX10) (N := 3) hx hb hts iwX10 hown hK hP k0 (xg_4 hk0) rfl 1 (by decide) (hts _ mw_84) (fun _ h9 => h9) rfl dX10_hasPlace_6 ?_
  refine lv_icmp_ge (tgt := 16) hx hb dX10_hasPlace_9 (by decide) (fun hcq2 => ?_) (fun hcq2 => ?_)
  · have h := ifp hcq2 h
    refine lv_iconst (v := 0) hx hb dX10_hasPlace_16 (by decide) ?_
    obtain rfl := Option.some.inj h
    exact W.zret hx hb hr rfl (fun t ht hW => ⟨⟨_, _, rfl, ⟨rfl, rfl⟩, xPre_at h0 hS hP ht hW⟩, hS.F ht⟩) hS.2.2 dX10_hasPlace_17
  have h := ifn hcq2 h
  refine lv_iconst (v := 1) hx hb dX10_hasPlace_12 (by decide) ?_
  refine lv_goto (tgt := 17) hx hb dX10_hasPlace_13 (by decide) ?_
  obtain rfl := Option.some.inj h
  exact W.zret hx hb hr rfl (fun t ht hW => ⟨⟨_, _, rfl, ⟨rfl, rfl⟩, xPre_at h0 hS hP ht hW⟩, hS.F ht⟩) hS.2.2 dX10_hasPlace_17
def fX10_begin_L21 (k0 : Nat) (p1 : Int32) : Nat → Int32 → QMem → Option (QMem)
  | 0, _, _ => none
  | n + 1, v2, τ =>
  if 6 ≤ v2 then (some τ) else (if (v2 < 0 ∨ xl (k0 - 16) ≤ v2.toNatClampNeg) then none else ((fX10_begin_L21 k0 p1 n) (v2 + 1) (ms τ (k0 - 16) v2.toNatClampNeg 0)))
def fX10_begin (k0 : Nat) (p1 : Int32) (σ : QMem) : Option (QMem) :=
  fX10_begin_L21 k0 p1 FU 0 (ms (ms σ k0 2 1) k0 1 (if 6 < (if p1 < 0 then 0 else p1) then 6 else (if p1 < 0 then 0 else p1)))
set_option maxHeartbeats 4000000 in
set_option maxRecDepth 100000 in
theorem kX10_begin (l : Launch) (D : va_G) (G : xG) (ub : xB) (σ : QMem) (k0 : Nat) (hk0 : xk k0 = 4) (p1 : Int32) (res : QMem) (h : fX10_begin k0 p1 σ = some res) : Met l yX10_begin (.code yX10_begin cX10_begin 3 none :: lwW) (rmD 1) (xPc D G ub σ [.ref (G.1 k0), .int p1]) (xQv D G ub res) 0 0 (xA G) := by
  refine Met.ofW (cc := cX10_begin) (maxL := 3) (ret := none) (by decide) rfl ?_
  intro p e s m args below meth c s₁ B hml hv
  obtain ⟨rfl, h0⟩ := hv
  have hx := B.exec
  have hb := B.bytes
  have hr := B.returns
  have hts := fun (w : Cond) (hw : w ∈ lwW) => atoms_spec (ws := (.code yX10_begin cX10_begin 3 none :: lwW)) B.pre w (List.mem_cons_of_mem _ hw)
  have hown : s.vm.findClass RX10 = some m.cls := findClass_of_methodNamed B.named
  have hlocks := B.notSynchronized
  have hP := h0.1
  have hK := h0.2.1
  have hi := h0.2.2.1
  have hZ := h0.2.2.2
  have hN := h0.2.2.2.2.2.2.2.1
  have hV := h0.2.2.2.2.2.2.2.2.1
  have hS : va_S (xA G) s.heap s.heap [] := va_S.rf
  have hl := lv_entry ([.ref (G.1 k0), .int p1]) (n := 3) (Nat.le_of_ble_eq_true rfl)
  rw [lg_entry_eq]
  generalize (lg_sl ([.ref (G.1 k0), .int p1]) ++ List.replicate (3 - (lg_sl ([.ref (G.1 k0), .int p1])).length) Slot.unset).toArray = ls at hl ⊢
  have hl : lv_has ls 3 [(0, .ref (G.1 k0)), (1, .int p1)] := hl
  unfold fX10_begin at h
  have L21 : ∀ (n21 : Nat) (v2 : Int32) (τ : QMem) (H : Heap) (locs : List Loc) (ls : Array Slot), fX10_begin_L21 k0 p1 n21 v2 τ = some res → va_P D vwCl (xW G τ) H → va_S (xA G) s.heap H locs → lv_has ls 3 [(0, .ref (G.1 k0)), (2, .int v2)] → W p l e (headSpec (.code yX10_begin cX10_begin 3 none :: lwW) (rmD 1)).room s m ([.ref (G.1 k0), .int p1] : List Value).toArray below meth c H locs 0 0 (MQ below (xQv D G ub res) ([.ref (G.1 k0), .int p1] : List Value).toArray s 0 0 (xA G)) (F0 m 21 ls []) := by
    intro n21
    induction n21 with
    | zero => intro v2 τ H locs ls h; rw [fX10_begin_L21] at h; cases h
    | succ n21 ih21 =>
      intro v2 τ H locs ls h hP hS hl
      rw [fX10_begin_L21] at h
      refine lv_iload_n hx hb dX10_begin_21 rfl (lv_at hl 1 rfl) ?_
      refine lv_bipush (v := 6) hx hb dX10_begin_22 (by decide) ?_
      refine lv_icmp_ge (tgt := 40) hx hb dX10_begin_24 (by decide) (fun hcq1 => ?_) (fun hcq1 => ?_)
      · have h := ifp hcq1 h
        obtain rfl := Option.some.inj h
        exact W.vret hx hb hr (fun t ht hW => ⟨⟨_, rfl, rfl, xPre_at h0 hS hP ht hW⟩, hS.F ht⟩) hS.2.2 dX10_begin_40
      have h := ifn hcq1 h
      refine lv_aload_n hx hb dX10_begin_27 rfl (lv_at hl 0 rfl) ?_
      refine va_get (D := D) (ci := 10) (v := .ref (G.1 (k0 - 16))) (C := RX10) (T := TX10) (N := 3) hx hb hts iwX10 hown hK hP k0 (xg_4 hk0) rfl 0 (by decide) (hts _ mw_83) (fun _ h9 => h9) rfl dX10_begin_28 ?_
      refine lv_iload_n hx hb dX10_begin_31 rfl (lv_at hl 1 rfl) ?_
      refine lv_iconst (v := 0) hx hb dX10_begin_32 (by decide) ?_
      obtain ⟨hiq2, h⟩ := nif h
      refine va_iast hx hb hK hP (xD hi) hS (k0 - 16) 0 (xg_2 (xf4_0 hk0)) rfl hiq2 dX10_begin_33 (fun H locs hP hD hS => ?_)
      have hP : va_P D vwCl (xW G (ms τ (k0 - 16) v2.toNatClampNeg 0)) H := by rw [← xs_2 (xf4_0 hk0)]; exact hP
      refine lv_iinc (v := v2 + 1) (lv' := [(2, .int (v2 + 1)), (0, .ref (G.1 k0))]) hx hb dX10_begin_34 hl (k := 1) rfl rfl (by decide) rfl (fun ls hl => ?_)
      refine lv_goto (tgt := 21) hx hb dX10_begin_37 (by decide) ?_
      exact ih21 (v2 + 1) _ _ _ _ h hP hS (lv_sub hl [1, 0] rfl)
  refine lv_aload_n hx hb dX10_begin_0 rfl (lv_at hl 0 rfl) ?_
  refine lv_iconst (v := 1) hx hb dX10_begin_1 (by decide) ?_
  refine va_put (D := D) (ci := 10) (v := .int 1) (ty := .boolean) (C := RX10) (T := TX10) (N := 3) hx hb hts iwX10 tyX10 tyX10_ok nmX10 hown hK hP (xD hi) hS k0 (xg_4 hk0) rfl 2 (by decide) (hts _ mw_85) (fun _ h9 => h9) rfl (by decide +kernel) rfl rfl (Nat.le_of_ble_eq_true rfl) dX10_begin_2 (fun H locs hP hD hS => ?_)
  have hP : va_P D vwCl (xW G (ms σ k0 2 1)) H := by rw [← xs_4_2 hk0]; exact hP
  refine lv_aload_n hx hb dX10_begin_5 rfl (lv_at hl 0 rfl) ?_
  refine lv_iload_n hx hb dX10_begin_6 rfl (lv_at hl 1 rfl) ?_
  refine lv_iconst (v := 0) hx hb dX10_begin_7 (by decide) ?_
  refine va_mmax hx hb (by rw [hml]; exact hl.1.symm) hown (hts _ mm_RX10_23) (hts _ mms_max) (hts _ mw_2) (hts _ mmc_max) (Nat.le_of_ble_eq_true rfl) (Nat.le_of_ble_eq_true rfl) (Nat.zero_le _) (Nat.zero_le _) dX10_begin_8 ?_
  refine lv_bipush (v := 6) hx hb dX10_begin_11 (by decide) ?_
  refine va_mmin hx hb (by rw [hml]; exact hl.1.symm) hown (hts _ mm_RX10_29) (hts _ mms_min) (hts _ mw_2) (hts _ mmc_min) (Nat.le_of_ble_eq_true rfl) (Nat.le_of_ble_eq_true rfl) (Nat.zero_le _) (Nat.zero_le _) dX10_begin_13 ?_
  refine va_put (D := D) (ci := 10) (v := .int (if 6 < (if p1 < 0 then 0 else p1) then 6 else (if p1 < 0 then 0 else p1))) (ty := .int) (C := RX10) (T := TX10) (N := 3) hx hb hts iwX10 tyX10 tyX10_ok nmX10 hown hK hP (xD hi) hS k0 (xg_4 hk0) rfl 1 (by decide) (hts _ mw_84) (fun _ h9 => h9) rfl (by decide +kernel) rfl rfl (Nat.le_of_ble_eq_true rfl) dX10_begin_16 (fun H locs hP hD hS => ?_)
  have hP : va_P D vwCl (xW G (ms (ms σ k0 2 1) k0 1 (if 6 < (if p1 < 0 then 0 else p1) then 6 else (if p1 < 0 then 0 else p1)))) H := by rw [← xs_4_1 hk0]; exact hP
  refine lv_iconst (v := 0) hx hb dX10_begin_19 (by decide) ?_
  refine lv_istore_n (lv' := [(2, .int 0), (0, .ref (G.1 k0)), (1, .int p1)]) hx hb dX10_begin_20 rfl hl (by decide) rfl (fun ls hl => ?_)
  exact L21 FU 0 _ _ _ _ h hP hS (lv_sub hl [1, 0] rfl)
def fX10_discard (k0 : Nat) (σ : QMem) : Option (QMem) :=
  some (ms (ms σ k0 2 0) k0 1 0)
set_option maxHeartbeats 4000000 in
set_option maxRecDepth 100000 in
theorem kX10_discard (l : Launch) (D : va_G) (G : xG) (ub : xB) (σ : QMem) (k0 : Nat) (hk0 : xk k0 = 4) (res : QMem) (h : fX10_discard k0 σ = some res) : Met l yX10_discard (.code yX10_discard cX10_discard 1 none :: lwW) (rmD 0) (xPc D G ub σ [.ref (G.1 k0)]) (xQv D G ub res) 0 0 (xA G) := by
  refine Met.ofW (cc := cX10_discard) (maxL := 1) (ret := none) (by decide) rfl ?_
  intro p e s m args below meth c s₁ B hml hv
  obtain ⟨rfl, h0⟩ := hv
  have hx := B.exec
  have hb := B.bytes
  have hr := B.returns
  have hts := fun (w : Cond) (hw : w ∈ lwW) => atoms_spec (ws := (.code yX10_discard cX10_discard 1 none :: lwW)) B.pre w (List.mem_cons_of_mem _ hw)
  have hown : s.vm.findClass RX10 = some m.cls := findClass_of_methodNamed B.named
  have hlocks := B.notSynchronized
  have hP := h0.1
  have hK := h0.2.1
  have hi := h0.2.2.1
  have hZ := h0.2.2.2
  have hN := h0.2.2.2.2.2.2.2.1
  have hV := h0.2.2.2.2.2.2.2.2.1
  have hS : va_S (xA G) s.heap s.heap [] := va_S.rf
  have hl := lv_entry ([.ref (G.1 k0)]) (n := 1) (Nat.le_of_ble_eq_true rfl)
  rw [lg_entry_eq]
  generalize (lg_sl ([.ref (G.1 k0)]) ++ List.replicate (1 - (lg_sl ([.ref (G.1 k0)])).length) Slot.unset).toArray = ls at hl ⊢
  have hl : lv_has ls 1 [(0, .ref (G.1 k0))] := hl
  unfold fX10_discard at h
  refine lv_aload_n hx hb dX10_discard_0 rfl (lv_at hl 0 rfl) ?_
  refine lv_iconst (v := 0) hx hb dX10_discard_1 (by decide) ?_
  refine va_put (D := D) (ci := 10) (v := .int 0) (ty := .boolean) (C := RX10) (T := TX10) (N := 3) hx hb hts iwX10 tyX10 tyX10_ok nmX10 hown hK hP (xD hi) hS k0 (xg_4 hk0) rfl 2 (by decide) (hts _ mw_85) (fun _ h9 => h9) rfl (by decide +kernel) rfl rfl (Nat.le_of_ble_eq_true rfl) dX10_discard_2 (fun H locs hP hD hS => ?_)
  have hP : va_P D vwCl (xW G (ms σ k0 2 0)) H := by rw [← xs_4_2 hk0]; exact hP
  refine lv_aload_n hx hb dX10_discard_5 rfl (lv_at hl 0 rfl) ?_
  refine lv_iconst (v := 0) hx hb dX10_discard_6 (by decide) ?_
  refine va_put (D := D) (ci := 10) (v := .int 0) (ty := .int) (C := RX10) (T := TX10) (N := 3) hx hb hts iwX10 tyX10 tyX10_ok nmX10 hown hK hP (xD hi) hS k0 (xg_4 hk0) rfl 1 (by decide) (hts _ mw_84) (fun _ h9 => h9) rfl (by decide +kernel) rfl rfl (Nat.le_of_ble_eq_true rfl) dX10_discard_7 (fun H locs hP hD hS => ?_)
  have hP : va_P D vwCl (xW G (ms (ms σ k0 2 0) k0 1 0)) H := by rw [← xs_4_1 hk0]; exact hP
  obtain rfl := Option.some.inj h
  exact W.vret hx hb hr (fun t ht hW => ⟨⟨_, rfl, rfl, xPre_at h0 hS hP ht hW⟩, hS.F ht⟩) hS.2.2 dX10_discard_10
def fX10_at (k0 : Nat) (p1 : Int32) (σ : QMem) : Option (Int32 × QMem) :=
  if p1 < 0 then (some (0, σ)) else (if 6 ≤ p1 then (some (0, σ)) else (if (p1 < 0 ∨ xl (k0 - 16) ≤ p1.toNatClampNeg) then none else (some (σ (k0 - 16) p1.toNatClampNeg, σ))))
set_option maxHeartbeats 4000000 in
set_option maxRecDepth 100000 in
theorem kX10_at (l : Launch) (D : va_G) (G : xG) (ub : xB) (σ : QMem) (k0 : Nat) (hk0 : xk k0 = 4) (p1 : Int32) (res : Int32 × QMem) (h : fX10_at k0 p1 σ = some res) : Met l yX10_at (.code yX10_at cX10_at 2 (some .int) :: lwW) (rmD 0) (xPc D G ub σ [.ref (G.1 k0), .int p1]) (xQi D G ub res) 0 0 (xA G) := by
  refine Met.ofW (cc := cX10_at) (maxL := 2) (ret := (some .int)) (by decide) rfl ?_
  intro p e s m args below meth c s₁ B hml hv
  obtain ⟨rfl, h0⟩ := hv
  have hx := B.exec
  have hb := B.bytes
  have hr := B.returns
  have hts := fun (w : Cond) (hw : w ∈ lwW) => atoms_spec (ws := (.code yX10_at cX10_at 2 (some .int) :: lwW)) B.pre w (List.mem_cons_of_mem _ hw)
  have hown : s.vm.findClass RX10 = some m.cls := findClass_of_methodNamed B.named
  have hlocks := B.notSynchronized
  have hP := h0.1
  have hK := h0.2.1
  have hi := h0.2.2.1
  have hZ := h0.2.2.2
  have hN := h0.2.2.2.2.2.2.2.1
  have hV := h0.2.2.2.2.2.2.2.2.1
  have hS : va_S (xA G) s.heap s.heap [] := va_S.rf
  have hl := lv_entry ([.ref (G.1 k0), .int p1]) (n := 2) (Nat.le_of_ble_eq_true rfl)
  rw [lg_entry_eq]
  generalize (lg_sl ([.ref (G.1 k0), .int p1]) ++ List.replicate (2 - (lg_sl ([.ref (G.1 k0), .int p1])).length) Slot.unset).toArray = ls at hl ⊢
  have hl : lv_has ls 2 [(0, .ref (G.1 k0)), (1, .int p1)] := hl
  unfold fX10_at at h
  refine lv_iload_n hx hb dX10_at_0 rfl (lv_at hl 1 rfl) ?_
  refine lv_if_lt (tgt := 19) hx hb dX10_at_1 (by decide) (fun hcq1 => ?_) (fun hcq1 => ?_)
  · have h := ifp hcq1 h
    refine lv_iconst (v := 0) hx hb dX10_at_19 (by decide) ?_
    obtain rfl := Option.some.inj h
    exact W.iret (v := 0) hx hb hr (fun t ht hW => ⟨⟨_, _, rfl, ⟨rfl, rfl⟩, xPre_at h0 hS hP ht hW⟩, hS.F ht⟩) hS.2.2 dX10_at_20
  have h := ifn hcq1 h
  refine lv_iload_n hx hb dX10_at_4 rfl (lv_at hl 1 rfl) ?_
  refine lv_bipush (v := 6) hx hb dX10_at_5 (by decide) ?_
  refine lv_icmp_ge (tgt := 19) hx hb dX10_at_7 (by decide) (fun hcq2 => ?_) (fun hcq2 => ?_)
  · have h := ifp hcq2 h
    refine lv_iconst (v := 0) hx hb dX10_at_19 (by decide) ?_
    obtain rfl := Option.some.inj h
    exact W.iret (v := 0) hx hb hr (fun t ht hW => ⟨⟨_, _, rfl, ⟨rfl, rfl⟩, xPre_at h0 hS hP ht hW⟩, hS.F ht⟩) hS.2.2 dX10_at_20
  have h := ifn hcq2 h
  refine lv_aload_n hx hb dX10_at_10 rfl (lv_at hl 0 rfl) ?_
  refine va_get (D := D) (ci := 10) (v := .ref (G.1 (k0 - 16))) (C := RX10) (T := TX10) (N := 3) hx hb hts iwX10 hown hK hP k0 (xg_4 hk0) rfl 0 (by decide) (hts _ mw_83) (fun _ h9 => h9) rfl dX10_at_11 ?_
  refine lv_iload_n hx hb dX10_at_14 rfl (lv_at hl 1 rfl) ?_
  obtain ⟨hiq3, h⟩ := nif h
  refine va_iald hx hb hK hP (k0 - 16) 0 (xg_2 (xf4_0 hk0)) rfl hiq3 dX10_at_15 ?_
  refine lv_goto (tgt := 20) hx hb dX10_at_16 (by decide) ?_
  obtain rfl := Option.some.inj h
  exact W.iret (v := σ (k0 - 16) p1.toNatClampNeg) hx hb hr (fun t ht hW => ⟨⟨_, _, rfl, ⟨rfl, rfl⟩, xPre_at h0 hS hP ht hW⟩, hS.F ht⟩) hS.2.2 dX10_at_20
def fX10_store (k0 : Nat) (p1 : Int32) (p2 : Int32) (σ : QMem) : Option (QMem) :=
  if p1 < 0 then (some σ) else (if 6 ≤ p1 then (some σ) else (if (p1 < 0 ∨ xl (k0 - 16) ≤ p1.toNatClampNeg) then none else (some (ms σ (k0 - 16) p1.toNatClampNeg p2))))
set_option maxHeartbeats 4000000 in
set_option maxRecDepth 100000 in
theorem kX10_store (l : Launch) (D : va_G) (G : xG) (ub : xB) (σ : QMem) (k0 : Nat) (hk0 : xk k0 = 4) (p1 : Int32) (p2 : Int32) (res : QMem) (h : fX10_store k0 p1 p2 σ = some res) : Met l yX10_store (.code yX10_store cX10_store 3 none :: lwW) (rmD 0) (xPc D G ub σ [.ref (G.1 k0), .int p1, .int p2]) (xQv D G ub res) 0 0 (xA G) := by
  refine Met.ofW (cc := cX10_store) (maxL := 3) (ret := none) (by decide) rfl ?_
  intro p e s m args below meth c s₁ B hml hv
  obtain ⟨rfl, h0⟩ := hv
  have hx := B.exec
  have hb := B.bytes
  have hr := B.returns
  have hts := fun (w : Cond) (hw : w ∈ lwW) => atoms_spec (ws := (.code yX10_store cX10_store 3 none :: lwW)) B.pre w (List.mem_cons_of_mem _ hw)
  have hown : s.vm.findClass RX10 = some m.cls := findClass_of_methodNamed B.named
  have hlocks := B.notSynchronized
  have hP := h0.1
  have hK := h0.2.1
  have hi := h0.2.2.1
  have hZ := h0.2.2.2
  have hN := h0.2.2.2.2.2.2.2.1
  have hV := h0.2.2.2.2.2.2.2.2.1
  have hS : va_S (xA G) s.heap s.heap [] := va_S.rf
  have hl := lv_entry ([.ref (G.1 k0), .int p1, .int p2]) (n := 3) (Nat.le_of_ble_eq_true rfl)
  rw [lg_entry_eq]
  generalize (lg_sl ([.ref (G.1 k0), .int p1, .int p2]) ++ List.replicate (3 - (lg_sl ([.ref (G.1 k0), .int p1, .int p2])).length) Slot.unset).toArray = ls at hl ⊢
  have hl : lv_has ls 3 [(0, .ref (G.1 k0)), (1, .int p1), (2, .int p2)] := hl
  unfold fX10_store at h
  refine lv_iload_n hx hb dX10_store_0 rfl (lv_at hl 1 rfl) ?_
  refine lv_if_lt (tgt := 17) hx hb dX10_store_1 (by decide) (fun hcq1 => ?_) (fun hcq1 => ?_)
  · have h := ifp hcq1 h
    obtain rfl := Option.some.inj h
    exact W.vret hx hb hr (fun t ht hW => ⟨⟨_, rfl, rfl, xPre_at h0 hS hP ht hW⟩, hS.F ht⟩) hS.2.2 dX10_store_17
  have h := ifn hcq1 h
  refine lv_iload_n hx hb dX10_store_4 rfl (lv_at hl 1 rfl) ?_
  refine lv_bipush (v := 6) hx hb dX10_store_5 (by decide) ?_
  refine lv_icmp_ge (tgt := 17) hx hb dX10_store_7 (by decide) (fun hcq2 => ?_) (fun hcq2 => ?_)
  · have h := ifp hcq2 h
    obtain rfl := Option.some.inj h
    exact W.vret hx hb hr (fun t ht hW => ⟨⟨_, rfl, rfl, xPre_at h0 hS hP ht hW⟩, hS.F ht⟩) hS.2.2 dX10_store_17
  have h := ifn hcq2 h
  refine lv_aload_n hx hb dX10_store_10 rfl (lv_at hl 0 rfl) ?_
  refine va_get (D := D) (ci := 10) (v := .ref (G.1 (k0 - 16))) (C := RX10) (T := TX10) (N := 3) hx hb hts iwX10 hown hK hP k0 (xg_4 hk0) rfl 0 (by decide) (hts _ mw_83) (fun _ h9 => h9) rfl dX10_store_11 ?_
  refine lv_iload_n hx hb dX10_store_14 rfl (lv_at hl 1 rfl) ?_
  refine lv_iload_n hx hb dX10_store_15 rfl (lv_at hl 2 rfl) ?_
  obtain ⟨hiq3, h⟩ := nif h
  refine va_iast hx hb hK hP (xD hi) hS (k0 - 16) 0 (xg_2 (xf4_0 hk0)) rfl hiq3 dX10_store_16 (fun H locs hP hD hS => ?_)
  have hP : va_P D vwCl (xW G (ms σ (k0 - 16) p1.toNatClampNeg p2)) H := by rw [← xs_2 (xf4_0 hk0)]; exact hP
  obtain rfl := Option.some.inj h
  exact W.vret hx hb hr (fun t ht hW => ⟨⟨_, rfl, rfl, xPre_at h0 hS hP ht hW⟩, hS.F ht⟩) hS.2.2 dX10_store_17
