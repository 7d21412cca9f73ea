def fX11_isPart (p0 : Int32) : Option (Int32) :=
  if p0 < 0 then (some 0) else (if 4 ≤ p0 then (some 0) else (some 1))
set_option maxHeartbeats 4000000 in
set_option maxRecDepth 100000 in
theorem kX11_isPart (l : Launch) (p0 : Int32) (res : Int32) (h : fX11_isPart p0 = some res) : Met l yX11_isPart (.code yX11_isPart cX11_isPart 1 (some .boolean) :: lwW) (rmD 0) (nPc [.int p0]) (nQi res) 0 0 (fun _ => False) := by
  refine Met.ofW (cc := cX11_isPart) (maxL := 1) (ret := (some .boolean)) (by decide) rfl ?_
  intro p e s m args below meth c s₁ B hml hv
  obtain ⟨rfl, h0⟩ := hv
  have hx := B.exec
  have hb := B.bytes
  have hr := B.returns
  have hts := fun (w : Cond) (hw : w ∈ lwW) => atoms_spec (ws := (.code yX11_isPart cX11_isPart 1 (some .boolean) :: lwW)) B.pre w (List.mem_cons_of_mem _ hw)
  have hown : s.vm.findClass RX11 = some m.cls := findClass_of_methodNamed B.named
  have hlocks := B.notSynchronized
  have hS : va_S (fun _ => False) s.heap s.heap [] := va_S.rf
  have hl := lv_entry ([.int p0]) (n := 1) (Nat.le_of_ble_eq_true rfl)
  rw [lg_entry_eq]
  generalize (lg_sl ([.int p0]) ++ List.replicate (1 - (lg_sl ([.int p0])).length) Slot.unset).toArray = ls at hl ⊢
  have hl : lv_has ls 1 [(0, .int p0)] := hl
  unfold fX11_isPart at h
  refine lv_iload_n hx hb dX11_isPart_0 rfl (lv_at hl 0 rfl) ?_
  refine lv_if_lt (tgt := 13) hx hb dX11_isPart_1 (by decide) (fun hcq1 => ?_) (fun hcq1 => ?_)
  · have h := ifp hcq1 h
    refine lv_iconst (v := 0) hx hb dX11_isPart_13 (by decide) ?_
    obtain rfl := Option.some.inj h
    exact W.zret hx hb hr rfl (fun t ht hW => ⟨⟨_, (), rfl, rfl, trivial⟩, hS.F ht⟩) hS.2.2 dX11_isPart_14
  have h := ifn hcq1 h
  refine lv_iload_n hx hb dX11_isPart_4 rfl (lv_at hl 0 rfl) ?_
  refine lv_iconst (v := 4) hx hb dX11_isPart_5 (by decide) ?_
  refine lv_icmp_ge (tgt := 13) hx hb dX11_isPart_6 (by decide) (fun hcq2 => ?_) (fun hcq2 => ?_)
  · have h := ifp hcq2 h
    refine lv_iconst (v := 0) hx hb dX11_isPart_13 (by decide) ?_
    obtain rfl := Option.some.inj h
    exact W.zret hx hb hr rfl (fun t ht hW => ⟨⟨_, (), rfl, rfl, trivial⟩, hS.F ht⟩) hS.2.2 dX11_isPart_14
  have h := ifn hcq2 h
  refine lv_iconst (v := 1) hx hb dX11_isPart_9 (by decide) ?_
  refine lv_goto (tgt := 14) hx hb dX11_isPart_10 (by decide) ?_
  obtain rfl := Option.some.inj h
  exact W.zret hx hb hr rfl (fun t ht hW => ⟨⟨_, (), rfl, rfl, trivial⟩, hS.F ht⟩) hS.2.2 dX11_isPart_14
def fX6_put (k0 : Nat) (p1 : Int32) (p2 : Int32) (p3 : Int32) (p4 : Int32) (σ : QMem) : Option (QMem) :=
  some (ms (ms (ms (ms σ k0 0 p1) k0 1 p2) k0 2 p3) k0 3 p4)
set_option maxHeartbeats 4000000 in
set_option maxRecDepth 100000 in
theorem kX6_put (l : Launch) (D : va_G) (G : xG) (ub : xB) (σ : QMem) (k0 : Nat) (hk0 : xk k0 = 0) (p1 : Int32) (p2 : Int32) (p3 : Int32) (p4 : Int32) (res : QMem) (h : fX6_put k0 p1 p2 p3 p4 σ = some res) : Met l yX6_put (.code yX6_put cX6_put 5 none :: lwW) (rmD 0) (xPc D G ub σ [.ref (G.1 k0), .int p1, .int p2, .int p3, .int p4]) (xQv D G ub res) 0 0 (xA G) := by
  refine Met.ofW (cc := cX6_put) (maxL := 5) (ret := none) (by decide) rfl ?_
  intro p e s m args below meth c s₁ B hml hv
  obtain ⟨rfl, h0⟩ := hv
  have hx := B.exec
  have hb := B.bytes
  have hr := B.returns
  have hts := fun (w : Cond) (hw : w ∈ lwW) => atoms_spec (ws := (.code yX6_put cX6_put 5 none :: lwW)) B.pre w (List.mem_cons_of_mem _ hw)
  have hown : s.vm.findClass RX6 = some m.cls := findClass_of_methodNamed B.named
  have hlocks := B.notSynchronized
  have hP := h0.1
  have hK := h0.2.1
  have hi := h0.2.2.1
  have hZ := h0.2.2.2
  have hN := h0.2.2.2.2.2.2.2.1
  have hV := h0.2.2.2.2.2.2.2.2.1
  have hS : va_S (xA G) s.heap s.heap [] := va_S.rf
  have hl := lv_entry ([.ref (G.1 k0), .int p1, .int p2, .int p3, .int p4]) (n := 5) (Nat.le_of_ble_eq_true rfl)
  rw [lg_entry_eq]
  generalize (lg_sl ([.ref (G.1 k0), .int p1, .int p2, .int p3, .int p4]) ++ List.replicate (5 - (lg_sl ([.ref (G.1 k0), .int p1, .int p2, .int p3, .int p4])).length) Slot.unset).toArray = ls at hl ⊢
  have hl : lv_has ls 5 [(0, .ref (G.1 k0)), (1, .int p1), (2, .int p2), (3, .int p3), (4, .int p4)] := hl
  unfold fX6_put at h
  refine lv_aload_n hx hb dX6_put_0 rfl (lv_at hl 0 rfl) ?_
  refine lv_iload_n hx hb dX6_put_1 rfl (lv_at hl 1 rfl) ?_
  refine va_put (D := D) (ci := 6) (v := .int p1) (ty := .int) (C := RX6) (T := TX6) (N := 4) hx hb hts iwX6 tyX6 tyX6_ok nmX6 hown hK hP (xD hi) hS k0 (xg_0 hk0) rfl 0 (by decide) (hts _ mw_40) (fun _ h9 => h9) rfl (by decide +kernel) rfl rfl (Nat.le_of_ble_eq_true rfl) dX6_put_2 (fun H locs hP hD hS => ?_)
  have hP : va_P D vwCl (xW G (ms σ k0 0 p1)) H := by rw [← xs_0_0 hk0]; exact hP
  refine lv_aload_n hx hb dX6_put_5 rfl (lv_at hl 0 rfl) ?_
  refine lv_iload_n hx hb dX6_put_6 rfl (lv_at hl 2 rfl) ?_
  refine va_put (D := D) (ci := 6) (v := .int p2) (ty := .int) (C := RX6) (T := TX6) (N := 4) hx hb hts iwX6 tyX6 tyX6_ok nmX6 hown hK hP (xD hi) hS k0 (xg_0 hk0) rfl 1 (by decide) (hts _ mw_43) (fun _ h9 => h9) rfl (by decide +kernel) rfl rfl (Nat.le_of_ble_eq_true rfl) dX6_put_7 (fun H locs hP hD hS => ?_)
  have hP : va_P D vwCl (xW G (ms (ms σ k0 0 p1) k0 1 p2)) H := by rw [← xs_0_1 hk0]; exact hP
  refine lv_aload_n hx hb dX6_put_10 rfl (lv_at hl 0 rfl) ?_
  refine lv_iload_n hx hb dX6_put_11 rfl (lv_at hl 3 rfl) ?_
  refine va_put (D := D) (ci := 6) (v := .int p3) (ty := .int) (C := RX6) (T := TX6) (N := 4) hx hb hts iwX6 tyX6 tyX6_ok nmX6 hown hK hP (xD hi) hS k0 (xg_0 hk0) rfl 2 (by decide) (hts _ mw_46) (fun _ h9 => h9) rfl (by decide +kernel) rfl rfl (Nat.le_of_ble_eq_true rfl) dX6_put_12 (fun H locs hP hD hS => ?_)
  have hP : va_P D vwCl (xW G (ms (ms (ms σ k0 0 p1) k0 1 p2) k0 2 p3)) H := by rw [← xs_0_2 hk0]; exact hP
  refine lv_aload_n hx hb dX6_put_15 rfl (lv_at hl 0 rfl) ?_
  refine lv_iload hx hb dX6_put_16 (lv_at hl 4 rfl) ?_
  refine va_put (D := D) (ci := 6) (v := .int p4) (ty := .int) (C := RX6) (T := TX6) (N := 4) hx hb hts iwX6 tyX6 tyX6_ok nmX6 hown hK hP (xD hi) hS k0 (xg_0 hk0) rfl 3 (by decide) (hts _ mw_49) (fun _ h9 => h9) rfl (by decide +kernel) rfl rfl (Nat.le_of_ble_eq_true rfl) dX6_put_18 (fun H locs hP hD hS => ?_)
  have hP : va_P D vwCl (xW G (ms (ms (ms (ms σ k0 0 p1) k0 1 p2) k0 2 p3) k0 3 p4)) H := by rw [← xs_0_3 hk0]; exact hP
  obtain rfl := Option.some.inj h
  exact W.vret hx hb hr (fun t ht hW => ⟨⟨_, rfl, rfl, xPre_at h0 hS hP ht hW⟩, hS.F ht⟩) hS.2.2 dX6_put_21
def fX6_norm (k0 : Nat) (σ : QMem) : Option (Int32 × QMem) :=
  some ((((((σ k0 0) * (σ k0 0)) + ((σ k0 1) * (σ k0 1))) + ((σ k0 2) * (σ k0 2))) + ((σ k0 3) * (σ k0 3))) / 4, σ)
set_option maxHeartbeats 4000000 in
set_option maxRecDepth 100000 in
theorem kX6_norm (l : Launch) (D : va_G) (G : xG) (ub : xB) (σ : QMem) (k0 : Nat) (hk0 : xk k0 = 0) (res : Int32 × QMem) (h : fX6_norm k0 σ = some res) : Met l yX6_norm (.code yX6_norm cX6_norm 1 (some .int) :: lwW) (rmD 0) (xPc D G ub σ [.ref (G.1 k0)]) (xQi D G ub res) 0 0 (xA G) := by
  refine Met.ofW (cc := cX6_norm) (maxL := 1) (ret := (some .int)) (by decide) rfl ?_
  intro p e s m args below meth c s₁ B hml hv
  obtain ⟨rfl, h0⟩ := hv
  have hx := B.exec
  have hb := B.bytes
  have hr := B.returns
  have hts := fun (w : Cond) (hw : w ∈ lwW) => atoms_spec (ws := (.code yX6_norm cX6_norm 1 (some .int) :: lwW)) B.pre w (List.mem_cons_of_mem _ hw)
  have hown : s.vm.findClass RX6 = some m.cls := findClass_of_methodNamed B.named
  have hlocks := B.notSynchronized
  have hP := h0.1
  have hK := h0.2.1
  have hi := h0.2.2.1
  have hZ := h0.2.2.2
  have hN := h0.2.2.2.2.2.2.2.1
  have hV := h0.2.2.2.2.2.2.2.2.1
  have hS : va_S (xA G) s.heap s.heap [] := va_S.rf
  have hl := lv_entry ([.ref (G.1 k0)]) (n := 1) (Nat.le_of_ble_eq_true rfl)
  rw [lg_entry_eq]
  generalize (lg_sl ([.ref (G.1 k0)]) ++ List.replicate (1 - (lg_sl ([.ref (G.1 k0)])).length) Slot.unset).toArray = ls at hl ⊢
  have hl : lv_has ls 1 [(0, .ref (G.1 k0))] := hl
  unfold fX6_norm at h
  refine lv_aload_n hx hb dX6_norm_0 rfl (lv_at hl 0 rfl) ?_
  refine va_get (D := D) (ci := 6) (v := .int (σ k0 0)) (C := RX6) (T := TX6) (N := 4) hx hb hts iwX6 hown hK hP k0 (xg_0 hk0) rfl 0 (by decide) (hts _ mw_40) (fun _ h9 => h9) rfl dX6_norm_1 ?_
  refine lv_aload_n hx hb dX6_norm_4 rfl (lv_at hl 0 rfl) ?_
  refine va_get (D := D) (ci := 6) (v := .int (σ k0 0)) (C := RX6) (T := TX6) (N := 4) hx hb hts iwX6 hown hK hP k0 (xg_0 hk0) rfl 0 (by decide) (hts _ mw_40) (fun _ h9 => h9) rfl dX6_norm_5 ?_
  refine lv_imul hx hb dX6_norm_8 ?_
  refine lv_aload_n hx hb dX6_norm_9 rfl (lv_at hl 0 rfl) ?_
  refine va_get (D := D) (ci := 6) (v := .int (σ k0 1)) (C := RX6) (T := TX6) (N := 4) hx hb hts iwX6 hown hK hP k0 (xg_0 hk0) rfl 1 (by decide) (hts _ mw_43) (fun _ h9 => h9) rfl dX6_norm_10 ?_
  refine lv_aload_n hx hb dX6_norm_13 rfl (lv_at hl 0 rfl) ?_
  refine va_get (D := D) (ci := 6) (v := .int (σ k0 1)) (C := RX6) (T := TX6) (N := 4) hx hb hts iwX6 hown hK hP k0 (xg_0 hk0) rfl 1 (by decide) (hts _ mw_43) (fun _ h9 => h9) rfl dX6_norm_14 ?_
  refine lv_imul hx hb dX6_norm_17 ?_
  refine lv_iadd hx hb dX6_norm_18 ?_
  refine lv_aload_n hx hb dX6_norm_19 rfl (lv_at hl 0 rfl) ?_
  refine va_get (D := D) (ci := 6) (v := .int (σ k0 2)) (C := RX6) (T := TX6) (N := 4) hx hb hts iwX6 hown hK hP k0 (xg_0 hk0) rfl 2 (by decide) (hts _ mw_46) (fun _ h9 => h9) rfl dX6_norm_20 ?_
  refine lv_aload_n hx hb dX6_norm_23 rfl (lv_at hl 0 rfl) ?_
  refine va_get (D := D) (ci := 6) (v := .int (σ k0 2)) (C := RX6) (T := TX6) (N := 4) hx hb hts iwX6 hown hK hP k0 (xg_0 hk0) rfl 2 (by decide) (hts _ mw_46) (fun _ h9 => h9) rfl dX6_norm_24 ?_
  refine lv_imul hx hb dX6_norm_27 ?_
  refine lv_iadd hx hb dX6_norm_28 ?_
  refine lv_aload_n hx hb dX6_norm_29 rfl (lv_at hl 0 rfl) ?_
  refine va_get (D := D) (ci := 6) (v := .int (σ k0 3)) (C := RX6) (T := TX6) (N := 4) hx hb hts iwX6 hown hK hP k0 (xg_0 hk0) rfl 3 (by decide) (hts _ mw_49) (fun _ h9 => h9) rfl dX6_norm_30 ?_
  refine lv_aload_n hx hb dX6_norm_33 rfl (lv_at hl 0 rfl) ?_
  refine va_get (D := D) (ci := 6) (v := .int (σ k0 3)) (C := RX6) (T := TX6) (N := 4) hx hb hts iwX6 hown hK hP k0 (xg_0 hk0) rfl 3 (by decide) (hts _ mw_49) (fun _ h9 => h9) rfl dX6_norm_34 ?_
  refine lv_imul hx hb dX6_norm_37 ?_
  refine lv_iadd hx hb dX6_norm_38 ?_
  refine lv_iconst (v := 4) hx hb dX6_norm_39 (by decide) ?_
  refine lv_idiv hx hb dX6_norm_40 (by decide) ?_
  obtain rfl := Option.some.inj h
  exact W.iret (v := (((((σ k0 0) * (σ k0 0)) + ((σ k0 1) * (σ k0 1))) + ((σ k0 2) * (σ k0 2))) + ((σ k0 3) * (σ k0 3))) / 4) hx hb hr (fun t ht hW => ⟨⟨_, _, rfl, ⟨rfl, rfl⟩, xPre_at h0 hS hP ht hW⟩, hS.F ht⟩) hS.2.2 dX6_norm_41
def fX6_becomeConjugate (k0 : Nat) (k1 : Nat) (σ : QMem) : Option (QMem) :=
  (fX6_put k0 (σ k1 0) (-(σ k1 1)) (-(σ k1 2)) (-(σ k1 3)) σ).bind fun xq1 => (some xq1)
set_option maxHeartbeats 4000000 in
set_option maxRecDepth 100000 in
theorem kX6_becomeConjugate (l : Launch) (D : va_G) (G : xG) (ub : xB) (σ : QMem) (k0 : Nat) (hk0 : xk k0 = 0) (k1 : Nat) (hk1 : xk k1 = 0) (res : QMem) (h : fX6_becomeConjugate k0 k1 σ = some res) : Met l yX6_becomeConjugate (.code yX6_becomeConjugate cX6_becomeConjugate 2 none :: lwW) (rmD 1) (xPc D G ub σ [.ref (G.1 k0), .ref (G.1 k1)]) (xQv D G ub res) 0 0 (xA G) := by
  refine Met.ofW (cc := cX6_becomeConjugate) (maxL := 2) (ret := none) (by decide) rfl ?_
  intro p e s m args below meth c s₁ B hml hv
  obtain ⟨rfl, h0⟩ := hv
  have hx := B.exec
  have hb := B.bytes
  have hr := B.returns
  have hts := fun (w : Cond) (hw : w ∈ lwW) => atoms_spec (ws := (.code yX6_becomeConjugate cX6_becomeConjugate 2 none :: lwW)) B.pre w (List.mem_cons_of_mem _ hw)
  have hown : s.vm.findClass RX6 = some m.cls := findClass_of_methodNamed B.named
  have hlocks := B.notSynchronized
  have hP := h0.1
  have hK := h0.2.1
  have hi := h0.2.2.1
  have hZ := h0.2.2.2
  have hN := h0.2.2.2.2.2.2.2.1
  have hV := h0.2.2.2.2.2.2.2.2.1
  have hS : va_S (xA G) s.heap s.heap [] := va_S.rf
  have hl := lv_entry ([.ref (G.1 k0), .ref (G.1 k1)]) (n := 2) (Nat.le_of_ble_eq_true rfl)
  rw [lg_entry_eq]
  generalize (lg_sl ([.ref (G.1 k0), .ref (G.1 k1)]) ++ List.replicate (2 - (lg_sl ([.ref (G.1 k0), .ref (G.1 k1)])).length) Slot.unset).toArray = ls at hl ⊢
  have hl : lv_has ls 2 [(0, .ref (G.1 k0)), (1, .ref (G.1 k1))] := hl
  unfold fX6_becomeConjugate at h
  refine lv_aload_n hx hb dX6_becomeConjugate_0 rfl (lv_at hl 0 rfl) ?_
  refine lv_aload_n hx hb dX6_becomeConjugate_1 rfl (lv_at hl 1 rfl) ?_
  refine va_get (D := D) (ci := 6) (v := .int (σ k1 0)) (C := RX6) (T := TX6) (N := 4) hx hb hts iwX6 hown hK hP k1 (xg_0 hk1) rfl 0 (by decide) (hts _ mw_40) (fun _ h9 => h9) rfl dX6_becomeConjugate_2 ?_
  refine lv_aload_n hx hb dX6_becomeConjugate_5 rfl (lv_at hl 1 rfl) ?_
  refine va_get (D := D) (ci := 6) (v := .int (σ k1 1)) (C := RX6) (T := TX6) (N := 4) hx hb hts iwX6 hown hK hP k1 (xg_0 hk1) rfl 1 (by decide) (hts _ mw_43) (fun _ h9 => h9) rfl dX6_becomeConjugate_6 ?_
  refine lv_ineg hx hb dX6_becomeConjugate_9 ?_
  refine lv_aload_n hx hb dX6_becomeConjugate_10 rfl (lv_at hl 1 rfl) ?_
  refine va_get (D := D) (ci := 6) (v := .int (σ k1 2)) (C := RX6) (T := TX6) (N := 4) hx hb hts iwX6 hown hK hP k1 (xg_0 hk1) rfl 2 (by decide) (hts _ mw_46) (fun _ h9 => h9) rfl dX6_becomeConjugate_11 ?_
  refine lv_ineg hx hb dX6_becomeConjugate_14 ?_
  refine lv_aload_n hx hb dX6_becomeConjugate_15 rfl (lv_at hl 1 rfl) ?_
  refine va_get (D := D) (ci := 6) (v := .int (σ k1 3)) (C := RX6) (T := TX6) (N := 4) hx hb hts iwX6 hown hK hP k1 (xg_0 hk1) rfl 3 (by decide) (hts _ mw_49) (fun _ h9 => h9) rfl dX6_becomeConjugate_16 ?_
  refine lv_ineg hx hb dX6_becomeConjugate_19 ?_
  obtain ⟨xq1, hfq2, h⟩ := obd h
  refine va_callv (va_runV (As := [.int (σ k1 0), .int (-(σ k1 1)), .int (-(σ k1 2)), .int (-(σ k1 3))]) (rest := []) ⟨hx, hb, hml, hown, hts⟩ (kX6_put l D G ub _ k0 hk0 (σ k1 0) (-(σ k1 1)) (-(σ k1 2)) (-(σ k1 3)) xq1 hfq2) (cwV 4 hts (lwW_gV mw_479 mw_467 mw_468 mw_3 mw_469) rfl rfl rfl (by decide +kernel) ⟨Nat.le_of_ble_eq_true rfl, Nat.le_of_ble_eq_true rfl⟩) ⟨fun a U g mk q => ⟨q.1, xPre_call q.2⟩, va_recv hK hP rfl (xg_0 hk0), fun U hU hW => ⟨rfl, xPre_at h0 hS hP hU hW⟩⟩ rfl rfl hl.1 rfl (lv_room (Nat.le_of_ble_eq_true rfl)) dX6_becomeConjugate_20 ⟨Nat.zero_le _, Nat.zero_le _⟩) hS (fun q _ h => h) (fun q h => h) (fun u t H1 locs ht hvm hw hB hz1 hq1 hS => ?_)
  obtain rfl := hw.symm
  have hP := hB.1
  rw [ht] at hP
  refine W.widen (k := 0) (n := 0) (Nat.le_refl _) (Nat.le_refl _) ?_
  obtain rfl := Option.some.inj h
  exact W.vret hx hb hr (fun t ht hW => ⟨⟨_, rfl, rfl, xPre_at h0 hS hP ht hW⟩, hS.F ht⟩) hS.2.2 dX6_becomeConjugate_23
def fX6_becomeProduct (k0 : Nat) (k1 : Nat) (k2 : Nat) (σ : QMem) : Option (QMem) :=
  some (ms (ms (ms (ms σ k0 0 ((((((σ k1 0) * (σ k2 0)) - ((σ k1 1) * (σ k2 1))) - ((σ k1 2) * (σ k2 2))) - ((σ k1 3) * (σ k2 3))) / 2)) k0 1 ((((((σ k1 0) * (σ k2 1)) + ((σ k1 1) * (σ k2 0))) + ((σ k1 2) * (σ k2 3))) - ((σ k1 3) * (σ k2 2))) / 2)) k0 2 ((((((σ k1 0) * (σ k2 2)) - ((σ k1 1) * (σ k2 3))) + ((σ k1 2) * (σ k2 0))) + ((σ k1 3) * (σ k2 1))) / 2)) k0 3 ((((((σ k1 0) * (σ k2 3)) + ((σ k1 1) * (σ k2 2))) - ((σ k1 2) * (σ k2 1))) + ((σ k1 3) * (σ k2 0))) / 2))
set_option maxHeartbeats 4000000 in
set_option maxRecDepth 100000 in
theorem kX6_becomeProduct (l : Launch) (D : va_G) (G : xG) (ub : xB) (σ : QMem) (k0 : Nat) (hk0 : xk k0 = 0) (k1 : Nat) (hk1 : xk k1 = 0) (k2 : Nat) (hk2 : xk k2 = 0) (res : QMem) (h : fX6_becomeProduct k0 k1 k2 σ = some res) : Met l yX6_becomeProduct (.code yX6_becomeProduct cX6_becomeProduct 7 none :: lwW) (rmD 0) (xPc D G ub σ [.ref (G.1 k0), .ref (G.1 k1), .ref (G.1 k2)]) (xQv D G ub res) 0 0 (xA G) := by
  refine Met.ofW (cc := cX6_becomeProduct) (maxL := 7) (ret := none) (by decide) rfl ?_
  intro p e s m args below meth c s₁ B hml hv
  obtain ⟨rfl, h0⟩ := hv
  have hx := B.exec
  have hb := B.bytes
  have hr := B.returns
  have hts := fun (w : Cond) (hw : w ∈ lwW) => atoms_spec (ws := (.code yX6_becomeProduct cX6_becomeProduct 7 none :: lwW)) B.pre w (List.mem_cons_of_mem _ hw)
  have hown : s.vm.findClass RX6 = some m.cls := findClass_of_methodNamed B.named
  have hlocks := B.notSynchronized
  have hP := h0.1
  have hK := h0.2.1
  have hi := h0.2.2.1
  have hZ := h0.2.2.2
  have hN := h0.2.2.2.2.2.2.2.1
  have hV := h0.2.2.2.2.2.2.2.2.1
  have hS : va_S (xA G) s.heap s.heap [] := va_S.rf
  have hl := lv_entry ([.ref (G.1 k0), .ref (G.1 k1), .ref (G.1 k2)]) (n := 7) (Nat.le_of_ble_eq_true rfl)
  rw [lg_entry_eq]
  generalize (lg_sl ([.ref (G.1 k0), .ref (G.1 k1), .ref (G.1 k2)]) ++ List.replicate (7 - (lg_sl ([.ref (G.1 k0), .ref (G.1 k1), .ref (G.1 k2)])).length) Slot.unset).toArray = ls at hl ⊢
  have hl : lv_has ls 7 [(0, .ref (G.1 k0)), (1, .ref (G.1 k1)), (2, .ref (G.1 k2))] := hl
  unfold fX6_becomeProduct at h
  refine lv_aload_n hx hb dX6_becomeProduct_0 rfl (lv_at hl 1 rfl) ?_
  refine va_get (D := D) (ci := 6) (v := .int (σ k1 0)) (C := RX6) (T := TX6) (N := 4) hx hb hts iwX6 hown hK hP k1 (xg_0 hk1) rfl 0 (by decide) (hts _ mw_40) (fun _ h9 => h9) rfl dX6_becomeProduct_1 ?_
  refine lv_aload_n hx hb dX6_becomeProduct_4 rfl (lv_at hl 2 rfl) ?_
  refine va_get (D := D) (ci := 6) (v := .int (σ k2 0)) (C := RX6) (T := TX6) (N := 4) hx hb hts iwX6 hown hK hP k2 (xg_0 hk2) rfl 0 (by decide) (hts _ mw_40) (fun _ h9 => h9) rfl dX6_becomeProduct_5 ?_
  refine lv_imul hx hb dX6_becomeProduct_8 ?_
  refine lv_aload_n hx hb dX6_becomeProduct_9 rfl (lv_at hl 1 rfl) ?_
  refine va_get (D := D) (ci := 6) (v := .int (σ k1 1)) (C := RX6) (T := TX6) (N := 4) hx hb hts iwX6 hown hK hP k1 (xg_0 hk1) rfl 1 (by decide) (hts _ mw_43) (fun _ h9 => h9) rfl dX6_becomeProduct_10 ?_
  refine lv_aload_n hx hb dX6_becomeProduct_13 rfl (lv_at hl 2 rfl) ?_
  refine va_get (D := D) (ci := 6) (v := .int (σ k2 1)) (C := RX6) (T := TX6) (N := 4) hx hb hts iwX6 hown hK hP k2 (xg_0 hk2) rfl 1 (by decide) (hts _ mw_43) (fun _ h9 => h9) rfl dX6_becomeProduct_14 ?_
  refine lv_imul hx hb dX6_becomeProduct_17 ?_
  refine lv_isub hx hb dX6_becomeProduct_18 ?_
  refine lv_aload_n hx hb dX6_becomeProduct_19 rfl (lv_at hl 1 rfl) ?_
  refine va_get (D := D) (ci := 6) (v := .int (σ k1 2)) (C := RX6) (T := TX6) (N := 4) hx hb hts iwX6 hown hK hP k1 (xg_0 hk1) rfl 2 (by decide) (hts _ mw_46) (fun _ h9 => h9) rfl dX6_becomeProduct_20 ?_
  refine lv_aload_n hx hb dX6_becomeProduct_23 rfl (lv_at hl 2 rfl) ?_
  refine va_get (D := D) (ci := 6) (v := .int (σ k2 2)) (C := RX6) (T := TX6) (N := 4) hx hb hts iwX6 hown hK hP k2 (xg_0 hk2) rfl 2 (by decide) (hts _ mw_46) (fun _ h9 => h9) rfl dX6_becomeProduct_24 ?_
  refine lv_imul hx hb dX6_becomeProduct_27 ?_
  refine lv_isub hx hb dX6_becomeProduct_28 ?_
  refine lv_aload_n hx hb dX6_becomeProduct_29 rfl (lv_at hl 1 rfl) ?_
  refine va_get (D := D) (ci := 6) (v := .int (σ k1 3)) (C := RX6) (T := TX6) (N := 4) hx hb hts iwX6 hown hK hP k1 (xg_0 hk1) rfl 3 (by decide) (hts _ mw_49) (fun _ h9 => h9) rfl dX6_becomeProduct_30 ?_
  refine lv_aload_n hx hb dX6_becomeProduct_33 rfl (lv_at hl 2 rfl) ?_
  refine va_get (D := D) (ci := 6) (v := .int (σ k2 3)) (C := RX6) (T := TX6) (N := 4) hx hb hts iwX6 hown hK hP k2 (xg_0 hk2) rfl 3 (by decide) (hts _ mw_49) (fun _ h9 => h9) rfl dX6_becomeProduct_34 ?_
  refine lv_imul hx hb dX6_becomeProduct_37 ?_
  refine lv_isub hx hb dX6_becomeProduct_38 ?_
  refine lv_istore_n (lv' := [(3, .int (((((σ k1 0) * (σ k2 0)) - ((σ k1 1) * (σ k2 1))) - ((σ k1 2) * (σ k2 2))) - ((σ k1 3) * (σ k2 3)))), (0, .ref (G.1 k0)), (1, .ref (G.1 k1)), (2, .ref (G.1 k2))]) hx hb dX6_becomeProduct_39 rfl hl (by decide) rfl (fun ls hl => ?_)
  refine lv_aload_n hx hb dX6_becomeProduct_40 rfl (lv_at hl 2 rfl) ?_
  refine va_get (D := D) (ci := 6) (v := .int (σ k1 0)) (C := RX6) (T := TX6) (N := 4) hx hb hts iwX6 hown hK hP k1 (xg_0 hk1) rfl 0 (by decide) (hts _ mw_40) (fun _ h9 => h9) rfl dX6_becomeProduct_41 ?_
  refine lv_aload_n hx hb dX6_becomeProduct_44 rfl (lv_at hl 3 rfl) ?_
  refine va_get (D := D) (ci := 6) (v := .int (σ k2 1)) (C := RX6) (T := TX6) (N := 4) hx hb hts iwX6 hown hK hP k2 (xg_0 hk2) rfl 1 (by decide) (hts _ mw_43) (fun _ h9 => h9) rfl dX6_becomeProduct_45 ?_
  refine lv_imul hx hb dX6_becomeProduct_48 ?_
  refine lv_aload_n hx hb dX6_becomeProduct_49 rfl (lv_at hl 2 rfl) ?_
  refine va_get (D := D) (ci := 6) (v := .int (σ k1 1)) (C := RX6) (T := TX6) (N := 4) hx hb hts iwX6 hown hK hP k1 (xg_0 hk1) rfl 1 (by decide) (hts _ mw_43) (fun _ h9 => h9) rfl dX6_becomeProduct_50 ?_
  refine lv_aload_n hx hb dX6_becomeProduct_53 rfl (lv_at hl 3 rfl) ?_
  refine va_get (D := D) (ci := 6) (v := .int (σ k2 0)) (C := RX6) (T := TX6) (N := 4) hx hb hts iwX6 hown hK hP k2 (xg_0 hk2) rfl 0 (by decide) (hts _ mw_40) (fun _ h9 => h9) rfl dX6_becomeProduct_54 ?_
  refine lv_imul hx hb dX6_becomeProduct_57 ?_
  refine lv_iadd hx hb dX6_becomeProduct_58 ?_
  refine lv_aload_n hx hb dX6_becomeProduct_59 rfl (lv_at hl 2 rfl) ?_
  refine va_get (D := D) (ci := 6) (v := .int (σ k1 2)) (C := RX6) (T := TX6) (N := 4) hx hb hts iwX6 hown hK hP k1 (xg_0 hk1) rfl 2 (by decide) (hts _ mw_46) (fun _ h9 => h9) rfl dX6_becomeProduct_60 ?_
  refine lv_aload_n hx hb dX6_becomeProduct_63 rfl (lv_at hl 3 rfl) ?_
  refine va_get (D := D) (ci := 6) (v := .int (σ k2 3)) (C := RX6) (T := TX6) (N := 4) hx hb hts iwX6 hown hK hP k2 (xg_0 hk2) rfl 3 (by decide) (hts _ mw_49) (fun _ h9 => h9) rfl dX6_becomeProduct_64 ?_
  refine lv_imul hx hb dX6_becomeProduct_67 ?_
  refine lv_iadd hx hb dX6_becomeProduct_68 ?_
  refine lv_aload_n hx hb dX6_becomeProduct_69 rfl (lv_at hl 2 rfl) ?_
  refine va_get (D := D) (ci := 6) (v := .int (σ k1 3)) (C := RX6) (T := TX6) (N := 4) hx hb hts iwX6 hown hK hP k1 (xg_0 hk1) rfl 3 (by decide) (hts _ mw_49) (fun _ h9 => h9) rfl dX6_becomeProduct_70 ?_
  refine lv_aload_n hx hb dX6_becomeProduct_73 rfl (lv_at hl 3 rfl) ?_
  refine va_get (D := D) (ci := 6) (v := .int (σ k2 2)) (C := RX6) (T := TX6) (N := 4) hx hb hts iwX6 hown hK hP k2 (xg_0 hk2) rfl 2 (by decide) (hts _ mw_46) (fun _ h9 => h9) rfl dX6_becomeProduct_74 ?_
  refine lv_imul hx hb dX6_becomeProduct_77 ?_
  refine lv_isub hx hb dX6_becomeProduct_78 ?_
  refine lv_istore (lv' := [(4, .int (((((σ k1 0) * (σ k2 1)) + ((σ k1 1) * (σ k2 0))) + ((σ k1 2) * (σ k2 3))) - ((σ k1 3) * (σ k2 2)))), (3, .int (((((σ k1 0) * (σ k2 0)) - ((σ k1 1) * (σ k2 1))) - ((σ k1 2) * (σ k2 2))) - ((σ k1 3) * (σ k2 3)))), (0, .ref (G.1 k0)), (1, .ref (G.1 k1)), (2, .ref (G.1 k2))]) hx hb dX6_becomeProduct_79 hl (by decide) rfl (fun ls hl => ?_)
  refine lv_aload_n hx hb dX6_becomeProduct_81 rfl (lv_at hl 3 rfl) ?_
  refine va_get (D := D) (ci := 6) (v := .int (σ k1 0)) (C := RX6) (T := TX6) (N := 4) hx hb hts iwX6 hown hK hP k1 (xg_0 hk1) rfl 0 (by decide) (hts _ mw_40) (fun _ h9 => h9) rfl dX6_becomeProduct_82 ?_
  refine lv_aload_n hx hb dX6_becomeProduct_85 rfl (lv_at hl 4 rfl) ?_
  refine va_get (D := D) (ci := 6) (v := .int (σ k2 2)) (C := RX6) (T := TX6) (N := 4) hx hb hts iwX6 hown hK hP k2 (xg_0 hk2) rfl 2 (by decide) (hts _ mw_46) (fun _ h9 => h9) rfl dX6_becomeProduct_86 ?_
  refine lv_imul hx hb dX6_becomeProduct_89 ?_
  refine lv_aload_n hx hb dX6_becomeProduct_90 rfl (lv_at hl 3 rfl) ?_
  refine va_get (D := D) (ci := 6) (v := .int (σ k1 1)) (C := RX6) (T := TX6) (N := 4) hx hb hts iwX6 hown hK hP k1 (xg_0 hk1) rfl 1 (by decide) (hts _ mw_43) (fun _ h9 => h9) rfl dX6_becomeProduct_91 ?_
  refine lv_aload_n hx hb dX6_becomeProduct_94 rfl (lv_at hl 4 rfl) ?_
  refine va_get (D := D) (ci := 6) (v := .int (σ k2 3)) (C := RX6) (T := TX6) (N := 4) hx hb hts iwX6 hown hK hP k2 (xg_0 hk2) rfl 3 (by decide) (hts _ mw_49) (fun _ h9 => h9) rfl dX6_becomeProduct_95 ?_
  refine lv_imul hx hb dX6_becomeProduct_98 ?_
  refine lv_isub hx hb dX6_becomeProduct_99 ?_
  refine lv_aload_n hx hb dX6_becomeProduct_100 rfl (lv_at hl 3 rfl) ?_
  refine va_get (D := D) (ci := 6) (v := .int (σ k1 2)) (C := RX6) (T := TX6) (N := 4) hx hb hts iwX6 hown hK hP k1 (xg_0 hk1) rfl 2 (by decide) (hts _ mw_46) (fun _ h9 => h9) rfl dX6_becomeProduct_101 ?_
  refine lv_aload_n hx hb dX6_becomeProduct_104 rfl (lv_at hl 4 rfl) ?_
  refine va_get (D := D) (ci := 6) (v := .int (σ k2 0)) (C := RX6) (T := TX6) (N := 4) hx hb hts iwX6 hown hK hP k2 (xg_0 hk2) rfl 0 (by decide) (hts _ mw_40) (fun _ h9 => h9) rfl dX6_becomeProduct_105 ?_
  refine lv_imul hx hb dX6_becomeProduct_108 ?_
  refine lv_iadd hx hb dX6_becomeProduct_109 ?_
  refine lv_aload_n hx hb dX6_becomeProduct_110 rfl (lv_at hl 3 rfl) ?_
  refine va_get (D := D) (ci := 6) (v := .int (σ k1 3)) (C := RX6) (T := TX6) (N := 4) hx hb hts iwX6 hown hK hP k1 (xg_0 hk1) rfl 3 (by decide) (hts _ mw_49) (fun _ h9 => h9) rfl dX6_becomeProduct_111 ?_
  refine lv_aload_n hx hb dX6_becomeProduct_114 rfl (lv_at hl 4 rfl) ?_
  refine va_get (D := D) (ci := 6) (v := .int (σ k2 1)) (C := RX6) (T := TX6) (N := 4) hx hb hts iwX6 hown hK hP k2 (xg_0 hk2) rfl 1 (by decide) (hts _ mw_43) (fun _ h9 => h9) rfl dX6_becomeProduct_115 ?_
  refine lv_imul hx hb dX6_becomeProduct_118 ?_
  refine lv_iadd hx hb dX6_becomeProduct_119 ?_
  refine lv_istore (lv' := [(5, .int (((((σ k1 0) * (σ k2 2)) - ((σ k1 1) * (σ k2 3))) + ((σ k1 2) * (σ k2 0))) + ((σ k1 3) * (σ k2 1)))), (4, .int (((((σ k1 0) * (σ k2 1)) + ((σ k1 1) * (σ k2 0))) + ((σ k1 2) * (σ k2 3))) - ((σ k1 3) * (σ k2 2)))), (3, .int (((((σ k1 0) * (σ k2 0)) - ((σ k1 1) * (σ k2 1))) - ((σ k1 2) * (σ k2 2))) - ((σ k1 3) * (σ k2 3)))), (0, .ref (G.1 k0)), (1, .ref (G.1 k1)), (2, .ref (G.1 k2))]) hx hb dX6_becomeProduct_120 hl (by decide) rfl (fun ls hl => ?_)
  refine lv_aload_n hx hb dX6_becomeProduct_122 rfl (lv_at hl 4 rfl) ?_
  refine va_get (D := D) (ci := 6) (v := .int (σ k1 0)) (C := RX6) (T := TX6) (N := 4) hx hb hts iwX6 hown hK hP k1 (xg_0 hk1) rfl 0 (by decide) (hts _ mw_40) (fun _ h9 => h9) rfl dX6_becomeProduct_123 ?_
  refine lv_aload_n hx hb dX6_becomeProduct_126 rfl (lv_at hl 5 rfl) ?_
  refine va_get (D := D) (ci := 6) (v := .int (σ k2 3)) (C := RX6) (T := TX6) (N := 4) hx hb hts iwX6 hown hK hP k2 (xg_0 hk2) rfl 3 (by decide) (hts _ mw_49) (fun _ h9 => h9) rfl dX6_becomeProduct_127 ?_
  refine lv_imul hx hb dX6_becomeProduct_130 ?_
  refine lv_aload_n hx hb dX6_becomeProduct_131 rfl (lv_at hl 4 rfl) ?_
  refine va_get (D := D) (ci := 6) (v := .int (σ k1 1)) (C := RX6) (T := TX6) (N := 4) hx hb hts iwX6 hown hK hP k1 (xg_0 hk1) rfl 1 (by decide) (hts _ mw_43) (fun _ h9 => h9) rfl dX6_becomeProduct_132 ?_
  refine lv_aload_n hx hb dX6_becomeProduct_135 rfl (lv_at hl 5 rfl) ?_
  refine va_get (D := D) (ci := 6) (v := .int (σ k2 2)) (C := RX6) (T := TX6) (N := 4) hx hb hts iwX6 hown hK hP k2 (xg_0 hk2) rfl 2 (by decide) (hts _ mw_46) (fun _ h9 => h9) rfl dX6_becomeProduct_136 ?_
  refine lv_imul hx hb dX6_becomeProduct_139 ?_
  refine lv_iadd hx hb dX6_becomeProduct_140 ?_
  refine lv_aload_n hx hb dX6_becomeProduct_141 rfl (lv_at hl 4 rfl) ?_
  refine va_get (D := D) (ci := 6) (v := .int (σ k1 2)) (C := RX6) (T := TX6) (N := 4) hx hb hts iwX6 hown hK hP k1 (xg_0 hk1) rfl 2 (by decide) (hts _ mw_46) (fun _ h9 => h9) rfl dX6_becomeProduct_142 ?_
  refine lv_aload_n hx hb dX6_becomeProduct_145 rfl (lv_at hl 5 rfl) ?_
  refine va_get (D := D) (ci := 6) (v := .int (σ k2 1)) (C := RX6) (T := TX6) (N := 4) hx hb hts iwX6 hown hK hP k2 (xg_0 hk2) rfl 1 (by decide) (hts _ mw_43) (fun _ h9 => h9) rfl dX6_becomeProduct_146 ?_
  refine lv_imul hx hb dX6_becomeProduct_149 ?_
  refine lv_isub hx hb dX6_becomeProduct_150 ?_
  refine lv_aload_n hx hb dX6_becomeProduct_151 rfl (lv_at hl 4 rfl) ?_
  refine va_get (D := D) (ci := 6) (v := .int (σ k1 3)) (C := RX6) (T := TX6) (N := 4) hx hb hts iwX6 hown hK hP k1 (xg_0 hk1) rfl 3 (by decide) (hts _ mw_49) (fun _ h9 => h9) rfl dX6_becomeProduct_152 ?_
  refine lv_aload_n hx hb dX6_becomeProduct_155 rfl (lv_at hl 5 rfl) ?_
  refine va_get (D := D) (ci := 6) (v := .int (σ k2 0)) (C := RX6) (T := TX6) (N := 4) hx hb hts iwX6 hown hK hP k2 (xg_0 hk2) rfl 0 (by decide) (hts _ mw_40) (fun _ h9 => h9) rfl dX6_becomeProduct_156 ?_
  refine lv_imul hx hb dX6_becomeProduct_159 ?_
  refine lv_iadd hx hb dX6_becomeProduct_160 ?_
  refine lv_istore (lv' := [(6, .int (((((σ k1 0) * (σ k2 3)) + ((σ k1 1) * (σ k2 2))) - ((σ k1 2) * (σ k2 1))) + ((σ k1 3) * (σ k2 0)))), (5, .int (((((σ k1 0) * (σ k2 2)) - ((σ k1 1) * (σ k2 3))) + ((σ k1 2) * (σ k2 0))) + ((σ k1 3) * (σ k2 1)))), (4, .int (((((σ k1 0) * (σ k2 1)) + ((σ k1 1) * (σ k2 0))) + ((σ k1 2) * (σ k2 3))) - ((σ k1 3) * (σ k2 2)))), (3, .int (((((σ k1 0) * (σ k2 0)) - ((σ k1 1) * (σ k2 1))) - ((σ k1 2) * (σ k2 2))) - ((σ k1 3) * (σ k2 3)))), (0, .ref (G.1 k0)), (1, .ref (G.1 k1)), (2, .ref (G.1 k2))]) hx hb dX6_becomeProduct_161 hl (by decide) rfl (fun ls hl => ?_)
  refine lv_aload_n hx hb dX6_becomeProduct_163 rfl (lv_at hl 4 rfl) ?_
  refine lv_iload_n hx hb dX6_becomeProduct_164 rfl (lv_at hl 3 rfl) ?_
  refine lv_iconst (v := 2) hx hb dX6_becomeProduct_165 (by decide) ?_
  refine lv_idiv hx hb dX6_becomeProduct_166 (by decide) ?_
  refine va_put (D := D) (ci := 6) (v := .int ((((((σ k1 0) * (σ k2 0)) - ((σ k1 1) * (σ k2 1))) - ((σ k1 2) * (σ k2 2))) - ((σ k1 3) * (σ k2 3))) / 2)) (ty := .int) (C := RX6) (T := TX6) (N := 4) hx hb hts iwX6 tyX6 tyX6_ok nmX6 hown hK hP (xD hi) hS k0 (xg_0 hk0) rfl 0 (by decide) (hts _ mw_40) (fun _ h9 => h9) rfl (by decide +kernel) rfl rfl (Nat.le_of_ble_eq_true rfl) dX6_becomeProduct_167 (fun H locs hP hD hS => ?_)
  have hP : va_P D vwCl (xW G (ms σ k0 0 ((((((σ k1 0) * (σ k2 0)) - ((σ k1 1) * (σ k2 1))) - ((σ k1 2) * (σ k2 2))) - ((σ k1 3) * (σ k2 3))) / 2))) H := by rw [← xs_0_0 hk0]; exact hP
  refine lv_aload_n hx hb dX6_becomeProduct_170 rfl (lv_at hl 4 rfl) ?_
  refine lv_iload hx hb dX6_becomeProduct_171 (lv_at hl 2 rfl) ?_
  refine lv_iconst (v := 2) hx hb dX6_becomeProduct_173 (by decide) ?_
  refine lv_idiv hx hb dX6_becomeProduct_174 (by decide) ?_
  refine va_put (D := D) (ci := 6) (v := .int ((((((σ k1 0) * (σ k2 1)) + ((σ k1 1) * (σ k2 0))) + ((σ k1 2) * (σ k2 3))) - ((σ k1 3) * (σ k2 2))) / 2)) (ty := .int) (C := RX6) (T := TX6) (N := 4) hx hb hts iwX6 tyX6 tyX6_ok nmX6 hown hK hP (xD hi) hS k0 (xg_0 hk0) rfl 1 (by decide) (hts _ mw_43) (fun _ h9 => h9) rfl (by decide +kernel) rfl rfl (Nat.le_of_ble_eq_true rfl) dX6_becomeProduct_175 (fun H locs hP hD hS => ?_)
  have hP : va_P D vwCl (xW G (ms (ms σ k0 0 ((((((σ k1 0) * (σ k2 0)) - ((σ k1 1) * (σ k2 1))) - ((σ k1 2) * (σ k2 2))) - ((σ k1 3) * (σ k2 3))) / 2)) k0 1 ((((((σ k1 0) * (σ k2 1)) + ((σ k1 1) * (σ k2 0))) + ((σ k1 2) * (σ k2 3))) - ((σ k1 3) * (σ k2 2))) / 2))) H := by rw [← xs_0_1 hk0]; exact hP
  refine lv_aload_n hx hb dX6_becomeProduct_178 rfl (lv_at hl 4 rfl) ?_
  refine lv_iload hx hb dX6_becomeProduct_179 (lv_at hl 1 rfl) ?_
  refine lv_iconst (v := 2) hx hb dX6_becomeProduct_181 (by decide) ?_
  refine lv_idiv hx hb dX6_becomeProduct_182 (by decide) ?_
  refine va_put (D := D) (ci := 6) (v := .int ((((((σ k1 0) * (σ k2 2)) - ((σ k1 1) * (σ k2 3))) + ((σ k1 2) * (σ k2 0))) + ((σ k1 3) * (σ k2 1))) / 2)) (ty := .int) (C := RX6) (T := TX6) (N := 4) hx hb hts iwX6 tyX6 tyX6_ok nmX6 hown hK hP (xD hi) hS k0 (xg_0 hk0) rfl 2 (by decide) (hts _ mw_46) (fun _ h9 => h9) rfl (by decide +kernel) rfl rfl (Nat.le_of_ble_eq_true rfl) dX6_becomeProduct_183 (fun H locs hP hD hS => ?_)
  have hP : va_P D vwCl (xW G (ms (ms (ms σ k0 0 ((((((σ k1 0) * (σ k2 0)) - ((σ k1 1) * (σ k2 1))) - ((σ k1 2) * (σ k2 2))) - ((σ k1 3) * (σ k2 3))) / 2)) k0 1 ((((((σ k1 0) * (σ k2 1)) + ((σ k1 1) * (σ k2 0))) + ((σ k1 2) * (σ k2 3))) - ((σ k1 3) * (σ k2 2))) / 2)) k0 2 ((((((σ k1 0) * (σ k2 2)) - ((σ k1 1) * (σ k2 3))) + ((σ k1 2) * (σ k2 0))) + ((σ k1 3) * (σ k2 1))) / 2))) H := by rw [← xs_0_2 hk0]; exact hP
  refine lv_aload_n hx hb dX6_becomeProduct_186 rfl (lv_at hl 4 rfl) ?_
  refine lv_iload hx hb dX6_becomeProduct_187 (lv_at hl 0 rfl) ?_
  refine lv_iconst (v := 2) hx hb dX6_becomeProduct_189 (by decide) ?_
  refine lv_idiv hx hb dX6_becomeProduct_190 (by decide) ?_
  refine va_put (D := D) (ci := 6) (v := .int ((((((σ k1 0) * (σ k2 3)) + ((σ k1 1) * (σ k2 2))) - ((σ k1 2) * (σ k2 1))) + ((σ k1 3) * (σ k2 0))) / 2)) (ty := .int) (C := RX6) (T := TX6) (N := 4) hx hb hts iwX6 tyX6 tyX6_ok nmX6 hown hK hP (xD hi) hS k0 (xg_0 hk0) rfl 3 (by decide) (hts _ mw_49) (fun _ h9 => h9) rfl (by decide +kernel) rfl rfl (Nat.le_of_ble_eq_true rfl) dX6_becomeProduct_191 (fun H locs hP hD hS => ?_)
  have hP : va_P D vwCl (xW G (ms (ms (ms (ms σ k0 0 ((((((σ k1 0) * (σ k2 0)) - ((σ k1 1) * (σ k2 1))) - ((σ k1 2) * (σ k2 2))) - ((σ k1 3) * (σ k2 3))) / 2)) k0 1 ((((((σ k1 0) * (σ k2 1)) + ((σ k1 1) * (σ k2 0))) + ((σ k1 2) * (σ k2 3))) - ((σ k1 3) * (σ k2 2))) / 2)) k0 2 ((((((σ k1 0) * (σ k2 2)) - ((σ k1 1) * (σ k2 3))) + ((σ k1 2) * (σ k2 0))) + ((σ k1 3) * (σ k2 1))) / 2)) k0 3 ((((((σ k1 0) * (σ k2 3)) + ((σ k1 1) * (σ k2 2))) - ((σ k1 2) * (σ k2 1))) + ((σ k1 3) * (σ k2 0))) / 2))) H := by rw [← xs_0_3 hk0]; exact hP
  obtain rfl := Option.some.inj h
  exact W.vret hx hb hr (fun t ht hW => ⟨⟨_, rfl, rfl, xPre_at h0 hS hP ht hW⟩, hS.F ht⟩) hS.2.2 dX6_becomeProduct_194
def fX6_becomeMade (k0 : Nat) (k1 : Nat) (k2 : Nat) (p3 : Int32) (σ : QMem) : Option (QMem) :=
  if p3 = 0 then ((fX6_becomeProduct k0 k1 k2 σ).bind fun xq4 => (some xq4)) else ((fX6_becomeProduct k0 k2 k1 σ).bind fun xq2 => (some xq2))
set_option maxHeartbeats 4000000 in
set_option maxRecDepth 100000 in
theorem kX6_becomeMade (l : Launch) (D : va_G) (G : xG) (ub : xB) (σ : QMem) (k0 : Nat) (hk0 : xk k0 = 0) (k1 : Nat) (hk1 : xk k1 = 0) (k2 : Nat) (hk2 : xk k2 = 0) (p3 : Int32) (res : QMem) (h : fX6_becomeMade k0 k1 k2 p3 σ = some res) : Met l yX6_becomeMade (.code yX6_becomeMade cX6_becomeMade 4 none :: lwW) (rmD 1) (xPc D G ub σ [.ref (G.1 k0), .ref (G.1 k1), .ref (G.1 k2), .int p3]) (xQv D G ub res) 0 0 (xA G) := by
  refine Met.ofW (cc := cX6_becomeMade) (maxL := 4) (ret := none) (by decide) rfl ?_
  intro p e s m args below meth c s₁ B hml hv
  obtain ⟨rfl, h0⟩ := hv
  have hx := B.exec
  have hb := B.bytes
  have hr := B.returns
  have hts := fun (w : Cond) (hw : w ∈ lwW) => atoms_spec (ws := (.code yX6_becomeMade cX6_becomeMade 4 none :: lwW)) B.pre w (List.mem_cons_of_mem _ hw)
  have hown : s.vm.findClass RX6 = some m.cls := findClass_of_methodNamed B.named
  have hlocks := B.notSynchronized
  have hP := h0.1
  have hK := h0.2.1
  have hi := h0.2.2.1
  have hZ := h0.2.2.2
  have hN := h0.2.2.2.2.2.2.2.1
  have hV := h0.2.2.2.2.2.2.2.2.1
  have hS : va_S (xA G) s.heap s.heap [] := va_S.rf
  have hl := lv_entry ([.ref (G.1 k0), .ref (G.1 k1), .ref (G.1 k2), .int p3]) (n := 4) (Nat.le_of_ble_eq_true rfl)
  rw [lg_entry_eq]
  generalize (lg_sl ([.ref (G.1 k0), .ref (G.1 k1), .ref (G.1 k2), .int p3]) ++ List.replicate (4 - (lg_sl ([.ref (G.1 k0), .ref (G.1 k1), .ref (G.1 k2), .int p3])).length) Slot.unset).toArray = ls at hl ⊢
  have hl : lv_has ls 4 [(0, .ref (G.1 k0)), (1, .ref (G.1 k1)), (2, .ref (G.1 k2)), (3, .int p3)] := hl
  unfold fX6_becomeMade at h
  refine lv_iload_n hx hb dX6_becomeMade_0 rfl (lv_at hl 3 rfl) ?_
  refine lv_if_ne (tgt := 13) hx hb dX6_becomeMade_1 (by decide) (fun hcq1 => ?_) (fun hcq1 => ?_)
  · have h := ifn hcq1 h
    refine lv_aload_n hx hb dX6_becomeMade_13 rfl (lv_at hl 0 rfl) ?_
    refine lv_aload_n hx hb dX6_becomeMade_14 rfl (lv_at hl 2 rfl) ?_
    refine lv_aload_n hx hb dX6_becomeMade_15 rfl (lv_at hl 1 rfl) ?_
    obtain ⟨xq2, hfq3, h⟩ := obd h
    refine va_callv (va_runV (As := [.ref (G.1 k2), .ref (G.1 k1)]) (rest := []) ⟨hx, hb, hml, hown, hts⟩ (kX6_becomeProduct l D G ub _ k0 hk0 k2 hk2 k1 hk1 xq2 hfq3) (cwV 2 hts (lwW_gV mw_582 mw_583 mw_584 mw_3 mw_585) rfl rfl rfl (by decide +kernel) ⟨Nat.le_of_ble_eq_true rfl, Nat.le_of_ble_eq_true rfl⟩) ⟨fun a U g mk q => ⟨q.1, xPre_call q.2⟩, va_recv hK hP rfl (xg_0 hk0), fun U hU hW => ⟨rfl, xPre_at h0 hS hP hU hW⟩⟩ rfl rfl hl.1 rfl (lv_room (Nat.le_of_ble_eq_true rfl)) dX6_becomeMade_16 ⟨Nat.zero_le _, Nat.zero_le _⟩) hS (fun q _ h => h) (fun q h => h) (fun u t H1 locs ht hvm hw hB hz1 hq1 hS => ?_)
    obtain rfl := hw.symm
    have hP := hB.1
    rw [ht] at hP
    refine W.widen (k := 0) (n := 0) (Nat.le_refl _) (Nat.le_refl _) ?_
    obtain rfl := Option.some.inj h
    exact W.vret hx hb hr (fun t ht hW => ⟨⟨_, rfl, rfl, xPre_at h0 hS hP ht hW⟩, hS.F ht⟩) hS.2.2 dX6_becomeMade_19
  have h := ifp hcq1 h
  refine lv_aload_n hx hb dX6_becomeMade_4 rfl (lv_at hl 0 rfl) ?_
  refine lv_aload_n hx hb dX6_becomeMade_5 rfl (lv_at hl 1 rfl) ?_
  refine lv_aload_n hx hb dX6_becomeMade_6 rfl (lv_at hl 2 rfl) ?_
  obtain ⟨xq4, hfq5, h⟩ := obd h
  refine va_callv (va_runV (As := [.ref (G.1 k1), .ref (G.1 k2)]) (rest := []) ⟨hx, hb, hml, hown, hts⟩ (kX6_becomeProduct l D G ub _ k0 hk0 k1 hk1 k2 hk2 xq4 hfq5) (cwV 2 hts (lwW_gV mw_582 mw_583 mw_584 mw_3 mw_585) rfl rfl rfl (by decide +kernel) ⟨Nat.le_of_ble_eq_true rfl, Nat.le_of_ble_eq_true rfl⟩) ⟨fun a U g mk q => ⟨q.1, xPre_call q.2⟩, va_recv hK hP rfl (xg_0 hk0), fun U hU hW => ⟨rfl, xPre_at h0 hS hP hU hW⟩⟩ rfl rfl hl.1 rfl (lv_room (Nat.le_of_ble_eq_true rfl)) dX6_becomeMade_7 ⟨Nat.zero_le _, Nat.zero_le _⟩) hS (fun q _ h => h) (fun q h => h) (fun u t H1 locs ht hvm hw hB hz1 hq1 hS => ?_)
  obtain rfl := hw.symm
  have hP := hB.1
  rw [ht] at hP
  refine W.widen (k := 0) (n := 0) (Nat.le_refl _) (Nat.le_refl _) ?_
  refine lv_goto (tgt := 19) hx hb dX6_becomeMade_10 (by decide) ?_
  obtain rfl := Option.some.inj h
  exact W.vret hx hb hr (fun t ht hW => ⟨⟨_, rfl, rfl, xPre_at h0 hS hP ht hW⟩, hS.F ht⟩) hS.2.2 dX6_becomeMade_19
def fX6_isGreaterThan (k0 : Nat) (k1 : Nat) (σ : QMem) : Option (Int32 × QMem) :=
  if (σ k0 0) = (σ k1 0) then (if (σ k0 1) = (σ k1 1) then (if (σ k0 2) = (σ k1 2) then (if (σ k0 3) ≤ (σ k1 3) then (some (0, σ)) else (some (1, σ))) else (if (σ k0 2) ≤ (σ k1 2) then (some (0, σ)) else (some (1, σ)))) else (if (σ k0 1) ≤ (σ k1 1) then (some (0, σ)) else (some (1, σ)))) else (if (σ k0 0) ≤ (σ k1 0) then (some (0, σ)) else (some (1, σ)))
set_option maxHeartbeats 4000000 in
set_option maxRecDepth 100000 in
theorem kX6_isGreaterThan (l : Launch) (D : va_G) (G : xG) (ub : xB) (σ : QMem) (k0 : Nat) (hk0 : xk k0 = 0) (k1 : Nat) (hk1 : xk k1 = 0) (res : Int32 × QMem) (h : fX6_isGreaterThan k0 k1 σ = some res) : Met l yX6_isGreaterThan (.code yX6_isGreaterThan cX6_isGreaterThan 2 (some .boolean) :: lwW) (rmD 0) (xPc D G ub σ [.ref (G.1 k0), .ref (G.1 k1)]) (xQi D G ub res) 0 0 (xA G) := by
  refine Met.ofW (cc := cX6_isGreaterThan) (maxL := 2) (ret := (some .boolean)) (by decide) rfl ?_
  intro p e s m args below meth c s₁ B hml hv
  obtain ⟨rfl, h0⟩ := hv
  have hx := B.exec
  have hb := B.bytes
  have hr := B.returns
  have hts := fun (w : Cond) (hw : w ∈ lwW) => atoms_spec (ws := (.code yX6_isGreaterThan cX6_isGreaterThan 2 (some .boolean) :: lwW)) B.pre w (List.mem_cons_of_mem _ hw)
  have hown : s.vm.findClass RX6 = some m.cls := findClass_of_methodNamed B.named
  have hlocks := B.notSynchronized
  have hP := h0.1
  have hK := h0.2.1
  have hi := h0.2.2.1
  have hZ := h0.2.2.2
  have hN := h0.2.2.2.2.2.2.2.1
  have hV := h0.2.2.2.2.2.2.2.2.1
  have hS : va_S (xA G) s.heap s.heap [] := va_S.rf
  have hl := lv_entry ([.ref (G.1 k0), .ref (G.1 k1)]) (n := 2) (Nat.le_of_ble_eq_true rfl)
  rw [lg_entry_eq]
  generalize (lg_sl ([.ref (G.1 k0), .ref (G.1 k1)]) ++ List.replicate (2 - (lg_sl ([.ref (G.1 k0), .ref (G.1 k1)])).length) Slot.unset).toArray = ls at hl ⊢
  have hl : lv_has ls 2 [(0, .ref (G.1 k0)), (1, .ref (G.1 k1))] := hl
  unfold fX6_isGreaterThan at h
  refine lv_aload_n hx hb dX6_isGreaterThan_0 rfl (lv_at hl 0 rfl) ?_
  refine va_get (D := D) (ci := 6) (v := .int (σ k0 0)) (C := RX6) (T := TX6) (N := 4) hx hb hts iwX6 hown hK hP k0 (xg_0 hk0) rfl 0 (by decide) (hts _ mw_40) (fun _ h9 => h9) rfl dX6_isGreaterThan_1 ?_
  refine lv_aload_n hx hb dX6_isGreaterThan_4 rfl (lv_at hl 1 rfl) ?_
  refine va_get (D := D) (ci := 6) (v := .int (σ k1 0)) (C := RX6) (T := TX6) (N := 4) hx hb hts iwX6 hown hK hP k1 (xg_0 hk1) rfl 0 (by decide) (hts _ mw_40) (fun _ h9 => h9) rfl dX6_isGreaterThan_5 ?_
  refine lv_icmp_eq (tgt := 28) hx hb dX6_isGreaterThan_8 (by decide) (fun hcq1 => ?_) (fun hcq1 => ?_)
  · have h := ifp hcq1 h
    refine lv_aload_n hx hb dX6_isGreaterThan_28 rfl (lv_at hl 0 rfl) ?_
    refine va_get (D := D) (ci := 6) (v := .int (σ k0 1)) (C := RX6) (T := TX6) (N := 4) hx hb hts iwX6 hown hK hP k0 (xg_0 hk0) rfl 1 (by decide) (hts _ mw_43) (fun _ h9 => h9) rfl dX6_isGreaterThan_29 ?_
    refine lv_aload_n hx hb dX6_isGreaterThan_32 rfl (lv_at hl 1 rfl) ?_
    refine va_get (D := D) (ci := 6) (v := .int (σ k1 1)) (C := RX6) (T := TX6) (N := 4) hx hb hts iwX6 hown hK hP k1 (xg_0 hk1) rfl 1 (by decide) (hts _ mw_43) (fun _ h9 => h9) rfl dX6_isGreaterThan_33 ?_
    refine lv_icmp_eq (tgt := 56) hx hb dX6_isGreaterThan_36 (by decide) (fun hcq2 => ?_) (fun hcq2 => ?_)
    · have h := ifp hcq2 h
      refine lv_aload_n hx hb dX6_isGreaterThan_56 rfl (lv_at hl 0 rfl) ?_
      refine va_get (D := D) (ci := 6) (v := .int (σ k0 2)) (C := RX6) (T := TX6) (N := 4) hx hb hts iwX6 hown hK hP k0 (xg_0 hk0) rfl 2 (by decide) (hts _ mw_46) (fun _ h9 => h9) rfl dX6_isGreaterThan_57 ?_
      refine lv_aload_n hx hb dX6_isGreaterThan_60 rfl (lv_at hl 1 rfl) ?_
      refine va_get (D := D) (ci := 6) (v := .int (σ k1 2)) (C := RX6) (T := TX6) (N := 4) hx hb hts iwX6 hown hK hP k1 (xg_0 hk1) rfl 2 (by decide) (hts _ mw_46) (fun _ h9 => h9) rfl dX6_isGreaterThan_61 ?_
      refine lv_icmp_eq (tgt := 86) hx hb dX6_isGreaterThan_64 (by decide) (fun hcq3 => ?_) (fun hcq3 => ?_)
      · have h := ifp hcq3 h
        refine lv_aload_n hx hb dX6_isGreaterThan_86 rfl (lv_at hl 0 rfl) ?_
        refine va_get (D := D) (ci := 6) (v := .int (σ k0 3)) (C := RX6) (T := TX6) (N := 4) hx hb hts iwX6 hown hK hP k0 (xg_0 hk0) rfl 3 (by decide) (hts _ mw_49) (fun _ h9 => h9) rfl dX6_isGreaterThan_87 ?_
        refine lv_aload_n hx hb dX6_isGreaterThan_90 rfl (lv_at hl 1 rfl) ?_
        refine va_get (D := D) (ci := 6) (v := .int (σ k1 3)) (C := RX6) (T := TX6) (N := 4) hx hb hts iwX6 hown hK hP k1 (xg_0 hk1) rfl 3 (by decide) (hts _ mw_49) (fun _ h9 => h9) rfl dX6_isGreaterThan_91 ?_
        refine lv_icmp_le (tgt := 101) hx hb dX6_isGreaterThan_94 (by decide) (fun hcq4 => ?_) (fun hcq4 => ?_)
        · have h := ifp hcq4 h
          refine lv_iconst (v := 0) hx hb dX6_isGreaterThan_101 (by decide) ?_
          obtain rfl := Option.some.inj h
          exact W.zret hx hb hr rfl (fun t ht hW => ⟨⟨_, _, rfl, ⟨rfl, rfl⟩, xPre_at h0 hS hP ht hW⟩, hS.F ht⟩) hS.2.2 dX6_isGreaterThan_102
        have h := ifn hcq4 h
        refine lv_iconst (v := 1) hx hb dX6_isGreaterThan_97 (by decide) ?_
        refine lv_goto (tgt := 102) hx hb dX6_isGreaterThan_98 (by decide) ?_
        obtain rfl := Option.some.inj h
        exact W.zret hx hb hr rfl (fun t ht hW => ⟨⟨_, _, rfl, ⟨rfl, rfl⟩, xPre_at h0 hS hP ht hW⟩, hS.F ht⟩) hS.2.2 dX6_isGreaterThan_102
      have h := ifn hcq3 h
      refine lv_aload_n hx hb dX6_isGreaterThan_67 rfl (lv_at hl 0 rfl) ?_
      refine va_get (D := D) (ci := 6) (v := .int (σ k0 2)) (C := RX6) (T := TX6) (N := 4) hx hb hts iwX6 hown hK hP k0 (xg_0 hk0) rfl 2 (by decide) (hts _ mw_46) (fun _ h9 => h9) rfl dX6_isGreaterThan_68 ?_
      refine lv_aload_n hx hb dX6_isGreaterThan_71 rfl (lv_at hl 1 rfl) ?_
      refine va_get (D := D) (ci := 6) (v := .int (σ k1 2)) (C := RX6) (T := TX6) (N := 4) hx hb hts iwX6 hown hK hP k1 (xg_0 hk1) rfl 2 (by decide) (hts _ mw_46) (fun _ h9 => h9) rfl dX6_isGreaterThan_72 ?_
      refine lv_icmp_le (tgt := 82) hx hb dX6_isGreaterThan_75 (by decide) (fun hcq5 => ?_) (fun hcq5 => ?_)
      · have h := ifp hcq5 h
        refine lv_iconst (v := 0) hx hb dX6_isGreaterThan_82 (by decide) ?_
        refine lv_goto (tgt := 102) hx hb dX6_isGreaterThan_83 (by decide) ?_
        obtain rfl := Option.some.inj h
        exact W.zret hx hb hr rfl (fun t ht hW => ⟨⟨_, _, rfl, ⟨rfl, rfl⟩, xPre_at h0 hS hP ht hW⟩, hS.F ht⟩) hS.2.2 dX6_isGreaterThan_102
      have h := ifn hcq5 h
      refine lv_iconst (v := 1) hx hb dX6_isGreaterThan_78 (by decide) ?_
      refine lv_goto (tgt := 102) hx hb dX6_isGreaterThan_79 (by decide) ?_
      obtain rfl := Option.some.inj h
      exact W.zret hx hb hr rfl (fun t ht hW => ⟨⟨_, _, rfl, ⟨rfl, rfl⟩, xPre_at h0 hS hP ht hW⟩, hS.F ht⟩) hS.2.2 dX6_isGreaterThan_102
    have h := ifn hcq2 h
    refine lv_aload_n hx hb dX6_isGreaterThan_39 rfl (lv_at hl 0 rfl) ?_
    refine va_get (D := D) (ci := 6) (v := .int (σ k0 1)) (C := RX6) (T := TX6) (N := 4) hx hb hts iwX6 hown hK hP k0 (xg_0 hk0) rfl 1 (by decide) (hts _ mw_43) (fun _ h9 => h9) rfl dX6_isGreaterThan_40 ?_
    refine lv_aload_n hx hb dX6_isGreaterThan_43 rfl (lv_at hl 1 rfl) ?_
    refine va_get (D := D) (ci := 6) (v := .int (σ k1 1)) (C := RX6) (T := TX6) (N := 4) hx hb hts iwX6 hown hK hP k1 (xg_0 hk1) rfl 1 (by decide) (hts _ mw_43) (fun _ h9 => h9) rfl dX6_isGreaterThan_44 ?_
    refine lv_icmp_le (tgt := 54) hx hb dX6_isGreaterThan_47 (by decide) (fun hcq6 => ?_) (fun hcq6 => ?_)
    · have h := ifp hcq6 h
      refine lv_iconst (v := 0) hx hb dX6_isGreaterThan_54 (by decide) ?_
      obtain rfl := Option.some.inj h
      exact W.zret hx hb hr rfl (fun t ht hW => ⟨⟨_, _, rfl, ⟨rfl, rfl⟩, xPre_at h0 hS hP ht hW⟩, hS.F ht⟩) hS.2.2 dX6_isGreaterThan_55
    have h := ifn hcq6 h
    refine lv_iconst (v := 1) hx hb dX6_isGreaterThan_50 (by decide) ?_
    refine lv_goto (tgt := 55) hx hb dX6_isGreaterThan_51 (by decide) ?_
    obtain rfl := Option.some.inj h
    exact W.zret hx hb hr rfl (fun t ht hW => ⟨⟨_, _, rfl, ⟨rfl, rfl⟩, xPre_at h0 hS hP ht hW⟩, hS.F ht⟩) hS.2.2 dX6_isGreaterThan_55
  have h := ifn hcq1 h
  refine lv_aload_n hx hb dX6_isGreaterThan_11 rfl (lv_at hl 0 rfl) ?_
  refine va_get (D := D) (ci := 6) (v := .int (σ k0 0)) (C := RX6) (T := TX6) (N := 4) hx hb hts iwX6 hown hK hP k0 (xg_0 hk0) rfl 0 (by decide) (hts _ mw_40) (fun _ h9 => h9) rfl dX6_isGreaterThan_12 ?_
  refine lv_aload_n hx hb dX6_isGreaterThan_15 rfl (lv_at hl 1 rfl) ?_
  refine va_get (D := D) (ci := 6) (v := .int (σ k1 0)) (C := RX6) (T := TX6) (N := 4) hx hb hts iwX6 hown hK hP k1 (xg_0 hk1) rfl 0 (by decide) (hts _ mw_40) (fun _ h9 => h9) rfl dX6_isGreaterThan_16 ?_
  refine lv_icmp_le (tgt := 26) hx hb dX6_isGreaterThan_19 (by decide) (fun hcq7 => ?_) (fun hcq7 => ?_)
  · have h := ifp hcq7 h
    refine lv_iconst (v := 0) hx hb dX6_isGreaterThan_26 (by decide) ?_
    obtain rfl := Option.some.inj h
    exact W.zret hx hb hr rfl (fun t ht hW => ⟨⟨_, _, rfl, ⟨rfl, rfl⟩, xPre_at h0 hS hP ht hW⟩, hS.F ht⟩) hS.2.2 dX6_isGreaterThan_27
  have h := ifn hcq7 h
  refine lv_iconst (v := 1) hx hb dX6_isGreaterThan_22 (by decide) ?_
  refine lv_goto (tgt := 27) hx hb dX6_isGreaterThan_23 (by decide) ?_
  obtain rfl := Option.some.inj h
  exact W.zret hx hb hr rfl (fun t ht hW => ⟨⟨_, _, rfl, ⟨rfl, rfl⟩, xPre_at h0 hS hP ht hW⟩, hS.F ht⟩) hS.2.2 dX6_isGreaterThan_27
def fX6_copyFrom (k0 : Nat) (k1 : Nat) (σ : QMem) : Option (QMem) :=
  (fX6_put k0 (σ k1 0) (σ k1 1) (σ k1 2) (σ k1 3) σ).bind fun xq1 => (some xq1)
set_option maxHeartbeats 4000000 in
set_option maxRecDepth 100000 in
theorem kX6_copyFrom (l : Launch) (D : va_G) (G : xG) (ub : xB) (σ : QMem) (k0 : Nat) (hk0 : xk k0 = 0) (k1 : Nat) (hk1 : xk k1 = 0) (res : QMem) (h : fX6_copyFrom k0 k1 σ = some res) : Met l yX6_copyFrom (.code yX6_copyFrom cX6_copyFrom 2 none :: lwW) (rmD 1) (xPc D G ub σ [.ref (G.1 k0), .ref (G.1 k1)]) (xQv D G ub res) 0 0 (xA G) := by
  refine Met.ofW (cc := cX6_copyFrom) (maxL := 2) (ret := none) (by decide) rfl ?_
  intro p e s m args below meth c s₁ B hml hv
  obtain ⟨rfl, h0⟩ := hv
  have hx := B.exec
  have hb := B.bytes
  have hr := B.returns
  have hts := fun (w : Cond) (hw : w ∈ lwW) => atoms_spec (ws := (.code yX6_copyFrom cX6_copyFrom 2 none :: lwW)) B.pre w (List.mem_cons_of_mem _ hw)
  have hown : s.vm.findClass RX6 = some m.cls := findClass_of_methodNamed B.named
  have hlocks := B.notSynchronized
  have hP := h0.1
  have hK := h0.2.1
  have hi := h0.2.2.1
  have hZ := h0.2.2.2
  have hN := h0.2.2.2.2.2.2.2.1
  have hV := h0.2.2.2.2.2.2.2.2.1
  have hS : va_S (xA G) s.heap s.heap [] := va_S.rf
  have hl := lv_entry ([.ref (G.1 k0), .ref (G.1 k1)]) (n := 2) (Nat.le_of_ble_eq_true rfl)
  rw [lg_entry_eq]
  generalize (lg_sl ([.ref (G.1 k0), .ref (G.1 k1)]) ++ List.replicate (2 - (lg_sl ([.ref (G.1 k0), .ref (G.1 k1)])).length) Slot.unset).toArray = ls at hl ⊢
  have hl : lv_has ls 2 [(0, .ref (G.1 k0)), (1, .ref (G.1 k1))] := hl
  unfold fX6_copyFrom at h
  refine lv_aload_n hx hb dX6_copyFrom_0 rfl (lv_at hl 0 rfl) ?_
  refine lv_aload_n hx hb dX6_copyFrom_1 rfl (lv_at hl 1 rfl) ?_
  refine va_get (D := D) (ci := 6) (v := .int (σ k1 0)) (C := RX6) (T := TX6) (N := 4) hx hb hts iwX6 hown hK hP k1 (xg_0 hk1) rfl 0 (by decide) (hts _ mw_40) (fun _ h9 => h9) rfl dX6_copyFrom_2 ?_
  refine lv_aload_n hx hb dX6_copyFrom_5 rfl (lv_at hl 1 rfl) ?_
  refine va_get (D := D) (ci := 6) (v := .int (σ k1 1)) (C := RX6) (T := TX6) (N := 4) hx hb hts iwX6 hown hK hP k1 (xg_0 hk1) rfl 1 (by decide) (hts _ mw_43) (fun _ h9 => h9) rfl dX6_copyFrom_6 ?_
  refine lv_aload_n hx hb dX6_copyFrom_9 rfl (lv_at hl 1 rfl) ?_
  refine va_get (D := D) (ci := 6) (v := .int (σ k1 2)) (C := RX6) (T := TX6) (N := 4) hx hb hts iwX6 hown hK hP k1 (xg_0 hk1) rfl 2 (by decide) (hts _ mw_46) (fun _ h9 => h9) rfl dX6_copyFrom_10 ?_
  refine lv_aload_n hx hb dX6_copyFrom_13 rfl (lv_at hl 1 rfl) ?_
  refine va_get (D := D) (ci := 6) (v := .int (σ k1 3)) (C := RX6) (T := TX6) (N := 4) hx hb hts iwX6 hown hK hP k1 (xg_0 hk1) rfl 3 (by decide) (hts _ mw_49) (fun _ h9 => h9) rfl dX6_copyFrom_14 ?_
  obtain ⟨xq1, hfq2, h⟩ := obd h
  refine va_callv (va_runV (As := [.int (σ k1 0), .int (σ k1 1), .int (σ k1 2), .int (σ k1 3)]) (rest := []) ⟨hx, hb, hml, hown, hts⟩ (kX6_put l D G ub _ k0 hk0 (σ k1 0) (σ k1 1) (σ k1 2) (σ k1 3) xq1 hfq2) (cwV 4 hts (lwW_gV mw_479 mw_467 mw_468 mw_3 mw_469) rfl rfl rfl (by decide +kernel) ⟨Nat.le_of_ble_eq_true rfl, Nat.le_of_ble_eq_true rfl⟩) ⟨fun a U g mk q => ⟨q.1, xPre_call q.2⟩, va_recv hK hP rfl (xg_0 hk0), fun U hU hW => ⟨rfl, xPre_at h0 hS hP hU hW⟩⟩ rfl rfl hl.1 rfl (lv_room (Nat.le_of_ble_eq_true rfl)) dX6_copyFrom_17 ⟨Nat.zero_le _, Nat.zero_le _⟩) hS (fun q _ h => h) (fun q h => h) (fun u t H1 locs ht hvm hw hB hz1 hq1 hS => ?_)
  obtain rfl := hw.symm
  have hP := hB.1
  rw [ht] at hP
  refine W.widen (k := 0) (n := 0) (Nat.le_refl _) (Nat.le_refl _) ?_
  obtain rfl := Option.some.inj h
  exact W.vret hx hb hr (fun t ht hW => ⟨⟨_, rfl, rfl, xPre_at h0 hS hP ht hW⟩, hS.F ht⟩) hS.2.2 dX6_copyFrom_20
def fX6_becomeDifference (k0 : Nat) (k1 : Nat) (k2 : Nat) (σ : QMem) : Option (QMem) :=
  (fX6_put k0 ((σ k1 0) - (σ k2 0)) ((σ k1 1) - (σ k2 1)) ((σ k1 2) - (σ k2 2)) ((σ k1 3) - (σ k2 3)) σ).bind fun xq1 => (some xq1)
set_option maxHeartbeats 4000000 in
set_option maxRecDepth 100000 in
theorem kX6_becomeDifference (l : Launch) (D : va_G) (G : xG) (ub : xB) (σ : QMem) (k0 : Nat) (hk0 : xk k0 = 0) (k1 : Nat) (hk1 : xk k1 = 0) (k2 : Nat) (hk2 : xk k2 = 0) (res : QMem) (h : fX6_becomeDifference k0 k1 k2 σ = some res) : Met l yX6_becomeDifference (.code yX6_becomeDifference cX6_becomeDifference 3 none :: lwW) (rmD 1) (xPc D G ub σ [.ref (G.1 k0), .ref (G.1 k1), .ref (G.1 k2)]) (xQv D G ub res) 0 0 (xA G) := by
  refine Met.ofW (cc := cX6_becomeDifference) (maxL := 3) (ret := none) (by decide) rfl ?_
  intro p e s m args below meth c s₁ B hml hv
  obtain ⟨rfl, h0⟩ := hv
  have hx := B.exec
  have hb := B.bytes
  have hr := B.returns
  have hts := fun (w : Cond) (hw : w ∈ lwW) => atoms_spec (ws := (.code yX6_becomeDifference cX6_becomeDifference 3 none :: lwW)) B.pre w (List.mem_cons_of_mem _ hw)
  have hown : s.vm.findClass RX6 = some m.cls := findClass_of_methodNamed B.named
  have hlocks := B.notSynchronized
  have hP := h0.1
  have hK := h0.2.1
  have hi := h0.2.2.1
  have hZ := h0.2.2.2
  have hN := h0.2.2.2.2.2.2.2.1
  have hV := h0.2.2.2.2.2.2.2.2.1
  have hS : va_S (xA G) s.heap s.heap [] := va_S.rf
  have hl := lv_entry ([.ref (G.1 k0), .ref (G.1 k1), .ref (G.1 k2)]) (n := 3) (Nat.le_of_ble_eq_true rfl)
  rw [lg_entry_eq]
  generalize (lg_sl ([.ref (G.1 k0), .ref (G.1 k1), .ref (G.1 k2)]) ++ List.replicate (3 - (lg_sl ([.ref (G.1 k0), .ref (G.1 k1), .ref (G.1 k2)])).length) Slot.unset).toArray = ls at hl ⊢
  have hl : lv_has ls 3 [(0, .ref (G.1 k0)), (1, .ref (G.1 k1)), (2, .ref (G.1 k2))] := hl
  unfold fX6_becomeDifference at h
  refine lv_aload_n hx hb dX6_becomeDifference_0 rfl (lv_at hl 0 rfl) ?_
  refine lv_aload_n hx hb dX6_becomeDifference_1 rfl (lv_at hl 1 rfl) ?_
  refine va_get (D := D) (ci := 6) (v := .int (σ k1 0)) (C := RX6) (T := TX6) (N := 4) hx hb hts iwX6 hown hK hP k1 (xg_0 hk1) rfl 0 (by decide) (hts _ mw_40) (fun _ h9 => h9) rfl dX6_becomeDifference_2 ?_
  refine lv_aload_n hx hb dX6_becomeDifference_5 rfl (lv_at hl 2 rfl) ?_
  refine va_get (D := D) (ci := 6) (v := .int (σ k2 0)) (C := RX6) (T := TX6) (N := 4) hx hb hts iwX6 hown hK hP k2 (xg_0 hk2) rfl 0 (by decide) (hts _ mw_40) (fun _ h9 => h9) rfl dX6_becomeDifference_6 ?_
  refine lv_isub hx hb dX6_becomeDifference_9 ?_
  refine lv_aload_n hx hb dX6_becomeDifference_10 rfl (lv_at hl 1 rfl) ?_
  refine va_get (D := D) (ci := 6) (v := .int (σ k1 1)) (C := RX6) (T := TX6) (N := 4) hx hb hts iwX6 hown hK hP k1 (xg_0 hk1) rfl 1 (by decide) (hts _ mw_43) (fun _ h9 => h9) rfl dX6_becomeDifference_11 ?_
  refine lv_aload_n hx hb dX6_becomeDifference_14 rfl (lv_at hl 2 rfl) ?_
  refine va_get (D := D) (ci := 6) (v := .int (σ k2 1)) (C := RX6) (T := TX6) (N := 4) hx hb hts iwX6 hown hK hP k2 (xg_0 hk2) rfl 1 (by decide) (hts _ mw_43) (fun _ h9 => h9) rfl dX6_becomeDifference_15 ?_
  refine lv_isub hx hb dX6_becomeDifference_18 ?_
  refine lv_aload_n hx hb dX6_becomeDifference_19 rfl (lv_at hl 1 rfl) ?_
  refine va_get (D := D) (ci := 6) (v := .int (σ k1 2)) (C := RX6) (T := TX6) (N := 4) hx hb hts iwX6 hown hK hP k1 (xg_0 hk1) rfl 2 (by decide) (hts _ mw_46) (fun _ h9 => h9) rfl dX6_becomeDifference_20 ?_
  refine lv_aload_n hx hb dX6_becomeDifference_23 rfl (lv_at hl 2 rfl) ?_
  refine va_get (D := D) (ci := 6) (v := .int (σ k2 2)) (C := RX6) (T := TX6) (N := 4) hx hb hts iwX6 hown hK hP k2 (xg_0 hk2) rfl 2 (by decide) (hts _ mw_46) (fun _ h9 => h9) rfl dX6_becomeDifference_24 ?_
  refine lv_isub hx hb dX6_becomeDifference_27 ?_
  refine lv_aload_n hx hb dX6_becomeDifference_28 rfl (lv_at hl 1 rfl) ?_
  refine va_get (D := D) (ci := 6) (v := .int (σ k1 3)) (C := RX6) (T := TX6) (N := 4) hx hb hts iwX6 hown hK hP k1 (xg_0 hk1) rfl 3 (by decide) (hts _ mw_49) (fun _ h9 => h9) rfl dX6_becomeDifference_29 ?_
  refine lv_aload_n hx hb dX6_becomeDifference_32 rfl (lv_at hl 2 rfl) ?_
  refine va_get (D := D) (ci := 6) (v := .int (σ k2 3)) (C := RX6) (T := TX6) (N := 4) hx hb hts iwX6 hown hK hP k2 (xg_0 hk2) rfl 3 (by decide) (hts _ mw_49) (fun _ h9 => h9) rfl dX6_becomeDifference_33 ?_
  refine lv_isub hx hb dX6_becomeDifference_36 ?_
  obtain ⟨xq1, hfq2, h⟩ := obd h
  refine va_callv (va_runV (As := [.int ((σ k1 0) - (σ k2 0)), .int ((σ k1 1) - (σ k2 1)), .int ((σ k1 2) - (σ k2 2)), .int ((σ k1 3) - (σ k2 3))]) (rest := []) ⟨hx, hb, hml, hown, hts⟩ (kX6_put l D G ub _ k0 hk0 ((σ k1 0) - (σ k2 0)) ((σ k1 1) - (σ k2 1)) ((σ k1 2) - (σ k2 2)) ((σ k1 3) - (σ k2 3)) xq1 hfq2) (cwV 4 hts (lwW_gV mw_479 mw_467 mw_468 mw_3 mw_469) rfl rfl rfl (by decide +kernel) ⟨Nat.le_of_ble_eq_true rfl, Nat.le_of_ble_eq_true rfl⟩) ⟨fun a U g mk q => ⟨q.1, xPre_call q.2⟩, va_recv hK hP rfl (xg_0 hk0), fun U hU hW => ⟨rfl, xPre_at h0 hS hP hU hW⟩⟩ rfl rfl hl.1 rfl (lv_room (Nat.le_of_ble_eq_true rfl)) dX6_becomeDifference_37 ⟨Nat.zero_le _, Nat.zero_le _⟩) hS (fun q _ h => h) (fun q h => h) (fun u t H1 locs ht hvm hw hB hz1 hq1 hS => ?_)
  obtain rfl := hw.symm
  have hP := hB.1
  rw [ht] at hP
  refine W.widen (k := 0) (n := 0) (Nat.le_refl _) (Nat.le_refl _) ?_
  obtain rfl := Option.some.inj h
  exact W.vret hx hb hr (fun t ht hW => ⟨⟨_, rfl, rfl, xPre_at h0 hS hP ht hW⟩, hS.F ht⟩) hS.2.2 dX6_becomeDifference_40
def fX6_isZero (k0 : Nat) (σ : QMem) : Option (Int32 × QMem) :=
  if (σ k0 0) = 0 then (if (σ k0 1) = 0 then (if (σ k0 2) = 0 then (if (σ k0 3) = 0 then (some (1, σ)) else (some (0, σ))) else (some (0, σ))) else (some (0, σ))) else (some (0, σ))
set_option maxHeartbeats 4000000 in
set_option maxRecDepth 100000 in
theorem kX6_isZero (l : Launch) (D : va_G) (G : xG) (ub : xB) (σ : QMem) (k0 : Nat) (hk0 : xk k0 = 0) (res : Int32 × QMem) (h : fX6_isZero k0 σ = some res) : Met l yX6_isZero (.code yX6_isZero cX6_isZero 1 (some .boolean) :: lwW) (rmD 0) (xPc D G ub σ [.ref (G.1 k0)]) (xQi D G ub res) 0 0 (xA G) := by
  refine Met.ofW (cc := cX6_isZero) (maxL := 1) (ret := (some .boolean)) (by decide) rfl ?_
  intro p e s m args below meth c s₁ B hml hv
  obtain ⟨rfl, h0⟩ := hv
  have hx := B.exec
  have hb := B.bytes
  have hr := B.returns
  have hts := fun (w : Cond) (hw : w ∈ lwW) => atoms_spec (ws := (.code yX6_isZero cX6_isZero 1 (some .boolean) :: lwW)) B.pre w (List.mem_cons_of_mem _ hw)
  have hown : s.vm.findClass RX6 = some m.cls := findClass_of_methodNamed B.named
  have hlocks := B.notSynchronized
  have hP := h0.1
  have hK := h0.2.1
  have hi := h0.2.2.1
  have hZ := h0.2.2.2
  have hN := h0.2.2.2.2.2.2.2.1
  have hV := h0.2.2.2.2.2.2.2.2.1
  have hS : va_S (xA G) s.heap s.heap [] := va_S.rf
  have hl := lv_entry ([.ref (G.1 k0)]) (n := 1) (Nat.le_of_ble_eq_true rfl)
  rw [lg_entry_eq]
  generalize (lg_sl ([.ref (G.1 k0)]) ++ List.replicate (1 - (lg_sl ([.ref (G.1 k0)])).length) Slot.unset).toArray = ls at hl ⊢
  have hl : lv_has ls 1 [(0, .ref (G.1 k0))] := hl
  unfold fX6_isZero at h
  refine lv_aload_n hx hb dX6_isZero_0 rfl (lv_at hl 0 rfl) ?_
  refine va_get (D := D) (ci := 6) (v := .int (σ k0 0)) (C := RX6) (T := TX6) (N := 4) hx hb hts iwX6 hown hK hP k0 (xg_0 hk0) rfl 0 (by decide) (hts _ mw_40) (fun _ h9 => h9) rfl dX6_isZero_1 ?_
  refine lv_if_ne (tgt := 32) hx hb dX6_isZero_4 (by decide) (fun hcq1 => ?_) (fun hcq1 => ?_)
  · have h := ifn hcq1 h
    refine lv_iconst (v := 0) hx hb dX6_isZero_32 (by decide) ?_
    obtain rfl := Option.some.inj h
    exact W.zret hx hb hr rfl (fun t ht hW => ⟨⟨_, _, rfl, ⟨rfl, rfl⟩, xPre_at h0 hS hP ht hW⟩, hS.F ht⟩) hS.2.2 dX6_isZero_33
  have h := ifp hcq1 h
  refine lv_aload_n hx hb dX6_isZero_7 rfl (lv_at hl 0 rfl) ?_
  refine va_get (D := D) (ci := 6) (v := .int (σ k0 1)) (C := RX6) (T := TX6) (N := 4) hx hb hts iwX6 hown hK hP k0 (xg_0 hk0) rfl 1 (by decide) (hts _ mw_43) (fun _ h9 => h9) rfl dX6_isZero_8 ?_
  refine lv_if_ne (tgt := 32) hx hb dX6_isZero_11 (by decide) (fun hcq2 => ?_) (fun hcq2 => ?_)
  · have h := ifn hcq2 h
    refine lv_iconst (v := 0) hx hb dX6_isZero_32 (by decide) ?_
    obtain rfl := Option.some.inj h
    exact W.zret hx hb hr rfl (fun t ht hW => ⟨⟨_, _, rfl, ⟨rfl, rfl⟩, xPre_at h0 hS hP ht hW⟩, hS.F ht⟩) hS.2.2 dX6_isZero_33
  have h := ifp hcq2 h
  refine lv_aload_n hx hb dX6_isZero_14 rfl (lv_at hl 0 rfl) ?_
  refine va_get (D := D) (ci := 6) (v := .int (σ k0 2)) (C := RX6) (T := TX6) (N := 4) hx hb hts iwX6 hown hK hP k0 (xg_0 hk0) rfl 2 (by decide) (hts _ mw_46) (fun _ h9 => h9) rfl dX6_isZero_15 ?_
  refine lv_if_ne (tgt := 32) hx hb dX6_isZero_18 (by decide) (fun hcq3 => ?_) (fun hcq3 => ?_)
  · have h := ifn hcq3 h
    refine lv_iconst (v := 0) hx hb dX6_isZero_32 (by decide) ?_
    obtain rfl := Option.some.inj h
    exact W.zret hx hb hr rfl (fun t ht hW => ⟨⟨_, _, rfl, ⟨rfl, rfl⟩, xPre_at h0 hS hP ht hW⟩, hS.F ht⟩) hS.2.2 dX6_isZero_33
  have h := ifp hcq3 h
  refine lv_aload_n hx hb dX6_isZero_21 rfl (lv_at hl 0 rfl) ?_
  refine va_get (D := D) (ci := 6) (v := .int (σ k0 3)) (C := RX6) (T := TX6) (N := 4) hx hb hts iwX6 hown hK hP k0 (xg_0 hk0) rfl 3 (by decide) (hts _ mw_49) (fun _ h9 => h9) rfl dX6_isZero_22 ?_
  refine lv_if_ne (tgt := 32) hx hb dX6_isZero_25 (by decide) (fun hcq4 => ?_) (fun hcq4 => ?_)
  · have h := ifn hcq4 h
    refine lv_iconst (v := 0) hx hb dX6_isZero_32 (by decide) ?_
    obtain rfl := Option.some.inj h
    exact W.zret hx hb hr rfl (fun t ht hW => ⟨⟨_, _, rfl, ⟨rfl, rfl⟩, xPre_at h0 hS hP ht hW⟩, hS.F ht⟩) hS.2.2 dX6_isZero_33
  have h := ifp hcq4 h
  refine lv_iconst (v := 1) hx hb dX6_isZero_28 (by decide) ?_
  refine lv_goto (tgt := 33) hx hb dX6_isZero_29 (by decide) ?_
  obtain rfl := Option.some.inj h
  exact W.zret hx hb hr rfl (fun t ht hW => ⟨⟨_, _, rfl, ⟨rfl, rfl⟩, xPre_at h0 hS hP ht hW⟩, hS.F ht⟩) hS.2.2 dX6_isZero_33
def fX6_isTimes (k0 : Nat) (p1 : Int32) (σ : QMem) : Option (Int32 × QMem) :=
  if p1 < 1 then (some (0, σ)) else (if p1 = 0 then none else (if ((σ k0 0) - (σ k0 0) / p1 * p1) = 0 then (if p1 = 0 then none else (if ((σ k0 1) - (σ k0 1) / p1 * p1) = 0 then (if p1 = 0 then none else (if ((σ k0 2) - (σ k0 2) / p1 * p1) = 0 then (if p1 = 0 then none else (if ((σ k0 3) - (σ k0 3) / p1 * p1) = 0 then (if p1 = 0 then none else (if p1 = 0 then none else (if ((((σ k0 0) / p1) ^^^ ((σ k0 1) / p1)) &&& 1) = 0 then (if p1 = 0 then none else (if ((((σ k0 0) / p1) ^^^ ((σ k0 2) / p1)) &&& 1) = 0 then (if p1 = 0 then none else (if ((((σ k0 0) / p1) ^^^ ((σ k0 3) / p1)) &&& 1) = 0 then (some (1, σ)) else (some (0, σ)))) else (some (0, σ)))) else (some (0, σ))))) else (some (0, σ)))) else (some (0, σ)))) else (some (0, σ)))) else (some (0, σ))))
set_option maxHeartbeats 4000000 in
set_option maxRecDepth 100000 in
theorem kX6_isTimes (l : Launch) (D : va_G) (G : xG) (ub : xB) (σ : QMem) (k0 : Nat) (hk0 : xk k0 = 0) (p1 : Int32) (res : Int32 × QMem) (h : fX6_isTimes k0 p1 σ = some res) : Met l yX6_isTimes (.code yX6_isTimes cX6_isTimes 3 (some .boolean) :: lwW) (rmD 0) (xPc D G ub σ [.ref (G.1 k0), .int p1]) (xQi D G ub res) 0 0 (xA G) := by
  refine Met.ofW (cc := cX6_isTimes) (maxL := 3) (ret := (some .boolean)) (by decide) rfl ?_
  intro p e s m args below meth c s₁ B hml hv
  obtain ⟨rfl, h0⟩ := hv
  have hx := B.exec
  have hb := B.bytes
  have hr := B.returns
  have hts := fun (w : Cond) (hw : w ∈ lwW) => atoms_spec (ws := (.code yX6_isTimes cX6_isTimes 3 (some .boolean) :: lwW)) B.pre w (List.mem_cons_of_mem _ hw)
  have hown : s.vm.findClass RX6 = some m.cls := findClass_of_methodNamed B.named
  have hlocks := B.notSynchronized
  have hP := h0.1
  have hK := h0.2.1
  have hi := h0.2.2.1
  have hZ := h0.2.2.2
  have hN := h0.2.2.2.2.2.2.2.1
  have hV := h0.2.2.2.2.2.2.2.2.1
  have hS : va_S (xA G) s.heap s.heap [] := va_S.rf
  have hl := lv_entry ([.ref (G.1 k0), .int p1]) (n := 3) (Nat.le_of_ble_eq_true rfl)
  rw [lg_entry_eq]
  generalize (lg_sl ([.ref (G.1 k0), .int p1]) ++ List.replicate (3 - (lg_sl ([.ref (G.1 k0), .int p1])).length) Slot.unset).toArray = ls at hl ⊢
  have hl : lv_has ls 3 [(0, .ref (G.1 k0)), (1, .int p1)] := hl
  unfold fX6_isTimes at h
  refine lv_iload_n hx hb dX6_isTimes_0 rfl (lv_at hl 1 rfl) ?_
  refine lv_iconst (v := 1) hx hb dX6_isTimes_1 (by decide) ?_
  refine lv_icmp_lt (tgt := 41) hx hb dX6_isTimes_2 (by decide) (fun hcq1 => ?_) (fun hcq1 => ?_)
  · have h := ifp hcq1 h
    refine lv_iconst (v := 0) hx hb dX6_isTimes_41 (by decide) ?_
    obtain rfl := Option.some.inj h
    exact W.zret hx hb hr rfl (fun t ht hW => ⟨⟨_, _, rfl, ⟨rfl, rfl⟩, xPre_at h0 hS hP ht hW⟩, hS.F ht⟩) hS.2.2 dX6_isTimes_42
  have h := ifn hcq1 h
  refine lv_aload_n hx hb dX6_isTimes_5 rfl (lv_at hl 0 rfl) ?_
  refine va_get (D := D) (ci := 6) (v := .int (σ k0 0)) (C := RX6) (T := TX6) (N := 4) hx hb hts iwX6 hown hK hP k0 (xg_0 hk0) rfl 0 (by decide) (hts _ mw_40) (fun _ h9 => h9) rfl dX6_isTimes_6 ?_
  refine lv_iload_n hx hb dX6_isTimes_9 rfl (lv_at hl 1 rfl) ?_
  obtain ⟨hdq2, h⟩ := nif h
  refine lv_irem hx hb dX6_isTimes_10 hdq2 ?_
  refine lv_if_ne (tgt := 41) hx hb dX6_isTimes_11 (by decide) (fun hcq3 => ?_) (fun hcq3 => ?_)
  · have h := ifn hcq3 h
    refine lv_iconst (v := 0) hx hb dX6_isTimes_41 (by decide) ?_
    obtain rfl := Option.some.inj h
    exact W.zret hx hb hr rfl (fun t ht hW => ⟨⟨_, _, rfl, ⟨rfl, rfl⟩, xPre_at h0 hS hP ht hW⟩, hS.F ht⟩) hS.2.2 dX6_isTimes_42
  have h := ifp hcq3 h
  refine lv_aload_n hx hb dX6_isTimes_14 rfl (lv_at hl 0 rfl) ?_
  refine va_get (D := D) (ci := 6) (v := .int (σ k0 1)) (C := RX6) (T := TX6) (N := 4) hx hb hts iwX6 hown hK hP k0 (xg_0 hk0) rfl 1 (by decide) (hts _ mw_43) (fun _ h9 => h9) rfl dX6_isTimes_15 ?_
  refine lv_iload_n hx hb dX6_isTimes_18 rfl (lv_at hl 1 rfl) ?_
  obtain ⟨hdq4, h⟩ := nif h
  refine lv_irem hx hb dX6_isTimes_19 hdq4 ?_
  refine lv_if_ne (tgt := 41) hx hb dX6_isTimes_20 (by decide) (fun hcq5 => ?_) (fun hcq5 => ?_)
  · have h := ifn hcq5 h
    refine lv_iconst (v := 0) hx hb dX6_isTimes_41 (by decide) ?_
    obtain rfl := Option.some.inj h
    exact W.zret hx hb hr rfl (fun t ht hW => ⟨⟨_, _, rfl, ⟨rfl, rfl⟩, xPre_at h0 hS hP ht hW⟩, hS.F ht⟩) hS.2.2 dX6_isTimes_42
  have h := ifp hcq5 h
  refine lv_aload_n hx hb dX6_isTimes_23 rfl (lv_at hl 0 rfl) ?_
  refine va_get (D := D) (ci := 6) (v := .int (σ k0 2)) (C := RX6) (T := TX6) (N := 4) hx hb hts iwX6 hown hK hP k0 (xg_0 hk0) rfl 2 (by decide) (hts _ mw_46) (fun _ h9 => h9) rfl dX6_isTimes_24 ?_
  refine lv_iload_n hx hb dX6_isTimes_27 rfl (lv_at hl 1 rfl) ?_
  obtain ⟨hdq6, h⟩ := nif h
  refine lv_irem hx hb dX6_isTimes_28 hdq6 ?_
  refine lv_if_ne (tgt := 41) hx hb dX6_isTimes_29 (by decide) (fun hcq7 => ?_) (fun hcq7 => ?_)
  · have h := ifn hcq7 h
    refine lv_iconst (v := 0) hx hb dX6_isTimes_41 (by decide) ?_
    obtain rfl := Option.some.inj h
    exact W.zret hx hb hr rfl (fun t ht hW => ⟨⟨_, _, rfl, ⟨rfl, rfl⟩, xPre_at h0 hS hP ht hW⟩, hS.F ht⟩) hS.2.2 dX6_isTimes_42
  have h := ifp hcq7 h
  refine lv_aload_n hx hb dX6_isTimes_32 rfl (lv_at hl 0 rfl) ?_
  refine va_get (D := D) (ci := 6) (v := .int (σ k0 3)) (C := RX6) (T := TX6) (N := 4) hx hb hts iwX6 hown hK hP k0 (xg_0 hk0) rfl 3 (by decide) (hts _ mw_49) (fun _ h9 => h9) rfl dX6_isTimes_33 ?_
  refine lv_iload_n hx hb dX6_isTimes_36 rfl (lv_at hl 1 rfl) ?_
  obtain ⟨hdq8, h⟩ := nif h
  refine lv_irem hx hb dX6_isTimes_37 hdq8 ?_
  refine lv_if_eq (tgt := 43) hx hb dX6_isTimes_38 (by decide) (fun hcq9 => ?_) (fun hcq9 => ?_)
  · have h := ifp hcq9 h
    refine lv_aload_n hx hb dX6_isTimes_43 rfl (lv_at hl 0 rfl) ?_
    refine va_get (D := D) (ci := 6) (v := .int (σ k0 0)) (C := RX6) (T := TX6) (N := 4) hx hb hts iwX6 hown hK hP k0 (xg_0 hk0) rfl 0 (by decide) (hts _ mw_40) (fun _ h9 => h9) rfl dX6_isTimes_44 ?_
    refine lv_iload_n hx hb dX6_isTimes_47 rfl (lv_at hl 1 rfl) ?_
    obtain ⟨hdq10, h⟩ := nif h
    refine lv_idiv hx hb dX6_isTimes_48 hdq10 ?_
    refine lv_istore_n (lv' := [(2, .int ((σ k0 0) / p1)), (0, .ref (G.1 k0)), (1, .int p1)]) hx hb dX6_isTimes_49 rfl hl (by decide) rfl (fun ls hl => ?_)
    refine lv_iload_n hx hb dX6_isTimes_50 rfl (lv_at hl 0 rfl) ?_
    refine lv_aload_n hx hb dX6_isTimes_51 rfl (lv_at hl 1 rfl) ?_
    refine va_get (D := D) (ci := 6) (v := .int (σ k0 1)) (C := RX6) (T := TX6) (N := 4) hx hb hts iwX6 hown hK hP k0 (xg_0 hk0) rfl 1 (by decide) (hts _ mw_43) (fun _ h9 => h9) rfl dX6_isTimes_52 ?_
    refine lv_iload_n hx hb dX6_isTimes_55 rfl (lv_at hl 2 rfl) ?_
    obtain ⟨hdq11, h⟩ := nif h
    refine lv_idiv hx hb dX6_isTimes_56 hdq11 ?_
    refine lv_ixor hx hb dX6_isTimes_57 ?_
    refine lv_iconst (v := 1) hx hb dX6_isTimes_58 (by decide) ?_
    refine lv_iand hx hb dX6_isTimes_59 ?_
    refine lv_if_ne (tgt := 93) hx hb dX6_isTimes_60 (by decide) (fun hcq12 => ?_) (fun hcq12 => ?_)
    · have h := ifn hcq12 h
      refine lv_iconst (v := 0) hx hb dX6_isTimes_93 (by decide) ?_
      obtain rfl := Option.some.inj h
      exact W.zret hx hb hr rfl (fun t ht hW => ⟨⟨_, _, rfl, ⟨rfl, rfl⟩, xPre_at h0 hS hP ht hW⟩, hS.F ht⟩) hS.2.2 dX6_isTimes_94
    have h := ifp hcq12 h
    refine lv_iload_n hx hb dX6_isTimes_63 rfl (lv_at hl 0 rfl) ?_
    refine lv_aload_n hx hb dX6_isTimes_64 rfl (lv_at hl 1 rfl) ?_
    refine va_get (D := D) (ci := 6) (v := .int (σ k0 2)) (C := RX6) (T := TX6) (N := 4) hx hb hts iwX6 hown hK hP k0 (xg_0 hk0) rfl 2 (by decide) (hts _ mw_46) (fun _ h9 => h9) rfl dX6_isTimes_65 ?_
    refine lv_iload_n hx hb dX6_isTimes_68 rfl (lv_at hl 2 rfl) ?_
    obtain ⟨hdq13, h⟩ := nif h
    refine lv_idiv hx hb dX6_isTimes_69 hdq13 ?_
    refine lv_ixor hx hb dX6_isTimes_70 ?_
    refine lv_iconst (v := 1) hx hb dX6_isTimes_71 (by decide) ?_
    refine lv_iand hx hb dX6_isTimes_72 ?_
    refine lv_if_ne (tgt := 93) hx hb dX6_isTimes_73 (by decide) (fun hcq14 => ?_) (fun hcq14 => ?_)
    · have h := ifn hcq14 h
      refine lv_iconst (v := 0) hx hb dX6_isTimes_93 (by decide) ?_
      obtain rfl := Option.some.inj h
      exact W.zret hx hb hr rfl (fun t ht hW => ⟨⟨_, _, rfl, ⟨rfl, rfl⟩, xPre_at h0 hS hP ht hW⟩, hS.F ht⟩) hS.2.2 dX6_isTimes_94
    have h := ifp hcq14 h
    refine lv_iload_n hx hb dX6_isTimes_76 rfl (lv_at hl 0 rfl) ?_
    refine lv_aload_n hx hb dX6_isTimes_77 rfl (lv_at hl 1 rfl) ?_
    refine va_get (D := D) (ci := 6) (v := .int (σ k0 3)) (C := RX6) (T := TX6) (N := 4) hx hb hts iwX6 hown hK hP k0 (xg_0 hk0) rfl 3 (by decide) (hts _ mw_49) (fun _ h9 => h9) rfl dX6_isTimes_78 ?_
    refine lv_iload_n hx hb dX6_isTimes_81 rfl (lv_at hl 2 rfl) ?_
    obtain ⟨hdq15, h⟩ := nif h
    refine lv_idiv hx hb dX6_isTimes_82 hdq15 ?_
    refine lv_ixor hx hb dX6_isTimes_83 ?_
    refine lv_iconst (v := 1) hx hb dX6_isTimes_84 (by decide) ?_
    refine lv_iand hx hb dX6_isTimes_85 ?_
    refine lv_if_ne (tgt := 93) hx hb dX6_isTimes_86 (by decide) (fun hcq16 => ?_) (fun hcq16 => ?_)
    · have h := ifn hcq16 h
      refine lv_iconst (v := 0) hx hb dX6_isTimes_93 (by decide) ?_
      obtain rfl := Option.some.inj h
      exact W.zret hx hb hr rfl (fun t ht hW => ⟨⟨_, _, rfl, ⟨rfl, rfl⟩, xPre_at h0 hS hP ht hW⟩, hS.F ht⟩) hS.2.2 dX6_isTimes_94
    have h := ifp hcq16 h
    refine lv_iconst (v := 1) hx hb dX6_isTimes_89 (by decide) ?_
    refine lv_goto (tgt := 94) hx hb dX6_isTimes_90 (by decide) ?_
    obtain rfl := Option.some.inj h
    exact W.zret hx hb hr rfl (fun t ht hW => ⟨⟨_, _, rfl, ⟨rfl, rfl⟩, xPre_at h0 hS hP ht hW⟩, hS.F ht⟩) hS.2.2 dX6_isTimes_94
  have h := ifn hcq9 h
  refine lv_iconst (v := 0) hx hb dX6_isTimes_41 (by decide) ?_
  obtain rfl := Option.some.inj h
  exact W.zret hx hb hr rfl (fun t ht hW => ⟨⟨_, _, rfl, ⟨rfl, rfl⟩, xPre_at h0 hS hP ht hW⟩, hS.F ht⟩) hS.2.2 dX6_isTimes_42
def fX11_isUnit (p0 : Int32) : Option (Int32) :=
  if p0 < 0 then (some 0) else (if 24 ≤ p0 then (some 0) else (some 1))
set_option maxHeartbeats 4000000 in
set_option maxRecDepth 100000 in
theorem kX11_isUnit (l : Launch) (p0 : Int32) (res : Int32) (h : fX11_isUnit p0 = some res) : Met l yX11_isUnit (.code yX11_isUnit cX11_isUnit 1 (some .boolean) :: lwW) (rmD 0) (nPc [.int p0]) (nQi res) 0 0 (fun _ => False) := by
  refine Met.ofW (cc := cX11_isUnit) (maxL := 1) (ret := (some .boolean)) (by decide) rfl ?_
  intro p e s m args below meth c s₁ B hml hv
  obtain ⟨rfl, h0⟩ := hv
  have hx := B.exec
  have hb := B.bytes
  have hr := B.returns
  have hts := fun (w : Cond) (hw : w ∈ lwW) => atoms_spec (ws := (.code yX11_isUnit cX11_isUnit 1 (some .boolean) :: lwW)) B.pre w (List.mem_cons_of_mem _ hw)
  have hown : s.vm.findClass RX11 = some m.cls := findClass_of_methodNamed B.named
  have hlocks := B.notSynchronized
  have hS : va_S (fun _ => False) s.heap s.heap [] := va_S.rf
  have hl := lv_entry ([.int p0]) (n := 1) (Nat.le_of_ble_eq_true rfl)
  rw [lg_entry_eq]
  generalize (lg_sl ([.int p0]) ++ List.replicate (1 - (lg_sl ([.int p0])).length) Slot.unset).toArray = ls at hl ⊢
  have hl : lv_has ls 1 [(0, .int p0)] := hl
  unfold fX11_isUnit at h
  refine lv_iload_n hx hb dX11_isUnit_0 rfl (lv_at hl 0 rfl) ?_
  refine lv_if_lt (tgt := 14) hx hb dX11_isUnit_1 (by decide) (fun hcq1 => ?_) (fun hcq1 => ?_)
  · have h := ifp hcq1 h
    refine lv_iconst (v := 0) hx hb dX11_isUnit_14 (by decide) ?_
    obtain rfl := Option.some.inj h
    exact W.zret hx hb hr rfl (fun t ht hW => ⟨⟨_, (), rfl, rfl, trivial⟩, hS.F ht⟩) hS.2.2 dX11_isUnit_15
  have h := ifn hcq1 h
  refine lv_iload_n hx hb dX11_isUnit_4 rfl (lv_at hl 0 rfl) ?_
  refine lv_bipush (v := 24) hx hb dX11_isUnit_5 (by decide) ?_
  refine lv_icmp_ge (tgt := 14) hx hb dX11_isUnit_7 (by decide) (fun hcq2 => ?_) (fun hcq2 => ?_)
  · have h := ifp hcq2 h
    refine lv_iconst (v := 0) hx hb dX11_isUnit_14 (by decide) ?_
    obtain rfl := Option.some.inj h
    exact W.zret hx hb hr rfl (fun t ht hW => ⟨⟨_, (), rfl, rfl, trivial⟩, hS.F ht⟩) hS.2.2 dX11_isUnit_15
  have h := ifn hcq2 h
  refine lv_iconst (v := 1) hx hb dX11_isUnit_10 (by decide) ?_
  refine lv_goto (tgt := 15) hx hb dX11_isUnit_11 (by decide) ?_
  obtain rfl := Option.some.inj h
  exact W.zret hx hb hr rfl (fun t ht hW => ⟨⟨_, (), rfl, rfl, trivial⟩, hS.F ht⟩) hS.2.2 dX11_isUnit_15
def fX6_putUnit (k0 : Nat) (p1 : Int32) (σ : QMem) : Option (QMem) :=
  (fX11_isUnit p1).bind fun xq1 => (if xq1 = 0 then (some σ) else (if (4 * p1 < 0 ∨ 96 ≤ (4 * p1).toNatClampNeg) then none else (if ((4 * p1) + 1 < 0 ∨ 96 ≤ ((4 * p1) + 1).toNatClampNeg) then none else (if ((4 * p1) + 2 < 0 ∨ 96 ≤ ((4 * p1) + 2).toNatClampNeg) then none else (if ((4 * p1) + 3 < 0 ∨ 96 ≤ ((4 * p1) + 3).toNatClampNeg) then none else ((fX6_put k0 (xU (4 * p1).toNatClampNeg) (xU ((4 * p1) + 1).toNatClampNeg) (xU ((4 * p1) + 2).toNatClampNeg) (xU ((4 * p1) + 3).toNatClampNeg) σ).bind fun xq8 => (some xq8)))))))
set_option maxHeartbeats 4000000 in
set_option maxRecDepth 100000 in
theorem kX6_putUnit (l : Launch) (D : va_G) (G : xG) (ub : xB) (σ : QMem) (k0 : Nat) (hk0 : xk k0 = 0) (p1 : Int32) (res : QMem) (h : fX6_putUnit k0 p1 σ = some res) : Met l yX6_putUnit (.code yX6_putUnit cX6_putUnit 3 none :: lwW) (rmD 1) (xPc D G ub σ [.ref (G.1 k0), .int p1]) (xQv D G ub res) 0 0 (xA G) := by
  refine Met.ofW (cc := cX6_putUnit) (maxL := 3) (ret := none) (by decide) rfl ?_
  intro p e s m args below meth c s₁ B hml hv
  obtain ⟨rfl, h0⟩ := hv
  have hx := B.exec
  have hb := B.bytes
  have hr := B.returns
  have hts := fun (w : Cond) (hw : w ∈ lwW) => atoms_spec (ws := (.code yX6_putUnit cX6_putUnit 3 none :: lwW)) B.pre w (List.mem_cons_of_mem _ hw)
  have hown : s.vm.findClass RX6 = some m.cls := findClass_of_methodNamed B.named
  have hlocks := B.notSynchronized
  have hP := h0.1
  have hK := h0.2.1
  have hi := h0.2.2.1
  have hZ := h0.2.2.2
  have hN := h0.2.2.2.2.2.2.2.1
  have hV := h0.2.2.2.2.2.2.2.2.1
  have hS : va_S (xA G) s.heap s.heap [] := va_S.rf
  have hl := lv_entry ([.ref (G.1 k0), .int p1]) (n := 3) (Nat.le_of_ble_eq_true rfl)
  rw [lg_entry_eq]
  generalize (lg_sl ([.ref (G.1 k0), .int p1]) ++ List.replicate (3 - (lg_sl ([.ref (G.1 k0), .int p1])).length) Slot.unset).toArray = ls at hl ⊢
  have hl : lv_has ls 3 [(0, .ref (G.1 k0)), (1, .int p1)] := hl
  unfold fX6_putUnit at h
  refine lv_iload_n hx hb dX6_putUnit_0 rfl (lv_at hl 1 rfl) ?_
  obtain ⟨xq1, hfq2, h⟩ := obd h
  refine va_calli (va_runSN (As := [.int p1]) (rest := []) ⟨hx, hb, hml, hown, hts⟩ (kX11_isUnit l p1 xq1 hfq2) ⟨va_cnB 1 hts (lwW_gc mw_476) rfl rfl rfl (hN.M 14 rfl) (hts _ mw_1) (by decide +kernel) ⟨Nat.le_of_ble_eq_true rfl, Nat.le_of_ble_eq_true rfl⟩, hts _ mw_475, trivial⟩ ⟨fun a U g mk q => ⟨q.1, trivial⟩, fun U hU hW => ⟨rfl, trivial⟩⟩ rfl rfl hl.1 rfl (lv_room (Nat.le_of_ble_eq_true rfl)) dX6_putUnit_1 ⟨Nat.zero_le _, Nat.zero_le _⟩) hS (fun q _ h => h.elim) (fun q h => h.elim) (fun r u t H1 locs ht hvm hw hB hz1 hq1 hS => ?_)
  obtain rfl := hw.symm
  have hP := xP_kept hP hq1
  refine W.widen (k := 0) (n := 0) (Nat.le_refl _) (Nat.le_refl _) ?_
  refine lv_if_eq (tgt := 41) hx hb dX6_putUnit_4 (by decide) (fun hcq3 => ?_) (fun hcq3 => ?_)
  · have h := ifp hcq3 h
    obtain rfl := Option.some.inj h
    exact W.vret hx hb hr (fun t ht hW => ⟨⟨_, rfl, rfl, xPre_at h0 hS hP ht hW⟩, hS.F ht⟩) hS.2.2 dX6_putUnit_41
  have h := ifn hcq3 h
  refine lv_iconst (v := 4) hx hb dX6_putUnit_7 (by decide) ?_
  refine lv_iload_n hx hb dX6_putUnit_8 rfl (lv_at hl 1 rfl) ?_
  refine lv_imul hx hb dX6_putUnit_9 ?_
  refine lv_istore_n (lv' := [(2, .int (4 * p1)), (0, .ref (G.1 k0)), (1, .int p1)]) hx hb dX6_putUnit_10 rfl hl (by decide) rfl (fun ls hl => ?_)
  refine lv_aload_n hx hb dX6_putUnit_11 rfl (lv_at hl 1 rfl) ?_
  refine va_getsN hx hb hZ.1 hS hown (va_Nw.use rfl (hN.F 17 rfl)) (fun _ h9 => h9) dX6_putUnit_12 ?_
  refine lv_iload_n hx hb dX6_putUnit_15 rfl (lv_at hl 0 rfl) ?_
  obtain ⟨hiq4, h⟩ := nif h
  refine va_sld hx hb hZ.2.1 hZ.2.2.1 hZ.2.2.2.1 hS hiq4 dX6_putUnit_16 ?_
  refine va_getsN hx hb hZ.1 hS hown (va_Nw.use rfl (hN.F 17 rfl)) (fun _ h9 => h9) dX6_putUnit_17 ?_
  refine lv_iload_n hx hb dX6_putUnit_20 rfl (lv_at hl 0 rfl) ?_
  refine lv_iconst (v := 1) hx hb dX6_putUnit_21 (by decide) ?_
  refine lv_iadd hx hb dX6_putUnit_22 ?_
  obtain ⟨hiq5, h⟩ := nif h
  refine va_sld hx hb hZ.2.1 hZ.2.2.1 hZ.2.2.2.1 hS hiq5 dX6_putUnit_23 ?_
  refine va_getsN hx hb hZ.1 hS hown (va_Nw.use rfl (hN.F 17 rfl)) (fun _ h9 => h9) dX6_putUnit_24 ?_
  refine lv_iload_n hx hb dX6_putUnit_27 rfl (lv_at hl 0 rfl) ?_
  refine lv_iconst (v := 2) hx hb dX6_putUnit_28 (by decide) ?_
  refine lv_iadd hx hb dX6_putUnit_29 ?_
  obtain ⟨hiq6, h⟩ := nif h
  refine va_sld hx hb hZ.2.1 hZ.2.2.1 hZ.2.2.2.1 hS hiq6 dX6_putUnit_30 ?_
  refine va_getsN hx hb hZ.1 hS hown (va_Nw.use rfl (hN.F 17 rfl)) (fun _ h9 => h9) dX6_putUnit_31 ?_
  refine lv_iload_n hx hb dX6_putUnit_34 rfl (lv_at hl 0 rfl) ?_
  refine lv_iconst (v := 3) hx hb dX6_putUnit_35 (by decide) ?_
  refine lv_iadd hx hb dX6_putUnit_36 ?_
  obtain ⟨hiq7, h⟩ := nif h
  refine va_sld hx hb hZ.2.1 hZ.2.2.1 hZ.2.2.2.1 hS hiq7 dX6_putUnit_37 ?_
  obtain ⟨xq8, hfq9, h⟩ := obd h
  refine va_callv (va_runV (As := [.int (xU (4 * p1).toNatClampNeg), .int (xU ((4 * p1) + 1).toNatClampNeg), .int (xU ((4 * p1) + 2).toNatClampNeg), .int (xU ((4 * p1) + 3).toNatClampNeg)]) (rest := []) ⟨hx, hb, hml, hown, hts⟩ (kX6_put l D G ub _ k0 hk0 (xU (4 * p1).toNatClampNeg) (xU ((4 * p1) + 1).toNatClampNeg) (xU ((4 * p1) + 2).toNatClampNeg) (xU ((4 * p1) + 3).toNatClampNeg) xq8 hfq9) (cwV 4 hts (lwW_gV mw_479 mw_467 mw_468 mw_3 mw_469) rfl rfl rfl (by decide +kernel) ⟨Nat.le_of_ble_eq_true rfl, Nat.le_of_ble_eq_true rfl⟩) ⟨fun a U g mk q => ⟨q.1, xPre_call q.2⟩, va_recv hK hP rfl (xg_0 hk0), fun U hU hW => ⟨rfl, xPre_at h0 hS hP hU hW⟩⟩ rfl rfl hl.1 rfl (lv_room (Nat.le_of_ble_eq_true rfl)) dX6_putUnit_38 ⟨Nat.zero_le _, Nat.zero_le _⟩) hS (fun q _ h => h) (fun q h => h) (fun u t H1 locs ht hvm hw hB hz1 hq1 hS => ?_)
  obtain rfl := hw.symm
  have hP := hB.1
  rw [ht] at hP
  refine W.widen (k := 0) (n := 0) (Nat.le_refl _) (Nat.le_refl _) ?_
  obtain rfl := Option.some.inj h
  exact W.vret hx hb hr (fun t ht hW => ⟨⟨_, rfl, rfl, xPre_at h0 hS hP ht hW⟩, hS.F ht⟩) hS.2.2 dX6_putUnit_41
def fX6_part (k0 : Nat) (p1 : Int32) (σ : QMem) : Option (Int32 × QMem) :=
  if p1 = 0 then (some (σ k0 0, σ)) else (if p1 = 1 then (some (σ k0 1, σ)) else (if p1 = 2 then (some (σ k0 2, σ)) else (some (σ k0 3, σ))))
set_option maxHeartbeats 4000000 in
set_option maxRecDepth 100000 in
theorem kX6_part (l : Launch) (D : va_G) (G : xG) (ub : xB) (σ : QMem) (k0 : Nat) (hk0 : xk k0 = 0) (p1 : Int32) (res : Int32 × QMem) (h : fX6_part k0 p1 σ = some res) : Met l yX6_part (.code yX6_part cX6_part 2 (some .int) :: lwW) (rmD 0) (xPc D G ub σ [.ref (G.1 k0), .int p1]) (xQi D G ub res) 0 0 (xA G) := by
  refine Met.ofW (cc := cX6_part) (maxL := 2) (ret := (some .int)) (by decide) rfl ?_
  intro p e s m args below meth c s₁ B hml hv
  obtain ⟨rfl, h0⟩ := hv
  have hx := B.exec
  have hb := B.bytes
  have hr := B.returns
  have hts := fun (w : Cond) (hw : w ∈ lwW) => atoms_spec (ws := (.code yX6_part cX6_part 2 (some .int) :: lwW)) B.pre w (List.mem_cons_of_mem _ hw)
  have hown : s.vm.findClass RX6 = some m.cls := findClass_of_methodNamed B.named
  have hlocks := B.notSynchronized
  have hP := h0.1
  have hK := h0.2.1
  have hi := h0.2.2.1
  have hZ := h0.2.2.2
  have hN := h0.2.2.2.2.2.2.2.1
  have hV := h0.2.2.2.2.2.2.2.2.1
  have hS : va_S (xA G) s.heap s.heap [] := va_S.rf
  have hl := lv_entry ([.ref (G.1 k0), .int p1]) (n := 2) (Nat.le_of_ble_eq_true rfl)
  rw [lg_entry_eq]
  generalize (lg_sl ([.ref (G.1 k0), .int p1]) ++ List.replicate (2 - (lg_sl ([.ref (G.1 k0), .int p1])).length) Slot.unset).toArray = ls at hl ⊢
  have hl : lv_has ls 2 [(0, .ref (G.1 k0)), (1, .int p1)] := hl
  unfold fX6_part at h
  refine lv_iload_n hx hb dX6_part_0 rfl (lv_at hl 1 rfl) ?_
  by_cases hcq1 : p1 = 0
  · have h := ifp hcq1 h
    refine lv_tableIn (off := 27) (tgt := 28) hx hb dX6_part_1 (by rw [hcq1]; decide) (by rw [hcq1]; decide) (by rw [hcq1]; rfl) (by decide) ?_
    refine lv_aload_n hx hb dX6_part_28 rfl (lv_at hl 0 rfl) ?_
    refine va_get (D := D) (ci := 6) (v := .int (σ k0 0)) (C := RX6) (T := TX6) (N := 4) hx hb hts iwX6 hown hK hP k0 (xg_0 hk0) rfl 0 (by decide) (hts _ mw_40) (fun _ h9 => h9) rfl dX6_part_29 ?_
    obtain rfl := Option.some.inj h
    exact W.iret (v := σ k0 0) hx hb hr (fun t ht hW => ⟨⟨_, _, rfl, ⟨rfl, rfl⟩, xPre_at h0 hS hP ht hW⟩, hS.F ht⟩) hS.2.2 dX6_part_32
  have h := ifn hcq1 h
  by_cases hcq2 : p1 = 1
  · have h := ifp hcq2 h
    refine lv_tableIn (off := 32) (tgt := 33) hx hb dX6_part_1 (by rw [hcq2]; decide) (by rw [hcq2]; decide) (by rw [hcq2]; rfl) (by decide) ?_
    refine lv_aload_n hx hb dX6_part_33 rfl (lv_at hl 0 rfl) ?_
    refine va_get (D := D) (ci := 6) (v := .int (σ k0 1)) (C := RX6) (T := TX6) (N := 4) hx hb hts iwX6 hown hK hP k0 (xg_0 hk0) rfl 1 (by decide) (hts _ mw_43) (fun _ h9 => h9) rfl dX6_part_34 ?_
    obtain rfl := Option.some.inj h
    exact W.iret (v := σ k0 1) hx hb hr (fun t ht hW => ⟨⟨_, _, rfl, ⟨rfl, rfl⟩, xPre_at h0 hS hP ht hW⟩, hS.F ht⟩) hS.2.2 dX6_part_37
  have h := ifn hcq2 h
  by_cases hcq3 : p1 = 2
  · have h := ifp hcq3 h
    refine lv_tableIn (off := 37) (tgt := 38) hx hb dX6_part_1 (by rw [hcq3]; decide) (by rw [hcq3]; decide) (by rw [hcq3]; rfl) (by decide) ?_
    refine lv_aload_n hx hb dX6_part_38 rfl (lv_at hl 0 rfl) ?_
    refine va_get (D := D) (ci := 6) (v := .int (σ k0 2)) (C := RX6) (T := TX6) (N := 4) hx hb hts iwX6 hown hK hP k0 (xg_0 hk0) rfl 2 (by decide) (hts _ mw_46) (fun _ h9 => h9) rfl dX6_part_39 ?_
    obtain rfl := Option.some.inj h
    exact W.iret (v := σ k0 2) hx hb hr (fun t ht hW => ⟨⟨_, _, rfl, ⟨rfl, rfl⟩, xPre_at h0 hS hP ht hW⟩, hS.F ht⟩) hS.2.2 dX6_part_42
  have h := ifn hcq3 h
  refine lv_tableOut (tgt := 43) hx hb dX6_part_1 (by have t0 := toI_ne hcq1; have t1 := toI_ne hcq2; have t2 := toI_ne hcq3; rw [show (0 : Int32).toInt = 0 from by decide] at t0; rw [show (1 : Int32).toInt = 1 from by decide] at t1; rw [show (2 : Int32).toInt = 2 from by decide] at t2; omega) (by decide) ?_
  refine lv_aload_n hx hb dX6_part_43 rfl (lv_at hl 0 rfl) ?_
  refine va_get (D := D) (ci := 6) (v := .int (σ k0 3)) (C := RX6) (T := TX6) (N := 4) hx hb hts iwX6 hown hK hP k0 (xg_0 hk0) rfl 3 (by decide) (hts _ mw_49) (fun _ h9 => h9) rfl dX6_part_44 ?_
  obtain rfl := Option.some.inj h
  exact W.iret (v := σ k0 3) hx hb hr (fun t ht hW => ⟨⟨_, _, rfl, ⟨rfl, rfl⟩, xPre_at h0 hS hP ht hW⟩, hS.F ht⟩) hS.2.2 dX6_part_47
def fX6_isEven (k0 : Nat) (σ : QMem) : Option (Int32 × QMem) :=
  if ((σ k0 0) &&& 1) = 0 then (some (1, σ)) else (some (0, σ))
set_option maxHeartbeats 4000000 in
set_option maxRecDepth 100000 in
theorem kX6_isEven (l : Launch) (D : va_G) (G : xG) (ub : xB) (σ : QMem) (k0 : Nat) (hk0 : xk k0 = 0) (res : Int32 × QMem) (h : fX6_isEven k0 σ = some res) : Met l yX6_isEven (.code yX6_isEven cX6_isEven 1 (some .boolean) :: lwW) (rmD 0) (xPc D G ub σ [.ref (G.1 k0)]) (xQi D G ub res) 0 0 (xA G) := by
  refine Met.ofW (cc := cX6_isEven) (maxL := 1) (ret := (some .boolean)) (by decide) rfl ?_
  intro p e s m args below meth c s₁ B hml hv
  obtain ⟨rfl, h0⟩ := hv
  have hx := B.exec
  have hb := B.bytes
  have hr := B.returns
  have hts := fun (w : Cond) (hw : w ∈ lwW) => atoms_spec (ws := (.code yX6_isEven cX6_isEven 1 (some .boolean) :: lwW)) B.pre w (List.mem_cons_of_mem _ hw)
  have hown : s.vm.findClass RX6 = some m.cls := findClass_of_methodNamed B.named
  have hlocks := B.notSynchronized
  have hP := h0.1
  have hK := h0.2.1
  have hi := h0.2.2.1
  have hZ := h0.2.2.2
  have hN := h0.2.2.2.2.2.2.2.1
  have hV := h0.2.2.2.2.2.2.2.2.1
  have hS : va_S (xA G) s.heap s.heap [] := va_S.rf
  have hl := lv_entry ([.ref (G.1 k0)]) (n := 1) (Nat.le_of_ble_eq_true rfl)
  rw [lg_entry_eq]
  generalize (lg_sl ([.ref (G.1 k0)]) ++ List.replicate (1 - (lg_sl ([.ref (G.1 k0)])).length) Slot.unset).toArray = ls at hl ⊢
  have hl : lv_has ls 1 [(0, .ref (G.1 k0))] := hl
  unfold fX6_isEven at h
  refine lv_aload_n hx hb dX6_isEven_0 rfl (lv_at hl 0 rfl) ?_
  refine va_get (D := D) (ci := 6) (v := .int (σ k0 0)) (C := RX6) (T := TX6) (N := 4) hx hb hts iwX6 hown hK hP k0 (xg_0 hk0) rfl 0 (by decide) (hts _ mw_40) (fun _ h9 => h9) rfl dX6_isEven_1 ?_
  refine lv_iconst (v := 1) hx hb dX6_isEven_4 (by decide) ?_
  refine lv_iand hx hb dX6_isEven_5 ?_
  refine lv_if_ne (tgt := 13) hx hb dX6_isEven_6 (by decide) (fun hcq1 => ?_) (fun hcq1 => ?_)
  · have h := ifn hcq1 h
    refine lv_iconst (v := 0) hx hb dX6_isEven_13 (by decide) ?_
    obtain rfl := Option.some.inj h
    exact W.zret hx hb hr rfl (fun t ht hW => ⟨⟨_, _, rfl, ⟨rfl, rfl⟩, xPre_at h0 hS hP ht hW⟩, hS.F ht⟩) hS.2.2 dX6_isEven_14
  have h := ifp hcq1 h
  refine lv_iconst (v := 1) hx hb dX6_isEven_9 (by decide) ?_
  refine lv_goto (tgt := 14) hx hb dX6_isEven_10 (by decide) ?_
  obtain rfl := Option.some.inj h
  exact W.zret hx hb hr rfl (fun t ht hW => ⟨⟨_, _, rfl, ⟨rfl, rfl⟩, xPre_at h0 hS hP ht hW⟩, hS.F ht⟩) hS.2.2 dX6_isEven_14
def fX6_isSame (k0 : Nat) (k1 : Nat) (σ : QMem) : Option (Int32 × QMem) :=
  if (σ k0 0) = (σ k1 0) then (if (σ k0 1) = (σ k1 1) then (if (σ k0 2) = (σ k1 2) then (if (σ k0 3) = (σ k1 3) then (some (1, σ)) else (some (0, σ))) else (some (0, σ))) else (some (0, σ))) else (some (0, σ))
set_option maxHeartbeats 4000000 in
set_option maxRecDepth 100000 in
theorem kX6_isSame (l : Launch) (D : va_G) (G : xG) (ub : xB) (σ : QMem) (k0 : Nat) (hk0 : xk k0 = 0) (k1 : Nat) (hk1 : xk k1 = 0) (res : Int32 × QMem) (h : fX6_isSame k0 k1 σ = some res) : Met l yX6_isSame (.code yX6_isSame cX6_isSame 2 (some .boolean) :: lwW) (rmD 0) (xPc D G ub σ [.ref (G.1 k0), .ref (G.1 k1)]) (xQi D G ub res) 0 0 (xA G) := by
  refine Met.ofW (cc := cX6_isSame) (maxL := 2) (ret := (some .boolean)) (by decide) rfl ?_
  intro p e s m args below meth c s₁ B hml hv
  obtain ⟨rfl, h0⟩ := hv
  have hx := B.exec
  have hb := B.bytes
  have hr := B.returns
  have hts := fun (w : Cond) (hw : w ∈ lwW) => atoms_spec (ws := (.code yX6_isSame cX6_isSame 2 (some .boolean) :: lwW)) B.pre w (List.mem_cons_of_mem _ hw)
  have hown : s.vm.findClass RX6 = some m.cls := findClass_of_methodNamed B.named
  have hlocks := B.notSynchronized
  have hP := h0.1
  have hK := h0.2.1
  have hi := h0.2.2.1
  have hZ := h0.2.2.2
  have hN := h0.2.2.2.2.2.2.2.1
  have hV := h0.2.2.2.2.2.2.2.2.1
  have hS : va_S (xA G) s.heap s.heap [] := va_S.rf
  have hl := lv_entry ([.ref (G.1 k0), .ref (G.1 k1)]) (n := 2) (Nat.le_of_ble_eq_true rfl)
  rw [lg_entry_eq]
  generalize (lg_sl ([.ref (G.1 k0), .ref (G.1 k1)]) ++ List.replicate (2 - (lg_sl ([.ref (G.1 k0), .ref (G.1 k1)])).length) Slot.unset).toArray = ls at hl ⊢
  have hl : lv_has ls 2 [(0, .ref (G.1 k0)), (1, .ref (G.1 k1))] := hl
  unfold fX6_isSame at h
  refine lv_aload_n hx hb dX6_isSame_0 rfl (lv_at hl 0 rfl) ?_
  refine va_get (D := D) (ci := 6) (v := .int (σ k0 0)) (C := RX6) (T := TX6) (N := 4) hx hb hts iwX6 hown hK hP k0 (xg_0 hk0) rfl 0 (by decide) (hts _ mw_40) (fun _ h9 => h9) rfl dX6_isSame_1 ?_
  refine lv_aload_n hx hb dX6_isSame_4 rfl (lv_at hl 1 rfl) ?_
  refine va_get (D := D) (ci := 6) (v := .int (σ k1 0)) (C := RX6) (T := TX6) (N := 4) hx hb hts iwX6 hown hK hP k1 (xg_0 hk1) rfl 0 (by decide) (hts _ mw_40) (fun _ h9 => h9) rfl dX6_isSame_5 ?_
  refine lv_icmp_ne (tgt := 48) hx hb dX6_isSame_8 (by decide) (fun hcq1 => ?_) (fun hcq1 => ?_)
  · have h := ifn hcq1 h
    refine lv_iconst (v := 0) hx hb dX6_isSame_48 (by decide) ?_
    obtain rfl := Option.some.inj h
    exact W.zret hx hb hr rfl (fun t ht hW => ⟨⟨_, _, rfl, ⟨rfl, rfl⟩, xPre_at h0 hS hP ht hW⟩, hS.F ht⟩) hS.2.2 dX6_isSame_49
  have h := ifp hcq1 h
  refine lv_aload_n hx hb dX6_isSame_11 rfl (lv_at hl 0 rfl) ?_
  refine va_get (D := D) (ci := 6) (v := .int (σ k0 1)) (C := RX6) (T := TX6) (N := 4) hx hb hts iwX6 hown hK hP k0 (xg_0 hk0) rfl 1 (by decide) (hts _ mw_43) (fun _ h9 => h9) rfl dX6_isSame_12 ?_
  refine lv_aload_n hx hb dX6_isSame_15 rfl (lv_at hl 1 rfl) ?_
  refine va_get (D := D) (ci := 6) (v := .int (σ k1 1)) (C := RX6) (T := TX6) (N := 4) hx hb hts iwX6 hown hK hP k1 (xg_0 hk1) rfl 1 (by decide) (hts _ mw_43) (fun _ h9 => h9) rfl dX6_isSame_16 ?_
  refine lv_icmp_ne (tgt := 48) hx hb dX6_isSame_19 (by decide) (fun hcq2 => ?_) (fun hcq2 => ?_)
  · have h := ifn hcq2 h
    refine lv_iconst (v := 0) hx hb dX6_isSame_48 (by decide) ?_
    obtain rfl := Option.some.inj h
    exact W.zret hx hb hr rfl (fun t ht hW => ⟨⟨_, _, rfl, ⟨rfl, rfl⟩, xPre_at h0 hS hP ht hW⟩, hS.F ht⟩) hS.2.2 dX6_isSame_49
  have h := ifp hcq2 h
  refine lv_aload_n hx hb dX6_isSame_22 rfl (lv_at hl 0 rfl) ?_
  refine va_get (D := D) (ci := 6) (v := .int (σ k0 2)) (C := RX6) (T := TX6) (N := 4) hx hb hts iwX6 hown hK hP k0 (xg_0 hk0) rfl 2 (by decide) (hts _ mw_46) (fun _ h9 => h9) rfl dX6_isSame_23 ?_
  refine lv_aload_n hx hb dX6_isSame_26 rfl (lv_at hl 1 rfl) ?_
  refine va_get (D := D) (ci := 6) (v := .int (σ k1 2)) (C := RX6) (T := TX6) (N := 4) hx hb hts iwX6 hown hK hP k1 (xg_0 hk1) rfl 2 (by decide) (hts _ mw_46) (fun _ h9 => h9) rfl dX6_isSame_27 ?_
  refine lv_icmp_ne (tgt := 48) hx hb dX6_isSame_30 (by decide) (fun hcq3 => ?_) (fun hcq3 => ?_)
  · have h := ifn hcq3 h
    refine lv_iconst (v := 0) hx hb dX6_isSame_48 (by decide) ?_
    obtain rfl := Option.some.inj h
    exact W.zret hx hb hr rfl (fun t ht hW => ⟨⟨_, _, rfl, ⟨rfl, rfl⟩, xPre_at h0 hS hP ht hW⟩, hS.F ht⟩) hS.2.2 dX6_isSame_49
  have h := ifp hcq3 h
  refine lv_aload_n hx hb dX6_isSame_33 rfl (lv_at hl 0 rfl) ?_
  refine va_get (D := D) (ci := 6) (v := .int (σ k0 3)) (C := RX6) (T := TX6) (N := 4) hx hb hts iwX6 hown hK hP k0 (xg_0 hk0) rfl 3 (by decide) (hts _ mw_49) (fun _ h9 => h9) rfl dX6_isSame_34 ?_
  refine lv_aload_n hx hb dX6_isSame_37 rfl (lv_at hl 1 rfl) ?_
  refine va_get (D := D) (ci := 6) (v := .int (σ k1 3)) (C := RX6) (T := TX6) (N := 4) hx hb hts iwX6 hown hK hP k1 (xg_0 hk1) rfl 3 (by decide) (hts _ mw_49) (fun _ h9 => h9) rfl dX6_isSame_38 ?_
  refine lv_icmp_ne (tgt := 48) hx hb dX6_isSame_41 (by decide) (fun hcq4 => ?_) (fun hcq4 => ?_)
  · have h := ifn hcq4 h
    refine lv_iconst (v := 0) hx hb dX6_isSame_48 (by decide) ?_
    obtain rfl := Option.some.inj h
    exact W.zret hx hb hr rfl (fun t ht hW => ⟨⟨_, _, rfl, ⟨rfl, rfl⟩, xPre_at h0 hS hP ht hW⟩, hS.F ht⟩) hS.2.2 dX6_isSame_49
  have h := ifp hcq4 h
  refine lv_iconst (v := 1) hx hb dX6_isSame_44 (by decide) ?_
  refine lv_goto (tgt := 49) hx hb dX6_isSame_45 (by decide) ?_
  obtain rfl := Option.some.inj h
  exact W.zret hx hb hr rfl (fun t ht hW => ⟨⟨_, _, rfl, ⟨rfl, rfl⟩, xPre_at h0 hS hP ht hW⟩, hS.F ht⟩) hS.2.2 dX6_isSame_49
def fX6_becomeSum (k0 : Nat) (k1 : Nat) (k2 : Nat) (σ : QMem) : Option (QMem) :=
  (fX6_put k0 ((σ k1 0) + (σ k2 0)) ((σ k1 1) + (σ k2 1)) ((σ k1 2) + (σ k2 2)) ((σ k1 3) + (σ k2 3)) σ).bind fun xq1 => (some xq1)
set_option maxHeartbeats 4000000 in
set_option maxRecDepth 100000 in
theorem kX6_becomeSum (l : Launch) (D : va_G) (G : xG) (ub : xB) (σ : QMem) (k0 : Nat) (hk0 : xk k0 = 0) (k1 : Nat) (hk1 : xk k1 = 0) (k2 : Nat) (hk2 : xk k2 = 0) (res : QMem) (h : fX6_becomeSum k0 k1 k2 σ = some res) : Met l yX6_becomeSum (.code yX6_becomeSum cX6_becomeSum 3 none :: lwW) (rmD 1) (xPc D G ub σ [.ref (G.1 k0), .ref (G.1 k1), .ref (G.1 k2)]) (xQv D G ub res) 0 0 (xA G) := by
  refine Met.ofW (cc := cX6_becomeSum) (maxL := 3) (ret := none) (by decide) rfl ?_
  intro p e s m args below meth c s₁ B hml hv
  obtain ⟨rfl, h0⟩ := hv
  have hx := B.exec
  have hb := B.bytes
  have hr := B.returns
  have hts := fun (w : Cond) (hw : w ∈ lwW) => atoms_spec (ws := (.code yX6_becomeSum cX6_becomeSum 3 none :: lwW)) B.pre w (List.mem_cons_of_mem _ hw)
  have hown : s.vm.findClass RX6 = some m.cls := findClass_of_methodNamed B.named
  have hlocks := B.notSynchronized
  have hP := h0.1
  have hK := h0.2.1
  have hi := h0.2.2.1
  have hZ := h0.2.2.2
  have hN := h0.2.2.2.2.2.2.2.1
  have hV := h0.2.2.2.2.2.2.2.2.1
  have hS : va_S (xA G) s.heap s.heap [] := va_S.rf
  have hl := lv_entry ([.ref (G.1 k0), .ref (G.1 k1), .ref (G.1 k2)]) (n := 3) (Nat.le_of_ble_eq_true rfl)
  rw [lg_entry_eq]
  generalize (lg_sl ([.ref (G.1 k0), .ref (G.1 k1), .ref (G.1 k2)]) ++ List.replicate (3 - (lg_sl ([.ref (G.1 k0), .ref (G.1 k1), .ref (G.1 k2)])).length) Slot.unset).toArray = ls at hl ⊢
  have hl : lv_has ls 3 [(0, .ref (G.1 k0)), (1, .ref (G.1 k1)), (2, .ref (G.1 k2))] := hl
  unfold fX6_becomeSum at h
  refine lv_aload_n hx hb dX6_becomeSum_0 rfl (lv_at hl 0 rfl) ?_
  refine lv_aload_n hx hb dX6_becomeSum_1 rfl (lv_at hl 1 rfl) ?_
  refine va_get (D := D) (ci := 6) (v := .int (σ k1 0)) (C := RX6) (T := TX6) (N := 4) hx hb hts iwX6 hown hK hP k1 (xg_0 hk1) rfl 0 (by decide) (hts _ mw_40) (fun _ h9 => h9) rfl dX6_becomeSum_2 ?_
  refine lv_aload_n hx hb dX6_becomeSum_5 rfl (lv_at hl 2 rfl) ?_
  refine va_get (D := D) (ci := 6) (v := .int (σ k2 0)) (C := RX6) (T := TX6) (N := 4) hx hb hts iwX6 hown hK hP k2 (xg_0 hk2) rfl 0 (by decide) (hts _ mw_40) (fun _ h9 => h9) rfl dX6_becomeSum_6 ?_
  refine lv_iadd hx hb dX6_becomeSum_9 ?_
  refine lv_aload_n hx hb dX6_becomeSum_10 rfl (lv_at hl 1 rfl) ?_
  refine va_get (D := D) (ci := 6) (v := .int (σ k1 1)) (C := RX6) (T := TX6) (N := 4) hx hb hts iwX6 hown hK hP k1 (xg_0 hk1) rfl 1 (by decide) (hts _ mw_43) (fun _ h9 => h9) rfl dX6_becomeSum_11 ?_
  refine lv_aload_n hx hb dX6_becomeSum_14 rfl (lv_at hl 2 rfl) ?_
  refine va_get (D := D) (ci := 6) (v := .int (σ k2 1)) (C := RX6) (T := TX6) (N := 4) hx hb hts iwX6 hown hK hP k2 (xg_0 hk2) rfl 1 (by decide) (hts _ mw_43) (fun _ h9 => h9) rfl dX6_becomeSum_15 ?_
  refine lv_iadd hx hb dX6_becomeSum_18 ?_
  refine lv_aload_n hx hb dX6_becomeSum_19 rfl (lv_at hl 1 rfl) ?_
  refine va_get (D := D) (ci := 6) (v := .int (σ k1 2)) (C := RX6) (T := TX6) (N := 4) hx hb hts iwX6 hown hK hP k1 (xg_0 hk1) rfl 2 (by decide) (hts _ mw_46) (fun _ h9 => h9) rfl dX6_becomeSum_20 ?_
  refine lv_aload_n hx hb dX6_becomeSum_23 rfl (lv_at hl 2 rfl) ?_
  refine va_get (D := D) (ci := 6) (v := .int (σ k2 2)) (C := RX6) (T := TX6) (N := 4) hx hb hts iwX6 hown hK hP k2 (xg_0 hk2) rfl 2 (by decide) (hts _ mw_46) (fun _ h9 => h9) rfl dX6_becomeSum_24 ?_
  refine lv_iadd hx hb dX6_becomeSum_27 ?_
  refine lv_aload_n hx hb dX6_becomeSum_28 rfl (lv_at hl 1 rfl) ?_
  refine va_get (D := D) (ci := 6) (v := .int (σ k1 3)) (C := RX6) (T := TX6) (N := 4) hx hb hts iwX6 hown hK hP k1 (xg_0 hk1) rfl 3 (by decide) (hts _ mw_49) (fun _ h9 => h9) rfl dX6_becomeSum_29 ?_
  refine lv_aload_n hx hb dX6_becomeSum_32 rfl (lv_at hl 2 rfl) ?_
  refine va_get (D := D) (ci := 6) (v := .int (σ k2 3)) (C := RX6) (T := TX6) (N := 4) hx hb hts iwX6 hown hK hP k2 (xg_0 hk2) rfl 3 (by decide) (hts _ mw_49) (fun _ h9 => h9) rfl dX6_becomeSum_33 ?_
  refine lv_iadd hx hb dX6_becomeSum_36 ?_
  obtain ⟨xq1, hfq2, h⟩ := obd h
  refine va_callv (va_runV (As := [.int ((σ k1 0) + (σ k2 0)), .int ((σ k1 1) + (σ k2 1)), .int ((σ k1 2) + (σ k2 2)), .int ((σ k1 3) + (σ k2 3))]) (rest := []) ⟨hx, hb, hml, hown, hts⟩ (kX6_put l D G ub _ k0 hk0 ((σ k1 0) + (σ k2 0)) ((σ k1 1) + (σ k2 1)) ((σ k1 2) + (σ k2 2)) ((σ k1 3) + (σ k2 3)) xq1 hfq2) (cwV 4 hts (lwW_gV mw_479 mw_467 mw_468 mw_3 mw_469) rfl rfl rfl (by decide +kernel) ⟨Nat.le_of_ble_eq_true rfl, Nat.le_of_ble_eq_true rfl⟩) ⟨fun a U g mk q => ⟨q.1, xPre_call q.2⟩, va_recv hK hP rfl (xg_0 hk0), fun U hU hW => ⟨rfl, xPre_at h0 hS hP hU hW⟩⟩ rfl rfl hl.1 rfl (lv_room (Nat.le_of_ble_eq_true rfl)) dX6_becomeSum_37 ⟨Nat.zero_le _, Nat.zero_le _⟩) hS (fun q _ h => h) (fun q h => h) (fun u t H1 locs ht hvm hw hB hz1 hq1 hS => ?_)
  obtain rfl := hw.symm
  have hP := hB.1
  rw [ht] at hP
  refine W.widen (k := 0) (n := 0) (Nat.le_refl _) (Nat.le_refl _) ?_
  obtain rfl := Option.some.inj h
  exact W.vret hx hb hr (fun t ht hW => ⟨⟨_, rfl, rfl, xPre_at h0 hS hP ht hW⟩, hS.F ht⟩) hS.2.2 dX6_becomeSum_40
def fX6_becomeNegative (k0 : Nat) (k1 : Nat) (σ : QMem) : Option (QMem) :=
  (fX6_put k0 (-(σ k1 0)) (-(σ k1 1)) (-(σ k1 2)) (-(σ k1 3)) σ).bind fun xq1 => (some xq1)
set_option maxHeartbeats 4000000 in
set_option maxRecDepth 100000 in
theorem kX6_becomeNegative (l : Launch) (D : va_G) (G : xG) (ub : xB) (σ : QMem) (k0 : Nat) (hk0 : xk k0 = 0) (k1 : Nat) (hk1 : xk k1 = 0) (res : QMem) (h : fX6_becomeNegative k0 k1 σ = some res) : Met l yX6_becomeNegative (.code yX6_becomeNegative cX6_becomeNegative 2 none :: lwW) (rmD 1) (xPc D G ub σ [.ref (G.1 k0), .ref (G.1 k1)]) (xQv D G ub res) 0 0 (xA G) := by
  refine Met.ofW (cc := cX6_becomeNegative) (maxL := 2) (ret := none) (by decide) rfl ?_
  intro p e s m args below meth c s₁ B hml hv
  obtain ⟨rfl, h0⟩ := hv
  have hx := B.exec
  have hb := B.bytes
  have hr := B.returns
  have hts := fun (w : Cond) (hw : w ∈ lwW) => atoms_spec (ws := (.code yX6_becomeNegative cX6_becomeNegative 2 none :: lwW)) B.pre w (List.mem_cons_of_mem _ hw)
  have hown : s.vm.findClass RX6 = some m.cls := findClass_of_methodNamed B.named
  have hlocks := B.notSynchronized
  have hP := h0.1
  have hK := h0.2.1
  have hi := h0.2.2.1
  have hZ := h0.2.2.2
  have hN := h0.2.2.2.2.2.2.2.1
  have hV := h0.2.2.2.2.2.2.2.2.1
  have hS : va_S (xA G) s.heap s.heap [] := va_S.rf
  have hl := lv_entry ([.ref (G.1 k0), .ref (G.1 k1)]) (n := 2) (Nat.le_of_ble_eq_true rfl)
  rw [lg_entry_eq]
  generalize (lg_sl ([.ref (G.1 k0), .ref (G.1 k1)]) ++ List.replicate (2 - (lg_sl ([.ref (G.1 k0), .ref (G.1 k1)])).length) Slot.unset).toArray = ls at hl ⊢
  have hl : lv_has ls 2 [(0, .ref (G.1 k0)), (1, .ref (G.1 k1))] := hl
  unfold fX6_becomeNegative at h
  refine lv_aload_n hx hb dX6_becomeNegative_0 rfl (lv_at hl 0 rfl) ?_
  refine lv_aload_n hx hb dX6_becomeNegative_1 rfl (lv_at hl 1 rfl) ?_
  refine va_get (D := D) (ci := 6) (v := .int (σ k1 0)) (C := RX6) (T := TX6) (N := 4) hx hb hts iwX6 hown hK hP k1 (xg_0 hk1) rfl 0 (by decide) (hts _ mw_40) (fun _ h9 => h9) rfl dX6_becomeNegative_2 ?_
  refine lv_ineg hx hb dX6_becomeNegative_5 ?_
  refine lv_aload_n hx hb dX6_becomeNegative_6 rfl (lv_at hl 1 rfl) ?_
  refine va_get (D := D) (ci := 6) (v := .int (σ k1 1)) (C := RX6) (T := TX6) (N := 4) hx hb hts iwX6 hown hK hP k1 (xg_0 hk1) rfl 1 (by decide) (hts _ mw_43) (fun _ h9 => h9) rfl dX6_becomeNegative_7 ?_
  refine lv_ineg hx hb dX6_becomeNegative_10 ?_
  refine lv_aload_n hx hb dX6_becomeNegative_11 rfl (lv_at hl 1 rfl) ?_
  refine va_get (D := D) (ci := 6) (v := .int (σ k1 2)) (C := RX6) (T := TX6) (N := 4) hx hb hts iwX6 hown hK hP k1 (xg_0 hk1) rfl 2 (by decide) (hts _ mw_46) (fun _ h9 => h9) rfl dX6_becomeNegative_12 ?_
  refine lv_ineg hx hb dX6_becomeNegative_15 ?_
  refine lv_aload_n hx hb dX6_becomeNegative_16 rfl (lv_at hl 1 rfl) ?_
  refine va_get (D := D) (ci := 6) (v := .int (σ k1 3)) (C := RX6) (T := TX6) (N := 4) hx hb hts iwX6 hown hK hP k1 (xg_0 hk1) rfl 3 (by decide) (hts _ mw_49) (fun _ h9 => h9) rfl dX6_becomeNegative_17 ?_
  refine lv_ineg hx hb dX6_becomeNegative_20 ?_
  obtain ⟨xq1, hfq2, h⟩ := obd h
  refine va_callv (va_runV (As := [.int (-(σ k1 0)), .int (-(σ k1 1)), .int (-(σ k1 2)), .int (-(σ k1 3))]) (rest := []) ⟨hx, hb, hml, hown, hts⟩ (kX6_put l D G ub _ k0 hk0 (-(σ k1 0)) (-(σ k1 1)) (-(σ k1 2)) (-(σ k1 3)) xq1 hfq2) (cwV 4 hts (lwW_gV mw_479 mw_467 mw_468 mw_3 mw_469) rfl rfl rfl (by decide +kernel) ⟨Nat.le_of_ble_eq_true rfl, Nat.le_of_ble_eq_true rfl⟩) ⟨fun a U g mk q => ⟨q.1, xPre_call q.2⟩, va_recv hK hP rfl (xg_0 hk0), fun U hU hW => ⟨rfl, xPre_at h0 hS hP hU hW⟩⟩ rfl rfl hl.1 rfl (lv_room (Nat.le_of_ble_eq_true rfl)) dX6_becomeNegative_21 ⟨Nat.zero_le _, Nat.zero_le _⟩) hS (fun q _ h => h) (fun q h => h) (fun u t H1 locs ht hvm hw hB hz1 hq1 hS => ?_)
  obtain rfl := hw.symm
  have hP := hB.1
  rw [ht] at hP
  refine W.widen (k := 0) (n := 0) (Nat.le_refl _) (Nat.le_refl _) ?_
  obtain rfl := Option.some.inj h
  exact W.vret hx hb hr (fun t ht hW => ⟨⟨_, rfl, rfl, xPre_at h0 hS hP ht hW⟩, hS.F ht⟩) hS.2.2 dX6_becomeNegative_24
def fX6_content_L3 (k0 : Nat) : Nat → Int32 → QMem → Option (Int32 × QMem)
  | 0, _, _ => none
  | n + 1, v1, τ =>
  if v1 ≤ 1 then (some (1, τ)) else ((fX6_isZero k0 τ).bind fun xq2 => (if xq2.1 = 0 then ((fX6_isTimes k0 v1 xq2.2).bind fun xq5 => (if xq5.1 = 0 then ((fX6_content_L3 k0 n) (v1 + (-1)) xq5.2) else (some (v1, xq5.2)))) else (some (1, xq2.2))))
def fX6_content (k0 : Nat) (σ : QMem) : Option (Int32 × QMem) :=
  fX6_content_L3 k0 FU 24 σ
set_option maxHeartbeats 4000000 in
set_option maxRecDepth 100000 in
theorem kX6_content (l : Launch) (D : va_G) (G : xG) (ub : xB) (σ : QMem) (k0 : Nat) (hk0 : xk k0 = 0) (res : Int32 × QMem) (h : fX6_content k0 σ = some res) : Met l yX6_content (.code yX6_content cX6_content 2 (some .int) :: lwW) (rmD 1) (xPc D G ub σ [.ref (G.1 k0)]) (xQi D G ub res) 0 0 (xA G) := by
  refine Met.ofW (cc := cX6_content) (maxL := 2) (ret := (some .int)) (by decide) rfl ?_
  intro p e s m args below meth c s₁ B hml hv
  obtain ⟨rfl, h0⟩ := hv
  have hx := B.exec
  have hb := B.bytes
  have hr := B.returns
  have hts := fun (w : Cond) (hw : w ∈ lwW) => atoms_spec (ws := (.code yX6_content cX6_content 2 (some .int) :: lwW)) B.pre w (List.mem_cons_of_mem _ hw)
  have hown : s.vm.findClass RX6 = some m.cls := findClass_of_methodNamed B.named
  have hlocks := B.notSynchronized
  have hP := h0.1
  have hK := h0.2.1
  have hi := h0.2.2.1
  have hZ := h0.2.2.2
  have hN := h0.2.2.2.2.2.2.2.1
  have hV := h0.2.2.2.2.2.2.2.2.1
  have hS : va_S (xA G) s.heap s.heap [] := va_S.rf
  have hl := lv_entry ([.ref (G.1 k0)]) (n := 2) (Nat.le_of_ble_eq_true rfl)
  rw [lg_entry_eq]
  generalize (lg_sl ([.ref (G.1 k0)]) ++ List.replicate (2 - (lg_sl ([.ref (G.1 k0)])).length) Slot.unset).toArray = ls at hl ⊢
  have hl : lv_has ls 2 [(0, .ref (G.1 k0))] := hl
  unfold fX6_content at h
  have L3 : ∀ (n3 : Nat) (v1 : Int32) (τ : QMem) (H : Heap) (locs : List Loc) (ls : Array Slot), fX6_content_L3 k0 n3 v1 τ = some res → va_P D vwCl (xW G τ) H → va_S (xA G) s.heap H locs → lv_has ls 2 [(0, .ref (G.1 k0)), (1, .int v1)] → W p l e (headSpec (.code yX6_content cX6_content 2 (some .int) :: lwW) (rmD 1)).room s m ([.ref (G.1 k0)] : List Value).toArray below meth c H locs 0 0 (MQ below (xQi D G ub res) ([.ref (G.1 k0)] : List Value).toArray s 0 0 (xA G)) (F0 m 3 ls []) := by
    intro n3
    induction n3 with
    | zero => intro v1 τ H locs ls h; rw [fX6_content_L3] at h; cases h
    | succ n3 ih3 =>
      intro v1 τ H locs ls h hP hS hl
      rw [fX6_content_L3] at h
      refine lv_iload_n hx hb dX6_content_3 rfl (lv_at hl 1 rfl) ?_
      refine lv_iconst (v := 1) hx hb dX6_content_4 (by decide) ?_
      refine lv_icmp_le (tgt := 31) hx hb dX6_content_5 (by decide) (fun hcq1 => ?_) (fun hcq1 => ?_)
      · have h := ifp hcq1 h
        refine lv_iconst (v := 1) hx hb dX6_content_31 (by decide) ?_
        obtain rfl := Option.some.inj h
        exact W.iret (v := 1) hx hb hr (fun t ht hW => ⟨⟨_, _, rfl, ⟨rfl, rfl⟩, xPre_at h0 hS hP ht hW⟩, hS.F ht⟩) hS.2.2 dX6_content_32
      have h := ifn hcq1 h
      refine lv_aload_n hx hb dX6_content_8 rfl (lv_at hl 0 rfl) ?_
      obtain ⟨xq2, hfq3, h⟩ := obd h
      refine va_calli (va_runV (As := []) (rest := []) ⟨hx, hb, hml, hown, hts⟩ (kX6_isZero l D G ub _ k0 hk0 xq2 hfq3) (cwV 0 hts (lwW_gV mw_535 mw_512 mw_513 mw_3 mw_514) rfl rfl rfl (by decide +kernel) ⟨Nat.le_of_ble_eq_true rfl, Nat.le_of_ble_eq_true rfl⟩) ⟨fun a U g mk q => ⟨q.1, xPre_call q.2⟩, va_recv hK hP rfl (xg_0 hk0), fun U hU hW => ⟨rfl, xPre_at h0 hS hP hU hW⟩⟩ rfl rfl hl.1 rfl (lv_room (Nat.le_of_ble_eq_true rfl)) dX6_content_9 ⟨Nat.zero_le _, Nat.zero_le _⟩) hS (fun q _ h => h) (fun q h => h) (fun r u t H1 locs ht hvm hw hB hz1 hq1 hS => ?_)
      obtain ⟨rfl, rfl⟩ := hw
      have hP := hB.1
      rw [ht] at hP
      refine W.widen (k := 0) (n := 0) (Nat.le_refl _) (Nat.le_refl _) ?_
      refine lv_if_ne (tgt := 31) hx hb dX6_content_12 (by decide) (fun hcq4 => ?_) (fun hcq4 => ?_)
      · have h := ifn hcq4 h
        refine lv_iconst (v := 1) hx hb dX6_content_31 (by decide) ?_
        obtain rfl := Option.some.inj h
        exact W.iret (v := 1) hx hb hr (fun t ht hW => ⟨⟨_, _, rfl, ⟨rfl, rfl⟩, xPre_at h0 hS hP ht hW⟩, hS.F ht⟩) hS.2.2 dX6_content_32
      have h := ifp hcq4 h
      refine lv_aload_n hx hb dX6_content_15 rfl (lv_at hl 0 rfl) ?_
      refine lv_iload_n hx hb dX6_content_16 rfl (lv_at hl 1 rfl) ?_
      obtain ⟨xq5, hfq6, h⟩ := obd h
      refine va_calli (va_runV (As := [.int v1]) (rest := []) ⟨hx, hb, hml, hown, hts⟩ (kX6_isTimes l D G ub _ k0 hk0 v1 xq5 hfq6) (cwV 1 hts (lwW_gV mw_536 mw_537 mw_538 mw_3 mw_539) rfl rfl rfl (by decide +kernel) ⟨Nat.le_of_ble_eq_true rfl, Nat.le_of_ble_eq_true rfl⟩) ⟨fun a U g mk q => ⟨q.1, xPre_call q.2⟩, va_recv hK hP rfl (xg_0 hk0), fun U hU hW => ⟨rfl, xPre_at h0 hS hP hU hW⟩⟩ rfl rfl hl.1 rfl (lv_room (Nat.le_of_ble_eq_true rfl)) dX6_content_17 ⟨Nat.zero_le _, Nat.zero_le _⟩) hS (fun q _ h => h) (fun q h => h) (fun r u t H1 locs ht hvm hw hB hz1 hq1 hS => ?_)
      obtain ⟨rfl, rfl⟩ := hw
      have hP := hB.1
      rw [ht] at hP
      refine W.widen (k := 0) (n := 0) (Nat.le_refl _) (Nat.le_refl _) ?_
      refine lv_if_eq (tgt := 25) hx hb dX6_content_20 (by decide) (fun hcq7 => ?_) (fun hcq7 => ?_)
      · have h := ifp hcq7 h
        refine lv_iinc (v := v1 + (-1)) (lv' := [(1, .int (v1 + (-1))), (0, .ref (G.1 k0))]) hx hb dX6_content_25 hl (k := 1) rfl rfl (by decide) rfl (fun ls hl => ?_)
        refine lv_goto (tgt := 3) hx hb dX6_content_28 (by decide) ?_
        exact ih3 (v1 + (-1)) _ _ _ _ h hP hS (lv_sub hl [1, 0] rfl)
      have h := ifn hcq7 h
      refine lv_iload_n hx hb dX6_content_23 rfl (lv_at hl 1 rfl) ?_
      obtain rfl := Option.some.inj h
      exact W.iret (v := v1) hx hb hr (fun t ht hW => ⟨⟨_, _, rfl, ⟨rfl, rfl⟩, xPre_at h0 hS hP ht hW⟩, hS.F ht⟩) hS.2.2 dX6_content_24
  refine lv_bipush (v := 24) hx hb dX6_content_0 (by decide) ?_
  refine lv_istore_n (lv' := [(1, .int 24), (0, .ref (G.1 k0))]) hx hb dX6_content_2 rfl hl (by decide) rfl (fun ls hl => ?_)
  exact L3 FU 24 _ _ _ _ h hP hS (lv_sub hl [1, 0] rfl)
def fJ0_coder_7d493 (p0 : Nat) (σ : QMem) : Option (Int32 × QMem) :=
  if (1 : Int32) = 0 then (some (1, σ)) else (some (0, σ))
set_option maxHeartbeats 4000000 in
set_option maxRecDepth 100000 in
theorem kJ0_coder_7d493 (l : Launch) (D : va_G) (G : xG) (ub : xB) (σ : QMem) (p0 : Nat) (hp0 : p0 < 4) (res : Int32 × QMem) (h : fJ0_coder_7d493 p0 σ = some res) : Met l yJ0_coder_7d493 (.code yJ0_coder_7d493 cJ0_coder_7d493 1 (some .byte) :: lwW) (rmD 0) (xPc D G ub σ [.ref (ub.2.1 p0)]) (xQi D G ub res) 0 0 (xA G) := by
  refine Met.ofW (cc := cJ0_coder_7d493) (maxL := 1) (ret := (some .byte)) (by decide) rfl ?_
  intro p e s m args below meth c s₁ B hml hv
  obtain ⟨rfl, h0⟩ := hv
  have hx := B.exec
  have hb := B.bytes
  have hr := B.returns
  have hts := fun (w : Cond) (hw : w ∈ lwW) => atoms_spec (ws := (.code yJ0_coder_7d493 cJ0_coder_7d493 1 (some .byte) :: lwW)) B.pre w (List.mem_cons_of_mem _ hw)
  have hown : s.vm.findClass RJ0 = some m.cls := findClass_of_methodNamed B.named
  have hlocks := B.notSynchronized
  have hP := h0.1
  have hK := h0.2.1
  have hi := h0.2.2.1
  have hZ := h0.2.2.2
  have hN := h0.2.2.2.2.2.2.2.1
  have hV := h0.2.2.2.2.2.2.2.2.1
  have hS : va_S (xA G) s.heap s.heap [] := va_S.rf
  have hl := lv_entry ([.ref (ub.2.1 p0)]) (n := 1) (Nat.le_of_ble_eq_true rfl)
  rw [lg_entry_eq]
  generalize (lg_sl ([.ref (ub.2.1 p0)]) ++ List.replicate (1 - (lg_sl ([.ref (ub.2.1 p0)])).length) Slot.unset).toArray = ls at hl ⊢
  have hl : lv_has ls 1 [(0, .ref (ub.2.1 p0))] := hl
  unfold fJ0_coder_7d493 at h
  refine va_gets hx hb hZ.2.2.2.2.2.2.2.2.2.2.1 hS hown (hts _ mw_387) (fun _ h9 => h9) dJ0_coder_7d493_0 ?_
  refine lv_if_eq (tgt := 13) hx hb dJ0_coder_7d493_3 (by decide) (fun hcq1 => ?_) (fun hcq1 => ?_)
  · have h := ifp hcq1 h
    refine lv_iconst (v := 1) hx hb dJ0_coder_7d493_13 (by decide) ?_
    obtain rfl := Option.some.inj h
    exact W.zret hx hb hr rfl (fun t ht hW => ⟨⟨_, _, rfl, ⟨rfl, rfl⟩, xPre_at h0 hS hP ht hW⟩, hS.F ht⟩) hS.2.2 dJ0_coder_7d493_14
  have h := ifn hcq1 h
  refine lv_aload_n hx hb dJ0_coder_7d493_6 rfl (lv_at hl 0 rfl) ?_
  refine vk_getf hx hb (hV.1 p0 hp0).2.1 hS hown (hts _ mw_1336) (fun _ h9 => h9) dJ0_coder_7d493_7 ?_
  refine lv_goto (tgt := 14) hx hb dJ0_coder_7d493_10 (by decide) ?_
  obtain rfl := Option.some.inj h
  exact W.zret hx hb hr rfl (fun t ht hW => ⟨⟨_, _, rfl, ⟨rfl, rfl⟩, xPre_at h0 hS hP ht hW⟩, hS.F ht⟩) hS.2.2 dJ0_coder_7d493_14
def fJ0_length_8abf5 (p0 : Nat) (σ : QMem) : Option (Int32 × QMem) :=
  (fJ0_coder_7d493 p0 σ).bind fun xq1 => (some ((Int32.ofNat (xSl.getD p0 0)) >>> (xq1.1 &&& 31), xq1.2))
set_option maxHeartbeats 4000000 in
set_option maxRecDepth 100000 in
theorem kJ0_length_8abf5 (l : Launch) (D : va_G) (G : xG) (ub : xB) (σ : QMem) (p0 : Nat) (hp0 : p0 < 4) (res : Int32 × QMem) (h : fJ0_length_8abf5 p0 σ = some res) : Met l yJ0_length_8abf5 (.code yJ0_length_8abf5 cJ0_length_8abf5 1 (some .int) :: lwW) (rmD 1) (xPc D G ub σ [.ref (ub.2.1 p0)]) (xQi D G ub res) 0 0 (xA G) := by
  refine Met.ofW (cc := cJ0_length_8abf5) (maxL := 1) (ret := (some .int)) (by decide) rfl ?_
  intro p e s m args below meth c s₁ B hml hv
  obtain ⟨rfl, h0⟩ := hv
  have hx := B.exec
  have hb := B.bytes
  have hr := B.returns
  have hts := fun (w : Cond) (hw : w ∈ lwW) => atoms_spec (ws := (.code yJ0_length_8abf5 cJ0_length_8abf5 1 (some .int) :: lwW)) B.pre w (List.mem_cons_of_mem _ hw)
  have hown : s.vm.findClass RJ0 = some m.cls := findClass_of_methodNamed B.named
  have hlocks := B.notSynchronized
  have hP := h0.1
  have hK := h0.2.1
  have hi := h0.2.2.1
  have hZ := h0.2.2.2
  have hN := h0.2.2.2.2.2.2.2.1
  have hV := h0.2.2.2.2.2.2.2.2.1
  have hS : va_S (xA G) s.heap s.heap [] := va_S.rf
  have hl := lv_entry ([.ref (ub.2.1 p0)]) (n := 1) (Nat.le_of_ble_eq_true rfl)
  rw [lg_entry_eq]
  generalize (lg_sl ([.ref (ub.2.1 p0)]) ++ List.replicate (1 - (lg_sl ([.ref (ub.2.1 p0)])).length) Slot.unset).toArray = ls at hl ⊢
  have hl : lv_has ls 1 [(0, .ref (ub.2.1 p0))] := hl
  unfold fJ0_length_8abf5 at h
  refine lv_aload_n hx hb dJ0_length_8abf5_0 rfl (lv_at hl 0 rfl) ?_
  refine vk_getf hx hb (hV.1 p0 hp0).2.2.1 hS hown (hts _ mw_1335) (fun _ h9 => h9) dJ0_length_8abf5_1 ?_
  refine va_tlen hx hb (hV.1 p0 hp0).2.2.2 hS (v := Int32.ofNat (xSl.getD p0 0)) rfl dJ0_length_8abf5_4 ?_
  refine lv_aload_n hx hb dJ0_length_8abf5_5 rfl (lv_at hl 0 rfl) ?_
  obtain ⟨xq1, hfq2, h⟩ := obd h
  refine va_calli (va_runV (As := []) (rest := [.int (Int32.ofNat (xSl.getD p0 0))]) ⟨hx, hb, hml, hown, hts⟩ (kJ0_coder_7d493 l D G ub _ p0 hp0 xq1 hfq2) (cwV 0 hts (lwW_gV mw_383 mw_384 mw_385 mw_15 mw_386) rfl rfl rfl (by decide +kernel) ⟨Nat.le_of_ble_eq_true rfl, Nat.le_of_ble_eq_true rfl⟩) ⟨fun a U g mk q => ⟨q.1, xPre_call q.2⟩, vk_recv hV hp0 hS, fun U hU hW => ⟨rfl, xPre_at h0 hS hP hU hW⟩⟩ rfl rfl hl.1 rfl (lv_room (Nat.le_of_ble_eq_true rfl)) dJ0_length_8abf5_6 ⟨Nat.zero_le _, Nat.zero_le _⟩) hS (fun q _ h => h) (fun q h => h) (fun r u t H1 locs ht hvm hw hB hz1 hq1 hS => ?_)
  obtain ⟨rfl, rfl⟩ := hw
  have hP := hB.1
  rw [ht] at hP
  refine W.widen (k := 0) (n := 0) (Nat.le_refl _) (Nat.le_refl _) ?_
  refine lv_ishr hx hb dJ0_length_8abf5_9 ?_
  obtain rfl := Option.some.inj h
  exact W.iret (v := (Int32.ofNat (xSl.getD p0 0)) >>> (xq1.1 &&& 31)) hx hb hr (fun t ht hW => ⟨⟨_, _, rfl, ⟨rfl, rfl⟩, xPre_at h0 hS hP ht hW⟩, hS.F ht⟩) hS.2.2 dJ0_length_8abf5_10
def fJ0_isLatin1_aae02 (p0 : Nat) (σ : QMem) : Option (Int32 × QMem) :=
  if (1 : Int32) = 0 then (some (0, σ)) else (if (0 : Int32) = 0 then (some (1, σ)) else (some (0, σ)))
set_option maxHeartbeats 4000000 in
set_option maxRecDepth 100000 in
theorem kJ0_isLatin1_aae02 (l : Launch) (D : va_G) (G : xG) (ub : xB) (σ : QMem) (p0 : Nat) (hp0 : p0 < 4) (res : Int32 × QMem) (h : fJ0_isLatin1_aae02 p0 σ = some res) : Met l yJ0_isLatin1_aae02 (.code yJ0_isLatin1_aae02 cJ0_isLatin1_aae02 1 (some .boolean) :: lwW) (rmD 0) (xPc D G ub σ [.ref (ub.2.1 p0)]) (xQi D G ub res) 0 0 (xA G) := by
  refine Met.ofW (cc := cJ0_isLatin1_aae02) (maxL := 1) (ret := (some .boolean)) (by decide) rfl ?_
  intro p e s m args below meth c s₁ B hml hv
  obtain ⟨rfl, h0⟩ := hv
  have hx := B.exec
  have hb := B.bytes
  have hr := B.returns
  have hts := fun (w : Cond) (hw : w ∈ lwW) => atoms_spec (ws := (.code yJ0_isLatin1_aae02 cJ0_isLatin1_aae02 1 (some .boolean) :: lwW)) B.pre w (List.mem_cons_of_mem _ hw)
  have hown : s.vm.findClass RJ0 = some m.cls := findClass_of_methodNamed B.named
  have hlocks := B.notSynchronized
  have hP := h0.1
  have hK := h0.2.1
  have hi := h0.2.2.1
  have hZ := h0.2.2.2
  have hN := h0.2.2.2.2.2.2.2.1
  have hV := h0.2.2.2.2.2.2.2.2.1
  have hS : va_S (xA G) s.heap s.heap [] := va_S.rf
  have hl := lv_entry ([.ref (ub.2.1 p0)]) (n := 1) (Nat.le_of_ble_eq_true rfl)
  rw [lg_entry_eq]
  generalize (lg_sl ([.ref (ub.2.1 p0)]) ++ List.replicate (1 - (lg_sl ([.ref (ub.2.1 p0)])).length) Slot.unset).toArray = ls at hl ⊢
  have hl : lv_has ls 1 [(0, .ref (ub.2.1 p0))] := hl
  unfold fJ0_isLatin1_aae02 at h
  refine va_gets hx hb hZ.2.2.2.2.2.2.2.2.2.2.1 hS hown (hts _ mw_387) (fun _ h9 => h9) dJ0_isLatin1_aae02_0 ?_
  refine lv_if_eq (tgt := 17) hx hb dJ0_isLatin1_aae02_3 (by decide) (fun hcq1 => ?_) (fun hcq1 => ?_)
  · have h := ifp hcq1 h
    refine lv_iconst (v := 0) hx hb dJ0_isLatin1_aae02_17 (by decide) ?_
    obtain rfl := Option.some.inj h
    exact W.zret hx hb hr rfl (fun t ht hW => ⟨⟨_, _, rfl, ⟨rfl, rfl⟩, xPre_at h0 hS hP ht hW⟩, hS.F ht⟩) hS.2.2 dJ0_isLatin1_aae02_18
  have h := ifn hcq1 h
  refine lv_aload_n hx hb dJ0_isLatin1_aae02_6 rfl (lv_at hl 0 rfl) ?_
  refine vk_getf hx hb (hV.1 p0 hp0).2.1 hS hown (hts _ mw_1336) (fun _ h9 => h9) dJ0_isLatin1_aae02_7 ?_
  refine lv_if_ne (tgt := 17) hx hb dJ0_isLatin1_aae02_10 (by decide) (fun hcq2 => ?_) (fun hcq2 => ?_)
  · have h := ifn hcq2 h
    refine lv_iconst (v := 0) hx hb dJ0_isLatin1_aae02_17 (by decide) ?_
    obtain rfl := Option.some.inj h
    exact W.zret hx hb hr rfl (fun t ht hW => ⟨⟨_, _, rfl, ⟨rfl, rfl⟩, xPre_at h0 hS hP ht hW⟩, hS.F ht⟩) hS.2.2 dJ0_isLatin1_aae02_18
  have h := ifp hcq2 h
  refine lv_iconst (v := 1) hx hb dJ0_isLatin1_aae02_13 (by decide) ?_
  refine lv_goto (tgt := 18) hx hb dJ0_isLatin1_aae02_14 (by decide) ?_
  obtain rfl := Option.some.inj h
  exact W.zret hx hb hr rfl (fun t ht hW => ⟨⟨_, _, rfl, ⟨rfl, rfl⟩, xPre_at h0 hS hP ht hW⟩, hS.F ht⟩) hS.2.2 dJ0_isLatin1_aae02_18
def fJ3_checkIndex_8e157 (p0 : Int32) (p1 : Int32) (σ : QMem) : Option (Int32 × QMem) :=
  if p0 < 0 then (none) else (if p0 < p1 then (some (p0, σ)) else (none))
set_option maxHeartbeats 4000000 in
set_option maxRecDepth 100000 in
theorem kJ3_checkIndex_8e157_n (l : Launch) (D : va_G) (G : xG) (ub : xB) (σ : QMem) (p0 : Int32) (p1 : Int32) (res : Int32 × QMem) (h : fJ3_checkIndex_8e157 p0 p1 σ = some res) : Met l yJ3_checkIndex_8e157 (.code yJ3_checkIndex_8e157 cJ3_checkIndex_8e157 3 (some .int) :: lwW) (rmD 0) (xPc D G ub σ [.int p0, .int p1, .null]) (xQi D G ub res) 0 0 (xA G) := by
  refine Met.ofW (cc := cJ3_checkIndex_8e157) (maxL := 3) (ret := (some .int)) (by decide) rfl ?_
  intro p e s m args below meth c s₁ B hml hv
  obtain ⟨rfl, h0⟩ := hv
  have hx := B.exec
  have hb := B.bytes
  have hr := B.returns
  have hts := fun (w : Cond) (hw : w ∈ lwW) => atoms_spec (ws := (.code yJ3_checkIndex_8e157 cJ3_checkIndex_8e157 3 (some .int) :: lwW)) B.pre w (List.mem_cons_of_mem _ hw)
  have hown : s.vm.findClass RJ3 = some m.cls := findClass_of_methodNamed B.named
  have hlocks := B.notSynchronized
  have hP := h0.1
  have hK := h0.2.1
  have hi := h0.2.2.1
  have hZ := h0.2.2.2
  have hN := h0.2.2.2.2.2.2.2.1
  have hV := h0.2.2.2.2.2.2.2.2.1
  have hS : va_S (xA G) s.heap s.heap [] := va_S.rf
  have hl := lv_entry ([.int p0, .int p1, .null]) (n := 3) (Nat.le_of_ble_eq_true rfl)
  rw [lg_entry_eq]
  generalize (lg_sl ([.int p0, .int p1, .null]) ++ List.replicate (3 - (lg_sl ([.int p0, .int p1, .null])).length) Slot.unset).toArray = ls at hl ⊢
  have hl : lv_has ls 3 [(0, .int p0), (1, .int p1), (2, .null)] := hl
  unfold fJ3_checkIndex_8e157 at h
  refine lv_iload_n hx hb dJ3_checkIndex_8e157_0 rfl (lv_at hl 0 rfl) ?_
  refine lv_if_lt (tgt := 9) hx hb dJ3_checkIndex_8e157_1 (by decide) (fun hcq1 => ?_) (fun hcq1 => ?_)
  · have h := ifp hcq1 h
    cases h
  have h := ifn hcq1 h
  refine lv_iload_n hx hb dJ3_checkIndex_8e157_4 rfl (lv_at hl 0 rfl) ?_
  refine lv_iload_n hx hb dJ3_checkIndex_8e157_5 rfl (lv_at hl 1 rfl) ?_
  refine lv_icmp_lt (tgt := 16) hx hb dJ3_checkIndex_8e157_6 (by decide) (fun hcq2 => ?_) (fun hcq2 => ?_)
  · have h := ifp hcq2 h
    refine lv_iload_n hx hb dJ3_checkIndex_8e157_16 rfl (lv_at hl 0 rfl) ?_
    obtain rfl := Option.some.inj h
    exact W.iret (v := p0) hx hb hr (fun t ht hW => ⟨⟨_, _, rfl, ⟨rfl, rfl⟩, xPre_at h0 hS hP ht hW⟩, hS.F ht⟩) hS.2.2 dJ3_checkIndex_8e157_17
  have h := ifn hcq2 h
  cases h
set_option maxHeartbeats 4000000 in
set_option maxRecDepth 100000 in
theorem kJ3_checkIndex_8e157_r (l : Launch) (D : va_G) (G : xG) (ub : xB) (σ : QMem) (p0 : Int32) (p1 : Int32) (wt : Nat) (res : Int32 × QMem) (h : fJ3_checkIndex_8e157 p0 p1 σ = some res) : Met l yJ3_checkIndex_8e157 (.code yJ3_checkIndex_8e157 cJ3_checkIndex_8e157 3 (some .int) :: lwW) (rmD 0) (xPc D G ub σ [.int p0, .int p1, .ref wt]) (xQi D G ub res) 0 0 (xA G) := by
  refine Met.ofW (cc := cJ3_checkIndex_8e157) (maxL := 3) (ret := (some .int)) (by decide) rfl ?_
  intro p e s m args below meth c s₁ B hml hv
  obtain ⟨rfl, h0⟩ := hv
  have hx := B.exec
  have hb := B.bytes
  have hr := B.returns
  have hts := fun (w : Cond) (hw : w ∈ lwW) => atoms_spec (ws := (.code yJ3_checkIndex_8e157 cJ3_checkIndex_8e157 3 (some .int) :: lwW)) B.pre w (List.mem_cons_of_mem _ hw)
  have hown : s.vm.findClass RJ3 = some m.cls := findClass_of_methodNamed B.named
  have hlocks := B.notSynchronized
  have hP := h0.1
  have hK := h0.2.1
  have hi := h0.2.2.1
  have hZ := h0.2.2.2
  have hN := h0.2.2.2.2.2.2.2.1
  have hV := h0.2.2.2.2.2.2.2.2.1
  have hS : va_S (xA G) s.heap s.heap [] := va_S.rf
  have hl := lv_entry ([.int p0, .int p1, .ref wt]) (n := 3) (Nat.le_of_ble_eq_true rfl)
  rw [lg_entry_eq]
  generalize (lg_sl ([.int p0, .int p1, .ref wt]) ++ List.replicate (3 - (lg_sl ([.int p0, .int p1, .ref wt])).length) Slot.unset).toArray = ls at hl ⊢
  have hl : lv_has ls 3 [(0, .int p0), (1, .int p1), (2, .ref wt)] := hl
  unfold fJ3_checkIndex_8e157 at h
  refine lv_iload_n hx hb dJ3_checkIndex_8e157_0 rfl (lv_at hl 0 rfl) ?_
  refine lv_if_lt (tgt := 9) hx hb dJ3_checkIndex_8e157_1 (by decide) (fun hcq1 => ?_) (fun hcq1 => ?_)
  · have h := ifp hcq1 h
    cases h
  have h := ifn hcq1 h
  refine lv_iload_n hx hb dJ3_checkIndex_8e157_4 rfl (lv_at hl 0 rfl) ?_
  refine lv_iload_n hx hb dJ3_checkIndex_8e157_5 rfl (lv_at hl 1 rfl) ?_
  refine lv_icmp_lt (tgt := 16) hx hb dJ3_checkIndex_8e157_6 (by decide) (fun hcq2 => ?_) (fun hcq2 => ?_)
  · have h := ifp hcq2 h
    refine lv_iload_n hx hb dJ3_checkIndex_8e157_16 rfl (lv_at hl 0 rfl) ?_
    obtain rfl := Option.some.inj h
    exact W.iret (v := p0) hx hb hr (fun t ht hW => ⟨⟨_, _, rfl, ⟨rfl, rfl⟩, xPre_at h0 hS hP ht hW⟩, hS.F ht⟩) hS.2.2 dJ3_checkIndex_8e157_17
  have h := ifn hcq2 h
  cases h
def fJ0_checkIndex_df160 (p0 : Int32) (p1 : Int32) (σ : QMem) : Option (QMem) :=
  (fJ3_checkIndex_8e157 p0 p1 σ).bind fun xq1 => (some xq1.2)
set_option maxHeartbeats 4000000 in
set_option maxRecDepth 100000 in
theorem kJ0_checkIndex_df160 (l : Launch) (D : va_G) (G : xG) (ub : xB) (σ : QMem) (p0 : Int32) (p1 : Int32) (res : QMem) (h : fJ0_checkIndex_df160 p0 p1 σ = some res) : Met l yJ0_checkIndex_df160 (.code yJ0_checkIndex_df160 cJ0_checkIndex_df160 2 none :: lwW) (rmD 1) (xPc D G ub σ [.int p0, .int p1]) (xQv D G ub res) 0 0 (xA G) := by
  refine Met.ofW (cc := cJ0_checkIndex_df160) (maxL := 2) (ret := none) (by decide) rfl ?_
  intro p e s m args below meth c s₁ B hml hv
  obtain ⟨rfl, h0⟩ := hv
  have hx := B.exec
  have hb := B.bytes
  have hr := B.returns
  have hts := fun (w : Cond) (hw : w ∈ lwW) => atoms_spec (ws := (.code yJ0_checkIndex_df160 cJ0_checkIndex_df160 2 none :: lwW)) B.pre w (List.mem_cons_of_mem _ hw)
  have hown : s.vm.findClass RJ0 = some m.cls := findClass_of_methodNamed B.named
  have hlocks := B.notSynchronized
  have hP := h0.1
  have hK := h0.2.1
  have hi := h0.2.2.1
  have hZ := h0.2.2.2
  have hN := h0.2.2.2.2.2.2.2.1
  have hV := h0.2.2.2.2.2.2.2.2.1
  have hS : va_S (xA G) s.heap s.heap [] := va_S.rf
  have hl := lv_entry ([.int p0, .int p1]) (n := 2) (Nat.le_of_ble_eq_true rfl)
  rw [lg_entry_eq]
  generalize (lg_sl ([.int p0, .int p1]) ++ List.replicate (2 - (lg_sl ([.int p0, .int p1])).length) Slot.unset).toArray = ls at hl ⊢
  have hl : lv_has ls 2 [(0, .int p0), (1, .int p1)] := hl
  unfold fJ0_checkIndex_df160 at h
  refine lv_iload_n hx hb dJ0_checkIndex_df160_0 rfl (lv_at hl 0 rfl) ?_
  refine lv_iload_n hx hb dJ0_checkIndex_df160_1 rfl (lv_at hl 1 rfl) ?_
  rcases hZ.2.2.2.2.2.2.2.2.2.2.2 with hF | ⟨wt, hF⟩
  · refine va_gets hx hb hF hS hown (hts _ mw_403) (fun _ h9 => h9) dJ0_checkIndex_df160_2 ?_
    obtain ⟨xq1, hfq2, h⟩ := obd h
    refine va_calli (va_runS (As := [.int p0, .int p1, .null]) (rest := []) ⟨hx, hb, hml, hown, hts⟩ (kJ3_checkIndex_8e157_n l D G ub _ p0 p1 xq1 hfq2) (va_cwS 3 hts (lwW_gS mw_405 mw_406 mw_17 mw_407) rfl rfl rfl (by decide +kernel) ⟨Nat.le_of_ble_eq_true rfl, Nat.le_of_ble_eq_true rfl⟩) ⟨fun a U g mk q => ⟨q.1, xPre_call q.2⟩, fun U hU hW => ⟨rfl, xPre_at h0 hS hP hU hW⟩⟩ rfl rfl hl.1 rfl (lv_room (Nat.le_of_ble_eq_true rfl)) dJ0_checkIndex_df160_5 ⟨Nat.zero_le _, Nat.zero_le _⟩) hS (fun q _ h => h) (fun q h => h) (fun r u t H1 locs ht hvm hw hB hz1 hq1 hS => ?_)
    obtain ⟨rfl, rfl⟩ := hw
    have hP := hB.1
    rw [ht] at hP
    refine W.widen (k := 0) (n := 0) (Nat.le_refl _) (Nat.le_refl _) ?_
    refine lv_pop hx hb dJ0_checkIndex_df160_8 rfl ?_
    obtain rfl := Option.some.inj h
    exact W.vret hx hb hr (fun t ht hW => ⟨⟨_, rfl, rfl, xPre_at h0 hS hP ht hW⟩, hS.F ht⟩) hS.2.2 dJ0_checkIndex_df160_9
  refine va_gets hx hb hF hS hown (hts _ mw_403) (fun _ h9 => h9) dJ0_checkIndex_df160_2 ?_
  obtain ⟨xq1, hfq2, h⟩ := obd h
  refine va_calli (va_runS (As := [.int p0, .int p1, .ref wt]) (rest := []) ⟨hx, hb, hml, hown, hts⟩ (kJ3_checkIndex_8e157_r l D G ub _ p0 p1 wt xq1 hfq2) (va_cwS 3 hts (lwW_gS mw_405 mw_406 mw_17 mw_407) rfl rfl rfl (by decide +kernel) ⟨Nat.le_of_ble_eq_true rfl, Nat.le_of_ble_eq_true rfl⟩) ⟨fun a U g mk q => ⟨q.1, xPre_call q.2⟩, fun U hU hW => ⟨rfl, xPre_at h0 hS hP hU hW⟩⟩ rfl rfl hl.1 rfl (lv_room (Nat.le_of_ble_eq_true rfl)) dJ0_checkIndex_df160_5 ⟨Nat.zero_le _, Nat.zero_le _⟩) hS (fun q _ h => h) (fun q h => h) (fun r u t H1 locs ht hvm hw hB hz1 hq1 hS => ?_)
  obtain ⟨rfl, rfl⟩ := hw
  have hP := hB.1
  rw [ht] at hP
  refine W.widen (k := 0) (n := 0) (Nat.le_refl _) (Nat.le_refl _) ?_
  refine lv_pop hx hb dJ0_checkIndex_df160_8 rfl ?_
  obtain rfl := Option.some.inj h
  exact W.vret hx hb hr (fun t ht hW => ⟨⟨_, rfl, rfl, xPre_at h0 hS hP ht hW⟩, hS.F ht⟩) hS.2.2 dJ0_checkIndex_df160_9
def fJ1_charAt_3b067 (p0 : Nat) (p1 : Int32) (σ : QMem) : Option (Int32 × QMem) :=
  (fJ0_checkIndex_df160 p1 (Int32.ofNat (xSl.getD p0 0)) σ).bind fun xq1 => (if (p1 < 0 ∨ xSl.getD p0 0 ≤ p1.toNatClampNeg) then none else (if ¬ (((((((xSb.getD p0 []).getD p1.toNatClampNeg 0) &&& 255).toUInt32 % 65536).toInt32).toUInt32 % 65536).toInt32 = (((((xSb.getD p0 []).getD p1.toNatClampNeg 0) &&& 255).toUInt32 % 65536).toInt32)) then none else (some (((((xSb.getD p0 []).getD p1.toNatClampNeg 0) &&& 255).toUInt32 % 65536).toInt32, xq1))))
set_option maxHeartbeats 4000000 in
set_option maxRecDepth 100000 in
theorem kJ1_charAt_3b067 (l : Launch) (D : va_G) (G : xG) (ub : xB) (σ : QMem) (p0 : Nat) (hp0 : p0 < 4) (p1 : Int32) (res : Int32 × QMem) (h : fJ1_charAt_3b067 p0 p1 σ = some res) : Met l yJ1_charAt_3b067 (.code yJ1_charAt_3b067 cJ1_charAt_3b067 2 (some .char) :: lwW) (rmD 2) (xPc D G ub σ [.ref (ub.2.2 p0), .int p1]) (xQi D G ub res) 0 0 (xA G) := by
  refine Met.ofW (cc := cJ1_charAt_3b067) (maxL := 2) (ret := (some .char)) (by decide) rfl ?_
  intro p e s m args below meth c s₁ B hml hv
  obtain ⟨rfl, h0⟩ := hv
  have hx := B.exec
  have hb := B.bytes
  have hr := B.returns
  have hts := fun (w : Cond) (hw : w ∈ lwW) => atoms_spec (ws := (.code yJ1_charAt_3b067 cJ1_charAt_3b067 2 (some .char) :: lwW)) B.pre w (List.mem_cons_of_mem _ hw)
  have hown : s.vm.findClass RJ1 = some m.cls := findClass_of_methodNamed B.named
  have hlocks := B.notSynchronized
  have hP := h0.1
  have hK := h0.2.1
  have hi := h0.2.2.1
  have hZ := h0.2.2.2
  have hN := h0.2.2.2.2.2.2.2.1
  have hV := h0.2.2.2.2.2.2.2.2.1
  have hS : va_S (xA G) s.heap s.heap [] := va_S.rf
  have hl := lv_entry ([.ref (ub.2.2 p0), .int p1]) (n := 2) (Nat.le_of_ble_eq_true rfl)
  rw [lg_entry_eq]
  generalize (lg_sl ([.ref (ub.2.2 p0), .int p1]) ++ List.replicate (2 - (lg_sl ([.ref (ub.2.2 p0), .int p1])).length) Slot.unset).toArray = ls at hl ⊢
  have hl : lv_has ls 2 [(0, .ref (ub.2.2 p0)), (1, .int p1)] := hl
  unfold fJ1_charAt_3b067 at h
  refine lv_iload_n hx hb dJ1_charAt_3b067_0 rfl (lv_at hl 1 rfl) ?_
  refine lv_aload_n hx hb dJ1_charAt_3b067_1 rfl (lv_at hl 0 rfl) ?_
  refine va_tlen hx hb (hV.1 p0 hp0).2.2.2 hS (v := Int32.ofNat (xSl.getD p0 0)) rfl dJ1_charAt_3b067_2 ?_
  obtain ⟨xq1, hfq2, h⟩ := obd h
  refine va_callv (va_runS (As := [.int p1, .int (Int32.ofNat (xSl.getD p0 0))]) (rest := []) ⟨hx, hb, hml, hown, hts⟩ (kJ0_checkIndex_df160 l D G ub _ p1 (Int32.ofNat (xSl.getD p0 0)) xq1 hfq2) (va_cwS 2 hts (lwW_gS mw_400 mw_401 mw_15 mw_402) rfl rfl rfl (by decide +kernel) ⟨Nat.le_of_ble_eq_true rfl, Nat.le_of_ble_eq_true rfl⟩) ⟨fun a U g mk q => ⟨q.1, xPre_call q.2⟩, fun U hU hW => ⟨rfl, xPre_at h0 hS hP hU hW⟩⟩ rfl rfl hl.1 rfl (lv_room (Nat.le_of_ble_eq_true rfl)) dJ1_charAt_3b067_3 ⟨Nat.zero_le _, Nat.zero_le _⟩) hS (fun q _ h => h) (fun q h => h) (fun u t H1 locs ht hvm hw hB hz1 hq1 hS => ?_)
  obtain rfl := hw.symm
  have hP := hB.1
  rw [ht] at hP
  refine W.widen (k := 0) (n := 0) (Nat.le_refl _) (Nat.le_refl _) ?_
  refine lv_aload_n hx hb dJ1_charAt_3b067_6 rfl (lv_at hl 0 rfl) ?_
  refine lv_iload_n hx hb dJ1_charAt_3b067_7 rfl (lv_at hl 1 rfl) ?_
  obtain ⟨hiq3, h⟩ := nif h
  refine va_tb hx hb (hV.1 p0 hp0).2.2.2 hS hiq3 rfl dJ1_charAt_3b067_8 ?_
  refine lv_sipush (v := 255) hx hb dJ1_charAt_3b067_9 (by decide) ?_
  refine lv_iand hx hb dJ1_charAt_3b067_12 ?_
  refine lv_i2c hx hb dJ1_charAt_3b067_13 rfl ?_
  obtain ⟨hzq4, h⟩ := nif h
  have hzq4 := Decidable.not_not.mp hzq4
  obtain rfl := Option.some.inj h
  exact W.zret hx hb hr (by rw [← hzq4]; exact pk_nc _) (fun t ht hW => ⟨⟨_, _, rfl, ⟨rfl, rfl⟩, xPre_at h0 hS hP ht hW⟩, hS.F ht⟩) hS.2.2 dJ1_charAt_3b067_14
def fJ0_charAt_5068e (p0 : Nat) (p1 : Int32) (σ : QMem) : Option (Int32 × QMem) :=
  (fJ0_isLatin1_aae02 p0 σ).bind fun xq1 => (if xq1.1 = 0 then (none) else ((fJ1_charAt_3b067 p0 p1 xq1.2).bind fun xq4 => (if ¬ ((xq4.1.toUInt32 % 65536).toInt32 = xq4.1) then none else (some (xq4.1, xq4.2)))))
set_option maxHeartbeats 4000000 in
set_option maxRecDepth 100000 in
theorem kJ0_charAt_5068e (l : Launch) (D : va_G) (G : xG) (ub : xB) (σ : QMem) (p0 : Nat) (hp0 : p0 < 4) (p1 : Int32) (res : Int32 × QMem) (h : fJ0_charAt_5068e p0 p1 σ = some res) : Met l yJ0_charAt_5068e (.code yJ0_charAt_5068e cJ0_charAt_5068e 2 (some .char) :: lwW) (rmD 3) (xPc D G ub σ [.ref (ub.2.1 p0), .int p1]) (xQi D G ub res) 0 0 (xA G) := by
  refine Met.ofW (cc := cJ0_charAt_5068e) (maxL := 2) (ret := (some .char)) (by decide) rfl ?_
  intro p e s m args below meth c s₁ B hml hv
  obtain ⟨rfl, h0⟩ := hv
  have hx := B.exec
  have hb := B.bytes
  have hr := B.returns
  have hts := fun (w : Cond) (hw : w ∈ lwW) => atoms_spec (ws := (.code yJ0_charAt_5068e cJ0_charAt_5068e 2 (some .char) :: lwW)) B.pre w (List.mem_cons_of_mem _ hw)
  have hown : s.vm.findClass RJ0 = some m.cls := findClass_of_methodNamed B.named
  have hlocks := B.notSynchronized
  have hP := h0.1
  have hK := h0.2.1
  have hi := h0.2.2.1
  have hZ := h0.2.2.2
  have hN := h0.2.2.2.2.2.2.2.1
  have hV := h0.2.2.2.2.2.2.2.2.1
  have hS : va_S (xA G) s.heap s.heap [] := va_S.rf
  have hl := lv_entry ([.ref (ub.2.1 p0), .int p1]) (n := 2) (Nat.le_of_ble_eq_true rfl)
  rw [lg_entry_eq]
  generalize (lg_sl ([.ref (ub.2.1 p0), .int p1]) ++ List.replicate (2 - (lg_sl ([.ref (ub.2.1 p0), .int p1])).length) Slot.unset).toArray = ls at hl ⊢
  have hl : lv_has ls 2 [(0, .ref (ub.2.1 p0)), (1, .int p1)] := hl
  unfold fJ0_charAt_5068e at h
  refine lv_aload_n hx hb dJ0_charAt_5068e_0 rfl (lv_at hl 0 rfl) ?_
  obtain ⟨xq1, hfq2, h⟩ := obd h
  refine va_calli (va_runV (As := []) (rest := []) ⟨hx, hb, hml, hown, hts⟩ (kJ0_isLatin1_aae02 l D G ub _ p0 hp0 xq1 hfq2) (cwV 0 hts (lwW_gV mw_393 mw_394 mw_395 mw_15 mw_396) rfl rfl rfl (by decide +kernel) ⟨Nat.le_of_ble_eq_true rfl, Nat.le_of_ble_eq_true rfl⟩) ⟨fun a U g mk q => ⟨q.1, xPre_call q.2⟩, vk_recv hV hp0 hS, fun U hU hW => ⟨rfl, xPre_at h0 hS hP hU hW⟩⟩ rfl rfl hl.1 rfl (lv_room (Nat.le_of_ble_eq_true rfl)) dJ0_charAt_5068e_1 ⟨Nat.zero_le _, Nat.zero_le _⟩) hS (fun q _ h => h) (fun q h => h) (fun r u t H1 locs ht hvm hw hB hz1 hq1 hS => ?_)
  obtain ⟨rfl, rfl⟩ := hw
  have hP := hB.1
  rw [ht] at hP
  refine W.widen (k := 0) (n := 0) (Nat.le_refl _) (Nat.le_refl _) ?_
  refine lv_if_eq (tgt := 16) hx hb dJ0_charAt_5068e_4 (by decide) (fun hcq3 => ?_) (fun hcq3 => ?_)
  · have h := ifp hcq3 h
    cases h
  have h := ifn hcq3 h
  refine lv_aload_n hx hb dJ0_charAt_5068e_7 rfl (lv_at hl 0 rfl) ?_
  refine vk_getf hx hb (hV.1 p0 hp0).2.2.1 hS hown (hts _ mw_1335) (fun _ h9 => h9) dJ0_charAt_5068e_8 ?_
  refine lv_iload_n hx hb dJ0_charAt_5068e_11 rfl (lv_at hl 1 rfl) ?_
  obtain ⟨xq4, hfq5, h⟩ := obd h
  refine va_calli (va_runS (As := [.ref (ub.2.2 p0), .int p1]) (rest := []) ⟨hx, hb, hml, hown, hts⟩ (kJ1_charAt_3b067 l D G ub _ p0 hp0 p1 xq4 hfq5) (va_cwS 2 hts (lwW_gS mw_397 mw_398 mw_16 mw_399) rfl rfl rfl (by decide +kernel) ⟨Nat.le_of_ble_eq_true rfl, Nat.le_of_ble_eq_true rfl⟩) ⟨fun a U g mk q => ⟨q.1, xPre_call q.2⟩, fun U hU hW => ⟨rfl, xPre_at h0 hS hP hU hW⟩⟩ rfl rfl hl.1 rfl (lv_room (Nat.le_of_ble_eq_true rfl)) dJ0_charAt_5068e_12 ⟨Nat.zero_le _, Nat.zero_le _⟩) hS (fun q _ h => h) (fun q h => h) (fun r u t H1 locs ht hvm hw hB hz1 hq1 hS => ?_)
  obtain ⟨rfl, rfl⟩ := hw
  have hP := hB.1
  rw [ht] at hP
  refine W.widen (k := 0) (n := 0) (Nat.le_refl _) (Nat.le_refl _) ?_
  obtain ⟨hzq6, h⟩ := nif h
  have hzq6 := Decidable.not_not.mp hzq6
  obtain rfl := Option.some.inj h
  exact W.zret hx hb hr (by rw [← hzq6]; exact pk_nc _) (fun t ht hW => ⟨⟨_, _, rfl, ⟨rfl, rfl⟩, xPre_at h0 hS hP ht hW⟩, hS.F ht⟩) hS.2.2 dJ0_charAt_5068e_15
