def fX11_write (p1 : Int32) (σ : QMem) : Option (Int32 × QMem) :=
  if p1 < 0 then (some ((-1002), σ)) else (if p1 ≤ 255 then ((fX8_isFull σ).bind fun xq3 => (if xq3.1 = 0 then ((fX8_append p1 xq3.2).bind fun xq6 => ((fX8_size xq6).bind fun xq8 => (some (xq8.1, xq8.2)))) else (some ((-1004), xq3.2)))) else (some ((-1002), σ)))
set_option maxHeartbeats 4000000 in
set_option maxRecDepth 100000 in
theorem kX11_write (l : Launch) (D : va_G) (G : xG) (ub : xB) (σ : QMem) (p1 : Int32) (res : Int32 × QMem) (h : fX11_write p1 σ = some res) : Met l yX11_write (.code yX11_write cX11_write 2 (some .int) :: lwW) (rmD 1) (xPc D G ub σ [.ref (G.1 105), .int p1]) (xQi D G ub res) 0 0 (xA G) := by
  refine Met.ofW (cc := cX11_write) (maxL := 2) (ret := (some .int)) (by decide) rfl ?_
  intro p e s m args below meth c s₁ B hml hv
  obtain ⟨rfl, h0⟩ := hv
  have hx := B.exec
  have hb := B.bytes
  have hr := B.returns
  have hts := fun (w : Cond) (hw : w ∈ lwW) => atoms_spec (ws := (.code yX11_write cX11_write 2 (some .int) :: lwW)) B.pre w (List.mem_cons_of_mem _ hw)
  have hown : s.vm.findClass RX11 = some m.cls := findClass_of_methodNamed B.named
  have hlocks := B.notSynchronized
  have hP := h0.1
  have hK := h0.2.1
  have hi := h0.2.2.1
  have hZ := h0.2.2.2
  have hN := h0.2.2.2.2.2.2.2.1
  have hV := h0.2.2.2.2.2.2.2.2.1
  have hS : va_S (xA G) s.heap s.heap [] := va_S.rf
  have hl := lv_entry ([.ref (G.1 105), .int p1]) (n := 2) (Nat.le_of_ble_eq_true rfl)
  rw [lg_entry_eq]
  generalize (lg_sl ([.ref (G.1 105), .int p1]) ++ List.replicate (2 - (lg_sl ([.ref (G.1 105), .int p1])).length) Slot.unset).toArray = ls at hl ⊢
  have hl : lv_has ls 2 [(0, .ref (G.1 105)), (1, .int p1)] := hl
  unfold fX11_write at h
  refine lv_iload_n hx hb dX11_write_0 rfl (lv_at hl 1 rfl) ?_
  refine lv_if_lt (tgt := 11) hx hb dX11_write_1 (by decide) (fun hcq1 => ?_) (fun hcq1 => ?_)
  · have h := ifp hcq1 h
    refine lv_sipush (v := (-1002)) hx hb dX11_write_11 (by decide) ?_
    obtain rfl := Option.some.inj h
    exact W.iret (v := (-1002)) hx hb hr (fun t ht hW => ⟨⟨_, _, rfl, ⟨rfl, rfl⟩, xPre_at h0 hS hP ht hW⟩, hS.F ht⟩) hS.2.2 dX11_write_14
  have h := ifn hcq1 h
  refine lv_iload_n hx hb dX11_write_4 rfl (lv_at hl 1 rfl) ?_
  refine lv_sipush (v := 255) hx hb dX11_write_5 (by decide) ?_
  refine lv_icmp_le (tgt := 15) hx hb dX11_write_8 (by decide) (fun hcq2 => ?_) (fun hcq2 => ?_)
  · have h := ifp hcq2 h
    refine lv_aload_n hx hb dX11_write_15 rfl (lv_at hl 0 rfl) ?_
    refine va_get (D := D) (ci := 11) (v := .ref (G.1 109)) (C := RX11) (T := TX11) (N := 13) hx hb hts iwX11 hown hK hP 105 (xg_7 rfl) rfl 4 (by decide) (hts _ mw_286) (fun _ h9 => h9) rfl dX11_write_16 ?_
    obtain ⟨xq3, hfq4, h⟩ := obd h
    refine va_calli (va_runV (As := []) (rest := []) ⟨hx, hb, hml, hown, hts⟩ (kX8_isFull l D G ub _ xq3 hfq4) (cwV 0 hts (lwW_gV mw_326 mw_327 mw_328 mw_7 mw_329) rfl rfl rfl (by decide +kernel) ⟨Nat.le_of_ble_eq_true rfl, Nat.le_of_ble_eq_true rfl⟩) ⟨fun a U g mk q => ⟨q.1, xPre_call q.2⟩, va_recv hK hP rfl (xg_11 rfl), fun U hU hW => ⟨rfl, xPre_at h0 hS hP hU hW⟩⟩ rfl rfl hl.1 rfl (lv_room (Nat.le_of_ble_eq_true rfl)) dX11_write_19 ⟨Nat.zero_le _, Nat.zero_le _⟩) hS (fun q _ h => h) (fun q h => h) (fun r u t H1 locs ht hvm hw hB hz1 hq1 hS => ?_)
    obtain ⟨rfl, rfl⟩ := hw
    have hP := hB.1
    rw [ht] at hP
    refine W.widen (k := 0) (n := 0) (Nat.le_refl _) (Nat.le_refl _) ?_
    refine lv_if_eq (tgt := 29) hx hb dX11_write_22 (by decide) (fun hcq5 => ?_) (fun hcq5 => ?_)
    · have h := ifp hcq5 h
      refine lv_aload_n hx hb dX11_write_29 rfl (lv_at hl 0 rfl) ?_
      refine va_get (D := D) (ci := 11) (v := .ref (G.1 109)) (C := RX11) (T := TX11) (N := 13) hx hb hts iwX11 hown hK hP 105 (xg_7 rfl) rfl 4 (by decide) (hts _ mw_286) (fun _ h9 => h9) rfl dX11_write_30 ?_
      refine lv_iload_n hx hb dX11_write_33 rfl (lv_at hl 1 rfl) ?_
      obtain ⟨xq6, hfq7, h⟩ := obd h
      refine va_callv (va_runV (As := [.int p1]) (rest := []) ⟨hx, hb, hml, hown, hts⟩ (kX8_append l D G ub _ p1 xq6 hfq7) (cwV 1 hts (lwW_gV mw_330 mw_331 mw_332 mw_7 mw_333) rfl rfl rfl (by decide +kernel) ⟨Nat.le_of_ble_eq_true rfl, Nat.le_of_ble_eq_true rfl⟩) ⟨fun a U g mk q => ⟨q.1, xPre_call q.2⟩, va_recv hK hP rfl (xg_11 rfl), fun U hU hW => ⟨rfl, xPre_at h0 hS hP hU hW⟩⟩ rfl rfl hl.1 rfl (lv_room (Nat.le_of_ble_eq_true rfl)) dX11_write_34 ⟨Nat.zero_le _, Nat.zero_le _⟩) hS (fun q _ h => h) (fun q h => h) (fun u t H1 locs ht hvm hw hB hz1 hq1 hS => ?_)
      obtain rfl := hw.symm
      have hP := hB.1
      rw [ht] at hP
      refine W.widen (k := 0) (n := 0) (Nat.le_refl _) (Nat.le_refl _) ?_
      refine lv_aload_n hx hb dX11_write_37 rfl (lv_at hl 0 rfl) ?_
      refine va_get (D := D) (ci := 11) (v := .ref (G.1 109)) (C := RX11) (T := TX11) (N := 13) hx hb hts iwX11 hown hK hP 105 (xg_7 rfl) rfl 4 (by decide) (hts _ mw_286) (fun _ h9 => h9) rfl dX11_write_38 ?_
      obtain ⟨xq8, hfq9, h⟩ := obd h
      refine va_calli (va_runV (As := []) (rest := []) ⟨hx, hb, hml, hown, hts⟩ (kX8_size l D G ub _ xq8 hfq9) (cwV 0 hts (lwW_gV mw_334 mw_335 mw_336 mw_7 mw_337) rfl rfl rfl (by decide +kernel) ⟨Nat.le_of_ble_eq_true rfl, Nat.le_of_ble_eq_true rfl⟩) ⟨fun a U g mk q => ⟨q.1, xPre_call q.2⟩, va_recv hK hP rfl (xg_11 rfl), fun U hU hW => ⟨rfl, xPre_at h0 hS hP hU hW⟩⟩ rfl rfl hl.1 rfl (lv_room (Nat.le_of_ble_eq_true rfl)) dX11_write_41 ⟨Nat.zero_le _, Nat.zero_le _⟩) hS (fun q _ h => h) (fun q h => h) (fun r u t H1 locs ht hvm hw hB hz1 hq1 hS => ?_)
      obtain ⟨rfl, rfl⟩ := hw
      have hP := hB.1
      rw [ht] at hP
      refine W.widen (k := 0) (n := 0) (Nat.le_refl _) (Nat.le_refl _) ?_
      obtain rfl := Option.some.inj h
      exact W.iret (v := xq8.1) hx hb hr (fun t ht hW => ⟨⟨_, _, rfl, ⟨rfl, rfl⟩, xPre_at h0 hS hP ht hW⟩, hS.F ht⟩) hS.2.2 dX11_write_44
    have h := ifn hcq5 h
    refine lv_sipush (v := (-1004)) hx hb dX11_write_25 (by decide) ?_
    obtain rfl := Option.some.inj h
    exact W.iret (v := (-1004)) hx hb hr (fun t ht hW => ⟨⟨_, _, rfl, ⟨rfl, rfl⟩, xPre_at h0 hS hP ht hW⟩, hS.F ht⟩) hS.2.2 dX11_write_28
  have h := ifn hcq2 h
  refine lv_sipush (v := (-1002)) hx hb dX11_write_11 (by decide) ?_
  obtain rfl := Option.some.inj h
  exact W.iret (v := (-1002)) hx hb hr (fun t ht hW => ⟨⟨_, _, rfl, ⟨rfl, rfl⟩, xPre_at h0 hS hP ht hW⟩, hS.F ht⟩) hS.2.2 dX11_write_14
def fX11_erase  (σ : QMem) : Option (Int32 × QMem) :=
  (fX8_size σ).bind fun xq1 => ((fX8_clear xq1.2).bind fun xq3 => (some (xq1.1, xq3)))
set_option maxHeartbeats 4000000 in
set_option maxRecDepth 100000 in
theorem kX11_erase (l : Launch) (D : va_G) (G : xG) (ub : xB) (σ : QMem) (res : Int32 × QMem) (h : fX11_erase σ = some res) : Met l yX11_erase (.code yX11_erase cX11_erase 2 (some .int) :: lwW) (rmD 1) (xPc D G ub σ [.ref (G.1 105)]) (xQi D G ub res) 0 0 (xA G) := by
  refine Met.ofW (cc := cX11_erase) (maxL := 2) (ret := (some .int)) (by decide) rfl ?_
  intro p e s m args below meth c s₁ B hml hv
  obtain ⟨rfl, h0⟩ := hv
  have hx := B.exec
  have hb := B.bytes
  have hr := B.returns
  have hts := fun (w : Cond) (hw : w ∈ lwW) => atoms_spec (ws := (.code yX11_erase cX11_erase 2 (some .int) :: lwW)) B.pre w (List.mem_cons_of_mem _ hw)
  have hown : s.vm.findClass RX11 = some m.cls := findClass_of_methodNamed B.named
  have hlocks := B.notSynchronized
  have hP := h0.1
  have hK := h0.2.1
  have hi := h0.2.2.1
  have hZ := h0.2.2.2
  have hN := h0.2.2.2.2.2.2.2.1
  have hV := h0.2.2.2.2.2.2.2.2.1
  have hS : va_S (xA G) s.heap s.heap [] := va_S.rf
  have hl := lv_entry ([.ref (G.1 105)]) (n := 2) (Nat.le_of_ble_eq_true rfl)
  rw [lg_entry_eq]
  generalize (lg_sl ([.ref (G.1 105)]) ++ List.replicate (2 - (lg_sl ([.ref (G.1 105)])).length) Slot.unset).toArray = ls at hl ⊢
  have hl : lv_has ls 2 [(0, .ref (G.1 105))] := hl
  unfold fX11_erase at h
  refine lv_aload_n hx hb dX11_erase_0 rfl (lv_at hl 0 rfl) ?_
  refine va_get (D := D) (ci := 11) (v := .ref (G.1 109)) (C := RX11) (T := TX11) (N := 13) hx hb hts iwX11 hown hK hP 105 (xg_7 rfl) rfl 4 (by decide) (hts _ mw_286) (fun _ h9 => h9) rfl dX11_erase_1 ?_
  obtain ⟨xq1, hfq2, h⟩ := obd h
  refine va_calli (va_runV (As := []) (rest := []) ⟨hx, hb, hml, hown, hts⟩ (kX8_size l D G ub _ xq1 hfq2) (cwV 0 hts (lwW_gV mw_334 mw_335 mw_336 mw_7 mw_337) rfl rfl rfl (by decide +kernel) ⟨Nat.le_of_ble_eq_true rfl, Nat.le_of_ble_eq_true rfl⟩) ⟨fun a U g mk q => ⟨q.1, xPre_call q.2⟩, va_recv hK hP rfl (xg_11 rfl), fun U hU hW => ⟨rfl, xPre_at h0 hS hP hU hW⟩⟩ rfl rfl hl.1 rfl (lv_room (Nat.le_of_ble_eq_true rfl)) dX11_erase_4 ⟨Nat.zero_le _, Nat.zero_le _⟩) hS (fun q _ h => h) (fun q h => h) (fun r u t H1 locs ht hvm hw hB hz1 hq1 hS => ?_)
  obtain ⟨rfl, rfl⟩ := hw
  have hP := hB.1
  rw [ht] at hP
  refine W.widen (k := 0) (n := 0) (Nat.le_refl _) (Nat.le_refl _) ?_
  refine lv_istore_n (lv' := [(1, .int xq1.1), (0, .ref (G.1 105))]) hx hb dX11_erase_7 rfl hl (by decide) rfl (fun ls hl => ?_)
  refine lv_aload_n hx hb dX11_erase_8 rfl (lv_at hl 1 rfl) ?_
  refine va_get (D := D) (ci := 11) (v := .ref (G.1 109)) (C := RX11) (T := TX11) (N := 13) hx hb hts iwX11 hown hK hP 105 (xg_7 rfl) rfl 4 (by decide) (hts _ mw_286) (fun _ h9 => h9) rfl dX11_erase_9 ?_
  obtain ⟨xq3, hfq4, h⟩ := obd h
  refine va_callv (va_runV (As := []) (rest := []) ⟨hx, hb, hml, hown, hts⟩ (kX8_clear l D G ub _ xq3 hfq4) (cwV 0 hts (lwW_gV mw_342 mw_343 mw_344 mw_7 mw_345) rfl rfl rfl (by decide +kernel) ⟨Nat.le_of_ble_eq_true rfl, Nat.le_of_ble_eq_true rfl⟩) ⟨fun a U g mk q => ⟨q.1, xPre_call q.2⟩, va_recv hK hP rfl (xg_11 rfl), fun U hU hW => ⟨rfl, xPre_at h0 hS hP hU hW⟩⟩ rfl rfl hl.1 rfl (lv_room (Nat.le_of_ble_eq_true rfl)) dX11_erase_12 ⟨Nat.zero_le _, Nat.zero_le _⟩) hS (fun q _ h => h) (fun q h => h) (fun u t H1 locs ht hvm hw hB hz1 hq1 hS => ?_)
  obtain rfl := hw.symm
  have hP := hB.1
  rw [ht] at hP
  refine W.widen (k := 0) (n := 0) (Nat.le_refl _) (Nat.le_refl _) ?_
  refine lv_iload_n hx hb dX11_erase_15 rfl (lv_at hl 0 rfl) ?_
  obtain rfl := Option.some.inj h
  exact W.iret (v := xq1.1) hx hb hr (fun t ht hW => ⟨⟨_, _, rfl, ⟨rfl, rfl⟩, xPre_at h0 hS hP ht hW⟩, hS.F ht⟩) hS.2.2 dX11_erase_16
def fX11_fault  (σ : QMem) : Option (Int32 × QMem) :=
  (fX8_findFault σ).bind fun xq1 => (some (xq1.1, xq1.2))
set_option maxHeartbeats 4000000 in
set_option maxRecDepth 100000 in
theorem kX11_fault (l : Launch) (D : va_G) (G : xG) (ub : xB) (σ : QMem) (res : Int32 × QMem) (h : fX11_fault σ = some res) : Met l yX11_fault (.code yX11_fault cX11_fault 1 (some .int) :: lwW) (rmD 7) (xPc D G ub σ [.ref (G.1 105)]) (xQi D G ub res) 0 0 (xA G) := by
  refine Met.ofW (cc := cX11_fault) (maxL := 1) (ret := (some .int)) (by decide) rfl ?_
  intro p e s m args below meth c s₁ B hml hv
  obtain ⟨rfl, h0⟩ := hv
  have hx := B.exec
  have hb := B.bytes
  have hr := B.returns
  have hts := fun (w : Cond) (hw : w ∈ lwW) => atoms_spec (ws := (.code yX11_fault cX11_fault 1 (some .int) :: lwW)) B.pre w (List.mem_cons_of_mem _ hw)
  have hown : s.vm.findClass RX11 = some m.cls := findClass_of_methodNamed B.named
  have hlocks := B.notSynchronized
  have hP := h0.1
  have hK := h0.2.1
  have hi := h0.2.2.1
  have hZ := h0.2.2.2
  have hN := h0.2.2.2.2.2.2.2.1
  have hV := h0.2.2.2.2.2.2.2.2.1
  have hS : va_S (xA G) s.heap s.heap [] := va_S.rf
  have hl := lv_entry ([.ref (G.1 105)]) (n := 1) (Nat.le_of_ble_eq_true rfl)
  rw [lg_entry_eq]
  generalize (lg_sl ([.ref (G.1 105)]) ++ List.replicate (1 - (lg_sl ([.ref (G.1 105)])).length) Slot.unset).toArray = ls at hl ⊢
  have hl : lv_has ls 1 [(0, .ref (G.1 105))] := hl
  unfold fX11_fault at h
  refine lv_aload_n hx hb dX11_fault_0 rfl (lv_at hl 0 rfl) ?_
  refine va_get (D := D) (ci := 11) (v := .ref (G.1 109)) (C := RX11) (T := TX11) (N := 13) hx hb hts iwX11 hown hK hP 105 (xg_7 rfl) rfl 4 (by decide) (hts _ mw_286) (fun _ h9 => h9) rfl dX11_fault_1 ?_
  obtain ⟨xq1, hfq2, h⟩ := obd h
  refine va_calli (va_runV (As := []) (rest := []) ⟨hx, hb, hml, hown, hts⟩ (kX8_findFault l D G ub _ xq1 hfq2) (cwV 0 hts (lwW_gV mw_350 mw_351 mw_352 mw_7 mw_353) rfl rfl rfl (by decide +kernel) ⟨Nat.le_of_ble_eq_true rfl, Nat.le_of_ble_eq_true rfl⟩) ⟨fun a U g mk q => ⟨q.1, xPre_call q.2⟩, va_recv hK hP rfl (xg_11 rfl), fun U hU hW => ⟨rfl, xPre_at h0 hS hP hU hW⟩⟩ rfl rfl hl.1 rfl (lv_room (Nat.le_of_ble_eq_true rfl)) dX11_fault_4 ⟨Nat.zero_le _, Nat.zero_le _⟩) hS (fun q _ h => h) (fun q h => h) (fun r u t H1 locs ht hvm hw hB hz1 hq1 hS => ?_)
  obtain ⟨rfl, rfl⟩ := hw
  have hP := hB.1
  rw [ht] at hP
  refine W.widen (k := 0) (n := 0) (Nat.le_refl _) (Nat.le_refl _) ?_
  obtain rfl := Option.some.inj h
  exact W.iret (v := xq1.1) hx hb hr (fun t ht hW => ⟨⟨_, _, rfl, ⟨rfl, rfl⟩, xPre_at h0 hS hP ht hW⟩, hS.F ht⟩) hS.2.2 dX11_fault_7
def fX11_isSlot (p0 : Int32) : Option (Int32) :=
  if p0 < 0 then (some 0) else (if 6 ≤ p0 then (some 0) else (some 1))
set_option maxHeartbeats 4000000 in
set_option maxRecDepth 100000 in
theorem kX11_isSlot (l : Launch) (p0 : Int32) (res : Int32) (h : fX11_isSlot p0 = some res) : Met l yX11_isSlot (.code yX11_isSlot cX11_isSlot 1 (some .boolean) :: lwW) (rmD 0) (nPc [.int p0]) (nQi res) 0 0 (fun _ => False) := by
  refine Met.ofW (cc := cX11_isSlot) (maxL := 1) (ret := (some .boolean)) (by decide) rfl ?_
  intro p e s m args below meth c s₁ B hml hv
  obtain ⟨rfl, h0⟩ := hv
  have hx := B.exec
  have hb := B.bytes
  have hr := B.returns
  have hts := fun (w : Cond) (hw : w ∈ lwW) => atoms_spec (ws := (.code yX11_isSlot cX11_isSlot 1 (some .boolean) :: lwW)) B.pre w (List.mem_cons_of_mem _ hw)
  have hown : s.vm.findClass RX11 = some m.cls := findClass_of_methodNamed B.named
  have hlocks := B.notSynchronized
  have hS : va_S (fun _ => False) s.heap s.heap [] := va_S.rf
  have hl := lv_entry ([.int p0]) (n := 1) (Nat.le_of_ble_eq_true rfl)
  rw [lg_entry_eq]
  generalize (lg_sl ([.int p0]) ++ List.replicate (1 - (lg_sl ([.int p0])).length) Slot.unset).toArray = ls at hl ⊢
  have hl : lv_has ls 1 [(0, .int p0)] := hl
  unfold fX11_isSlot at h
  refine lv_iload_n hx hb dX11_isSlot_0 rfl (lv_at hl 0 rfl) ?_
  refine lv_if_lt (tgt := 14) hx hb dX11_isSlot_1 (by decide) (fun hcq1 => ?_) (fun hcq1 => ?_)
  · have h := ifp hcq1 h
    refine lv_iconst (v := 0) hx hb dX11_isSlot_14 (by decide) ?_
    obtain rfl := Option.some.inj h
    exact W.zret hx hb hr rfl (fun t ht hW => ⟨⟨_, (), rfl, rfl, trivial⟩, hS.F ht⟩) hS.2.2 dX11_isSlot_15
  have h := ifn hcq1 h
  refine lv_iload_n hx hb dX11_isSlot_4 rfl (lv_at hl 0 rfl) ?_
  refine lv_bipush (v := 6) hx hb dX11_isSlot_5 (by decide) ?_
  refine lv_icmp_ge (tgt := 14) hx hb dX11_isSlot_7 (by decide) (fun hcq2 => ?_) (fun hcq2 => ?_)
  · have h := ifp hcq2 h
    refine lv_iconst (v := 0) hx hb dX11_isSlot_14 (by decide) ?_
    obtain rfl := Option.some.inj h
    exact W.zret hx hb hr rfl (fun t ht hW => ⟨⟨_, (), rfl, rfl, trivial⟩, hS.F ht⟩) hS.2.2 dX11_isSlot_15
  have h := ifn hcq2 h
  refine lv_iconst (v := 1) hx hb dX11_isSlot_10 (by decide) ?_
  refine lv_goto (tgt := 15) hx hb dX11_isSlot_11 (by decide) ?_
  obtain rfl := Option.some.inj h
  exact W.zret hx hb hr rfl (fun t ht hW => ⟨⟨_, (), rfl, rfl, trivial⟩, hS.F ht⟩) hS.2.2 dX11_isSlot_15
def fX11_doClause_L71 (p1 : Int32) : Nat → Int32 → QMem → Option (QMem)
  | 0, _, _ => none
  | n + 1, v4, τ =>
  if 6 ≤ v4 then (some τ) else (if (v4 < 0 ∨ xl 102 ≤ v4.toNatClampNeg) then none else ((fX6_put (xb 102 + v4.toNatClampNeg) 0 0 0 0 τ).bind fun xq3 => ((fX11_doClause_L71 p1 n) (v4 + 1) xq3)))
def fX11_doClause (p1 : Int32) (σ : QMem) : Option (QMem) :=
  (fX8_word p1 1 σ).bind fun xq5 => ((fX8_word p1 2 xq5.2).bind fun xq7 => ((fX11_isSlot xq5.1).bind fun xq9 => (if xq9 = 0 then (some xq7.2) else ((fX8_word p1 0 xq7.2).bind fun xq12 => (if xq12.1 = 0 then (fX11_doClause_L71 p1 FU 0 xq12.2) else (if xq12.1 = 1 then (if (xq5.1 < 0 ∨ xl 102 ≤ xq5.1.toNatClampNeg) then none else ((fX8_word p1 3 xq12.2).bind fun xq17 => ((fX8_word p1 4 xq17.2).bind fun xq19 => ((fX8_word p1 5 xq19.2).bind fun xq21 => ((fX6_put (xb 102 + xq5.1.toNatClampNeg) xq7.1 xq17.1 xq19.1 xq21.1 xq21.2).bind fun xq23 => (some xq23)))))) else (if xq12.1 = 2 then (if (xq5.1 < 0 ∨ xl 102 ≤ xq5.1.toNatClampNeg) then none else ((fX6_putUnit (xb 102 + xq5.1.toNatClampNeg) xq7.1 xq12.2).bind fun xq27 => (some xq27))) else (if xq12.1 = 3 then ((fX11_isSlot xq7.1).bind fun xq30 => (if xq30 = 0 then (some xq12.2) else (if (xq5.1 < 0 ∨ xl 102 ≤ xq5.1.toNatClampNeg) then none else (if (xq7.1 < 0 ∨ xl 102 ≤ xq7.1.toNatClampNeg) then none else ((fX6_copyFrom (xb 102 + xq5.1.toNatClampNeg) (xb 102 + xq7.1.toNatClampNeg) xq12.2).bind fun xq35 => (some xq35)))))) else (some xq12.2)))))))))
set_option maxHeartbeats 4000000 in
set_option maxRecDepth 100000 in
theorem kX11_doClause (l : Launch) (D : va_G) (G : xG) (ub : xB) (σ : QMem) (p1 : Int32) (res : QMem) (h : fX11_doClause p1 σ = some res) : Met l yX11_doClause (.code yX11_doClause cX11_doClause 5 none :: lwW) (rmD 2) (xPc D G ub σ [.ref (G.1 105), .int p1]) (xQv D G ub res) 0 0 (xA G) := by
  refine Met.ofW (cc := cX11_doClause) (maxL := 5) (ret := none) (by decide) rfl ?_
  intro p e s m args below meth c s₁ B hml hv
  obtain ⟨rfl, h0⟩ := hv
  have hx := B.exec
  have hb := B.bytes
  have hr := B.returns
  have hts := fun (w : Cond) (hw : w ∈ lwW) => atoms_spec (ws := (.code yX11_doClause cX11_doClause 5 none :: lwW)) B.pre w (List.mem_cons_of_mem _ hw)
  have hown : s.vm.findClass RX11 = some m.cls := findClass_of_methodNamed B.named
  have hlocks := B.notSynchronized
  have hP := h0.1
  have hK := h0.2.1
  have hi := h0.2.2.1
  have hZ := h0.2.2.2
  have hN := h0.2.2.2.2.2.2.2.1
  have hV := h0.2.2.2.2.2.2.2.2.1
  have hS : va_S (xA G) s.heap s.heap [] := va_S.rf
  have hl := lv_entry ([.ref (G.1 105), .int p1]) (n := 5) (Nat.le_of_ble_eq_true rfl)
  rw [lg_entry_eq]
  generalize (lg_sl ([.ref (G.1 105), .int p1]) ++ List.replicate (5 - (lg_sl ([.ref (G.1 105), .int p1])).length) Slot.unset).toArray = ls at hl ⊢
  have hl : lv_has ls 5 [(0, .ref (G.1 105)), (1, .int p1)] := hl
  unfold fX11_doClause at h
  have L71 : ∀ (n71 : Nat) (v4 : Int32) (τ : QMem) (H : Heap) (locs : List Loc) (ls : Array Slot), fX11_doClause_L71 p1 n71 v4 τ = some res → va_P D vwCl (xW G τ) H → va_S (xA G) s.heap H locs → lv_has ls 5 [(0, .ref (G.1 105)), (4, .int v4)] → W p l e (headSpec (.code yX11_doClause cX11_doClause 5 none :: lwW) (rmD 2)).room s m ([.ref (G.1 105), .int p1] : List Value).toArray below meth c H locs 0 0 (MQ below (xQv D G ub res) ([.ref (G.1 105), .int p1] : List Value).toArray s 0 0 (xA G)) (F0 m 71 ls []) := by
    intro n71
    induction n71 with
    | zero => intro v4 τ H locs ls h; rw [fX11_doClause_L71] at h; cases h
    | succ n71 ih71 =>
      intro v4 τ H locs ls h hP hS hl
      rw [fX11_doClause_L71] at h
      refine lv_iload hx hb dX11_doClause_71 (lv_at hl 1 rfl) ?_
      refine lv_bipush (v := 6) hx hb dX11_doClause_73 (by decide) ?_
      refine lv_icmp_ge (tgt := 98) hx hb dX11_doClause_75 (by decide) (fun hcq1 => ?_) (fun hcq1 => ?_)
      · have h := ifp hcq1 h
        refine lv_goto (tgt := 179) hx hb dX11_doClause_98 (by decide) ?_
        obtain rfl := Option.some.inj h
        exact W.vret hx hb hr (fun t ht hW => ⟨⟨_, rfl, rfl, xPre_at h0 hS hP ht hW⟩, hS.F ht⟩) hS.2.2 dX11_doClause_179
      have h := ifn hcq1 h
      refine lv_aload_n hx hb dX11_doClause_78 rfl (lv_at hl 0 rfl) ?_
      refine va_get (D := D) (ci := 11) (v := .ref (G.1 102)) (C := RX11) (T := TX11) (N := 13) hx hb hts iwX11 hown hK hP 105 (xg_7 rfl) rfl 0 (by decide) (hts _ mw_282) (fun _ h9 => h9) rfl dX11_doClause_79 ?_
      refine lv_iload hx hb dX11_doClause_82 (lv_at hl 1 rfl) ?_
      obtain ⟨hiq2, h⟩ := nif h
      refine va_aldq hx hb hK hP 102 1 (xg_6 rfl) rfl hiq2 dX11_doClause_84 ?_
      refine W.eq (g2 := F0 m 85 ls [.ref (G.1 (xb 102 + v4.toNatClampNeg))]) rfl ?_
      refine lv_iconst (v := 0) hx hb dX11_doClause_85 (by decide) ?_
      refine lv_iconst (v := 0) hx hb dX11_doClause_86 (by decide) ?_
      refine lv_iconst (v := 0) hx hb dX11_doClause_87 (by decide) ?_
      refine lv_iconst (v := 0) hx hb dX11_doClause_88 (by decide) ?_
      obtain ⟨xq3, hfq4, h⟩ := obd h
      refine va_callv (va_runV (As := [.int 0, .int 0, .int 0, .int 0]) (rest := []) ⟨hx, hb, hml, hown, hts⟩ (kX6_put l D G ub _ (xb 102 + v4.toNatClampNeg) (xr6 rfl (vp_lt hiq2)) 0 0 0 0 xq3 hfq4) (cwV 4 hts (lwW_gV mw_466 mw_467 mw_468 mw_3 mw_469) rfl rfl rfl (by decide +kernel) ⟨Nat.le_of_ble_eq_true rfl, Nat.le_of_ble_eq_true rfl⟩) ⟨fun a U g mk q => ⟨q.1, xPre_call q.2⟩, va_recv hK hP rfl (xg_0 (xr6 rfl (vp_lt hiq2))), fun U hU hW => ⟨rfl, xPre_at h0 hS hP hU hW⟩⟩ rfl rfl hl.1 rfl (lv_room (Nat.le_of_ble_eq_true rfl)) dX11_doClause_89 ⟨Nat.zero_le _, Nat.zero_le _⟩) hS (fun q _ h => h) (fun q h => h) (fun u t H1 locs ht hvm hw hB hz1 hq1 hS => ?_)
      obtain rfl := hw.symm
      have hP := hB.1
      rw [ht] at hP
      refine W.widen (k := 0) (n := 0) (Nat.le_refl _) (Nat.le_refl _) ?_
      refine lv_iinc (v := v4 + 1) (lv' := [(4, .int (v4 + 1)), (0, .ref (G.1 105))]) hx hb dX11_doClause_92 hl (k := 1) rfl rfl (by decide) rfl (fun ls hl => ?_)
      refine lv_goto (tgt := 71) hx hb dX11_doClause_95 (by decide) ?_
      exact ih71 (v4 + 1) _ _ _ _ h hP hS (lv_sub hl [1, 0] rfl)
  refine lv_aload_n hx hb dX11_doClause_0 rfl (lv_at hl 0 rfl) ?_
  refine va_get (D := D) (ci := 11) (v := .ref (G.1 109)) (C := RX11) (T := TX11) (N := 13) hx hb hts iwX11 hown hK hP 105 (xg_7 rfl) rfl 4 (by decide) (hts _ mw_286) (fun _ h9 => h9) rfl dX11_doClause_1 ?_
  refine lv_iload_n hx hb dX11_doClause_4 rfl (lv_at hl 1 rfl) ?_
  refine lv_iconst (v := 1) hx hb dX11_doClause_5 (by decide) ?_
  obtain ⟨xq5, hfq6, h⟩ := obd h
  refine va_calli (va_runV (As := [.int p1, .int 1]) (rest := []) ⟨hx, hb, hml, hown, hts⟩ (kX8_word l D G ub _ p1 1 xq5 hfq6) (cwV 2 hts (lwW_gV mw_459 mw_460 mw_461 mw_7 mw_462) rfl rfl rfl (by decide +kernel) ⟨Nat.le_of_ble_eq_true rfl, Nat.le_of_ble_eq_true rfl⟩) ⟨fun a U g mk q => ⟨q.1, xPre_call q.2⟩, va_recv hK hP rfl (xg_11 rfl), fun U hU hW => ⟨rfl, xPre_at h0 hS hP hU hW⟩⟩ rfl rfl hl.1 rfl (lv_room (Nat.le_of_ble_eq_true rfl)) dX11_doClause_6 ⟨Nat.zero_le _, Nat.zero_le _⟩) hS (fun q _ h => h) (fun q h => h) (fun r u t H1 locs ht hvm hw hB hz1 hq1 hS => ?_)
  obtain ⟨rfl, rfl⟩ := hw
  have hP := hB.1
  rw [ht] at hP
  refine W.widen (k := 0) (n := 0) (Nat.le_refl _) (Nat.le_refl _) ?_
  refine lv_istore_n (lv' := [(2, .int xq5.1), (0, .ref (G.1 105)), (1, .int p1)]) hx hb dX11_doClause_9 rfl hl (by decide) rfl (fun ls hl => ?_)
  refine lv_aload_n hx hb dX11_doClause_10 rfl (lv_at hl 1 rfl) ?_
  refine va_get (D := D) (ci := 11) (v := .ref (G.1 109)) (C := RX11) (T := TX11) (N := 13) hx hb hts iwX11 hown hK hP 105 (xg_7 rfl) rfl 4 (by decide) (hts _ mw_286) (fun _ h9 => h9) rfl dX11_doClause_11 ?_
  refine lv_iload_n hx hb dX11_doClause_14 rfl (lv_at hl 2 rfl) ?_
  refine lv_iconst (v := 2) hx hb dX11_doClause_15 (by decide) ?_
  obtain ⟨xq7, hfq8, h⟩ := obd h
  refine va_calli (va_runV (As := [.int p1, .int 2]) (rest := []) ⟨hx, hb, hml, hown, hts⟩ (kX8_word l D G ub _ p1 2 xq7 hfq8) (cwV 2 hts (lwW_gV mw_459 mw_460 mw_461 mw_7 mw_462) rfl rfl rfl (by decide +kernel) ⟨Nat.le_of_ble_eq_true rfl, Nat.le_of_ble_eq_true rfl⟩) ⟨fun a U g mk q => ⟨q.1, xPre_call q.2⟩, va_recv hK hP rfl (xg_11 rfl), fun U hU hW => ⟨rfl, xPre_at h0 hS hP hU hW⟩⟩ rfl rfl hl.1 rfl (lv_room (Nat.le_of_ble_eq_true rfl)) dX11_doClause_16 ⟨Nat.zero_le _, Nat.zero_le _⟩) hS (fun q _ h => h) (fun q h => h) (fun r u t H1 locs ht hvm hw hB hz1 hq1 hS => ?_)
  obtain ⟨rfl, rfl⟩ := hw
  have hP := hB.1
  rw [ht] at hP
  refine W.widen (k := 0) (n := 0) (Nat.le_refl _) (Nat.le_refl _) ?_
  refine lv_istore_n (lv' := [(3, .int xq7.1), (2, .int xq5.1), (0, .ref (G.1 105)), (1, .int p1)]) hx hb dX11_doClause_19 rfl hl (by decide) rfl (fun ls hl => ?_)
  refine lv_iload_n hx hb dX11_doClause_20 rfl (lv_at hl 1 rfl) ?_
  obtain ⟨xq9, hfq10, h⟩ := obd h
  refine va_calli (va_runS (As := [.int xq5.1]) (rest := []) ⟨hx, hb, hml, hown, hts⟩ (kX11_isSlot l xq5.1 xq9 hfq10) (va_cwS 1 hts (lwW_gS mw_463 mw_464 mw_1 mw_465) rfl rfl rfl (by decide +kernel) ⟨Nat.le_of_ble_eq_true rfl, Nat.le_of_ble_eq_true rfl⟩) ⟨fun a U g mk q => ⟨q.1, trivial⟩, fun U hU hW => ⟨rfl, trivial⟩⟩ rfl rfl hl.1 rfl (lv_room (Nat.le_of_ble_eq_true rfl)) dX11_doClause_21 ⟨Nat.zero_le _, Nat.zero_le _⟩) hS (fun q _ h => h.elim) (fun q h => h.elim) (fun r u t H1 locs ht hvm hw hB hz1 hq1 hS => ?_)
  obtain rfl := hw.symm
  have hP := xP_kept hP hq1
  refine W.widen (k := 0) (n := 0) (Nat.le_refl _) (Nat.le_refl _) ?_
  refine lv_if_ne (tgt := 28) hx hb dX11_doClause_24 (by decide) (fun hcq11 => ?_) (fun hcq11 => ?_)
  · have h := ifn hcq11 h
    refine lv_aload_n hx hb dX11_doClause_28 rfl (lv_at hl 2 rfl) ?_
    refine va_get (D := D) (ci := 11) (v := .ref (G.1 109)) (C := RX11) (T := TX11) (N := 13) hx hb hts iwX11 hown hK hP 105 (xg_7 rfl) rfl 4 (by decide) (hts _ mw_286) (fun _ h9 => h9) rfl dX11_doClause_29 ?_
    refine lv_iload_n hx hb dX11_doClause_32 rfl (lv_at hl 3 rfl) ?_
    refine lv_iconst (v := 0) hx hb dX11_doClause_33 (by decide) ?_
    obtain ⟨xq12, hfq13, h⟩ := obd h
    refine va_calli (va_runV (As := [.int p1, .int 0]) (rest := []) ⟨hx, hb, hml, hown, hts⟩ (kX8_word l D G ub _ p1 0 xq12 hfq13) (cwV 2 hts (lwW_gV mw_459 mw_460 mw_461 mw_7 mw_462) rfl rfl rfl (by decide +kernel) ⟨Nat.le_of_ble_eq_true rfl, Nat.le_of_ble_eq_true rfl⟩) ⟨fun a U g mk q => ⟨q.1, xPre_call q.2⟩, va_recv hK hP rfl (xg_11 rfl), fun U hU hW => ⟨rfl, xPre_at h0 hS hP hU hW⟩⟩ rfl rfl hl.1 rfl (lv_room (Nat.le_of_ble_eq_true rfl)) dX11_doClause_34 ⟨Nat.zero_le _, Nat.zero_le _⟩) hS (fun q _ h => h) (fun q h => h) (fun r u t H1 locs ht hvm hw hB hz1 hq1 hS => ?_)
    obtain ⟨rfl, rfl⟩ := hw
    have hP := hB.1
    rw [ht] at hP
    refine W.widen (k := 0) (n := 0) (Nat.le_refl _) (Nat.le_refl _) ?_
    by_cases hcq14 : xq12.1 = 0
    · have h := ifp hcq14 h
      refine lv_tableIn (off := 31) (tgt := 68) hx hb dX11_doClause_37 (by rw [hcq14]; decide) (by rw [hcq14]; decide) (by rw [hcq14]; rfl) (by decide) ?_
      refine lv_iconst (v := 0) hx hb dX11_doClause_68 (by decide) ?_
      refine lv_istore (lv' := [(4, .int 0), (3, .int xq7.1), (2, .int xq5.1), (0, .ref (G.1 105)), (1, .int p1)]) hx hb dX11_doClause_69 hl (by decide) rfl (fun ls hl => ?_)
      exact L71 FU 0 _ _ _ _ h hP hS (lv_sub hl [3, 0] rfl)
    have h := ifn hcq14 h
    by_cases hcq15 : xq12.1 = 1
    · have h := ifp hcq15 h
      refine lv_tableIn (off := 64) (tgt := 101) hx hb dX11_doClause_37 (by rw [hcq15]; decide) (by rw [hcq15]; decide) (by rw [hcq15]; rfl) (by decide) ?_
      refine lv_aload_n hx hb dX11_doClause_101 rfl (lv_at hl 2 rfl) ?_
      refine va_get (D := D) (ci := 11) (v := .ref (G.1 102)) (C := RX11) (T := TX11) (N := 13) hx hb hts iwX11 hown hK hP 105 (xg_7 rfl) rfl 0 (by decide) (hts _ mw_282) (fun _ h9 => h9) rfl dX11_doClause_102 ?_
      refine lv_iload_n hx hb dX11_doClause_105 rfl (lv_at hl 1 rfl) ?_
      obtain ⟨hiq16, h⟩ := nif h
      refine va_aldq hx hb hK hP 102 1 (xg_6 rfl) rfl hiq16 dX11_doClause_106 ?_
      refine W.eq (g2 := F0 m 107 ls [.ref (G.1 (xb 102 + xq5.1.toNatClampNeg))]) rfl ?_
      refine lv_iload_n hx hb dX11_doClause_107 rfl (lv_at hl 0 rfl) ?_
      refine lv_aload_n hx hb dX11_doClause_108 rfl (lv_at hl 2 rfl) ?_
      refine va_get (D := D) (ci := 11) (v := .ref (G.1 109)) (C := RX11) (T := TX11) (N := 13) hx hb hts iwX11 hown hK hP 105 (xg_7 rfl) rfl 4 (by decide) (hts _ mw_286) (fun _ h9 => h9) rfl dX11_doClause_109 ?_
      refine lv_iload_n hx hb dX11_doClause_112 rfl (lv_at hl 3 rfl) ?_
      refine lv_iconst (v := 3) hx hb dX11_doClause_113 (by decide) ?_
      obtain ⟨xq17, hfq18, h⟩ := obd h
      refine va_calli (va_runV (As := [.int p1, .int 3]) (rest := [.int xq7.1, .ref (G.1 (xb 102 + xq5.1.toNatClampNeg))]) ⟨hx, hb, hml, hown, hts⟩ (kX8_word l D G ub _ p1 3 xq17 hfq18) (cwV 2 hts (lwW_gV mw_459 mw_460 mw_461 mw_7 mw_462) rfl rfl rfl (by decide +kernel) ⟨Nat.le_of_ble_eq_true rfl, Nat.le_of_ble_eq_true rfl⟩) ⟨fun a U g mk q => ⟨q.1, xPre_call q.2⟩, va_recv hK hP rfl (xg_11 rfl), fun U hU hW => ⟨rfl, xPre_at h0 hS hP hU hW⟩⟩ rfl rfl hl.1 rfl (lv_room (Nat.le_of_ble_eq_true rfl)) dX11_doClause_114 ⟨Nat.zero_le _, Nat.zero_le _⟩) hS (fun q _ h => h) (fun q h => h) (fun r u t H1 locs ht hvm hw hB hz1 hq1 hS => ?_)
      obtain ⟨rfl, rfl⟩ := hw
      have hP := hB.1
      rw [ht] at hP
      refine W.widen (k := 0) (n := 0) (Nat.le_refl _) (Nat.le_refl _) ?_
      refine lv_aload_n hx hb dX11_doClause_117 rfl (lv_at hl 2 rfl) ?_
      refine va_get (D := D) (ci := 11) (v := .ref (G.1 109)) (C := RX11) (T := TX11) (N := 13) hx hb hts iwX11 hown hK hP 105 (xg_7 rfl) rfl 4 (by decide) (hts _ mw_286) (fun _ h9 => h9) rfl dX11_doClause_118 ?_
      refine lv_iload_n hx hb dX11_doClause_121 rfl (lv_at hl 3 rfl) ?_
      refine lv_iconst (v := 4) hx hb dX11_doClause_122 (by decide) ?_
      obtain ⟨xq19, hfq20, h⟩ := obd h
      refine va_calli (va_runV (As := [.int p1, .int 4]) (rest := [.int xq17.1, .int xq7.1, .ref (G.1 (xb 102 + xq5.1.toNatClampNeg))]) ⟨hx, hb, hml, hown, hts⟩ (kX8_word l D G ub _ p1 4 xq19 hfq20) (cwV 2 hts (lwW_gV mw_459 mw_460 mw_461 mw_7 mw_462) rfl rfl rfl (by decide +kernel) ⟨Nat.le_of_ble_eq_true rfl, Nat.le_of_ble_eq_true rfl⟩) ⟨fun a U g mk q => ⟨q.1, xPre_call q.2⟩, va_recv hK hP rfl (xg_11 rfl), fun U hU hW => ⟨rfl, xPre_at h0 hS hP hU hW⟩⟩ rfl rfl hl.1 rfl (lv_room (Nat.le_of_ble_eq_true rfl)) dX11_doClause_123 ⟨Nat.zero_le _, Nat.zero_le _⟩) hS (fun q _ h => h) (fun q h => h) (fun r u t H1 locs ht hvm hw hB hz1 hq1 hS => ?_)
      obtain ⟨rfl, rfl⟩ := hw
      have hP := hB.1
      rw [ht] at hP
      refine W.widen (k := 0) (n := 0) (Nat.le_refl _) (Nat.le_refl _) ?_
      refine lv_aload_n hx hb dX11_doClause_126 rfl (lv_at hl 2 rfl) ?_
      refine va_get (D := D) (ci := 11) (v := .ref (G.1 109)) (C := RX11) (T := TX11) (N := 13) hx hb hts iwX11 hown hK hP 105 (xg_7 rfl) rfl 4 (by decide) (hts _ mw_286) (fun _ h9 => h9) rfl dX11_doClause_127 ?_
      refine lv_iload_n hx hb dX11_doClause_130 rfl (lv_at hl 3 rfl) ?_
      refine lv_iconst (v := 5) hx hb dX11_doClause_131 (by decide) ?_
      obtain ⟨xq21, hfq22, h⟩ := obd h
      refine va_calli (va_runV (As := [.int p1, .int 5]) (rest := [.int xq19.1, .int xq17.1, .int xq7.1, .ref (G.1 (xb 102 + xq5.1.toNatClampNeg))]) ⟨hx, hb, hml, hown, hts⟩ (kX8_word l D G ub _ p1 5 xq21 hfq22) (cwV 2 hts (lwW_gV mw_459 mw_460 mw_461 mw_7 mw_462) rfl rfl rfl (by decide +kernel) ⟨Nat.le_of_ble_eq_true rfl, Nat.le_of_ble_eq_true rfl⟩) ⟨fun a U g mk q => ⟨q.1, xPre_call q.2⟩, va_recv hK hP rfl (xg_11 rfl), fun U hU hW => ⟨rfl, xPre_at h0 hS hP hU hW⟩⟩ rfl rfl hl.1 rfl (lv_room (Nat.le_of_ble_eq_true rfl)) dX11_doClause_132 ⟨Nat.zero_le _, Nat.zero_le _⟩) hS (fun q _ h => h) (fun q h => h) (fun r u t H1 locs ht hvm hw hB hz1 hq1 hS => ?_)
      obtain ⟨rfl, rfl⟩ := hw
      have hP := hB.1
      rw [ht] at hP
      refine W.widen (k := 0) (n := 0) (Nat.le_refl _) (Nat.le_refl _) ?_
      obtain ⟨xq23, hfq24, h⟩ := obd h
      refine va_callv (va_runV (As := [.int xq7.1, .int xq17.1, .int xq19.1, .int xq21.1]) (rest := []) ⟨hx, hb, hml, hown, hts⟩ (kX6_put l D G ub _ (xb 102 + xq5.1.toNatClampNeg) (xr6 rfl (vp_lt hiq16)) xq7.1 xq17.1 xq19.1 xq21.1 xq23 hfq24) (cwV 4 hts (lwW_gV mw_466 mw_467 mw_468 mw_3 mw_469) rfl rfl rfl (by decide +kernel) ⟨Nat.le_of_ble_eq_true rfl, Nat.le_of_ble_eq_true rfl⟩) ⟨fun a U g mk q => ⟨q.1, xPre_call q.2⟩, va_recv hK hP rfl (xg_0 (xr6 rfl (vp_lt hiq16))), fun U hU hW => ⟨rfl, xPre_at h0 hS hP hU hW⟩⟩ rfl rfl hl.1 rfl (lv_room (Nat.le_of_ble_eq_true rfl)) dX11_doClause_135 ⟨Nat.zero_le _, Nat.zero_le _⟩) hS (fun q _ h => h) (fun q h => h) (fun u t H1 locs ht hvm hw hB hz1 hq1 hS => ?_)
      obtain rfl := hw.symm
      have hP := hB.1
      rw [ht] at hP
      refine W.widen (k := 0) (n := 0) (Nat.le_refl _) (Nat.le_refl _) ?_
      refine lv_goto (tgt := 179) hx hb dX11_doClause_138 (by decide) ?_
      obtain rfl := Option.some.inj h
      exact W.vret hx hb hr (fun t ht hW => ⟨⟨_, rfl, rfl, xPre_at h0 hS hP ht hW⟩, hS.F ht⟩) hS.2.2 dX11_doClause_179
    have h := ifn hcq15 h
    by_cases hcq25 : xq12.1 = 2
    · have h := ifp hcq25 h
      refine lv_tableIn (off := 104) (tgt := 141) hx hb dX11_doClause_37 (by rw [hcq25]; decide) (by rw [hcq25]; decide) (by rw [hcq25]; rfl) (by decide) ?_
      refine lv_aload_n hx hb dX11_doClause_141 rfl (lv_at hl 2 rfl) ?_
      refine va_get (D := D) (ci := 11) (v := .ref (G.1 102)) (C := RX11) (T := TX11) (N := 13) hx hb hts iwX11 hown hK hP 105 (xg_7 rfl) rfl 0 (by decide) (hts _ mw_282) (fun _ h9 => h9) rfl dX11_doClause_142 ?_
      refine lv_iload_n hx hb dX11_doClause_145 rfl (lv_at hl 1 rfl) ?_
      obtain ⟨hiq26, h⟩ := nif h
      refine va_aldq hx hb hK hP 102 1 (xg_6 rfl) rfl hiq26 dX11_doClause_146 ?_
      refine W.eq (g2 := F0 m 147 ls [.ref (G.1 (xb 102 + xq5.1.toNatClampNeg))]) rfl ?_
      refine lv_iload_n hx hb dX11_doClause_147 rfl (lv_at hl 0 rfl) ?_
      obtain ⟨xq27, hfq28, h⟩ := obd h
      refine va_callv (va_runV (As := [.int xq7.1]) (rest := []) ⟨hx, hb, hml, hown, hts⟩ (kX6_putUnit l D G ub _ (xb 102 + xq5.1.toNatClampNeg) (xr6 rfl (vp_lt hiq26)) xq7.1 xq27 hfq28) (cwV 1 hts (lwW_gV mw_470 mw_471 mw_472 mw_3 mw_473) rfl rfl rfl (by decide +kernel) ⟨Nat.le_of_ble_eq_true rfl, Nat.le_of_ble_eq_true rfl⟩) ⟨fun a U g mk q => ⟨q.1, xPre_call q.2⟩, va_recv hK hP rfl (xg_0 (xr6 rfl (vp_lt hiq26))), fun U hU hW => ⟨rfl, xPre_at h0 hS hP hU hW⟩⟩ rfl rfl hl.1 rfl (lv_room (Nat.le_of_ble_eq_true rfl)) dX11_doClause_148 ⟨Nat.zero_le _, Nat.zero_le _⟩) hS (fun q _ h => h) (fun q h => h) (fun u t H1 locs ht hvm hw hB hz1 hq1 hS => ?_)
      obtain rfl := hw.symm
      have hP := hB.1
      rw [ht] at hP
      refine W.widen (k := 0) (n := 0) (Nat.le_refl _) (Nat.le_refl _) ?_
      refine lv_goto (tgt := 179) hx hb dX11_doClause_151 (by decide) ?_
      obtain rfl := Option.some.inj h
      exact W.vret hx hb hr (fun t ht hW => ⟨⟨_, rfl, rfl, xPre_at h0 hS hP ht hW⟩, hS.F ht⟩) hS.2.2 dX11_doClause_179
    have h := ifn hcq25 h
    by_cases hcq29 : xq12.1 = 3
    · have h := ifp hcq29 h
      refine lv_tableIn (off := 117) (tgt := 154) hx hb dX11_doClause_37 (by rw [hcq29]; decide) (by rw [hcq29]; decide) (by rw [hcq29]; rfl) (by decide) ?_
      refine lv_iload_n hx hb dX11_doClause_154 rfl (lv_at hl 0 rfl) ?_
      obtain ⟨xq30, hfq31, h⟩ := obd h
      refine va_calli (va_runS (As := [.int xq7.1]) (rest := []) ⟨hx, hb, hml, hown, hts⟩ (kX11_isSlot l xq7.1 xq30 hfq31) (va_cwS 1 hts (lwW_gS mw_463 mw_464 mw_1 mw_465) rfl rfl rfl (by decide +kernel) ⟨Nat.le_of_ble_eq_true rfl, Nat.le_of_ble_eq_true rfl⟩) ⟨fun a U g mk q => ⟨q.1, trivial⟩, fun U hU hW => ⟨rfl, trivial⟩⟩ rfl rfl hl.1 rfl (lv_room (Nat.le_of_ble_eq_true rfl)) dX11_doClause_155 ⟨Nat.zero_le _, Nat.zero_le _⟩) hS (fun q _ h => h.elim) (fun q h => h.elim) (fun r u t H1 locs ht hvm hw hB hz1 hq1 hS => ?_)
      obtain rfl := hw.symm
      have hP := xP_kept hP hq1
      refine W.widen (k := 0) (n := 0) (Nat.le_refl _) (Nat.le_refl _) ?_
      refine lv_if_eq (tgt := 179) hx hb dX11_doClause_158 (by decide) (fun hcq32 => ?_) (fun hcq32 => ?_)
      · have h := ifp hcq32 h
        obtain rfl := Option.some.inj h
        exact W.vret hx hb hr (fun t ht hW => ⟨⟨_, rfl, rfl, xPre_at h0 hS hP ht hW⟩, hS.F ht⟩) hS.2.2 dX11_doClause_179
      have h := ifn hcq32 h
      refine lv_aload_n hx hb dX11_doClause_161 rfl (lv_at hl 2 rfl) ?_
      refine va_get (D := D) (ci := 11) (v := .ref (G.1 102)) (C := RX11) (T := TX11) (N := 13) hx hb hts iwX11 hown hK hP 105 (xg_7 rfl) rfl 0 (by decide) (hts _ mw_282) (fun _ h9 => h9) rfl dX11_doClause_162 ?_
      refine lv_iload_n hx hb dX11_doClause_165 rfl (lv_at hl 1 rfl) ?_
      obtain ⟨hiq33, h⟩ := nif h
      refine va_aldq hx hb hK hP 102 1 (xg_6 rfl) rfl hiq33 dX11_doClause_166 ?_
      refine W.eq (g2 := F0 m 167 ls [.ref (G.1 (xb 102 + xq5.1.toNatClampNeg))]) rfl ?_
      refine lv_aload_n hx hb dX11_doClause_167 rfl (lv_at hl 2 rfl) ?_
      refine va_get (D := D) (ci := 11) (v := .ref (G.1 102)) (C := RX11) (T := TX11) (N := 13) hx hb hts iwX11 hown hK hP 105 (xg_7 rfl) rfl 0 (by decide) (hts _ mw_282) (fun _ h9 => h9) rfl dX11_doClause_168 ?_
      refine lv_iload_n hx hb dX11_doClause_171 rfl (lv_at hl 0 rfl) ?_
      obtain ⟨hiq34, h⟩ := nif h
      refine va_aldq hx hb hK hP 102 1 (xg_6 rfl) rfl hiq34 dX11_doClause_172 ?_
      refine W.eq (g2 := F0 m 173 ls [.ref (G.1 (xb 102 + xq7.1.toNatClampNeg)), .ref (G.1 (xb 102 + xq5.1.toNatClampNeg))]) rfl ?_
      obtain ⟨xq35, hfq36, h⟩ := obd h
      refine va_callv (va_runV (As := [.ref (G.1 (xb 102 + xq7.1.toNatClampNeg))]) (rest := []) ⟨hx, hb, hml, hown, hts⟩ (kX6_copyFrom l D G ub _ (xb 102 + xq5.1.toNatClampNeg) (xr6 rfl (vp_lt hiq33)) (xb 102 + xq7.1.toNatClampNeg) (xr6 rfl (vp_lt hiq34)) xq35 hfq36) (cwV 1 hts (lwW_gV mw_480 mw_481 mw_482 mw_3 mw_483) rfl rfl rfl (by decide +kernel) ⟨Nat.le_of_ble_eq_true rfl, Nat.le_of_ble_eq_true rfl⟩) ⟨fun a U g mk q => ⟨q.1, xPre_call q.2⟩, va_recv hK hP rfl (xg_0 (xr6 rfl (vp_lt hiq33))), fun U hU hW => ⟨rfl, xPre_at h0 hS hP hU hW⟩⟩ rfl rfl hl.1 rfl (lv_room (Nat.le_of_ble_eq_true rfl)) dX11_doClause_173 ⟨Nat.zero_le _, Nat.zero_le _⟩) hS (fun q _ h => h) (fun q h => h) (fun u t H1 locs ht hvm hw hB hz1 hq1 hS => ?_)
      obtain rfl := hw.symm
      have hP := hB.1
      rw [ht] at hP
      refine W.widen (k := 0) (n := 0) (Nat.le_refl _) (Nat.le_refl _) ?_
      refine lv_goto (tgt := 179) hx hb dX11_doClause_176 (by decide) ?_
      obtain rfl := Option.some.inj h
      exact W.vret hx hb hr (fun t ht hW => ⟨⟨_, rfl, rfl, xPre_at h0 hS hP ht hW⟩, hS.F ht⟩) hS.2.2 dX11_doClause_179
    have h := ifn hcq29 h
    refine lv_tableOut (tgt := 179) hx hb dX11_doClause_37 (by have t0 := toI_ne hcq14; have t1 := toI_ne hcq15; have t2 := toI_ne hcq25; have t3 := toI_ne hcq29; rw [show (0 : Int32).toInt = 0 from by decide] at t0; rw [show (1 : Int32).toInt = 1 from by decide] at t1; rw [show (2 : Int32).toInt = 2 from by decide] at t2; rw [show (3 : Int32).toInt = 3 from by decide] at t3; omega) (by decide) ?_
    obtain rfl := Option.some.inj h
    exact W.vret hx hb hr (fun t ht hW => ⟨⟨_, rfl, rfl, xPre_at h0 hS hP ht hW⟩, hS.F ht⟩) hS.2.2 dX11_doClause_179
  have h := ifp hcq11 h
  obtain rfl := Option.some.inj h
  exact W.vret hx hb hr (fun t ht hW => ⟨⟨_, rfl, rfl, xPre_at h0 hS hP ht hW⟩, hS.F ht⟩) hS.2.2 dX11_doClause_27
def fX11_desk_L79  : Nat → Int32 → Int32 → QMem → Option (Int32 × QMem)
  | 0, _, _, _ => none
  | n + 1, v1, v2, τ =>
  if 3 ≤ v2 then (some (v1, τ)) else (if (v2 < 0 ∨ xl 107 ≤ v2.toNatClampNeg) then none else ((fX10_discard (xb 107 + v2.toNatClampNeg) τ).bind fun xq3 => ((fX11_desk_L79 n) v1 (v2 + 1) xq3)))
def fX11_desk_L57  : Nat → Int32 → Int32 → QMem → Option (Int32 × QMem)
  | 0, _, _, _ => none
  | n + 1, v1, v2, τ =>
  if 2 ≤ v2 then (fX11_desk_L79 FU v1 0 τ) else (if (v2 < 0 ∨ xl 106 ≤ v2.toNatClampNeg) then none else ((fX9_clear (xb 106 + v2.toNatClampNeg) τ).bind fun xq7 => ((fX11_desk_L57 n) v1 (v2 + 1) xq7)))
def fX11_desk_L25  : Nat → Int32 → Int32 → QMem → Option (Int32 × QMem)
  | 0, _, _, _ => none
  | n + 1, v1, v2, τ =>
  if v1 ≤ v2 then ((fX8_clear τ).bind fun xq10 => ((fX4_clear xq10).bind fun xq12 => (fX11_desk_L57 FU v1 0 xq12))) else ((fX11_doClause v2 τ).bind fun xq14 => ((fX11_desk_L25 n) v1 (v2 + 1) xq14))
def fX11_desk  (σ : QMem) : Option (Int32 × QMem) :=
  (fX8_findFault σ).bind fun xq16 => (if xq16.1 = (-1) then ((fX8_clauses xq16.2).bind fun xq19 => (fX11_desk_L25 FU xq19.1 0 xq19.2)) else (some ((-1003), xq16.2)))
set_option maxHeartbeats 4000000 in
set_option maxRecDepth 100000 in
theorem kX11_desk (l : Launch) (D : va_G) (G : xG) (ub : xB) (σ : QMem) (res : Int32 × QMem) (h : fX11_desk σ = some res) : Met l yX11_desk (.code yX11_desk cX11_desk 3 (some .int) :: lwW) (rmD 7) (xPc D G ub σ [.ref (G.1 105)]) (xQi D G ub res) 0 0 (xA G) := by
  refine Met.ofW (cc := cX11_desk) (maxL := 3) (ret := (some .int)) (by decide) rfl ?_
  intro p e s m args below meth c s₁ B hml hv
  obtain ⟨rfl, h0⟩ := hv
  have hx := B.exec
  have hb := B.bytes
  have hr := B.returns
  have hts := fun (w : Cond) (hw : w ∈ lwW) => atoms_spec (ws := (.code yX11_desk cX11_desk 3 (some .int) :: lwW)) B.pre w (List.mem_cons_of_mem _ hw)
  have hown : s.vm.findClass RX11 = some m.cls := findClass_of_methodNamed B.named
  have hlocks := B.notSynchronized
  have hP := h0.1
  have hK := h0.2.1
  have hi := h0.2.2.1
  have hZ := h0.2.2.2
  have hN := h0.2.2.2.2.2.2.2.1
  have hV := h0.2.2.2.2.2.2.2.2.1
  have hS : va_S (xA G) s.heap s.heap [] := va_S.rf
  have hl := lv_entry ([.ref (G.1 105)]) (n := 3) (Nat.le_of_ble_eq_true rfl)
  rw [lg_entry_eq]
  generalize (lg_sl ([.ref (G.1 105)]) ++ List.replicate (3 - (lg_sl ([.ref (G.1 105)])).length) Slot.unset).toArray = ls at hl ⊢
  have hl : lv_has ls 3 [(0, .ref (G.1 105))] := hl
  unfold fX11_desk at h
  have L79 : ∀ (n79 : Nat) (v1 : Int32) (v2 : Int32) (τ : QMem) (H : Heap) (locs : List Loc) (ls : Array Slot), fX11_desk_L79 n79 v1 v2 τ = some res → va_P D vwCl (xW G τ) H → va_S (xA G) s.heap H locs → lv_has ls 3 [(0, .ref (G.1 105)), (1, .int v1), (2, .int v2)] → W p l e (headSpec (.code yX11_desk cX11_desk 3 (some .int) :: lwW) (rmD 7)).room s m ([.ref (G.1 105)] : List Value).toArray below meth c H locs 0 0 (MQ below (xQi D G ub res) ([.ref (G.1 105)] : List Value).toArray s 0 0 (xA G)) (F0 m 79 ls []) := by
    intro n79
    induction n79 with
    | zero => intro v1 v2 τ H locs ls h; rw [fX11_desk_L79] at h; cases h
    | succ n79 ih79 =>
      intro v1 v2 τ H locs ls h hP hS hl
      rw [fX11_desk_L79] at h
      refine lv_iload_n hx hb dX11_desk_79 rfl (lv_at hl 2 rfl) ?_
      refine lv_iconst (v := 3) hx hb dX11_desk_80 (by decide) ?_
      refine lv_icmp_ge (tgt := 99) hx hb dX11_desk_81 (by decide) (fun hcq1 => ?_) (fun hcq1 => ?_)
      · have h := ifp hcq1 h
        refine lv_iload_n hx hb dX11_desk_99 rfl (lv_at hl 1 rfl) ?_
        obtain rfl := Option.some.inj h
        exact W.iret (v := v1) hx hb hr (fun t ht hW => ⟨⟨_, _, rfl, ⟨rfl, rfl⟩, xPre_at h0 hS hP ht hW⟩, hS.F ht⟩) hS.2.2 dX11_desk_100
      have h := ifn hcq1 h
      refine lv_aload_n hx hb dX11_desk_84 rfl (lv_at hl 0 rfl) ?_
      refine va_get (D := D) (ci := 11) (v := .ref (G.1 107)) (C := RX11) (T := TX11) (N := 13) hx hb hts iwX11 hown hK hP 105 (xg_7 rfl) rfl 2 (by decide) (hts _ mw_284) (fun _ h9 => h9) rfl dX11_desk_85 ?_
      refine lv_iload_n hx hb dX11_desk_88 rfl (lv_at hl 2 rfl) ?_
      obtain ⟨hiq2, h⟩ := nif h
      refine va_aldq hx hb hK hP 107 3 (xg_9 rfl) rfl hiq2 dX11_desk_89 ?_
      refine W.eq (g2 := F0 m 90 ls [.ref (G.1 (xb 107 + v2.toNatClampNeg))]) rfl ?_
      obtain ⟨xq3, hfq4, h⟩ := obd h
      refine va_callv (va_runV (As := []) (rest := []) ⟨hx, hb, hml, hown, hts⟩ (kX10_discard l D G ub _ (xb 107 + v2.toNatClampNeg) (xr9 rfl (vp_lt hiq2)) xq3 hfq4) (cwV 0 hts (lwW_gV mw_492 mw_493 mw_494 mw_5 mw_495) rfl rfl rfl (by decide +kernel) ⟨Nat.le_of_ble_eq_true rfl, Nat.le_of_ble_eq_true rfl⟩) ⟨fun a U g mk q => ⟨q.1, xPre_call q.2⟩, va_recv hK hP rfl (xg_4 (xr9 rfl (vp_lt hiq2))), fun U hU hW => ⟨rfl, xPre_at h0 hS hP hU hW⟩⟩ rfl rfl hl.1 rfl (lv_room (Nat.le_of_ble_eq_true rfl)) dX11_desk_90 ⟨Nat.zero_le _, Nat.zero_le _⟩) hS (fun q _ h => h) (fun q h => h) (fun u t H1 locs ht hvm hw hB hz1 hq1 hS => ?_)
      obtain rfl := hw.symm
      have hP := hB.1
      rw [ht] at hP
      refine W.widen (k := 0) (n := 0) (Nat.le_refl _) (Nat.le_refl _) ?_
      refine lv_iinc (v := v2 + 1) (lv' := [(2, .int (v2 + 1)), (0, .ref (G.1 105)), (1, .int v1)]) hx hb dX11_desk_93 hl (k := 2) rfl rfl (by decide) rfl (fun ls hl => ?_)
      refine lv_goto (tgt := 79) hx hb dX11_desk_96 (by decide) ?_
      exact ih79 v1 (v2 + 1) _ _ _ _ h hP hS (lv_sub hl [1, 2, 0] rfl)
  have L57 : ∀ (n57 : Nat) (v1 : Int32) (v2 : Int32) (τ : QMem) (H : Heap) (locs : List Loc) (ls : Array Slot), fX11_desk_L57 n57 v1 v2 τ = some res → va_P D vwCl (xW G τ) H → va_S (xA G) s.heap H locs → lv_has ls 3 [(0, .ref (G.1 105)), (1, .int v1), (2, .int v2)] → W p l e (headSpec (.code yX11_desk cX11_desk 3 (some .int) :: lwW) (rmD 7)).room s m ([.ref (G.1 105)] : List Value).toArray below meth c H locs 0 0 (MQ below (xQi D G ub res) ([.ref (G.1 105)] : List Value).toArray s 0 0 (xA G)) (F0 m 57 ls []) := by
    intro n57
    induction n57 with
    | zero => intro v1 v2 τ H locs ls h; rw [fX11_desk_L57] at h; cases h
    | succ n57 ih57 =>
      intro v1 v2 τ H locs ls h hP hS hl
      rw [fX11_desk_L57] at h
      refine lv_iload_n hx hb dX11_desk_57 rfl (lv_at hl 2 rfl) ?_
      refine lv_iconst (v := 2) hx hb dX11_desk_58 (by decide) ?_
      refine lv_icmp_ge (tgt := 77) hx hb dX11_desk_59 (by decide) (fun hcq5 => ?_) (fun hcq5 => ?_)
      · have h := ifp hcq5 h
        refine lv_iconst (v := 0) hx hb dX11_desk_77 (by decide) ?_
        refine lv_istore_n (lv' := [(2, .int 0), (0, .ref (G.1 105)), (1, .int v1)]) hx hb dX11_desk_78 rfl hl (by decide) rfl (fun ls hl => ?_)
        exact L79 FU v1 0 _ _ _ _ h hP hS (lv_sub hl [1, 2, 0] rfl)
      have h := ifn hcq5 h
      refine lv_aload_n hx hb dX11_desk_62 rfl (lv_at hl 0 rfl) ?_
      refine va_get (D := D) (ci := 11) (v := .ref (G.1 106)) (C := RX11) (T := TX11) (N := 13) hx hb hts iwX11 hown hK hP 105 (xg_7 rfl) rfl 1 (by decide) (hts _ mw_283) (fun _ h9 => h9) rfl dX11_desk_63 ?_
      refine lv_iload_n hx hb dX11_desk_66 rfl (lv_at hl 2 rfl) ?_
      obtain ⟨hiq6, h⟩ := nif h
      refine va_aldq hx hb hK hP 106 2 (xg_8 rfl) rfl hiq6 dX11_desk_67 ?_
      refine W.eq (g2 := F0 m 68 ls [.ref (G.1 (xb 106 + v2.toNatClampNeg))]) rfl ?_
      obtain ⟨xq7, hfq8, h⟩ := obd h
      refine va_callv (va_runV (As := []) (rest := []) ⟨hx, hb, hml, hown, hts⟩ (kX9_clear l D G ub _ (xb 106 + v2.toNatClampNeg) (xr8 rfl (vp_lt hiq6)) xq7 hfq8) (cwV 0 hts (lwW_gV mw_488 mw_489 mw_490 mw_4 mw_491) rfl rfl rfl (by decide +kernel) ⟨Nat.le_of_ble_eq_true rfl, Nat.le_of_ble_eq_true rfl⟩) ⟨fun a U g mk q => ⟨q.1, xPre_call q.2⟩, va_recv hK hP rfl (xg_5 (xr8 rfl (vp_lt hiq6))), fun U hU hW => ⟨rfl, xPre_at h0 hS hP hU hW⟩⟩ rfl rfl hl.1 rfl (lv_room (Nat.le_of_ble_eq_true rfl)) dX11_desk_68 ⟨Nat.zero_le _, Nat.zero_le _⟩) hS (fun q _ h => h) (fun q h => h) (fun u t H1 locs ht hvm hw hB hz1 hq1 hS => ?_)
      obtain rfl := hw.symm
      have hP := hB.1
      rw [ht] at hP
      refine W.widen (k := 0) (n := 0) (Nat.le_refl _) (Nat.le_refl _) ?_
      refine lv_iinc (v := v2 + 1) (lv' := [(2, .int (v2 + 1)), (0, .ref (G.1 105)), (1, .int v1)]) hx hb dX11_desk_71 hl (k := 2) rfl rfl (by decide) rfl (fun ls hl => ?_)
      refine lv_goto (tgt := 57) hx hb dX11_desk_74 (by decide) ?_
      exact ih57 v1 (v2 + 1) _ _ _ _ h hP hS (lv_sub hl [1, 2, 0] rfl)
  have L25 : ∀ (n25 : Nat) (v1 : Int32) (v2 : Int32) (τ : QMem) (H : Heap) (locs : List Loc) (ls : Array Slot), fX11_desk_L25 n25 v1 v2 τ = some res → va_P D vwCl (xW G τ) H → va_S (xA G) s.heap H locs → lv_has ls 3 [(0, .ref (G.1 105)), (1, .int v1), (2, .int v2)] → W p l e (headSpec (.code yX11_desk cX11_desk 3 (some .int) :: lwW) (rmD 7)).room s m ([.ref (G.1 105)] : List Value).toArray below meth c H locs 0 0 (MQ below (xQi D G ub res) ([.ref (G.1 105)] : List Value).toArray s 0 0 (xA G)) (F0 m 25 ls []) := by
    intro n25
    induction n25 with
    | zero => intro v1 v2 τ H locs ls h; rw [fX11_desk_L25] at h; cases h
    | succ n25 ih25 =>
      intro v1 v2 τ H locs ls h hP hS hl
      rw [fX11_desk_L25] at h
      refine lv_iload_n hx hb dX11_desk_25 rfl (lv_at hl 2 rfl) ?_
      refine lv_iload_n hx hb dX11_desk_26 rfl (lv_at hl 1 rfl) ?_
      refine lv_icmp_ge (tgt := 41) hx hb dX11_desk_27 (by decide) (fun hcq9 => ?_) (fun hcq9 => ?_)
      · have h := ifp hcq9 h
        refine lv_aload_n hx hb dX11_desk_41 rfl (lv_at hl 0 rfl) ?_
        refine va_get (D := D) (ci := 11) (v := .ref (G.1 109)) (C := RX11) (T := TX11) (N := 13) hx hb hts iwX11 hown hK hP 105 (xg_7 rfl) rfl 4 (by decide) (hts _ mw_286) (fun _ h9 => h9) rfl dX11_desk_42 ?_
        obtain ⟨xq10, hfq11, h⟩ := obd h
        refine va_callv (va_runV (As := []) (rest := []) ⟨hx, hb, hml, hown, hts⟩ (kX8_clear l D G ub _ xq10 hfq11) (cwV 0 hts (lwW_gV mw_342 mw_343 mw_344 mw_7 mw_345) rfl rfl rfl (by decide +kernel) ⟨Nat.le_of_ble_eq_true rfl, Nat.le_of_ble_eq_true rfl⟩) ⟨fun a U g mk q => ⟨q.1, xPre_call q.2⟩, va_recv hK hP rfl (xg_11 rfl), fun U hU hW => ⟨rfl, xPre_at h0 hS hP hU hW⟩⟩ rfl rfl hl.1 rfl (lv_room (Nat.le_of_ble_eq_true rfl)) dX11_desk_45 ⟨Nat.zero_le _, Nat.zero_le _⟩) hS (fun q _ h => h) (fun q h => h) (fun u t H1 locs ht hvm hw hB hz1 hq1 hS => ?_)
        obtain rfl := hw.symm
        have hP := hB.1
        rw [ht] at hP
        refine W.widen (k := 0) (n := 0) (Nat.le_refl _) (Nat.le_refl _) ?_
        refine lv_aload_n hx hb dX11_desk_48 rfl (lv_at hl 0 rfl) ?_
        refine va_get (D := D) (ci := 11) (v := .ref (G.1 108)) (C := RX11) (T := TX11) (N := 13) hx hb hts iwX11 hown hK hP 105 (xg_7 rfl) rfl 3 (by decide) (hts _ mw_285) (fun _ h9 => h9) rfl dX11_desk_49 ?_
        obtain ⟨xq12, hfq13, h⟩ := obd h
        refine va_callv (va_runV (As := []) (rest := []) ⟨hx, hb, hml, hown, hts⟩ (kX4_clear l D G ub _ xq12 hfq13) (cwV 0 hts (lwW_gV mw_484 mw_485 mw_486 mw_6 mw_487) rfl rfl rfl (by decide +kernel) ⟨Nat.le_of_ble_eq_true rfl, Nat.le_of_ble_eq_true rfl⟩) ⟨fun a U g mk q => ⟨q.1, xPre_call q.2⟩, va_recv hK hP rfl (xg_10 rfl), fun U hU hW => ⟨rfl, xPre_at h0 hS hP hU hW⟩⟩ rfl rfl hl.1 rfl (lv_room (Nat.le_of_ble_eq_true rfl)) dX11_desk_52 ⟨Nat.zero_le _, Nat.zero_le _⟩) hS (fun q _ h => h) (fun q h => h) (fun u t H1 locs ht hvm hw hB hz1 hq1 hS => ?_)
        obtain rfl := hw.symm
        have hP := hB.1
        rw [ht] at hP
        refine W.widen (k := 0) (n := 0) (Nat.le_refl _) (Nat.le_refl _) ?_
        refine lv_iconst (v := 0) hx hb dX11_desk_55 (by decide) ?_
        refine lv_istore_n (lv' := [(2, .int 0), (0, .ref (G.1 105)), (1, .int v1)]) hx hb dX11_desk_56 rfl hl (by decide) rfl (fun ls hl => ?_)
        exact L57 FU v1 0 _ _ _ _ h hP hS (lv_sub hl [1, 2, 0] rfl)
      have h := ifn hcq9 h
      refine lv_aload_n hx hb dX11_desk_30 rfl (lv_at hl 0 rfl) ?_
      refine lv_iload_n hx hb dX11_desk_31 rfl (lv_at hl 2 rfl) ?_
      obtain ⟨xq14, hfq15, h⟩ := obd h
      refine va_callv (va_runV (As := [.int v2]) (rest := []) ⟨hx, hb, hml, hown, hts⟩ (kX11_doClause l D G ub _ v2 xq14 hfq15) (cwV 1 hts (lwW_gV mw_455 mw_457 ms_10 mw_1 mw_458) rfl rfl rfl (by decide +kernel) ⟨Nat.le_of_ble_eq_true rfl, Nat.le_of_ble_eq_true rfl⟩) ⟨fun a U g mk q => ⟨q.1, xPre_call q.2⟩, va_recv hK hP rfl (xg_7 rfl), fun U hU hW => ⟨rfl, xPre_at h0 hS hP hU hW⟩⟩ rfl rfl hl.1 rfl (lv_room (Nat.le_of_ble_eq_true rfl)) dX11_desk_32 ⟨Nat.zero_le _, Nat.zero_le _⟩) hS (fun q _ h => h) (fun q h => h) (fun u t H1 locs ht hvm hw hB hz1 hq1 hS => ?_)
      obtain rfl := hw.symm
      have hP := hB.1
      rw [ht] at hP
      refine W.widen (k := 0) (n := 0) (Nat.le_refl _) (Nat.le_refl _) ?_
      refine lv_iinc (v := v2 + 1) (lv' := [(2, .int (v2 + 1)), (0, .ref (G.1 105)), (1, .int v1)]) hx hb dX11_desk_35 hl (k := 2) rfl rfl (by decide) rfl (fun ls hl => ?_)
      refine lv_goto (tgt := 25) hx hb dX11_desk_38 (by decide) ?_
      exact ih25 v1 (v2 + 1) _ _ _ _ h hP hS (lv_sub hl [1, 2, 0] rfl)
  refine lv_aload_n hx hb dX11_desk_0 rfl (lv_at hl 0 rfl) ?_
  refine va_get (D := D) (ci := 11) (v := .ref (G.1 109)) (C := RX11) (T := TX11) (N := 13) hx hb hts iwX11 hown hK hP 105 (xg_7 rfl) rfl 4 (by decide) (hts _ mw_286) (fun _ h9 => h9) rfl dX11_desk_1 ?_
  obtain ⟨xq16, hfq17, h⟩ := obd h
  refine va_calli (va_runV (As := []) (rest := []) ⟨hx, hb, hml, hown, hts⟩ (kX8_findFault l D G ub _ xq16 hfq17) (cwV 0 hts (lwW_gV mw_350 mw_351 mw_352 mw_7 mw_353) rfl rfl rfl (by decide +kernel) ⟨Nat.le_of_ble_eq_true rfl, Nat.le_of_ble_eq_true rfl⟩) ⟨fun a U g mk q => ⟨q.1, xPre_call q.2⟩, va_recv hK hP rfl (xg_11 rfl), fun U hU hW => ⟨rfl, xPre_at h0 hS hP hU hW⟩⟩ rfl rfl hl.1 rfl (lv_room (Nat.le_of_ble_eq_true rfl)) dX11_desk_4 ⟨Nat.zero_le _, Nat.zero_le _⟩) hS (fun q _ h => h) (fun q h => h) (fun r u t H1 locs ht hvm hw hB hz1 hq1 hS => ?_)
  obtain ⟨rfl, rfl⟩ := hw
  have hP := hB.1
  rw [ht] at hP
  refine W.widen (k := 0) (n := 0) (Nat.le_refl _) (Nat.le_refl _) ?_
  refine lv_iconst (v := (-1)) hx hb dX11_desk_7 (by decide) ?_
  refine lv_icmp_eq (tgt := 15) hx hb dX11_desk_8 (by decide) (fun hcq18 => ?_) (fun hcq18 => ?_)
  · have h := ifp hcq18 h
    refine lv_aload_n hx hb dX11_desk_15 rfl (lv_at hl 0 rfl) ?_
    refine va_get (D := D) (ci := 11) (v := .ref (G.1 109)) (C := RX11) (T := TX11) (N := 13) hx hb hts iwX11 hown hK hP 105 (xg_7 rfl) rfl 4 (by decide) (hts _ mw_286) (fun _ h9 => h9) rfl dX11_desk_16 ?_
    obtain ⟨xq19, hfq20, h⟩ := obd h
    refine va_calli (va_runV (As := []) (rest := []) ⟨hx, hb, hml, hown, hts⟩ (kX8_clauses l D G ub _ xq19 hfq20) (cwV 0 hts (lwW_gV mw_451 mw_452 mw_453 mw_7 mw_454) rfl rfl rfl (by decide +kernel) ⟨Nat.le_of_ble_eq_true rfl, Nat.le_of_ble_eq_true rfl⟩) ⟨fun a U g mk q => ⟨q.1, xPre_call q.2⟩, va_recv hK hP rfl (xg_11 rfl), fun U hU hW => ⟨rfl, xPre_at h0 hS hP hU hW⟩⟩ rfl rfl hl.1 rfl (lv_room (Nat.le_of_ble_eq_true rfl)) dX11_desk_19 ⟨Nat.zero_le _, Nat.zero_le _⟩) hS (fun q _ h => h) (fun q h => h) (fun r u t H1 locs ht hvm hw hB hz1 hq1 hS => ?_)
    obtain ⟨rfl, rfl⟩ := hw
    have hP := hB.1
    rw [ht] at hP
    refine W.widen (k := 0) (n := 0) (Nat.le_refl _) (Nat.le_refl _) ?_
    refine lv_istore_n (lv' := [(1, .int xq19.1), (0, .ref (G.1 105))]) hx hb dX11_desk_22 rfl hl (by decide) rfl (fun ls hl => ?_)
    refine lv_iconst (v := 0) hx hb dX11_desk_23 (by decide) ?_
    refine lv_istore_n (lv' := [(2, .int 0), (1, .int xq19.1), (0, .ref (G.1 105))]) hx hb dX11_desk_24 rfl hl (by decide) rfl (fun ls hl => ?_)
    exact L25 FU xq19.1 0 _ _ _ _ h hP hS (lv_sub hl [2, 1, 0] rfl)
  have h := ifn hcq18 h
  refine lv_sipush (v := (-1003)) hx hb dX11_desk_11 (by decide) ?_
  obtain rfl := Option.some.inj h
  exact W.iret (v := (-1003)) hx hb hr (fun t ht hW => ⟨⟨_, _, rfl, ⟨rfl, rfl⟩, xPre_at h0 hS hP ht hW⟩, hS.F ht⟩) hS.2.2 dX11_desk_14
def fX11_number (p1 : Int32) (p2 : Int32) (σ : QMem) : Option (Int32 × QMem) :=
  (fX11_isSlot p1).bind fun xq1 => (if xq1 = 0 then (some ((-1001), σ)) else ((fX11_isPart p2).bind fun xq4 => (if xq4 = 0 then (some ((-1002), σ)) else (if (p1 < 0 ∨ xl 102 ≤ p1.toNatClampNeg) then none else ((fX6_part (xb 102 + p1.toNatClampNeg) p2 σ).bind fun xq8 => (some (xq8.1, xq8.2)))))))
set_option maxHeartbeats 4000000 in
set_option maxRecDepth 100000 in
theorem kX11_number (l : Launch) (D : va_G) (G : xG) (ub : xB) (σ : QMem) (p1 : Int32) (p2 : Int32) (res : Int32 × QMem) (h : fX11_number p1 p2 σ = some res) : Met l yX11_number (.code yX11_number cX11_number 3 (some .int) :: lwW) (rmD 1) (xPc D G ub σ [.ref (G.1 105), .int p1, .int p2]) (xQi D G ub res) 0 0 (xA G) := by
  refine Met.ofW (cc := cX11_number) (maxL := 3) (ret := (some .int)) (by decide) rfl ?_
  intro p e s m args below meth c s₁ B hml hv
  obtain ⟨rfl, h0⟩ := hv
  have hx := B.exec
  have hb := B.bytes
  have hr := B.returns
  have hts := fun (w : Cond) (hw : w ∈ lwW) => atoms_spec (ws := (.code yX11_number cX11_number 3 (some .int) :: lwW)) B.pre w (List.mem_cons_of_mem _ hw)
  have hown : s.vm.findClass RX11 = some m.cls := findClass_of_methodNamed B.named
  have hlocks := B.notSynchronized
  have hP := h0.1
  have hK := h0.2.1
  have hi := h0.2.2.1
  have hZ := h0.2.2.2
  have hN := h0.2.2.2.2.2.2.2.1
  have hV := h0.2.2.2.2.2.2.2.2.1
  have hS : va_S (xA G) s.heap s.heap [] := va_S.rf
  have hl := lv_entry ([.ref (G.1 105), .int p1, .int p2]) (n := 3) (Nat.le_of_ble_eq_true rfl)
  rw [lg_entry_eq]
  generalize (lg_sl ([.ref (G.1 105), .int p1, .int p2]) ++ List.replicate (3 - (lg_sl ([.ref (G.1 105), .int p1, .int p2])).length) Slot.unset).toArray = ls at hl ⊢
  have hl : lv_has ls 3 [(0, .ref (G.1 105)), (1, .int p1), (2, .int p2)] := hl
  unfold fX11_number at h
  refine lv_iload_n hx hb dX11_number_0 rfl (lv_at hl 1 rfl) ?_
  obtain ⟨xq1, hfq2, h⟩ := obd h
  refine va_calli (va_runS (As := [.int p1]) (rest := []) ⟨hx, hb, hml, hown, hts⟩ (kX11_isSlot l p1 xq1 hfq2) (va_cwS 1 hts (lwW_gS mw_463 mw_464 mw_1 mw_465) rfl rfl rfl (by decide +kernel) ⟨Nat.le_of_ble_eq_true rfl, Nat.le_of_ble_eq_true rfl⟩) ⟨fun a U g mk q => ⟨q.1, trivial⟩, fun U hU hW => ⟨rfl, trivial⟩⟩ rfl rfl hl.1 rfl (lv_room (Nat.le_of_ble_eq_true rfl)) dX11_number_1 ⟨Nat.zero_le _, Nat.zero_le _⟩) hS (fun q _ h => h.elim) (fun q h => h.elim) (fun r u t H1 locs ht hvm hw hB hz1 hq1 hS => ?_)
  obtain rfl := hw.symm
  have hP := xP_kept hP hq1
  refine W.widen (k := 0) (n := 0) (Nat.le_refl _) (Nat.le_refl _) ?_
  refine lv_if_ne (tgt := 11) hx hb dX11_number_4 (by decide) (fun hcq3 => ?_) (fun hcq3 => ?_)
  · have h := ifn hcq3 h
    refine lv_iload_n hx hb dX11_number_11 rfl (lv_at hl 2 rfl) ?_
    obtain ⟨xq4, hfq5, h⟩ := obd h
    refine va_calli (va_runS (As := [.int p2]) (rest := []) ⟨hx, hb, hml, hown, hts⟩ (kX11_isPart l p2 xq4 hfq5) (va_cwS 1 hts (lwW_gS mw_500 mw_501 mw_1 mw_502) rfl rfl rfl (by decide +kernel) ⟨Nat.le_of_ble_eq_true rfl, Nat.le_of_ble_eq_true rfl⟩) ⟨fun a U g mk q => ⟨q.1, trivial⟩, fun U hU hW => ⟨rfl, trivial⟩⟩ rfl rfl hl.1 rfl (lv_room (Nat.le_of_ble_eq_true rfl)) dX11_number_12 ⟨Nat.zero_le _, Nat.zero_le _⟩) hS (fun q _ h => h.elim) (fun q h => h.elim) (fun r u t H1 locs ht hvm hw hB hz1 hq1 hS => ?_)
    obtain rfl := hw.symm
    have hP := xP_kept hP hq1
    refine W.widen (k := 0) (n := 0) (Nat.le_refl _) (Nat.le_refl _) ?_
    refine lv_if_ne (tgt := 22) hx hb dX11_number_15 (by decide) (fun hcq6 => ?_) (fun hcq6 => ?_)
    · have h := ifn hcq6 h
      refine lv_aload_n hx hb dX11_number_22 rfl (lv_at hl 0 rfl) ?_
      refine va_get (D := D) (ci := 11) (v := .ref (G.1 102)) (C := RX11) (T := TX11) (N := 13) hx hb hts iwX11 hown hK hP 105 (xg_7 rfl) rfl 0 (by decide) (hts _ mw_282) (fun _ h9 => h9) rfl dX11_number_23 ?_
      refine lv_iload_n hx hb dX11_number_26 rfl (lv_at hl 1 rfl) ?_
      obtain ⟨hiq7, h⟩ := nif h
      refine va_aldq hx hb hK hP 102 1 (xg_6 rfl) rfl hiq7 dX11_number_27 ?_
      refine W.eq (g2 := F0 m 28 ls [.ref (G.1 (xb 102 + p1.toNatClampNeg))]) rfl ?_
      refine lv_iload_n hx hb dX11_number_28 rfl (lv_at hl 2 rfl) ?_
      obtain ⟨xq8, hfq9, h⟩ := obd h
      refine va_calli (va_runV (As := [.int p2]) (rest := []) ⟨hx, hb, hml, hown, hts⟩ (kX6_part l D G ub _ (xb 102 + p1.toNatClampNeg) (xr6 rfl (vp_lt hiq7)) p2 xq8 hfq9) (cwV 1 hts (lwW_gV mw_503 mw_504 mw_505 mw_3 mw_506) rfl rfl rfl (by decide +kernel) ⟨Nat.le_of_ble_eq_true rfl, Nat.le_of_ble_eq_true rfl⟩) ⟨fun a U g mk q => ⟨q.1, xPre_call q.2⟩, va_recv hK hP rfl (xg_0 (xr6 rfl (vp_lt hiq7))), fun U hU hW => ⟨rfl, xPre_at h0 hS hP hU hW⟩⟩ rfl rfl hl.1 rfl (lv_room (Nat.le_of_ble_eq_true rfl)) dX11_number_29 ⟨Nat.zero_le _, Nat.zero_le _⟩) hS (fun q _ h => h) (fun q h => h) (fun r u t H1 locs ht hvm hw hB hz1 hq1 hS => ?_)
      obtain ⟨rfl, rfl⟩ := hw
      have hP := hB.1
      rw [ht] at hP
      refine W.widen (k := 0) (n := 0) (Nat.le_refl _) (Nat.le_refl _) ?_
      obtain rfl := Option.some.inj h
      exact W.iret (v := xq8.1) hx hb hr (fun t ht hW => ⟨⟨_, _, rfl, ⟨rfl, rfl⟩, xPre_at h0 hS hP ht hW⟩, hS.F ht⟩) hS.2.2 dX11_number_32
    have h := ifp hcq6 h
    refine lv_sipush (v := (-1002)) hx hb dX11_number_18 (by decide) ?_
    obtain rfl := Option.some.inj h
    exact W.iret (v := (-1002)) hx hb hr (fun t ht hW => ⟨⟨_, _, rfl, ⟨rfl, rfl⟩, xPre_at h0 hS hP ht hW⟩, hS.F ht⟩) hS.2.2 dX11_number_21
  have h := ifp hcq3 h
  refine lv_sipush (v := (-1001)) hx hb dX11_number_7 (by decide) ?_
  obtain rfl := Option.some.inj h
  exact W.iret (v := (-1001)) hx hb hr (fun t ht hW => ⟨⟨_, _, rfl, ⟨rfl, rfl⟩, xPre_at h0 hS hP ht hW⟩, hS.F ht⟩) hS.2.2 dX11_number_10
def fX11_unitNumber_L2 (k1 : Nat) : Nat → Int32 → QMem → Option (Int32 × QMem)
  | 0, _, _ => none
  | n + 1, v2, τ =>
  if 24 ≤ v2 then (some ((-1), τ)) else ((fX6_putUnit 35 v2 τ).bind fun xq2 => ((fX6_isSame 35 k1 xq2).bind fun xq4 => (if xq4.1 = 0 then ((fX11_unitNumber_L2 k1 n) (v2 + 1) xq4.2) else (some (v2, xq4.2)))))
def fX11_unitNumber (k1 : Nat) (σ : QMem) : Option (Int32 × QMem) :=
  fX11_unitNumber_L2 k1 FU 0 σ
set_option maxHeartbeats 4000000 in
set_option maxRecDepth 100000 in
theorem kX11_unitNumber (l : Launch) (D : va_G) (G : xG) (ub : xB) (σ : QMem) (k1 : Nat) (hk1 : xk k1 = 0) (res : Int32 × QMem) (h : fX11_unitNumber k1 σ = some res) : Met l yX11_unitNumber (.code yX11_unitNumber cX11_unitNumber 3 (some .int) :: lwW) (rmD 2) (xPc D G ub σ [.ref (G.1 105), .ref (G.1 k1)]) (xQi D G ub res) 0 0 (xA G) := by
  refine Met.ofW (cc := cX11_unitNumber) (maxL := 3) (ret := (some .int)) (by decide) rfl ?_
  intro p e s m args below meth c s₁ B hml hv
  obtain ⟨rfl, h0⟩ := hv
  have hx := B.exec
  have hb := B.bytes
  have hr := B.returns
  have hts := fun (w : Cond) (hw : w ∈ lwW) => atoms_spec (ws := (.code yX11_unitNumber cX11_unitNumber 3 (some .int) :: lwW)) B.pre w (List.mem_cons_of_mem _ hw)
  have hown : s.vm.findClass RX11 = some m.cls := findClass_of_methodNamed B.named
  have hlocks := B.notSynchronized
  have hP := h0.1
  have hK := h0.2.1
  have hi := h0.2.2.1
  have hZ := h0.2.2.2
  have hN := h0.2.2.2.2.2.2.2.1
  have hV := h0.2.2.2.2.2.2.2.2.1
  have hS : va_S (xA G) s.heap s.heap [] := va_S.rf
  have hl := lv_entry ([.ref (G.1 105), .ref (G.1 k1)]) (n := 3) (Nat.le_of_ble_eq_true rfl)
  rw [lg_entry_eq]
  generalize (lg_sl ([.ref (G.1 105), .ref (G.1 k1)]) ++ List.replicate (3 - (lg_sl ([.ref (G.1 105), .ref (G.1 k1)])).length) Slot.unset).toArray = ls at hl ⊢
  have hl : lv_has ls 3 [(0, .ref (G.1 105)), (1, .ref (G.1 k1))] := hl
  unfold fX11_unitNumber at h
  have L2 : ∀ (n2 : Nat) (v2 : Int32) (τ : QMem) (H : Heap) (locs : List Loc) (ls : Array Slot), fX11_unitNumber_L2 k1 n2 v2 τ = some res → va_P D vwCl (xW G τ) H → va_S (xA G) s.heap H locs → lv_has ls 3 [(0, .ref (G.1 105)), (1, .ref (G.1 k1)), (2, .int v2)] → W p l e (headSpec (.code yX11_unitNumber cX11_unitNumber 3 (some .int) :: lwW) (rmD 2)).room s m ([.ref (G.1 105), .ref (G.1 k1)] : List Value).toArray below meth c H locs 0 0 (MQ below (xQi D G ub res) ([.ref (G.1 105), .ref (G.1 k1)] : List Value).toArray s 0 0 (xA G)) (F0 m 2 ls []) := by
    intro n2
    induction n2 with
    | zero => intro v2 τ H locs ls h; rw [fX11_unitNumber_L2] at h; cases h
    | succ n2 ih2 =>
      intro v2 τ H locs ls h hP hS hl
      rw [fX11_unitNumber_L2] at h
      refine lv_iload_n hx hb dX11_unitNumber_2 rfl (lv_at hl 2 rfl) ?_
      refine lv_bipush (v := 24) hx hb dX11_unitNumber_3 (by decide) ?_
      refine lv_icmp_ge (tgt := 35) hx hb dX11_unitNumber_5 (by decide) (fun hcq1 => ?_) (fun hcq1 => ?_)
      · have h := ifp hcq1 h
        refine lv_iconst (v := (-1)) hx hb dX11_unitNumber_35 (by decide) ?_
        obtain rfl := Option.some.inj h
        exact W.iret (v := (-1)) hx hb hr (fun t ht hW => ⟨⟨_, _, rfl, ⟨rfl, rfl⟩, xPre_at h0 hS hP ht hW⟩, hS.F ht⟩) hS.2.2 dX11_unitNumber_36
      have h := ifn hcq1 h
      refine lv_aload_n hx hb dX11_unitNumber_8 rfl (lv_at hl 0 rfl) ?_
      refine va_get (D := D) (ci := 11) (v := .ref (G.1 35)) (C := RX11) (T := TX11) (N := 13) hx hb hts iwX11 hown hK hP 105 (xg_7 rfl) rfl 11 (by decide) (hts _ mw_293) (fun _ h9 => h9) rfl dX11_unitNumber_9 ?_
      refine lv_iload_n hx hb dX11_unitNumber_12 rfl (lv_at hl 2 rfl) ?_
      obtain ⟨xq2, hfq3, h⟩ := obd h
      refine va_callv (va_runV (As := [.int v2]) (rest := []) ⟨hx, hb, hml, hown, hts⟩ (kX6_putUnit l D G ub _ 35 rfl v2 xq2 hfq3) (cwV 1 hts (lwW_gV mw_470 mw_471 mw_472 mw_3 mw_473) rfl rfl rfl (by decide +kernel) ⟨Nat.le_of_ble_eq_true rfl, Nat.le_of_ble_eq_true rfl⟩) ⟨fun a U g mk q => ⟨q.1, xPre_call q.2⟩, va_recv hK hP rfl (xg_0 rfl), fun U hU hW => ⟨rfl, xPre_at h0 hS hP hU hW⟩⟩ rfl rfl hl.1 rfl (lv_room (Nat.le_of_ble_eq_true rfl)) dX11_unitNumber_13 ⟨Nat.zero_le _, Nat.zero_le _⟩) hS (fun q _ h => h) (fun q h => h) (fun u t H1 locs ht hvm hw hB hz1 hq1 hS => ?_)
      obtain rfl := hw.symm
      have hP := hB.1
      rw [ht] at hP
      refine W.widen (k := 0) (n := 0) (Nat.le_refl _) (Nat.le_refl _) ?_
      refine lv_aload_n hx hb dX11_unitNumber_16 rfl (lv_at hl 0 rfl) ?_
      refine va_get (D := D) (ci := 11) (v := .ref (G.1 35)) (C := RX11) (T := TX11) (N := 13) hx hb hts iwX11 hown hK hP 105 (xg_7 rfl) rfl 11 (by decide) (hts _ mw_293) (fun _ h9 => h9) rfl dX11_unitNumber_17 ?_
      refine lv_aload_n hx hb dX11_unitNumber_20 rfl (lv_at hl 1 rfl) ?_
      obtain ⟨xq4, hfq5, h⟩ := obd h
      refine va_calli (va_runV (As := [.ref (G.1 k1)]) (rest := []) ⟨hx, hb, hml, hown, hts⟩ (kX6_isSame l D G ub _ 35 rfl k1 hk1 xq4 hfq5) (cwV 1 hts (lwW_gV mw_523 mw_524 mw_525 mw_3 mw_526) rfl rfl rfl (by decide +kernel) ⟨Nat.le_of_ble_eq_true rfl, Nat.le_of_ble_eq_true rfl⟩) ⟨fun a U g mk q => ⟨q.1, xPre_call q.2⟩, va_recv hK hP rfl (xg_0 rfl), fun U hU hW => ⟨rfl, xPre_at h0 hS hP hU hW⟩⟩ rfl rfl hl.1 rfl (lv_room (Nat.le_of_ble_eq_true rfl)) dX11_unitNumber_21 ⟨Nat.zero_le _, Nat.zero_le _⟩) hS (fun q _ h => h) (fun q h => h) (fun r u t H1 locs ht hvm hw hB hz1 hq1 hS => ?_)
      obtain ⟨rfl, rfl⟩ := hw
      have hP := hB.1
      rw [ht] at hP
      refine W.widen (k := 0) (n := 0) (Nat.le_refl _) (Nat.le_refl _) ?_
      refine lv_if_eq (tgt := 29) hx hb dX11_unitNumber_24 (by decide) (fun hcq6 => ?_) (fun hcq6 => ?_)
      · have h := ifp hcq6 h
        refine lv_iinc (v := v2 + 1) (lv' := [(2, .int (v2 + 1)), (0, .ref (G.1 105)), (1, .ref (G.1 k1))]) hx hb dX11_unitNumber_29 hl (k := 2) rfl rfl (by decide) rfl (fun ls hl => ?_)
        refine lv_goto (tgt := 2) hx hb dX11_unitNumber_32 (by decide) ?_
        exact ih2 (v2 + 1) _ _ _ _ h hP hS (lv_sub hl [1, 2, 0] rfl)
      have h := ifn hcq6 h
      refine lv_iload_n hx hb dX11_unitNumber_27 rfl (lv_at hl 2 rfl) ?_
      obtain rfl := Option.some.inj h
      exact W.iret (v := v2) hx hb hr (fun t ht hW => ⟨⟨_, _, rfl, ⟨rfl, rfl⟩, xPre_at h0 hS hP ht hW⟩, hS.F ht⟩) hS.2.2 dX11_unitNumber_28
  refine lv_iconst (v := 0) hx hb dX11_unitNumber_0 (by decide) ?_
  refine lv_istore_n (lv' := [(2, .int 0), (0, .ref (G.1 105)), (1, .ref (G.1 k1))]) hx hb dX11_unitNumber_1 rfl hl (by decide) rfl (fun ls hl => ?_)
  exact L2 FU 0 _ _ _ _ h hP hS (lv_sub hl [1, 2, 0] rfl)
def fX11_primeFactors_J45 (p0 : Int32) (K6 : Int32 → Int32 → Int32 → Option (Int32)) (v1 : Int32) (v2 : Int32) (v3 : Int32) : Option (Int32) :=
  K6 v1 v2 (v3 + 1)
def fX11_primeFactors_L14 (p0 : Int32) (K6 : Int32 → Int32 → Int32 → Option (Int32)) : Nat → Int32 → Int32 → Int32 → Int32 → Option (Int32)
  | 0, _, _, _, _ => none
  | n + 1, v1, v2, v3, v4 =>
  if 8 ≤ v4 then (fX11_primeFactors_J45 p0 K6 v1 v2 v3) else (if v1 ≤ 1 then (fX11_primeFactors_J45 p0 K6 v1 v2 v3) else (if v3 = 0 then none else (if (v1 - v1 / v3 * v3) = 0 then (if v3 = 0 then none else ((fX11_primeFactors_L14 p0 K6 n) (v1 / v3) (v2 + 1) v3 (v4 + 1))) else (fX11_primeFactors_J45 p0 K6 v1 v2 v3))))
def fX11_primeFactors_L6 (p0 : Int32) : Nat → Int32 → Int32 → Int32 → Option (Int32)
  | 0, _, _, _ => none
  | n + 1, v1, v2, v3 =>
  if p0 < v3 then (some v2) else (fX11_primeFactors_L14 p0 (fX11_primeFactors_L6 p0 n) FU v1 v2 v3 0)
def fX11_primeFactors (p0 : Int32) : Option (Int32) :=
  fX11_primeFactors_L6 p0 FU p0 0 2
set_option maxHeartbeats 4000000 in
set_option maxRecDepth 100000 in
theorem kX11_primeFactors (l : Launch) (p0 : Int32) (res : Int32) (h : fX11_primeFactors p0 = some res) : Met l yX11_primeFactors (.code yX11_primeFactors cX11_primeFactors 5 (some .int) :: lwW) (rmD 0) (nPc [.int p0]) (nQi res) 0 0 (fun _ => False) := by
  refine Met.ofW (cc := cX11_primeFactors) (maxL := 5) (ret := (some .int)) (by decide) rfl ?_
  intro p e s m args below meth c s₁ B hml hv
  obtain ⟨rfl, h0⟩ := hv
  have hx := B.exec
  have hb := B.bytes
  have hr := B.returns
  have hts := fun (w : Cond) (hw : w ∈ lwW) => atoms_spec (ws := (.code yX11_primeFactors cX11_primeFactors 5 (some .int) :: lwW)) B.pre w (List.mem_cons_of_mem _ hw)
  have hown : s.vm.findClass RX11 = some m.cls := findClass_of_methodNamed B.named
  have hlocks := B.notSynchronized
  have hS : va_S (fun _ => False) s.heap s.heap [] := va_S.rf
  have hl := lv_entry ([.int p0]) (n := 5) (Nat.le_of_ble_eq_true rfl)
  rw [lg_entry_eq]
  generalize (lg_sl ([.int p0]) ++ List.replicate (5 - (lg_sl ([.int p0])).length) Slot.unset).toArray = ls at hl ⊢
  have hl : lv_has ls 5 [(0, .int p0)] := hl
  unfold fX11_primeFactors at h
  have L6 : ∀ (n6 : Nat) (v1 : Int32) (v2 : Int32) (v3 : Int32) (H : Heap) (locs : List Loc) (ls : Array Slot), fX11_primeFactors_L6 p0 n6 v1 v2 v3 = some res → va_S (fun _ => False) s.heap H locs → lv_has ls 5 [(0, .int p0), (1, .int v1), (2, .int v2), (3, .int v3)] → W p l e (headSpec (.code yX11_primeFactors cX11_primeFactors 5 (some .int) :: lwW) (rmD 0)).room s m ([.int p0] : List Value).toArray below meth c H locs 0 0 (MQ below (nQi res) ([.int p0] : List Value).toArray s 0 0 (fun _ => False)) (F0 m 6 ls []) := by
    intro n6
    induction n6 with
    | zero => intro v1 v2 v3 H locs ls h; rw [fX11_primeFactors_L6] at h; cases h
    | succ n6 ih6 =>
      intro v1 v2 v3 H locs ls h hS hl
      rw [fX11_primeFactors_L6] at h
      have J45 : ∀ (v1 : Int32) (v2 : Int32) (v3 : Int32) (H : Heap) (locs : List Loc) (ls : Array Slot), fX11_primeFactors_J45 p0 (fX11_primeFactors_L6 p0 n6) v1 v2 v3 = some res → va_S (fun _ => False) s.heap H locs → lv_has ls 5 [(0, .int p0), (1, .int v1), (2, .int v2), (3, .int v3)] → W p l e (headSpec (.code yX11_primeFactors cX11_primeFactors 5 (some .int) :: lwW) (rmD 0)).room s m ([.int p0] : List Value).toArray below meth c H locs 0 0 (MQ below (nQi res) ([.int p0] : List Value).toArray s 0 0 (fun _ => False)) (F0 m 45 ls []) := by
        intro v1 v2 v3 H locs ls h hS hl
        unfold fX11_primeFactors_J45 at h
        refine lv_iinc (v := v3 + 1) (lv' := [(3, .int (v3 + 1)), (0, .int p0), (1, .int v1), (2, .int v2)]) hx hb dX11_primeFactors_45 hl (k := 3) rfl rfl (by decide) rfl (fun ls hl => ?_)
        refine lv_goto (tgt := 6) hx hb dX11_primeFactors_48 (by decide) ?_
        exact ih6 v1 v2 (v3 + 1) _ _ _ h hS (lv_sub hl [1, 2, 3, 0] rfl)
      have L14 : ∀ (n14 : Nat) (v1 : Int32) (v2 : Int32) (v3 : Int32) (v4 : Int32) (H : Heap) (locs : List Loc) (ls : Array Slot), fX11_primeFactors_L14 p0 (fX11_primeFactors_L6 p0 n6) n14 v1 v2 v3 v4 = some res → va_S (fun _ => False) s.heap H locs → lv_has ls 5 [(0, .int p0), (1, .int v1), (2, .int v2), (3, .int v3), (4, .int v4)] → W p l e (headSpec (.code yX11_primeFactors cX11_primeFactors 5 (some .int) :: lwW) (rmD 0)).room s m ([.int p0] : List Value).toArray below meth c H locs 0 0 (MQ below (nQi res) ([.int p0] : List Value).toArray s 0 0 (fun _ => False)) (F0 m 14 ls []) := by
        intro n14
        induction n14 with
        | zero => intro v1 v2 v3 v4 H locs ls h; rw [fX11_primeFactors_L14] at h; cases h
        | succ n14 ih14 =>
          intro v1 v2 v3 v4 H locs ls h hS hl
          rw [fX11_primeFactors_L14] at h
          refine lv_iload hx hb dX11_primeFactors_14 (lv_at hl 4 rfl) ?_
          refine lv_bipush (v := 8) hx hb dX11_primeFactors_16 (by decide) ?_
          refine lv_icmp_ge (tgt := 45) hx hb dX11_primeFactors_18 (by decide) (fun hcq1 => ?_) (fun hcq1 => ?_)
          · have h := ifp hcq1 h
            exact J45 v1 v2 v3 _ _ _ h hS (lv_sub hl [0, 1, 2, 3] rfl)
          have h := ifn hcq1 h
          refine lv_iload_n hx hb dX11_primeFactors_21 rfl (lv_at hl 1 rfl) ?_
          refine lv_iconst (v := 1) hx hb dX11_primeFactors_22 (by decide) ?_
          refine lv_icmp_le (tgt := 45) hx hb dX11_primeFactors_23 (by decide) (fun hcq2 => ?_) (fun hcq2 => ?_)
          · have h := ifp hcq2 h
            exact J45 v1 v2 v3 _ _ _ h hS (lv_sub hl [0, 1, 2, 3] rfl)
          have h := ifn hcq2 h
          refine lv_iload_n hx hb dX11_primeFactors_26 rfl (lv_at hl 1 rfl) ?_
          refine lv_iload_n hx hb dX11_primeFactors_27 rfl (lv_at hl 3 rfl) ?_
          obtain ⟨hdq3, h⟩ := nif h
          refine lv_irem hx hb dX11_primeFactors_28 hdq3 ?_
          refine lv_if_ne (tgt := 45) hx hb dX11_primeFactors_29 (by decide) (fun hcq4 => ?_) (fun hcq4 => ?_)
          · have h := ifn hcq4 h
            exact J45 v1 v2 v3 _ _ _ h hS (lv_sub hl [0, 1, 2, 3] rfl)
          have h := ifp hcq4 h
          refine lv_iload_n hx hb dX11_primeFactors_32 rfl (lv_at hl 1 rfl) ?_
          refine lv_iload_n hx hb dX11_primeFactors_33 rfl (lv_at hl 3 rfl) ?_
          obtain ⟨hdq5, h⟩ := nif h
          refine lv_idiv hx hb dX11_primeFactors_34 hdq5 ?_
          refine lv_istore_n (lv' := [(1, .int (v1 / v3)), (0, .int p0), (2, .int v2), (3, .int v3), (4, .int v4)]) hx hb dX11_primeFactors_35 rfl hl (by decide) rfl (fun ls hl => ?_)
          refine lv_iinc (v := v2 + 1) (lv' := [(2, .int (v2 + 1)), (1, .int (v1 / v3)), (0, .int p0), (3, .int v3), (4, .int v4)]) hx hb dX11_primeFactors_36 hl (k := 2) rfl rfl (by decide) rfl (fun ls hl => ?_)
          refine lv_iinc (v := v4 + 1) (lv' := [(4, .int (v4 + 1)), (2, .int (v2 + 1)), (1, .int (v1 / v3)), (0, .int p0), (3, .int v3)]) hx hb dX11_primeFactors_39 hl (k := 4) rfl rfl (by decide) rfl (fun ls hl => ?_)
          refine lv_goto (tgt := 14) hx hb dX11_primeFactors_42 (by decide) ?_
          exact ih14 (v1 / v3) (v2 + 1) v3 (v4 + 1) _ _ _ h hS (lv_sub hl [3, 2, 1, 4, 0] rfl)
      refine lv_iload_n hx hb dX11_primeFactors_6 rfl (lv_at hl 3 rfl) ?_
      refine lv_iload_n hx hb dX11_primeFactors_7 rfl (lv_at hl 0 rfl) ?_
      refine lv_icmp_gt (tgt := 51) hx hb dX11_primeFactors_8 (by decide) (fun hcq6 => ?_) (fun hcq6 => ?_)
      · have h := ifp hcq6 h
        refine lv_iload_n hx hb dX11_primeFactors_51 rfl (lv_at hl 2 rfl) ?_
        obtain rfl := Option.some.inj h
        exact W.iret (v := v2) hx hb hr (fun t ht hW => ⟨⟨_, (), rfl, rfl, trivial⟩, hS.F ht⟩) hS.2.2 dX11_primeFactors_52
      have h := ifn hcq6 h
      refine lv_iconst (v := 0) hx hb dX11_primeFactors_11 (by decide) ?_
      refine lv_istore (lv' := [(4, .int 0), (0, .int p0), (1, .int v1), (2, .int v2), (3, .int v3)]) hx hb dX11_primeFactors_12 hl (by decide) rfl (fun ls hl => ?_)
      exact L14 FU v1 v2 v3 0 _ _ _ h hS (lv_sub hl [1, 2, 3, 4, 0] rfl)
  refine lv_iload_n hx hb dX11_primeFactors_0 rfl (lv_at hl 0 rfl) ?_
  refine lv_istore_n (lv' := [(1, .int p0), (0, .int p0)]) hx hb dX11_primeFactors_1 rfl hl (by decide) rfl (fun ls hl => ?_)
  refine lv_iconst (v := 0) hx hb dX11_primeFactors_2 (by decide) ?_
  refine lv_istore_n (lv' := [(2, .int 0), (1, .int p0), (0, .int p0)]) hx hb dX11_primeFactors_3 rfl hl (by decide) rfl (fun ls hl => ?_)
  refine lv_iconst (v := 2) hx hb dX11_primeFactors_4 (by decide) ?_
  refine lv_istore_n (lv' := [(3, .int 2), (2, .int 0), (1, .int p0), (0, .int p0)]) hx hb dX11_primeFactors_5 rfl hl (by decide) rfl (fun ls hl => ?_)
  exact L6 FU p0 0 2 _ _ _ h hS (lv_sub hl [3, 2, 1, 0] rfl)
def fX11_of_J47 (p1 : Int32) (p2 : Int32) (v3 : Nat) (τ : QMem) : Option (Int32 × QMem) :=
  if p2 = 0 then ((fX6_norm v3 τ).bind fun xq2 => (some (xq2.1, xq2.2))) else (if p2 = 1 then ((fX11_unitNumber v3 τ).bind fun xq5 => (some (xq5.1, xq5.2))) else (if p2 = 2 then ((fX6_isEven v3 τ).bind fun xq8 => (if xq8.1 = 0 then (some (0, xq8.2)) else (some (1, xq8.2)))) else (if p2 = 3 then ((fX6_content v3 τ).bind fun xq12 => (some (xq12.1, xq12.2))) else (if p2 = 4 then ((fX6_norm v3 τ).bind fun xq15 => ((fX11_primeFactors xq15.1).bind fun xq17 => (some (xq17, xq15.2)))) else ((fX3_chains 10 v3 0 τ).bind fun xq19 => (some (xq19.1, xq19.2)))))))
def fX11_of (p1 : Int32) (p2 : Int32) (σ : QMem) : Option (Int32 × QMem) :=
  (fX11_isSlot p1).bind fun xq41 => (if xq41 = 0 then (some ((-1001), σ)) else (if p2 < 0 then (some ((-1002), σ)) else (if p2 ≤ 5 then (if (p1 < 0 ∨ xl 102 ≤ p1.toNatClampNeg) then none else (if p2 < 3 then (fX11_of_J47 p1 p2 (xb 102 + p1.toNatClampNeg) σ) else ((fX6_isZero (xb 102 + p1.toNatClampNeg) σ).bind fun xq48 => (if xq48.1 = 0 then (fX11_of_J47 p1 p2 (xb 102 + p1.toNatClampNeg) xq48.2) else (some ((-1003), xq48.2)))))) else (some ((-1002), σ)))))
set_option maxHeartbeats 4000000 in
set_option maxRecDepth 100000 in
theorem kX11_of (l : Launch) (D : va_G) (G : xG) (ub : xB) (σ : QMem) (p1 : Int32) (p2 : Int32) (res : Int32 × QMem) (h : fX11_of p1 p2 σ = some res) : Met l yX11_of (.code yX11_of cX11_of 4 (some .int) :: lwW) (rmD 17) (xPc D G ub σ [.ref (G.1 105), .int p1, .int p2]) (xQi D G ub res) 0 0 (xA G) := by
  refine Met.ofW (cc := cX11_of) (maxL := 4) (ret := (some .int)) (by decide) rfl ?_
  intro p e s m args below meth c s₁ B hml hv
  obtain ⟨rfl, h0⟩ := hv
  have hx := B.exec
  have hb := B.bytes
  have hr := B.returns
  have hts := fun (w : Cond) (hw : w ∈ lwW) => atoms_spec (ws := (.code yX11_of cX11_of 4 (some .int) :: lwW)) B.pre w (List.mem_cons_of_mem _ hw)
  have hown : s.vm.findClass RX11 = some m.cls := findClass_of_methodNamed B.named
  have hlocks := B.notSynchronized
  have hP := h0.1
  have hK := h0.2.1
  have hi := h0.2.2.1
  have hZ := h0.2.2.2
  have hN := h0.2.2.2.2.2.2.2.1
  have hV := h0.2.2.2.2.2.2.2.2.1
  have hS : va_S (xA G) s.heap s.heap [] := va_S.rf
  have hl := lv_entry ([.ref (G.1 105), .int p1, .int p2]) (n := 4) (Nat.le_of_ble_eq_true rfl)
  rw [lg_entry_eq]
  generalize (lg_sl ([.ref (G.1 105), .int p1, .int p2]) ++ List.replicate (4 - (lg_sl ([.ref (G.1 105), .int p1, .int p2])).length) Slot.unset).toArray = ls at hl ⊢
  have hl : lv_has ls 4 [(0, .ref (G.1 105)), (1, .int p1), (2, .int p2)] := hl
  unfold fX11_of at h
  have J47 : ∀ (v3 : Nat) (hv3 : xk v3 = 0) (τ : QMem) (H : Heap) (locs : List Loc) (ls : Array Slot), fX11_of_J47 p1 p2 v3 τ = some res → va_P D vwCl (xW G τ) H → va_S (xA G) s.heap H locs → lv_has ls 4 [(0, .ref (G.1 105)), (2, .int p2), (3, .ref (G.1 v3))] → W p l e (headSpec (.code yX11_of cX11_of 4 (some .int) :: lwW) (rmD 17)).room s m ([.ref (G.1 105), .int p1, .int p2] : List Value).toArray below meth c H locs 0 0 (MQ below (xQi D G ub res) ([.ref (G.1 105), .int p1, .int p2] : List Value).toArray s 0 0 (xA G)) (F0 m 47 ls []) := by
    intro v3 hv3 τ H locs ls h hP hS hl
    unfold fX11_of_J47 at h
    refine lv_iload_n hx hb dX11_of_47 rfl (lv_at hl 1 rfl) ?_
    by_cases hcq21 : p2 = 0
    · have h := ifp hcq21 h
      refine lv_tableIn (off := 36) (tgt := 84) hx hb dX11_of_48 (by rw [hcq21]; decide) (by rw [hcq21]; decide) (by rw [hcq21]; rfl) (by decide) ?_
      refine lv_aload_n hx hb dX11_of_84 rfl (lv_at hl 2 rfl) ?_
      obtain ⟨xq22, hfq23, h⟩ := obd h
      refine va_calli (va_runV (As := []) (rest := []) ⟨hx, hb, hml, hown, hts⟩ (kX6_norm l D G ub _ v3 hv3 xq22 hfq23) (cwV 0 hts (lwW_gV mw_515 mw_516 mw_517 mw_3 mw_518) rfl rfl rfl (by decide +kernel) ⟨Nat.le_of_ble_eq_true rfl, Nat.le_of_ble_eq_true rfl⟩) ⟨fun a U g mk q => ⟨q.1, xPre_call q.2⟩, va_recv hK hP rfl (xg_0 hv3), fun U hU hW => ⟨rfl, xPre_at h0 hS hP hU hW⟩⟩ rfl rfl hl.1 rfl (lv_room (Nat.le_of_ble_eq_true rfl)) dX11_of_85 ⟨Nat.zero_le _, Nat.zero_le _⟩) hS (fun q _ h => h) (fun q h => h) (fun r u t H1 locs ht hvm hw hB hz1 hq1 hS => ?_)
      obtain ⟨rfl, rfl⟩ := hw
      have hP := hB.1
      rw [ht] at hP
      refine W.widen (k := 0) (n := 0) (Nat.le_refl _) (Nat.le_refl _) ?_
      obtain rfl := Option.some.inj h
      exact W.iret (v := xq22.1) hx hb hr (fun t ht hW => ⟨⟨_, _, rfl, ⟨rfl, rfl⟩, xPre_at h0 hS hP ht hW⟩, hS.F ht⟩) hS.2.2 dX11_of_88
    have h := ifn hcq21 h
    by_cases hcq24 : p2 = 1
    · have h := ifp hcq24 h
      refine lv_tableIn (off := 41) (tgt := 89) hx hb dX11_of_48 (by rw [hcq24]; decide) (by rw [hcq24]; decide) (by rw [hcq24]; rfl) (by decide) ?_
      refine lv_aload_n hx hb dX11_of_89 rfl (lv_at hl 0 rfl) ?_
      refine lv_aload_n hx hb dX11_of_90 rfl (lv_at hl 2 rfl) ?_
      obtain ⟨xq25, hfq26, h⟩ := obd h
      refine va_calli (va_runV (As := [.ref (G.1 v3)]) (rest := []) ⟨hx, hb, hml, hown, hts⟩ (kX11_unitNumber l D G ub _ v3 hv3 xq25 hfq26) (cwV 1 hts (lwW_gV mw_519 mw_521 ms_11 mw_1 mw_522) rfl rfl rfl (by decide +kernel) ⟨Nat.le_of_ble_eq_true rfl, Nat.le_of_ble_eq_true rfl⟩) ⟨fun a U g mk q => ⟨q.1, xPre_call q.2⟩, va_recv hK hP rfl (xg_7 rfl), fun U hU hW => ⟨rfl, xPre_at h0 hS hP hU hW⟩⟩ rfl rfl hl.1 rfl (lv_room (Nat.le_of_ble_eq_true rfl)) dX11_of_91 ⟨Nat.zero_le _, Nat.zero_le _⟩) hS (fun q _ h => h) (fun q h => h) (fun r u t H1 locs ht hvm hw hB hz1 hq1 hS => ?_)
      obtain ⟨rfl, rfl⟩ := hw
      have hP := hB.1
      rw [ht] at hP
      refine W.widen (k := 0) (n := 0) (Nat.le_refl _) (Nat.le_refl _) ?_
      obtain rfl := Option.some.inj h
      exact W.iret (v := xq25.1) hx hb hr (fun t ht hW => ⟨⟨_, _, rfl, ⟨rfl, rfl⟩, xPre_at h0 hS hP ht hW⟩, hS.F ht⟩) hS.2.2 dX11_of_94
    have h := ifn hcq24 h
    by_cases hcq27 : p2 = 2
    · have h := ifp hcq27 h
      refine lv_tableIn (off := 47) (tgt := 95) hx hb dX11_of_48 (by rw [hcq27]; decide) (by rw [hcq27]; decide) (by rw [hcq27]; rfl) (by decide) ?_
      refine lv_aload_n hx hb dX11_of_95 rfl (lv_at hl 2 rfl) ?_
      obtain ⟨xq28, hfq29, h⟩ := obd h
      refine va_calli (va_runV (As := []) (rest := []) ⟨hx, hb, hml, hown, hts⟩ (kX6_isEven l D G ub _ v3 hv3 xq28 hfq29) (cwV 0 hts (lwW_gV mw_527 mw_528 mw_529 mw_3 mw_530) rfl rfl rfl (by decide +kernel) ⟨Nat.le_of_ble_eq_true rfl, Nat.le_of_ble_eq_true rfl⟩) ⟨fun a U g mk q => ⟨q.1, xPre_call q.2⟩, va_recv hK hP rfl (xg_0 hv3), fun U hU hW => ⟨rfl, xPre_at h0 hS hP hU hW⟩⟩ rfl rfl hl.1 rfl (lv_room (Nat.le_of_ble_eq_true rfl)) dX11_of_96 ⟨Nat.zero_le _, Nat.zero_le _⟩) hS (fun q _ h => h) (fun q h => h) (fun r u t H1 locs ht hvm hw hB hz1 hq1 hS => ?_)
      obtain ⟨rfl, rfl⟩ := hw
      have hP := hB.1
      rw [ht] at hP
      refine W.widen (k := 0) (n := 0) (Nat.le_refl _) (Nat.le_refl _) ?_
      refine lv_if_eq (tgt := 106) hx hb dX11_of_99 (by decide) (fun hcq30 => ?_) (fun hcq30 => ?_)
      · have h := ifp hcq30 h
        refine lv_iconst (v := 0) hx hb dX11_of_106 (by decide) ?_
        obtain rfl := Option.some.inj h
        exact W.iret (v := 0) hx hb hr (fun t ht hW => ⟨⟨_, _, rfl, ⟨rfl, rfl⟩, xPre_at h0 hS hP ht hW⟩, hS.F ht⟩) hS.2.2 dX11_of_107
      have h := ifn hcq30 h
      refine lv_iconst (v := 1) hx hb dX11_of_102 (by decide) ?_
      refine lv_goto (tgt := 107) hx hb dX11_of_103 (by decide) ?_
      obtain rfl := Option.some.inj h
      exact W.iret (v := 1) hx hb hr (fun t ht hW => ⟨⟨_, _, rfl, ⟨rfl, rfl⟩, xPre_at h0 hS hP ht hW⟩, hS.F ht⟩) hS.2.2 dX11_of_107
    have h := ifn hcq27 h
    by_cases hcq31 : p2 = 3
    · have h := ifp hcq31 h
      refine lv_tableIn (off := 60) (tgt := 108) hx hb dX11_of_48 (by rw [hcq31]; decide) (by rw [hcq31]; decide) (by rw [hcq31]; rfl) (by decide) ?_
      refine lv_aload_n hx hb dX11_of_108 rfl (lv_at hl 2 rfl) ?_
      obtain ⟨xq32, hfq33, h⟩ := obd h
      refine va_calli (va_runV (As := []) (rest := []) ⟨hx, hb, hml, hown, hts⟩ (kX6_content l D G ub _ v3 hv3 xq32 hfq33) (cwV 0 hts (lwW_gV mw_531 mw_532 mw_533 mw_3 mw_534) rfl rfl rfl (by decide +kernel) ⟨Nat.le_of_ble_eq_true rfl, Nat.le_of_ble_eq_true rfl⟩) ⟨fun a U g mk q => ⟨q.1, xPre_call q.2⟩, va_recv hK hP rfl (xg_0 hv3), fun U hU hW => ⟨rfl, xPre_at h0 hS hP hU hW⟩⟩ rfl rfl hl.1 rfl (lv_room (Nat.le_of_ble_eq_true rfl)) dX11_of_109 ⟨Nat.zero_le _, Nat.zero_le _⟩) hS (fun q _ h => h) (fun q h => h) (fun r u t H1 locs ht hvm hw hB hz1 hq1 hS => ?_)
      obtain ⟨rfl, rfl⟩ := hw
      have hP := hB.1
      rw [ht] at hP
      refine W.widen (k := 0) (n := 0) (Nat.le_refl _) (Nat.le_refl _) ?_
      obtain rfl := Option.some.inj h
      exact W.iret (v := xq32.1) hx hb hr (fun t ht hW => ⟨⟨_, _, rfl, ⟨rfl, rfl⟩, xPre_at h0 hS hP ht hW⟩, hS.F ht⟩) hS.2.2 dX11_of_112
    have h := ifn hcq31 h
    by_cases hcq34 : p2 = 4
    · have h := ifp hcq34 h
      refine lv_tableIn (off := 65) (tgt := 113) hx hb dX11_of_48 (by rw [hcq34]; decide) (by rw [hcq34]; decide) (by rw [hcq34]; rfl) (by decide) ?_
      refine lv_aload_n hx hb dX11_of_113 rfl (lv_at hl 2 rfl) ?_
      obtain ⟨xq35, hfq36, h⟩ := obd h
      refine va_calli (va_runV (As := []) (rest := []) ⟨hx, hb, hml, hown, hts⟩ (kX6_norm l D G ub _ v3 hv3 xq35 hfq36) (cwV 0 hts (lwW_gV mw_515 mw_516 mw_517 mw_3 mw_518) rfl rfl rfl (by decide +kernel) ⟨Nat.le_of_ble_eq_true rfl, Nat.le_of_ble_eq_true rfl⟩) ⟨fun a U g mk q => ⟨q.1, xPre_call q.2⟩, va_recv hK hP rfl (xg_0 hv3), fun U hU hW => ⟨rfl, xPre_at h0 hS hP hU hW⟩⟩ rfl rfl hl.1 rfl (lv_room (Nat.le_of_ble_eq_true rfl)) dX11_of_114 ⟨Nat.zero_le _, Nat.zero_le _⟩) hS (fun q _ h => h) (fun q h => h) (fun r u t H1 locs ht hvm hw hB hz1 hq1 hS => ?_)
      obtain ⟨rfl, rfl⟩ := hw
      have hP := hB.1
      rw [ht] at hP
      refine W.widen (k := 0) (n := 0) (Nat.le_refl _) (Nat.le_refl _) ?_
      obtain ⟨xq37, hfq38, h⟩ := obd h
      refine va_calli (va_runS (As := [.int xq35.1]) (rest := []) ⟨hx, hb, hml, hown, hts⟩ (kX11_primeFactors l xq35.1 xq37 hfq38) (va_cwS 1 hts (lwW_gS mw_540 mw_541 mw_1 mw_542) rfl rfl rfl (by decide +kernel) ⟨Nat.le_of_ble_eq_true rfl, Nat.le_of_ble_eq_true rfl⟩) ⟨fun a U g mk q => ⟨q.1, trivial⟩, fun U hU hW => ⟨rfl, trivial⟩⟩ rfl rfl hl.1 rfl (lv_room (Nat.le_of_ble_eq_true rfl)) dX11_of_117 ⟨Nat.zero_le _, Nat.zero_le _⟩) hS (fun q _ h => h.elim) (fun q h => h.elim) (fun r u t H1 locs ht hvm hw hB hz1 hq1 hS => ?_)
      obtain rfl := hw.symm
      have hP := xP_kept hP hq1
      refine W.widen (k := 0) (n := 0) (Nat.le_refl _) (Nat.le_refl _) ?_
      obtain rfl := Option.some.inj h
      exact W.iret (v := xq37) hx hb hr (fun t ht hW => ⟨⟨_, _, rfl, ⟨rfl, rfl⟩, xPre_at h0 hS hP ht hW⟩, hS.F ht⟩) hS.2.2 dX11_of_120
    have h := ifn hcq34 h
    refine lv_tableOut (tgt := 121) hx hb dX11_of_48 (by have t0 := toI_ne hcq21; have t1 := toI_ne hcq24; have t2 := toI_ne hcq27; have t3 := toI_ne hcq31; have t4 := toI_ne hcq34; rw [show (0 : Int32).toInt = 0 from by decide] at t0; rw [show (1 : Int32).toInt = 1 from by decide] at t1; rw [show (2 : Int32).toInt = 2 from by decide] at t2; rw [show (3 : Int32).toInt = 3 from by decide] at t3; rw [show (4 : Int32).toInt = 4 from by decide] at t4; omega) (by decide) ?_
    refine lv_aload_n hx hb dX11_of_121 rfl (lv_at hl 0 rfl) ?_
    refine va_get (D := D) (ci := 11) (v := .ref (G.1 112)) (C := RX11) (T := TX11) (N := 13) hx hb hts iwX11 hown hK hP 105 (xg_7 rfl) rfl 8 (by decide) (hts _ mw_290) (fun _ h9 => h9) rfl dX11_of_122 ?_
    refine lv_aload_n hx hb dX11_of_125 rfl (lv_at hl 2 rfl) ?_
    refine lv_iconst (v := 0) hx hb dX11_of_126 (by decide) ?_
    obtain ⟨xq39, hfq40, h⟩ := obd h
    refine va_calli (va_runSN (As := [.ref (G.1 112), .ref (G.1 v3), .int 0]) (rest := []) ⟨hx, hb, hml, hown, hts⟩ (kX3_chains l D G ub 10 _ v3 hv3 0 xq39 hfq40) ⟨va_cnB 3 hts (lwW_gc mw_545) rfl rfl rfl (hN.M 15 rfl) (hts _ mw_12) (by decide +kernel) ⟨Nat.le_of_ble_eq_true rfl, Nat.le_of_ble_eq_true rfl⟩, hts _ mw_544, trivial⟩ ⟨fun a U g mk q => ⟨q.1, xPre_call q.2⟩, fun U hU hW => ⟨rfl, xPre_at h0 hS hP hU hW⟩⟩ rfl rfl hl.1 rfl (lv_room (Nat.le_of_ble_eq_true rfl)) dX11_of_127 ⟨Nat.zero_le _, Nat.zero_le _⟩) hS (fun q _ h => h) (fun q h => h) (fun r u t H1 locs ht hvm hw hB hz1 hq1 hS => ?_)
    obtain ⟨rfl, rfl⟩ := hw
    have hP := hB.1
    rw [ht] at hP
    refine W.widen (k := 0) (n := 0) (Nat.le_refl _) (Nat.le_refl _) ?_
    obtain rfl := Option.some.inj h
    exact W.iret (v := xq39.1) hx hb hr (fun t ht hW => ⟨⟨_, _, rfl, ⟨rfl, rfl⟩, xPre_at h0 hS hP ht hW⟩, hS.F ht⟩) hS.2.2 dX11_of_130
  refine lv_iload_n hx hb dX11_of_0 rfl (lv_at hl 1 rfl) ?_
  obtain ⟨xq41, hfq42, h⟩ := obd h
  refine va_calli (va_runS (As := [.int p1]) (rest := []) ⟨hx, hb, hml, hown, hts⟩ (kX11_isSlot l p1 xq41 hfq42) (va_cwS 1 hts (lwW_gS mw_463 mw_464 mw_1 mw_465) rfl rfl rfl (by decide +kernel) ⟨Nat.le_of_ble_eq_true rfl, Nat.le_of_ble_eq_true rfl⟩) ⟨fun a U g mk q => ⟨q.1, trivial⟩, fun U hU hW => ⟨rfl, trivial⟩⟩ rfl rfl hl.1 rfl (lv_room (Nat.le_of_ble_eq_true rfl)) dX11_of_1 ⟨Nat.zero_le _, Nat.zero_le _⟩) hS (fun q _ h => h.elim) (fun q h => h.elim) (fun r u t H1 locs ht hvm hw hB hz1 hq1 hS => ?_)
  obtain rfl := hw.symm
  have hP := xP_kept hP hq1
  refine W.widen (k := 0) (n := 0) (Nat.le_refl _) (Nat.le_refl _) ?_
  refine lv_if_ne (tgt := 11) hx hb dX11_of_4 (by decide) (fun hcq43 => ?_) (fun hcq43 => ?_)
  · have h := ifn hcq43 h
    refine lv_iload_n hx hb dX11_of_11 rfl (lv_at hl 2 rfl) ?_
    refine lv_if_lt (tgt := 20) hx hb dX11_of_12 (by decide) (fun hcq44 => ?_) (fun hcq44 => ?_)
    · have h := ifp hcq44 h
      refine lv_sipush (v := (-1002)) hx hb dX11_of_20 (by decide) ?_
      obtain rfl := Option.some.inj h
      exact W.iret (v := (-1002)) hx hb hr (fun t ht hW => ⟨⟨_, _, rfl, ⟨rfl, rfl⟩, xPre_at h0 hS hP ht hW⟩, hS.F ht⟩) hS.2.2 dX11_of_23
    have h := ifn hcq44 h
    refine lv_iload_n hx hb dX11_of_15 rfl (lv_at hl 2 rfl) ?_
    refine lv_iconst (v := 5) hx hb dX11_of_16 (by decide) ?_
    refine lv_icmp_le (tgt := 24) hx hb dX11_of_17 (by decide) (fun hcq45 => ?_) (fun hcq45 => ?_)
    · have h := ifp hcq45 h
      refine lv_aload_n hx hb dX11_of_24 rfl (lv_at hl 0 rfl) ?_
      refine va_get (D := D) (ci := 11) (v := .ref (G.1 102)) (C := RX11) (T := TX11) (N := 13) hx hb hts iwX11 hown hK hP 105 (xg_7 rfl) rfl 0 (by decide) (hts _ mw_282) (fun _ h9 => h9) rfl dX11_of_25 ?_
      refine lv_iload_n hx hb dX11_of_28 rfl (lv_at hl 1 rfl) ?_
      obtain ⟨hiq46, h⟩ := nif h
      refine va_aldq hx hb hK hP 102 1 (xg_6 rfl) rfl hiq46 dX11_of_29 ?_
      refine W.eq (g2 := F0 m 30 ls [.ref (G.1 (xb 102 + p1.toNatClampNeg))]) rfl ?_
      refine lv_astore_n (lv' := [(3, .ref (G.1 (xb 102 + p1.toNatClampNeg))), (0, .ref (G.1 105)), (1, .int p1), (2, .int p2)]) hx hb dX11_of_30 rfl hl (by decide) rfl (fun ls hl => ?_)
      refine lv_iload_n hx hb dX11_of_31 rfl (lv_at hl 3 rfl) ?_
      refine lv_iconst (v := 3) hx hb dX11_of_32 (by decide) ?_
      refine lv_icmp_lt (tgt := 47) hx hb dX11_of_33 (by decide) (fun hcq47 => ?_) (fun hcq47 => ?_)
      · have h := ifp hcq47 h
        exact J47 (xb 102 + p1.toNatClampNeg) (xr6 rfl (vp_lt hiq46)) _ _ _ _ h hP hS (lv_sub hl [1, 3, 0] rfl)
      have h := ifn hcq47 h
      refine lv_aload_n hx hb dX11_of_36 rfl (lv_at hl 0 rfl) ?_
      obtain ⟨xq48, hfq49, h⟩ := obd h
      refine va_calli (va_runV (As := []) (rest := []) ⟨hx, hb, hml, hown, hts⟩ (kX6_isZero l D G ub _ (xb 102 + p1.toNatClampNeg) (xr6 rfl (vp_lt hiq46)) xq48 hfq49) (cwV 0 hts (lwW_gV mw_511 mw_512 mw_513 mw_3 mw_514) rfl rfl rfl (by decide +kernel) ⟨Nat.le_of_ble_eq_true rfl, Nat.le_of_ble_eq_true rfl⟩) ⟨fun a U g mk q => ⟨q.1, xPre_call q.2⟩, va_recv hK hP rfl (xg_0 (xr6 rfl (vp_lt hiq46))), fun U hU hW => ⟨rfl, xPre_at h0 hS hP hU hW⟩⟩ rfl rfl hl.1 rfl (lv_room (Nat.le_of_ble_eq_true rfl)) dX11_of_37 ⟨Nat.zero_le _, Nat.zero_le _⟩) hS (fun q _ h => h) (fun q h => h) (fun r u t H1 locs ht hvm hw hB hz1 hq1 hS => ?_)
      obtain ⟨rfl, rfl⟩ := hw
      have hP := hB.1
      rw [ht] at hP
      refine W.widen (k := 0) (n := 0) (Nat.le_refl _) (Nat.le_refl _) ?_
      refine lv_if_eq (tgt := 47) hx hb dX11_of_40 (by decide) (fun hcq50 => ?_) (fun hcq50 => ?_)
      · have h := ifp hcq50 h
        exact J47 (xb 102 + p1.toNatClampNeg) (xr6 rfl (vp_lt hiq46)) _ _ _ _ h hP hS (lv_sub hl [1, 3, 0] rfl)
      have h := ifn hcq50 h
      refine lv_sipush (v := (-1003)) hx hb dX11_of_43 (by decide) ?_
      obtain rfl := Option.some.inj h
      exact W.iret (v := (-1003)) hx hb hr (fun t ht hW => ⟨⟨_, _, rfl, ⟨rfl, rfl⟩, xPre_at h0 hS hP ht hW⟩, hS.F ht⟩) hS.2.2 dX11_of_46
    have h := ifn hcq45 h
    refine lv_sipush (v := (-1002)) hx hb dX11_of_20 (by decide) ?_
    obtain rfl := Option.some.inj h
    exact W.iret (v := (-1002)) hx hb hr (fun t ht hW => ⟨⟨_, _, rfl, ⟨rfl, rfl⟩, xPre_at h0 hS hP ht hW⟩, hS.F ht⟩) hS.2.2 dX11_of_23
  have h := ifp hcq43 h
  refine lv_sipush (v := (-1001)) hx hb dX11_of_7 (by decide) ?_
  obtain rfl := Option.some.inj h
  exact W.iret (v := (-1001)) hx hb hr (fun t ht hW => ⟨⟨_, _, rfl, ⟨rfl, rfl⟩, xPre_at h0 hS hP ht hW⟩, hS.F ht⟩) hS.2.2 dX11_of_10
def fX11_unit (p1 : Int32) (p2 : Int32) (σ : QMem) : Option (Int32 × QMem) :=
  (fX11_isUnit p1).bind fun xq1 => (if xq1 = 0 then (some ((-1001), σ)) else ((fX11_isPart p2).bind fun xq4 => (if xq4 = 0 then (some ((-1002), σ)) else (if ((4 * p1) + p2 < 0 ∨ 96 ≤ ((4 * p1) + p2).toNatClampNeg) then none else (some (xU ((4 * p1) + p2).toNatClampNeg, σ))))))
set_option maxHeartbeats 4000000 in
set_option maxRecDepth 100000 in
theorem kX11_unit (l : Launch) (D : va_G) (G : xG) (ub : xB) (σ : QMem) (p1 : Int32) (p2 : Int32) (res : Int32 × QMem) (h : fX11_unit p1 p2 σ = some res) : Met l yX11_unit (.code yX11_unit cX11_unit 3 (some .int) :: lwW) (rmD 1) (xPc D G ub σ [.ref (G.1 105), .int p1, .int p2]) (xQi D G ub res) 0 0 (xA G) := by
  refine Met.ofW (cc := cX11_unit) (maxL := 3) (ret := (some .int)) (by decide) rfl ?_
  intro p e s m args below meth c s₁ B hml hv
  obtain ⟨rfl, h0⟩ := hv
  have hx := B.exec
  have hb := B.bytes
  have hr := B.returns
  have hts := fun (w : Cond) (hw : w ∈ lwW) => atoms_spec (ws := (.code yX11_unit cX11_unit 3 (some .int) :: lwW)) B.pre w (List.mem_cons_of_mem _ hw)
  have hown : s.vm.findClass RX11 = some m.cls := findClass_of_methodNamed B.named
  have hlocks := B.notSynchronized
  have hP := h0.1
  have hK := h0.2.1
  have hi := h0.2.2.1
  have hZ := h0.2.2.2
  have hN := h0.2.2.2.2.2.2.2.1
  have hV := h0.2.2.2.2.2.2.2.2.1
  have hS : va_S (xA G) s.heap s.heap [] := va_S.rf
  have hl := lv_entry ([.ref (G.1 105), .int p1, .int p2]) (n := 3) (Nat.le_of_ble_eq_true rfl)
  rw [lg_entry_eq]
  generalize (lg_sl ([.ref (G.1 105), .int p1, .int p2]) ++ List.replicate (3 - (lg_sl ([.ref (G.1 105), .int p1, .int p2])).length) Slot.unset).toArray = ls at hl ⊢
  have hl : lv_has ls 3 [(0, .ref (G.1 105)), (1, .int p1), (2, .int p2)] := hl
  unfold fX11_unit at h
  refine lv_iload_n hx hb dX11_unit_0 rfl (lv_at hl 1 rfl) ?_
  obtain ⟨xq1, hfq2, h⟩ := obd h
  refine va_calli (va_runS (As := [.int p1]) (rest := []) ⟨hx, hb, hml, hown, hts⟩ (kX11_isUnit l p1 xq1 hfq2) (va_cwS 1 hts (lwW_gS mw_657 mw_475 mw_1 mw_476) rfl rfl rfl (by decide +kernel) ⟨Nat.le_of_ble_eq_true rfl, Nat.le_of_ble_eq_true rfl⟩) ⟨fun a U g mk q => ⟨q.1, trivial⟩, fun U hU hW => ⟨rfl, trivial⟩⟩ rfl rfl hl.1 rfl (lv_room (Nat.le_of_ble_eq_true rfl)) dX11_unit_1 ⟨Nat.zero_le _, Nat.zero_le _⟩) hS (fun q _ h => h.elim) (fun q h => h.elim) (fun r u t H1 locs ht hvm hw hB hz1 hq1 hS => ?_)
  obtain rfl := hw.symm
  have hP := xP_kept hP hq1
  refine W.widen (k := 0) (n := 0) (Nat.le_refl _) (Nat.le_refl _) ?_
  refine lv_if_ne (tgt := 11) hx hb dX11_unit_4 (by decide) (fun hcq3 => ?_) (fun hcq3 => ?_)
  · have h := ifn hcq3 h
    refine lv_iload_n hx hb dX11_unit_11 rfl (lv_at hl 2 rfl) ?_
    obtain ⟨xq4, hfq5, h⟩ := obd h
    refine va_calli (va_runS (As := [.int p2]) (rest := []) ⟨hx, hb, hml, hown, hts⟩ (kX11_isPart l p2 xq4 hfq5) (va_cwS 1 hts (lwW_gS mw_500 mw_501 mw_1 mw_502) rfl rfl rfl (by decide +kernel) ⟨Nat.le_of_ble_eq_true rfl, Nat.le_of_ble_eq_true rfl⟩) ⟨fun a U g mk q => ⟨q.1, trivial⟩, fun U hU hW => ⟨rfl, trivial⟩⟩ rfl rfl hl.1 rfl (lv_room (Nat.le_of_ble_eq_true rfl)) dX11_unit_12 ⟨Nat.zero_le _, Nat.zero_le _⟩) hS (fun q _ h => h.elim) (fun q h => h.elim) (fun r u t H1 locs ht hvm hw hB hz1 hq1 hS => ?_)
    obtain rfl := hw.symm
    have hP := xP_kept hP hq1
    refine W.widen (k := 0) (n := 0) (Nat.le_refl _) (Nat.le_refl _) ?_
    refine lv_if_ne (tgt := 22) hx hb dX11_unit_15 (by decide) (fun hcq6 => ?_) (fun hcq6 => ?_)
    · have h := ifn hcq6 h
      refine va_gets hx hb hZ.1 hS hown (hts _ mw_658) (fun _ h9 => h9) dX11_unit_22 ?_
      refine lv_iconst (v := 4) hx hb dX11_unit_25 (by decide) ?_
      refine lv_iload_n hx hb dX11_unit_26 rfl (lv_at hl 1 rfl) ?_
      refine lv_imul hx hb dX11_unit_27 ?_
      refine lv_iload_n hx hb dX11_unit_28 rfl (lv_at hl 2 rfl) ?_
      refine lv_iadd hx hb dX11_unit_29 ?_
      obtain ⟨hiq7, h⟩ := nif h
      refine va_sld hx hb hZ.2.1 hZ.2.2.1 hZ.2.2.2.1 hS hiq7 dX11_unit_30 ?_
      obtain rfl := Option.some.inj h
      exact W.iret (v := xU ((4 * p1) + p2).toNatClampNeg) hx hb hr (fun t ht hW => ⟨⟨_, _, rfl, ⟨rfl, rfl⟩, xPre_at h0 hS hP ht hW⟩, hS.F ht⟩) hS.2.2 dX11_unit_31
    have h := ifp hcq6 h
    refine lv_sipush (v := (-1002)) hx hb dX11_unit_18 (by decide) ?_
    obtain rfl := Option.some.inj h
    exact W.iret (v := (-1002)) hx hb hr (fun t ht hW => ⟨⟨_, _, rfl, ⟨rfl, rfl⟩, xPre_at h0 hS hP ht hW⟩, hS.F ht⟩) hS.2.2 dX11_unit_21
  have h := ifp hcq3 h
  refine lv_sipush (v := (-1001)) hx hb dX11_unit_7 (by decide) ?_
  obtain rfl := Option.some.inj h
  exact W.iret (v := (-1001)) hx hb hr (fun t ht hW => ⟨⟨_, _, rfl, ⟨rfl, rfl⟩, xPre_at h0 hS hP ht hW⟩, hS.F ht⟩) hS.2.2 dX11_unit_10
def fX11_isInReach (p0 : Int32) : Option (Int32) :=
  if p0 < (-24) then (some 0) else (if 24 < p0 then (some 0) else (some 1))
set_option maxHeartbeats 4000000 in
set_option maxRecDepth 100000 in
theorem kX11_isInReach (l : Launch) (p0 : Int32) (res : Int32) (h : fX11_isInReach p0 = some res) : Met l yX11_isInReach (.code yX11_isInReach cX11_isInReach 1 (some .boolean) :: lwW) (rmD 0) (nPc [.int p0]) (nQi res) 0 0 (fun _ => False) := by
  refine Met.ofW (cc := cX11_isInReach) (maxL := 1) (ret := (some .boolean)) (by decide) rfl ?_
  intro p e s m args below meth c s₁ B hml hv
  obtain ⟨rfl, h0⟩ := hv
  have hx := B.exec
  have hb := B.bytes
  have hr := B.returns
  have hts := fun (w : Cond) (hw : w ∈ lwW) => atoms_spec (ws := (.code yX11_isInReach cX11_isInReach 1 (some .boolean) :: lwW)) B.pre w (List.mem_cons_of_mem _ hw)
  have hown : s.vm.findClass RX11 = some m.cls := findClass_of_methodNamed B.named
  have hlocks := B.notSynchronized
  have hS : va_S (fun _ => False) s.heap s.heap [] := va_S.rf
  have hl := lv_entry ([.int p0]) (n := 1) (Nat.le_of_ble_eq_true rfl)
  rw [lg_entry_eq]
  generalize (lg_sl ([.int p0]) ++ List.replicate (1 - (lg_sl ([.int p0])).length) Slot.unset).toArray = ls at hl ⊢
  have hl : lv_has ls 1 [(0, .int p0)] := hl
  unfold fX11_isInReach at h
  refine lv_iload_n hx hb dX11_isInReach_0 rfl (lv_at hl 0 rfl) ?_
  refine lv_bipush (v := (-24)) hx hb dX11_isInReach_1 (by decide) ?_
  refine lv_icmp_lt (tgt := 16) hx hb dX11_isInReach_3 (by decide) (fun hcq1 => ?_) (fun hcq1 => ?_)
  · have h := ifp hcq1 h
    refine lv_iconst (v := 0) hx hb dX11_isInReach_16 (by decide) ?_
    obtain rfl := Option.some.inj h
    exact W.zret hx hb hr rfl (fun t ht hW => ⟨⟨_, (), rfl, rfl, trivial⟩, hS.F ht⟩) hS.2.2 dX11_isInReach_17
  have h := ifn hcq1 h
  refine lv_iload_n hx hb dX11_isInReach_6 rfl (lv_at hl 0 rfl) ?_
  refine lv_bipush (v := 24) hx hb dX11_isInReach_7 (by decide) ?_
  refine lv_icmp_gt (tgt := 16) hx hb dX11_isInReach_9 (by decide) (fun hcq2 => ?_) (fun hcq2 => ?_)
  · have h := ifp hcq2 h
    refine lv_iconst (v := 0) hx hb dX11_isInReach_16 (by decide) ?_
    obtain rfl := Option.some.inj h
    exact W.zret hx hb hr rfl (fun t ht hW => ⟨⟨_, (), rfl, rfl, trivial⟩, hS.F ht⟩) hS.2.2 dX11_isInReach_17
  have h := ifn hcq2 h
  refine lv_iconst (v := 1) hx hb dX11_isInReach_12 (by decide) ?_
  refine lv_goto (tgt := 17) hx hb dX11_isInReach_13 (by decide) ?_
  obtain rfl := Option.some.inj h
  exact W.zret hx hb hr rfl (fun t ht hW => ⟨⟨_, (), rfl, rfl, trivial⟩, hS.F ht⟩) hS.2.2 dX11_isInReach_17
def fX11_change (p1 : Int32) (k2 : Nat) (σ : QMem) : Option (Int32 × QMem) :=
  (fX11_isSlot p1).bind fun xq1 => (if xq1 = 0 then (some ((-1001), σ)) else (if (p1 < 0 ∨ xl 102 ≤ p1.toNatClampNeg) then none else ((fX4_append p1 (xb 102 + p1.toNatClampNeg) σ).bind fun xq5 => (if (p1 < 0 ∨ xl 102 ≤ p1.toNatClampNeg) then none else ((fX6_copyFrom (xb 102 + p1.toNatClampNeg) k2 xq5).bind fun xq8 => ((fX6_norm k2 xq8).bind fun xq10 => (some (xq10.1, xq10.2))))))))
set_option maxHeartbeats 4000000 in
set_option maxRecDepth 100000 in
theorem kX11_change (l : Launch) (D : va_G) (G : xG) (ub : xB) (σ : QMem) (p1 : Int32) (k2 : Nat) (hk2 : xk k2 = 0) (res : Int32 × QMem) (h : fX11_change p1 k2 σ = some res) : Met l yX11_change (.code yX11_change cX11_change 3 (some .int) :: lwW) (rmD 3) (xPc D G ub σ [.ref (G.1 105), .int p1, .ref (G.1 k2)]) (xQi D G ub res) 0 0 (xA G) := by
  refine Met.ofW (cc := cX11_change) (maxL := 3) (ret := (some .int)) (by decide) rfl ?_
  intro p e s m args below meth c s₁ B hml hv
  obtain ⟨rfl, h0⟩ := hv
  have hx := B.exec
  have hb := B.bytes
  have hr := B.returns
  have hts := fun (w : Cond) (hw : w ∈ lwW) => atoms_spec (ws := (.code yX11_change cX11_change 3 (some .int) :: lwW)) B.pre w (List.mem_cons_of_mem _ hw)
  have hown : s.vm.findClass RX11 = some m.cls := findClass_of_methodNamed B.named
  have hlocks := B.notSynchronized
  have hP := h0.1
  have hK := h0.2.1
  have hi := h0.2.2.1
  have hZ := h0.2.2.2
  have hN := h0.2.2.2.2.2.2.2.1
  have hV := h0.2.2.2.2.2.2.2.2.1
  have hS : va_S (xA G) s.heap s.heap [] := va_S.rf
  have hl := lv_entry ([.ref (G.1 105), .int p1, .ref (G.1 k2)]) (n := 3) (Nat.le_of_ble_eq_true rfl)
  rw [lg_entry_eq]
  generalize (lg_sl ([.ref (G.1 105), .int p1, .ref (G.1 k2)]) ++ List.replicate (3 - (lg_sl ([.ref (G.1 105), .int p1, .ref (G.1 k2)])).length) Slot.unset).toArray = ls at hl ⊢
  have hl : lv_has ls 3 [(0, .ref (G.1 105)), (1, .int p1), (2, .ref (G.1 k2))] := hl
  unfold fX11_change at h
  refine lv_iload_n hx hb dX11_change_0 rfl (lv_at hl 1 rfl) ?_
  obtain ⟨xq1, hfq2, h⟩ := obd h
  refine va_calli (va_runS (As := [.int p1]) (rest := []) ⟨hx, hb, hml, hown, hts⟩ (kX11_isSlot l p1 xq1 hfq2) (va_cwS 1 hts (lwW_gS mw_463 mw_464 mw_1 mw_465) rfl rfl rfl (by decide +kernel) ⟨Nat.le_of_ble_eq_true rfl, Nat.le_of_ble_eq_true rfl⟩) ⟨fun a U g mk q => ⟨q.1, trivial⟩, fun U hU hW => ⟨rfl, trivial⟩⟩ rfl rfl hl.1 rfl (lv_room (Nat.le_of_ble_eq_true rfl)) dX11_change_1 ⟨Nat.zero_le _, Nat.zero_le _⟩) hS (fun q _ h => h.elim) (fun q h => h.elim) (fun r u t H1 locs ht hvm hw hB hz1 hq1 hS => ?_)
  obtain rfl := hw.symm
  have hP := xP_kept hP hq1
  refine W.widen (k := 0) (n := 0) (Nat.le_refl _) (Nat.le_refl _) ?_
  refine lv_if_ne (tgt := 11) hx hb dX11_change_4 (by decide) (fun hcq3 => ?_) (fun hcq3 => ?_)
  · have h := ifn hcq3 h
    refine lv_aload_n hx hb dX11_change_11 rfl (lv_at hl 0 rfl) ?_
    refine va_get (D := D) (ci := 11) (v := .ref (G.1 108)) (C := RX11) (T := TX11) (N := 13) hx hb hts iwX11 hown hK hP 105 (xg_7 rfl) rfl 3 (by decide) (hts _ mw_285) (fun _ h9 => h9) rfl dX11_change_12 ?_
    refine lv_iload_n hx hb dX11_change_15 rfl (lv_at hl 1 rfl) ?_
    refine lv_aload_n hx hb dX11_change_16 rfl (lv_at hl 0 rfl) ?_
    refine va_get (D := D) (ci := 11) (v := .ref (G.1 102)) (C := RX11) (T := TX11) (N := 13) hx hb hts iwX11 hown hK hP 105 (xg_7 rfl) rfl 0 (by decide) (hts _ mw_282) (fun _ h9 => h9) rfl dX11_change_17 ?_
    refine lv_iload_n hx hb dX11_change_20 rfl (lv_at hl 1 rfl) ?_
    obtain ⟨hiq4, h⟩ := nif h
    refine va_aldq hx hb hK hP 102 1 (xg_6 rfl) rfl hiq4 dX11_change_21 ?_
    refine W.eq (g2 := F0 m 22 ls [.ref (G.1 (xb 102 + p1.toNatClampNeg)), .int p1, .ref (G.1 108)]) rfl ?_
    obtain ⟨xq5, hfq6, h⟩ := obd h
    refine va_callv (va_runV (As := [.int p1, .ref (G.1 (xb 102 + p1.toNatClampNeg))]) (rest := []) ⟨hx, hb, hml, hown, hts⟩ (kX4_append l D G ub _ p1 (xb 102 + p1.toNatClampNeg) (xr6 rfl (vp_lt hiq4)) xq5 hfq6) (cwV 2 hts (lwW_gV mw_670 mw_671 mw_672 mw_6 mw_673) rfl rfl rfl (by decide +kernel) ⟨Nat.le_of_ble_eq_true rfl, Nat.le_of_ble_eq_true rfl⟩) ⟨fun a U g mk q => ⟨q.1, xPre_call q.2⟩, va_recv hK hP rfl (xg_10 rfl), fun U hU hW => ⟨rfl, xPre_at h0 hS hP hU hW⟩⟩ rfl rfl hl.1 rfl (lv_room (Nat.le_of_ble_eq_true rfl)) dX11_change_22 ⟨Nat.zero_le _, Nat.zero_le _⟩) hS (fun q _ h => h) (fun q h => h) (fun u t H1 locs ht hvm hw hB hz1 hq1 hS => ?_)
    obtain rfl := hw.symm
    have hP := hB.1
    rw [ht] at hP
    refine W.widen (k := 0) (n := 0) (Nat.le_refl _) (Nat.le_refl _) ?_
    refine lv_aload_n hx hb dX11_change_25 rfl (lv_at hl 0 rfl) ?_
    refine va_get (D := D) (ci := 11) (v := .ref (G.1 102)) (C := RX11) (T := TX11) (N := 13) hx hb hts iwX11 hown hK hP 105 (xg_7 rfl) rfl 0 (by decide) (hts _ mw_282) (fun _ h9 => h9) rfl dX11_change_26 ?_
    refine lv_iload_n hx hb dX11_change_29 rfl (lv_at hl 1 rfl) ?_
    obtain ⟨hiq7, h⟩ := nif h
    refine va_aldq hx hb hK hP 102 1 (xg_6 rfl) rfl hiq7 dX11_change_30 ?_
    refine W.eq (g2 := F0 m 31 ls [.ref (G.1 (xb 102 + p1.toNatClampNeg))]) rfl ?_
    refine lv_aload_n hx hb dX11_change_31 rfl (lv_at hl 2 rfl) ?_
    obtain ⟨xq8, hfq9, h⟩ := obd h
    refine va_callv (va_runV (As := [.ref (G.1 k2)]) (rest := []) ⟨hx, hb, hml, hown, hts⟩ (kX6_copyFrom l D G ub _ (xb 102 + p1.toNatClampNeg) (xr6 rfl (vp_lt hiq7)) k2 hk2 xq8 hfq9) (cwV 1 hts (lwW_gV mw_480 mw_481 mw_482 mw_3 mw_483) rfl rfl rfl (by decide +kernel) ⟨Nat.le_of_ble_eq_true rfl, Nat.le_of_ble_eq_true rfl⟩) ⟨fun a U g mk q => ⟨q.1, xPre_call q.2⟩, va_recv hK hP rfl (xg_0 (xr6 rfl (vp_lt hiq7))), fun U hU hW => ⟨rfl, xPre_at h0 hS hP hU hW⟩⟩ rfl rfl hl.1 rfl (lv_room (Nat.le_of_ble_eq_true rfl)) dX11_change_32 ⟨Nat.zero_le _, Nat.zero_le _⟩) hS (fun q _ h => h) (fun q h => h) (fun u t H1 locs ht hvm hw hB hz1 hq1 hS => ?_)
    obtain rfl := hw.symm
    have hP := hB.1
    rw [ht] at hP
    refine W.widen (k := 0) (n := 0) (Nat.le_refl _) (Nat.le_refl _) ?_
    refine lv_aload_n hx hb dX11_change_35 rfl (lv_at hl 2 rfl) ?_
    obtain ⟨xq10, hfq11, h⟩ := obd h
    refine va_calli (va_runV (As := []) (rest := []) ⟨hx, hb, hml, hown, hts⟩ (kX6_norm l D G ub _ k2 hk2 xq10 hfq11) (cwV 0 hts (lwW_gV mw_515 mw_516 mw_517 mw_3 mw_518) rfl rfl rfl (by decide +kernel) ⟨Nat.le_of_ble_eq_true rfl, Nat.le_of_ble_eq_true rfl⟩) ⟨fun a U g mk q => ⟨q.1, xPre_call q.2⟩, va_recv hK hP rfl (xg_0 hk2), fun U hU hW => ⟨rfl, xPre_at h0 hS hP hU hW⟩⟩ rfl rfl hl.1 rfl (lv_room (Nat.le_of_ble_eq_true rfl)) dX11_change_36 ⟨Nat.zero_le _, Nat.zero_le _⟩) hS (fun q _ h => h) (fun q h => h) (fun r u t H1 locs ht hvm hw hB hz1 hq1 hS => ?_)
    obtain ⟨rfl, rfl⟩ := hw
    have hP := hB.1
    rw [ht] at hP
    refine W.widen (k := 0) (n := 0) (Nat.le_refl _) (Nat.le_refl _) ?_
    obtain rfl := Option.some.inj h
    exact W.iret (v := xq10.1) hx hb hr (fun t ht hW => ⟨⟨_, _, rfl, ⟨rfl, rfl⟩, xPre_at h0 hS hP ht hW⟩, hS.F ht⟩) hS.2.2 dX11_change_39
  have h := ifp hcq3 h
  refine lv_sipush (v := (-1001)) hx hb dX11_change_7 (by decide) ?_
  obtain rfl := Option.some.inj h
  exact W.iret (v := (-1001)) hx hb hr (fun t ht hW => ⟨⟨_, _, rfl, ⟨rfl, rfl⟩, xPre_at h0 hS hP ht hW⟩, hS.F ht⟩) hS.2.2 dX11_change_10
def fX11_set (p1 : Int32) (p2 : Int32) (p3 : Int32) (p4 : Int32) (p5 : Int32) (σ : QMem) : Option (Int32 × QMem) :=
  (fX11_isSlot p1).bind fun xq1 => (if xq1 = 0 then (some ((-1001), σ)) else ((fX11_isInReach p2).bind fun xq4 => (if xq4 = 0 then (some ((-1002), σ)) else ((fX11_isInReach p3).bind fun xq7 => (if xq7 = 0 then (some ((-1002), σ)) else ((fX11_isInReach p4).bind fun xq10 => (if xq10 = 0 then (some ((-1002), σ)) else ((fX11_isInReach p5).bind fun xq13 => (if xq13 = 0 then (some ((-1002), σ)) else (if ((p2 ^^^ p3) &&& 1) = 0 then (if ((p2 ^^^ p4) &&& 1) = 0 then (if ((p2 ^^^ p5) &&& 1) = 0 then ((fX6_put 34 p2 p3 p4 p5 σ).bind fun xq19 => ((fX6_norm 34 xq19).bind fun xq21 => (if xq21.1 ≤ 150 then ((fX11_change p1 34 xq21.2).bind fun xq24 => (some (xq24.1, xq24.2))) else (some ((-1002), xq21.2))))) else (some ((-1002), σ))) else (some ((-1002), σ))) else (some ((-1002), σ))))))))))))
set_option maxHeartbeats 4000000 in
set_option maxRecDepth 100000 in
theorem kX11_set (l : Launch) (D : va_G) (G : xG) (ub : xB) (σ : QMem) (p1 : Int32) (p2 : Int32) (p3 : Int32) (p4 : Int32) (p5 : Int32) (res : Int32 × QMem) (h : fX11_set p1 p2 p3 p4 p5 σ = some res) : Met l yX11_set (.code yX11_set cX11_set 6 (some .int) :: lwW) (rmD 4) (xPc D G ub σ [.ref (G.1 105), .int p1, .int p2, .int p3, .int p4, .int p5]) (xQi D G ub res) 0 0 (xA G) := by
  refine Met.ofW (cc := cX11_set) (maxL := 6) (ret := (some .int)) (by decide) rfl ?_
  intro p e s m args below meth c s₁ B hml hv
  obtain ⟨rfl, h0⟩ := hv
  have hx := B.exec
  have hb := B.bytes
  have hr := B.returns
  have hts := fun (w : Cond) (hw : w ∈ lwW) => atoms_spec (ws := (.code yX11_set cX11_set 6 (some .int) :: lwW)) B.pre w (List.mem_cons_of_mem _ hw)
  have hown : s.vm.findClass RX11 = some m.cls := findClass_of_methodNamed B.named
  have hlocks := B.notSynchronized
  have hP := h0.1
  have hK := h0.2.1
  have hi := h0.2.2.1
  have hZ := h0.2.2.2
  have hN := h0.2.2.2.2.2.2.2.1
  have hV := h0.2.2.2.2.2.2.2.2.1
  have hS : va_S (xA G) s.heap s.heap [] := va_S.rf
  have hl := lv_entry ([.ref (G.1 105), .int p1, .int p2, .int p3, .int p4, .int p5]) (n := 6) (Nat.le_of_ble_eq_true rfl)
  rw [lg_entry_eq]
  generalize (lg_sl ([.ref (G.1 105), .int p1, .int p2, .int p3, .int p4, .int p5]) ++ List.replicate (6 - (lg_sl ([.ref (G.1 105), .int p1, .int p2, .int p3, .int p4, .int p5])).length) Slot.unset).toArray = ls at hl ⊢
  have hl : lv_has ls 6 [(0, .ref (G.1 105)), (1, .int p1), (2, .int p2), (3, .int p3), (4, .int p4), (5, .int p5)] := hl
  unfold fX11_set at h
  refine lv_iload_n hx hb dX11_set_0 rfl (lv_at hl 1 rfl) ?_
  obtain ⟨xq1, hfq2, h⟩ := obd h
  refine va_calli (va_runS (As := [.int p1]) (rest := []) ⟨hx, hb, hml, hown, hts⟩ (kX11_isSlot l p1 xq1 hfq2) (va_cwS 1 hts (lwW_gS mw_463 mw_464 mw_1 mw_465) rfl rfl rfl (by decide +kernel) ⟨Nat.le_of_ble_eq_true rfl, Nat.le_of_ble_eq_true rfl⟩) ⟨fun a U g mk q => ⟨q.1, trivial⟩, fun U hU hW => ⟨rfl, trivial⟩⟩ rfl rfl hl.1 rfl (lv_room (Nat.le_of_ble_eq_true rfl)) dX11_set_1 ⟨Nat.zero_le _, Nat.zero_le _⟩) hS (fun q _ h => h.elim) (fun q h => h.elim) (fun r u t H1 locs ht hvm hw hB hz1 hq1 hS => ?_)
  obtain rfl := hw.symm
  have hP := xP_kept hP hq1
  refine W.widen (k := 0) (n := 0) (Nat.le_refl _) (Nat.le_refl _) ?_
  refine lv_if_ne (tgt := 11) hx hb dX11_set_4 (by decide) (fun hcq3 => ?_) (fun hcq3 => ?_)
  · have h := ifn hcq3 h
    refine lv_iload_n hx hb dX11_set_11 rfl (lv_at hl 2 rfl) ?_
    obtain ⟨xq4, hfq5, h⟩ := obd h
    refine va_calli (va_runS (As := [.int p2]) (rest := []) ⟨hx, hb, hml, hown, hts⟩ (kX11_isInReach l p2 xq4 hfq5) (va_cwS 1 hts (lwW_gS mw_663 mw_664 mw_1 mw_665) rfl rfl rfl (by decide +kernel) ⟨Nat.le_of_ble_eq_true rfl, Nat.le_of_ble_eq_true rfl⟩) ⟨fun a U g mk q => ⟨q.1, trivial⟩, fun U hU hW => ⟨rfl, trivial⟩⟩ rfl rfl hl.1 rfl (lv_room (Nat.le_of_ble_eq_true rfl)) dX11_set_12 ⟨Nat.zero_le _, Nat.zero_le _⟩) hS (fun q _ h => h.elim) (fun q h => h.elim) (fun r u t H1 locs ht hvm hw hB hz1 hq1 hS => ?_)
    obtain rfl := hw.symm
    have hP := xP_kept hP hq1
    refine W.widen (k := 0) (n := 0) (Nat.le_refl _) (Nat.le_refl _) ?_
    refine lv_if_eq (tgt := 41) hx hb dX11_set_15 (by decide) (fun hcq6 => ?_) (fun hcq6 => ?_)
    · have h := ifp hcq6 h
      refine lv_sipush (v := (-1002)) hx hb dX11_set_41 (by decide) ?_
      obtain rfl := Option.some.inj h
      exact W.iret (v := (-1002)) hx hb hr (fun t ht hW => ⟨⟨_, _, rfl, ⟨rfl, rfl⟩, xPre_at h0 hS hP ht hW⟩, hS.F ht⟩) hS.2.2 dX11_set_44
    have h := ifn hcq6 h
    refine lv_iload_n hx hb dX11_set_18 rfl (lv_at hl 3 rfl) ?_
    obtain ⟨xq7, hfq8, h⟩ := obd h
    refine va_calli (va_runS (As := [.int p3]) (rest := []) ⟨hx, hb, hml, hown, hts⟩ (kX11_isInReach l p3 xq7 hfq8) (va_cwS 1 hts (lwW_gS mw_663 mw_664 mw_1 mw_665) rfl rfl rfl (by decide +kernel) ⟨Nat.le_of_ble_eq_true rfl, Nat.le_of_ble_eq_true rfl⟩) ⟨fun a U g mk q => ⟨q.1, trivial⟩, fun U hU hW => ⟨rfl, trivial⟩⟩ rfl rfl hl.1 rfl (lv_room (Nat.le_of_ble_eq_true rfl)) dX11_set_19 ⟨Nat.zero_le _, Nat.zero_le _⟩) hS (fun q _ h => h.elim) (fun q h => h.elim) (fun r u t H1 locs ht hvm hw hB hz1 hq1 hS => ?_)
    obtain rfl := hw.symm
    have hP := xP_kept hP hq1
    refine W.widen (k := 0) (n := 0) (Nat.le_refl _) (Nat.le_refl _) ?_
    refine lv_if_eq (tgt := 41) hx hb dX11_set_22 (by decide) (fun hcq9 => ?_) (fun hcq9 => ?_)
    · have h := ifp hcq9 h
      refine lv_sipush (v := (-1002)) hx hb dX11_set_41 (by decide) ?_
      obtain rfl := Option.some.inj h
      exact W.iret (v := (-1002)) hx hb hr (fun t ht hW => ⟨⟨_, _, rfl, ⟨rfl, rfl⟩, xPre_at h0 hS hP ht hW⟩, hS.F ht⟩) hS.2.2 dX11_set_44
    have h := ifn hcq9 h
    refine lv_iload hx hb dX11_set_25 (lv_at hl 4 rfl) ?_
    obtain ⟨xq10, hfq11, h⟩ := obd h
    refine va_calli (va_runS (As := [.int p4]) (rest := []) ⟨hx, hb, hml, hown, hts⟩ (kX11_isInReach l p4 xq10 hfq11) (va_cwS 1 hts (lwW_gS mw_663 mw_664 mw_1 mw_665) rfl rfl rfl (by decide +kernel) ⟨Nat.le_of_ble_eq_true rfl, Nat.le_of_ble_eq_true rfl⟩) ⟨fun a U g mk q => ⟨q.1, trivial⟩, fun U hU hW => ⟨rfl, trivial⟩⟩ rfl rfl hl.1 rfl (lv_room (Nat.le_of_ble_eq_true rfl)) dX11_set_27 ⟨Nat.zero_le _, Nat.zero_le _⟩) hS (fun q _ h => h.elim) (fun q h => h.elim) (fun r u t H1 locs ht hvm hw hB hz1 hq1 hS => ?_)
    obtain rfl := hw.symm
    have hP := xP_kept hP hq1
    refine W.widen (k := 0) (n := 0) (Nat.le_refl _) (Nat.le_refl _) ?_
    refine lv_if_eq (tgt := 41) hx hb dX11_set_30 (by decide) (fun hcq12 => ?_) (fun hcq12 => ?_)
    · have h := ifp hcq12 h
      refine lv_sipush (v := (-1002)) hx hb dX11_set_41 (by decide) ?_
      obtain rfl := Option.some.inj h
      exact W.iret (v := (-1002)) hx hb hr (fun t ht hW => ⟨⟨_, _, rfl, ⟨rfl, rfl⟩, xPre_at h0 hS hP ht hW⟩, hS.F ht⟩) hS.2.2 dX11_set_44
    have h := ifn hcq12 h
    refine lv_iload hx hb dX11_set_33 (lv_at hl 5 rfl) ?_
    obtain ⟨xq13, hfq14, h⟩ := obd h
    refine va_calli (va_runS (As := [.int p5]) (rest := []) ⟨hx, hb, hml, hown, hts⟩ (kX11_isInReach l p5 xq13 hfq14) (va_cwS 1 hts (lwW_gS mw_663 mw_664 mw_1 mw_665) rfl rfl rfl (by decide +kernel) ⟨Nat.le_of_ble_eq_true rfl, Nat.le_of_ble_eq_true rfl⟩) ⟨fun a U g mk q => ⟨q.1, trivial⟩, fun U hU hW => ⟨rfl, trivial⟩⟩ rfl rfl hl.1 rfl (lv_room (Nat.le_of_ble_eq_true rfl)) dX11_set_35 ⟨Nat.zero_le _, Nat.zero_le _⟩) hS (fun q _ h => h.elim) (fun q h => h.elim) (fun r u t H1 locs ht hvm hw hB hz1 hq1 hS => ?_)
    obtain rfl := hw.symm
    have hP := xP_kept hP hq1
    refine W.widen (k := 0) (n := 0) (Nat.le_refl _) (Nat.le_refl _) ?_
    refine lv_if_ne (tgt := 45) hx hb dX11_set_38 (by decide) (fun hcq15 => ?_) (fun hcq15 => ?_)
    · have h := ifn hcq15 h
      refine lv_iload_n hx hb dX11_set_45 rfl (lv_at hl 2 rfl) ?_
      refine lv_iload_n hx hb dX11_set_46 rfl (lv_at hl 3 rfl) ?_
      refine lv_ixor hx hb dX11_set_47 ?_
      refine lv_iconst (v := 1) hx hb dX11_set_48 (by decide) ?_
      refine lv_iand hx hb dX11_set_49 ?_
      refine lv_if_ne (tgt := 71) hx hb dX11_set_50 (by decide) (fun hcq16 => ?_) (fun hcq16 => ?_)
      · have h := ifn hcq16 h
        refine lv_sipush (v := (-1002)) hx hb dX11_set_71 (by decide) ?_
        obtain rfl := Option.some.inj h
        exact W.iret (v := (-1002)) hx hb hr (fun t ht hW => ⟨⟨_, _, rfl, ⟨rfl, rfl⟩, xPre_at h0 hS hP ht hW⟩, hS.F ht⟩) hS.2.2 dX11_set_74
      have h := ifp hcq16 h
      refine lv_iload_n hx hb dX11_set_53 rfl (lv_at hl 2 rfl) ?_
      refine lv_iload hx hb dX11_set_54 (lv_at hl 4 rfl) ?_
      refine lv_ixor hx hb dX11_set_56 ?_
      refine lv_iconst (v := 1) hx hb dX11_set_57 (by decide) ?_
      refine lv_iand hx hb dX11_set_58 ?_
      refine lv_if_ne (tgt := 71) hx hb dX11_set_59 (by decide) (fun hcq17 => ?_) (fun hcq17 => ?_)
      · have h := ifn hcq17 h
        refine lv_sipush (v := (-1002)) hx hb dX11_set_71 (by decide) ?_
        obtain rfl := Option.some.inj h
        exact W.iret (v := (-1002)) hx hb hr (fun t ht hW => ⟨⟨_, _, rfl, ⟨rfl, rfl⟩, xPre_at h0 hS hP ht hW⟩, hS.F ht⟩) hS.2.2 dX11_set_74
      have h := ifp hcq17 h
      refine lv_iload_n hx hb dX11_set_62 rfl (lv_at hl 2 rfl) ?_
      refine lv_iload hx hb dX11_set_63 (lv_at hl 5 rfl) ?_
      refine lv_ixor hx hb dX11_set_65 ?_
      refine lv_iconst (v := 1) hx hb dX11_set_66 (by decide) ?_
      refine lv_iand hx hb dX11_set_67 ?_
      refine lv_if_eq (tgt := 75) hx hb dX11_set_68 (by decide) (fun hcq18 => ?_) (fun hcq18 => ?_)
      · have h := ifp hcq18 h
        refine lv_aload_n hx hb dX11_set_75 rfl (lv_at hl 0 rfl) ?_
        refine va_get (D := D) (ci := 11) (v := .ref (G.1 34)) (C := RX11) (T := TX11) (N := 13) hx hb hts iwX11 hown hK hP 105 (xg_7 rfl) rfl 10 (by decide) (hts _ mw_292) (fun _ h9 => h9) rfl dX11_set_76 ?_
        refine lv_iload_n hx hb dX11_set_79 rfl (lv_at hl 2 rfl) ?_
        refine lv_iload_n hx hb dX11_set_80 rfl (lv_at hl 3 rfl) ?_
        refine lv_iload hx hb dX11_set_81 (lv_at hl 4 rfl) ?_
        refine lv_iload hx hb dX11_set_83 (lv_at hl 5 rfl) ?_
        obtain ⟨xq19, hfq20, h⟩ := obd h
        refine va_callv (va_runV (As := [.int p2, .int p3, .int p4, .int p5]) (rest := []) ⟨hx, hb, hml, hown, hts⟩ (kX6_put l D G ub _ 34 rfl p2 p3 p4 p5 xq19 hfq20) (cwV 4 hts (lwW_gV mw_466 mw_467 mw_468 mw_3 mw_469) rfl rfl rfl (by decide +kernel) ⟨Nat.le_of_ble_eq_true rfl, Nat.le_of_ble_eq_true rfl⟩) ⟨fun a U g mk q => ⟨q.1, xPre_call q.2⟩, va_recv hK hP rfl (xg_0 rfl), fun U hU hW => ⟨rfl, xPre_at h0 hS hP hU hW⟩⟩ rfl rfl hl.1 rfl (lv_room (Nat.le_of_ble_eq_true rfl)) dX11_set_85 ⟨Nat.zero_le _, Nat.zero_le _⟩) hS (fun q _ h => h) (fun q h => h) (fun u t H1 locs ht hvm hw hB hz1 hq1 hS => ?_)
        obtain rfl := hw.symm
        have hP := hB.1
        rw [ht] at hP
        refine W.widen (k := 0) (n := 0) (Nat.le_refl _) (Nat.le_refl _) ?_
        refine lv_aload_n hx hb dX11_set_88 rfl (lv_at hl 0 rfl) ?_
        refine va_get (D := D) (ci := 11) (v := .ref (G.1 34)) (C := RX11) (T := TX11) (N := 13) hx hb hts iwX11 hown hK hP 105 (xg_7 rfl) rfl 10 (by decide) (hts _ mw_292) (fun _ h9 => h9) rfl dX11_set_89 ?_
        obtain ⟨xq21, hfq22, h⟩ := obd h
        refine va_calli (va_runV (As := []) (rest := []) ⟨hx, hb, hml, hown, hts⟩ (kX6_norm l D G ub _ 34 rfl xq21 hfq22) (cwV 0 hts (lwW_gV mw_515 mw_516 mw_517 mw_3 mw_518) rfl rfl rfl (by decide +kernel) ⟨Nat.le_of_ble_eq_true rfl, Nat.le_of_ble_eq_true rfl⟩) ⟨fun a U g mk q => ⟨q.1, xPre_call q.2⟩, va_recv hK hP rfl (xg_0 rfl), fun U hU hW => ⟨rfl, xPre_at h0 hS hP hU hW⟩⟩ rfl rfl hl.1 rfl (lv_room (Nat.le_of_ble_eq_true rfl)) dX11_set_92 ⟨Nat.zero_le _, Nat.zero_le _⟩) hS (fun q _ h => h) (fun q h => h) (fun r u t H1 locs ht hvm hw hB hz1 hq1 hS => ?_)
        obtain ⟨rfl, rfl⟩ := hw
        have hP := hB.1
        rw [ht] at hP
        refine W.widen (k := 0) (n := 0) (Nat.le_refl _) (Nat.le_refl _) ?_
        refine lv_sipush (v := 150) hx hb dX11_set_95 (by decide) ?_
        refine lv_icmp_le (tgt := 105) hx hb dX11_set_98 (by decide) (fun hcq23 => ?_) (fun hcq23 => ?_)
        · have h := ifp hcq23 h
          refine lv_aload_n hx hb dX11_set_105 rfl (lv_at hl 0 rfl) ?_
          refine lv_iload_n hx hb dX11_set_106 rfl (lv_at hl 1 rfl) ?_
          refine lv_aload_n hx hb dX11_set_107 rfl (lv_at hl 0 rfl) ?_
          refine va_get (D := D) (ci := 11) (v := .ref (G.1 34)) (C := RX11) (T := TX11) (N := 13) hx hb hts iwX11 hown hK hP 105 (xg_7 rfl) rfl 10 (by decide) (hts _ mw_292) (fun _ h9 => h9) rfl dX11_set_108 ?_
          obtain ⟨xq24, hfq25, h⟩ := obd h
          refine va_calli (va_runV (As := [.int p1, .ref (G.1 34)]) (rest := []) ⟨hx, hb, hml, hown, hts⟩ (kX11_change l D G ub _ p1 34 rfl xq24 hfq25) (cwV 2 hts (lwW_gV mw_666 mw_668 ms_17 mw_1 mw_669) rfl rfl rfl (by decide +kernel) ⟨Nat.le_of_ble_eq_true rfl, Nat.le_of_ble_eq_true rfl⟩) ⟨fun a U g mk q => ⟨q.1, xPre_call q.2⟩, va_recv hK hP rfl (xg_7 rfl), fun U hU hW => ⟨rfl, xPre_at h0 hS hP hU hW⟩⟩ rfl rfl hl.1 rfl (lv_room (Nat.le_of_ble_eq_true rfl)) dX11_set_111 ⟨Nat.zero_le _, Nat.zero_le _⟩) hS (fun q _ h => h) (fun q h => h) (fun r u t H1 locs ht hvm hw hB hz1 hq1 hS => ?_)
          obtain ⟨rfl, rfl⟩ := hw
          have hP := hB.1
          rw [ht] at hP
          refine W.widen (k := 0) (n := 0) (Nat.le_refl _) (Nat.le_refl _) ?_
          obtain rfl := Option.some.inj h
          exact W.iret (v := xq24.1) hx hb hr (fun t ht hW => ⟨⟨_, _, rfl, ⟨rfl, rfl⟩, xPre_at h0 hS hP ht hW⟩, hS.F ht⟩) hS.2.2 dX11_set_114
        have h := ifn hcq23 h
        refine lv_sipush (v := (-1002)) hx hb dX11_set_101 (by decide) ?_
        obtain rfl := Option.some.inj h
        exact W.iret (v := (-1002)) hx hb hr (fun t ht hW => ⟨⟨_, _, rfl, ⟨rfl, rfl⟩, xPre_at h0 hS hP ht hW⟩, hS.F ht⟩) hS.2.2 dX11_set_104
      have h := ifn hcq18 h
      refine lv_sipush (v := (-1002)) hx hb dX11_set_71 (by decide) ?_
      obtain rfl := Option.some.inj h
      exact W.iret (v := (-1002)) hx hb hr (fun t ht hW => ⟨⟨_, _, rfl, ⟨rfl, rfl⟩, xPre_at h0 hS hP ht hW⟩, hS.F ht⟩) hS.2.2 dX11_set_74
    have h := ifp hcq15 h
    refine lv_sipush (v := (-1002)) hx hb dX11_set_41 (by decide) ?_
    obtain rfl := Option.some.inj h
    exact W.iret (v := (-1002)) hx hb hr (fun t ht hW => ⟨⟨_, _, rfl, ⟨rfl, rfl⟩, xPre_at h0 hS hP ht hW⟩, hS.F ht⟩) hS.2.2 dX11_set_44
  have h := ifp hcq3 h
  refine lv_sipush (v := (-1001)) hx hb dX11_set_7 (by decide) ?_
  obtain rfl := Option.some.inj h
  exact W.iret (v := (-1001)) hx hb hr (fun t ht hW => ⟨⟨_, _, rfl, ⟨rfl, rfl⟩, xPre_at h0 hS hP ht hW⟩, hS.F ht⟩) hS.2.2 dX11_set_10
def fX11_add (p1 : Int32) (p2 : Int32) (σ : QMem) : Option (Int32 × QMem) :=
  (fX11_isSlot p1).bind fun xq1 => (if xq1 = 0 then (some ((-1001), σ)) else ((fX11_isSlot p2).bind fun xq4 => (if xq4 = 0 then (some ((-1001), σ)) else (if (p1 < 0 ∨ xl 102 ≤ p1.toNatClampNeg) then none else (if (p2 < 0 ∨ xl 102 ≤ p2.toNatClampNeg) then none else ((fX6_becomeSum 34 (xb 102 + p1.toNatClampNeg) (xb 102 + p2.toNatClampNeg) σ).bind fun xq9 => ((fX6_norm 34 xq9).bind fun xq11 => (if xq11.1 ≤ 150 then ((fX11_change p1 34 xq11.2).bind fun xq14 => (some (xq14.1, xq14.2))) else (some ((-1003), xq11.2))))))))))
set_option maxHeartbeats 4000000 in
set_option maxRecDepth 100000 in
theorem kX11_add (l : Launch) (D : va_G) (G : xG) (ub : xB) (σ : QMem) (p1 : Int32) (p2 : Int32) (res : Int32 × QMem) (h : fX11_add p1 p2 σ = some res) : Met l yX11_add (.code yX11_add cX11_add 3 (some .int) :: lwW) (rmD 4) (xPc D G ub σ [.ref (G.1 105), .int p1, .int p2]) (xQi D G ub res) 0 0 (xA G) := by
  refine Met.ofW (cc := cX11_add) (maxL := 3) (ret := (some .int)) (by decide) rfl ?_
  intro p e s m args below meth c s₁ B hml hv
  obtain ⟨rfl, h0⟩ := hv
  have hx := B.exec
  have hb := B.bytes
  have hr := B.returns
  have hts := fun (w : Cond) (hw : w ∈ lwW) => atoms_spec (ws := (.code yX11_add cX11_add 3 (some .int) :: lwW)) B.pre w (List.mem_cons_of_mem _ hw)
  have hown : s.vm.findClass RX11 = some m.cls := findClass_of_methodNamed B.named
  have hlocks := B.notSynchronized
  have hP := h0.1
  have hK := h0.2.1
  have hi := h0.2.2.1
  have hZ := h0.2.2.2
  have hN := h0.2.2.2.2.2.2.2.1
  have hV := h0.2.2.2.2.2.2.2.2.1
  have hS : va_S (xA G) s.heap s.heap [] := va_S.rf
  have hl := lv_entry ([.ref (G.1 105), .int p1, .int p2]) (n := 3) (Nat.le_of_ble_eq_true rfl)
  rw [lg_entry_eq]
  generalize (lg_sl ([.ref (G.1 105), .int p1, .int p2]) ++ List.replicate (3 - (lg_sl ([.ref (G.1 105), .int p1, .int p2])).length) Slot.unset).toArray = ls at hl ⊢
  have hl : lv_has ls 3 [(0, .ref (G.1 105)), (1, .int p1), (2, .int p2)] := hl
  unfold fX11_add at h
  refine lv_iload_n hx hb dX11_add_0 rfl (lv_at hl 1 rfl) ?_
  obtain ⟨xq1, hfq2, h⟩ := obd h
  refine va_calli (va_runS (As := [.int p1]) (rest := []) ⟨hx, hb, hml, hown, hts⟩ (kX11_isSlot l p1 xq1 hfq2) (va_cwS 1 hts (lwW_gS mw_463 mw_464 mw_1 mw_465) rfl rfl rfl (by decide +kernel) ⟨Nat.le_of_ble_eq_true rfl, Nat.le_of_ble_eq_true rfl⟩) ⟨fun a U g mk q => ⟨q.1, trivial⟩, fun U hU hW => ⟨rfl, trivial⟩⟩ rfl rfl hl.1 rfl (lv_room (Nat.le_of_ble_eq_true rfl)) dX11_add_1 ⟨Nat.zero_le _, Nat.zero_le _⟩) hS (fun q _ h => h.elim) (fun q h => h.elim) (fun r u t H1 locs ht hvm hw hB hz1 hq1 hS => ?_)
  obtain rfl := hw.symm
  have hP := xP_kept hP hq1
  refine W.widen (k := 0) (n := 0) (Nat.le_refl _) (Nat.le_refl _) ?_
  refine lv_if_eq (tgt := 14) hx hb dX11_add_4 (by decide) (fun hcq3 => ?_) (fun hcq3 => ?_)
  · have h := ifp hcq3 h
    refine lv_sipush (v := (-1001)) hx hb dX11_add_14 (by decide) ?_
    obtain rfl := Option.some.inj h
    exact W.iret (v := (-1001)) hx hb hr (fun t ht hW => ⟨⟨_, _, rfl, ⟨rfl, rfl⟩, xPre_at h0 hS hP ht hW⟩, hS.F ht⟩) hS.2.2 dX11_add_17
  have h := ifn hcq3 h
  refine lv_iload_n hx hb dX11_add_7 rfl (lv_at hl 2 rfl) ?_
  obtain ⟨xq4, hfq5, h⟩ := obd h
  refine va_calli (va_runS (As := [.int p2]) (rest := []) ⟨hx, hb, hml, hown, hts⟩ (kX11_isSlot l p2 xq4 hfq5) (va_cwS 1 hts (lwW_gS mw_463 mw_464 mw_1 mw_465) rfl rfl rfl (by decide +kernel) ⟨Nat.le_of_ble_eq_true rfl, Nat.le_of_ble_eq_true rfl⟩) ⟨fun a U g mk q => ⟨q.1, trivial⟩, fun U hU hW => ⟨rfl, trivial⟩⟩ rfl rfl hl.1 rfl (lv_room (Nat.le_of_ble_eq_true rfl)) dX11_add_8 ⟨Nat.zero_le _, Nat.zero_le _⟩) hS (fun q _ h => h.elim) (fun q h => h.elim) (fun r u t H1 locs ht hvm hw hB hz1 hq1 hS => ?_)
  obtain rfl := hw.symm
  have hP := xP_kept hP hq1
  refine W.widen (k := 0) (n := 0) (Nat.le_refl _) (Nat.le_refl _) ?_
  refine lv_if_ne (tgt := 18) hx hb dX11_add_11 (by decide) (fun hcq6 => ?_) (fun hcq6 => ?_)
  · have h := ifn hcq6 h
    refine lv_aload_n hx hb dX11_add_18 rfl (lv_at hl 0 rfl) ?_
    refine va_get (D := D) (ci := 11) (v := .ref (G.1 34)) (C := RX11) (T := TX11) (N := 13) hx hb hts iwX11 hown hK hP 105 (xg_7 rfl) rfl 10 (by decide) (hts _ mw_292) (fun _ h9 => h9) rfl dX11_add_19 ?_
    refine lv_aload_n hx hb dX11_add_22 rfl (lv_at hl 0 rfl) ?_
    refine va_get (D := D) (ci := 11) (v := .ref (G.1 102)) (C := RX11) (T := TX11) (N := 13) hx hb hts iwX11 hown hK hP 105 (xg_7 rfl) rfl 0 (by decide) (hts _ mw_282) (fun _ h9 => h9) rfl dX11_add_23 ?_
    refine lv_iload_n hx hb dX11_add_26 rfl (lv_at hl 1 rfl) ?_
    obtain ⟨hiq7, h⟩ := nif h
    refine va_aldq hx hb hK hP 102 1 (xg_6 rfl) rfl hiq7 dX11_add_27 ?_
    refine W.eq (g2 := F0 m 28 ls [.ref (G.1 (xb 102 + p1.toNatClampNeg)), .ref (G.1 34)]) rfl ?_
    refine lv_aload_n hx hb dX11_add_28 rfl (lv_at hl 0 rfl) ?_
    refine va_get (D := D) (ci := 11) (v := .ref (G.1 102)) (C := RX11) (T := TX11) (N := 13) hx hb hts iwX11 hown hK hP 105 (xg_7 rfl) rfl 0 (by decide) (hts _ mw_282) (fun _ h9 => h9) rfl dX11_add_29 ?_
    refine lv_iload_n hx hb dX11_add_32 rfl (lv_at hl 2 rfl) ?_
    obtain ⟨hiq8, h⟩ := nif h
    refine va_aldq hx hb hK hP 102 1 (xg_6 rfl) rfl hiq8 dX11_add_33 ?_
    refine W.eq (g2 := F0 m 34 ls [.ref (G.1 (xb 102 + p2.toNatClampNeg)), .ref (G.1 (xb 102 + p1.toNatClampNeg)), .ref (G.1 34)]) rfl ?_
    obtain ⟨xq9, hfq10, h⟩ := obd h
    refine va_callv (va_runV (As := [.ref (G.1 (xb 102 + p1.toNatClampNeg)), .ref (G.1 (xb 102 + p2.toNatClampNeg))]) (rest := []) ⟨hx, hb, hml, hown, hts⟩ (kX6_becomeSum l D G ub _ 34 rfl (xb 102 + p1.toNatClampNeg) (xr6 rfl (vp_lt hiq7)) (xb 102 + p2.toNatClampNeg) (xr6 rfl (vp_lt hiq8)) xq9 hfq10) (cwV 2 hts (lwW_gV mw_682 mw_683 mw_684 mw_3 mw_685) rfl rfl rfl (by decide +kernel) ⟨Nat.le_of_ble_eq_true rfl, Nat.le_of_ble_eq_true rfl⟩) ⟨fun a U g mk q => ⟨q.1, xPre_call q.2⟩, va_recv hK hP rfl (xg_0 rfl), fun U hU hW => ⟨rfl, xPre_at h0 hS hP hU hW⟩⟩ rfl rfl hl.1 rfl (lv_room (Nat.le_of_ble_eq_true rfl)) dX11_add_34 ⟨Nat.zero_le _, Nat.zero_le _⟩) hS (fun q _ h => h) (fun q h => h) (fun u t H1 locs ht hvm hw hB hz1 hq1 hS => ?_)
    obtain rfl := hw.symm
    have hP := hB.1
    rw [ht] at hP
    refine W.widen (k := 0) (n := 0) (Nat.le_refl _) (Nat.le_refl _) ?_
    refine lv_aload_n hx hb dX11_add_37 rfl (lv_at hl 0 rfl) ?_
    refine va_get (D := D) (ci := 11) (v := .ref (G.1 34)) (C := RX11) (T := TX11) (N := 13) hx hb hts iwX11 hown hK hP 105 (xg_7 rfl) rfl 10 (by decide) (hts _ mw_292) (fun _ h9 => h9) rfl dX11_add_38 ?_
    obtain ⟨xq11, hfq12, h⟩ := obd h
    refine va_calli (va_runV (As := []) (rest := []) ⟨hx, hb, hml, hown, hts⟩ (kX6_norm l D G ub _ 34 rfl xq11 hfq12) (cwV 0 hts (lwW_gV mw_515 mw_516 mw_517 mw_3 mw_518) rfl rfl rfl (by decide +kernel) ⟨Nat.le_of_ble_eq_true rfl, Nat.le_of_ble_eq_true rfl⟩) ⟨fun a U g mk q => ⟨q.1, xPre_call q.2⟩, va_recv hK hP rfl (xg_0 rfl), fun U hU hW => ⟨rfl, xPre_at h0 hS hP hU hW⟩⟩ rfl rfl hl.1 rfl (lv_room (Nat.le_of_ble_eq_true rfl)) dX11_add_41 ⟨Nat.zero_le _, Nat.zero_le _⟩) hS (fun q _ h => h) (fun q h => h) (fun r u t H1 locs ht hvm hw hB hz1 hq1 hS => ?_)
    obtain ⟨rfl, rfl⟩ := hw
    have hP := hB.1
    rw [ht] at hP
    refine W.widen (k := 0) (n := 0) (Nat.le_refl _) (Nat.le_refl _) ?_
    refine lv_sipush (v := 150) hx hb dX11_add_44 (by decide) ?_
    refine lv_icmp_le (tgt := 54) hx hb dX11_add_47 (by decide) (fun hcq13 => ?_) (fun hcq13 => ?_)
    · have h := ifp hcq13 h
      refine lv_aload_n hx hb dX11_add_54 rfl (lv_at hl 0 rfl) ?_
      refine lv_iload_n hx hb dX11_add_55 rfl (lv_at hl 1 rfl) ?_
      refine lv_aload_n hx hb dX11_add_56 rfl (lv_at hl 0 rfl) ?_
      refine va_get (D := D) (ci := 11) (v := .ref (G.1 34)) (C := RX11) (T := TX11) (N := 13) hx hb hts iwX11 hown hK hP 105 (xg_7 rfl) rfl 10 (by decide) (hts _ mw_292) (fun _ h9 => h9) rfl dX11_add_57 ?_
      obtain ⟨xq14, hfq15, h⟩ := obd h
      refine va_calli (va_runV (As := [.int p1, .ref (G.1 34)]) (rest := []) ⟨hx, hb, hml, hown, hts⟩ (kX11_change l D G ub _ p1 34 rfl xq14 hfq15) (cwV 2 hts (lwW_gV mw_666 mw_668 ms_17 mw_1 mw_669) rfl rfl rfl (by decide +kernel) ⟨Nat.le_of_ble_eq_true rfl, Nat.le_of_ble_eq_true rfl⟩) ⟨fun a U g mk q => ⟨q.1, xPre_call q.2⟩, va_recv hK hP rfl (xg_7 rfl), fun U hU hW => ⟨rfl, xPre_at h0 hS hP hU hW⟩⟩ rfl rfl hl.1 rfl (lv_room (Nat.le_of_ble_eq_true rfl)) dX11_add_60 ⟨Nat.zero_le _, Nat.zero_le _⟩) hS (fun q _ h => h) (fun q h => h) (fun r u t H1 locs ht hvm hw hB hz1 hq1 hS => ?_)
      obtain ⟨rfl, rfl⟩ := hw
      have hP := hB.1
      rw [ht] at hP
      refine W.widen (k := 0) (n := 0) (Nat.le_refl _) (Nat.le_refl _) ?_
      obtain rfl := Option.some.inj h
      exact W.iret (v := xq14.1) hx hb hr (fun t ht hW => ⟨⟨_, _, rfl, ⟨rfl, rfl⟩, xPre_at h0 hS hP ht hW⟩, hS.F ht⟩) hS.2.2 dX11_add_63
    have h := ifn hcq13 h
    refine lv_sipush (v := (-1003)) hx hb dX11_add_50 (by decide) ?_
    obtain rfl := Option.some.inj h
    exact W.iret (v := (-1003)) hx hb hr (fun t ht hW => ⟨⟨_, _, rfl, ⟨rfl, rfl⟩, xPre_at h0 hS hP ht hW⟩, hS.F ht⟩) hS.2.2 dX11_add_53
  have h := ifp hcq6 h
  refine lv_sipush (v := (-1001)) hx hb dX11_add_14 (by decide) ?_
  obtain rfl := Option.some.inj h
  exact W.iret (v := (-1001)) hx hb hr (fun t ht hW => ⟨⟨_, _, rfl, ⟨rfl, rfl⟩, xPre_at h0 hS hP ht hW⟩, hS.F ht⟩) hS.2.2 dX11_add_17
def fX11_isSide_J9 (p0 : Int32)  : Option (Int32) :=
  some 1
def fX11_isSide (p0 : Int32) : Option (Int32) :=
  if p0 = 0 then (fX11_isSide_J9 p0) else (if p0 = 1 then (fX11_isSide_J9 p0) else (some 0))
set_option maxHeartbeats 4000000 in
set_option maxRecDepth 100000 in
theorem kX11_isSide (l : Launch) (p0 : Int32) (res : Int32) (h : fX11_isSide p0 = some res) : Met l yX11_isSide (.code yX11_isSide cX11_isSide 1 (some .boolean) :: lwW) (rmD 0) (nPc [.int p0]) (nQi res) 0 0 (fun _ => False) := by
  refine Met.ofW (cc := cX11_isSide) (maxL := 1) (ret := (some .boolean)) (by decide) rfl ?_
  intro p e s m args below meth c s₁ B hml hv
  obtain ⟨rfl, h0⟩ := hv
  have hx := B.exec
  have hb := B.bytes
  have hr := B.returns
  have hts := fun (w : Cond) (hw : w ∈ lwW) => atoms_spec (ws := (.code yX11_isSide cX11_isSide 1 (some .boolean) :: lwW)) B.pre w (List.mem_cons_of_mem _ hw)
  have hown : s.vm.findClass RX11 = some m.cls := findClass_of_methodNamed B.named
  have hlocks := B.notSynchronized
  have hS : va_S (fun _ => False) s.heap s.heap [] := va_S.rf
  have hl := lv_entry ([.int p0]) (n := 1) (Nat.le_of_ble_eq_true rfl)
  rw [lg_entry_eq]
  generalize (lg_sl ([.int p0]) ++ List.replicate (1 - (lg_sl ([.int p0])).length) Slot.unset).toArray = ls at hl ⊢
  have hl : lv_has ls 1 [(0, .int p0)] := hl
  unfold fX11_isSide at h
  have J9 : ∀ (H : Heap) (locs : List Loc) (ls : Array Slot), fX11_isSide_J9 p0 = some res → va_S (fun _ => False) s.heap H locs → lv_has ls 1 [] → W p l e (headSpec (.code yX11_isSide cX11_isSide 1 (some .boolean) :: lwW) (rmD 0)).room s m ([.int p0] : List Value).toArray below meth c H locs 0 0 (MQ below (nQi res) ([.int p0] : List Value).toArray s 0 0 (fun _ => False)) (F0 m 9 ls []) := by
    intro H locs ls h hS hl
    unfold fX11_isSide_J9 at h
    refine lv_iconst (v := 1) hx hb dX11_isSide_9 (by decide) ?_
    refine lv_goto (tgt := 14) hx hb dX11_isSide_10 (by decide) ?_
    obtain rfl := Option.some.inj h
    exact W.zret hx hb hr rfl (fun t ht hW => ⟨⟨_, (), rfl, rfl, trivial⟩, hS.F ht⟩) hS.2.2 dX11_isSide_14
  refine lv_iload_n hx hb dX11_isSide_0 rfl (lv_at hl 0 rfl) ?_
  refine lv_if_eq (tgt := 9) hx hb dX11_isSide_1 (by decide) (fun hcq1 => ?_) (fun hcq1 => ?_)
  · have h := ifp hcq1 h
    exact J9 _ _ _ h hS (lv_sub hl [] rfl)
  have h := ifn hcq1 h
  refine lv_iload_n hx hb dX11_isSide_4 rfl (lv_at hl 0 rfl) ?_
  refine lv_iconst (v := 1) hx hb dX11_isSide_5 (by decide) ?_
  refine lv_icmp_ne (tgt := 13) hx hb dX11_isSide_6 (by decide) (fun hcq2 => ?_) (fun hcq2 => ?_)
  · have h := ifn hcq2 h
    refine lv_iconst (v := 0) hx hb dX11_isSide_13 (by decide) ?_
    obtain rfl := Option.some.inj h
    exact W.zret hx hb hr rfl (fun t ht hW => ⟨⟨_, (), rfl, rfl, trivial⟩, hS.F ht⟩) hS.2.2 dX11_isSide_14
  have h := ifp hcq2 h
  exact J9 _ _ _ h hS (lv_sub hl [] rfl)
def fX11_times (p1 : Int32) (p2 : Int32) (p3 : Int32) (σ : QMem) : Option (Int32 × QMem) :=
  (fX11_isSlot p1).bind fun xq1 => (if xq1 = 0 then (some ((-1001), σ)) else ((fX11_isSlot p2).bind fun xq4 => (if xq4 = 0 then (some ((-1001), σ)) else ((fX11_isSide p3).bind fun xq7 => (if xq7 = 0 then (some ((-1002), σ)) else (if (p1 < 0 ∨ xl 102 ≤ p1.toNatClampNeg) then none else (if (p2 < 0 ∨ xl 102 ≤ p2.toNatClampNeg) then none else ((fX6_becomeMade 34 (xb 102 + p1.toNatClampNeg) (xb 102 + p2.toNatClampNeg) p3 σ).bind fun xq12 => ((fX6_norm 34 xq12).bind fun xq14 => (if xq14.1 ≤ 150 then ((fX11_change p1 34 xq14.2).bind fun xq17 => (some (xq17.1, xq17.2))) else (some ((-1003), xq14.2))))))))))))
set_option maxHeartbeats 4000000 in
set_option maxRecDepth 100000 in
theorem kX11_times (l : Launch) (D : va_G) (G : xG) (ub : xB) (σ : QMem) (p1 : Int32) (p2 : Int32) (p3 : Int32) (res : Int32 × QMem) (h : fX11_times p1 p2 p3 σ = some res) : Met l yX11_times (.code yX11_times cX11_times 4 (some .int) :: lwW) (rmD 4) (xPc D G ub σ [.ref (G.1 105), .int p1, .int p2, .int p3]) (xQi D G ub res) 0 0 (xA G) := by
  refine Met.ofW (cc := cX11_times) (maxL := 4) (ret := (some .int)) (by decide) rfl ?_
  intro p e s m args below meth c s₁ B hml hv
  obtain ⟨rfl, h0⟩ := hv
  have hx := B.exec
  have hb := B.bytes
  have hr := B.returns
  have hts := fun (w : Cond) (hw : w ∈ lwW) => atoms_spec (ws := (.code yX11_times cX11_times 4 (some .int) :: lwW)) B.pre w (List.mem_cons_of_mem _ hw)
  have hown : s.vm.findClass RX11 = some m.cls := findClass_of_methodNamed B.named
  have hlocks := B.notSynchronized
  have hP := h0.1
  have hK := h0.2.1
  have hi := h0.2.2.1
  have hZ := h0.2.2.2
  have hN := h0.2.2.2.2.2.2.2.1
  have hV := h0.2.2.2.2.2.2.2.2.1
  have hS : va_S (xA G) s.heap s.heap [] := va_S.rf
  have hl := lv_entry ([.ref (G.1 105), .int p1, .int p2, .int p3]) (n := 4) (Nat.le_of_ble_eq_true rfl)
  rw [lg_entry_eq]
  generalize (lg_sl ([.ref (G.1 105), .int p1, .int p2, .int p3]) ++ List.replicate (4 - (lg_sl ([.ref (G.1 105), .int p1, .int p2, .int p3])).length) Slot.unset).toArray = ls at hl ⊢
  have hl : lv_has ls 4 [(0, .ref (G.1 105)), (1, .int p1), (2, .int p2), (3, .int p3)] := hl
  unfold fX11_times at h
  refine lv_iload_n hx hb dX11_times_0 rfl (lv_at hl 1 rfl) ?_
  obtain ⟨xq1, hfq2, h⟩ := obd h
  refine va_calli (va_runS (As := [.int p1]) (rest := []) ⟨hx, hb, hml, hown, hts⟩ (kX11_isSlot l p1 xq1 hfq2) (va_cwS 1 hts (lwW_gS mw_463 mw_464 mw_1 mw_465) rfl rfl rfl (by decide +kernel) ⟨Nat.le_of_ble_eq_true rfl, Nat.le_of_ble_eq_true rfl⟩) ⟨fun a U g mk q => ⟨q.1, trivial⟩, fun U hU hW => ⟨rfl, trivial⟩⟩ rfl rfl hl.1 rfl (lv_room (Nat.le_of_ble_eq_true rfl)) dX11_times_1 ⟨Nat.zero_le _, Nat.zero_le _⟩) hS (fun q _ h => h.elim) (fun q h => h.elim) (fun r u t H1 locs ht hvm hw hB hz1 hq1 hS => ?_)
  obtain rfl := hw.symm
  have hP := xP_kept hP hq1
  refine W.widen (k := 0) (n := 0) (Nat.le_refl _) (Nat.le_refl _) ?_
  refine lv_if_eq (tgt := 14) hx hb dX11_times_4 (by decide) (fun hcq3 => ?_) (fun hcq3 => ?_)
  · have h := ifp hcq3 h
    refine lv_sipush (v := (-1001)) hx hb dX11_times_14 (by decide) ?_
    obtain rfl := Option.some.inj h
    exact W.iret (v := (-1001)) hx hb hr (fun t ht hW => ⟨⟨_, _, rfl, ⟨rfl, rfl⟩, xPre_at h0 hS hP ht hW⟩, hS.F ht⟩) hS.2.2 dX11_times_17
  have h := ifn hcq3 h
  refine lv_iload_n hx hb dX11_times_7 rfl (lv_at hl 2 rfl) ?_
  obtain ⟨xq4, hfq5, h⟩ := obd h
  refine va_calli (va_runS (As := [.int p2]) (rest := []) ⟨hx, hb, hml, hown, hts⟩ (kX11_isSlot l p2 xq4 hfq5) (va_cwS 1 hts (lwW_gS mw_463 mw_464 mw_1 mw_465) rfl rfl rfl (by decide +kernel) ⟨Nat.le_of_ble_eq_true rfl, Nat.le_of_ble_eq_true rfl⟩) ⟨fun a U g mk q => ⟨q.1, trivial⟩, fun U hU hW => ⟨rfl, trivial⟩⟩ rfl rfl hl.1 rfl (lv_room (Nat.le_of_ble_eq_true rfl)) dX11_times_8 ⟨Nat.zero_le _, Nat.zero_le _⟩) hS (fun q _ h => h.elim) (fun q h => h.elim) (fun r u t H1 locs ht hvm hw hB hz1 hq1 hS => ?_)
  obtain rfl := hw.symm
  have hP := xP_kept hP hq1
  refine W.widen (k := 0) (n := 0) (Nat.le_refl _) (Nat.le_refl _) ?_
  refine lv_if_ne (tgt := 18) hx hb dX11_times_11 (by decide) (fun hcq6 => ?_) (fun hcq6 => ?_)
  · have h := ifn hcq6 h
    refine lv_iload_n hx hb dX11_times_18 rfl (lv_at hl 3 rfl) ?_
    obtain ⟨xq7, hfq8, h⟩ := obd h
    refine va_calli (va_runS (As := [.int p3]) (rest := []) ⟨hx, hb, hml, hown, hts⟩ (kX11_isSide l p3 xq7 hfq8) (va_cwS 1 hts (lwW_gS mw_690 mw_691 mw_1 mw_692) rfl rfl rfl (by decide +kernel) ⟨Nat.le_of_ble_eq_true rfl, Nat.le_of_ble_eq_true rfl⟩) ⟨fun a U g mk q => ⟨q.1, trivial⟩, fun U hU hW => ⟨rfl, trivial⟩⟩ rfl rfl hl.1 rfl (lv_room (Nat.le_of_ble_eq_true rfl)) dX11_times_19 ⟨Nat.zero_le _, Nat.zero_le _⟩) hS (fun q _ h => h.elim) (fun q h => h.elim) (fun r u t H1 locs ht hvm hw hB hz1 hq1 hS => ?_)
    obtain rfl := hw.symm
    have hP := xP_kept hP hq1
    refine W.widen (k := 0) (n := 0) (Nat.le_refl _) (Nat.le_refl _) ?_
    refine lv_if_ne (tgt := 29) hx hb dX11_times_22 (by decide) (fun hcq9 => ?_) (fun hcq9 => ?_)
    · have h := ifn hcq9 h
      refine lv_aload_n hx hb dX11_times_29 rfl (lv_at hl 0 rfl) ?_
      refine va_get (D := D) (ci := 11) (v := .ref (G.1 34)) (C := RX11) (T := TX11) (N := 13) hx hb hts iwX11 hown hK hP 105 (xg_7 rfl) rfl 10 (by decide) (hts _ mw_292) (fun _ h9 => h9) rfl dX11_times_30 ?_
      refine lv_aload_n hx hb dX11_times_33 rfl (lv_at hl 0 rfl) ?_
      refine va_get (D := D) (ci := 11) (v := .ref (G.1 102)) (C := RX11) (T := TX11) (N := 13) hx hb hts iwX11 hown hK hP 105 (xg_7 rfl) rfl 0 (by decide) (hts _ mw_282) (fun _ h9 => h9) rfl dX11_times_34 ?_
      refine lv_iload_n hx hb dX11_times_37 rfl (lv_at hl 1 rfl) ?_
      obtain ⟨hiq10, h⟩ := nif h
      refine va_aldq hx hb hK hP 102 1 (xg_6 rfl) rfl hiq10 dX11_times_38 ?_
      refine W.eq (g2 := F0 m 39 ls [.ref (G.1 (xb 102 + p1.toNatClampNeg)), .ref (G.1 34)]) rfl ?_
      refine lv_aload_n hx hb dX11_times_39 rfl (lv_at hl 0 rfl) ?_
      refine va_get (D := D) (ci := 11) (v := .ref (G.1 102)) (C := RX11) (T := TX11) (N := 13) hx hb hts iwX11 hown hK hP 105 (xg_7 rfl) rfl 0 (by decide) (hts _ mw_282) (fun _ h9 => h9) rfl dX11_times_40 ?_
      refine lv_iload_n hx hb dX11_times_43 rfl (lv_at hl 2 rfl) ?_
      obtain ⟨hiq11, h⟩ := nif h
      refine va_aldq hx hb hK hP 102 1 (xg_6 rfl) rfl hiq11 dX11_times_44 ?_
      refine W.eq (g2 := F0 m 45 ls [.ref (G.1 (xb 102 + p2.toNatClampNeg)), .ref (G.1 (xb 102 + p1.toNatClampNeg)), .ref (G.1 34)]) rfl ?_
      refine lv_iload_n hx hb dX11_times_45 rfl (lv_at hl 3 rfl) ?_
      obtain ⟨xq12, hfq13, h⟩ := obd h
      refine va_callv (va_runV (As := [.ref (G.1 (xb 102 + p1.toNatClampNeg)), .ref (G.1 (xb 102 + p2.toNatClampNeg)), .int p3]) (rest := []) ⟨hx, hb, hml, hown, hts⟩ (kX6_becomeMade l D G ub _ 34 rfl (xb 102 + p1.toNatClampNeg) (xr6 rfl (vp_lt hiq10)) (xb 102 + p2.toNatClampNeg) (xr6 rfl (vp_lt hiq11)) p3 xq12 hfq13) (cwV 3 hts (lwW_gV mw_693 mw_579 mw_580 mw_3 mw_581) rfl rfl rfl (by decide +kernel) ⟨Nat.le_of_ble_eq_true rfl, Nat.le_of_ble_eq_true rfl⟩) ⟨fun a U g mk q => ⟨q.1, xPre_call q.2⟩, va_recv hK hP rfl (xg_0 rfl), fun U hU hW => ⟨rfl, xPre_at h0 hS hP hU hW⟩⟩ rfl rfl hl.1 rfl (lv_room (Nat.le_of_ble_eq_true rfl)) dX11_times_46 ⟨Nat.zero_le _, Nat.zero_le _⟩) hS (fun q _ h => h) (fun q h => h) (fun u t H1 locs ht hvm hw hB hz1 hq1 hS => ?_)
      obtain rfl := hw.symm
      have hP := hB.1
      rw [ht] at hP
      refine W.widen (k := 0) (n := 0) (Nat.le_refl _) (Nat.le_refl _) ?_
      refine lv_aload_n hx hb dX11_times_49 rfl (lv_at hl 0 rfl) ?_
      refine va_get (D := D) (ci := 11) (v := .ref (G.1 34)) (C := RX11) (T := TX11) (N := 13) hx hb hts iwX11 hown hK hP 105 (xg_7 rfl) rfl 10 (by decide) (hts _ mw_292) (fun _ h9 => h9) rfl dX11_times_50 ?_
      obtain ⟨xq14, hfq15, h⟩ := obd h
      refine va_calli (va_runV (As := []) (rest := []) ⟨hx, hb, hml, hown, hts⟩ (kX6_norm l D G ub _ 34 rfl xq14 hfq15) (cwV 0 hts (lwW_gV mw_515 mw_516 mw_517 mw_3 mw_518) rfl rfl rfl (by decide +kernel) ⟨Nat.le_of_ble_eq_true rfl, Nat.le_of_ble_eq_true rfl⟩) ⟨fun a U g mk q => ⟨q.1, xPre_call q.2⟩, va_recv hK hP rfl (xg_0 rfl), fun U hU hW => ⟨rfl, xPre_at h0 hS hP hU hW⟩⟩ rfl rfl hl.1 rfl (lv_room (Nat.le_of_ble_eq_true rfl)) dX11_times_53 ⟨Nat.zero_le _, Nat.zero_le _⟩) hS (fun q _ h => h) (fun q h => h) (fun r u t H1 locs ht hvm hw hB hz1 hq1 hS => ?_)
      obtain ⟨rfl, rfl⟩ := hw
      have hP := hB.1
      rw [ht] at hP
      refine W.widen (k := 0) (n := 0) (Nat.le_refl _) (Nat.le_refl _) ?_
      refine lv_sipush (v := 150) hx hb dX11_times_56 (by decide) ?_
      refine lv_icmp_le (tgt := 66) hx hb dX11_times_59 (by decide) (fun hcq16 => ?_) (fun hcq16 => ?_)
      · have h := ifp hcq16 h
        refine lv_aload_n hx hb dX11_times_66 rfl (lv_at hl 0 rfl) ?_
        refine lv_iload_n hx hb dX11_times_67 rfl (lv_at hl 1 rfl) ?_
        refine lv_aload_n hx hb dX11_times_68 rfl (lv_at hl 0 rfl) ?_
        refine va_get (D := D) (ci := 11) (v := .ref (G.1 34)) (C := RX11) (T := TX11) (N := 13) hx hb hts iwX11 hown hK hP 105 (xg_7 rfl) rfl 10 (by decide) (hts _ mw_292) (fun _ h9 => h9) rfl dX11_times_69 ?_
        obtain ⟨xq17, hfq18, h⟩ := obd h
        refine va_calli (va_runV (As := [.int p1, .ref (G.1 34)]) (rest := []) ⟨hx, hb, hml, hown, hts⟩ (kX11_change l D G ub _ p1 34 rfl xq17 hfq18) (cwV 2 hts (lwW_gV mw_666 mw_668 ms_17 mw_1 mw_669) rfl rfl rfl (by decide +kernel) ⟨Nat.le_of_ble_eq_true rfl, Nat.le_of_ble_eq_true rfl⟩) ⟨fun a U g mk q => ⟨q.1, xPre_call q.2⟩, va_recv hK hP rfl (xg_7 rfl), fun U hU hW => ⟨rfl, xPre_at h0 hS hP hU hW⟩⟩ rfl rfl hl.1 rfl (lv_room (Nat.le_of_ble_eq_true rfl)) dX11_times_72 ⟨Nat.zero_le _, Nat.zero_le _⟩) hS (fun q _ h => h) (fun q h => h) (fun r u t H1 locs ht hvm hw hB hz1 hq1 hS => ?_)
        obtain ⟨rfl, rfl⟩ := hw
        have hP := hB.1
        rw [ht] at hP
        refine W.widen (k := 0) (n := 0) (Nat.le_refl _) (Nat.le_refl _) ?_
        obtain rfl := Option.some.inj h
        exact W.iret (v := xq17.1) hx hb hr (fun t ht hW => ⟨⟨_, _, rfl, ⟨rfl, rfl⟩, xPre_at h0 hS hP ht hW⟩, hS.F ht⟩) hS.2.2 dX11_times_75
      have h := ifn hcq16 h
      refine lv_sipush (v := (-1003)) hx hb dX11_times_62 (by decide) ?_
      obtain rfl := Option.some.inj h
      exact W.iret (v := (-1003)) hx hb hr (fun t ht hW => ⟨⟨_, _, rfl, ⟨rfl, rfl⟩, xPre_at h0 hS hP ht hW⟩, hS.F ht⟩) hS.2.2 dX11_times_65
    have h := ifp hcq9 h
    refine lv_sipush (v := (-1002)) hx hb dX11_times_25 (by decide) ?_
    obtain rfl := Option.some.inj h
    exact W.iret (v := (-1002)) hx hb hr (fun t ht hW => ⟨⟨_, _, rfl, ⟨rfl, rfl⟩, xPre_at h0 hS hP ht hW⟩, hS.F ht⟩) hS.2.2 dX11_times_28
  have h := ifp hcq6 h
  refine lv_sipush (v := (-1001)) hx hb dX11_times_14 (by decide) ?_
  obtain rfl := Option.some.inj h
  exact W.iret (v := (-1001)) hx hb hr (fun t ht hW => ⟨⟨_, _, rfl, ⟨rfl, rfl⟩, xPre_at h0 hS hP ht hW⟩, hS.F ht⟩) hS.2.2 dX11_times_17
def fX11_turn_J122 (p1 : Int32) (p2 : Int32)  (τ : QMem) : Option (Int32 × QMem) :=
  (fX11_change p1 34 τ).bind fun xq1 => (some (xq1.1, xq1.2))
def fX11_turn (p1 : Int32) (p2 : Int32) (σ : QMem) : Option (Int32 × QMem) :=
  (fX11_isSlot p1).bind fun xq5 => (if xq5 = 0 then (some ((-1001), σ)) else (if p2 = 0 then (if (p1 < 0 ∨ xl 102 ≤ p1.toNatClampNeg) then none else ((fX6_becomeConjugate 34 (xb 102 + p1.toNatClampNeg) σ).bind fun xq10 => (fX11_turn_J122 p1 p2 xq10))) else (if p2 = 1 then (if (p1 < 0 ∨ xl 102 ≤ p1.toNatClampNeg) then none else ((fX2_putHead 34 (xb 102 + p1.toNatClampNeg) 0 σ).bind fun xq14 => (fX11_turn_J122 p1 p2 xq14))) else (if p2 = 2 then (if (p1 < 0 ∨ xl 102 ≤ p1.toNatClampNeg) then none else ((fX2_putHead 34 (xb 102 + p1.toNatClampNeg) 1 σ).bind fun xq18 => (fX11_turn_J122 p1 p2 xq18))) else (if p2 = 3 then (if (p1 < 0 ∨ xl 102 ≤ p1.toNatClampNeg) then none else ((fX6_becomeNegative 34 (xb 102 + p1.toNatClampNeg) σ).bind fun xq22 => (fX11_turn_J122 p1 p2 xq22))) else (some ((-1002), σ)))))))
set_option maxHeartbeats 4000000 in
set_option maxRecDepth 100000 in
theorem kX11_turn (l : Launch) (D : va_G) (G : xG) (ub : xB) (σ : QMem) (p1 : Int32) (p2 : Int32) (res : Int32 × QMem) (h : fX11_turn p1 p2 σ = some res) : Met l yX11_turn (.code yX11_turn cX11_turn 3 (some .int) :: lwW) (rmD 4) (xPc D G ub σ [.ref (G.1 105), .int p1, .int p2]) (xQi D G ub res) 0 0 (xA G) := by
  refine Met.ofW (cc := cX11_turn) (maxL := 3) (ret := (some .int)) (by decide) rfl ?_
  intro p e s m args below meth c s₁ B hml hv
  obtain ⟨rfl, h0⟩ := hv
  have hx := B.exec
  have hb := B.bytes
  have hr := B.returns
  have hts := fun (w : Cond) (hw : w ∈ lwW) => atoms_spec (ws := (.code yX11_turn cX11_turn 3 (some .int) :: lwW)) B.pre w (List.mem_cons_of_mem _ hw)
  have hown : s.vm.findClass RX11 = some m.cls := findClass_of_methodNamed B.named
  have hlocks := B.notSynchronized
  have hP := h0.1
  have hK := h0.2.1
  have hi := h0.2.2.1
  have hZ := h0.2.2.2
  have hN := h0.2.2.2.2.2.2.2.1
  have hV := h0.2.2.2.2.2.2.2.2.1
  have hS : va_S (xA G) s.heap s.heap [] := va_S.rf
  have hl := lv_entry ([.ref (G.1 105), .int p1, .int p2]) (n := 3) (Nat.le_of_ble_eq_true rfl)
  rw [lg_entry_eq]
  generalize (lg_sl ([.ref (G.1 105), .int p1, .int p2]) ++ List.replicate (3 - (lg_sl ([.ref (G.1 105), .int p1, .int p2])).length) Slot.unset).toArray = ls at hl ⊢
  have hl : lv_has ls 3 [(0, .ref (G.1 105)), (1, .int p1), (2, .int p2)] := hl
  unfold fX11_turn at h
  have J122 : ∀ (τ : QMem) (H : Heap) (locs : List Loc) (ls : Array Slot), fX11_turn_J122 p1 p2 τ = some res → va_P D vwCl (xW G τ) H → va_S (xA G) s.heap H locs → lv_has ls 3 [(0, .ref (G.1 105)), (1, .int p1)] → W p l e (headSpec (.code yX11_turn cX11_turn 3 (some .int) :: lwW) (rmD 4)).room s m ([.ref (G.1 105), .int p1, .int p2] : List Value).toArray below meth c H locs 0 0 (MQ below (xQi D G ub res) ([.ref (G.1 105), .int p1, .int p2] : List Value).toArray s 0 0 (xA G)) (F0 m 122 ls []) := by
    intro τ H locs ls h hP hS hl
    unfold fX11_turn_J122 at h
    refine lv_aload_n hx hb dX11_turn_122 rfl (lv_at hl 0 rfl) ?_
    refine lv_iload_n hx hb dX11_turn_123 rfl (lv_at hl 1 rfl) ?_
    refine lv_aload_n hx hb dX11_turn_124 rfl (lv_at hl 0 rfl) ?_
    refine va_get (D := D) (ci := 11) (v := .ref (G.1 34)) (C := RX11) (T := TX11) (N := 13) hx hb hts iwX11 hown hK hP 105 (xg_7 rfl) rfl 10 (by decide) (hts _ mw_292) (fun _ h9 => h9) rfl dX11_turn_125 ?_
    obtain ⟨xq3, hfq4, h⟩ := obd h
    refine va_calli (va_runV (As := [.int p1, .ref (G.1 34)]) (rest := []) ⟨hx, hb, hml, hown, hts⟩ (kX11_change l D G ub _ p1 34 rfl xq3 hfq4) (cwV 2 hts (lwW_gV mw_666 mw_668 ms_17 mw_1 mw_669) rfl rfl rfl (by decide +kernel) ⟨Nat.le_of_ble_eq_true rfl, Nat.le_of_ble_eq_true rfl⟩) ⟨fun a U g mk q => ⟨q.1, xPre_call q.2⟩, va_recv hK hP rfl (xg_7 rfl), fun U hU hW => ⟨rfl, xPre_at h0 hS hP hU hW⟩⟩ rfl rfl hl.1 rfl (lv_room (Nat.le_of_ble_eq_true rfl)) dX11_turn_128 ⟨Nat.zero_le _, Nat.zero_le _⟩) hS (fun q _ h => h) (fun q h => h) (fun r u t H1 locs ht hvm hw hB hz1 hq1 hS => ?_)
    obtain ⟨rfl, rfl⟩ := hw
    have hP := hB.1
    rw [ht] at hP
    refine W.widen (k := 0) (n := 0) (Nat.le_refl _) (Nat.le_refl _) ?_
    obtain rfl := Option.some.inj h
    exact W.iret (v := xq3.1) hx hb hr (fun t ht hW => ⟨⟨_, _, rfl, ⟨rfl, rfl⟩, xPre_at h0 hS hP ht hW⟩, hS.F ht⟩) hS.2.2 dX11_turn_131
  refine lv_iload_n hx hb dX11_turn_0 rfl (lv_at hl 1 rfl) ?_
  obtain ⟨xq5, hfq6, h⟩ := obd h
  refine va_calli (va_runS (As := [.int p1]) (rest := []) ⟨hx, hb, hml, hown, hts⟩ (kX11_isSlot l p1 xq5 hfq6) (va_cwS 1 hts (lwW_gS mw_463 mw_464 mw_1 mw_465) rfl rfl rfl (by decide +kernel) ⟨Nat.le_of_ble_eq_true rfl, Nat.le_of_ble_eq_true rfl⟩) ⟨fun a U g mk q => ⟨q.1, trivial⟩, fun U hU hW => ⟨rfl, trivial⟩⟩ rfl rfl hl.1 rfl (lv_room (Nat.le_of_ble_eq_true rfl)) dX11_turn_1 ⟨Nat.zero_le _, Nat.zero_le _⟩) hS (fun q _ h => h.elim) (fun q h => h.elim) (fun r u t H1 locs ht hvm hw hB hz1 hq1 hS => ?_)
  obtain rfl := hw.symm
  have hP := xP_kept hP hq1
  refine W.widen (k := 0) (n := 0) (Nat.le_refl _) (Nat.le_refl _) ?_
  refine lv_if_ne (tgt := 11) hx hb dX11_turn_4 (by decide) (fun hcq7 => ?_) (fun hcq7 => ?_)
  · have h := ifn hcq7 h
    refine lv_iload_n hx hb dX11_turn_11 rfl (lv_at hl 2 rfl) ?_
    by_cases hcq8 : p2 = 0
    · have h := ifp hcq8 h
      refine lv_tableIn (off := 32) (tgt := 44) hx hb dX11_turn_12 (by rw [hcq8]; decide) (by rw [hcq8]; decide) (by rw [hcq8]; rfl) (by decide) ?_
      refine lv_aload_n hx hb dX11_turn_44 rfl (lv_at hl 0 rfl) ?_
      refine va_get (D := D) (ci := 11) (v := .ref (G.1 34)) (C := RX11) (T := TX11) (N := 13) hx hb hts iwX11 hown hK hP 105 (xg_7 rfl) rfl 10 (by decide) (hts _ mw_292) (fun _ h9 => h9) rfl dX11_turn_45 ?_
      refine lv_aload_n hx hb dX11_turn_48 rfl (lv_at hl 0 rfl) ?_
      refine va_get (D := D) (ci := 11) (v := .ref (G.1 102)) (C := RX11) (T := TX11) (N := 13) hx hb hts iwX11 hown hK hP 105 (xg_7 rfl) rfl 0 (by decide) (hts _ mw_282) (fun _ h9 => h9) rfl dX11_turn_49 ?_
      refine lv_iload_n hx hb dX11_turn_52 rfl (lv_at hl 1 rfl) ?_
      obtain ⟨hiq9, h⟩ := nif h
      refine va_aldq hx hb hK hP 102 1 (xg_6 rfl) rfl hiq9 dX11_turn_53 ?_
      refine W.eq (g2 := F0 m 54 ls [.ref (G.1 (xb 102 + p1.toNatClampNeg)), .ref (G.1 34)]) rfl ?_
      obtain ⟨xq10, hfq11, h⟩ := obd h
      refine va_callv (va_runV (As := [.ref (G.1 (xb 102 + p1.toNatClampNeg))]) (rest := []) ⟨hx, hb, hml, hown, hts⟩ (kX6_becomeConjugate l D G ub _ 34 rfl (xb 102 + p1.toNatClampNeg) (xr6 rfl (vp_lt hiq9)) xq10 hfq11) (cwV 1 hts (lwW_gV mw_698 mw_619 mw_620 mw_3 mw_621) rfl rfl rfl (by decide +kernel) ⟨Nat.le_of_ble_eq_true rfl, Nat.le_of_ble_eq_true rfl⟩) ⟨fun a U g mk q => ⟨q.1, xPre_call q.2⟩, va_recv hK hP rfl (xg_0 rfl), fun U hU hW => ⟨rfl, xPre_at h0 hS hP hU hW⟩⟩ rfl rfl hl.1 rfl (lv_room (Nat.le_of_ble_eq_true rfl)) dX11_turn_54 ⟨Nat.zero_le _, Nat.zero_le _⟩) hS (fun q _ h => h) (fun q h => h) (fun u t H1 locs ht hvm hw hB hz1 hq1 hS => ?_)
      obtain rfl := hw.symm
      have hP := hB.1
      rw [ht] at hP
      refine W.widen (k := 0) (n := 0) (Nat.le_refl _) (Nat.le_refl _) ?_
      refine lv_goto (tgt := 122) hx hb dX11_turn_57 (by decide) ?_
      exact J122 _ _ _ _ h hP hS (lv_sub hl [0, 1] rfl)
    have h := ifn hcq8 h
    by_cases hcq12 : p2 = 1
    · have h := ifp hcq12 h
      refine lv_tableIn (off := 48) (tgt := 60) hx hb dX11_turn_12 (by rw [hcq12]; decide) (by rw [hcq12]; decide) (by rw [hcq12]; rfl) (by decide) ?_
      refine lv_aload_n hx hb dX11_turn_60 rfl (lv_at hl 0 rfl) ?_
      refine va_get (D := D) (ci := 11) (v := .ref (G.1 111)) (C := RX11) (T := TX11) (N := 13) hx hb hts iwX11 hown hK hP 105 (xg_7 rfl) rfl 6 (by decide) (hts _ mw_288) (fun _ h9 => h9) rfl dX11_turn_61 ?_
      refine lv_aload_n hx hb dX11_turn_64 rfl (lv_at hl 0 rfl) ?_
      refine va_get (D := D) (ci := 11) (v := .ref (G.1 34)) (C := RX11) (T := TX11) (N := 13) hx hb hts iwX11 hown hK hP 105 (xg_7 rfl) rfl 10 (by decide) (hts _ mw_292) (fun _ h9 => h9) rfl dX11_turn_65 ?_
      refine lv_aload_n hx hb dX11_turn_68 rfl (lv_at hl 0 rfl) ?_
      refine va_get (D := D) (ci := 11) (v := .ref (G.1 102)) (C := RX11) (T := TX11) (N := 13) hx hb hts iwX11 hown hK hP 105 (xg_7 rfl) rfl 0 (by decide) (hts _ mw_282) (fun _ h9 => h9) rfl dX11_turn_69 ?_
      refine lv_iload_n hx hb dX11_turn_72 rfl (lv_at hl 1 rfl) ?_
      obtain ⟨hiq13, h⟩ := nif h
      refine va_aldq hx hb hK hP 102 1 (xg_6 rfl) rfl hiq13 dX11_turn_73 ?_
      refine W.eq (g2 := F0 m 74 ls [.ref (G.1 (xb 102 + p1.toNatClampNeg)), .ref (G.1 34), .ref (G.1 111)]) rfl ?_
      refine lv_iconst (v := 0) hx hb dX11_turn_74 (by decide) ?_
      obtain ⟨xq14, hfq15, h⟩ := obd h
      refine va_callv (va_runV (As := [.ref (G.1 34), .ref (G.1 (xb 102 + p1.toNatClampNeg)), .int 0]) (rest := []) ⟨hx, hb, hml, hown, hts⟩ (kX2_putHead l D G ub _ 34 rfl (xb 102 + p1.toNatClampNeg) (xr6 rfl (vp_lt hiq13)) 0 xq14 hfq15) (cwV 3 hts (lwW_gV mw_699 mw_700 mw_701 mw_9 mw_702) rfl rfl rfl (by decide +kernel) ⟨Nat.le_of_ble_eq_true rfl, Nat.le_of_ble_eq_true rfl⟩) ⟨fun a U g mk q => ⟨q.1, xPre_call q.2⟩, va_recv hK hP rfl (xg_13 rfl), fun U hU hW => ⟨rfl, xPre_at h0 hS hP hU hW⟩⟩ rfl rfl hl.1 rfl (lv_room (Nat.le_of_ble_eq_true rfl)) dX11_turn_75 ⟨Nat.zero_le _, Nat.zero_le _⟩) hS (fun q _ h => h) (fun q h => h) (fun u t H1 locs ht hvm hw hB hz1 hq1 hS => ?_)
      obtain rfl := hw.symm
      have hP := hB.1
      rw [ht] at hP
      refine W.widen (k := 0) (n := 0) (Nat.le_refl _) (Nat.le_refl _) ?_
      refine lv_goto (tgt := 122) hx hb dX11_turn_78 (by decide) ?_
      exact J122 _ _ _ _ h hP hS (lv_sub hl [0, 1] rfl)
    have h := ifn hcq12 h
    by_cases hcq16 : p2 = 2
    · have h := ifp hcq16 h
      refine lv_tableIn (off := 69) (tgt := 81) hx hb dX11_turn_12 (by rw [hcq16]; decide) (by rw [hcq16]; decide) (by rw [hcq16]; rfl) (by decide) ?_
      refine lv_aload_n hx hb dX11_turn_81 rfl (lv_at hl 0 rfl) ?_
      refine va_get (D := D) (ci := 11) (v := .ref (G.1 111)) (C := RX11) (T := TX11) (N := 13) hx hb hts iwX11 hown hK hP 105 (xg_7 rfl) rfl 6 (by decide) (hts _ mw_288) (fun _ h9 => h9) rfl dX11_turn_82 ?_
      refine lv_aload_n hx hb dX11_turn_85 rfl (lv_at hl 0 rfl) ?_
      refine va_get (D := D) (ci := 11) (v := .ref (G.1 34)) (C := RX11) (T := TX11) (N := 13) hx hb hts iwX11 hown hK hP 105 (xg_7 rfl) rfl 10 (by decide) (hts _ mw_292) (fun _ h9 => h9) rfl dX11_turn_86 ?_
      refine lv_aload_n hx hb dX11_turn_89 rfl (lv_at hl 0 rfl) ?_
      refine va_get (D := D) (ci := 11) (v := .ref (G.1 102)) (C := RX11) (T := TX11) (N := 13) hx hb hts iwX11 hown hK hP 105 (xg_7 rfl) rfl 0 (by decide) (hts _ mw_282) (fun _ h9 => h9) rfl dX11_turn_90 ?_
      refine lv_iload_n hx hb dX11_turn_93 rfl (lv_at hl 1 rfl) ?_
      obtain ⟨hiq17, h⟩ := nif h
      refine va_aldq hx hb hK hP 102 1 (xg_6 rfl) rfl hiq17 dX11_turn_94 ?_
      refine W.eq (g2 := F0 m 95 ls [.ref (G.1 (xb 102 + p1.toNatClampNeg)), .ref (G.1 34), .ref (G.1 111)]) rfl ?_
      refine lv_iconst (v := 1) hx hb dX11_turn_95 (by decide) ?_
      obtain ⟨xq18, hfq19, h⟩ := obd h
      refine va_callv (va_runV (As := [.ref (G.1 34), .ref (G.1 (xb 102 + p1.toNatClampNeg)), .int 1]) (rest := []) ⟨hx, hb, hml, hown, hts⟩ (kX2_putHead l D G ub _ 34 rfl (xb 102 + p1.toNatClampNeg) (xr6 rfl (vp_lt hiq17)) 1 xq18 hfq19) (cwV 3 hts (lwW_gV mw_699 mw_700 mw_701 mw_9 mw_702) rfl rfl rfl (by decide +kernel) ⟨Nat.le_of_ble_eq_true rfl, Nat.le_of_ble_eq_true rfl⟩) ⟨fun a U g mk q => ⟨q.1, xPre_call q.2⟩, va_recv hK hP rfl (xg_13 rfl), fun U hU hW => ⟨rfl, xPre_at h0 hS hP hU hW⟩⟩ rfl rfl hl.1 rfl (lv_room (Nat.le_of_ble_eq_true rfl)) dX11_turn_96 ⟨Nat.zero_le _, Nat.zero_le _⟩) hS (fun q _ h => h) (fun q h => h) (fun u t H1 locs ht hvm hw hB hz1 hq1 hS => ?_)
      obtain rfl := hw.symm
      have hP := hB.1
      rw [ht] at hP
      refine W.widen (k := 0) (n := 0) (Nat.le_refl _) (Nat.le_refl _) ?_
      refine lv_goto (tgt := 122) hx hb dX11_turn_99 (by decide) ?_
      exact J122 _ _ _ _ h hP hS (lv_sub hl [0, 1] rfl)
    have h := ifn hcq16 h
    by_cases hcq20 : p2 = 3
    · have h := ifp hcq20 h
      refine lv_tableIn (off := 90) (tgt := 102) hx hb dX11_turn_12 (by rw [hcq20]; decide) (by rw [hcq20]; decide) (by rw [hcq20]; rfl) (by decide) ?_
      refine lv_aload_n hx hb dX11_turn_102 rfl (lv_at hl 0 rfl) ?_
      refine va_get (D := D) (ci := 11) (v := .ref (G.1 34)) (C := RX11) (T := TX11) (N := 13) hx hb hts iwX11 hown hK hP 105 (xg_7 rfl) rfl 10 (by decide) (hts _ mw_292) (fun _ h9 => h9) rfl dX11_turn_103 ?_
      refine lv_aload_n hx hb dX11_turn_106 rfl (lv_at hl 0 rfl) ?_
      refine va_get (D := D) (ci := 11) (v := .ref (G.1 102)) (C := RX11) (T := TX11) (N := 13) hx hb hts iwX11 hown hK hP 105 (xg_7 rfl) rfl 0 (by decide) (hts _ mw_282) (fun _ h9 => h9) rfl dX11_turn_107 ?_
      refine lv_iload_n hx hb dX11_turn_110 rfl (lv_at hl 1 rfl) ?_
      obtain ⟨hiq21, h⟩ := nif h
      refine va_aldq hx hb hK hP 102 1 (xg_6 rfl) rfl hiq21 dX11_turn_111 ?_
      refine W.eq (g2 := F0 m 112 ls [.ref (G.1 (xb 102 + p1.toNatClampNeg)), .ref (G.1 34)]) rfl ?_
      obtain ⟨xq22, hfq23, h⟩ := obd h
      refine va_callv (va_runV (As := [.ref (G.1 (xb 102 + p1.toNatClampNeg))]) (rest := []) ⟨hx, hb, hml, hown, hts⟩ (kX6_becomeNegative l D G ub _ 34 rfl (xb 102 + p1.toNatClampNeg) (xr6 rfl (vp_lt hiq21)) xq22 hfq23) (cwV 1 hts (lwW_gV mw_708 mw_709 mw_710 mw_3 mw_711) rfl rfl rfl (by decide +kernel) ⟨Nat.le_of_ble_eq_true rfl, Nat.le_of_ble_eq_true rfl⟩) ⟨fun a U g mk q => ⟨q.1, xPre_call q.2⟩, va_recv hK hP rfl (xg_0 rfl), fun U hU hW => ⟨rfl, xPre_at h0 hS hP hU hW⟩⟩ rfl rfl hl.1 rfl (lv_room (Nat.le_of_ble_eq_true rfl)) dX11_turn_112 ⟨Nat.zero_le _, Nat.zero_le _⟩) hS (fun q _ h => h) (fun q h => h) (fun u t H1 locs ht hvm hw hB hz1 hq1 hS => ?_)
      obtain rfl := hw.symm
      have hP := hB.1
      rw [ht] at hP
      refine W.widen (k := 0) (n := 0) (Nat.le_refl _) (Nat.le_refl _) ?_
      refine lv_goto (tgt := 122) hx hb dX11_turn_115 (by decide) ?_
      exact J122 _ _ _ _ h hP hS (lv_sub hl [0, 1] rfl)
    have h := ifn hcq20 h
    refine lv_tableOut (tgt := 118) hx hb dX11_turn_12 (by have t0 := toI_ne hcq8; have t1 := toI_ne hcq12; have t2 := toI_ne hcq16; have t3 := toI_ne hcq20; rw [show (0 : Int32).toInt = 0 from by decide] at t0; rw [show (1 : Int32).toInt = 1 from by decide] at t1; rw [show (2 : Int32).toInt = 2 from by decide] at t2; rw [show (3 : Int32).toInt = 3 from by decide] at t3; omega) (by decide) ?_
    refine lv_sipush (v := (-1002)) hx hb dX11_turn_118 (by decide) ?_
    obtain rfl := Option.some.inj h
    exact W.iret (v := (-1002)) hx hb hr (fun t ht hW => ⟨⟨_, _, rfl, ⟨rfl, rfl⟩, xPre_at h0 hS hP ht hW⟩, hS.F ht⟩) hS.2.2 dX11_turn_121
  have h := ifp hcq7 h
  refine lv_sipush (v := (-1001)) hx hb dX11_turn_7 (by decide) ?_
  obtain rfl := Option.some.inj h
  exact W.iret (v := (-1001)) hx hb hr (fun t ht hW => ⟨⟨_, _, rfl, ⟨rfl, rfl⟩, xPre_at h0 hS hP ht hW⟩, hS.F ht⟩) hS.2.2 dX11_turn_10
def fX11_divide_J99 (p1 : Int32) (p2 : Int32) (p3 : Int32) (p4 : Int32) (s1 : Int32) (s2 : Nat) (τ : QMem) : Option (Int32 × QMem) :=
  (fX11_change s1 s2 τ).bind fun xq1 => (some (xq1.1, xq1.2))
def fX11_divide (p1 : Int32) (p2 : Int32) (p3 : Int32) (p4 : Int32) (σ : QMem) : Option (Int32 × QMem) :=
  (fX11_isSlot p1).bind fun xq5 => (if xq5 = 0 then (some ((-1001), σ)) else ((fX11_isSlot p2).bind fun xq8 => (if xq8 = 0 then (some ((-1001), σ)) else (if p3 < 0 then (some ((-1002), σ)) else (if 1 < p3 then (some ((-1002), σ)) else ((fX11_isSide p4).bind fun xq13 => (if xq13 = 0 then (some ((-1002), σ)) else (if (p2 < 0 ∨ xl 102 ≤ p2.toNatClampNeg) then none else ((fX6_isZero (xb 102 + p2.toNatClampNeg) σ).bind fun xq17 => (if xq17.1 = 0 then (if (p1 < 0 ∨ xl 102 ≤ p1.toNatClampNeg) then none else (if (p2 < 0 ∨ xl 102 ≤ p2.toNatClampNeg) then none else ((fX1_perform (xb 102 + p1.toNatClampNeg) (xb 102 + p2.toNatClampNeg) p4 xq17.2).bind fun xq22 => (if p3 = 0 then (fX11_divide_J99 p1 p2 p3 p4 p1 36 xq22) else (fX11_divide_J99 p1 p2 p3 p4 p1 37 xq22))))) else (some ((-1003), xq17.2))))))))))))
set_option maxHeartbeats 4000000 in
set_option maxRecDepth 100000 in
theorem kX11_divide (l : Launch) (D : va_G) (G : xG) (ub : xB) (σ : QMem) (p1 : Int32) (p2 : Int32) (p3 : Int32) (p4 : Int32) (res : Int32 × QMem) (h : fX11_divide p1 p2 p3 p4 σ = some res) : Met l yX11_divide (.code yX11_divide cX11_divide 5 (some .int) :: lwW) (rmD 4) (xPc D G ub σ [.ref (G.1 105), .int p1, .int p2, .int p3, .int p4]) (xQi D G ub res) 0 0 (xA G) := by
  refine Met.ofW (cc := cX11_divide) (maxL := 5) (ret := (some .int)) (by decide) rfl ?_
  intro p e s m args below meth c s₁ B hml hv
  obtain ⟨rfl, h0⟩ := hv
  have hx := B.exec
  have hb := B.bytes
  have hr := B.returns
  have hts := fun (w : Cond) (hw : w ∈ lwW) => atoms_spec (ws := (.code yX11_divide cX11_divide 5 (some .int) :: lwW)) B.pre w (List.mem_cons_of_mem _ hw)
  have hown : s.vm.findClass RX11 = some m.cls := findClass_of_methodNamed B.named
  have hlocks := B.notSynchronized
  have hP := h0.1
  have hK := h0.2.1
  have hi := h0.2.2.1
  have hZ := h0.2.2.2
  have hN := h0.2.2.2.2.2.2.2.1
  have hV := h0.2.2.2.2.2.2.2.2.1
  have hS : va_S (xA G) s.heap s.heap [] := va_S.rf
  have hl := lv_entry ([.ref (G.1 105), .int p1, .int p2, .int p3, .int p4]) (n := 5) (Nat.le_of_ble_eq_true rfl)
  rw [lg_entry_eq]
  generalize (lg_sl ([.ref (G.1 105), .int p1, .int p2, .int p3, .int p4]) ++ List.replicate (5 - (lg_sl ([.ref (G.1 105), .int p1, .int p2, .int p3, .int p4])).length) Slot.unset).toArray = ls at hl ⊢
  have hl : lv_has ls 5 [(0, .ref (G.1 105)), (1, .int p1), (2, .int p2), (3, .int p3), (4, .int p4)] := hl
  unfold fX11_divide at h
  have J99 : ∀ (s1 : Int32) (s2 : Nat) (hs2 : xk s2 = 0) (τ : QMem) (H : Heap) (locs : List Loc) (ls : Array Slot), fX11_divide_J99 p1 p2 p3 p4 s1 s2 τ = some res → va_P D vwCl (xW G τ) H → va_S (xA G) s.heap H locs → lv_has ls 5 [] → W p l e (headSpec (.code yX11_divide cX11_divide 5 (some .int) :: lwW) (rmD 4)).room s m ([.ref (G.1 105), .int p1, .int p2, .int p3, .int p4] : List Value).toArray below meth c H locs 0 0 (MQ below (xQi D G ub res) ([.ref (G.1 105), .int p1, .int p2, .int p3, .int p4] : List Value).toArray s 0 0 (xA G)) (F0 m 99 ls [.ref (G.1 s2), .int s1, .ref (G.1 105)]) := by
    intro s1 s2 hs2 τ H locs ls h hP hS hl
    unfold fX11_divide_J99 at h
    obtain ⟨xq3, hfq4, h⟩ := obd h
    refine va_calli (va_runV (As := [.int s1, .ref (G.1 s2)]) (rest := []) ⟨hx, hb, hml, hown, hts⟩ (kX11_change l D G ub _ s1 s2 hs2 xq3 hfq4) (cwV 2 hts (lwW_gV mw_666 mw_668 ms_17 mw_1 mw_669) rfl rfl rfl (by decide +kernel) ⟨Nat.le_of_ble_eq_true rfl, Nat.le_of_ble_eq_true rfl⟩) ⟨fun a U g mk q => ⟨q.1, xPre_call q.2⟩, va_recv hK hP rfl (xg_7 rfl), fun U hU hW => ⟨rfl, xPre_at h0 hS hP hU hW⟩⟩ rfl rfl hl.1 rfl (lv_room (Nat.le_of_ble_eq_true rfl)) dX11_divide_99 ⟨Nat.zero_le _, Nat.zero_le _⟩) hS (fun q _ h => h) (fun q h => h) (fun r u t H1 locs ht hvm hw hB hz1 hq1 hS => ?_)
    obtain ⟨rfl, rfl⟩ := hw
    have hP := hB.1
    rw [ht] at hP
    refine W.widen (k := 0) (n := 0) (Nat.le_refl _) (Nat.le_refl _) ?_
    obtain rfl := Option.some.inj h
    exact W.iret (v := xq3.1) hx hb hr (fun t ht hW => ⟨⟨_, _, rfl, ⟨rfl, rfl⟩, xPre_at h0 hS hP ht hW⟩, hS.F ht⟩) hS.2.2 dX11_divide_102
  refine lv_iload_n hx hb dX11_divide_0 rfl (lv_at hl 1 rfl) ?_
  obtain ⟨xq5, hfq6, h⟩ := obd h
  refine va_calli (va_runS (As := [.int p1]) (rest := []) ⟨hx, hb, hml, hown, hts⟩ (kX11_isSlot l p1 xq5 hfq6) (va_cwS 1 hts (lwW_gS mw_463 mw_464 mw_1 mw_465) rfl rfl rfl (by decide +kernel) ⟨Nat.le_of_ble_eq_true rfl, Nat.le_of_ble_eq_true rfl⟩) ⟨fun a U g mk q => ⟨q.1, trivial⟩, fun U hU hW => ⟨rfl, trivial⟩⟩ rfl rfl hl.1 rfl (lv_room (Nat.le_of_ble_eq_true rfl)) dX11_divide_1 ⟨Nat.zero_le _, Nat.zero_le _⟩) hS (fun q _ h => h.elim) (fun q h => h.elim) (fun r u t H1 locs ht hvm hw hB hz1 hq1 hS => ?_)
  obtain rfl := hw.symm
  have hP := xP_kept hP hq1
  refine W.widen (k := 0) (n := 0) (Nat.le_refl _) (Nat.le_refl _) ?_
  refine lv_if_eq (tgt := 14) hx hb dX11_divide_4 (by decide) (fun hcq7 => ?_) (fun hcq7 => ?_)
  · have h := ifp hcq7 h
    refine lv_sipush (v := (-1001)) hx hb dX11_divide_14 (by decide) ?_
    obtain rfl := Option.some.inj h
    exact W.iret (v := (-1001)) hx hb hr (fun t ht hW => ⟨⟨_, _, rfl, ⟨rfl, rfl⟩, xPre_at h0 hS hP ht hW⟩, hS.F ht⟩) hS.2.2 dX11_divide_17
  have h := ifn hcq7 h
  refine lv_iload_n hx hb dX11_divide_7 rfl (lv_at hl 2 rfl) ?_
  obtain ⟨xq8, hfq9, h⟩ := obd h
  refine va_calli (va_runS (As := [.int p2]) (rest := []) ⟨hx, hb, hml, hown, hts⟩ (kX11_isSlot l p2 xq8 hfq9) (va_cwS 1 hts (lwW_gS mw_463 mw_464 mw_1 mw_465) rfl rfl rfl (by decide +kernel) ⟨Nat.le_of_ble_eq_true rfl, Nat.le_of_ble_eq_true rfl⟩) ⟨fun a U g mk q => ⟨q.1, trivial⟩, fun U hU hW => ⟨rfl, trivial⟩⟩ rfl rfl hl.1 rfl (lv_room (Nat.le_of_ble_eq_true rfl)) dX11_divide_8 ⟨Nat.zero_le _, Nat.zero_le _⟩) hS (fun q _ h => h.elim) (fun q h => h.elim) (fun r u t H1 locs ht hvm hw hB hz1 hq1 hS => ?_)
  obtain rfl := hw.symm
  have hP := xP_kept hP hq1
  refine W.widen (k := 0) (n := 0) (Nat.le_refl _) (Nat.le_refl _) ?_
  refine lv_if_ne (tgt := 18) hx hb dX11_divide_11 (by decide) (fun hcq10 => ?_) (fun hcq10 => ?_)
  · have h := ifn hcq10 h
    refine lv_iload_n hx hb dX11_divide_18 rfl (lv_at hl 3 rfl) ?_
    refine lv_if_lt (tgt := 35) hx hb dX11_divide_19 (by decide) (fun hcq11 => ?_) (fun hcq11 => ?_)
    · have h := ifp hcq11 h
      refine lv_sipush (v := (-1002)) hx hb dX11_divide_35 (by decide) ?_
      obtain rfl := Option.some.inj h
      exact W.iret (v := (-1002)) hx hb hr (fun t ht hW => ⟨⟨_, _, rfl, ⟨rfl, rfl⟩, xPre_at h0 hS hP ht hW⟩, hS.F ht⟩) hS.2.2 dX11_divide_38
    have h := ifn hcq11 h
    refine lv_iload_n hx hb dX11_divide_22 rfl (lv_at hl 3 rfl) ?_
    refine lv_iconst (v := 1) hx hb dX11_divide_23 (by decide) ?_
    refine lv_icmp_gt (tgt := 35) hx hb dX11_divide_24 (by decide) (fun hcq12 => ?_) (fun hcq12 => ?_)
    · have h := ifp hcq12 h
      refine lv_sipush (v := (-1002)) hx hb dX11_divide_35 (by decide) ?_
      obtain rfl := Option.some.inj h
      exact W.iret (v := (-1002)) hx hb hr (fun t ht hW => ⟨⟨_, _, rfl, ⟨rfl, rfl⟩, xPre_at h0 hS hP ht hW⟩, hS.F ht⟩) hS.2.2 dX11_divide_38
    have h := ifn hcq12 h
    refine lv_iload hx hb dX11_divide_27 (lv_at hl 4 rfl) ?_
    obtain ⟨xq13, hfq14, h⟩ := obd h
    refine va_calli (va_runS (As := [.int p4]) (rest := []) ⟨hx, hb, hml, hown, hts⟩ (kX11_isSide l p4 xq13 hfq14) (va_cwS 1 hts (lwW_gS mw_690 mw_691 mw_1 mw_692) rfl rfl rfl (by decide +kernel) ⟨Nat.le_of_ble_eq_true rfl, Nat.le_of_ble_eq_true rfl⟩) ⟨fun a U g mk q => ⟨q.1, trivial⟩, fun U hU hW => ⟨rfl, trivial⟩⟩ rfl rfl hl.1 rfl (lv_room (Nat.le_of_ble_eq_true rfl)) dX11_divide_29 ⟨Nat.zero_le _, Nat.zero_le _⟩) hS (fun q _ h => h.elim) (fun q h => h.elim) (fun r u t H1 locs ht hvm hw hB hz1 hq1 hS => ?_)
    obtain rfl := hw.symm
    have hP := xP_kept hP hq1
    refine W.widen (k := 0) (n := 0) (Nat.le_refl _) (Nat.le_refl _) ?_
    refine lv_if_ne (tgt := 39) hx hb dX11_divide_32 (by decide) (fun hcq15 => ?_) (fun hcq15 => ?_)
    · have h := ifn hcq15 h
      refine lv_aload_n hx hb dX11_divide_39 rfl (lv_at hl 0 rfl) ?_
      refine va_get (D := D) (ci := 11) (v := .ref (G.1 102)) (C := RX11) (T := TX11) (N := 13) hx hb hts iwX11 hown hK hP 105 (xg_7 rfl) rfl 0 (by decide) (hts _ mw_282) (fun _ h9 => h9) rfl dX11_divide_40 ?_
      refine lv_iload_n hx hb dX11_divide_43 rfl (lv_at hl 2 rfl) ?_
      obtain ⟨hiq16, h⟩ := nif h
      refine va_aldq hx hb hK hP 102 1 (xg_6 rfl) rfl hiq16 dX11_divide_44 ?_
      refine W.eq (g2 := F0 m 45 ls [.ref (G.1 (xb 102 + p2.toNatClampNeg))]) rfl ?_
      obtain ⟨xq17, hfq18, h⟩ := obd h
      refine va_calli (va_runV (As := []) (rest := []) ⟨hx, hb, hml, hown, hts⟩ (kX6_isZero l D G ub _ (xb 102 + p2.toNatClampNeg) (xr6 rfl (vp_lt hiq16)) xq17 hfq18) (cwV 0 hts (lwW_gV mw_511 mw_512 mw_513 mw_3 mw_514) rfl rfl rfl (by decide +kernel) ⟨Nat.le_of_ble_eq_true rfl, Nat.le_of_ble_eq_true rfl⟩) ⟨fun a U g mk q => ⟨q.1, xPre_call q.2⟩, va_recv hK hP rfl (xg_0 (xr6 rfl (vp_lt hiq16))), fun U hU hW => ⟨rfl, xPre_at h0 hS hP hU hW⟩⟩ rfl rfl hl.1 rfl (lv_room (Nat.le_of_ble_eq_true rfl)) dX11_divide_45 ⟨Nat.zero_le _, Nat.zero_le _⟩) hS (fun q _ h => h) (fun q h => h) (fun r u t H1 locs ht hvm hw hB hz1 hq1 hS => ?_)
      obtain ⟨rfl, rfl⟩ := hw
      have hP := hB.1
      rw [ht] at hP
      refine W.widen (k := 0) (n := 0) (Nat.le_refl _) (Nat.le_refl _) ?_
      refine lv_if_eq (tgt := 55) hx hb dX11_divide_48 (by decide) (fun hcq19 => ?_) (fun hcq19 => ?_)
      · have h := ifp hcq19 h
        refine lv_aload_n hx hb dX11_divide_55 rfl (lv_at hl 0 rfl) ?_
        refine va_get (D := D) (ci := 11) (v := .ref (G.1 110)) (C := RX11) (T := TX11) (N := 13) hx hb hts iwX11 hown hK hP 105 (xg_7 rfl) rfl 5 (by decide) (hts _ mw_287) (fun _ h9 => h9) rfl dX11_divide_56 ?_
        refine lv_aload_n hx hb dX11_divide_59 rfl (lv_at hl 0 rfl) ?_
        refine va_get (D := D) (ci := 11) (v := .ref (G.1 102)) (C := RX11) (T := TX11) (N := 13) hx hb hts iwX11 hown hK hP 105 (xg_7 rfl) rfl 0 (by decide) (hts _ mw_282) (fun _ h9 => h9) rfl dX11_divide_60 ?_
        refine lv_iload_n hx hb dX11_divide_63 rfl (lv_at hl 1 rfl) ?_
        obtain ⟨hiq20, h⟩ := nif h
        refine va_aldq hx hb hK hP 102 1 (xg_6 rfl) rfl hiq20 dX11_divide_64 ?_
        refine W.eq (g2 := F0 m 65 ls [.ref (G.1 (xb 102 + p1.toNatClampNeg)), .ref (G.1 110)]) rfl ?_
        refine lv_aload_n hx hb dX11_divide_65 rfl (lv_at hl 0 rfl) ?_
        refine va_get (D := D) (ci := 11) (v := .ref (G.1 102)) (C := RX11) (T := TX11) (N := 13) hx hb hts iwX11 hown hK hP 105 (xg_7 rfl) rfl 0 (by decide) (hts _ mw_282) (fun _ h9 => h9) rfl dX11_divide_66 ?_
        refine lv_iload_n hx hb dX11_divide_69 rfl (lv_at hl 2 rfl) ?_
        obtain ⟨hiq21, h⟩ := nif h
        refine va_aldq hx hb hK hP 102 1 (xg_6 rfl) rfl hiq21 dX11_divide_70 ?_
        refine W.eq (g2 := F0 m 71 ls [.ref (G.1 (xb 102 + p2.toNatClampNeg)), .ref (G.1 (xb 102 + p1.toNatClampNeg)), .ref (G.1 110)]) rfl ?_
        refine lv_iload hx hb dX11_divide_71 (lv_at hl 4 rfl) ?_
        obtain ⟨xq22, hfq23, h⟩ := obd h
        refine va_callv (va_runV (As := [.ref (G.1 (xb 102 + p1.toNatClampNeg)), .ref (G.1 (xb 102 + p2.toNatClampNeg)), .int p4]) (rest := []) ⟨hx, hb, hml, hown, hts⟩ (kX1_perform l D G ub _ (xb 102 + p1.toNatClampNeg) (xr6 rfl (vp_lt hiq20)) (xb 102 + p2.toNatClampNeg) (xr6 rfl (vp_lt hiq21)) p4 xq22 hfq23) (cwV 3 hts (lwW_gV mw_716 mw_628 mw_629 mw_8 mw_630) rfl rfl rfl (by decide +kernel) ⟨Nat.le_of_ble_eq_true rfl, Nat.le_of_ble_eq_true rfl⟩) ⟨fun a U g mk q => ⟨q.1, xPre_call q.2⟩, va_recv hK hP rfl (xg_12 rfl), fun U hU hW => ⟨rfl, xPre_at h0 hS hP hU hW⟩⟩ rfl rfl hl.1 rfl (lv_room (Nat.le_of_ble_eq_true rfl)) dX11_divide_73 ⟨Nat.zero_le _, Nat.zero_le _⟩) hS (fun q _ h => h) (fun q h => h) (fun u t H1 locs ht hvm hw hB hz1 hq1 hS => ?_)
        obtain rfl := hw.symm
        have hP := hB.1
        rw [ht] at hP
        refine W.widen (k := 0) (n := 0) (Nat.le_refl _) (Nat.le_refl _) ?_
        refine lv_aload_n hx hb dX11_divide_76 rfl (lv_at hl 0 rfl) ?_
        refine lv_iload_n hx hb dX11_divide_77 rfl (lv_at hl 1 rfl) ?_
        refine lv_iload_n hx hb dX11_divide_78 rfl (lv_at hl 3 rfl) ?_
        refine lv_if_ne (tgt := 92) hx hb dX11_divide_79 (by decide) (fun hcq24 => ?_) (fun hcq24 => ?_)
        · have h := ifn hcq24 h
          refine lv_aload_n hx hb dX11_divide_92 rfl (lv_at hl 0 rfl) ?_
          refine va_get (D := D) (ci := 11) (v := .ref (G.1 110)) (C := RX11) (T := TX11) (N := 13) hx hb hts iwX11 hown hK hP 105 (xg_7 rfl) rfl 5 (by decide) (hts _ mw_287) (fun _ h9 => h9) rfl dX11_divide_93 ?_
          refine va_getN (D := D) (ci := 1) (v := .ref (G.1 37)) (C := RX1) (T := TX1) (N := 8) hx hb hts iwX1 hown hK hP 110 (xg_12 rfl) rfl 1 (by decide) (va_Nw.use rfl (hN.F 10 rfl)) (fun _ h9 => h9) rfl dX11_divide_96 ?_
          exact J99 p1 37 rfl _ _ _ _ h hP hS (lv_sub hl [] rfl)
        have h := ifp hcq24 h
        refine lv_aload_n hx hb dX11_divide_82 rfl (lv_at hl 0 rfl) ?_
        refine va_get (D := D) (ci := 11) (v := .ref (G.1 110)) (C := RX11) (T := TX11) (N := 13) hx hb hts iwX11 hown hK hP 105 (xg_7 rfl) rfl 5 (by decide) (hts _ mw_287) (fun _ h9 => h9) rfl dX11_divide_83 ?_
        refine va_getN (D := D) (ci := 1) (v := .ref (G.1 36)) (C := RX1) (T := TX1) (N := 8) hx hb hts iwX1 hown hK hP 110 (xg_12 rfl) rfl 0 (by decide) (va_Nw.use rfl (hN.F 9 rfl)) (fun _ h9 => h9) rfl dX11_divide_86 ?_
        refine lv_goto (tgt := 99) hx hb dX11_divide_89 (by decide) ?_
        exact J99 p1 36 rfl _ _ _ _ h hP hS (lv_sub hl [] rfl)
      have h := ifn hcq19 h
      refine lv_sipush (v := (-1003)) hx hb dX11_divide_51 (by decide) ?_
      obtain rfl := Option.some.inj h
      exact W.iret (v := (-1003)) hx hb hr (fun t ht hW => ⟨⟨_, _, rfl, ⟨rfl, rfl⟩, xPre_at h0 hS hP ht hW⟩, hS.F ht⟩) hS.2.2 dX11_divide_54
    have h := ifp hcq15 h
    refine lv_sipush (v := (-1002)) hx hb dX11_divide_35 (by decide) ?_
    obtain rfl := Option.some.inj h
    exact W.iret (v := (-1002)) hx hb hr (fun t ht hW => ⟨⟨_, _, rfl, ⟨rfl, rfl⟩, xPre_at h0 hS hP ht hW⟩, hS.F ht⟩) hS.2.2 dX11_divide_38
  have h := ifp hcq10 h
  refine lv_sipush (v := (-1001)) hx hb dX11_divide_14 (by decide) ?_
  obtain rfl := Option.some.inj h
  exact W.iret (v := (-1001)) hx hb hr (fun t ht hW => ⟨⟨_, _, rfl, ⟨rfl, rfl⟩, xPre_at h0 hS hP ht hW⟩, hS.F ht⟩) hS.2.2 dX11_divide_17
def fX11_common_J57 (p1 : Int32) (p2 : Int32) (p3 : Int32)  (τ : QMem) : Option (Int32 × QMem) :=
  if (p1 < 0 ∨ xl 102 ≤ p1.toNatClampNeg) then none else (if (p2 < 0 ∨ xl 102 ≤ p2.toNatClampNeg) then none else ((fX1_descend (xb 102 + p1.toNatClampNeg) (xb 102 + p2.toNatClampNeg) p3 τ).bind fun xq3 => ((fX2_putHead 34 42 p3 xq3.2).bind fun xq5 => ((fX11_change p1 34 xq5).bind fun xq7 => (some (xq7.1, xq7.2))))))
def fX11_common (p1 : Int32) (p2 : Int32) (p3 : Int32) (σ : QMem) : Option (Int32 × QMem) :=
  (fX11_isSlot p1).bind fun xq17 => (if xq17 = 0 then (some ((-1001), σ)) else ((fX11_isSlot p2).bind fun xq20 => (if xq20 = 0 then (some ((-1001), σ)) else ((fX11_isSide p3).bind fun xq23 => (if xq23 = 0 then (some ((-1002), σ)) else (if (p1 < 0 ∨ xl 102 ≤ p1.toNatClampNeg) then none else ((fX6_isZero (xb 102 + p1.toNatClampNeg) σ).bind fun xq27 => (if xq27.1 = 0 then (fX11_common_J57 p1 p2 p3 xq27.2) else (if (p2 < 0 ∨ xl 102 ≤ p2.toNatClampNeg) then none else ((fX6_isZero (xb 102 + p2.toNatClampNeg) xq27.2).bind fun xq31 => (if xq31.1 = 0 then (fX11_common_J57 p1 p2 p3 xq31.2) else (some ((-1003), xq31.2)))))))))))))
set_option maxHeartbeats 4000000 in
set_option maxRecDepth 100000 in
theorem kX11_common (l : Launch) (D : va_G) (G : xG) (ub : xB) (σ : QMem) (p1 : Int32) (p2 : Int32) (p3 : Int32) (res : Int32 × QMem) (h : fX11_common p1 p2 p3 σ = some res) : Met l yX11_common (.code yX11_common cX11_common 4 (some .int) :: lwW) (rmD 4) (xPc D G ub σ [.ref (G.1 105), .int p1, .int p2, .int p3]) (xQi D G ub res) 0 0 (xA G) := by
  refine Met.ofW (cc := cX11_common) (maxL := 4) (ret := (some .int)) (by decide) rfl ?_
  intro p e s m args below meth c s₁ B hml hv
  obtain ⟨rfl, h0⟩ := hv
  have hx := B.exec
  have hb := B.bytes
  have hr := B.returns
  have hts := fun (w : Cond) (hw : w ∈ lwW) => atoms_spec (ws := (.code yX11_common cX11_common 4 (some .int) :: lwW)) B.pre w (List.mem_cons_of_mem _ hw)
  have hown : s.vm.findClass RX11 = some m.cls := findClass_of_methodNamed B.named
  have hlocks := B.notSynchronized
  have hP := h0.1
  have hK := h0.2.1
  have hi := h0.2.2.1
  have hZ := h0.2.2.2
  have hN := h0.2.2.2.2.2.2.2.1
  have hV := h0.2.2.2.2.2.2.2.2.1
  have hS : va_S (xA G) s.heap s.heap [] := va_S.rf
  have hl := lv_entry ([.ref (G.1 105), .int p1, .int p2, .int p3]) (n := 4) (Nat.le_of_ble_eq_true rfl)
  rw [lg_entry_eq]
  generalize (lg_sl ([.ref (G.1 105), .int p1, .int p2, .int p3]) ++ List.replicate (4 - (lg_sl ([.ref (G.1 105), .int p1, .int p2, .int p3])).length) Slot.unset).toArray = ls at hl ⊢
  have hl : lv_has ls 4 [(0, .ref (G.1 105)), (1, .int p1), (2, .int p2), (3, .int p3)] := hl
  unfold fX11_common at h
  have J57 : ∀ (τ : QMem) (H : Heap) (locs : List Loc) (ls : Array Slot), fX11_common_J57 p1 p2 p3 τ = some res → va_P D vwCl (xW G τ) H → va_S (xA G) s.heap H locs → lv_has ls 4 [(0, .ref (G.1 105)), (1, .int p1), (2, .int p2), (3, .int p3)] → W p l e (headSpec (.code yX11_common cX11_common 4 (some .int) :: lwW) (rmD 4)).room s m ([.ref (G.1 105), .int p1, .int p2, .int p3] : List Value).toArray below meth c H locs 0 0 (MQ below (xQi D G ub res) ([.ref (G.1 105), .int p1, .int p2, .int p3] : List Value).toArray s 0 0 (xA G)) (F0 m 57 ls []) := by
    intro τ H locs ls h hP hS hl
    unfold fX11_common_J57 at h
    refine lv_aload_n hx hb dX11_common_57 rfl (lv_at hl 0 rfl) ?_
    refine va_get (D := D) (ci := 11) (v := .ref (G.1 110)) (C := RX11) (T := TX11) (N := 13) hx hb hts iwX11 hown hK hP 105 (xg_7 rfl) rfl 5 (by decide) (hts _ mw_287) (fun _ h9 => h9) rfl dX11_common_58 ?_
    refine lv_aload_n hx hb dX11_common_61 rfl (lv_at hl 0 rfl) ?_
    refine va_get (D := D) (ci := 11) (v := .ref (G.1 102)) (C := RX11) (T := TX11) (N := 13) hx hb hts iwX11 hown hK hP 105 (xg_7 rfl) rfl 0 (by decide) (hts _ mw_282) (fun _ h9 => h9) rfl dX11_common_62 ?_
    refine lv_iload_n hx hb dX11_common_65 rfl (lv_at hl 1 rfl) ?_
    obtain ⟨hiq9, h⟩ := nif h
    refine va_aldq hx hb hK hP 102 1 (xg_6 rfl) rfl hiq9 dX11_common_66 ?_
    refine W.eq (g2 := F0 m 67 ls [.ref (G.1 (xb 102 + p1.toNatClampNeg)), .ref (G.1 110)]) rfl ?_
    refine lv_aload_n hx hb dX11_common_67 rfl (lv_at hl 0 rfl) ?_
    refine va_get (D := D) (ci := 11) (v := .ref (G.1 102)) (C := RX11) (T := TX11) (N := 13) hx hb hts iwX11 hown hK hP 105 (xg_7 rfl) rfl 0 (by decide) (hts _ mw_282) (fun _ h9 => h9) rfl dX11_common_68 ?_
    refine lv_iload_n hx hb dX11_common_71 rfl (lv_at hl 2 rfl) ?_
    obtain ⟨hiq10, h⟩ := nif h
    refine va_aldq hx hb hK hP 102 1 (xg_6 rfl) rfl hiq10 dX11_common_72 ?_
    refine W.eq (g2 := F0 m 73 ls [.ref (G.1 (xb 102 + p2.toNatClampNeg)), .ref (G.1 (xb 102 + p1.toNatClampNeg)), .ref (G.1 110)]) rfl ?_
    refine lv_iload_n hx hb dX11_common_73 rfl (lv_at hl 3 rfl) ?_
    obtain ⟨xq11, hfq12, h⟩ := obd h
    refine va_calli (va_runV (As := [.ref (G.1 (xb 102 + p1.toNatClampNeg)), .ref (G.1 (xb 102 + p2.toNatClampNeg)), .int p3]) (rest := []) ⟨hx, hb, hml, hown, hts⟩ (kX1_descend l D G ub _ (xb 102 + p1.toNatClampNeg) (xr6 rfl (vp_lt hiq9)) (xb 102 + p2.toNatClampNeg) (xr6 rfl (vp_lt hiq10)) p3 xq11 hfq12) (cwV 3 hts (lwW_gV mw_721 mw_722 mw_723 mw_8 mw_724) rfl rfl rfl (by decide +kernel) ⟨Nat.le_of_ble_eq_true rfl, Nat.le_of_ble_eq_true rfl⟩) ⟨fun a U g mk q => ⟨q.1, xPre_call q.2⟩, va_recv hK hP rfl (xg_12 rfl), fun U hU hW => ⟨rfl, xPre_at h0 hS hP hU hW⟩⟩ rfl rfl hl.1 rfl (lv_room (Nat.le_of_ble_eq_true rfl)) dX11_common_74 ⟨Nat.zero_le _, Nat.zero_le _⟩) hS (fun q _ h => h) (fun q h => h) (fun r u t H1 locs ht hvm hw hB hz1 hq1 hS => ?_)
    obtain ⟨rfl, rfl⟩ := hw
    have hP := hB.1
    rw [ht] at hP
    refine W.widen (k := 0) (n := 0) (Nat.le_refl _) (Nat.le_refl _) ?_
    refine lv_pop hx hb dX11_common_77 rfl ?_
    refine lv_aload_n hx hb dX11_common_78 rfl (lv_at hl 0 rfl) ?_
    refine va_get (D := D) (ci := 11) (v := .ref (G.1 111)) (C := RX11) (T := TX11) (N := 13) hx hb hts iwX11 hown hK hP 105 (xg_7 rfl) rfl 6 (by decide) (hts _ mw_288) (fun _ h9 => h9) rfl dX11_common_79 ?_
    refine lv_aload_n hx hb dX11_common_82 rfl (lv_at hl 0 rfl) ?_
    refine va_get (D := D) (ci := 11) (v := .ref (G.1 34)) (C := RX11) (T := TX11) (N := 13) hx hb hts iwX11 hown hK hP 105 (xg_7 rfl) rfl 10 (by decide) (hts _ mw_292) (fun _ h9 => h9) rfl dX11_common_83 ?_
    refine lv_aload_n hx hb dX11_common_86 rfl (lv_at hl 0 rfl) ?_
    refine va_get (D := D) (ci := 11) (v := .ref (G.1 110)) (C := RX11) (T := TX11) (N := 13) hx hb hts iwX11 hown hK hP 105 (xg_7 rfl) rfl 5 (by decide) (hts _ mw_287) (fun _ h9 => h9) rfl dX11_common_87 ?_
    refine va_getN (D := D) (ci := 1) (v := .ref (G.1 42)) (C := RX1) (T := TX1) (N := 8) hx hb hts iwX1 hown hK hP 110 (xg_12 rfl) rfl 6 (by decide) (va_Nw.use rfl (hN.F 11 rfl)) (fun _ h9 => h9) rfl dX11_common_90 ?_
    refine lv_iload_n hx hb dX11_common_93 rfl (lv_at hl 3 rfl) ?_
    obtain ⟨xq13, hfq14, h⟩ := obd h
    refine va_callv (va_runV (As := [.ref (G.1 34), .ref (G.1 42), .int p3]) (rest := []) ⟨hx, hb, hml, hown, hts⟩ (kX2_putHead l D G ub _ 34 rfl 42 rfl p3 xq13 hfq14) (cwV 3 hts (lwW_gV mw_699 mw_700 mw_701 mw_9 mw_702) rfl rfl rfl (by decide +kernel) ⟨Nat.le_of_ble_eq_true rfl, Nat.le_of_ble_eq_true rfl⟩) ⟨fun a U g mk q => ⟨q.1, xPre_call q.2⟩, va_recv hK hP rfl (xg_13 rfl), fun U hU hW => ⟨rfl, xPre_at h0 hS hP hU hW⟩⟩ rfl rfl hl.1 rfl (lv_room (Nat.le_of_ble_eq_true rfl)) dX11_common_94 ⟨Nat.zero_le _, Nat.zero_le _⟩) hS (fun q _ h => h) (fun q h => h) (fun u t H1 locs ht hvm hw hB hz1 hq1 hS => ?_)
    obtain rfl := hw.symm
    have hP := hB.1
    rw [ht] at hP
    refine W.widen (k := 0) (n := 0) (Nat.le_refl _) (Nat.le_refl _) ?_
    refine lv_aload_n hx hb dX11_common_97 rfl (lv_at hl 0 rfl) ?_
    refine lv_iload_n hx hb dX11_common_98 rfl (lv_at hl 1 rfl) ?_
    refine lv_aload_n hx hb dX11_common_99 rfl (lv_at hl 0 rfl) ?_
    refine va_get (D := D) (ci := 11) (v := .ref (G.1 34)) (C := RX11) (T := TX11) (N := 13) hx hb hts iwX11 hown hK hP 105 (xg_7 rfl) rfl 10 (by decide) (hts _ mw_292) (fun _ h9 => h9) rfl dX11_common_100 ?_
    obtain ⟨xq15, hfq16, h⟩ := obd h
    refine va_calli (va_runV (As := [.int p1, .ref (G.1 34)]) (rest := []) ⟨hx, hb, hml, hown, hts⟩ (kX11_change l D G ub _ p1 34 rfl xq15 hfq16) (cwV 2 hts (lwW_gV mw_666 mw_668 ms_17 mw_1 mw_669) rfl rfl rfl (by decide +kernel) ⟨Nat.le_of_ble_eq_true rfl, Nat.le_of_ble_eq_true rfl⟩) ⟨fun a U g mk q => ⟨q.1, xPre_call q.2⟩, va_recv hK hP rfl (xg_7 rfl), fun U hU hW => ⟨rfl, xPre_at h0 hS hP hU hW⟩⟩ rfl rfl hl.1 rfl (lv_room (Nat.le_of_ble_eq_true rfl)) dX11_common_103 ⟨Nat.zero_le _, Nat.zero_le _⟩) hS (fun q _ h => h) (fun q h => h) (fun r u t H1 locs ht hvm hw hB hz1 hq1 hS => ?_)
    obtain ⟨rfl, rfl⟩ := hw
    have hP := hB.1
    rw [ht] at hP
    refine W.widen (k := 0) (n := 0) (Nat.le_refl _) (Nat.le_refl _) ?_
    obtain rfl := Option.some.inj h
    exact W.iret (v := xq15.1) hx hb hr (fun t ht hW => ⟨⟨_, _, rfl, ⟨rfl, rfl⟩, xPre_at h0 hS hP ht hW⟩, hS.F ht⟩) hS.2.2 dX11_common_106
  refine lv_iload_n hx hb dX11_common_0 rfl (lv_at hl 1 rfl) ?_
  obtain ⟨xq17, hfq18, h⟩ := obd h
  refine va_calli (va_runS (As := [.int p1]) (rest := []) ⟨hx, hb, hml, hown, hts⟩ (kX11_isSlot l p1 xq17 hfq18) (va_cwS 1 hts (lwW_gS mw_463 mw_464 mw_1 mw_465) rfl rfl rfl (by decide +kernel) ⟨Nat.le_of_ble_eq_true rfl, Nat.le_of_ble_eq_true rfl⟩) ⟨fun a U g mk q => ⟨q.1, trivial⟩, fun U hU hW => ⟨rfl, trivial⟩⟩ rfl rfl hl.1 rfl (lv_room (Nat.le_of_ble_eq_true rfl)) dX11_common_1 ⟨Nat.zero_le _, Nat.zero_le _⟩) hS (fun q _ h => h.elim) (fun q h => h.elim) (fun r u t H1 locs ht hvm hw hB hz1 hq1 hS => ?_)
  obtain rfl := hw.symm
  have hP := xP_kept hP hq1
  refine W.widen (k := 0) (n := 0) (Nat.le_refl _) (Nat.le_refl _) ?_
  refine lv_if_eq (tgt := 14) hx hb dX11_common_4 (by decide) (fun hcq19 => ?_) (fun hcq19 => ?_)
  · have h := ifp hcq19 h
    refine lv_sipush (v := (-1001)) hx hb dX11_common_14 (by decide) ?_
    obtain rfl := Option.some.inj h
    exact W.iret (v := (-1001)) hx hb hr (fun t ht hW => ⟨⟨_, _, rfl, ⟨rfl, rfl⟩, xPre_at h0 hS hP ht hW⟩, hS.F ht⟩) hS.2.2 dX11_common_17
  have h := ifn hcq19 h
  refine lv_iload_n hx hb dX11_common_7 rfl (lv_at hl 2 rfl) ?_
  obtain ⟨xq20, hfq21, h⟩ := obd h
  refine va_calli (va_runS (As := [.int p2]) (rest := []) ⟨hx, hb, hml, hown, hts⟩ (kX11_isSlot l p2 xq20 hfq21) (va_cwS 1 hts (lwW_gS mw_463 mw_464 mw_1 mw_465) rfl rfl rfl (by decide +kernel) ⟨Nat.le_of_ble_eq_true rfl, Nat.le_of_ble_eq_true rfl⟩) ⟨fun a U g mk q => ⟨q.1, trivial⟩, fun U hU hW => ⟨rfl, trivial⟩⟩ rfl rfl hl.1 rfl (lv_room (Nat.le_of_ble_eq_true rfl)) dX11_common_8 ⟨Nat.zero_le _, Nat.zero_le _⟩) hS (fun q _ h => h.elim) (fun q h => h.elim) (fun r u t H1 locs ht hvm hw hB hz1 hq1 hS => ?_)
  obtain rfl := hw.symm
  have hP := xP_kept hP hq1
  refine W.widen (k := 0) (n := 0) (Nat.le_refl _) (Nat.le_refl _) ?_
  refine lv_if_ne (tgt := 18) hx hb dX11_common_11 (by decide) (fun hcq22 => ?_) (fun hcq22 => ?_)
  · have h := ifn hcq22 h
    refine lv_iload_n hx hb dX11_common_18 rfl (lv_at hl 3 rfl) ?_
    obtain ⟨xq23, hfq24, h⟩ := obd h
    refine va_calli (va_runS (As := [.int p3]) (rest := []) ⟨hx, hb, hml, hown, hts⟩ (kX11_isSide l p3 xq23 hfq24) (va_cwS 1 hts (lwW_gS mw_690 mw_691 mw_1 mw_692) rfl rfl rfl (by decide +kernel) ⟨Nat.le_of_ble_eq_true rfl, Nat.le_of_ble_eq_true rfl⟩) ⟨fun a U g mk q => ⟨q.1, trivial⟩, fun U hU hW => ⟨rfl, trivial⟩⟩ rfl rfl hl.1 rfl (lv_room (Nat.le_of_ble_eq_true rfl)) dX11_common_19 ⟨Nat.zero_le _, Nat.zero_le _⟩) hS (fun q _ h => h.elim) (fun q h => h.elim) (fun r u t H1 locs ht hvm hw hB hz1 hq1 hS => ?_)
    obtain rfl := hw.symm
    have hP := xP_kept hP hq1
    refine W.widen (k := 0) (n := 0) (Nat.le_refl _) (Nat.le_refl _) ?_
    refine lv_if_ne (tgt := 29) hx hb dX11_common_22 (by decide) (fun hcq25 => ?_) (fun hcq25 => ?_)
    · have h := ifn hcq25 h
      refine lv_aload_n hx hb dX11_common_29 rfl (lv_at hl 0 rfl) ?_
      refine va_get (D := D) (ci := 11) (v := .ref (G.1 102)) (C := RX11) (T := TX11) (N := 13) hx hb hts iwX11 hown hK hP 105 (xg_7 rfl) rfl 0 (by decide) (hts _ mw_282) (fun _ h9 => h9) rfl dX11_common_30 ?_
      refine lv_iload_n hx hb dX11_common_33 rfl (lv_at hl 1 rfl) ?_
      obtain ⟨hiq26, h⟩ := nif h
      refine va_aldq hx hb hK hP 102 1 (xg_6 rfl) rfl hiq26 dX11_common_34 ?_
      refine W.eq (g2 := F0 m 35 ls [.ref (G.1 (xb 102 + p1.toNatClampNeg))]) rfl ?_
      obtain ⟨xq27, hfq28, h⟩ := obd h
      refine va_calli (va_runV (As := []) (rest := []) ⟨hx, hb, hml, hown, hts⟩ (kX6_isZero l D G ub _ (xb 102 + p1.toNatClampNeg) (xr6 rfl (vp_lt hiq26)) xq27 hfq28) (cwV 0 hts (lwW_gV mw_511 mw_512 mw_513 mw_3 mw_514) rfl rfl rfl (by decide +kernel) ⟨Nat.le_of_ble_eq_true rfl, Nat.le_of_ble_eq_true rfl⟩) ⟨fun a U g mk q => ⟨q.1, xPre_call q.2⟩, va_recv hK hP rfl (xg_0 (xr6 rfl (vp_lt hiq26))), fun U hU hW => ⟨rfl, xPre_at h0 hS hP hU hW⟩⟩ rfl rfl hl.1 rfl (lv_room (Nat.le_of_ble_eq_true rfl)) dX11_common_35 ⟨Nat.zero_le _, Nat.zero_le _⟩) hS (fun q _ h => h) (fun q h => h) (fun r u t H1 locs ht hvm hw hB hz1 hq1 hS => ?_)
      obtain ⟨rfl, rfl⟩ := hw
      have hP := hB.1
      rw [ht] at hP
      refine W.widen (k := 0) (n := 0) (Nat.le_refl _) (Nat.le_refl _) ?_
      refine lv_if_eq (tgt := 57) hx hb dX11_common_38 (by decide) (fun hcq29 => ?_) (fun hcq29 => ?_)
      · have h := ifp hcq29 h
        exact J57 _ _ _ _ h hP hS (lv_sub hl [0, 1, 2, 3] rfl)
      have h := ifn hcq29 h
      refine lv_aload_n hx hb dX11_common_41 rfl (lv_at hl 0 rfl) ?_
      refine va_get (D := D) (ci := 11) (v := .ref (G.1 102)) (C := RX11) (T := TX11) (N := 13) hx hb hts iwX11 hown hK hP 105 (xg_7 rfl) rfl 0 (by decide) (hts _ mw_282) (fun _ h9 => h9) rfl dX11_common_42 ?_
      refine lv_iload_n hx hb dX11_common_45 rfl (lv_at hl 2 rfl) ?_
      obtain ⟨hiq30, h⟩ := nif h
      refine va_aldq hx hb hK hP 102 1 (xg_6 rfl) rfl hiq30 dX11_common_46 ?_
      refine W.eq (g2 := F0 m 47 ls [.ref (G.1 (xb 102 + p2.toNatClampNeg))]) rfl ?_
      obtain ⟨xq31, hfq32, h⟩ := obd h
      refine va_calli (va_runV (As := []) (rest := []) ⟨hx, hb, hml, hown, hts⟩ (kX6_isZero l D G ub _ (xb 102 + p2.toNatClampNeg) (xr6 rfl (vp_lt hiq30)) xq31 hfq32) (cwV 0 hts (lwW_gV mw_511 mw_512 mw_513 mw_3 mw_514) rfl rfl rfl (by decide +kernel) ⟨Nat.le_of_ble_eq_true rfl, Nat.le_of_ble_eq_true rfl⟩) ⟨fun a U g mk q => ⟨q.1, xPre_call q.2⟩, va_recv hK hP rfl (xg_0 (xr6 rfl (vp_lt hiq30))), fun U hU hW => ⟨rfl, xPre_at h0 hS hP hU hW⟩⟩ rfl rfl hl.1 rfl (lv_room (Nat.le_of_ble_eq_true rfl)) dX11_common_47 ⟨Nat.zero_le _, Nat.zero_le _⟩) hS (fun q _ h => h) (fun q h => h) (fun r u t H1 locs ht hvm hw hB hz1 hq1 hS => ?_)
      obtain ⟨rfl, rfl⟩ := hw
      have hP := hB.1
      rw [ht] at hP
      refine W.widen (k := 0) (n := 0) (Nat.le_refl _) (Nat.le_refl _) ?_
      refine lv_if_eq (tgt := 57) hx hb dX11_common_50 (by decide) (fun hcq33 => ?_) (fun hcq33 => ?_)
      · have h := ifp hcq33 h
        exact J57 _ _ _ _ h hP hS (lv_sub hl [0, 1, 2, 3] rfl)
      have h := ifn hcq33 h
      refine lv_sipush (v := (-1003)) hx hb dX11_common_53 (by decide) ?_
      obtain rfl := Option.some.inj h
      exact W.iret (v := (-1003)) hx hb hr (fun t ht hW => ⟨⟨_, _, rfl, ⟨rfl, rfl⟩, xPre_at h0 hS hP ht hW⟩, hS.F ht⟩) hS.2.2 dX11_common_56
    have h := ifp hcq25 h
    refine lv_sipush (v := (-1002)) hx hb dX11_common_25 (by decide) ?_
    obtain rfl := Option.some.inj h
    exact W.iret (v := (-1002)) hx hb hr (fun t ht hW => ⟨⟨_, _, rfl, ⟨rfl, rfl⟩, xPre_at h0 hS hP ht hW⟩, hS.F ht⟩) hS.2.2 dX11_common_28
  have h := ifp hcq22 h
  refine lv_sipush (v := (-1001)) hx hb dX11_common_14 (by decide) ?_
  obtain rfl := Option.some.inj h
  exact W.iret (v := (-1001)) hx hb hr (fun t ht hW => ⟨⟨_, _, rfl, ⟨rfl, rfl⟩, xPre_at h0 hS hP ht hW⟩, hS.F ht⟩) hS.2.2 dX11_common_17
def fX11_undo_J46   (τ : QMem) : Option (Int32 × QMem) :=
  (fX4_size τ).bind fun xq1 => (some (xq1.1, xq1.2))
def fX11_undo  (σ : QMem) : Option (Int32 × QMem) :=
  (fX4_size σ).bind fun xq5 => (if xq5.1 = 0 then (some ((-1003), xq5.2)) else ((fX4_takeLast 34 xq5.2).bind fun xq8 => ((fX11_isSlot xq8.1).bind fun xq10 => (if xq10 = 0 then (fX11_undo_J46 xq8.2) else (if (xq8.1 < 0 ∨ xl 102 ≤ xq8.1.toNatClampNeg) then none else ((fX6_copyFrom (xb 102 + xq8.1.toNatClampNeg) 34 xq8.2).bind fun xq14 => (fX11_undo_J46 xq14)))))))
set_option maxHeartbeats 4000000 in
set_option maxRecDepth 100000 in
theorem kX11_undo (l : Launch) (D : va_G) (G : xG) (ub : xB) (σ : QMem) (res : Int32 × QMem) (h : fX11_undo σ = some res) : Met l yX11_undo (.code yX11_undo cX11_undo 2 (some .int) :: lwW) (rmD 3) (xPc D G ub σ [.ref (G.1 105)]) (xQi D G ub res) 0 0 (xA G) := by
  refine Met.ofW (cc := cX11_undo) (maxL := 2) (ret := (some .int)) (by decide) rfl ?_
  intro p e s m args below meth c s₁ B hml hv
  obtain ⟨rfl, h0⟩ := hv
  have hx := B.exec
  have hb := B.bytes
  have hr := B.returns
  have hts := fun (w : Cond) (hw : w ∈ lwW) => atoms_spec (ws := (.code yX11_undo cX11_undo 2 (some .int) :: lwW)) B.pre w (List.mem_cons_of_mem _ hw)
  have hown : s.vm.findClass RX11 = some m.cls := findClass_of_methodNamed B.named
  have hlocks := B.notSynchronized
  have hP := h0.1
  have hK := h0.2.1
  have hi := h0.2.2.1
  have hZ := h0.2.2.2
  have hN := h0.2.2.2.2.2.2.2.1
  have hV := h0.2.2.2.2.2.2.2.2.1
  have hS : va_S (xA G) s.heap s.heap [] := va_S.rf
  have hl := lv_entry ([.ref (G.1 105)]) (n := 2) (Nat.le_of_ble_eq_true rfl)
  rw [lg_entry_eq]
  generalize (lg_sl ([.ref (G.1 105)]) ++ List.replicate (2 - (lg_sl ([.ref (G.1 105)])).length) Slot.unset).toArray = ls at hl ⊢
  have hl : lv_has ls 2 [(0, .ref (G.1 105))] := hl
  unfold fX11_undo at h
  have J46 : ∀ (τ : QMem) (H : Heap) (locs : List Loc) (ls : Array Slot), fX11_undo_J46 τ = some res → va_P D vwCl (xW G τ) H → va_S (xA G) s.heap H locs → lv_has ls 2 [(0, .ref (G.1 105))] → W p l e (headSpec (.code yX11_undo cX11_undo 2 (some .int) :: lwW) (rmD 3)).room s m ([.ref (G.1 105)] : List Value).toArray below meth c H locs 0 0 (MQ below (xQi D G ub res) ([.ref (G.1 105)] : List Value).toArray s 0 0 (xA G)) (F0 m 46 ls []) := by
    intro τ H locs ls h hP hS hl
    unfold fX11_undo_J46 at h
    refine lv_aload_n hx hb dX11_undo_46 rfl (lv_at hl 0 rfl) ?_
    refine va_get (D := D) (ci := 11) (v := .ref (G.1 108)) (C := RX11) (T := TX11) (N := 13) hx hb hts iwX11 hown hK hP 105 (xg_7 rfl) rfl 3 (by decide) (hts _ mw_285) (fun _ h9 => h9) rfl dX11_undo_47 ?_
    obtain ⟨xq3, hfq4, h⟩ := obd h
    refine va_calli (va_runV (As := []) (rest := []) ⟨hx, hb, hml, hown, hts⟩ (kX4_size l D G ub _ xq3 hfq4) (cwV 0 hts (lwW_gV mw_730 mw_731 mw_732 mw_6 mw_733) rfl rfl rfl (by decide +kernel) ⟨Nat.le_of_ble_eq_true rfl, Nat.le_of_ble_eq_true rfl⟩) ⟨fun a U g mk q => ⟨q.1, xPre_call q.2⟩, va_recv hK hP rfl (xg_10 rfl), fun U hU hW => ⟨rfl, xPre_at h0 hS hP hU hW⟩⟩ rfl rfl hl.1 rfl (lv_room (Nat.le_of_ble_eq_true rfl)) dX11_undo_50 ⟨Nat.zero_le _, Nat.zero_le _⟩) hS (fun q _ h => h) (fun q h => h) (fun r u t H1 locs ht hvm hw hB hz1 hq1 hS => ?_)
    obtain ⟨rfl, rfl⟩ := hw
    have hP := hB.1
    rw [ht] at hP
    refine W.widen (k := 0) (n := 0) (Nat.le_refl _) (Nat.le_refl _) ?_
    obtain rfl := Option.some.inj h
    exact W.iret (v := xq3.1) hx hb hr (fun t ht hW => ⟨⟨_, _, rfl, ⟨rfl, rfl⟩, xPre_at h0 hS hP ht hW⟩, hS.F ht⟩) hS.2.2 dX11_undo_53
  refine lv_aload_n hx hb dX11_undo_0 rfl (lv_at hl 0 rfl) ?_
  refine va_get (D := D) (ci := 11) (v := .ref (G.1 108)) (C := RX11) (T := TX11) (N := 13) hx hb hts iwX11 hown hK hP 105 (xg_7 rfl) rfl 3 (by decide) (hts _ mw_285) (fun _ h9 => h9) rfl dX11_undo_1 ?_
  obtain ⟨xq5, hfq6, h⟩ := obd h
  refine va_calli (va_runV (As := []) (rest := []) ⟨hx, hb, hml, hown, hts⟩ (kX4_size l D G ub _ xq5 hfq6) (cwV 0 hts (lwW_gV mw_730 mw_731 mw_732 mw_6 mw_733) rfl rfl rfl (by decide +kernel) ⟨Nat.le_of_ble_eq_true rfl, Nat.le_of_ble_eq_true rfl⟩) ⟨fun a U g mk q => ⟨q.1, xPre_call q.2⟩, va_recv hK hP rfl (xg_10 rfl), fun U hU hW => ⟨rfl, xPre_at h0 hS hP hU hW⟩⟩ rfl rfl hl.1 rfl (lv_room (Nat.le_of_ble_eq_true rfl)) dX11_undo_4 ⟨Nat.zero_le _, Nat.zero_le _⟩) hS (fun q _ h => h) (fun q h => h) (fun r u t H1 locs ht hvm hw hB hz1 hq1 hS => ?_)
  obtain ⟨rfl, rfl⟩ := hw
  have hP := hB.1
  rw [ht] at hP
  refine W.widen (k := 0) (n := 0) (Nat.le_refl _) (Nat.le_refl _) ?_
  refine lv_if_ne (tgt := 14) hx hb dX11_undo_7 (by decide) (fun hcq7 => ?_) (fun hcq7 => ?_)
  · have h := ifn hcq7 h
    refine lv_aload_n hx hb dX11_undo_14 rfl (lv_at hl 0 rfl) ?_
    refine va_get (D := D) (ci := 11) (v := .ref (G.1 108)) (C := RX11) (T := TX11) (N := 13) hx hb hts iwX11 hown hK hP 105 (xg_7 rfl) rfl 3 (by decide) (hts _ mw_285) (fun _ h9 => h9) rfl dX11_undo_15 ?_
    refine lv_aload_n hx hb dX11_undo_18 rfl (lv_at hl 0 rfl) ?_
    refine va_get (D := D) (ci := 11) (v := .ref (G.1 34)) (C := RX11) (T := TX11) (N := 13) hx hb hts iwX11 hown hK hP 105 (xg_7 rfl) rfl 10 (by decide) (hts _ mw_292) (fun _ h9 => h9) rfl dX11_undo_19 ?_
    obtain ⟨xq8, hfq9, h⟩ := obd h
    refine va_calli (va_runV (As := [.ref (G.1 34)]) (rest := []) ⟨hx, hb, hml, hown, hts⟩ (kX4_takeLast l D G ub _ 34 rfl xq8 hfq9) (cwV 1 hts (lwW_gV mw_734 mw_735 mw_736 mw_6 mw_737) rfl rfl rfl (by decide +kernel) ⟨Nat.le_of_ble_eq_true rfl, Nat.le_of_ble_eq_true rfl⟩) ⟨fun a U g mk q => ⟨q.1, xPre_call q.2⟩, va_recv hK hP rfl (xg_10 rfl), fun U hU hW => ⟨rfl, xPre_at h0 hS hP hU hW⟩⟩ rfl rfl hl.1 rfl (lv_room (Nat.le_of_ble_eq_true rfl)) dX11_undo_22 ⟨Nat.zero_le _, Nat.zero_le _⟩) hS (fun q _ h => h) (fun q h => h) (fun r u t H1 locs ht hvm hw hB hz1 hq1 hS => ?_)
    obtain ⟨rfl, rfl⟩ := hw
    have hP := hB.1
    rw [ht] at hP
    refine W.widen (k := 0) (n := 0) (Nat.le_refl _) (Nat.le_refl _) ?_
    refine lv_istore_n (lv' := [(1, .int xq8.1), (0, .ref (G.1 105))]) hx hb dX11_undo_25 rfl hl (by decide) rfl (fun ls hl => ?_)
    refine lv_iload_n hx hb dX11_undo_26 rfl (lv_at hl 0 rfl) ?_
    obtain ⟨xq10, hfq11, h⟩ := obd h
    refine va_calli (va_runS (As := [.int xq8.1]) (rest := []) ⟨hx, hb, hml, hown, hts⟩ (kX11_isSlot l xq8.1 xq10 hfq11) (va_cwS 1 hts (lwW_gS mw_463 mw_464 mw_1 mw_465) rfl rfl rfl (by decide +kernel) ⟨Nat.le_of_ble_eq_true rfl, Nat.le_of_ble_eq_true rfl⟩) ⟨fun a U g mk q => ⟨q.1, trivial⟩, fun U hU hW => ⟨rfl, trivial⟩⟩ rfl rfl hl.1 rfl (lv_room (Nat.le_of_ble_eq_true rfl)) dX11_undo_27 ⟨Nat.zero_le _, Nat.zero_le _⟩) hS (fun q _ h => h.elim) (fun q h => h.elim) (fun r u t H1 locs ht hvm hw hB hz1 hq1 hS => ?_)
    obtain rfl := hw.symm
    have hP := xP_kept hP hq1
    refine W.widen (k := 0) (n := 0) (Nat.le_refl _) (Nat.le_refl _) ?_
    refine lv_if_eq (tgt := 46) hx hb dX11_undo_30 (by decide) (fun hcq12 => ?_) (fun hcq12 => ?_)
    · have h := ifp hcq12 h
      exact J46 _ _ _ _ h hP hS (lv_sub hl [1] rfl)
    have h := ifn hcq12 h
    refine lv_aload_n hx hb dX11_undo_33 rfl (lv_at hl 1 rfl) ?_
    refine va_get (D := D) (ci := 11) (v := .ref (G.1 102)) (C := RX11) (T := TX11) (N := 13) hx hb hts iwX11 hown hK hP 105 (xg_7 rfl) rfl 0 (by decide) (hts _ mw_282) (fun _ h9 => h9) rfl dX11_undo_34 ?_
    refine lv_iload_n hx hb dX11_undo_37 rfl (lv_at hl 0 rfl) ?_
    obtain ⟨hiq13, h⟩ := nif h
    refine va_aldq hx hb hK hP 102 1 (xg_6 rfl) rfl hiq13 dX11_undo_38 ?_
    refine W.eq (g2 := F0 m 39 ls [.ref (G.1 (xb 102 + xq8.1.toNatClampNeg))]) rfl ?_
    refine lv_aload_n hx hb dX11_undo_39 rfl (lv_at hl 1 rfl) ?_
    refine va_get (D := D) (ci := 11) (v := .ref (G.1 34)) (C := RX11) (T := TX11) (N := 13) hx hb hts iwX11 hown hK hP 105 (xg_7 rfl) rfl 10 (by decide) (hts _ mw_292) (fun _ h9 => h9) rfl dX11_undo_40 ?_
    obtain ⟨xq14, hfq15, h⟩ := obd h
    refine va_callv (va_runV (As := [.ref (G.1 34)]) (rest := []) ⟨hx, hb, hml, hown, hts⟩ (kX6_copyFrom l D G ub _ (xb 102 + xq8.1.toNatClampNeg) (xr6 rfl (vp_lt hiq13)) 34 rfl xq14 hfq15) (cwV 1 hts (lwW_gV mw_480 mw_481 mw_482 mw_3 mw_483) rfl rfl rfl (by decide +kernel) ⟨Nat.le_of_ble_eq_true rfl, Nat.le_of_ble_eq_true rfl⟩) ⟨fun a U g mk q => ⟨q.1, xPre_call q.2⟩, va_recv hK hP rfl (xg_0 (xr6 rfl (vp_lt hiq13))), fun U hU hW => ⟨rfl, xPre_at h0 hS hP hU hW⟩⟩ rfl rfl hl.1 rfl (lv_room (Nat.le_of_ble_eq_true rfl)) dX11_undo_43 ⟨Nat.zero_le _, Nat.zero_le _⟩) hS (fun q _ h => h) (fun q h => h) (fun u t H1 locs ht hvm hw hB hz1 hq1 hS => ?_)
    obtain rfl := hw.symm
    have hP := hB.1
    rw [ht] at hP
    refine W.widen (k := 0) (n := 0) (Nat.le_refl _) (Nat.le_refl _) ?_
    exact J46 _ _ _ _ h hP hS (lv_sub hl [1] rfl)
  have h := ifp hcq7 h
  refine lv_sipush (v := (-1003)) hx hb dX11_undo_10 (by decide) ?_
  obtain rfl := Option.some.inj h
  exact W.iret (v := (-1003)) hx hb hr (fun t ht hW => ⟨⟨_, _, rfl, ⟨rfl, rfl⟩, xPre_at h0 hS hP ht hW⟩, hS.F ht⟩) hS.2.2 dX11_undo_13
def fX11_filledSlots_J25  (K4 : Int32 → Int32 → QMem → Option (Int32 × QMem)) (v1 : Int32) (v2 : Int32) (τ : QMem) : Option (Int32 × QMem) :=
  K4 v1 (v2 + 1) τ
def fX11_filledSlots_L4  : Nat → Int32 → Int32 → QMem → Option (Int32 × QMem)
  | 0, _, _, _ => none
  | n + 1, v1, v2, τ =>
  if 6 ≤ v2 then (some (v1, τ)) else (if (v2 < 0 ∨ xl 102 ≤ v2.toNatClampNeg) then none else ((fX6_isZero (xb 102 + v2.toNatClampNeg) τ).bind fun xq3 => (if xq3.1 = 0 then (fX11_filledSlots_J25 (fX11_filledSlots_L4 n) (v1 + 1) v2 xq3.2) else (fX11_filledSlots_J25 (fX11_filledSlots_L4 n) v1 v2 xq3.2))))
def fX11_filledSlots  (σ : QMem) : Option (Int32 × QMem) :=
  fX11_filledSlots_L4 FU 0 0 σ
set_option maxHeartbeats 4000000 in
set_option maxRecDepth 100000 in
theorem kX11_filledSlots (l : Launch) (D : va_G) (G : xG) (ub : xB) (σ : QMem) (res : Int32 × QMem) (h : fX11_filledSlots σ = some res) : Met l yX11_filledSlots (.code yX11_filledSlots cX11_filledSlots 3 (some .int) :: lwW) (rmD 1) (xPc D G ub σ [.ref (G.1 105)]) (xQi D G ub res) 0 0 (xA G) := by
  refine Met.ofW (cc := cX11_filledSlots) (maxL := 3) (ret := (some .int)) (by decide) rfl ?_
  intro p e s m args below meth c s₁ B hml hv
  obtain ⟨rfl, h0⟩ := hv
  have hx := B.exec
  have hb := B.bytes
  have hr := B.returns
  have hts := fun (w : Cond) (hw : w ∈ lwW) => atoms_spec (ws := (.code yX11_filledSlots cX11_filledSlots 3 (some .int) :: lwW)) B.pre w (List.mem_cons_of_mem _ hw)
  have hown : s.vm.findClass RX11 = some m.cls := findClass_of_methodNamed B.named
  have hlocks := B.notSynchronized
  have hP := h0.1
  have hK := h0.2.1
  have hi := h0.2.2.1
  have hZ := h0.2.2.2
  have hN := h0.2.2.2.2.2.2.2.1
  have hV := h0.2.2.2.2.2.2.2.2.1
  have hS : va_S (xA G) s.heap s.heap [] := va_S.rf
  have hl := lv_entry ([.ref (G.1 105)]) (n := 3) (Nat.le_of_ble_eq_true rfl)
  rw [lg_entry_eq]
  generalize (lg_sl ([.ref (G.1 105)]) ++ List.replicate (3 - (lg_sl ([.ref (G.1 105)])).length) Slot.unset).toArray = ls at hl ⊢
  have hl : lv_has ls 3 [(0, .ref (G.1 105))] := hl
  unfold fX11_filledSlots at h
  have L4 : ∀ (n4 : Nat) (v1 : Int32) (v2 : Int32) (τ : QMem) (H : Heap) (locs : List Loc) (ls : Array Slot), fX11_filledSlots_L4 n4 v1 v2 τ = some res → va_P D vwCl (xW G τ) H → va_S (xA G) s.heap H locs → lv_has ls 3 [(0, .ref (G.1 105)), (1, .int v1), (2, .int v2)] → W p l e (headSpec (.code yX11_filledSlots cX11_filledSlots 3 (some .int) :: lwW) (rmD 1)).room s m ([.ref (G.1 105)] : List Value).toArray below meth c H locs 0 0 (MQ below (xQi D G ub res) ([.ref (G.1 105)] : List Value).toArray s 0 0 (xA G)) (F0 m 4 ls []) := by
    intro n4
    induction n4 with
    | zero => intro v1 v2 τ H locs ls h; rw [fX11_filledSlots_L4] at h; cases h
    | succ n4 ih4 =>
      intro v1 v2 τ H locs ls h hP hS hl
      rw [fX11_filledSlots_L4] at h
      have J25 : ∀ (v1 : Int32) (v2 : Int32) (τ : QMem) (H : Heap) (locs : List Loc) (ls : Array Slot), fX11_filledSlots_J25 (fX11_filledSlots_L4 n4) v1 v2 τ = some res → va_P D vwCl (xW G τ) H → va_S (xA G) s.heap H locs → lv_has ls 3 [(0, .ref (G.1 105)), (1, .int v1), (2, .int v2)] → W p l e (headSpec (.code yX11_filledSlots cX11_filledSlots 3 (some .int) :: lwW) (rmD 1)).room s m ([.ref (G.1 105)] : List Value).toArray below meth c H locs 0 0 (MQ below (xQi D G ub res) ([.ref (G.1 105)] : List Value).toArray s 0 0 (xA G)) (F0 m 25 ls []) := by
        intro v1 v2 τ H locs ls h hP hS hl
        unfold fX11_filledSlots_J25 at h
        refine lv_iinc (v := v2 + 1) (lv' := [(2, .int (v2 + 1)), (0, .ref (G.1 105)), (1, .int v1)]) hx hb dX11_filledSlots_25 hl (k := 2) rfl rfl (by decide) rfl (fun ls hl => ?_)
        refine lv_goto (tgt := 4) hx hb dX11_filledSlots_28 (by decide) ?_
        exact ih4 v1 (v2 + 1) _ _ _ _ h hP hS (lv_sub hl [1, 2, 0] rfl)
      refine lv_iload_n hx hb dX11_filledSlots_4 rfl (lv_at hl 2 rfl) ?_
      refine lv_bipush (v := 6) hx hb dX11_filledSlots_5 (by decide) ?_
      refine lv_icmp_ge (tgt := 31) hx hb dX11_filledSlots_7 (by decide) (fun hcq1 => ?_) (fun hcq1 => ?_)
      · have h := ifp hcq1 h
        refine lv_iload_n hx hb dX11_filledSlots_31 rfl (lv_at hl 1 rfl) ?_
        obtain rfl := Option.some.inj h
        exact W.iret (v := v1) hx hb hr (fun t ht hW => ⟨⟨_, _, rfl, ⟨rfl, rfl⟩, xPre_at h0 hS hP ht hW⟩, hS.F ht⟩) hS.2.2 dX11_filledSlots_32
      have h := ifn hcq1 h
      refine lv_aload_n hx hb dX11_filledSlots_10 rfl (lv_at hl 0 rfl) ?_
      refine va_get (D := D) (ci := 11) (v := .ref (G.1 102)) (C := RX11) (T := TX11) (N := 13) hx hb hts iwX11 hown hK hP 105 (xg_7 rfl) rfl 0 (by decide) (hts _ mw_282) (fun _ h9 => h9) rfl dX11_filledSlots_11 ?_
      refine lv_iload_n hx hb dX11_filledSlots_14 rfl (lv_at hl 2 rfl) ?_
      obtain ⟨hiq2, h⟩ := nif h
      refine va_aldq hx hb hK hP 102 1 (xg_6 rfl) rfl hiq2 dX11_filledSlots_15 ?_
      refine W.eq (g2 := F0 m 16 ls [.ref (G.1 (xb 102 + v2.toNatClampNeg))]) rfl ?_
      obtain ⟨xq3, hfq4, h⟩ := obd h
      refine va_calli (va_runV (As := []) (rest := []) ⟨hx, hb, hml, hown, hts⟩ (kX6_isZero l D G ub _ (xb 102 + v2.toNatClampNeg) (xr6 rfl (vp_lt hiq2)) xq3 hfq4) (cwV 0 hts (lwW_gV mw_511 mw_512 mw_513 mw_3 mw_514) rfl rfl rfl (by decide +kernel) ⟨Nat.le_of_ble_eq_true rfl, Nat.le_of_ble_eq_true rfl⟩) ⟨fun a U g mk q => ⟨q.1, xPre_call q.2⟩, va_recv hK hP rfl (xg_0 (xr6 rfl (vp_lt hiq2))), fun U hU hW => ⟨rfl, xPre_at h0 hS hP hU hW⟩⟩ rfl rfl hl.1 rfl (lv_room (Nat.le_of_ble_eq_true rfl)) dX11_filledSlots_16 ⟨Nat.zero_le _, Nat.zero_le _⟩) hS (fun q _ h => h) (fun q h => h) (fun r u t H1 locs ht hvm hw hB hz1 hq1 hS => ?_)
      obtain ⟨rfl, rfl⟩ := hw
      have hP := hB.1
      rw [ht] at hP
      refine W.widen (k := 0) (n := 0) (Nat.le_refl _) (Nat.le_refl _) ?_
      refine lv_if_ne (tgt := 25) hx hb dX11_filledSlots_19 (by decide) (fun hcq5 => ?_) (fun hcq5 => ?_)
      · have h := ifn hcq5 h
        exact J25 v1 v2 _ _ _ _ h hP hS (lv_sub hl [0, 1, 2] rfl)
      have h := ifp hcq5 h
      refine lv_iinc (v := v1 + 1) (lv' := [(1, .int (v1 + 1)), (0, .ref (G.1 105)), (2, .int v2)]) hx hb dX11_filledSlots_22 hl (k := 1) rfl rfl (by decide) rfl (fun ls hl => ?_)
      exact J25 (v1 + 1) v2 _ _ _ _ h hP hS (lv_sub hl [1, 0, 2] rfl)
  refine lv_iconst (v := 0) hx hb dX11_filledSlots_0 (by decide) ?_
  refine lv_istore_n (lv' := [(1, .int 0), (0, .ref (G.1 105))]) hx hb dX11_filledSlots_1 rfl hl (by decide) rfl (fun ls hl => ?_)
  refine lv_iconst (v := 0) hx hb dX11_filledSlots_2 (by decide) ?_
  refine lv_istore_n (lv' := [(2, .int 0), (1, .int 0), (0, .ref (G.1 105))]) hx hb dX11_filledSlots_3 rfl hl (by decide) rfl (fun ls hl => ?_)
  exact L4 FU 0 0 _ _ _ _ h hP hS (lv_sub hl [2, 1, 0] rfl)
def fX11_keep (p1 : Int32) (σ : QMem) : Option (Int32 × QMem) :=
  if p1 < 0 then (some ((-1002), σ)) else (if p1 < 2 then (if (p1 < 0 ∨ xl 106 ≤ p1.toNatClampNeg) then none else ((fX9_store (xb 106 + p1.toNatClampNeg) 102 σ).bind fun xq4 => ((fX11_filledSlots xq4).bind fun xq6 => (some (xq6.1, xq6.2))))) else (some ((-1002), σ)))
set_option maxHeartbeats 4000000 in
set_option maxRecDepth 100000 in
theorem kX11_keep (l : Launch) (D : va_G) (G : xG) (ub : xB) (σ : QMem) (p1 : Int32) (res : Int32 × QMem) (h : fX11_keep p1 σ = some res) : Met l yX11_keep (.code yX11_keep cX11_keep 2 (some .int) :: lwW) (rmD 3) (xPc D G ub σ [.ref (G.1 105), .int p1]) (xQi D G ub res) 0 0 (xA G) := by
  refine Met.ofW (cc := cX11_keep) (maxL := 2) (ret := (some .int)) (by decide) rfl ?_
  intro p e s m args below meth c s₁ B hml hv
  obtain ⟨rfl, h0⟩ := hv
  have hx := B.exec
  have hb := B.bytes
  have hr := B.returns
  have hts := fun (w : Cond) (hw : w ∈ lwW) => atoms_spec (ws := (.code yX11_keep cX11_keep 2 (some .int) :: lwW)) B.pre w (List.mem_cons_of_mem _ hw)
  have hown : s.vm.findClass RX11 = some m.cls := findClass_of_methodNamed B.named
  have hlocks := B.notSynchronized
  have hP := h0.1
  have hK := h0.2.1
  have hi := h0.2.2.1
  have hZ := h0.2.2.2
  have hN := h0.2.2.2.2.2.2.2.1
  have hV := h0.2.2.2.2.2.2.2.2.1
  have hS : va_S (xA G) s.heap s.heap [] := va_S.rf
  have hl := lv_entry ([.ref (G.1 105), .int p1]) (n := 2) (Nat.le_of_ble_eq_true rfl)
  rw [lg_entry_eq]
  generalize (lg_sl ([.ref (G.1 105), .int p1]) ++ List.replicate (2 - (lg_sl ([.ref (G.1 105), .int p1])).length) Slot.unset).toArray = ls at hl ⊢
  have hl : lv_has ls 2 [(0, .ref (G.1 105)), (1, .int p1)] := hl
  unfold fX11_keep at h
  refine lv_iload_n hx hb dX11_keep_0 rfl (lv_at hl 1 rfl) ?_
  refine lv_if_lt (tgt := 9) hx hb dX11_keep_1 (by decide) (fun hcq1 => ?_) (fun hcq1 => ?_)
  · have h := ifp hcq1 h
    refine lv_sipush (v := (-1002)) hx hb dX11_keep_9 (by decide) ?_
    obtain rfl := Option.some.inj h
    exact W.iret (v := (-1002)) hx hb hr (fun t ht hW => ⟨⟨_, _, rfl, ⟨rfl, rfl⟩, xPre_at h0 hS hP ht hW⟩, hS.F ht⟩) hS.2.2 dX11_keep_12
  have h := ifn hcq1 h
  refine lv_iload_n hx hb dX11_keep_4 rfl (lv_at hl 1 rfl) ?_
  refine lv_iconst (v := 2) hx hb dX11_keep_5 (by decide) ?_
  refine lv_icmp_lt (tgt := 13) hx hb dX11_keep_6 (by decide) (fun hcq2 => ?_) (fun hcq2 => ?_)
  · have h := ifp hcq2 h
    refine lv_aload_n hx hb dX11_keep_13 rfl (lv_at hl 0 rfl) ?_
    refine va_get (D := D) (ci := 11) (v := .ref (G.1 106)) (C := RX11) (T := TX11) (N := 13) hx hb hts iwX11 hown hK hP 105 (xg_7 rfl) rfl 1 (by decide) (hts _ mw_283) (fun _ h9 => h9) rfl dX11_keep_14 ?_
    refine lv_iload_n hx hb dX11_keep_17 rfl (lv_at hl 1 rfl) ?_
    obtain ⟨hiq3, h⟩ := nif h
    refine va_aldq hx hb hK hP 106 2 (xg_8 rfl) rfl hiq3 dX11_keep_18 ?_
    refine W.eq (g2 := F0 m 19 ls [.ref (G.1 (xb 106 + p1.toNatClampNeg))]) rfl ?_
    refine lv_aload_n hx hb dX11_keep_19 rfl (lv_at hl 0 rfl) ?_
    refine va_get (D := D) (ci := 11) (v := .ref (G.1 102)) (C := RX11) (T := TX11) (N := 13) hx hb hts iwX11 hown hK hP 105 (xg_7 rfl) rfl 0 (by decide) (hts _ mw_282) (fun _ h9 => h9) rfl dX11_keep_20 ?_
    obtain ⟨xq4, hfq5, h⟩ := obd h
    refine va_callv (va_runV (As := [.ref (G.1 102)]) (rest := []) ⟨hx, hb, hml, hown, hts⟩ (kX9_store l D G ub _ (xb 106 + p1.toNatClampNeg) (xr8 rfl (vp_lt hiq3)) 102 rfl xq4 hfq5) (cwV 1 hts (lwW_gV mw_742 mw_743 mw_744 mw_4 mw_745) rfl rfl rfl (by decide +kernel) ⟨Nat.le_of_ble_eq_true rfl, Nat.le_of_ble_eq_true rfl⟩) ⟨fun a U g mk q => ⟨q.1, xPre_call q.2⟩, va_recv hK hP rfl (xg_5 (xr8 rfl (vp_lt hiq3))), fun U hU hW => ⟨rfl, xPre_at h0 hS hP hU hW⟩⟩ rfl rfl hl.1 rfl (lv_room (Nat.le_of_ble_eq_true rfl)) dX11_keep_23 ⟨Nat.zero_le _, Nat.zero_le _⟩) hS (fun q _ h => h) (fun q h => h) (fun u t H1 locs ht hvm hw hB hz1 hq1 hS => ?_)
    obtain rfl := hw.symm
    have hP := hB.1
    rw [ht] at hP
    refine W.widen (k := 0) (n := 0) (Nat.le_refl _) (Nat.le_refl _) ?_
    refine lv_aload_n hx hb dX11_keep_26 rfl (lv_at hl 0 rfl) ?_
    obtain ⟨xq6, hfq7, h⟩ := obd h
    refine va_calli (va_runV (As := []) (rest := []) ⟨hx, hb, hml, hown, hts⟩ (kX11_filledSlots l D G ub _ xq6 hfq7) (cwV 0 hts (lwW_gV mw_747 mw_749 ms_18 mw_1 mw_750) rfl rfl rfl (by decide +kernel) ⟨Nat.le_of_ble_eq_true rfl, Nat.le_of_ble_eq_true rfl⟩) ⟨fun a U g mk q => ⟨q.1, xPre_call q.2⟩, va_recv hK hP rfl (xg_7 rfl), fun U hU hW => ⟨rfl, xPre_at h0 hS hP hU hW⟩⟩ rfl rfl hl.1 rfl (lv_room (Nat.le_of_ble_eq_true rfl)) dX11_keep_27 ⟨Nat.zero_le _, Nat.zero_le _⟩) hS (fun q _ h => h) (fun q h => h) (fun r u t H1 locs ht hvm hw hB hz1 hq1 hS => ?_)
    obtain ⟨rfl, rfl⟩ := hw
    have hP := hB.1
    rw [ht] at hP
    refine W.widen (k := 0) (n := 0) (Nat.le_refl _) (Nat.le_refl _) ?_
    obtain rfl := Option.some.inj h
    exact W.iret (v := xq6.1) hx hb hr (fun t ht hW => ⟨⟨_, _, rfl, ⟨rfl, rfl⟩, xPre_at h0 hS hP ht hW⟩, hS.F ht⟩) hS.2.2 dX11_keep_30
  have h := ifn hcq2 h
  refine lv_sipush (v := (-1002)) hx hb dX11_keep_9 (by decide) ?_
  obtain rfl := Option.some.inj h
  exact W.iret (v := (-1002)) hx hb hr (fun t ht hW => ⟨⟨_, _, rfl, ⟨rfl, rfl⟩, xPre_at h0 hS hP ht hW⟩, hS.F ht⟩) hS.2.2 dX11_keep_12
def fX11_back (p1 : Int32) (σ : QMem) : Option (Int32 × QMem) :=
  if p1 < 0 then (some ((-1002), σ)) else (if p1 < 2 then (if (p1 < 0 ∨ xl 106 ≤ p1.toNatClampNeg) then none else ((fX9_isStored (xb 106 + p1.toNatClampNeg) σ).bind fun xq4 => (if xq4.1 = 0 then (some ((-1003), xq4.2)) else (if (p1 < 0 ∨ xl 106 ≤ p1.toNatClampNeg) then none else ((fX9_restore (xb 106 + p1.toNatClampNeg) 102 xq4.2).bind fun xq8 => ((fX4_clear xq8).bind fun xq10 => ((fX11_filledSlots xq10).bind fun xq12 => (some (xq12.1, xq12.2))))))))) else (some ((-1002), σ)))
set_option maxHeartbeats 4000000 in
set_option maxRecDepth 100000 in
theorem kX11_back (l : Launch) (D : va_G) (G : xG) (ub : xB) (σ : QMem) (p1 : Int32) (res : Int32 × QMem) (h : fX11_back p1 σ = some res) : Met l yX11_back (.code yX11_back cX11_back 2 (some .int) :: lwW) (rmD 3) (xPc D G ub σ [.ref (G.1 105), .int p1]) (xQi D G ub res) 0 0 (xA G) := by
  refine Met.ofW (cc := cX11_back) (maxL := 2) (ret := (some .int)) (by decide) rfl ?_
  intro p e s m args below meth c s₁ B hml hv
  obtain ⟨rfl, h0⟩ := hv
  have hx := B.exec
  have hb := B.bytes
  have hr := B.returns
  have hts := fun (w : Cond) (hw : w ∈ lwW) => atoms_spec (ws := (.code yX11_back cX11_back 2 (some .int) :: lwW)) B.pre w (List.mem_cons_of_mem _ hw)
  have hown : s.vm.findClass RX11 = some m.cls := findClass_of_methodNamed B.named
  have hlocks := B.notSynchronized
  have hP := h0.1
  have hK := h0.2.1
  have hi := h0.2.2.1
  have hZ := h0.2.2.2
  have hN := h0.2.2.2.2.2.2.2.1
  have hV := h0.2.2.2.2.2.2.2.2.1
  have hS : va_S (xA G) s.heap s.heap [] := va_S.rf
  have hl := lv_entry ([.ref (G.1 105), .int p1]) (n := 2) (Nat.le_of_ble_eq_true rfl)
  rw [lg_entry_eq]
  generalize (lg_sl ([.ref (G.1 105), .int p1]) ++ List.replicate (2 - (lg_sl ([.ref (G.1 105), .int p1])).length) Slot.unset).toArray = ls at hl ⊢
  have hl : lv_has ls 2 [(0, .ref (G.1 105)), (1, .int p1)] := hl
  unfold fX11_back at h
  refine lv_iload_n hx hb dX11_back_0 rfl (lv_at hl 1 rfl) ?_
  refine lv_if_lt (tgt := 9) hx hb dX11_back_1 (by decide) (fun hcq1 => ?_) (fun hcq1 => ?_)
  · have h := ifp hcq1 h
    refine lv_sipush (v := (-1002)) hx hb dX11_back_9 (by decide) ?_
    obtain rfl := Option.some.inj h
    exact W.iret (v := (-1002)) hx hb hr (fun t ht hW => ⟨⟨_, _, rfl, ⟨rfl, rfl⟩, xPre_at h0 hS hP ht hW⟩, hS.F ht⟩) hS.2.2 dX11_back_12
  have h := ifn hcq1 h
  refine lv_iload_n hx hb dX11_back_4 rfl (lv_at hl 1 rfl) ?_
  refine lv_iconst (v := 2) hx hb dX11_back_5 (by decide) ?_
  refine lv_icmp_lt (tgt := 13) hx hb dX11_back_6 (by decide) (fun hcq2 => ?_) (fun hcq2 => ?_)
  · have h := ifp hcq2 h
    refine lv_aload_n hx hb dX11_back_13 rfl (lv_at hl 0 rfl) ?_
    refine va_get (D := D) (ci := 11) (v := .ref (G.1 106)) (C := RX11) (T := TX11) (N := 13) hx hb hts iwX11 hown hK hP 105 (xg_7 rfl) rfl 1 (by decide) (hts _ mw_283) (fun _ h9 => h9) rfl dX11_back_14 ?_
    refine lv_iload_n hx hb dX11_back_17 rfl (lv_at hl 1 rfl) ?_
    obtain ⟨hiq3, h⟩ := nif h
    refine va_aldq hx hb hK hP 106 2 (xg_8 rfl) rfl hiq3 dX11_back_18 ?_
    refine W.eq (g2 := F0 m 19 ls [.ref (G.1 (xb 106 + p1.toNatClampNeg))]) rfl ?_
    obtain ⟨xq4, hfq5, h⟩ := obd h
    refine va_calli (va_runV (As := []) (rest := []) ⟨hx, hb, hml, hown, hts⟩ (kX9_isStored l D G ub _ (xb 106 + p1.toNatClampNeg) (xr8 rfl (vp_lt hiq3)) xq4 hfq5) (cwV 0 hts (lwW_gV mw_755 mw_756 mw_757 mw_4 mw_758) rfl rfl rfl (by decide +kernel) ⟨Nat.le_of_ble_eq_true rfl, Nat.le_of_ble_eq_true rfl⟩) ⟨fun a U g mk q => ⟨q.1, xPre_call q.2⟩, va_recv hK hP rfl (xg_5 (xr8 rfl (vp_lt hiq3))), fun U hU hW => ⟨rfl, xPre_at h0 hS hP hU hW⟩⟩ rfl rfl hl.1 rfl (lv_room (Nat.le_of_ble_eq_true rfl)) dX11_back_19 ⟨Nat.zero_le _, Nat.zero_le _⟩) hS (fun q _ h => h) (fun q h => h) (fun r u t H1 locs ht hvm hw hB hz1 hq1 hS => ?_)
    obtain ⟨rfl, rfl⟩ := hw
    have hP := hB.1
    rw [ht] at hP
    refine W.widen (k := 0) (n := 0) (Nat.le_refl _) (Nat.le_refl _) ?_
    refine lv_if_ne (tgt := 29) hx hb dX11_back_22 (by decide) (fun hcq6 => ?_) (fun hcq6 => ?_)
    · have h := ifn hcq6 h
      refine lv_aload_n hx hb dX11_back_29 rfl (lv_at hl 0 rfl) ?_
      refine va_get (D := D) (ci := 11) (v := .ref (G.1 106)) (C := RX11) (T := TX11) (N := 13) hx hb hts iwX11 hown hK hP 105 (xg_7 rfl) rfl 1 (by decide) (hts _ mw_283) (fun _ h9 => h9) rfl dX11_back_30 ?_
      refine lv_iload_n hx hb dX11_back_33 rfl (lv_at hl 1 rfl) ?_
      obtain ⟨hiq7, h⟩ := nif h
      refine va_aldq hx hb hK hP 106 2 (xg_8 rfl) rfl hiq7 dX11_back_34 ?_
      refine W.eq (g2 := F0 m 35 ls [.ref (G.1 (xb 106 + p1.toNatClampNeg))]) rfl ?_
      refine lv_aload_n hx hb dX11_back_35 rfl (lv_at hl 0 rfl) ?_
      refine va_get (D := D) (ci := 11) (v := .ref (G.1 102)) (C := RX11) (T := TX11) (N := 13) hx hb hts iwX11 hown hK hP 105 (xg_7 rfl) rfl 0 (by decide) (hts _ mw_282) (fun _ h9 => h9) rfl dX11_back_36 ?_
      obtain ⟨xq8, hfq9, h⟩ := obd h
      refine va_callv (va_runV (As := [.ref (G.1 102)]) (rest := []) ⟨hx, hb, hml, hown, hts⟩ (kX9_restore l D G ub _ (xb 106 + p1.toNatClampNeg) (xr8 rfl (vp_lt hiq7)) 102 rfl xq8 hfq9) (cwV 1 hts (lwW_gV mw_759 mw_760 mw_761 mw_4 mw_762) rfl rfl rfl (by decide +kernel) ⟨Nat.le_of_ble_eq_true rfl, Nat.le_of_ble_eq_true rfl⟩) ⟨fun a U g mk q => ⟨q.1, xPre_call q.2⟩, va_recv hK hP rfl (xg_5 (xr8 rfl (vp_lt hiq7))), fun U hU hW => ⟨rfl, xPre_at h0 hS hP hU hW⟩⟩ rfl rfl hl.1 rfl (lv_room (Nat.le_of_ble_eq_true rfl)) dX11_back_39 ⟨Nat.zero_le _, Nat.zero_le _⟩) hS (fun q _ h => h) (fun q h => h) (fun u t H1 locs ht hvm hw hB hz1 hq1 hS => ?_)
      obtain rfl := hw.symm
      have hP := hB.1
      rw [ht] at hP
      refine W.widen (k := 0) (n := 0) (Nat.le_refl _) (Nat.le_refl _) ?_
      refine lv_aload_n hx hb dX11_back_42 rfl (lv_at hl 0 rfl) ?_
      refine va_get (D := D) (ci := 11) (v := .ref (G.1 108)) (C := RX11) (T := TX11) (N := 13) hx hb hts iwX11 hown hK hP 105 (xg_7 rfl) rfl 3 (by decide) (hts _ mw_285) (fun _ h9 => h9) rfl dX11_back_43 ?_
      obtain ⟨xq10, hfq11, h⟩ := obd h
      refine va_callv (va_runV (As := []) (rest := []) ⟨hx, hb, hml, hown, hts⟩ (kX4_clear l D G ub _ xq10 hfq11) (cwV 0 hts (lwW_gV mw_484 mw_485 mw_486 mw_6 mw_487) rfl rfl rfl (by decide +kernel) ⟨Nat.le_of_ble_eq_true rfl, Nat.le_of_ble_eq_true rfl⟩) ⟨fun a U g mk q => ⟨q.1, xPre_call q.2⟩, va_recv hK hP rfl (xg_10 rfl), fun U hU hW => ⟨rfl, xPre_at h0 hS hP hU hW⟩⟩ rfl rfl hl.1 rfl (lv_room (Nat.le_of_ble_eq_true rfl)) dX11_back_46 ⟨Nat.zero_le _, Nat.zero_le _⟩) hS (fun q _ h => h) (fun q h => h) (fun u t H1 locs ht hvm hw hB hz1 hq1 hS => ?_)
      obtain rfl := hw.symm
      have hP := hB.1
      rw [ht] at hP
      refine W.widen (k := 0) (n := 0) (Nat.le_refl _) (Nat.le_refl _) ?_
      refine lv_aload_n hx hb dX11_back_49 rfl (lv_at hl 0 rfl) ?_
      obtain ⟨xq12, hfq13, h⟩ := obd h
      refine va_calli (va_runV (As := []) (rest := []) ⟨hx, hb, hml, hown, hts⟩ (kX11_filledSlots l D G ub _ xq12 hfq13) (cwV 0 hts (lwW_gV mw_747 mw_749 ms_18 mw_1 mw_750) rfl rfl rfl (by decide +kernel) ⟨Nat.le_of_ble_eq_true rfl, Nat.le_of_ble_eq_true rfl⟩) ⟨fun a U g mk q => ⟨q.1, xPre_call q.2⟩, va_recv hK hP rfl (xg_7 rfl), fun U hU hW => ⟨rfl, xPre_at h0 hS hP hU hW⟩⟩ rfl rfl hl.1 rfl (lv_room (Nat.le_of_ble_eq_true rfl)) dX11_back_50 ⟨Nat.zero_le _, Nat.zero_le _⟩) hS (fun q _ h => h) (fun q h => h) (fun r u t H1 locs ht hvm hw hB hz1 hq1 hS => ?_)
      obtain ⟨rfl, rfl⟩ := hw
      have hP := hB.1
      rw [ht] at hP
      refine W.widen (k := 0) (n := 0) (Nat.le_refl _) (Nat.le_refl _) ?_
      obtain rfl := Option.some.inj h
      exact W.iret (v := xq12.1) hx hb hr (fun t ht hW => ⟨⟨_, _, rfl, ⟨rfl, rfl⟩, xPre_at h0 hS hP ht hW⟩, hS.F ht⟩) hS.2.2 dX11_back_53
    have h := ifp hcq6 h
    refine lv_sipush (v := (-1003)) hx hb dX11_back_25 (by decide) ?_
    obtain rfl := Option.some.inj h
    exact W.iret (v := (-1003)) hx hb hr (fun t ht hW => ⟨⟨_, _, rfl, ⟨rfl, rfl⟩, xPre_at h0 hS hP ht hW⟩, hS.F ht⟩) hS.2.2 dX11_back_28
  have h := ifn hcq2 h
  refine lv_sipush (v := (-1002)) hx hb dX11_back_9 (by decide) ?_
  obtain rfl := Option.some.inj h
  exact W.iret (v := (-1002)) hx hb hr (fun t ht hW => ⟨⟨_, _, rfl, ⟨rfl, rfl⟩, xPre_at h0 hS hP ht hW⟩, hS.F ht⟩) hS.2.2 dX11_back_12
def fX11_divides (p1 : Int32) (p2 : Int32) (p3 : Int32) (σ : QMem) : Option (Int32 × QMem) :=
  (fX11_isSlot p1).bind fun xq1 => (if xq1 = 0 then (some ((-1001), σ)) else ((fX11_isSlot p2).bind fun xq4 => (if xq4 = 0 then (some ((-1001), σ)) else ((fX11_isSide p3).bind fun xq7 => (if xq7 = 0 then (some ((-1002), σ)) else (if (p1 < 0 ∨ xl 102 ≤ p1.toNatClampNeg) then none else (if (p2 < 0 ∨ xl 102 ≤ p2.toNatClampNeg) then none else ((fX1_isDivisor (xb 102 + p1.toNatClampNeg) (xb 102 + p2.toNatClampNeg) p3 σ).bind fun xq12 => (if xq12.1 = 0 then (some (0, xq12.2)) else (some (1, xq12.2)))))))))))
set_option maxHeartbeats 4000000 in
set_option maxRecDepth 100000 in
theorem kX11_divides (l : Launch) (D : va_G) (G : xG) (ub : xB) (σ : QMem) (p1 : Int32) (p2 : Int32) (p3 : Int32) (res : Int32 × QMem) (h : fX11_divides p1 p2 p3 σ = some res) : Met l yX11_divides (.code yX11_divides cX11_divides 4 (some .int) :: lwW) (rmD 3) (xPc D G ub σ [.ref (G.1 105), .int p1, .int p2, .int p3]) (xQi D G ub res) 0 0 (xA G) := by
  refine Met.ofW (cc := cX11_divides) (maxL := 4) (ret := (some .int)) (by decide) rfl ?_
  intro p e s m args below meth c s₁ B hml hv
  obtain ⟨rfl, h0⟩ := hv
  have hx := B.exec
  have hb := B.bytes
  have hr := B.returns
  have hts := fun (w : Cond) (hw : w ∈ lwW) => atoms_spec (ws := (.code yX11_divides cX11_divides 4 (some .int) :: lwW)) B.pre w (List.mem_cons_of_mem _ hw)
  have hown : s.vm.findClass RX11 = some m.cls := findClass_of_methodNamed B.named
  have hlocks := B.notSynchronized
  have hP := h0.1
  have hK := h0.2.1
  have hi := h0.2.2.1
  have hZ := h0.2.2.2
  have hN := h0.2.2.2.2.2.2.2.1
  have hV := h0.2.2.2.2.2.2.2.2.1
  have hS : va_S (xA G) s.heap s.heap [] := va_S.rf
  have hl := lv_entry ([.ref (G.1 105), .int p1, .int p2, .int p3]) (n := 4) (Nat.le_of_ble_eq_true rfl)
  rw [lg_entry_eq]
  generalize (lg_sl ([.ref (G.1 105), .int p1, .int p2, .int p3]) ++ List.replicate (4 - (lg_sl ([.ref (G.1 105), .int p1, .int p2, .int p3])).length) Slot.unset).toArray = ls at hl ⊢
  have hl : lv_has ls 4 [(0, .ref (G.1 105)), (1, .int p1), (2, .int p2), (3, .int p3)] := hl
  unfold fX11_divides at h
  refine lv_iload_n hx hb dX11_divides_0 rfl (lv_at hl 1 rfl) ?_
  obtain ⟨xq1, hfq2, h⟩ := obd h
  refine va_calli (va_runS (As := [.int p1]) (rest := []) ⟨hx, hb, hml, hown, hts⟩ (kX11_isSlot l p1 xq1 hfq2) (va_cwS 1 hts (lwW_gS mw_463 mw_464 mw_1 mw_465) rfl rfl rfl (by decide +kernel) ⟨Nat.le_of_ble_eq_true rfl, Nat.le_of_ble_eq_true rfl⟩) ⟨fun a U g mk q => ⟨q.1, trivial⟩, fun U hU hW => ⟨rfl, trivial⟩⟩ rfl rfl hl.1 rfl (lv_room (Nat.le_of_ble_eq_true rfl)) dX11_divides_1 ⟨Nat.zero_le _, Nat.zero_le _⟩) hS (fun q _ h => h.elim) (fun q h => h.elim) (fun r u t H1 locs ht hvm hw hB hz1 hq1 hS => ?_)
  obtain rfl := hw.symm
  have hP := xP_kept hP hq1
  refine W.widen (k := 0) (n := 0) (Nat.le_refl _) (Nat.le_refl _) ?_
  refine lv_if_eq (tgt := 14) hx hb dX11_divides_4 (by decide) (fun hcq3 => ?_) (fun hcq3 => ?_)
  · have h := ifp hcq3 h
    refine lv_sipush (v := (-1001)) hx hb dX11_divides_14 (by decide) ?_
    obtain rfl := Option.some.inj h
    exact W.iret (v := (-1001)) hx hb hr (fun t ht hW => ⟨⟨_, _, rfl, ⟨rfl, rfl⟩, xPre_at h0 hS hP ht hW⟩, hS.F ht⟩) hS.2.2 dX11_divides_17
  have h := ifn hcq3 h
  refine lv_iload_n hx hb dX11_divides_7 rfl (lv_at hl 2 rfl) ?_
  obtain ⟨xq4, hfq5, h⟩ := obd h
  refine va_calli (va_runS (As := [.int p2]) (rest := []) ⟨hx, hb, hml, hown, hts⟩ (kX11_isSlot l p2 xq4 hfq5) (va_cwS 1 hts (lwW_gS mw_463 mw_464 mw_1 mw_465) rfl rfl rfl (by decide +kernel) ⟨Nat.le_of_ble_eq_true rfl, Nat.le_of_ble_eq_true rfl⟩) ⟨fun a U g mk q => ⟨q.1, trivial⟩, fun U hU hW => ⟨rfl, trivial⟩⟩ rfl rfl hl.1 rfl (lv_room (Nat.le_of_ble_eq_true rfl)) dX11_divides_8 ⟨Nat.zero_le _, Nat.zero_le _⟩) hS (fun q _ h => h.elim) (fun q h => h.elim) (fun r u t H1 locs ht hvm hw hB hz1 hq1 hS => ?_)
  obtain rfl := hw.symm
  have hP := xP_kept hP hq1
  refine W.widen (k := 0) (n := 0) (Nat.le_refl _) (Nat.le_refl _) ?_
  refine lv_if_ne (tgt := 18) hx hb dX11_divides_11 (by decide) (fun hcq6 => ?_) (fun hcq6 => ?_)
  · have h := ifn hcq6 h
    refine lv_iload_n hx hb dX11_divides_18 rfl (lv_at hl 3 rfl) ?_
    obtain ⟨xq7, hfq8, h⟩ := obd h
    refine va_calli (va_runS (As := [.int p3]) (rest := []) ⟨hx, hb, hml, hown, hts⟩ (kX11_isSide l p3 xq7 hfq8) (va_cwS 1 hts (lwW_gS mw_690 mw_691 mw_1 mw_692) rfl rfl rfl (by decide +kernel) ⟨Nat.le_of_ble_eq_true rfl, Nat.le_of_ble_eq_true rfl⟩) ⟨fun a U g mk q => ⟨q.1, trivial⟩, fun U hU hW => ⟨rfl, trivial⟩⟩ rfl rfl hl.1 rfl (lv_room (Nat.le_of_ble_eq_true rfl)) dX11_divides_19 ⟨Nat.zero_le _, Nat.zero_le _⟩) hS (fun q _ h => h.elim) (fun q h => h.elim) (fun r u t H1 locs ht hvm hw hB hz1 hq1 hS => ?_)
    obtain rfl := hw.symm
    have hP := xP_kept hP hq1
    refine W.widen (k := 0) (n := 0) (Nat.le_refl _) (Nat.le_refl _) ?_
    refine lv_if_ne (tgt := 29) hx hb dX11_divides_22 (by decide) (fun hcq9 => ?_) (fun hcq9 => ?_)
    · have h := ifn hcq9 h
      refine lv_aload_n hx hb dX11_divides_29 rfl (lv_at hl 0 rfl) ?_
      refine va_get (D := D) (ci := 11) (v := .ref (G.1 110)) (C := RX11) (T := TX11) (N := 13) hx hb hts iwX11 hown hK hP 105 (xg_7 rfl) rfl 5 (by decide) (hts _ mw_287) (fun _ h9 => h9) rfl dX11_divides_30 ?_
      refine lv_aload_n hx hb dX11_divides_33 rfl (lv_at hl 0 rfl) ?_
      refine va_get (D := D) (ci := 11) (v := .ref (G.1 102)) (C := RX11) (T := TX11) (N := 13) hx hb hts iwX11 hown hK hP 105 (xg_7 rfl) rfl 0 (by decide) (hts _ mw_282) (fun _ h9 => h9) rfl dX11_divides_34 ?_
      refine lv_iload_n hx hb dX11_divides_37 rfl (lv_at hl 1 rfl) ?_
      obtain ⟨hiq10, h⟩ := nif h
      refine va_aldq hx hb hK hP 102 1 (xg_6 rfl) rfl hiq10 dX11_divides_38 ?_
      refine W.eq (g2 := F0 m 39 ls [.ref (G.1 (xb 102 + p1.toNatClampNeg)), .ref (G.1 110)]) rfl ?_
      refine lv_aload_n hx hb dX11_divides_39 rfl (lv_at hl 0 rfl) ?_
      refine va_get (D := D) (ci := 11) (v := .ref (G.1 102)) (C := RX11) (T := TX11) (N := 13) hx hb hts iwX11 hown hK hP 105 (xg_7 rfl) rfl 0 (by decide) (hts _ mw_282) (fun _ h9 => h9) rfl dX11_divides_40 ?_
      refine lv_iload_n hx hb dX11_divides_43 rfl (lv_at hl 2 rfl) ?_
      obtain ⟨hiq11, h⟩ := nif h
      refine va_aldq hx hb hK hP 102 1 (xg_6 rfl) rfl hiq11 dX11_divides_44 ?_
      refine W.eq (g2 := F0 m 45 ls [.ref (G.1 (xb 102 + p2.toNatClampNeg)), .ref (G.1 (xb 102 + p1.toNatClampNeg)), .ref (G.1 110)]) rfl ?_
      refine lv_iload_n hx hb dX11_divides_45 rfl (lv_at hl 3 rfl) ?_
      obtain ⟨xq12, hfq13, h⟩ := obd h
      refine va_calli (va_runV (As := [.ref (G.1 (xb 102 + p1.toNatClampNeg)), .ref (G.1 (xb 102 + p2.toNatClampNeg)), .int p3]) (rest := []) ⟨hx, hb, hml, hown, hts⟩ (kX1_isDivisor l D G ub _ (xb 102 + p1.toNatClampNeg) (xr6 rfl (vp_lt hiq10)) (xb 102 + p2.toNatClampNeg) (xr6 rfl (vp_lt hiq11)) p3 xq12 hfq13) (cwV 3 hts (lwW_gV mw_767 mw_613 mw_614 mw_8 mw_615) rfl rfl rfl (by decide +kernel) ⟨Nat.le_of_ble_eq_true rfl, Nat.le_of_ble_eq_true rfl⟩) ⟨fun a U g mk q => ⟨q.1, xPre_call q.2⟩, va_recv hK hP rfl (xg_12 rfl), fun U hU hW => ⟨rfl, xPre_at h0 hS hP hU hW⟩⟩ rfl rfl hl.1 rfl (lv_room (Nat.le_of_ble_eq_true rfl)) dX11_divides_46 ⟨Nat.zero_le _, Nat.zero_le _⟩) hS (fun q _ h => h) (fun q h => h) (fun r u t H1 locs ht hvm hw hB hz1 hq1 hS => ?_)
      obtain ⟨rfl, rfl⟩ := hw
      have hP := hB.1
      rw [ht] at hP
      refine W.widen (k := 0) (n := 0) (Nat.le_refl _) (Nat.le_refl _) ?_
      refine lv_if_eq (tgt := 56) hx hb dX11_divides_49 (by decide) (fun hcq14 => ?_) (fun hcq14 => ?_)
      · have h := ifp hcq14 h
        refine lv_iconst (v := 0) hx hb dX11_divides_56 (by decide) ?_
        obtain rfl := Option.some.inj h
        exact W.iret (v := 0) hx hb hr (fun t ht hW => ⟨⟨_, _, rfl, ⟨rfl, rfl⟩, xPre_at h0 hS hP ht hW⟩, hS.F ht⟩) hS.2.2 dX11_divides_57
      have h := ifn hcq14 h
      refine lv_iconst (v := 1) hx hb dX11_divides_52 (by decide) ?_
      refine lv_goto (tgt := 57) hx hb dX11_divides_53 (by decide) ?_
      obtain rfl := Option.some.inj h
      exact W.iret (v := 1) hx hb hr (fun t ht hW => ⟨⟨_, _, rfl, ⟨rfl, rfl⟩, xPre_at h0 hS hP ht hW⟩, hS.F ht⟩) hS.2.2 dX11_divides_57
    have h := ifp hcq9 h
    refine lv_sipush (v := (-1002)) hx hb dX11_divides_25 (by decide) ?_
    obtain rfl := Option.some.inj h
    exact W.iret (v := (-1002)) hx hb hr (fun t ht hW => ⟨⟨_, _, rfl, ⟨rfl, rfl⟩, xPre_at h0 hS hP ht hW⟩, hS.F ht⟩) hS.2.2 dX11_divides_28
  have h := ifp hcq6 h
  refine lv_sipush (v := (-1001)) hx hb dX11_divides_14 (by decide) ?_
  obtain rfl := Option.some.inj h
  exact W.iret (v := (-1001)) hx hb hr (fun t ht hW => ⟨⟨_, _, rfl, ⟨rfl, rfl⟩, xPre_at h0 hS hP ht hW⟩, hS.F ht⟩) hS.2.2 dX11_divides_17
def fX11_nearest (p1 : Int32) (p2 : Int32) (p3 : Int32) (p4 : Int32) (σ : QMem) : Option (Int32 × QMem) :=
  (fX11_isSlot p1).bind fun xq1 => (if xq1 = 0 then (some ((-1001), σ)) else ((fX11_isSlot p2).bind fun xq4 => (if xq4 = 0 then (some ((-1001), σ)) else ((fX11_isSide p3).bind fun xq7 => (if xq7 = 0 then (some ((-1002), σ)) else (if p4 < 0 then (some ((-1002), σ)) else (if p4 ≤ 8 then (if (p2 < 0 ∨ xl 102 ≤ p2.toNatClampNeg) then none else ((fX6_isZero (xb 102 + p2.toNatClampNeg) σ).bind fun xq13 => (if xq13.1 = 0 then (if (p1 < 0 ∨ xl 102 ≤ p1.toNatClampNeg) then none else (if (p2 < 0 ∨ xl 102 ≤ p2.toNatClampNeg) then none else ((fX1_perform (xb 102 + p1.toNatClampNeg) (xb 102 + p2.toNatClampNeg) p3 xq13.2).bind fun xq18 => (if p4 = 8 then ((fX6_norm 37 xq18).bind fun xq26 => (some (xq26.1, xq26.2))) else (if 4 ≤ p4 then ((fX6_part 37 (p4 - 4) xq18).bind fun xq22 => (some (xq22.1, xq22.2))) else ((fX6_part 36 p4 xq18).bind fun xq24 => (some (xq24.1, xq24.2)))))))) else (some ((-1003), xq13.2))))) else (some ((-1002), σ)))))))))
set_option maxHeartbeats 4000000 in
set_option maxRecDepth 100000 in
theorem kX11_nearest (l : Launch) (D : va_G) (G : xG) (ub : xB) (σ : QMem) (p1 : Int32) (p2 : Int32) (p3 : Int32) (p4 : Int32) (res : Int32 × QMem) (h : fX11_nearest p1 p2 p3 p4 σ = some res) : Met l yX11_nearest (.code yX11_nearest cX11_nearest 5 (some .int) :: lwW) (rmD 3) (xPc D G ub σ [.ref (G.1 105), .int p1, .int p2, .int p3, .int p4]) (xQi D G ub res) 0 0 (xA G) := by
  refine Met.ofW (cc := cX11_nearest) (maxL := 5) (ret := (some .int)) (by decide) rfl ?_
  intro p e s m args below meth c s₁ B hml hv
  obtain ⟨rfl, h0⟩ := hv
  have hx := B.exec
  have hb := B.bytes
  have hr := B.returns
  have hts := fun (w : Cond) (hw : w ∈ lwW) => atoms_spec (ws := (.code yX11_nearest cX11_nearest 5 (some .int) :: lwW)) B.pre w (List.mem_cons_of_mem _ hw)
  have hown : s.vm.findClass RX11 = some m.cls := findClass_of_methodNamed B.named
  have hlocks := B.notSynchronized
  have hP := h0.1
  have hK := h0.2.1
  have hi := h0.2.2.1
  have hZ := h0.2.2.2
  have hN := h0.2.2.2.2.2.2.2.1
  have hV := h0.2.2.2.2.2.2.2.2.1
  have hS : va_S (xA G) s.heap s.heap [] := va_S.rf
  have hl := lv_entry ([.ref (G.1 105), .int p1, .int p2, .int p3, .int p4]) (n := 5) (Nat.le_of_ble_eq_true rfl)
  rw [lg_entry_eq]
  generalize (lg_sl ([.ref (G.1 105), .int p1, .int p2, .int p3, .int p4]) ++ List.replicate (5 - (lg_sl ([.ref (G.1 105), .int p1, .int p2, .int p3, .int p4])).length) Slot.unset).toArray = ls at hl ⊢
  have hl : lv_has ls 5 [(0, .ref (G.1 105)), (1, .int p1), (2, .int p2), (3, .int p3), (4, .int p4)] := hl
  unfold fX11_nearest at h
  refine lv_iload_n hx hb dX11_nearest_0 rfl (lv_at hl 1 rfl) ?_
  obtain ⟨xq1, hfq2, h⟩ := obd h
  refine va_calli (va_runS (As := [.int p1]) (rest := []) ⟨hx, hb, hml, hown, hts⟩ (kX11_isSlot l p1 xq1 hfq2) (va_cwS 1 hts (lwW_gS mw_463 mw_464 mw_1 mw_465) rfl rfl rfl (by decide +kernel) ⟨Nat.le_of_ble_eq_true rfl, Nat.le_of_ble_eq_true rfl⟩) ⟨fun a U g mk q => ⟨q.1, trivial⟩, fun U hU hW => ⟨rfl, trivial⟩⟩ rfl rfl hl.1 rfl (lv_room (Nat.le_of_ble_eq_true rfl)) dX11_nearest_1 ⟨Nat.zero_le _, Nat.zero_le _⟩) hS (fun q _ h => h.elim) (fun q h => h.elim) (fun r u t H1 locs ht hvm hw hB hz1 hq1 hS => ?_)
  obtain rfl := hw.symm
  have hP := xP_kept hP hq1
  refine W.widen (k := 0) (n := 0) (Nat.le_refl _) (Nat.le_refl _) ?_
  refine lv_if_eq (tgt := 14) hx hb dX11_nearest_4 (by decide) (fun hcq3 => ?_) (fun hcq3 => ?_)
  · have h := ifp hcq3 h
    refine lv_sipush (v := (-1001)) hx hb dX11_nearest_14 (by decide) ?_
    obtain rfl := Option.some.inj h
    exact W.iret (v := (-1001)) hx hb hr (fun t ht hW => ⟨⟨_, _, rfl, ⟨rfl, rfl⟩, xPre_at h0 hS hP ht hW⟩, hS.F ht⟩) hS.2.2 dX11_nearest_17
  have h := ifn hcq3 h
  refine lv_iload_n hx hb dX11_nearest_7 rfl (lv_at hl 2 rfl) ?_
  obtain ⟨xq4, hfq5, h⟩ := obd h
  refine va_calli (va_runS (As := [.int p2]) (rest := []) ⟨hx, hb, hml, hown, hts⟩ (kX11_isSlot l p2 xq4 hfq5) (va_cwS 1 hts (lwW_gS mw_463 mw_464 mw_1 mw_465) rfl rfl rfl (by decide +kernel) ⟨Nat.le_of_ble_eq_true rfl, Nat.le_of_ble_eq_true rfl⟩) ⟨fun a U g mk q => ⟨q.1, trivial⟩, fun U hU hW => ⟨rfl, trivial⟩⟩ rfl rfl hl.1 rfl (lv_room (Nat.le_of_ble_eq_true rfl)) dX11_nearest_8 ⟨Nat.zero_le _, Nat.zero_le _⟩) hS (fun q _ h => h.elim) (fun q h => h.elim) (fun r u t H1 locs ht hvm hw hB hz1 hq1 hS => ?_)
  obtain rfl := hw.symm
  have hP := xP_kept hP hq1
  refine W.widen (k := 0) (n := 0) (Nat.le_refl _) (Nat.le_refl _) ?_
  refine lv_if_ne (tgt := 18) hx hb dX11_nearest_11 (by decide) (fun hcq6 => ?_) (fun hcq6 => ?_)
  · have h := ifn hcq6 h
    refine lv_iload_n hx hb dX11_nearest_18 rfl (lv_at hl 3 rfl) ?_
    obtain ⟨xq7, hfq8, h⟩ := obd h
    refine va_calli (va_runS (As := [.int p3]) (rest := []) ⟨hx, hb, hml, hown, hts⟩ (kX11_isSide l p3 xq7 hfq8) (va_cwS 1 hts (lwW_gS mw_690 mw_691 mw_1 mw_692) rfl rfl rfl (by decide +kernel) ⟨Nat.le_of_ble_eq_true rfl, Nat.le_of_ble_eq_true rfl⟩) ⟨fun a U g mk q => ⟨q.1, trivial⟩, fun U hU hW => ⟨rfl, trivial⟩⟩ rfl rfl hl.1 rfl (lv_room (Nat.le_of_ble_eq_true rfl)) dX11_nearest_19 ⟨Nat.zero_le _, Nat.zero_le _⟩) hS (fun q _ h => h.elim) (fun q h => h.elim) (fun r u t H1 locs ht hvm hw hB hz1 hq1 hS => ?_)
    obtain rfl := hw.symm
    have hP := xP_kept hP hq1
    refine W.widen (k := 0) (n := 0) (Nat.le_refl _) (Nat.le_refl _) ?_
    refine lv_if_eq (tgt := 37) hx hb dX11_nearest_22 (by decide) (fun hcq9 => ?_) (fun hcq9 => ?_)
    · have h := ifp hcq9 h
      refine lv_sipush (v := (-1002)) hx hb dX11_nearest_37 (by decide) ?_
      obtain rfl := Option.some.inj h
      exact W.iret (v := (-1002)) hx hb hr (fun t ht hW => ⟨⟨_, _, rfl, ⟨rfl, rfl⟩, xPre_at h0 hS hP ht hW⟩, hS.F ht⟩) hS.2.2 dX11_nearest_40
    have h := ifn hcq9 h
    refine lv_iload hx hb dX11_nearest_25 (lv_at hl 4 rfl) ?_
    refine lv_if_lt (tgt := 37) hx hb dX11_nearest_27 (by decide) (fun hcq10 => ?_) (fun hcq10 => ?_)
    · have h := ifp hcq10 h
      refine lv_sipush (v := (-1002)) hx hb dX11_nearest_37 (by decide) ?_
      obtain rfl := Option.some.inj h
      exact W.iret (v := (-1002)) hx hb hr (fun t ht hW => ⟨⟨_, _, rfl, ⟨rfl, rfl⟩, xPre_at h0 hS hP ht hW⟩, hS.F ht⟩) hS.2.2 dX11_nearest_40
    have h := ifn hcq10 h
    refine lv_iload hx hb dX11_nearest_30 (lv_at hl 4 rfl) ?_
    refine lv_bipush (v := 8) hx hb dX11_nearest_32 (by decide) ?_
    refine lv_icmp_le (tgt := 41) hx hb dX11_nearest_34 (by decide) (fun hcq11 => ?_) (fun hcq11 => ?_)
    · have h := ifp hcq11 h
      refine lv_aload_n hx hb dX11_nearest_41 rfl (lv_at hl 0 rfl) ?_
      refine va_get (D := D) (ci := 11) (v := .ref (G.1 102)) (C := RX11) (T := TX11) (N := 13) hx hb hts iwX11 hown hK hP 105 (xg_7 rfl) rfl 0 (by decide) (hts _ mw_282) (fun _ h9 => h9) rfl dX11_nearest_42 ?_
      refine lv_iload_n hx hb dX11_nearest_45 rfl (lv_at hl 2 rfl) ?_
      obtain ⟨hiq12, h⟩ := nif h
      refine va_aldq hx hb hK hP 102 1 (xg_6 rfl) rfl hiq12 dX11_nearest_46 ?_
      refine W.eq (g2 := F0 m 47 ls [.ref (G.1 (xb 102 + p2.toNatClampNeg))]) rfl ?_
      obtain ⟨xq13, hfq14, h⟩ := obd h
      refine va_calli (va_runV (As := []) (rest := []) ⟨hx, hb, hml, hown, hts⟩ (kX6_isZero l D G ub _ (xb 102 + p2.toNatClampNeg) (xr6 rfl (vp_lt hiq12)) xq13 hfq14) (cwV 0 hts (lwW_gV mw_511 mw_512 mw_513 mw_3 mw_514) rfl rfl rfl (by decide +kernel) ⟨Nat.le_of_ble_eq_true rfl, Nat.le_of_ble_eq_true rfl⟩) ⟨fun a U g mk q => ⟨q.1, xPre_call q.2⟩, va_recv hK hP rfl (xg_0 (xr6 rfl (vp_lt hiq12))), fun U hU hW => ⟨rfl, xPre_at h0 hS hP hU hW⟩⟩ rfl rfl hl.1 rfl (lv_room (Nat.le_of_ble_eq_true rfl)) dX11_nearest_47 ⟨Nat.zero_le _, Nat.zero_le _⟩) hS (fun q _ h => h) (fun q h => h) (fun r u t H1 locs ht hvm hw hB hz1 hq1 hS => ?_)
      obtain ⟨rfl, rfl⟩ := hw
      have hP := hB.1
      rw [ht] at hP
      refine W.widen (k := 0) (n := 0) (Nat.le_refl _) (Nat.le_refl _) ?_
      refine lv_if_eq (tgt := 57) hx hb dX11_nearest_50 (by decide) (fun hcq15 => ?_) (fun hcq15 => ?_)
      · have h := ifp hcq15 h
        refine lv_aload_n hx hb dX11_nearest_57 rfl (lv_at hl 0 rfl) ?_
        refine va_get (D := D) (ci := 11) (v := .ref (G.1 110)) (C := RX11) (T := TX11) (N := 13) hx hb hts iwX11 hown hK hP 105 (xg_7 rfl) rfl 5 (by decide) (hts _ mw_287) (fun _ h9 => h9) rfl dX11_nearest_58 ?_
        refine lv_aload_n hx hb dX11_nearest_61 rfl (lv_at hl 0 rfl) ?_
        refine va_get (D := D) (ci := 11) (v := .ref (G.1 102)) (C := RX11) (T := TX11) (N := 13) hx hb hts iwX11 hown hK hP 105 (xg_7 rfl) rfl 0 (by decide) (hts _ mw_282) (fun _ h9 => h9) rfl dX11_nearest_62 ?_
        refine lv_iload_n hx hb dX11_nearest_65 rfl (lv_at hl 1 rfl) ?_
        obtain ⟨hiq16, h⟩ := nif h
        refine va_aldq hx hb hK hP 102 1 (xg_6 rfl) rfl hiq16 dX11_nearest_66 ?_
        refine W.eq (g2 := F0 m 67 ls [.ref (G.1 (xb 102 + p1.toNatClampNeg)), .ref (G.1 110)]) rfl ?_
        refine lv_aload_n hx hb dX11_nearest_67 rfl (lv_at hl 0 rfl) ?_
        refine va_get (D := D) (ci := 11) (v := .ref (G.1 102)) (C := RX11) (T := TX11) (N := 13) hx hb hts iwX11 hown hK hP 105 (xg_7 rfl) rfl 0 (by decide) (hts _ mw_282) (fun _ h9 => h9) rfl dX11_nearest_68 ?_
        refine lv_iload_n hx hb dX11_nearest_71 rfl (lv_at hl 2 rfl) ?_
        obtain ⟨hiq17, h⟩ := nif h
        refine va_aldq hx hb hK hP 102 1 (xg_6 rfl) rfl hiq17 dX11_nearest_72 ?_
        refine W.eq (g2 := F0 m 73 ls [.ref (G.1 (xb 102 + p2.toNatClampNeg)), .ref (G.1 (xb 102 + p1.toNatClampNeg)), .ref (G.1 110)]) rfl ?_
        refine lv_iload_n hx hb dX11_nearest_73 rfl (lv_at hl 3 rfl) ?_
        obtain ⟨xq18, hfq19, h⟩ := obd h
        refine va_callv (va_runV (As := [.ref (G.1 (xb 102 + p1.toNatClampNeg)), .ref (G.1 (xb 102 + p2.toNatClampNeg)), .int p3]) (rest := []) ⟨hx, hb, hml, hown, hts⟩ (kX1_perform l D G ub _ (xb 102 + p1.toNatClampNeg) (xr6 rfl (vp_lt hiq16)) (xb 102 + p2.toNatClampNeg) (xr6 rfl (vp_lt hiq17)) p3 xq18 hfq19) (cwV 3 hts (lwW_gV mw_716 mw_628 mw_629 mw_8 mw_630) rfl rfl rfl (by decide +kernel) ⟨Nat.le_of_ble_eq_true rfl, Nat.le_of_ble_eq_true rfl⟩) ⟨fun a U g mk q => ⟨q.1, xPre_call q.2⟩, va_recv hK hP rfl (xg_12 rfl), fun U hU hW => ⟨rfl, xPre_at h0 hS hP hU hW⟩⟩ rfl rfl hl.1 rfl (lv_room (Nat.le_of_ble_eq_true rfl)) dX11_nearest_74 ⟨Nat.zero_le _, Nat.zero_le _⟩) hS (fun q _ h => h) (fun q h => h) (fun u t H1 locs ht hvm hw hB hz1 hq1 hS => ?_)
        obtain rfl := hw.symm
        have hP := hB.1
        rw [ht] at hP
        refine W.widen (k := 0) (n := 0) (Nat.le_refl _) (Nat.le_refl _) ?_
        refine lv_iload hx hb dX11_nearest_77 (lv_at hl 4 rfl) ?_
        refine lv_bipush (v := 8) hx hb dX11_nearest_79 (by decide) ?_
        refine lv_icmp_ne (tgt := 95) hx hb dX11_nearest_81 (by decide) (fun hcq20 => ?_) (fun hcq20 => ?_)
        · have h := ifn hcq20 h
          refine lv_iload hx hb dX11_nearest_95 (lv_at hl 4 rfl) ?_
          refine lv_iconst (v := 4) hx hb dX11_nearest_97 (by decide) ?_
          refine lv_icmp_ge (tgt := 116) hx hb dX11_nearest_98 (by decide) (fun hcq21 => ?_) (fun hcq21 => ?_)
          · have h := ifp hcq21 h
            refine lv_aload_n hx hb dX11_nearest_116 rfl (lv_at hl 0 rfl) ?_
            refine va_get (D := D) (ci := 11) (v := .ref (G.1 110)) (C := RX11) (T := TX11) (N := 13) hx hb hts iwX11 hown hK hP 105 (xg_7 rfl) rfl 5 (by decide) (hts _ mw_287) (fun _ h9 => h9) rfl dX11_nearest_117 ?_
            refine va_getN (D := D) (ci := 1) (v := .ref (G.1 37)) (C := RX1) (T := TX1) (N := 8) hx hb hts iwX1 hown hK hP 110 (xg_12 rfl) rfl 1 (by decide) (va_Nw.use rfl (hN.F 10 rfl)) (fun _ h9 => h9) rfl dX11_nearest_120 ?_
            refine lv_iload hx hb dX11_nearest_123 (lv_at hl 4 rfl) ?_
            refine lv_iconst (v := 4) hx hb dX11_nearest_125 (by decide) ?_
            refine lv_isub hx hb dX11_nearest_126 ?_
            obtain ⟨xq22, hfq23, h⟩ := obd h
            refine va_calli (va_runV (As := [.int (p4 - 4)]) (rest := []) ⟨hx, hb, hml, hown, hts⟩ (kX6_part l D G ub _ 37 rfl (p4 - 4) xq22 hfq23) (cwV 1 hts (lwW_gV mw_503 mw_504 mw_505 mw_3 mw_506) rfl rfl rfl (by decide +kernel) ⟨Nat.le_of_ble_eq_true rfl, Nat.le_of_ble_eq_true rfl⟩) ⟨fun a U g mk q => ⟨q.1, xPre_call q.2⟩, va_recv hK hP rfl (xg_0 rfl), fun U hU hW => ⟨rfl, xPre_at h0 hS hP hU hW⟩⟩ rfl rfl hl.1 rfl (lv_room (Nat.le_of_ble_eq_true rfl)) dX11_nearest_127 ⟨Nat.zero_le _, Nat.zero_le _⟩) hS (fun q _ h => h) (fun q h => h) (fun r u t H1 locs ht hvm hw hB hz1 hq1 hS => ?_)
            obtain ⟨rfl, rfl⟩ := hw
            have hP := hB.1
            rw [ht] at hP
            refine W.widen (k := 0) (n := 0) (Nat.le_refl _) (Nat.le_refl _) ?_
            obtain rfl := Option.some.inj h
            exact W.iret (v := xq22.1) hx hb hr (fun t ht hW => ⟨⟨_, _, rfl, ⟨rfl, rfl⟩, xPre_at h0 hS hP ht hW⟩, hS.F ht⟩) hS.2.2 dX11_nearest_130
          have h := ifn hcq21 h
          refine lv_aload_n hx hb dX11_nearest_101 rfl (lv_at hl 0 rfl) ?_
          refine va_get (D := D) (ci := 11) (v := .ref (G.1 110)) (C := RX11) (T := TX11) (N := 13) hx hb hts iwX11 hown hK hP 105 (xg_7 rfl) rfl 5 (by decide) (hts _ mw_287) (fun _ h9 => h9) rfl dX11_nearest_102 ?_
          refine va_getN (D := D) (ci := 1) (v := .ref (G.1 36)) (C := RX1) (T := TX1) (N := 8) hx hb hts iwX1 hown hK hP 110 (xg_12 rfl) rfl 0 (by decide) (va_Nw.use rfl (hN.F 9 rfl)) (fun _ h9 => h9) rfl dX11_nearest_105 ?_
          refine lv_iload hx hb dX11_nearest_108 (lv_at hl 4 rfl) ?_
          obtain ⟨xq24, hfq25, h⟩ := obd h
          refine va_calli (va_runV (As := [.int p4]) (rest := []) ⟨hx, hb, hml, hown, hts⟩ (kX6_part l D G ub _ 36 rfl p4 xq24 hfq25) (cwV 1 hts (lwW_gV mw_503 mw_504 mw_505 mw_3 mw_506) rfl rfl rfl (by decide +kernel) ⟨Nat.le_of_ble_eq_true rfl, Nat.le_of_ble_eq_true rfl⟩) ⟨fun a U g mk q => ⟨q.1, xPre_call q.2⟩, va_recv hK hP rfl (xg_0 rfl), fun U hU hW => ⟨rfl, xPre_at h0 hS hP hU hW⟩⟩ rfl rfl hl.1 rfl (lv_room (Nat.le_of_ble_eq_true rfl)) dX11_nearest_110 ⟨Nat.zero_le _, Nat.zero_le _⟩) hS (fun q _ h => h) (fun q h => h) (fun r u t H1 locs ht hvm hw hB hz1 hq1 hS => ?_)
          obtain ⟨rfl, rfl⟩ := hw
          have hP := hB.1
          rw [ht] at hP
          refine W.widen (k := 0) (n := 0) (Nat.le_refl _) (Nat.le_refl _) ?_
          refine lv_goto (tgt := 130) hx hb dX11_nearest_113 (by decide) ?_
          obtain rfl := Option.some.inj h
          exact W.iret (v := xq24.1) hx hb hr (fun t ht hW => ⟨⟨_, _, rfl, ⟨rfl, rfl⟩, xPre_at h0 hS hP ht hW⟩, hS.F ht⟩) hS.2.2 dX11_nearest_130
        have h := ifp hcq20 h
        refine lv_aload_n hx hb dX11_nearest_84 rfl (lv_at hl 0 rfl) ?_
        refine va_get (D := D) (ci := 11) (v := .ref (G.1 110)) (C := RX11) (T := TX11) (N := 13) hx hb hts iwX11 hown hK hP 105 (xg_7 rfl) rfl 5 (by decide) (hts _ mw_287) (fun _ h9 => h9) rfl dX11_nearest_85 ?_
        refine va_getN (D := D) (ci := 1) (v := .ref (G.1 37)) (C := RX1) (T := TX1) (N := 8) hx hb hts iwX1 hown hK hP 110 (xg_12 rfl) rfl 1 (by decide) (va_Nw.use rfl (hN.F 10 rfl)) (fun _ h9 => h9) rfl dX11_nearest_88 ?_
        obtain ⟨xq26, hfq27, h⟩ := obd h
        refine va_calli (va_runV (As := []) (rest := []) ⟨hx, hb, hml, hown, hts⟩ (kX6_norm l D G ub _ 37 rfl xq26 hfq27) (cwV 0 hts (lwW_gV mw_515 mw_516 mw_517 mw_3 mw_518) rfl rfl rfl (by decide +kernel) ⟨Nat.le_of_ble_eq_true rfl, Nat.le_of_ble_eq_true rfl⟩) ⟨fun a U g mk q => ⟨q.1, xPre_call q.2⟩, va_recv hK hP rfl (xg_0 rfl), fun U hU hW => ⟨rfl, xPre_at h0 hS hP hU hW⟩⟩ rfl rfl hl.1 rfl (lv_room (Nat.le_of_ble_eq_true rfl)) dX11_nearest_91 ⟨Nat.zero_le _, Nat.zero_le _⟩) hS (fun q _ h => h) (fun q h => h) (fun r u t H1 locs ht hvm hw hB hz1 hq1 hS => ?_)
        obtain ⟨rfl, rfl⟩ := hw
        have hP := hB.1
        rw [ht] at hP
        refine W.widen (k := 0) (n := 0) (Nat.le_refl _) (Nat.le_refl _) ?_
        obtain rfl := Option.some.inj h
        exact W.iret (v := xq26.1) hx hb hr (fun t ht hW => ⟨⟨_, _, rfl, ⟨rfl, rfl⟩, xPre_at h0 hS hP ht hW⟩, hS.F ht⟩) hS.2.2 dX11_nearest_94
      have h := ifn hcq15 h
      refine lv_sipush (v := (-1003)) hx hb dX11_nearest_53 (by decide) ?_
      obtain rfl := Option.some.inj h
      exact W.iret (v := (-1003)) hx hb hr (fun t ht hW => ⟨⟨_, _, rfl, ⟨rfl, rfl⟩, xPre_at h0 hS hP ht hW⟩, hS.F ht⟩) hS.2.2 dX11_nearest_56
    have h := ifn hcq11 h
    refine lv_sipush (v := (-1002)) hx hb dX11_nearest_37 (by decide) ?_
    obtain rfl := Option.some.inj h
    exact W.iret (v := (-1002)) hx hb hr (fun t ht hW => ⟨⟨_, _, rfl, ⟨rfl, rfl⟩, xPre_at h0 hS hP ht hW⟩, hS.F ht⟩) hS.2.2 dX11_nearest_40
  have h := ifp hcq6 h
  refine lv_sipush (v := (-1001)) hx hb dX11_nearest_14 (by decide) ?_
  obtain rfl := Option.some.inj h
  exact W.iret (v := (-1001)) hx hb hr (fun t ht hW => ⟨⟨_, _, rfl, ⟨rfl, rfl⟩, xPre_at h0 hS hP ht hW⟩, hS.F ht⟩) hS.2.2 dX11_nearest_17
def fX11_steps (p1 : Int32) (p2 : Int32) (p3 : Int32) (σ : QMem) : Option (Int32 × QMem) :=
  (fX11_isSlot p1).bind fun xq1 => (if xq1 = 0 then (some ((-1001), σ)) else ((fX11_isSlot p2).bind fun xq4 => (if xq4 = 0 then (some ((-1001), σ)) else ((fX11_isSide p3).bind fun xq7 => (if xq7 = 0 then (some ((-1002), σ)) else (if (p1 < 0 ∨ xl 102 ≤ p1.toNatClampNeg) then none else (if (p2 < 0 ∨ xl 102 ≤ p2.toNatClampNeg) then none else ((fX1_descend (xb 102 + p1.toNatClampNeg) (xb 102 + p2.toNatClampNeg) p3 σ).bind fun xq12 => (some (xq12.1, xq12.2))))))))))
set_option maxHeartbeats 4000000 in
set_option maxRecDepth 100000 in
theorem kX11_steps (l : Launch) (D : va_G) (G : xG) (ub : xB) (σ : QMem) (p1 : Int32) (p2 : Int32) (p3 : Int32) (res : Int32 × QMem) (h : fX11_steps p1 p2 p3 σ = some res) : Met l yX11_steps (.code yX11_steps cX11_steps 4 (some .int) :: lwW) (rmD 4) (xPc D G ub σ [.ref (G.1 105), .int p1, .int p2, .int p3]) (xQi D G ub res) 0 0 (xA G) := by
  refine Met.ofW (cc := cX11_steps) (maxL := 4) (ret := (some .int)) (by decide) rfl ?_
  intro p e s m args below meth c s₁ B hml hv
  obtain ⟨rfl, h0⟩ := hv
  have hx := B.exec
  have hb := B.bytes
  have hr := B.returns
  have hts := fun (w : Cond) (hw : w ∈ lwW) => atoms_spec (ws := (.code yX11_steps cX11_steps 4 (some .int) :: lwW)) B.pre w (List.mem_cons_of_mem _ hw)
  have hown : s.vm.findClass RX11 = some m.cls := findClass_of_methodNamed B.named
  have hlocks := B.notSynchronized
  have hP := h0.1
  have hK := h0.2.1
  have hi := h0.2.2.1
  have hZ := h0.2.2.2
  have hN := h0.2.2.2.2.2.2.2.1
  have hV := h0.2.2.2.2.2.2.2.2.1
  have hS : va_S (xA G) s.heap s.heap [] := va_S.rf
  have hl := lv_entry ([.ref (G.1 105), .int p1, .int p2, .int p3]) (n := 4) (Nat.le_of_ble_eq_true rfl)
  rw [lg_entry_eq]
  generalize (lg_sl ([.ref (G.1 105), .int p1, .int p2, .int p3]) ++ List.replicate (4 - (lg_sl ([.ref (G.1 105), .int p1, .int p2, .int p3])).length) Slot.unset).toArray = ls at hl ⊢
  have hl : lv_has ls 4 [(0, .ref (G.1 105)), (1, .int p1), (2, .int p2), (3, .int p3)] := hl
  unfold fX11_steps at h
  refine lv_iload_n hx hb dX11_steps_0 rfl (lv_at hl 1 rfl) ?_
  obtain ⟨xq1, hfq2, h⟩ := obd h
  refine va_calli (va_runS (As := [.int p1]) (rest := []) ⟨hx, hb, hml, hown, hts⟩ (kX11_isSlot l p1 xq1 hfq2) (va_cwS 1 hts (lwW_gS mw_463 mw_464 mw_1 mw_465) rfl rfl rfl (by decide +kernel) ⟨Nat.le_of_ble_eq_true rfl, Nat.le_of_ble_eq_true rfl⟩) ⟨fun a U g mk q => ⟨q.1, trivial⟩, fun U hU hW => ⟨rfl, trivial⟩⟩ rfl rfl hl.1 rfl (lv_room (Nat.le_of_ble_eq_true rfl)) dX11_steps_1 ⟨Nat.zero_le _, Nat.zero_le _⟩) hS (fun q _ h => h.elim) (fun q h => h.elim) (fun r u t H1 locs ht hvm hw hB hz1 hq1 hS => ?_)
  obtain rfl := hw.symm
  have hP := xP_kept hP hq1
  refine W.widen (k := 0) (n := 0) (Nat.le_refl _) (Nat.le_refl _) ?_
  refine lv_if_eq (tgt := 14) hx hb dX11_steps_4 (by decide) (fun hcq3 => ?_) (fun hcq3 => ?_)
  · have h := ifp hcq3 h
    refine lv_sipush (v := (-1001)) hx hb dX11_steps_14 (by decide) ?_
    obtain rfl := Option.some.inj h
    exact W.iret (v := (-1001)) hx hb hr (fun t ht hW => ⟨⟨_, _, rfl, ⟨rfl, rfl⟩, xPre_at h0 hS hP ht hW⟩, hS.F ht⟩) hS.2.2 dX11_steps_17
  have h := ifn hcq3 h
  refine lv_iload_n hx hb dX11_steps_7 rfl (lv_at hl 2 rfl) ?_
  obtain ⟨xq4, hfq5, h⟩ := obd h
  refine va_calli (va_runS (As := [.int p2]) (rest := []) ⟨hx, hb, hml, hown, hts⟩ (kX11_isSlot l p2 xq4 hfq5) (va_cwS 1 hts (lwW_gS mw_463 mw_464 mw_1 mw_465) rfl rfl rfl (by decide +kernel) ⟨Nat.le_of_ble_eq_true rfl, Nat.le_of_ble_eq_true rfl⟩) ⟨fun a U g mk q => ⟨q.1, trivial⟩, fun U hU hW => ⟨rfl, trivial⟩⟩ rfl rfl hl.1 rfl (lv_room (Nat.le_of_ble_eq_true rfl)) dX11_steps_8 ⟨Nat.zero_le _, Nat.zero_le _⟩) hS (fun q _ h => h.elim) (fun q h => h.elim) (fun r u t H1 locs ht hvm hw hB hz1 hq1 hS => ?_)
  obtain rfl := hw.symm
  have hP := xP_kept hP hq1
  refine W.widen (k := 0) (n := 0) (Nat.le_refl _) (Nat.le_refl _) ?_
  refine lv_if_ne (tgt := 18) hx hb dX11_steps_11 (by decide) (fun hcq6 => ?_) (fun hcq6 => ?_)
  · have h := ifn hcq6 h
    refine lv_iload_n hx hb dX11_steps_18 rfl (lv_at hl 3 rfl) ?_
    obtain ⟨xq7, hfq8, h⟩ := obd h
    refine va_calli (va_runS (As := [.int p3]) (rest := []) ⟨hx, hb, hml, hown, hts⟩ (kX11_isSide l p3 xq7 hfq8) (va_cwS 1 hts (lwW_gS mw_690 mw_691 mw_1 mw_692) rfl rfl rfl (by decide +kernel) ⟨Nat.le_of_ble_eq_true rfl, Nat.le_of_ble_eq_true rfl⟩) ⟨fun a U g mk q => ⟨q.1, trivial⟩, fun U hU hW => ⟨rfl, trivial⟩⟩ rfl rfl hl.1 rfl (lv_room (Nat.le_of_ble_eq_true rfl)) dX11_steps_19 ⟨Nat.zero_le _, Nat.zero_le _⟩) hS (fun q _ h => h.elim) (fun q h => h.elim) (fun r u t H1 locs ht hvm hw hB hz1 hq1 hS => ?_)
    obtain rfl := hw.symm
    have hP := xP_kept hP hq1
    refine W.widen (k := 0) (n := 0) (Nat.le_refl _) (Nat.le_refl _) ?_
    refine lv_if_ne (tgt := 29) hx hb dX11_steps_22 (by decide) (fun hcq9 => ?_) (fun hcq9 => ?_)
    · have h := ifn hcq9 h
      refine lv_aload_n hx hb dX11_steps_29 rfl (lv_at hl 0 rfl) ?_
      refine va_get (D := D) (ci := 11) (v := .ref (G.1 110)) (C := RX11) (T := TX11) (N := 13) hx hb hts iwX11 hown hK hP 105 (xg_7 rfl) rfl 5 (by decide) (hts _ mw_287) (fun _ h9 => h9) rfl dX11_steps_30 ?_
      refine lv_aload_n hx hb dX11_steps_33 rfl (lv_at hl 0 rfl) ?_
      refine va_get (D := D) (ci := 11) (v := .ref (G.1 102)) (C := RX11) (T := TX11) (N := 13) hx hb hts iwX11 hown hK hP 105 (xg_7 rfl) rfl 0 (by decide) (hts _ mw_282) (fun _ h9 => h9) rfl dX11_steps_34 ?_
      refine lv_iload_n hx hb dX11_steps_37 rfl (lv_at hl 1 rfl) ?_
      obtain ⟨hiq10, h⟩ := nif h
      refine va_aldq hx hb hK hP 102 1 (xg_6 rfl) rfl hiq10 dX11_steps_38 ?_
      refine W.eq (g2 := F0 m 39 ls [.ref (G.1 (xb 102 + p1.toNatClampNeg)), .ref (G.1 110)]) rfl ?_
      refine lv_aload_n hx hb dX11_steps_39 rfl (lv_at hl 0 rfl) ?_
      refine va_get (D := D) (ci := 11) (v := .ref (G.1 102)) (C := RX11) (T := TX11) (N := 13) hx hb hts iwX11 hown hK hP 105 (xg_7 rfl) rfl 0 (by decide) (hts _ mw_282) (fun _ h9 => h9) rfl dX11_steps_40 ?_
      refine lv_iload_n hx hb dX11_steps_43 rfl (lv_at hl 2 rfl) ?_
      obtain ⟨hiq11, h⟩ := nif h
      refine va_aldq hx hb hK hP 102 1 (xg_6 rfl) rfl hiq11 dX11_steps_44 ?_
      refine W.eq (g2 := F0 m 45 ls [.ref (G.1 (xb 102 + p2.toNatClampNeg)), .ref (G.1 (xb 102 + p1.toNatClampNeg)), .ref (G.1 110)]) rfl ?_
      refine lv_iload_n hx hb dX11_steps_45 rfl (lv_at hl 3 rfl) ?_
      obtain ⟨xq12, hfq13, h⟩ := obd h
      refine va_calli (va_runV (As := [.ref (G.1 (xb 102 + p1.toNatClampNeg)), .ref (G.1 (xb 102 + p2.toNatClampNeg)), .int p3]) (rest := []) ⟨hx, hb, hml, hown, hts⟩ (kX1_descend l D G ub _ (xb 102 + p1.toNatClampNeg) (xr6 rfl (vp_lt hiq10)) (xb 102 + p2.toNatClampNeg) (xr6 rfl (vp_lt hiq11)) p3 xq12 hfq13) (cwV 3 hts (lwW_gV mw_721 mw_722 mw_723 mw_8 mw_724) rfl rfl rfl (by decide +kernel) ⟨Nat.le_of_ble_eq_true rfl, Nat.le_of_ble_eq_true rfl⟩) ⟨fun a U g mk q => ⟨q.1, xPre_call q.2⟩, va_recv hK hP rfl (xg_12 rfl), fun U hU hW => ⟨rfl, xPre_at h0 hS hP hU hW⟩⟩ rfl rfl hl.1 rfl (lv_room (Nat.le_of_ble_eq_true rfl)) dX11_steps_46 ⟨Nat.zero_le _, Nat.zero_le _⟩) hS (fun q _ h => h) (fun q h => h) (fun r u t H1 locs ht hvm hw hB hz1 hq1 hS => ?_)
      obtain ⟨rfl, rfl⟩ := hw
      have hP := hB.1
      rw [ht] at hP
      refine W.widen (k := 0) (n := 0) (Nat.le_refl _) (Nat.le_refl _) ?_
      obtain rfl := Option.some.inj h
      exact W.iret (v := xq12.1) hx hb hr (fun t ht hW => ⟨⟨_, _, rfl, ⟨rfl, rfl⟩, xPre_at h0 hS hP ht hW⟩, hS.F ht⟩) hS.2.2 dX11_steps_49
    have h := ifp hcq9 h
    refine lv_sipush (v := (-1002)) hx hb dX11_steps_25 (by decide) ?_
    obtain rfl := Option.some.inj h
    exact W.iret (v := (-1002)) hx hb hr (fun t ht hW => ⟨⟨_, _, rfl, ⟨rfl, rfl⟩, xPre_at h0 hS hP ht hW⟩, hS.F ht⟩) hS.2.2 dX11_steps_28
  have h := ifp hcq6 h
  refine lv_sipush (v := (-1001)) hx hb dX11_steps_14 (by decide) ?_
  obtain rfl := Option.some.inj h
  exact W.iret (v := (-1001)) hx hb hr (fun t ht hW => ⟨⟨_, _, rfl, ⟨rfl, rfl⟩, xPre_at h0 hS hP ht hW⟩, hS.F ht⟩) hS.2.2 dX11_steps_17
def fX11_mate (p1 : Int32) (p2 : Int32) (p3 : Int32) (p4 : Int32) (σ : QMem) : Option (Int32 × QMem) :=
  (fX11_isSlot p1).bind fun xq1 => (if xq1 = 0 then (some ((-1001), σ)) else ((fX11_isSide p2).bind fun xq4 => (if xq4 = 0 then (some ((-1002), σ)) else ((fX11_isUnit p3).bind fun xq7 => (if xq7 = 0 then (some ((-1002), σ)) else ((fX11_isPart p4).bind fun xq10 => (if xq10 = 0 then (some ((-1002), σ)) else (if (p1 < 0 ∨ xl 102 ≤ p1.toNatClampNeg) then none else ((fX2_putMate 34 (xb 102 + p1.toNatClampNeg) p2 p3 σ).bind fun xq14 => ((fX6_part 34 p4 xq14).bind fun xq16 => (some (xq16.1, xq16.2))))))))))))
set_option maxHeartbeats 4000000 in
set_option maxRecDepth 100000 in
theorem kX11_mate (l : Launch) (D : va_G) (G : xG) (ub : xB) (σ : QMem) (p1 : Int32) (p2 : Int32) (p3 : Int32) (p4 : Int32) (res : Int32 × QMem) (h : fX11_mate p1 p2 p3 p4 σ = some res) : Met l yX11_mate (.code yX11_mate cX11_mate 5 (some .int) :: lwW) (rmD 3) (xPc D G ub σ [.ref (G.1 105), .int p1, .int p2, .int p3, .int p4]) (xQi D G ub res) 0 0 (xA G) := by
  refine Met.ofW (cc := cX11_mate) (maxL := 5) (ret := (some .int)) (by decide) rfl ?_
  intro p e s m args below meth c s₁ B hml hv
  obtain ⟨rfl, h0⟩ := hv
  have hx := B.exec
  have hb := B.bytes
  have hr := B.returns
  have hts := fun (w : Cond) (hw : w ∈ lwW) => atoms_spec (ws := (.code yX11_mate cX11_mate 5 (some .int) :: lwW)) B.pre w (List.mem_cons_of_mem _ hw)
  have hown : s.vm.findClass RX11 = some m.cls := findClass_of_methodNamed B.named
  have hlocks := B.notSynchronized
  have hP := h0.1
  have hK := h0.2.1
  have hi := h0.2.2.1
  have hZ := h0.2.2.2
  have hN := h0.2.2.2.2.2.2.2.1
  have hV := h0.2.2.2.2.2.2.2.2.1
  have hS : va_S (xA G) s.heap s.heap [] := va_S.rf
  have hl := lv_entry ([.ref (G.1 105), .int p1, .int p2, .int p3, .int p4]) (n := 5) (Nat.le_of_ble_eq_true rfl)
  rw [lg_entry_eq]
  generalize (lg_sl ([.ref (G.1 105), .int p1, .int p2, .int p3, .int p4]) ++ List.replicate (5 - (lg_sl ([.ref (G.1 105), .int p1, .int p2, .int p3, .int p4])).length) Slot.unset).toArray = ls at hl ⊢
  have hl : lv_has ls 5 [(0, .ref (G.1 105)), (1, .int p1), (2, .int p2), (3, .int p3), (4, .int p4)] := hl
  unfold fX11_mate at h
  refine lv_iload_n hx hb dX11_mate_0 rfl (lv_at hl 1 rfl) ?_
  obtain ⟨xq1, hfq2, h⟩ := obd h
  refine va_calli (va_runS (As := [.int p1]) (rest := []) ⟨hx, hb, hml, hown, hts⟩ (kX11_isSlot l p1 xq1 hfq2) (va_cwS 1 hts (lwW_gS mw_463 mw_464 mw_1 mw_465) rfl rfl rfl (by decide +kernel) ⟨Nat.le_of_ble_eq_true rfl, Nat.le_of_ble_eq_true rfl⟩) ⟨fun a U g mk q => ⟨q.1, trivial⟩, fun U hU hW => ⟨rfl, trivial⟩⟩ rfl rfl hl.1 rfl (lv_room (Nat.le_of_ble_eq_true rfl)) dX11_mate_1 ⟨Nat.zero_le _, Nat.zero_le _⟩) hS (fun q _ h => h.elim) (fun q h => h.elim) (fun r u t H1 locs ht hvm hw hB hz1 hq1 hS => ?_)
  obtain rfl := hw.symm
  have hP := xP_kept hP hq1
  refine W.widen (k := 0) (n := 0) (Nat.le_refl _) (Nat.le_refl _) ?_
  refine lv_if_ne (tgt := 11) hx hb dX11_mate_4 (by decide) (fun hcq3 => ?_) (fun hcq3 => ?_)
  · have h := ifn hcq3 h
    refine lv_iload_n hx hb dX11_mate_11 rfl (lv_at hl 2 rfl) ?_
    obtain ⟨xq4, hfq5, h⟩ := obd h
    refine va_calli (va_runS (As := [.int p2]) (rest := []) ⟨hx, hb, hml, hown, hts⟩ (kX11_isSide l p2 xq4 hfq5) (va_cwS 1 hts (lwW_gS mw_690 mw_691 mw_1 mw_692) rfl rfl rfl (by decide +kernel) ⟨Nat.le_of_ble_eq_true rfl, Nat.le_of_ble_eq_true rfl⟩) ⟨fun a U g mk q => ⟨q.1, trivial⟩, fun U hU hW => ⟨rfl, trivial⟩⟩ rfl rfl hl.1 rfl (lv_room (Nat.le_of_ble_eq_true rfl)) dX11_mate_12 ⟨Nat.zero_le _, Nat.zero_le _⟩) hS (fun q _ h => h.elim) (fun q h => h.elim) (fun r u t H1 locs ht hvm hw hB hz1 hq1 hS => ?_)
    obtain rfl := hw.symm
    have hP := xP_kept hP hq1
    refine W.widen (k := 0) (n := 0) (Nat.le_refl _) (Nat.le_refl _) ?_
    refine lv_if_eq (tgt := 33) hx hb dX11_mate_15 (by decide) (fun hcq6 => ?_) (fun hcq6 => ?_)
    · have h := ifp hcq6 h
      refine lv_sipush (v := (-1002)) hx hb dX11_mate_33 (by decide) ?_
      obtain rfl := Option.some.inj h
      exact W.iret (v := (-1002)) hx hb hr (fun t ht hW => ⟨⟨_, _, rfl, ⟨rfl, rfl⟩, xPre_at h0 hS hP ht hW⟩, hS.F ht⟩) hS.2.2 dX11_mate_36
    have h := ifn hcq6 h
    refine lv_iload_n hx hb dX11_mate_18 rfl (lv_at hl 3 rfl) ?_
    obtain ⟨xq7, hfq8, h⟩ := obd h
    refine va_calli (va_runS (As := [.int p3]) (rest := []) ⟨hx, hb, hml, hown, hts⟩ (kX11_isUnit l p3 xq7 hfq8) (va_cwS 1 hts (lwW_gS mw_657 mw_475 mw_1 mw_476) rfl rfl rfl (by decide +kernel) ⟨Nat.le_of_ble_eq_true rfl, Nat.le_of_ble_eq_true rfl⟩) ⟨fun a U g mk q => ⟨q.1, trivial⟩, fun U hU hW => ⟨rfl, trivial⟩⟩ rfl rfl hl.1 rfl (lv_room (Nat.le_of_ble_eq_true rfl)) dX11_mate_19 ⟨Nat.zero_le _, Nat.zero_le _⟩) hS (fun q _ h => h.elim) (fun q h => h.elim) (fun r u t H1 locs ht hvm hw hB hz1 hq1 hS => ?_)
    obtain rfl := hw.symm
    have hP := xP_kept hP hq1
    refine W.widen (k := 0) (n := 0) (Nat.le_refl _) (Nat.le_refl _) ?_
    refine lv_if_eq (tgt := 33) hx hb dX11_mate_22 (by decide) (fun hcq9 => ?_) (fun hcq9 => ?_)
    · have h := ifp hcq9 h
      refine lv_sipush (v := (-1002)) hx hb dX11_mate_33 (by decide) ?_
      obtain rfl := Option.some.inj h
      exact W.iret (v := (-1002)) hx hb hr (fun t ht hW => ⟨⟨_, _, rfl, ⟨rfl, rfl⟩, xPre_at h0 hS hP ht hW⟩, hS.F ht⟩) hS.2.2 dX11_mate_36
    have h := ifn hcq9 h
    refine lv_iload hx hb dX11_mate_25 (lv_at hl 4 rfl) ?_
    obtain ⟨xq10, hfq11, h⟩ := obd h
    refine va_calli (va_runS (As := [.int p4]) (rest := []) ⟨hx, hb, hml, hown, hts⟩ (kX11_isPart l p4 xq10 hfq11) (va_cwS 1 hts (lwW_gS mw_500 mw_501 mw_1 mw_502) rfl rfl rfl (by decide +kernel) ⟨Nat.le_of_ble_eq_true rfl, Nat.le_of_ble_eq_true rfl⟩) ⟨fun a U g mk q => ⟨q.1, trivial⟩, fun U hU hW => ⟨rfl, trivial⟩⟩ rfl rfl hl.1 rfl (lv_room (Nat.le_of_ble_eq_true rfl)) dX11_mate_27 ⟨Nat.zero_le _, Nat.zero_le _⟩) hS (fun q _ h => h.elim) (fun q h => h.elim) (fun r u t H1 locs ht hvm hw hB hz1 hq1 hS => ?_)
    obtain rfl := hw.symm
    have hP := xP_kept hP hq1
    refine W.widen (k := 0) (n := 0) (Nat.le_refl _) (Nat.le_refl _) ?_
    refine lv_if_ne (tgt := 37) hx hb dX11_mate_30 (by decide) (fun hcq12 => ?_) (fun hcq12 => ?_)
    · have h := ifn hcq12 h
      refine lv_aload_n hx hb dX11_mate_37 rfl (lv_at hl 0 rfl) ?_
      refine va_get (D := D) (ci := 11) (v := .ref (G.1 111)) (C := RX11) (T := TX11) (N := 13) hx hb hts iwX11 hown hK hP 105 (xg_7 rfl) rfl 6 (by decide) (hts _ mw_288) (fun _ h9 => h9) rfl dX11_mate_38 ?_
      refine lv_aload_n hx hb dX11_mate_41 rfl (lv_at hl 0 rfl) ?_
      refine va_get (D := D) (ci := 11) (v := .ref (G.1 34)) (C := RX11) (T := TX11) (N := 13) hx hb hts iwX11 hown hK hP 105 (xg_7 rfl) rfl 10 (by decide) (hts _ mw_292) (fun _ h9 => h9) rfl dX11_mate_42 ?_
      refine lv_aload_n hx hb dX11_mate_45 rfl (lv_at hl 0 rfl) ?_
      refine va_get (D := D) (ci := 11) (v := .ref (G.1 102)) (C := RX11) (T := TX11) (N := 13) hx hb hts iwX11 hown hK hP 105 (xg_7 rfl) rfl 0 (by decide) (hts _ mw_282) (fun _ h9 => h9) rfl dX11_mate_46 ?_
      refine lv_iload_n hx hb dX11_mate_49 rfl (lv_at hl 1 rfl) ?_
      obtain ⟨hiq13, h⟩ := nif h
      refine va_aldq hx hb hK hP 102 1 (xg_6 rfl) rfl hiq13 dX11_mate_50 ?_
      refine W.eq (g2 := F0 m 51 ls [.ref (G.1 (xb 102 + p1.toNatClampNeg)), .ref (G.1 34), .ref (G.1 111)]) rfl ?_
      refine lv_iload_n hx hb dX11_mate_51 rfl (lv_at hl 2 rfl) ?_
      refine lv_iload_n hx hb dX11_mate_52 rfl (lv_at hl 3 rfl) ?_
      obtain ⟨xq14, hfq15, h⟩ := obd h
      refine va_callv (va_runV (As := [.ref (G.1 34), .ref (G.1 (xb 102 + p1.toNatClampNeg)), .int p2, .int p3]) (rest := []) ⟨hx, hb, hml, hown, hts⟩ (kX2_putMate l D G ub _ 34 rfl (xb 102 + p1.toNatClampNeg) (xr6 rfl (vp_lt hiq13)) p2 p3 xq14 hfq15) (cwV 4 hts (lwW_gV mw_780 mw_705 mw_706 mw_9 mw_707) rfl rfl rfl (by decide +kernel) ⟨Nat.le_of_ble_eq_true rfl, Nat.le_of_ble_eq_true rfl⟩) ⟨fun a U g mk q => ⟨q.1, xPre_call q.2⟩, va_recv hK hP rfl (xg_13 rfl), fun U hU hW => ⟨rfl, xPre_at h0 hS hP hU hW⟩⟩ rfl rfl hl.1 rfl (lv_room (Nat.le_of_ble_eq_true rfl)) dX11_mate_53 ⟨Nat.zero_le _, Nat.zero_le _⟩) hS (fun q _ h => h) (fun q h => h) (fun u t H1 locs ht hvm hw hB hz1 hq1 hS => ?_)
      obtain rfl := hw.symm
      have hP := hB.1
      rw [ht] at hP
      refine W.widen (k := 0) (n := 0) (Nat.le_refl _) (Nat.le_refl _) ?_
      refine lv_aload_n hx hb dX11_mate_56 rfl (lv_at hl 0 rfl) ?_
      refine va_get (D := D) (ci := 11) (v := .ref (G.1 34)) (C := RX11) (T := TX11) (N := 13) hx hb hts iwX11 hown hK hP 105 (xg_7 rfl) rfl 10 (by decide) (hts _ mw_292) (fun _ h9 => h9) rfl dX11_mate_57 ?_
      refine lv_iload hx hb dX11_mate_60 (lv_at hl 4 rfl) ?_
      obtain ⟨xq16, hfq17, h⟩ := obd h
      refine va_calli (va_runV (As := [.int p4]) (rest := []) ⟨hx, hb, hml, hown, hts⟩ (kX6_part l D G ub _ 34 rfl p4 xq16 hfq17) (cwV 1 hts (lwW_gV mw_503 mw_504 mw_505 mw_3 mw_506) rfl rfl rfl (by decide +kernel) ⟨Nat.le_of_ble_eq_true rfl, Nat.le_of_ble_eq_true rfl⟩) ⟨fun a U g mk q => ⟨q.1, xPre_call q.2⟩, va_recv hK hP rfl (xg_0 rfl), fun U hU hW => ⟨rfl, xPre_at h0 hS hP hU hW⟩⟩ rfl rfl hl.1 rfl (lv_room (Nat.le_of_ble_eq_true rfl)) dX11_mate_62 ⟨Nat.zero_le _, Nat.zero_le _⟩) hS (fun q _ h => h) (fun q h => h) (fun r u t H1 locs ht hvm hw hB hz1 hq1 hS => ?_)
      obtain ⟨rfl, rfl⟩ := hw
      have hP := hB.1
      rw [ht] at hP
      refine W.widen (k := 0) (n := 0) (Nat.le_refl _) (Nat.le_refl _) ?_
      obtain rfl := Option.some.inj h
      exact W.iret (v := xq16.1) hx hb hr (fun t ht hW => ⟨⟨_, _, rfl, ⟨rfl, rfl⟩, xPre_at h0 hS hP ht hW⟩, hS.F ht⟩) hS.2.2 dX11_mate_65
    have h := ifp hcq12 h
    refine lv_sipush (v := (-1002)) hx hb dX11_mate_33 (by decide) ?_
    obtain rfl := Option.some.inj h
    exact W.iret (v := (-1002)) hx hb hr (fun t ht hW => ⟨⟨_, _, rfl, ⟨rfl, rfl⟩, xPre_at h0 hS hP ht hW⟩, hS.F ht⟩) hS.2.2 dX11_mate_36
  have h := ifp hcq3 h
  refine lv_sipush (v := (-1001)) hx hb dX11_mate_7 (by decide) ?_
  obtain rfl := Option.some.inj h
  exact W.iret (v := (-1001)) hx hb hr (fun t ht hW => ⟨⟨_, _, rfl, ⟨rfl, rfl⟩, xPre_at h0 hS hP ht hW⟩, hS.F ht⟩) hS.2.2 dX11_mate_10
def fX11_factor (p1 : Int32) (p2 : Int32) (p3 : Int32) (σ : QMem) : Option (Int32 × QMem) :=
  (fX11_isSlot p1).bind fun xq1 => (if xq1 = 0 then (some ((-1001), σ)) else ((fX11_isPart p3).bind fun xq4 => (if xq4 = 0 then (some ((-1002), σ)) else (if 0 ≤ p2 then (if (p1 < 0 ∨ xl 102 ≤ p1.toNatClampNeg) then none else ((fX6_isZero (xb 102 + p1.toNatClampNeg) σ).bind fun xq9 => (if xq9.1 = 0 then (if (p1 < 0 ∨ xl 102 ≤ p1.toNatClampNeg) then none else ((fX3_putFactor 34 (xb 102 + p1.toNatClampNeg) p2 xq9.2).bind fun xq13 => (if xq13.1 = 0 then (some ((-1003), xq13.2)) else ((fX6_part 34 p3 xq13.2).bind fun xq16 => (some (xq16.1, xq16.2)))))) else (some ((-1003), xq9.2))))) else (some ((-1002), σ))))))
set_option maxHeartbeats 4000000 in
set_option maxRecDepth 100000 in
theorem kX11_factor (l : Launch) (D : va_G) (G : xG) (ub : xB) (σ : QMem) (p1 : Int32) (p2 : Int32) (p3 : Int32) (res : Int32 × QMem) (h : fX11_factor p1 p2 p3 σ = some res) : Met l yX11_factor (.code yX11_factor cX11_factor 4 (some .int) :: lwW) (rmD 7) (xPc D G ub σ [.ref (G.1 105), .int p1, .int p2, .int p3]) (xQi D G ub res) 0 0 (xA G) := by
  refine Met.ofW (cc := cX11_factor) (maxL := 4) (ret := (some .int)) (by decide) rfl ?_
  intro p e s m args below meth c s₁ B hml hv
  obtain ⟨rfl, h0⟩ := hv
  have hx := B.exec
  have hb := B.bytes
  have hr := B.returns
  have hts := fun (w : Cond) (hw : w ∈ lwW) => atoms_spec (ws := (.code yX11_factor cX11_factor 4 (some .int) :: lwW)) B.pre w (List.mem_cons_of_mem _ hw)
  have hown : s.vm.findClass RX11 = some m.cls := findClass_of_methodNamed B.named
  have hlocks := B.notSynchronized
  have hP := h0.1
  have hK := h0.2.1
  have hi := h0.2.2.1
  have hZ := h0.2.2.2
  have hN := h0.2.2.2.2.2.2.2.1
  have hV := h0.2.2.2.2.2.2.2.2.1
  have hS : va_S (xA G) s.heap s.heap [] := va_S.rf
  have hl := lv_entry ([.ref (G.1 105), .int p1, .int p2, .int p3]) (n := 4) (Nat.le_of_ble_eq_true rfl)
  rw [lg_entry_eq]
  generalize (lg_sl ([.ref (G.1 105), .int p1, .int p2, .int p3]) ++ List.replicate (4 - (lg_sl ([.ref (G.1 105), .int p1, .int p2, .int p3])).length) Slot.unset).toArray = ls at hl ⊢
  have hl : lv_has ls 4 [(0, .ref (G.1 105)), (1, .int p1), (2, .int p2), (3, .int p3)] := hl
  unfold fX11_factor at h
  refine lv_iload_n hx hb dX11_factor_0 rfl (lv_at hl 1 rfl) ?_
  obtain ⟨xq1, hfq2, h⟩ := obd h
  refine va_calli (va_runS (As := [.int p1]) (rest := []) ⟨hx, hb, hml, hown, hts⟩ (kX11_isSlot l p1 xq1 hfq2) (va_cwS 1 hts (lwW_gS mw_463 mw_464 mw_1 mw_465) rfl rfl rfl (by decide +kernel) ⟨Nat.le_of_ble_eq_true rfl, Nat.le_of_ble_eq_true rfl⟩) ⟨fun a U g mk q => ⟨q.1, trivial⟩, fun U hU hW => ⟨rfl, trivial⟩⟩ rfl rfl hl.1 rfl (lv_room (Nat.le_of_ble_eq_true rfl)) dX11_factor_1 ⟨Nat.zero_le _, Nat.zero_le _⟩) hS (fun q _ h => h.elim) (fun q h => h.elim) (fun r u t H1 locs ht hvm hw hB hz1 hq1 hS => ?_)
  obtain rfl := hw.symm
  have hP := xP_kept hP hq1
  refine W.widen (k := 0) (n := 0) (Nat.le_refl _) (Nat.le_refl _) ?_
  refine lv_if_ne (tgt := 11) hx hb dX11_factor_4 (by decide) (fun hcq3 => ?_) (fun hcq3 => ?_)
  · have h := ifn hcq3 h
    refine lv_iload_n hx hb dX11_factor_11 rfl (lv_at hl 3 rfl) ?_
    obtain ⟨xq4, hfq5, h⟩ := obd h
    refine va_calli (va_runS (As := [.int p3]) (rest := []) ⟨hx, hb, hml, hown, hts⟩ (kX11_isPart l p3 xq4 hfq5) (va_cwS 1 hts (lwW_gS mw_500 mw_501 mw_1 mw_502) rfl rfl rfl (by decide +kernel) ⟨Nat.le_of_ble_eq_true rfl, Nat.le_of_ble_eq_true rfl⟩) ⟨fun a U g mk q => ⟨q.1, trivial⟩, fun U hU hW => ⟨rfl, trivial⟩⟩ rfl rfl hl.1 rfl (lv_room (Nat.le_of_ble_eq_true rfl)) dX11_factor_12 ⟨Nat.zero_le _, Nat.zero_le _⟩) hS (fun q _ h => h.elim) (fun q h => h.elim) (fun r u t H1 locs ht hvm hw hB hz1 hq1 hS => ?_)
    obtain rfl := hw.symm
    have hP := xP_kept hP hq1
    refine W.widen (k := 0) (n := 0) (Nat.le_refl _) (Nat.le_refl _) ?_
    refine lv_if_eq (tgt := 22) hx hb dX11_factor_15 (by decide) (fun hcq6 => ?_) (fun hcq6 => ?_)
    · have h := ifp hcq6 h
      refine lv_sipush (v := (-1002)) hx hb dX11_factor_22 (by decide) ?_
      obtain rfl := Option.some.inj h
      exact W.iret (v := (-1002)) hx hb hr (fun t ht hW => ⟨⟨_, _, rfl, ⟨rfl, rfl⟩, xPre_at h0 hS hP ht hW⟩, hS.F ht⟩) hS.2.2 dX11_factor_25
    have h := ifn hcq6 h
    refine lv_iload_n hx hb dX11_factor_18 rfl (lv_at hl 2 rfl) ?_
    refine lv_if_ge (tgt := 26) hx hb dX11_factor_19 (by decide) (fun hcq7 => ?_) (fun hcq7 => ?_)
    · have h := ifp hcq7 h
      refine lv_aload_n hx hb dX11_factor_26 rfl (lv_at hl 0 rfl) ?_
      refine va_get (D := D) (ci := 11) (v := .ref (G.1 102)) (C := RX11) (T := TX11) (N := 13) hx hb hts iwX11 hown hK hP 105 (xg_7 rfl) rfl 0 (by decide) (hts _ mw_282) (fun _ h9 => h9) rfl dX11_factor_27 ?_
      refine lv_iload_n hx hb dX11_factor_30 rfl (lv_at hl 1 rfl) ?_
      obtain ⟨hiq8, h⟩ := nif h
      refine va_aldq hx hb hK hP 102 1 (xg_6 rfl) rfl hiq8 dX11_factor_31 ?_
      refine W.eq (g2 := F0 m 32 ls [.ref (G.1 (xb 102 + p1.toNatClampNeg))]) rfl ?_
      obtain ⟨xq9, hfq10, h⟩ := obd h
      refine va_calli (va_runV (As := []) (rest := []) ⟨hx, hb, hml, hown, hts⟩ (kX6_isZero l D G ub _ (xb 102 + p1.toNatClampNeg) (xr6 rfl (vp_lt hiq8)) xq9 hfq10) (cwV 0 hts (lwW_gV mw_511 mw_512 mw_513 mw_3 mw_514) rfl rfl rfl (by decide +kernel) ⟨Nat.le_of_ble_eq_true rfl, Nat.le_of_ble_eq_true rfl⟩) ⟨fun a U g mk q => ⟨q.1, xPre_call q.2⟩, va_recv hK hP rfl (xg_0 (xr6 rfl (vp_lt hiq8))), fun U hU hW => ⟨rfl, xPre_at h0 hS hP hU hW⟩⟩ rfl rfl hl.1 rfl (lv_room (Nat.le_of_ble_eq_true rfl)) dX11_factor_32 ⟨Nat.zero_le _, Nat.zero_le _⟩) hS (fun q _ h => h) (fun q h => h) (fun r u t H1 locs ht hvm hw hB hz1 hq1 hS => ?_)
      obtain ⟨rfl, rfl⟩ := hw
      have hP := hB.1
      rw [ht] at hP
      refine W.widen (k := 0) (n := 0) (Nat.le_refl _) (Nat.le_refl _) ?_
      refine lv_if_ne (tgt := 59) hx hb dX11_factor_35 (by decide) (fun hcq11 => ?_) (fun hcq11 => ?_)
      · have h := ifn hcq11 h
        refine lv_sipush (v := (-1003)) hx hb dX11_factor_59 (by decide) ?_
        obtain rfl := Option.some.inj h
        exact W.iret (v := (-1003)) hx hb hr (fun t ht hW => ⟨⟨_, _, rfl, ⟨rfl, rfl⟩, xPre_at h0 hS hP ht hW⟩, hS.F ht⟩) hS.2.2 dX11_factor_62
      have h := ifp hcq11 h
      refine lv_aload_n hx hb dX11_factor_38 rfl (lv_at hl 0 rfl) ?_
      refine va_get (D := D) (ci := 11) (v := .ref (G.1 112)) (C := RX11) (T := TX11) (N := 13) hx hb hts iwX11 hown hK hP 105 (xg_7 rfl) rfl 8 (by decide) (hts _ mw_290) (fun _ h9 => h9) rfl dX11_factor_39 ?_
      refine lv_aload_n hx hb dX11_factor_42 rfl (lv_at hl 0 rfl) ?_
      refine va_get (D := D) (ci := 11) (v := .ref (G.1 34)) (C := RX11) (T := TX11) (N := 13) hx hb hts iwX11 hown hK hP 105 (xg_7 rfl) rfl 10 (by decide) (hts _ mw_292) (fun _ h9 => h9) rfl dX11_factor_43 ?_
      refine lv_aload_n hx hb dX11_factor_46 rfl (lv_at hl 0 rfl) ?_
      refine va_get (D := D) (ci := 11) (v := .ref (G.1 102)) (C := RX11) (T := TX11) (N := 13) hx hb hts iwX11 hown hK hP 105 (xg_7 rfl) rfl 0 (by decide) (hts _ mw_282) (fun _ h9 => h9) rfl dX11_factor_47 ?_
      refine lv_iload_n hx hb dX11_factor_50 rfl (lv_at hl 1 rfl) ?_
      obtain ⟨hiq12, h⟩ := nif h
      refine va_aldq hx hb hK hP 102 1 (xg_6 rfl) rfl hiq12 dX11_factor_51 ?_
      refine W.eq (g2 := F0 m 52 ls [.ref (G.1 (xb 102 + p1.toNatClampNeg)), .ref (G.1 34), .ref (G.1 112)]) rfl ?_
      refine lv_iload_n hx hb dX11_factor_52 rfl (lv_at hl 2 rfl) ?_
      obtain ⟨xq13, hfq14, h⟩ := obd h
      refine va_calli (va_runV (As := [.ref (G.1 34), .ref (G.1 (xb 102 + p1.toNatClampNeg)), .int p2]) (rest := []) ⟨hx, hb, hml, hown, hts⟩ (kX3_putFactor l D G ub _ 34 rfl (xb 102 + p1.toNatClampNeg) (xr6 rfl (vp_lt hiq12)) p2 xq13 hfq14) (cwV 3 hts (lwW_gV mw_785 mw_786 mw_787 mw_12 mw_788) rfl rfl rfl (by decide +kernel) ⟨Nat.le_of_ble_eq_true rfl, Nat.le_of_ble_eq_true rfl⟩) ⟨fun a U g mk q => ⟨q.1, xPre_call q.2⟩, va_recv hK hP rfl (xg_14 rfl), fun U hU hW => ⟨rfl, xPre_at h0 hS hP hU hW⟩⟩ rfl rfl hl.1 rfl (lv_room (Nat.le_of_ble_eq_true rfl)) dX11_factor_53 ⟨Nat.zero_le _, Nat.zero_le _⟩) hS (fun q _ h => h) (fun q h => h) (fun r u t H1 locs ht hvm hw hB hz1 hq1 hS => ?_)
      obtain ⟨rfl, rfl⟩ := hw
      have hP := hB.1
      rw [ht] at hP
      refine W.widen (k := 0) (n := 0) (Nat.le_refl _) (Nat.le_refl _) ?_
      refine lv_if_ne (tgt := 63) hx hb dX11_factor_56 (by decide) (fun hcq15 => ?_) (fun hcq15 => ?_)
      · have h := ifn hcq15 h
        refine lv_aload_n hx hb dX11_factor_63 rfl (lv_at hl 0 rfl) ?_
        refine va_get (D := D) (ci := 11) (v := .ref (G.1 34)) (C := RX11) (T := TX11) (N := 13) hx hb hts iwX11 hown hK hP 105 (xg_7 rfl) rfl 10 (by decide) (hts _ mw_292) (fun _ h9 => h9) rfl dX11_factor_64 ?_
        refine lv_iload_n hx hb dX11_factor_67 rfl (lv_at hl 3 rfl) ?_
        obtain ⟨xq16, hfq17, h⟩ := obd h
        refine va_calli (va_runV (As := [.int p3]) (rest := []) ⟨hx, hb, hml, hown, hts⟩ (kX6_part l D G ub _ 34 rfl p3 xq16 hfq17) (cwV 1 hts (lwW_gV mw_503 mw_504 mw_505 mw_3 mw_506) rfl rfl rfl (by decide +kernel) ⟨Nat.le_of_ble_eq_true rfl, Nat.le_of_ble_eq_true rfl⟩) ⟨fun a U g mk q => ⟨q.1, xPre_call q.2⟩, va_recv hK hP rfl (xg_0 rfl), fun U hU hW => ⟨rfl, xPre_at h0 hS hP hU hW⟩⟩ rfl rfl hl.1 rfl (lv_room (Nat.le_of_ble_eq_true rfl)) dX11_factor_68 ⟨Nat.zero_le _, Nat.zero_le _⟩) hS (fun q _ h => h) (fun q h => h) (fun r u t H1 locs ht hvm hw hB hz1 hq1 hS => ?_)
        obtain ⟨rfl, rfl⟩ := hw
        have hP := hB.1
        rw [ht] at hP
        refine W.widen (k := 0) (n := 0) (Nat.le_refl _) (Nat.le_refl _) ?_
        obtain rfl := Option.some.inj h
        exact W.iret (v := xq16.1) hx hb hr (fun t ht hW => ⟨⟨_, _, rfl, ⟨rfl, rfl⟩, xPre_at h0 hS hP ht hW⟩, hS.F ht⟩) hS.2.2 dX11_factor_71
      have h := ifp hcq15 h
      refine lv_sipush (v := (-1003)) hx hb dX11_factor_59 (by decide) ?_
      obtain rfl := Option.some.inj h
      exact W.iret (v := (-1003)) hx hb hr (fun t ht hW => ⟨⟨_, _, rfl, ⟨rfl, rfl⟩, xPre_at h0 hS hP ht hW⟩, hS.F ht⟩) hS.2.2 dX11_factor_62
    have h := ifn hcq7 h
    refine lv_sipush (v := (-1002)) hx hb dX11_factor_22 (by decide) ?_
    obtain rfl := Option.some.inj h
    exact W.iret (v := (-1002)) hx hb hr (fun t ht hW => ⟨⟨_, _, rfl, ⟨rfl, rfl⟩, xPre_at h0 hS hP ht hW⟩, hS.F ht⟩) hS.2.2 dX11_factor_25
  have h := ifp hcq3 h
  refine lv_sipush (v := (-1001)) hx hb dX11_factor_7 (by decide) ?_
  obtain rfl := Option.some.inj h
  exact W.iret (v := (-1001)) hx hb hr (fun t ht hW => ⟨⟨_, _, rfl, ⟨rfl, rfl⟩, xPre_at h0 hS hP ht hW⟩, hS.F ht⟩) hS.2.2 dX11_factor_10
def fX11_prime_J39 (p1 : Int32) (p2 : Int32) (p3 : Int32) (p4 : Int32)  (τ : QMem) : Option (Int32 × QMem) :=
  if (p1 < 0 ∨ xl 102 ≤ p1.toNatClampNeg) then none else ((fX6_isZero (xb 102 + p1.toNatClampNeg) τ).bind fun xq2 => (if xq2.1 = 0 then (if (p1 < 0 ∨ xl 102 ≤ p1.toNatClampNeg) then none else ((fX5_gather 86 (xb 102 + p1.toNatClampNeg) p2 xq2.2).bind fun xq6 => (if p3 = (-1) then ((fX7_size (86 - 27) xq6).bind fun xq14 => (some (xq14.1, xq14.2))) else ((fX7_size (86 - 27) xq6).bind fun xq9 => (if xq9.1 ≤ p3 then (some ((-1003), xq9.2)) else ((fX7_part (86 - 27) p3 p4 xq9.2).bind fun xq12 => (some (xq12.1, xq12.2)))))))) else (some ((-1003), xq2.2))))
def fX11_prime (p1 : Int32) (p2 : Int32) (p3 : Int32) (p4 : Int32) (σ : QMem) : Option (Int32 × QMem) :=
  (fX11_isSlot p1).bind fun xq31 => (if xq31 = 0 then (some ((-1001), σ)) else ((fX11_isSide p2).bind fun xq34 => (if xq34 = 0 then (some ((-1002), σ)) else (if p3 < (-1) then (some ((-1002), σ)) else (if p3 < 0 then (fX11_prime_J39 p1 p2 p3 p4 σ) else ((fX11_isPart p4).bind fun xq39 => (if xq39 = 0 then (some ((-1002), σ)) else (fX11_prime_J39 p1 p2 p3 p4 σ))))))))
set_option maxHeartbeats 4000000 in
set_option maxRecDepth 100000 in
theorem kX11_prime (l : Launch) (D : va_G) (G : xG) (ub : xB) (σ : QMem) (p1 : Int32) (p2 : Int32) (p3 : Int32) (p4 : Int32) (res : Int32 × QMem) (h : fX11_prime p1 p2 p3 p4 σ = some res) : Met l yX11_prime (.code yX11_prime cX11_prime 5 (some .int) :: lwW) (rmD 6) (xPc D G ub σ [.ref (G.1 105), .int p1, .int p2, .int p3, .int p4]) (xQi D G ub res) 0 0 (xA G) := by
  refine Met.ofW (cc := cX11_prime) (maxL := 5) (ret := (some .int)) (by decide) rfl ?_
  intro p e s m args below meth c s₁ B hml hv
  obtain ⟨rfl, h0⟩ := hv
  have hx := B.exec
  have hb := B.bytes
  have hr := B.returns
  have hts := fun (w : Cond) (hw : w ∈ lwW) => atoms_spec (ws := (.code yX11_prime cX11_prime 5 (some .int) :: lwW)) B.pre w (List.mem_cons_of_mem _ hw)
  have hown : s.vm.findClass RX11 = some m.cls := findClass_of_methodNamed B.named
  have hlocks := B.notSynchronized
  have hP := h0.1
  have hK := h0.2.1
  have hi := h0.2.2.1
  have hZ := h0.2.2.2
  have hN := h0.2.2.2.2.2.2.2.1
  have hV := h0.2.2.2.2.2.2.2.2.1
  have hS : va_S (xA G) s.heap s.heap [] := va_S.rf
  have hl := lv_entry ([.ref (G.1 105), .int p1, .int p2, .int p3, .int p4]) (n := 5) (Nat.le_of_ble_eq_true rfl)
  rw [lg_entry_eq]
  generalize (lg_sl ([.ref (G.1 105), .int p1, .int p2, .int p3, .int p4]) ++ List.replicate (5 - (lg_sl ([.ref (G.1 105), .int p1, .int p2, .int p3, .int p4])).length) Slot.unset).toArray = ls at hl ⊢
  have hl : lv_has ls 5 [(0, .ref (G.1 105)), (1, .int p1), (2, .int p2), (3, .int p3), (4, .int p4)] := hl
  unfold fX11_prime at h
  have J39 : ∀ (τ : QMem) (H : Heap) (locs : List Loc) (ls : Array Slot), fX11_prime_J39 p1 p2 p3 p4 τ = some res → va_P D vwCl (xW G τ) H → va_S (xA G) s.heap H locs → lv_has ls 5 [(0, .ref (G.1 105)), (1, .int p1), (2, .int p2), (3, .int p3), (4, .int p4)] → W p l e (headSpec (.code yX11_prime cX11_prime 5 (some .int) :: lwW) (rmD 6)).room s m ([.ref (G.1 105), .int p1, .int p2, .int p3, .int p4] : List Value).toArray below meth c H locs 0 0 (MQ below (xQi D G ub res) ([.ref (G.1 105), .int p1, .int p2, .int p3, .int p4] : List Value).toArray s 0 0 (xA G)) (F0 m 39 ls []) := by
    intro τ H locs ls h hP hS hl
    unfold fX11_prime_J39 at h
    refine lv_aload_n hx hb dX11_prime_39 rfl (lv_at hl 0 rfl) ?_
    refine va_get (D := D) (ci := 11) (v := .ref (G.1 102)) (C := RX11) (T := TX11) (N := 13) hx hb hts iwX11 hown hK hP 105 (xg_7 rfl) rfl 0 (by decide) (hts _ mw_282) (fun _ h9 => h9) rfl dX11_prime_40 ?_
    refine lv_iload_n hx hb dX11_prime_43 rfl (lv_at hl 1 rfl) ?_
    obtain ⟨hiq16, h⟩ := nif h
    refine va_aldq hx hb hK hP 102 1 (xg_6 rfl) rfl hiq16 dX11_prime_44 ?_
    refine W.eq (g2 := F0 m 45 ls [.ref (G.1 (xb 102 + p1.toNatClampNeg))]) rfl ?_
    obtain ⟨xq17, hfq18, h⟩ := obd h
    refine va_calli (va_runV (As := []) (rest := []) ⟨hx, hb, hml, hown, hts⟩ (kX6_isZero l D G ub _ (xb 102 + p1.toNatClampNeg) (xr6 rfl (vp_lt hiq16)) xq17 hfq18) (cwV 0 hts (lwW_gV mw_511 mw_512 mw_513 mw_3 mw_514) rfl rfl rfl (by decide +kernel) ⟨Nat.le_of_ble_eq_true rfl, Nat.le_of_ble_eq_true rfl⟩) ⟨fun a U g mk q => ⟨q.1, xPre_call q.2⟩, va_recv hK hP rfl (xg_0 (xr6 rfl (vp_lt hiq16))), fun U hU hW => ⟨rfl, xPre_at h0 hS hP hU hW⟩⟩ rfl rfl hl.1 rfl (lv_room (Nat.le_of_ble_eq_true rfl)) dX11_prime_45 ⟨Nat.zero_le _, Nat.zero_le _⟩) hS (fun q _ h => h) (fun q h => h) (fun r u t H1 locs ht hvm hw hB hz1 hq1 hS => ?_)
    obtain ⟨rfl, rfl⟩ := hw
    have hP := hB.1
    rw [ht] at hP
    refine W.widen (k := 0) (n := 0) (Nat.le_refl _) (Nat.le_refl _) ?_
    refine lv_if_eq (tgt := 55) hx hb dX11_prime_48 (by decide) (fun hcq19 => ?_) (fun hcq19 => ?_)
    · have h := ifp hcq19 h
      refine lv_aload_n hx hb dX11_prime_55 rfl (lv_at hl 0 rfl) ?_
      refine va_get (D := D) (ci := 11) (v := .ref (G.1 86)) (C := RX11) (T := TX11) (N := 13) hx hb hts iwX11 hown hK hP 105 (xg_7 rfl) rfl 7 (by decide) (hts _ mw_289) (fun _ h9 => h9) rfl dX11_prime_56 ?_
      refine lv_aload_n hx hb dX11_prime_59 rfl (lv_at hl 0 rfl) ?_
      refine va_get (D := D) (ci := 11) (v := .ref (G.1 102)) (C := RX11) (T := TX11) (N := 13) hx hb hts iwX11 hown hK hP 105 (xg_7 rfl) rfl 0 (by decide) (hts _ mw_282) (fun _ h9 => h9) rfl dX11_prime_60 ?_
      refine lv_iload_n hx hb dX11_prime_63 rfl (lv_at hl 1 rfl) ?_
      obtain ⟨hiq20, h⟩ := nif h
      refine va_aldq hx hb hK hP 102 1 (xg_6 rfl) rfl hiq20 dX11_prime_64 ?_
      refine W.eq (g2 := F0 m 65 ls [.ref (G.1 (xb 102 + p1.toNatClampNeg)), .ref (G.1 86)]) rfl ?_
      refine lv_iload_n hx hb dX11_prime_65 rfl (lv_at hl 2 rfl) ?_
      obtain ⟨xq21, hfq22, h⟩ := obd h
      refine va_callv (va_runV (As := [.ref (G.1 (xb 102 + p1.toNatClampNeg)), .int p2]) (rest := []) ⟨hx, hb, hml, hown, hts⟩ (kX5_gather l D G ub _ 86 rfl (xb 102 + p1.toNatClampNeg) (xr6 rfl (vp_lt hiq20)) p2 xq21 hfq22) (cwV 2 hts (lwW_gV mw_794 mw_548 mw_549 mw_11 mw_550) rfl rfl rfl (by decide +kernel) ⟨Nat.le_of_ble_eq_true rfl, Nat.le_of_ble_eq_true rfl⟩) ⟨fun a U g mk q => ⟨q.1, xPre_call q.2⟩, va_recv hK hP rfl (xg_3 rfl), fun U hU hW => ⟨rfl, xPre_at h0 hS hP hU hW⟩⟩ rfl rfl hl.1 rfl (lv_room (Nat.le_of_ble_eq_true rfl)) dX11_prime_66 ⟨Nat.zero_le _, Nat.zero_le _⟩) hS (fun q _ h => h) (fun q h => h) (fun u t H1 locs ht hvm hw hB hz1 hq1 hS => ?_)
      obtain rfl := hw.symm
      have hP := hB.1
      rw [ht] at hP
      refine W.widen (k := 0) (n := 0) (Nat.le_refl _) (Nat.le_refl _) ?_
      refine lv_iload_n hx hb dX11_prime_69 rfl (lv_at hl 3 rfl) ?_
      refine lv_iconst (v := (-1)) hx hb dX11_prime_70 (by decide) ?_
      refine lv_icmp_ne (tgt := 85) hx hb dX11_prime_71 (by decide) (fun hcq23 => ?_) (fun hcq23 => ?_)
      · have h := ifn hcq23 h
        refine lv_iload_n hx hb dX11_prime_85 rfl (lv_at hl 3 rfl) ?_
        refine lv_aload_n hx hb dX11_prime_86 rfl (lv_at hl 0 rfl) ?_
        refine va_get (D := D) (ci := 11) (v := .ref (G.1 86)) (C := RX11) (T := TX11) (N := 13) hx hb hts iwX11 hown hK hP 105 (xg_7 rfl) rfl 7 (by decide) (hts _ mw_289) (fun _ h9 => h9) rfl dX11_prime_87 ?_
        refine va_getN (D := D) (ci := 5) (v := .ref (G.1 (86 - 27))) (C := RX5) (T := TX5) (N := 4) hx hb hts iwX5 hown hK hP 86 (xg_3 rfl) rfl 0 (by decide) (va_Nw.use rfl (hN.F 15 rfl)) (fun _ h9 => h9) rfl dX11_prime_90 ?_
        obtain ⟨xq24, hfq25, h⟩ := obd h
        refine va_calli (va_runV (As := []) (rest := [.int p3]) ⟨hx, hb, hml, hown, hts⟩ (kX7_size l D G ub _ (86 - 27) (xf3_0 rfl) xq24 hfq25) (cwV 0 hts (lwW_gV mw_795 mw_599 mw_600 mw_10 mw_601) rfl rfl rfl (by decide +kernel) ⟨Nat.le_of_ble_eq_true rfl, Nat.le_of_ble_eq_true rfl⟩) ⟨fun a U g mk q => ⟨q.1, xPre_call q.2⟩, va_recv hK hP rfl (xg_1 (xf3_0 rfl)), fun U hU hW => ⟨rfl, xPre_at h0 hS hP hU hW⟩⟩ rfl rfl hl.1 rfl (lv_room (Nat.le_of_ble_eq_true rfl)) dX11_prime_93 ⟨Nat.zero_le _, Nat.zero_le _⟩) hS (fun q _ h => h) (fun q h => h) (fun r u t H1 locs ht hvm hw hB hz1 hq1 hS => ?_)
        obtain ⟨rfl, rfl⟩ := hw
        have hP := hB.1
        rw [ht] at hP
        refine W.widen (k := 0) (n := 0) (Nat.le_refl _) (Nat.le_refl _) ?_
        refine lv_icmp_ge (tgt := 115) hx hb dX11_prime_96 (by decide) (fun hcq26 => ?_) (fun hcq26 => ?_)
        · have h := ifp hcq26 h
          refine lv_sipush (v := (-1003)) hx hb dX11_prime_115 (by decide) ?_
          obtain rfl := Option.some.inj h
          exact W.iret (v := (-1003)) hx hb hr (fun t ht hW => ⟨⟨_, _, rfl, ⟨rfl, rfl⟩, xPre_at h0 hS hP ht hW⟩, hS.F ht⟩) hS.2.2 dX11_prime_118
        have h := ifn hcq26 h
        refine lv_aload_n hx hb dX11_prime_99 rfl (lv_at hl 0 rfl) ?_
        refine va_get (D := D) (ci := 11) (v := .ref (G.1 86)) (C := RX11) (T := TX11) (N := 13) hx hb hts iwX11 hown hK hP 105 (xg_7 rfl) rfl 7 (by decide) (hts _ mw_289) (fun _ h9 => h9) rfl dX11_prime_100 ?_
        refine va_getN (D := D) (ci := 5) (v := .ref (G.1 (86 - 27))) (C := RX5) (T := TX5) (N := 4) hx hb hts iwX5 hown hK hP 86 (xg_3 rfl) rfl 0 (by decide) (va_Nw.use rfl (hN.F 15 rfl)) (fun _ h9 => h9) rfl dX11_prime_103 ?_
        refine lv_iload_n hx hb dX11_prime_106 rfl (lv_at hl 3 rfl) ?_
        refine lv_iload hx hb dX11_prime_107 (lv_at hl 4 rfl) ?_
        obtain ⟨xq27, hfq28, h⟩ := obd h
        refine va_calli (va_runV (As := [.int p3, .int p4]) (rest := []) ⟨hx, hb, hml, hown, hts⟩ (kX7_part l D G ub _ (86 - 27) (xf3_0 rfl) p3 p4 xq27 hfq28) (cwV 2 hts (lwW_gV mw_796 mw_607 mw_608 mw_10 mw_609) rfl rfl rfl (by decide +kernel) ⟨Nat.le_of_ble_eq_true rfl, Nat.le_of_ble_eq_true rfl⟩) ⟨fun a U g mk q => ⟨q.1, xPre_call q.2⟩, va_recv hK hP rfl (xg_1 (xf3_0 rfl)), fun U hU hW => ⟨rfl, xPre_at h0 hS hP hU hW⟩⟩ rfl rfl hl.1 rfl (lv_room (Nat.le_of_ble_eq_true rfl)) dX11_prime_109 ⟨Nat.zero_le _, Nat.zero_le _⟩) hS (fun q _ h => h) (fun q h => h) (fun r u t H1 locs ht hvm hw hB hz1 hq1 hS => ?_)
        obtain ⟨rfl, rfl⟩ := hw
        have hP := hB.1
        rw [ht] at hP
        refine W.widen (k := 0) (n := 0) (Nat.le_refl _) (Nat.le_refl _) ?_
        refine lv_goto (tgt := 118) hx hb dX11_prime_112 (by decide) ?_
        obtain rfl := Option.some.inj h
        exact W.iret (v := xq27.1) hx hb hr (fun t ht hW => ⟨⟨_, _, rfl, ⟨rfl, rfl⟩, xPre_at h0 hS hP ht hW⟩, hS.F ht⟩) hS.2.2 dX11_prime_118
      have h := ifp hcq23 h
      refine lv_aload_n hx hb dX11_prime_74 rfl (lv_at hl 0 rfl) ?_
      refine va_get (D := D) (ci := 11) (v := .ref (G.1 86)) (C := RX11) (T := TX11) (N := 13) hx hb hts iwX11 hown hK hP 105 (xg_7 rfl) rfl 7 (by decide) (hts _ mw_289) (fun _ h9 => h9) rfl dX11_prime_75 ?_
      refine va_getN (D := D) (ci := 5) (v := .ref (G.1 (86 - 27))) (C := RX5) (T := TX5) (N := 4) hx hb hts iwX5 hown hK hP 86 (xg_3 rfl) rfl 0 (by decide) (va_Nw.use rfl (hN.F 15 rfl)) (fun _ h9 => h9) rfl dX11_prime_78 ?_
      obtain ⟨xq29, hfq30, h⟩ := obd h
      refine va_calli (va_runV (As := []) (rest := []) ⟨hx, hb, hml, hown, hts⟩ (kX7_size l D G ub _ (86 - 27) (xf3_0 rfl) xq29 hfq30) (cwV 0 hts (lwW_gV mw_795 mw_599 mw_600 mw_10 mw_601) rfl rfl rfl (by decide +kernel) ⟨Nat.le_of_ble_eq_true rfl, Nat.le_of_ble_eq_true rfl⟩) ⟨fun a U g mk q => ⟨q.1, xPre_call q.2⟩, va_recv hK hP rfl (xg_1 (xf3_0 rfl)), fun U hU hW => ⟨rfl, xPre_at h0 hS hP hU hW⟩⟩ rfl rfl hl.1 rfl (lv_room (Nat.le_of_ble_eq_true rfl)) dX11_prime_81 ⟨Nat.zero_le _, Nat.zero_le _⟩) hS (fun q _ h => h) (fun q h => h) (fun r u t H1 locs ht hvm hw hB hz1 hq1 hS => ?_)
      obtain ⟨rfl, rfl⟩ := hw
      have hP := hB.1
      rw [ht] at hP
      refine W.widen (k := 0) (n := 0) (Nat.le_refl _) (Nat.le_refl _) ?_
      obtain rfl := Option.some.inj h
      exact W.iret (v := xq29.1) hx hb hr (fun t ht hW => ⟨⟨_, _, rfl, ⟨rfl, rfl⟩, xPre_at h0 hS hP ht hW⟩, hS.F ht⟩) hS.2.2 dX11_prime_84
    have h := ifn hcq19 h
    refine lv_sipush (v := (-1003)) hx hb dX11_prime_51 (by decide) ?_
    obtain rfl := Option.some.inj h
    exact W.iret (v := (-1003)) hx hb hr (fun t ht hW => ⟨⟨_, _, rfl, ⟨rfl, rfl⟩, xPre_at h0 hS hP ht hW⟩, hS.F ht⟩) hS.2.2 dX11_prime_54
  refine lv_iload_n hx hb dX11_prime_0 rfl (lv_at hl 1 rfl) ?_
  obtain ⟨xq31, hfq32, h⟩ := obd h
  refine va_calli (va_runS (As := [.int p1]) (rest := []) ⟨hx, hb, hml, hown, hts⟩ (kX11_isSlot l p1 xq31 hfq32) (va_cwS 1 hts (lwW_gS mw_463 mw_464 mw_1 mw_465) rfl rfl rfl (by decide +kernel) ⟨Nat.le_of_ble_eq_true rfl, Nat.le_of_ble_eq_true rfl⟩) ⟨fun a U g mk q => ⟨q.1, trivial⟩, fun U hU hW => ⟨rfl, trivial⟩⟩ rfl rfl hl.1 rfl (lv_room (Nat.le_of_ble_eq_true rfl)) dX11_prime_1 ⟨Nat.zero_le _, Nat.zero_le _⟩) hS (fun q _ h => h.elim) (fun q h => h.elim) (fun r u t H1 locs ht hvm hw hB hz1 hq1 hS => ?_)
  obtain rfl := hw.symm
  have hP := xP_kept hP hq1
  refine W.widen (k := 0) (n := 0) (Nat.le_refl _) (Nat.le_refl _) ?_
  refine lv_if_ne (tgt := 11) hx hb dX11_prime_4 (by decide) (fun hcq33 => ?_) (fun hcq33 => ?_)
  · have h := ifn hcq33 h
    refine lv_iload_n hx hb dX11_prime_11 rfl (lv_at hl 2 rfl) ?_
    obtain ⟨xq34, hfq35, h⟩ := obd h
    refine va_calli (va_runS (As := [.int p2]) (rest := []) ⟨hx, hb, hml, hown, hts⟩ (kX11_isSide l p2 xq34 hfq35) (va_cwS 1 hts (lwW_gS mw_690 mw_691 mw_1 mw_692) rfl rfl rfl (by decide +kernel) ⟨Nat.le_of_ble_eq_true rfl, Nat.le_of_ble_eq_true rfl⟩) ⟨fun a U g mk q => ⟨q.1, trivial⟩, fun U hU hW => ⟨rfl, trivial⟩⟩ rfl rfl hl.1 rfl (lv_room (Nat.le_of_ble_eq_true rfl)) dX11_prime_12 ⟨Nat.zero_le _, Nat.zero_le _⟩) hS (fun q _ h => h.elim) (fun q h => h.elim) (fun r u t H1 locs ht hvm hw hB hz1 hq1 hS => ?_)
    obtain rfl := hw.symm
    have hP := xP_kept hP hq1
    refine W.widen (k := 0) (n := 0) (Nat.le_refl _) (Nat.le_refl _) ?_
    refine lv_if_eq (tgt := 35) hx hb dX11_prime_15 (by decide) (fun hcq36 => ?_) (fun hcq36 => ?_)
    · have h := ifp hcq36 h
      refine lv_sipush (v := (-1002)) hx hb dX11_prime_35 (by decide) ?_
      obtain rfl := Option.some.inj h
      exact W.iret (v := (-1002)) hx hb hr (fun t ht hW => ⟨⟨_, _, rfl, ⟨rfl, rfl⟩, xPre_at h0 hS hP ht hW⟩, hS.F ht⟩) hS.2.2 dX11_prime_38
    have h := ifn hcq36 h
    refine lv_iload_n hx hb dX11_prime_18 rfl (lv_at hl 3 rfl) ?_
    refine lv_iconst (v := (-1)) hx hb dX11_prime_19 (by decide) ?_
    refine lv_icmp_lt (tgt := 35) hx hb dX11_prime_20 (by decide) (fun hcq37 => ?_) (fun hcq37 => ?_)
    · have h := ifp hcq37 h
      refine lv_sipush (v := (-1002)) hx hb dX11_prime_35 (by decide) ?_
      obtain rfl := Option.some.inj h
      exact W.iret (v := (-1002)) hx hb hr (fun t ht hW => ⟨⟨_, _, rfl, ⟨rfl, rfl⟩, xPre_at h0 hS hP ht hW⟩, hS.F ht⟩) hS.2.2 dX11_prime_38
    have h := ifn hcq37 h
    refine lv_iload_n hx hb dX11_prime_23 rfl (lv_at hl 3 rfl) ?_
    refine lv_if_lt (tgt := 39) hx hb dX11_prime_24 (by decide) (fun hcq38 => ?_) (fun hcq38 => ?_)
    · have h := ifp hcq38 h
      exact J39 _ _ _ _ h hP hS (lv_sub hl [0, 1, 2, 3, 4] rfl)
    have h := ifn hcq38 h
    refine lv_iload hx hb dX11_prime_27 (lv_at hl 4 rfl) ?_
    obtain ⟨xq39, hfq40, h⟩ := obd h
    refine va_calli (va_runS (As := [.int p4]) (rest := []) ⟨hx, hb, hml, hown, hts⟩ (kX11_isPart l p4 xq39 hfq40) (va_cwS 1 hts (lwW_gS mw_500 mw_501 mw_1 mw_502) rfl rfl rfl (by decide +kernel) ⟨Nat.le_of_ble_eq_true rfl, Nat.le_of_ble_eq_true rfl⟩) ⟨fun a U g mk q => ⟨q.1, trivial⟩, fun U hU hW => ⟨rfl, trivial⟩⟩ rfl rfl hl.1 rfl (lv_room (Nat.le_of_ble_eq_true rfl)) dX11_prime_29 ⟨Nat.zero_le _, Nat.zero_le _⟩) hS (fun q _ h => h.elim) (fun q h => h.elim) (fun r u t H1 locs ht hvm hw hB hz1 hq1 hS => ?_)
    obtain rfl := hw.symm
    have hP := xP_kept hP hq1
    refine W.widen (k := 0) (n := 0) (Nat.le_refl _) (Nat.le_refl _) ?_
    refine lv_if_ne (tgt := 39) hx hb dX11_prime_32 (by decide) (fun hcq41 => ?_) (fun hcq41 => ?_)
    · have h := ifn hcq41 h
      exact J39 _ _ _ _ h hP hS (lv_sub hl [0, 1, 2, 3, 4] rfl)
    have h := ifp hcq41 h
    refine lv_sipush (v := (-1002)) hx hb dX11_prime_35 (by decide) ?_
    obtain rfl := Option.some.inj h
    exact W.iret (v := (-1002)) hx hb hr (fun t ht hW => ⟨⟨_, _, rfl, ⟨rfl, rfl⟩, xPre_at h0 hS hP ht hW⟩, hS.F ht⟩) hS.2.2 dX11_prime_38
  have h := ifp hcq33 h
  refine lv_sipush (v := (-1001)) hx hb dX11_prime_7 (by decide) ?_
  obtain rfl := Option.some.inj h
  exact W.iret (v := (-1001)) hx hb hr (fun t ht hW => ⟨⟨_, _, rfl, ⟨rfl, rfl⟩, xPre_at h0 hS hP ht hW⟩, hS.F ht⟩) hS.2.2 dX11_prime_10
def fX11_list_J40 (p1 : Int32) (p2 : Int32) (p3 : Int32) (p4 : Int32)  (τ : QMem) : Option (Int32 × QMem) :=
  (fX2_gather p1 p2 τ).bind fun xq1 => (if p3 = (-1) then ((fX7_size 57 xq1).bind fun xq9 => (some (xq9.1, xq9.2))) else ((fX7_size 57 xq1).bind fun xq4 => (if xq4.1 ≤ p3 then (some ((-1003), xq4.2)) else ((fX7_part 57 p3 p4 xq4.2).bind fun xq7 => (some (xq7.1, xq7.2))))))
def fX11_list (p1 : Int32) (p2 : Int32) (p3 : Int32) (p4 : Int32) (σ : QMem) : Option (Int32 × QMem) :=
  if p1 < 1 then (some ((-1002), σ)) else (if 150 < p1 then (some ((-1002), σ)) else ((fX11_isSide p2).bind fun xq23 => (if xq23 = 0 then (some ((-1002), σ)) else (if p3 < (-1) then (some ((-1002), σ)) else (if p3 < 0 then (fX11_list_J40 p1 p2 p3 p4 σ) else ((fX11_isPart p4).bind fun xq28 => (if xq28 = 0 then (some ((-1002), σ)) else (fX11_list_J40 p1 p2 p3 p4 σ))))))))
set_option maxHeartbeats 4000000 in
set_option maxRecDepth 100000 in
theorem kX11_list (l : Launch) (D : va_G) (G : xG) (ub : xB) (σ : QMem) (p1 : Int32) (p2 : Int32) (p3 : Int32) (p4 : Int32) (res : Int32 × QMem) (h : fX11_list p1 p2 p3 p4 σ = some res) : Met l yX11_list (.code yX11_list cX11_list 5 (some .int) :: lwW) (rmD 5) (xPc D G ub σ [.ref (G.1 105), .int p1, .int p2, .int p3, .int p4]) (xQi D G ub res) 0 0 (xA G) := by
  refine Met.ofW (cc := cX11_list) (maxL := 5) (ret := (some .int)) (by decide) rfl ?_
  intro p e s m args below meth c s₁ B hml hv
  obtain ⟨rfl, h0⟩ := hv
  have hx := B.exec
  have hb := B.bytes
  have hr := B.returns
  have hts := fun (w : Cond) (hw : w ∈ lwW) => atoms_spec (ws := (.code yX11_list cX11_list 5 (some .int) :: lwW)) B.pre w (List.mem_cons_of_mem _ hw)
  have hown : s.vm.findClass RX11 = some m.cls := findClass_of_methodNamed B.named
  have hlocks := B.notSynchronized
  have hP := h0.1
  have hK := h0.2.1
  have hi := h0.2.2.1
  have hZ := h0.2.2.2
  have hN := h0.2.2.2.2.2.2.2.1
  have hV := h0.2.2.2.2.2.2.2.2.1
  have hS : va_S (xA G) s.heap s.heap [] := va_S.rf
  have hl := lv_entry ([.ref (G.1 105), .int p1, .int p2, .int p3, .int p4]) (n := 5) (Nat.le_of_ble_eq_true rfl)
  rw [lg_entry_eq]
  generalize (lg_sl ([.ref (G.1 105), .int p1, .int p2, .int p3, .int p4]) ++ List.replicate (5 - (lg_sl ([.ref (G.1 105), .int p1, .int p2, .int p3, .int p4])).length) Slot.unset).toArray = ls at hl ⊢
  have hl : lv_has ls 5 [(0, .ref (G.1 105)), (1, .int p1), (2, .int p2), (3, .int p3), (4, .int p4)] := hl
  unfold fX11_list at h
  have J40 : ∀ (τ : QMem) (H : Heap) (locs : List Loc) (ls : Array Slot), fX11_list_J40 p1 p2 p3 p4 τ = some res → va_P D vwCl (xW G τ) H → va_S (xA G) s.heap H locs → lv_has ls 5 [(0, .ref (G.1 105)), (1, .int p1), (2, .int p2), (3, .int p3), (4, .int p4)] → W p l e (headSpec (.code yX11_list cX11_list 5 (some .int) :: lwW) (rmD 5)).room s m ([.ref (G.1 105), .int p1, .int p2, .int p3, .int p4] : List Value).toArray below meth c H locs 0 0 (MQ below (xQi D G ub res) ([.ref (G.1 105), .int p1, .int p2, .int p3, .int p4] : List Value).toArray s 0 0 (xA G)) (F0 m 40 ls []) := by
    intro τ H locs ls h hP hS hl
    unfold fX11_list_J40 at h
    refine lv_aload_n hx hb dX11_list_40 rfl (lv_at hl 0 rfl) ?_
    refine va_get (D := D) (ci := 11) (v := .ref (G.1 111)) (C := RX11) (T := TX11) (N := 13) hx hb hts iwX11 hown hK hP 105 (xg_7 rfl) rfl 6 (by decide) (hts _ mw_288) (fun _ h9 => h9) rfl dX11_list_41 ?_
    refine lv_iload_n hx hb dX11_list_44 rfl (lv_at hl 1 rfl) ?_
    refine lv_iload_n hx hb dX11_list_45 rfl (lv_at hl 2 rfl) ?_
    obtain ⟨xq11, hfq12, h⟩ := obd h
    refine va_callv (va_runV (As := [.int p1, .int p2]) (rest := []) ⟨hx, hb, hml, hown, hts⟩ (kX2_gather l D G ub _ p1 p2 xq11 hfq12) (cwV 2 hts (lwW_gV mw_801 mw_557 mw_558 mw_9 mw_559) rfl rfl rfl (by decide +kernel) ⟨Nat.le_of_ble_eq_true rfl, Nat.le_of_ble_eq_true rfl⟩) ⟨fun a U g mk q => ⟨q.1, xPre_call q.2⟩, va_recv hK hP rfl (xg_13 rfl), fun U hU hW => ⟨rfl, xPre_at h0 hS hP hU hW⟩⟩ rfl rfl hl.1 rfl (lv_room (Nat.le_of_ble_eq_true rfl)) dX11_list_46 ⟨Nat.zero_le _, Nat.zero_le _⟩) hS (fun q _ h => h) (fun q h => h) (fun u t H1 locs ht hvm hw hB hz1 hq1 hS => ?_)
    obtain rfl := hw.symm
    have hP := hB.1
    rw [ht] at hP
    refine W.widen (k := 0) (n := 0) (Nat.le_refl _) (Nat.le_refl _) ?_
    refine lv_iload_n hx hb dX11_list_49 rfl (lv_at hl 3 rfl) ?_
    refine lv_iconst (v := (-1)) hx hb dX11_list_50 (by decide) ?_
    refine lv_icmp_ne (tgt := 65) hx hb dX11_list_51 (by decide) (fun hcq13 => ?_) (fun hcq13 => ?_)
    · have h := ifn hcq13 h
      refine lv_iload_n hx hb dX11_list_65 rfl (lv_at hl 3 rfl) ?_
      refine lv_aload_n hx hb dX11_list_66 rfl (lv_at hl 0 rfl) ?_
      refine va_get (D := D) (ci := 11) (v := .ref (G.1 111)) (C := RX11) (T := TX11) (N := 13) hx hb hts iwX11 hown hK hP 105 (xg_7 rfl) rfl 6 (by decide) (hts _ mw_288) (fun _ h9 => h9) rfl dX11_list_67 ?_
      refine va_getN (D := D) (ci := 2) (v := .ref (G.1 57)) (C := RX2) (T := TX2) (N := 5) hx hb hts iwX2 hown hK hP 111 (xg_13 rfl) rfl 0 (by decide) (va_Nw.use rfl (hN.F 13 rfl)) (fun _ h9 => h9) rfl dX11_list_70 ?_
      obtain ⟨xq14, hfq15, h⟩ := obd h
      refine va_calli (va_runV (As := []) (rest := [.int p3]) ⟨hx, hb, hml, hown, hts⟩ (kX7_size l D G ub _ 57 rfl xq14 hfq15) (cwV 0 hts (lwW_gV mw_795 mw_599 mw_600 mw_10 mw_601) rfl rfl rfl (by decide +kernel) ⟨Nat.le_of_ble_eq_true rfl, Nat.le_of_ble_eq_true rfl⟩) ⟨fun a U g mk q => ⟨q.1, xPre_call q.2⟩, va_recv hK hP rfl (xg_1 rfl), fun U hU hW => ⟨rfl, xPre_at h0 hS hP hU hW⟩⟩ rfl rfl hl.1 rfl (lv_room (Nat.le_of_ble_eq_true rfl)) dX11_list_73 ⟨Nat.zero_le _, Nat.zero_le _⟩) hS (fun q _ h => h) (fun q h => h) (fun r u t H1 locs ht hvm hw hB hz1 hq1 hS => ?_)
      obtain ⟨rfl, rfl⟩ := hw
      have hP := hB.1
      rw [ht] at hP
      refine W.widen (k := 0) (n := 0) (Nat.le_refl _) (Nat.le_refl _) ?_
      refine lv_icmp_ge (tgt := 95) hx hb dX11_list_76 (by decide) (fun hcq16 => ?_) (fun hcq16 => ?_)
      · have h := ifp hcq16 h
        refine lv_sipush (v := (-1003)) hx hb dX11_list_95 (by decide) ?_
        obtain rfl := Option.some.inj h
        exact W.iret (v := (-1003)) hx hb hr (fun t ht hW => ⟨⟨_, _, rfl, ⟨rfl, rfl⟩, xPre_at h0 hS hP ht hW⟩, hS.F ht⟩) hS.2.2 dX11_list_98
      have h := ifn hcq16 h
      refine lv_aload_n hx hb dX11_list_79 rfl (lv_at hl 0 rfl) ?_
      refine va_get (D := D) (ci := 11) (v := .ref (G.1 111)) (C := RX11) (T := TX11) (N := 13) hx hb hts iwX11 hown hK hP 105 (xg_7 rfl) rfl 6 (by decide) (hts _ mw_288) (fun _ h9 => h9) rfl dX11_list_80 ?_
      refine va_getN (D := D) (ci := 2) (v := .ref (G.1 57)) (C := RX2) (T := TX2) (N := 5) hx hb hts iwX2 hown hK hP 111 (xg_13 rfl) rfl 0 (by decide) (va_Nw.use rfl (hN.F 13 rfl)) (fun _ h9 => h9) rfl dX11_list_83 ?_
      refine lv_iload_n hx hb dX11_list_86 rfl (lv_at hl 3 rfl) ?_
      refine lv_iload hx hb dX11_list_87 (lv_at hl 4 rfl) ?_
      obtain ⟨xq17, hfq18, h⟩ := obd h
      refine va_calli (va_runV (As := [.int p3, .int p4]) (rest := []) ⟨hx, hb, hml, hown, hts⟩ (kX7_part l D G ub _ 57 rfl p3 p4 xq17 hfq18) (cwV 2 hts (lwW_gV mw_796 mw_607 mw_608 mw_10 mw_609) rfl rfl rfl (by decide +kernel) ⟨Nat.le_of_ble_eq_true rfl, Nat.le_of_ble_eq_true rfl⟩) ⟨fun a U g mk q => ⟨q.1, xPre_call q.2⟩, va_recv hK hP rfl (xg_1 rfl), fun U hU hW => ⟨rfl, xPre_at h0 hS hP hU hW⟩⟩ rfl rfl hl.1 rfl (lv_room (Nat.le_of_ble_eq_true rfl)) dX11_list_89 ⟨Nat.zero_le _, Nat.zero_le _⟩) hS (fun q _ h => h) (fun q h => h) (fun r u t H1 locs ht hvm hw hB hz1 hq1 hS => ?_)
      obtain ⟨rfl, rfl⟩ := hw
      have hP := hB.1
      rw [ht] at hP
      refine W.widen (k := 0) (n := 0) (Nat.le_refl _) (Nat.le_refl _) ?_
      refine lv_goto (tgt := 98) hx hb dX11_list_92 (by decide) ?_
      obtain rfl := Option.some.inj h
      exact W.iret (v := xq17.1) hx hb hr (fun t ht hW => ⟨⟨_, _, rfl, ⟨rfl, rfl⟩, xPre_at h0 hS hP ht hW⟩, hS.F ht⟩) hS.2.2 dX11_list_98
    have h := ifp hcq13 h
    refine lv_aload_n hx hb dX11_list_54 rfl (lv_at hl 0 rfl) ?_
    refine va_get (D := D) (ci := 11) (v := .ref (G.1 111)) (C := RX11) (T := TX11) (N := 13) hx hb hts iwX11 hown hK hP 105 (xg_7 rfl) rfl 6 (by decide) (hts _ mw_288) (fun _ h9 => h9) rfl dX11_list_55 ?_
    refine va_getN (D := D) (ci := 2) (v := .ref (G.1 57)) (C := RX2) (T := TX2) (N := 5) hx hb hts iwX2 hown hK hP 111 (xg_13 rfl) rfl 0 (by decide) (va_Nw.use rfl (hN.F 13 rfl)) (fun _ h9 => h9) rfl dX11_list_58 ?_
    obtain ⟨xq19, hfq20, h⟩ := obd h
    refine va_calli (va_runV (As := []) (rest := []) ⟨hx, hb, hml, hown, hts⟩ (kX7_size l D G ub _ 57 rfl xq19 hfq20) (cwV 0 hts (lwW_gV mw_795 mw_599 mw_600 mw_10 mw_601) rfl rfl rfl (by decide +kernel) ⟨Nat.le_of_ble_eq_true rfl, Nat.le_of_ble_eq_true rfl⟩) ⟨fun a U g mk q => ⟨q.1, xPre_call q.2⟩, va_recv hK hP rfl (xg_1 rfl), fun U hU hW => ⟨rfl, xPre_at h0 hS hP hU hW⟩⟩ rfl rfl hl.1 rfl (lv_room (Nat.le_of_ble_eq_true rfl)) dX11_list_61 ⟨Nat.zero_le _, Nat.zero_le _⟩) hS (fun q _ h => h) (fun q h => h) (fun r u t H1 locs ht hvm hw hB hz1 hq1 hS => ?_)
    obtain ⟨rfl, rfl⟩ := hw
    have hP := hB.1
    rw [ht] at hP
    refine W.widen (k := 0) (n := 0) (Nat.le_refl _) (Nat.le_refl _) ?_
    obtain rfl := Option.some.inj h
    exact W.iret (v := xq19.1) hx hb hr (fun t ht hW => ⟨⟨_, _, rfl, ⟨rfl, rfl⟩, xPre_at h0 hS hP ht hW⟩, hS.F ht⟩) hS.2.2 dX11_list_64
  refine lv_iload_n hx hb dX11_list_0 rfl (lv_at hl 1 rfl) ?_
  refine lv_iconst (v := 1) hx hb dX11_list_1 (by decide) ?_
  refine lv_icmp_lt (tgt := 36) hx hb dX11_list_2 (by decide) (fun hcq21 => ?_) (fun hcq21 => ?_)
  · have h := ifp hcq21 h
    refine lv_sipush (v := (-1002)) hx hb dX11_list_36 (by decide) ?_
    obtain rfl := Option.some.inj h
    exact W.iret (v := (-1002)) hx hb hr (fun t ht hW => ⟨⟨_, _, rfl, ⟨rfl, rfl⟩, xPre_at h0 hS hP ht hW⟩, hS.F ht⟩) hS.2.2 dX11_list_39
  have h := ifn hcq21 h
  refine lv_iload_n hx hb dX11_list_5 rfl (lv_at hl 1 rfl) ?_
  refine lv_sipush (v := 150) hx hb dX11_list_6 (by decide) ?_
  refine lv_icmp_gt (tgt := 36) hx hb dX11_list_9 (by decide) (fun hcq22 => ?_) (fun hcq22 => ?_)
  · have h := ifp hcq22 h
    refine lv_sipush (v := (-1002)) hx hb dX11_list_36 (by decide) ?_
    obtain rfl := Option.some.inj h
    exact W.iret (v := (-1002)) hx hb hr (fun t ht hW => ⟨⟨_, _, rfl, ⟨rfl, rfl⟩, xPre_at h0 hS hP ht hW⟩, hS.F ht⟩) hS.2.2 dX11_list_39
  have h := ifn hcq22 h
  refine lv_iload_n hx hb dX11_list_12 rfl (lv_at hl 2 rfl) ?_
  obtain ⟨xq23, hfq24, h⟩ := obd h
  refine va_calli (va_runS (As := [.int p2]) (rest := []) ⟨hx, hb, hml, hown, hts⟩ (kX11_isSide l p2 xq23 hfq24) (va_cwS 1 hts (lwW_gS mw_690 mw_691 mw_1 mw_692) rfl rfl rfl (by decide +kernel) ⟨Nat.le_of_ble_eq_true rfl, Nat.le_of_ble_eq_true rfl⟩) ⟨fun a U g mk q => ⟨q.1, trivial⟩, fun U hU hW => ⟨rfl, trivial⟩⟩ rfl rfl hl.1 rfl (lv_room (Nat.le_of_ble_eq_true rfl)) dX11_list_13 ⟨Nat.zero_le _, Nat.zero_le _⟩) hS (fun q _ h => h.elim) (fun q h => h.elim) (fun r u t H1 locs ht hvm hw hB hz1 hq1 hS => ?_)
  obtain rfl := hw.symm
  have hP := xP_kept hP hq1
  refine W.widen (k := 0) (n := 0) (Nat.le_refl _) (Nat.le_refl _) ?_
  refine lv_if_eq (tgt := 36) hx hb dX11_list_16 (by decide) (fun hcq25 => ?_) (fun hcq25 => ?_)
  · have h := ifp hcq25 h
    refine lv_sipush (v := (-1002)) hx hb dX11_list_36 (by decide) ?_
    obtain rfl := Option.some.inj h
    exact W.iret (v := (-1002)) hx hb hr (fun t ht hW => ⟨⟨_, _, rfl, ⟨rfl, rfl⟩, xPre_at h0 hS hP ht hW⟩, hS.F ht⟩) hS.2.2 dX11_list_39
  have h := ifn hcq25 h
  refine lv_iload_n hx hb dX11_list_19 rfl (lv_at hl 3 rfl) ?_
  refine lv_iconst (v := (-1)) hx hb dX11_list_20 (by decide) ?_
  refine lv_icmp_lt (tgt := 36) hx hb dX11_list_21 (by decide) (fun hcq26 => ?_) (fun hcq26 => ?_)
  · have h := ifp hcq26 h
    refine lv_sipush (v := (-1002)) hx hb dX11_list_36 (by decide) ?_
    obtain rfl := Option.some.inj h
    exact W.iret (v := (-1002)) hx hb hr (fun t ht hW => ⟨⟨_, _, rfl, ⟨rfl, rfl⟩, xPre_at h0 hS hP ht hW⟩, hS.F ht⟩) hS.2.2 dX11_list_39
  have h := ifn hcq26 h
  refine lv_iload_n hx hb dX11_list_24 rfl (lv_at hl 3 rfl) ?_
  refine lv_if_lt (tgt := 40) hx hb dX11_list_25 (by decide) (fun hcq27 => ?_) (fun hcq27 => ?_)
  · have h := ifp hcq27 h
    exact J40 _ _ _ _ h hP hS (lv_sub hl [0, 1, 2, 3, 4] rfl)
  have h := ifn hcq27 h
  refine lv_iload hx hb dX11_list_28 (lv_at hl 4 rfl) ?_
  obtain ⟨xq28, hfq29, h⟩ := obd h
  refine va_calli (va_runS (As := [.int p4]) (rest := []) ⟨hx, hb, hml, hown, hts⟩ (kX11_isPart l p4 xq28 hfq29) (va_cwS 1 hts (lwW_gS mw_500 mw_501 mw_1 mw_502) rfl rfl rfl (by decide +kernel) ⟨Nat.le_of_ble_eq_true rfl, Nat.le_of_ble_eq_true rfl⟩) ⟨fun a U g mk q => ⟨q.1, trivial⟩, fun U hU hW => ⟨rfl, trivial⟩⟩ rfl rfl hl.1 rfl (lv_room (Nat.le_of_ble_eq_true rfl)) dX11_list_30 ⟨Nat.zero_le _, Nat.zero_le _⟩) hS (fun q _ h => h.elim) (fun q h => h.elim) (fun r u t H1 locs ht hvm hw hB hz1 hq1 hS => ?_)
  obtain rfl := hw.symm
  have hP := xP_kept hP hq1
  refine W.widen (k := 0) (n := 0) (Nat.le_refl _) (Nat.le_refl _) ?_
  refine lv_if_ne (tgt := 40) hx hb dX11_list_33 (by decide) (fun hcq30 => ?_) (fun hcq30 => ?_)
  · have h := ifn hcq30 h
    exact J40 _ _ _ _ h hP hS (lv_sub hl [0, 1, 2, 3, 4] rfl)
  have h := ifp hcq30 h
  refine lv_sipush (v := (-1002)) hx hb dX11_list_36 (by decide) ?_
  obtain rfl := Option.some.inj h
  exact W.iret (v := (-1002)) hx hb hr (fun t ht hW => ⟨⟨_, _, rfl, ⟨rfl, rfl⟩, xPre_at h0 hS hP ht hW⟩, hS.F ht⟩) hS.2.2 dX11_list_39
def fX11_squares_J32 (p1 : Int32) (p2 : Int32) (p3 : Int32)  (τ : QMem) : Option (Int32 × QMem) :=
  (fX0_gather p1 τ).bind fun xq1 => (if p2 = (-2) then ((fX0_arrangements xq1).bind fun xq12 => (some (xq12.1, xq12.2))) else (if p2 = (-1) then ((fX7_size 58 xq1).bind fun xq10 => (some (xq10.1, xq10.2))) else ((fX7_size 58 xq1).bind fun xq5 => (if xq5.1 ≤ p2 then (some ((-1003), xq5.2)) else ((fX7_part 58 p2 p3 xq5.2).bind fun xq8 => (some (xq8.1, xq8.2)))))))
def fX11_squares (p1 : Int32) (p2 : Int32) (p3 : Int32) (σ : QMem) : Option (Int32 × QMem) :=
  if p1 < 0 then (some ((-1002), σ)) else (if 150 < p1 then (some ((-1002), σ)) else (if p2 < (-2) then (some ((-1002), σ)) else (if p2 < 0 then (fX11_squares_J32 p1 p2 p3 σ) else ((fX11_isPart p3).bind fun xq31 => (if xq31 = 0 then (some ((-1002), σ)) else (fX11_squares_J32 p1 p2 p3 σ))))))
set_option maxHeartbeats 4000000 in
set_option maxRecDepth 100000 in
theorem kX11_squares (l : Launch) (D : va_G) (G : xG) (ub : xB) (σ : QMem) (p1 : Int32) (p2 : Int32) (p3 : Int32) (res : Int32 × QMem) (h : fX11_squares p1 p2 p3 σ = some res) : Met l yX11_squares (.code yX11_squares cX11_squares 4 (some .int) :: lwW) (rmD 4) (xPc D G ub σ [.ref (G.1 105), .int p1, .int p2, .int p3]) (xQi D G ub res) 0 0 (xA G) := by
  refine Met.ofW (cc := cX11_squares) (maxL := 4) (ret := (some .int)) (by decide) rfl ?_
  intro p e s m args below meth c s₁ B hml hv
  obtain ⟨rfl, h0⟩ := hv
  have hx := B.exec
  have hb := B.bytes
  have hr := B.returns
  have hts := fun (w : Cond) (hw : w ∈ lwW) => atoms_spec (ws := (.code yX11_squares cX11_squares 4 (some .int) :: lwW)) B.pre w (List.mem_cons_of_mem _ hw)
  have hown : s.vm.findClass RX11 = some m.cls := findClass_of_methodNamed B.named
  have hlocks := B.notSynchronized
  have hP := h0.1
  have hK := h0.2.1
  have hi := h0.2.2.1
  have hZ := h0.2.2.2
  have hN := h0.2.2.2.2.2.2.2.1
  have hV := h0.2.2.2.2.2.2.2.2.1
  have hS : va_S (xA G) s.heap s.heap [] := va_S.rf
  have hl := lv_entry ([.ref (G.1 105), .int p1, .int p2, .int p3]) (n := 4) (Nat.le_of_ble_eq_true rfl)
  rw [lg_entry_eq]
  generalize (lg_sl ([.ref (G.1 105), .int p1, .int p2, .int p3]) ++ List.replicate (4 - (lg_sl ([.ref (G.1 105), .int p1, .int p2, .int p3])).length) Slot.unset).toArray = ls at hl ⊢
  have hl : lv_has ls 4 [(0, .ref (G.1 105)), (1, .int p1), (2, .int p2), (3, .int p3)] := hl
  unfold fX11_squares at h
  have J32 : ∀ (τ : QMem) (H : Heap) (locs : List Loc) (ls : Array Slot), fX11_squares_J32 p1 p2 p3 τ = some res → va_P D vwCl (xW G τ) H → va_S (xA G) s.heap H locs → lv_has ls 4 [(0, .ref (G.1 105)), (1, .int p1), (2, .int p2), (3, .int p3)] → W p l e (headSpec (.code yX11_squares cX11_squares 4 (some .int) :: lwW) (rmD 4)).room s m ([.ref (G.1 105), .int p1, .int p2, .int p3] : List Value).toArray below meth c H locs 0 0 (MQ below (xQi D G ub res) ([.ref (G.1 105), .int p1, .int p2, .int p3] : List Value).toArray s 0 0 (xA G)) (F0 m 32 ls []) := by
    intro τ H locs ls h hP hS hl
    unfold fX11_squares_J32 at h
    refine lv_aload_n hx hb dX11_squares_32 rfl (lv_at hl 0 rfl) ?_
    refine va_get (D := D) (ci := 11) (v := .ref (G.1 114)) (C := RX11) (T := TX11) (N := 13) hx hb hts iwX11 hown hK hP 105 (xg_7 rfl) rfl 9 (by decide) (hts _ mw_291) (fun _ h9 => h9) rfl dX11_squares_33 ?_
    refine lv_iload_n hx hb dX11_squares_36 rfl (lv_at hl 1 rfl) ?_
    obtain ⟨xq14, hfq15, h⟩ := obd h
    refine va_callv (va_runV (As := [.int p1]) (rest := []) ⟨hx, hb, hml, hown, hts⟩ (kX0_gather l D G ub _ p1 xq14 hfq15) (cwV 1 hts (lwW_gV mw_806 mw_807 mw_808 mw_13 mw_809) rfl rfl rfl (by decide +kernel) ⟨Nat.le_of_ble_eq_true rfl, Nat.le_of_ble_eq_true rfl⟩) ⟨fun a U g mk q => ⟨q.1, xPre_call q.2⟩, va_recv hK hP rfl (xg_16 rfl), fun U hU hW => ⟨rfl, xPre_at h0 hS hP hU hW⟩⟩ rfl rfl hl.1 rfl (lv_room (Nat.le_of_ble_eq_true rfl)) dX11_squares_37 ⟨Nat.zero_le _, Nat.zero_le _⟩) hS (fun q _ h => h) (fun q h => h) (fun u t H1 locs ht hvm hw hB hz1 hq1 hS => ?_)
    obtain rfl := hw.symm
    have hP := hB.1
    rw [ht] at hP
    refine W.widen (k := 0) (n := 0) (Nat.le_refl _) (Nat.le_refl _) ?_
    refine lv_iload_n hx hb dX11_squares_40 rfl (lv_at hl 2 rfl) ?_
    refine lv_bipush (v := (-2)) hx hb dX11_squares_41 (by decide) ?_
    refine lv_icmp_ne (tgt := 54) hx hb dX11_squares_43 (by decide) (fun hcq16 => ?_) (fun hcq16 => ?_)
    · have h := ifn hcq16 h
      refine lv_iload_n hx hb dX11_squares_54 rfl (lv_at hl 2 rfl) ?_
      refine lv_iconst (v := (-1)) hx hb dX11_squares_55 (by decide) ?_
      refine lv_icmp_ne (tgt := 70) hx hb dX11_squares_56 (by decide) (fun hcq17 => ?_) (fun hcq17 => ?_)
      · have h := ifn hcq17 h
        refine lv_iload_n hx hb dX11_squares_70 rfl (lv_at hl 2 rfl) ?_
        refine lv_aload_n hx hb dX11_squares_71 rfl (lv_at hl 0 rfl) ?_
        refine va_get (D := D) (ci := 11) (v := .ref (G.1 114)) (C := RX11) (T := TX11) (N := 13) hx hb hts iwX11 hown hK hP 105 (xg_7 rfl) rfl 9 (by decide) (hts _ mw_291) (fun _ h9 => h9) rfl dX11_squares_72 ?_
        refine va_getN (D := D) (ci := 0) (v := .ref (G.1 58)) (C := RX0) (T := TX0) (N := 1) hx hb hts iwX0 hown hK hP 114 (xg_16 rfl) rfl 0 (by decide) (va_Nw.use rfl (hN.F 16 rfl)) (fun _ h9 => h9) rfl dX11_squares_75 ?_
        obtain ⟨xq18, hfq19, h⟩ := obd h
        refine va_calli (va_runV (As := []) (rest := [.int p2]) ⟨hx, hb, hml, hown, hts⟩ (kX7_size l D G ub _ 58 rfl xq18 hfq19) (cwV 0 hts (lwW_gV mw_795 mw_599 mw_600 mw_10 mw_601) rfl rfl rfl (by decide +kernel) ⟨Nat.le_of_ble_eq_true rfl, Nat.le_of_ble_eq_true rfl⟩) ⟨fun a U g mk q => ⟨q.1, xPre_call q.2⟩, va_recv hK hP rfl (xg_1 rfl), fun U hU hW => ⟨rfl, xPre_at h0 hS hP hU hW⟩⟩ rfl rfl hl.1 rfl (lv_room (Nat.le_of_ble_eq_true rfl)) dX11_squares_78 ⟨Nat.zero_le _, Nat.zero_le _⟩) hS (fun q _ h => h) (fun q h => h) (fun r u t H1 locs ht hvm hw hB hz1 hq1 hS => ?_)
        obtain ⟨rfl, rfl⟩ := hw
        have hP := hB.1
        rw [ht] at hP
        refine W.widen (k := 0) (n := 0) (Nat.le_refl _) (Nat.le_refl _) ?_
        refine lv_icmp_ge (tgt := 99) hx hb dX11_squares_81 (by decide) (fun hcq20 => ?_) (fun hcq20 => ?_)
        · have h := ifp hcq20 h
          refine lv_sipush (v := (-1003)) hx hb dX11_squares_99 (by decide) ?_
          obtain rfl := Option.some.inj h
          exact W.iret (v := (-1003)) hx hb hr (fun t ht hW => ⟨⟨_, _, rfl, ⟨rfl, rfl⟩, xPre_at h0 hS hP ht hW⟩, hS.F ht⟩) hS.2.2 dX11_squares_102
        have h := ifn hcq20 h
        refine lv_aload_n hx hb dX11_squares_84 rfl (lv_at hl 0 rfl) ?_
        refine va_get (D := D) (ci := 11) (v := .ref (G.1 114)) (C := RX11) (T := TX11) (N := 13) hx hb hts iwX11 hown hK hP 105 (xg_7 rfl) rfl 9 (by decide) (hts _ mw_291) (fun _ h9 => h9) rfl dX11_squares_85 ?_
        refine va_getN (D := D) (ci := 0) (v := .ref (G.1 58)) (C := RX0) (T := TX0) (N := 1) hx hb hts iwX0 hown hK hP 114 (xg_16 rfl) rfl 0 (by decide) (va_Nw.use rfl (hN.F 16 rfl)) (fun _ h9 => h9) rfl dX11_squares_88 ?_
        refine lv_iload_n hx hb dX11_squares_91 rfl (lv_at hl 2 rfl) ?_
        refine lv_iload_n hx hb dX11_squares_92 rfl (lv_at hl 3 rfl) ?_
        obtain ⟨xq21, hfq22, h⟩ := obd h
        refine va_calli (va_runV (As := [.int p2, .int p3]) (rest := []) ⟨hx, hb, hml, hown, hts⟩ (kX7_part l D G ub _ 58 rfl p2 p3 xq21 hfq22) (cwV 2 hts (lwW_gV mw_796 mw_607 mw_608 mw_10 mw_609) rfl rfl rfl (by decide +kernel) ⟨Nat.le_of_ble_eq_true rfl, Nat.le_of_ble_eq_true rfl⟩) ⟨fun a U g mk q => ⟨q.1, xPre_call q.2⟩, va_recv hK hP rfl (xg_1 rfl), fun U hU hW => ⟨rfl, xPre_at h0 hS hP hU hW⟩⟩ rfl rfl hl.1 rfl (lv_room (Nat.le_of_ble_eq_true rfl)) dX11_squares_93 ⟨Nat.zero_le _, Nat.zero_le _⟩) hS (fun q _ h => h) (fun q h => h) (fun r u t H1 locs ht hvm hw hB hz1 hq1 hS => ?_)
        obtain ⟨rfl, rfl⟩ := hw
        have hP := hB.1
        rw [ht] at hP
        refine W.widen (k := 0) (n := 0) (Nat.le_refl _) (Nat.le_refl _) ?_
        refine lv_goto (tgt := 102) hx hb dX11_squares_96 (by decide) ?_
        obtain rfl := Option.some.inj h
        exact W.iret (v := xq21.1) hx hb hr (fun t ht hW => ⟨⟨_, _, rfl, ⟨rfl, rfl⟩, xPre_at h0 hS hP ht hW⟩, hS.F ht⟩) hS.2.2 dX11_squares_102
      have h := ifp hcq17 h
      refine lv_aload_n hx hb dX11_squares_59 rfl (lv_at hl 0 rfl) ?_
      refine va_get (D := D) (ci := 11) (v := .ref (G.1 114)) (C := RX11) (T := TX11) (N := 13) hx hb hts iwX11 hown hK hP 105 (xg_7 rfl) rfl 9 (by decide) (hts _ mw_291) (fun _ h9 => h9) rfl dX11_squares_60 ?_
      refine va_getN (D := D) (ci := 0) (v := .ref (G.1 58)) (C := RX0) (T := TX0) (N := 1) hx hb hts iwX0 hown hK hP 114 (xg_16 rfl) rfl 0 (by decide) (va_Nw.use rfl (hN.F 16 rfl)) (fun _ h9 => h9) rfl dX11_squares_63 ?_
      obtain ⟨xq23, hfq24, h⟩ := obd h
      refine va_calli (va_runV (As := []) (rest := []) ⟨hx, hb, hml, hown, hts⟩ (kX7_size l D G ub _ 58 rfl xq23 hfq24) (cwV 0 hts (lwW_gV mw_795 mw_599 mw_600 mw_10 mw_601) rfl rfl rfl (by decide +kernel) ⟨Nat.le_of_ble_eq_true rfl, Nat.le_of_ble_eq_true rfl⟩) ⟨fun a U g mk q => ⟨q.1, xPre_call q.2⟩, va_recv hK hP rfl (xg_1 rfl), fun U hU hW => ⟨rfl, xPre_at h0 hS hP hU hW⟩⟩ rfl rfl hl.1 rfl (lv_room (Nat.le_of_ble_eq_true rfl)) dX11_squares_66 ⟨Nat.zero_le _, Nat.zero_le _⟩) hS (fun q _ h => h) (fun q h => h) (fun r u t H1 locs ht hvm hw hB hz1 hq1 hS => ?_)
      obtain ⟨rfl, rfl⟩ := hw
      have hP := hB.1
      rw [ht] at hP
      refine W.widen (k := 0) (n := 0) (Nat.le_refl _) (Nat.le_refl _) ?_
      obtain rfl := Option.some.inj h
      exact W.iret (v := xq23.1) hx hb hr (fun t ht hW => ⟨⟨_, _, rfl, ⟨rfl, rfl⟩, xPre_at h0 hS hP ht hW⟩, hS.F ht⟩) hS.2.2 dX11_squares_69
    have h := ifp hcq16 h
    refine lv_aload_n hx hb dX11_squares_46 rfl (lv_at hl 0 rfl) ?_
    refine va_get (D := D) (ci := 11) (v := .ref (G.1 114)) (C := RX11) (T := TX11) (N := 13) hx hb hts iwX11 hown hK hP 105 (xg_7 rfl) rfl 9 (by decide) (hts _ mw_291) (fun _ h9 => h9) rfl dX11_squares_47 ?_
    obtain ⟨xq25, hfq26, h⟩ := obd h
    refine va_calli (va_runV (As := []) (rest := []) ⟨hx, hb, hml, hown, hts⟩ (kX0_arrangements l D G ub _ xq25 hfq26) (cwV 0 hts (lwW_gV mw_816 mw_817 mw_818 mw_13 mw_819) rfl rfl rfl (by decide +kernel) ⟨Nat.le_of_ble_eq_true rfl, Nat.le_of_ble_eq_true rfl⟩) ⟨fun a U g mk q => ⟨q.1, xPre_call q.2⟩, va_recv hK hP rfl (xg_16 rfl), fun U hU hW => ⟨rfl, xPre_at h0 hS hP hU hW⟩⟩ rfl rfl hl.1 rfl (lv_room (Nat.le_of_ble_eq_true rfl)) dX11_squares_50 ⟨Nat.zero_le _, Nat.zero_le _⟩) hS (fun q _ h => h) (fun q h => h) (fun r u t H1 locs ht hvm hw hB hz1 hq1 hS => ?_)
    obtain ⟨rfl, rfl⟩ := hw
    have hP := hB.1
    rw [ht] at hP
    refine W.widen (k := 0) (n := 0) (Nat.le_refl _) (Nat.le_refl _) ?_
    obtain rfl := Option.some.inj h
    exact W.iret (v := xq25.1) hx hb hr (fun t ht hW => ⟨⟨_, _, rfl, ⟨rfl, rfl⟩, xPre_at h0 hS hP ht hW⟩, hS.F ht⟩) hS.2.2 dX11_squares_53
  refine lv_iload_n hx hb dX11_squares_0 rfl (lv_at hl 1 rfl) ?_
  refine lv_if_lt (tgt := 28) hx hb dX11_squares_1 (by decide) (fun hcq27 => ?_) (fun hcq27 => ?_)
  · have h := ifp hcq27 h
    refine lv_sipush (v := (-1002)) hx hb dX11_squares_28 (by decide) ?_
    obtain rfl := Option.some.inj h
    exact W.iret (v := (-1002)) hx hb hr (fun t ht hW => ⟨⟨_, _, rfl, ⟨rfl, rfl⟩, xPre_at h0 hS hP ht hW⟩, hS.F ht⟩) hS.2.2 dX11_squares_31
  have h := ifn hcq27 h
  refine lv_iload_n hx hb dX11_squares_4 rfl (lv_at hl 1 rfl) ?_
  refine lv_sipush (v := 150) hx hb dX11_squares_5 (by decide) ?_
  refine lv_icmp_gt (tgt := 28) hx hb dX11_squares_8 (by decide) (fun hcq28 => ?_) (fun hcq28 => ?_)
  · have h := ifp hcq28 h
    refine lv_sipush (v := (-1002)) hx hb dX11_squares_28 (by decide) ?_
    obtain rfl := Option.some.inj h
    exact W.iret (v := (-1002)) hx hb hr (fun t ht hW => ⟨⟨_, _, rfl, ⟨rfl, rfl⟩, xPre_at h0 hS hP ht hW⟩, hS.F ht⟩) hS.2.2 dX11_squares_31
  have h := ifn hcq28 h
  refine lv_iload_n hx hb dX11_squares_11 rfl (lv_at hl 2 rfl) ?_
  refine lv_bipush (v := (-2)) hx hb dX11_squares_12 (by decide) ?_
  refine lv_icmp_lt (tgt := 28) hx hb dX11_squares_14 (by decide) (fun hcq29 => ?_) (fun hcq29 => ?_)
  · have h := ifp hcq29 h
    refine lv_sipush (v := (-1002)) hx hb dX11_squares_28 (by decide) ?_
    obtain rfl := Option.some.inj h
    exact W.iret (v := (-1002)) hx hb hr (fun t ht hW => ⟨⟨_, _, rfl, ⟨rfl, rfl⟩, xPre_at h0 hS hP ht hW⟩, hS.F ht⟩) hS.2.2 dX11_squares_31
  have h := ifn hcq29 h
  refine lv_iload_n hx hb dX11_squares_17 rfl (lv_at hl 2 rfl) ?_
  refine lv_if_lt (tgt := 32) hx hb dX11_squares_18 (by decide) (fun hcq30 => ?_) (fun hcq30 => ?_)
  · have h := ifp hcq30 h
    exact J32 _ _ _ _ h hP hS (lv_sub hl [0, 1, 2, 3] rfl)
  have h := ifn hcq30 h
  refine lv_iload_n hx hb dX11_squares_21 rfl (lv_at hl 3 rfl) ?_
  obtain ⟨xq31, hfq32, h⟩ := obd h
  refine va_calli (va_runS (As := [.int p3]) (rest := []) ⟨hx, hb, hml, hown, hts⟩ (kX11_isPart l p3 xq31 hfq32) (va_cwS 1 hts (lwW_gS mw_500 mw_501 mw_1 mw_502) rfl rfl rfl (by decide +kernel) ⟨Nat.le_of_ble_eq_true rfl, Nat.le_of_ble_eq_true rfl⟩) ⟨fun a U g mk q => ⟨q.1, trivial⟩, fun U hU hW => ⟨rfl, trivial⟩⟩ rfl rfl hl.1 rfl (lv_room (Nat.le_of_ble_eq_true rfl)) dX11_squares_22 ⟨Nat.zero_le _, Nat.zero_le _⟩) hS (fun q _ h => h.elim) (fun q h => h.elim) (fun r u t H1 locs ht hvm hw hB hz1 hq1 hS => ?_)
  obtain rfl := hw.symm
  have hP := xP_kept hP hq1
  refine W.widen (k := 0) (n := 0) (Nat.le_refl _) (Nat.le_refl _) ?_
  refine lv_if_ne (tgt := 32) hx hb dX11_squares_25 (by decide) (fun hcq33 => ?_) (fun hcq33 => ?_)
  · have h := ifn hcq33 h
    exact J32 _ _ _ _ h hP hS (lv_sub hl [0, 1, 2, 3] rfl)
  have h := ifp hcq33 h
  refine lv_sipush (v := (-1002)) hx hb dX11_squares_28 (by decide) ?_
  obtain rfl := Option.some.inj h
  exact W.iret (v := (-1002)) hx hb hr (fun t ht hW => ⟨⟨_, _, rfl, ⟨rfl, rfl⟩, xPre_at h0 hS hP ht hW⟩, hS.F ht⟩) hS.2.2 dX11_squares_31
def fX11_turned_J67 (p1 : Int32) (p2 : Int32) (p3 : Int32) (s0 : Nat) (s1 : Int32) (s2 : Int32) (s3 : Int32) (s4 : Int32) (τ : QMem) : Option (Int32 × QMem) :=
  (fX6_put s0 s1 s2 s3 s4 τ).bind fun xq1 => (if (p1 < 0 ∨ xl 102 ≤ p1.toNatClampNeg) then none else ((fX6_becomeProduct 34 (xb 102 + p1.toNatClampNeg) 35 xq1).bind fun xq4 => (if (p1 < 0 ∨ xl 102 ≤ p1.toNatClampNeg) then none else ((fX6_becomeConjugate 35 (xb 102 + p1.toNatClampNeg) xq4).bind fun xq7 => ((fX6_becomeProduct 34 34 35 xq7).bind fun xq9 => ((fX6_part 34 (p3 + 1) xq9).bind fun xq11 => (some (xq11.1, xq11.2))))))))
def fX11_turned_J57 (p1 : Int32) (p2 : Int32) (p3 : Int32) (s0 : Nat) (s1 : Int32) (s2 : Int32) (s3 : Int32) (τ : QMem) : Option (Int32 × QMem) :=
  if p2 = 2 then (fX11_turned_J67 p1 p2 p3 s0 s1 s2 s3 2 τ) else (fX11_turned_J67 p1 p2 p3 s0 s1 s2 s3 0 τ)
def fX11_turned_J47 (p1 : Int32) (p2 : Int32) (p3 : Int32) (s0 : Nat) (s1 : Int32) (s2 : Int32) (τ : QMem) : Option (Int32 × QMem) :=
  if p2 = 1 then (fX11_turned_J57 p1 p2 p3 s0 s1 s2 2 τ) else (fX11_turned_J57 p1 p2 p3 s0 s1 s2 0 τ)
def fX11_turned (p1 : Int32) (p2 : Int32) (p3 : Int32) (σ : QMem) : Option (Int32 × QMem) :=
  (fX11_isSlot p1).bind fun xq29 => (if xq29 = 0 then (some ((-1001), σ)) else (if p2 < 0 then (some ((-1002), σ)) else (if 2 < p2 then (some ((-1002), σ)) else (if p3 < 0 then (some ((-1002), σ)) else (if p3 ≤ 2 then (if p2 = 0 then (fX11_turned_J47 p1 p2 p3 35 0 2 σ) else (fX11_turned_J47 p1 p2 p3 35 0 0 σ)) else (some ((-1002), σ)))))))
set_option maxHeartbeats 4000000 in
set_option maxRecDepth 100000 in
theorem kX11_turned (l : Launch) (D : va_G) (G : xG) (ub : xB) (σ : QMem) (p1 : Int32) (p2 : Int32) (p3 : Int32) (res : Int32 × QMem) (h : fX11_turned p1 p2 p3 σ = some res) : Met l yX11_turned (.code yX11_turned cX11_turned 4 (some .int) :: lwW) (rmD 2) (xPc D G ub σ [.ref (G.1 105), .int p1, .int p2, .int p3]) (xQi D G ub res) 0 0 (xA G) := by
  refine Met.ofW (cc := cX11_turned) (maxL := 4) (ret := (some .int)) (by decide) rfl ?_
  intro p e s m args below meth c s₁ B hml hv
  obtain ⟨rfl, h0⟩ := hv
  have hx := B.exec
  have hb := B.bytes
  have hr := B.returns
  have hts := fun (w : Cond) (hw : w ∈ lwW) => atoms_spec (ws := (.code yX11_turned cX11_turned 4 (some .int) :: lwW)) B.pre w (List.mem_cons_of_mem _ hw)
  have hown : s.vm.findClass RX11 = some m.cls := findClass_of_methodNamed B.named
  have hlocks := B.notSynchronized
  have hP := h0.1
  have hK := h0.2.1
  have hi := h0.2.2.1
  have hZ := h0.2.2.2
  have hN := h0.2.2.2.2.2.2.2.1
  have hV := h0.2.2.2.2.2.2.2.2.1
  have hS : va_S (xA G) s.heap s.heap [] := va_S.rf
  have hl := lv_entry ([.ref (G.1 105), .int p1, .int p2, .int p3]) (n := 4) (Nat.le_of_ble_eq_true rfl)
  rw [lg_entry_eq]
  generalize (lg_sl ([.ref (G.1 105), .int p1, .int p2, .int p3]) ++ List.replicate (4 - (lg_sl ([.ref (G.1 105), .int p1, .int p2, .int p3])).length) Slot.unset).toArray = ls at hl ⊢
  have hl : lv_has ls 4 [(0, .ref (G.1 105)), (1, .int p1), (2, .int p2), (3, .int p3)] := hl
  unfold fX11_turned at h
  have J67 : ∀ (s0 : Nat) (hs0 : xk s0 = 0) (s1 : Int32) (s2 : Int32) (s3 : Int32) (s4 : Int32) (τ : QMem) (H : Heap) (locs : List Loc) (ls : Array Slot), fX11_turned_J67 p1 p2 p3 s0 s1 s2 s3 s4 τ = some res → va_P D vwCl (xW G τ) H → va_S (xA G) s.heap H locs → lv_has ls 4 [(0, .ref (G.1 105)), (1, .int p1), (3, .int p3)] → W p l e (headSpec (.code yX11_turned cX11_turned 4 (some .int) :: lwW) (rmD 2)).room s m ([.ref (G.1 105), .int p1, .int p2, .int p3] : List Value).toArray below meth c H locs 0 0 (MQ below (xQi D G ub res) ([.ref (G.1 105), .int p1, .int p2, .int p3] : List Value).toArray s 0 0 (xA G)) (F0 m 67 ls [.int s4, .int s3, .int s2, .int s1, .ref (G.1 s0)]) := by
    intro s0 hs0 s1 s2 s3 s4 τ H locs ls h hP hS hl
    unfold fX11_turned_J67 at h
    obtain ⟨xq13, hfq14, h⟩ := obd h
    refine va_callv (va_runV (As := [.int s1, .int s2, .int s3, .int s4]) (rest := []) ⟨hx, hb, hml, hown, hts⟩ (kX6_put l D G ub _ s0 hs0 s1 s2 s3 s4 xq13 hfq14) (cwV 4 hts (lwW_gV mw_466 mw_467 mw_468 mw_3 mw_469) rfl rfl rfl (by decide +kernel) ⟨Nat.le_of_ble_eq_true rfl, Nat.le_of_ble_eq_true rfl⟩) ⟨fun a U g mk q => ⟨q.1, xPre_call q.2⟩, va_recv hK hP rfl (xg_0 hs0), fun U hU hW => ⟨rfl, xPre_at h0 hS hP hU hW⟩⟩ rfl rfl hl.1 rfl (lv_room (Nat.le_of_ble_eq_true rfl)) dX11_turned_67 ⟨Nat.zero_le _, Nat.zero_le _⟩) hS (fun q _ h => h) (fun q h => h) (fun u t H1 locs ht hvm hw hB hz1 hq1 hS => ?_)
    obtain rfl := hw.symm
    have hP := hB.1
    rw [ht] at hP
    refine W.widen (k := 0) (n := 0) (Nat.le_refl _) (Nat.le_refl _) ?_
    refine lv_aload_n hx hb dX11_turned_70 rfl (lv_at hl 0 rfl) ?_
    refine va_get (D := D) (ci := 11) (v := .ref (G.1 34)) (C := RX11) (T := TX11) (N := 13) hx hb hts iwX11 hown hK hP 105 (xg_7 rfl) rfl 10 (by decide) (hts _ mw_292) (fun _ h9 => h9) rfl dX11_turned_71 ?_
    refine lv_aload_n hx hb dX11_turned_74 rfl (lv_at hl 0 rfl) ?_
    refine va_get (D := D) (ci := 11) (v := .ref (G.1 102)) (C := RX11) (T := TX11) (N := 13) hx hb hts iwX11 hown hK hP 105 (xg_7 rfl) rfl 0 (by decide) (hts _ mw_282) (fun _ h9 => h9) rfl dX11_turned_75 ?_
    refine lv_iload_n hx hb dX11_turned_78 rfl (lv_at hl 1 rfl) ?_
    obtain ⟨hiq15, h⟩ := nif h
    refine va_aldq hx hb hK hP 102 1 (xg_6 rfl) rfl hiq15 dX11_turned_79 ?_
    refine W.eq (g2 := F0 m 80 ls [.ref (G.1 (xb 102 + p1.toNatClampNeg)), .ref (G.1 34)]) rfl ?_
    refine lv_aload_n hx hb dX11_turned_80 rfl (lv_at hl 0 rfl) ?_
    refine va_get (D := D) (ci := 11) (v := .ref (G.1 35)) (C := RX11) (T := TX11) (N := 13) hx hb hts iwX11 hown hK hP 105 (xg_7 rfl) rfl 11 (by decide) (hts _ mw_293) (fun _ h9 => h9) rfl dX11_turned_81 ?_
    obtain ⟨xq16, hfq17, h⟩ := obd h
    refine va_callv (va_runV (As := [.ref (G.1 (xb 102 + p1.toNatClampNeg)), .ref (G.1 35)]) (rest := []) ⟨hx, hb, hml, hown, hts⟩ (kX6_becomeProduct l D G ub _ 34 rfl (xb 102 + p1.toNatClampNeg) (xr6 rfl (vp_lt hiq15)) 35 rfl xq16 hfq17) (cwV 2 hts (lwW_gV mw_831 mw_583 mw_584 mw_3 mw_585) rfl rfl rfl (by decide +kernel) ⟨Nat.le_of_ble_eq_true rfl, Nat.le_of_ble_eq_true rfl⟩) ⟨fun a U g mk q => ⟨q.1, xPre_call q.2⟩, va_recv hK hP rfl (xg_0 rfl), fun U hU hW => ⟨rfl, xPre_at h0 hS hP hU hW⟩⟩ rfl rfl hl.1 rfl (lv_room (Nat.le_of_ble_eq_true rfl)) dX11_turned_84 ⟨Nat.zero_le _, Nat.zero_le _⟩) hS (fun q _ h => h) (fun q h => h) (fun u t H1 locs ht hvm hw hB hz1 hq1 hS => ?_)
    obtain rfl := hw.symm
    have hP := hB.1
    rw [ht] at hP
    refine W.widen (k := 0) (n := 0) (Nat.le_refl _) (Nat.le_refl _) ?_
    refine lv_aload_n hx hb dX11_turned_87 rfl (lv_at hl 0 rfl) ?_
    refine va_get (D := D) (ci := 11) (v := .ref (G.1 35)) (C := RX11) (T := TX11) (N := 13) hx hb hts iwX11 hown hK hP 105 (xg_7 rfl) rfl 11 (by decide) (hts _ mw_293) (fun _ h9 => h9) rfl dX11_turned_88 ?_
    refine lv_aload_n hx hb dX11_turned_91 rfl (lv_at hl 0 rfl) ?_
    refine va_get (D := D) (ci := 11) (v := .ref (G.1 102)) (C := RX11) (T := TX11) (N := 13) hx hb hts iwX11 hown hK hP 105 (xg_7 rfl) rfl 0 (by decide) (hts _ mw_282) (fun _ h9 => h9) rfl dX11_turned_92 ?_
    refine lv_iload_n hx hb dX11_turned_95 rfl (lv_at hl 1 rfl) ?_
    obtain ⟨hiq18, h⟩ := nif h
    refine va_aldq hx hb hK hP 102 1 (xg_6 rfl) rfl hiq18 dX11_turned_96 ?_
    refine W.eq (g2 := F0 m 97 ls [.ref (G.1 (xb 102 + p1.toNatClampNeg)), .ref (G.1 35)]) rfl ?_
    obtain ⟨xq19, hfq20, h⟩ := obd h
    refine va_callv (va_runV (As := [.ref (G.1 (xb 102 + p1.toNatClampNeg))]) (rest := []) ⟨hx, hb, hml, hown, hts⟩ (kX6_becomeConjugate l D G ub _ 35 rfl (xb 102 + p1.toNatClampNeg) (xr6 rfl (vp_lt hiq18)) xq19 hfq20) (cwV 1 hts (lwW_gV mw_698 mw_619 mw_620 mw_3 mw_621) rfl rfl rfl (by decide +kernel) ⟨Nat.le_of_ble_eq_true rfl, Nat.le_of_ble_eq_true rfl⟩) ⟨fun a U g mk q => ⟨q.1, xPre_call q.2⟩, va_recv hK hP rfl (xg_0 rfl), fun U hU hW => ⟨rfl, xPre_at h0 hS hP hU hW⟩⟩ rfl rfl hl.1 rfl (lv_room (Nat.le_of_ble_eq_true rfl)) dX11_turned_97 ⟨Nat.zero_le _, Nat.zero_le _⟩) hS (fun q _ h => h) (fun q h => h) (fun u t H1 locs ht hvm hw hB hz1 hq1 hS => ?_)
    obtain rfl := hw.symm
    have hP := hB.1
    rw [ht] at hP
    refine W.widen (k := 0) (n := 0) (Nat.le_refl _) (Nat.le_refl _) ?_
    refine lv_aload_n hx hb dX11_turned_100 rfl (lv_at hl 0 rfl) ?_
    refine va_get (D := D) (ci := 11) (v := .ref (G.1 34)) (C := RX11) (T := TX11) (N := 13) hx hb hts iwX11 hown hK hP 105 (xg_7 rfl) rfl 10 (by decide) (hts _ mw_292) (fun _ h9 => h9) rfl dX11_turned_101 ?_
    refine lv_aload_n hx hb dX11_turned_104 rfl (lv_at hl 0 rfl) ?_
    refine va_get (D := D) (ci := 11) (v := .ref (G.1 34)) (C := RX11) (T := TX11) (N := 13) hx hb hts iwX11 hown hK hP 105 (xg_7 rfl) rfl 10 (by decide) (hts _ mw_292) (fun _ h9 => h9) rfl dX11_turned_105 ?_
    refine lv_aload_n hx hb dX11_turned_108 rfl (lv_at hl 0 rfl) ?_
    refine va_get (D := D) (ci := 11) (v := .ref (G.1 35)) (C := RX11) (T := TX11) (N := 13) hx hb hts iwX11 hown hK hP 105 (xg_7 rfl) rfl 11 (by decide) (hts _ mw_293) (fun _ h9 => h9) rfl dX11_turned_109 ?_
    obtain ⟨xq21, hfq22, h⟩ := obd h
    refine va_callv (va_runV (As := [.ref (G.1 34), .ref (G.1 35)]) (rest := []) ⟨hx, hb, hml, hown, hts⟩ (kX6_becomeProduct l D G ub _ 34 rfl 34 rfl 35 rfl xq21 hfq22) (cwV 2 hts (lwW_gV mw_831 mw_583 mw_584 mw_3 mw_585) rfl rfl rfl (by decide +kernel) ⟨Nat.le_of_ble_eq_true rfl, Nat.le_of_ble_eq_true rfl⟩) ⟨fun a U g mk q => ⟨q.1, xPre_call q.2⟩, va_recv hK hP rfl (xg_0 rfl), fun U hU hW => ⟨rfl, xPre_at h0 hS hP hU hW⟩⟩ rfl rfl hl.1 rfl (lv_room (Nat.le_of_ble_eq_true rfl)) dX11_turned_112 ⟨Nat.zero_le _, Nat.zero_le _⟩) hS (fun q _ h => h) (fun q h => h) (fun u t H1 locs ht hvm hw hB hz1 hq1 hS => ?_)
    obtain rfl := hw.symm
    have hP := hB.1
    rw [ht] at hP
    refine W.widen (k := 0) (n := 0) (Nat.le_refl _) (Nat.le_refl _) ?_
    refine lv_aload_n hx hb dX11_turned_115 rfl (lv_at hl 0 rfl) ?_
    refine va_get (D := D) (ci := 11) (v := .ref (G.1 34)) (C := RX11) (T := TX11) (N := 13) hx hb hts iwX11 hown hK hP 105 (xg_7 rfl) rfl 10 (by decide) (hts _ mw_292) (fun _ h9 => h9) rfl dX11_turned_116 ?_
    refine lv_iload_n hx hb dX11_turned_119 rfl (lv_at hl 2 rfl) ?_
    refine lv_iconst (v := 1) hx hb dX11_turned_120 (by decide) ?_
    refine lv_iadd hx hb dX11_turned_121 ?_
    obtain ⟨xq23, hfq24, h⟩ := obd h
    refine va_calli (va_runV (As := [.int (p3 + 1)]) (rest := []) ⟨hx, hb, hml, hown, hts⟩ (kX6_part l D G ub _ 34 rfl (p3 + 1) xq23 hfq24) (cwV 1 hts (lwW_gV mw_503 mw_504 mw_505 mw_3 mw_506) rfl rfl rfl (by decide +kernel) ⟨Nat.le_of_ble_eq_true rfl, Nat.le_of_ble_eq_true rfl⟩) ⟨fun a U g mk q => ⟨q.1, xPre_call q.2⟩, va_recv hK hP rfl (xg_0 rfl), fun U hU hW => ⟨rfl, xPre_at h0 hS hP hU hW⟩⟩ rfl rfl hl.1 rfl (lv_room (Nat.le_of_ble_eq_true rfl)) dX11_turned_122 ⟨Nat.zero_le _, Nat.zero_le _⟩) hS (fun q _ h => h) (fun q h => h) (fun r u t H1 locs ht hvm hw hB hz1 hq1 hS => ?_)
    obtain ⟨rfl, rfl⟩ := hw
    have hP := hB.1
    rw [ht] at hP
    refine W.widen (k := 0) (n := 0) (Nat.le_refl _) (Nat.le_refl _) ?_
    obtain rfl := Option.some.inj h
    exact W.iret (v := xq23.1) hx hb hr (fun t ht hW => ⟨⟨_, _, rfl, ⟨rfl, rfl⟩, xPre_at h0 hS hP ht hW⟩, hS.F ht⟩) hS.2.2 dX11_turned_125
  have J57 : ∀ (s0 : Nat) (hs0 : xk s0 = 0) (s1 : Int32) (s2 : Int32) (s3 : Int32) (τ : QMem) (H : Heap) (locs : List Loc) (ls : Array Slot), fX11_turned_J57 p1 p2 p3 s0 s1 s2 s3 τ = some res → va_P D vwCl (xW G τ) H → va_S (xA G) s.heap H locs → lv_has ls 4 [(0, .ref (G.1 105)), (1, .int p1), (2, .int p2), (3, .int p3)] → W p l e (headSpec (.code yX11_turned cX11_turned 4 (some .int) :: lwW) (rmD 2)).room s m ([.ref (G.1 105), .int p1, .int p2, .int p3] : List Value).toArray below meth c H locs 0 0 (MQ below (xQi D G ub res) ([.ref (G.1 105), .int p1, .int p2, .int p3] : List Value).toArray s 0 0 (xA G)) (F0 m 57 ls [.int s3, .int s2, .int s1, .ref (G.1 s0)]) := by
    intro s0 hs0 s1 s2 s3 τ H locs ls h hP hS hl
    unfold fX11_turned_J57 at h
    refine lv_iload_n hx hb dX11_turned_57 rfl (lv_at hl 2 rfl) ?_
    refine lv_iconst (v := 2) hx hb dX11_turned_58 (by decide) ?_
    refine lv_icmp_ne (tgt := 66) hx hb dX11_turned_59 (by decide) (fun hcq26 => ?_) (fun hcq26 => ?_)
    · have h := ifn hcq26 h
      refine lv_iconst (v := 0) hx hb dX11_turned_66 (by decide) ?_
      exact J67 s0 hs0 s1 s2 s3 0 _ _ _ _ h hP hS (lv_sub hl [0, 1, 3] rfl)
    have h := ifp hcq26 h
    refine lv_iconst (v := 2) hx hb dX11_turned_62 (by decide) ?_
    refine lv_goto (tgt := 67) hx hb dX11_turned_63 (by decide) ?_
    exact J67 s0 hs0 s1 s2 s3 2 _ _ _ _ h hP hS (lv_sub hl [0, 1, 3] rfl)
  have J47 : ∀ (s0 : Nat) (hs0 : xk s0 = 0) (s1 : Int32) (s2 : Int32) (τ : QMem) (H : Heap) (locs : List Loc) (ls : Array Slot), fX11_turned_J47 p1 p2 p3 s0 s1 s2 τ = some res → va_P D vwCl (xW G τ) H → va_S (xA G) s.heap H locs → lv_has ls 4 [(0, .ref (G.1 105)), (1, .int p1), (2, .int p2), (3, .int p3)] → W p l e (headSpec (.code yX11_turned cX11_turned 4 (some .int) :: lwW) (rmD 2)).room s m ([.ref (G.1 105), .int p1, .int p2, .int p3] : List Value).toArray below meth c H locs 0 0 (MQ below (xQi D G ub res) ([.ref (G.1 105), .int p1, .int p2, .int p3] : List Value).toArray s 0 0 (xA G)) (F0 m 47 ls [.int s2, .int s1, .ref (G.1 s0)]) := by
    intro s0 hs0 s1 s2 τ H locs ls h hP hS hl
    unfold fX11_turned_J47 at h
    refine lv_iload_n hx hb dX11_turned_47 rfl (lv_at hl 2 rfl) ?_
    refine lv_iconst (v := 1) hx hb dX11_turned_48 (by decide) ?_
    refine lv_icmp_ne (tgt := 56) hx hb dX11_turned_49 (by decide) (fun hcq28 => ?_) (fun hcq28 => ?_)
    · have h := ifn hcq28 h
      refine lv_iconst (v := 0) hx hb dX11_turned_56 (by decide) ?_
      exact J57 s0 hs0 s1 s2 0 _ _ _ _ h hP hS (lv_sub hl [0, 1, 2, 3] rfl)
    have h := ifp hcq28 h
    refine lv_iconst (v := 2) hx hb dX11_turned_52 (by decide) ?_
    refine lv_goto (tgt := 57) hx hb dX11_turned_53 (by decide) ?_
    exact J57 s0 hs0 s1 s2 2 _ _ _ _ h hP hS (lv_sub hl [0, 1, 2, 3] rfl)
  refine lv_iload_n hx hb dX11_turned_0 rfl (lv_at hl 1 rfl) ?_
  obtain ⟨xq29, hfq30, h⟩ := obd h
  refine va_calli (va_runS (As := [.int p1]) (rest := []) ⟨hx, hb, hml, hown, hts⟩ (kX11_isSlot l p1 xq29 hfq30) (va_cwS 1 hts (lwW_gS mw_463 mw_464 mw_1 mw_465) rfl rfl rfl (by decide +kernel) ⟨Nat.le_of_ble_eq_true rfl, Nat.le_of_ble_eq_true rfl⟩) ⟨fun a U g mk q => ⟨q.1, trivial⟩, fun U hU hW => ⟨rfl, trivial⟩⟩ rfl rfl hl.1 rfl (lv_room (Nat.le_of_ble_eq_true rfl)) dX11_turned_1 ⟨Nat.zero_le _, Nat.zero_le _⟩) hS (fun q _ h => h.elim) (fun q h => h.elim) (fun r u t H1 locs ht hvm hw hB hz1 hq1 hS => ?_)
  obtain rfl := hw.symm
  have hP := xP_kept hP hq1
  refine W.widen (k := 0) (n := 0) (Nat.le_refl _) (Nat.le_refl _) ?_
  refine lv_if_ne (tgt := 11) hx hb dX11_turned_4 (by decide) (fun hcq31 => ?_) (fun hcq31 => ?_)
  · have h := ifn hcq31 h
    refine lv_iload_n hx hb dX11_turned_11 rfl (lv_at hl 2 rfl) ?_
    refine lv_if_lt (tgt := 29) hx hb dX11_turned_12 (by decide) (fun hcq32 => ?_) (fun hcq32 => ?_)
    · have h := ifp hcq32 h
      refine lv_sipush (v := (-1002)) hx hb dX11_turned_29 (by decide) ?_
      obtain rfl := Option.some.inj h
      exact W.iret (v := (-1002)) hx hb hr (fun t ht hW => ⟨⟨_, _, rfl, ⟨rfl, rfl⟩, xPre_at h0 hS hP ht hW⟩, hS.F ht⟩) hS.2.2 dX11_turned_32
    have h := ifn hcq32 h
    refine lv_iload_n hx hb dX11_turned_15 rfl (lv_at hl 2 rfl) ?_
    refine lv_iconst (v := 2) hx hb dX11_turned_16 (by decide) ?_
    refine lv_icmp_gt (tgt := 29) hx hb dX11_turned_17 (by decide) (fun hcq33 => ?_) (fun hcq33 => ?_)
    · have h := ifp hcq33 h
      refine lv_sipush (v := (-1002)) hx hb dX11_turned_29 (by decide) ?_
      obtain rfl := Option.some.inj h
      exact W.iret (v := (-1002)) hx hb hr (fun t ht hW => ⟨⟨_, _, rfl, ⟨rfl, rfl⟩, xPre_at h0 hS hP ht hW⟩, hS.F ht⟩) hS.2.2 dX11_turned_32
    have h := ifn hcq33 h
    refine lv_iload_n hx hb dX11_turned_20 rfl (lv_at hl 3 rfl) ?_
    refine lv_if_lt (tgt := 29) hx hb dX11_turned_21 (by decide) (fun hcq34 => ?_) (fun hcq34 => ?_)
    · have h := ifp hcq34 h
      refine lv_sipush (v := (-1002)) hx hb dX11_turned_29 (by decide) ?_
      obtain rfl := Option.some.inj h
      exact W.iret (v := (-1002)) hx hb hr (fun t ht hW => ⟨⟨_, _, rfl, ⟨rfl, rfl⟩, xPre_at h0 hS hP ht hW⟩, hS.F ht⟩) hS.2.2 dX11_turned_32
    have h := ifn hcq34 h
    refine lv_iload_n hx hb dX11_turned_24 rfl (lv_at hl 3 rfl) ?_
    refine lv_iconst (v := 2) hx hb dX11_turned_25 (by decide) ?_
    refine lv_icmp_le (tgt := 33) hx hb dX11_turned_26 (by decide) (fun hcq35 => ?_) (fun hcq35 => ?_)
    · have h := ifp hcq35 h
      refine lv_aload_n hx hb dX11_turned_33 rfl (lv_at hl 0 rfl) ?_
      refine va_get (D := D) (ci := 11) (v := .ref (G.1 35)) (C := RX11) (T := TX11) (N := 13) hx hb hts iwX11 hown hK hP 105 (xg_7 rfl) rfl 11 (by decide) (hts _ mw_293) (fun _ h9 => h9) rfl dX11_turned_34 ?_
      refine lv_iconst (v := 0) hx hb dX11_turned_37 (by decide) ?_
      refine lv_iload_n hx hb dX11_turned_38 rfl (lv_at hl 2 rfl) ?_
      refine lv_if_ne (tgt := 46) hx hb dX11_turned_39 (by decide) (fun hcq36 => ?_) (fun hcq36 => ?_)
      · have h := ifn hcq36 h
        refine lv_iconst (v := 0) hx hb dX11_turned_46 (by decide) ?_
        exact J47 35 rfl 0 0 _ _ _ _ h hP hS (lv_sub hl [0, 1, 2, 3] rfl)
      have h := ifp hcq36 h
      refine lv_iconst (v := 2) hx hb dX11_turned_42 (by decide) ?_
      refine lv_goto (tgt := 47) hx hb dX11_turned_43 (by decide) ?_
      exact J47 35 rfl 0 2 _ _ _ _ h hP hS (lv_sub hl [0, 1, 2, 3] rfl)
    have h := ifn hcq35 h
    refine lv_sipush (v := (-1002)) hx hb dX11_turned_29 (by decide) ?_
    obtain rfl := Option.some.inj h
    exact W.iret (v := (-1002)) hx hb hr (fun t ht hW => ⟨⟨_, _, rfl, ⟨rfl, rfl⟩, xPre_at h0 hS hP ht hW⟩, hS.F ht⟩) hS.2.2 dX11_turned_32
  have h := ifp hcq31 h
  refine lv_sipush (v := (-1001)) hx hb dX11_turned_7 (by decide) ?_
  obtain rfl := Option.some.inj h
  exact W.iret (v := (-1001)) hx hb hr (fun t ht hW => ⟨⟨_, _, rfl, ⟨rfl, rfl⟩, xPre_at h0 hS hP ht hW⟩, hS.F ht⟩) hS.2.2 dX11_turned_10
def fX11_isAhead (p1 : Int32) (p2 : Int32) (σ : QMem) : Option (Int32 × QMem) :=
  (fX11_isSlot p1).bind fun xq1 => (if xq1 = 0 then (some (0, σ)) else ((fX11_isSlot p2).bind fun xq4 => (if xq4 = 0 then (some (0, σ)) else (if (p1 < 0 ∨ xl 102 ≤ p1.toNatClampNeg) then none else (if (p2 < 0 ∨ xl 102 ≤ p2.toNatClampNeg) then none else ((fX6_norm (xb 102 + p1.toNatClampNeg) σ).bind fun xq9 => ((fX6_norm (xb 102 + p2.toNatClampNeg) xq9.2).bind fun xq11 => (if xq9.1 = xq11.1 then ((fX6_isSame (xb 102 + p1.toNatClampNeg) (xb 102 + p2.toNatClampNeg) xq11.2).bind fun xq14 => (if xq14.1 = 0 then ((fX6_isGreaterThan (xb 102 + p1.toNatClampNeg) (xb 102 + p2.toNatClampNeg) xq14.2).bind fun xq17 => (if ¬ (xq17.1 = 0 ∨ xq17.1 = 1) then none else (some (xq17.1, xq17.2)))) else (if p2 ≤ p1 then (some (0, xq14.2)) else (some (1, xq14.2))))) else ((fX6_norm (xb 102 + p1.toNatClampNeg) xq11.2).bind fun xq21 => ((fX6_norm (xb 102 + p2.toNatClampNeg) xq21.2).bind fun xq23 => (if xq23.1 ≤ xq21.1 then (some (0, xq23.2)) else (some (1, xq23.2)))))))))))))
set_option maxHeartbeats 4000000 in
set_option maxRecDepth 100000 in
theorem kX11_isAhead (l : Launch) (D : va_G) (G : xG) (ub : xB) (σ : QMem) (p1 : Int32) (p2 : Int32) (res : Int32 × QMem) (h : fX11_isAhead p1 p2 σ = some res) : Met l yX11_isAhead (.code yX11_isAhead cX11_isAhead 5 (some .boolean) :: lwW) (rmD 1) (xPc D G ub σ [.ref (G.1 105), .int p1, .int p2]) (xQi D G ub res) 0 0 (xA G) := by
  refine Met.ofW (cc := cX11_isAhead) (maxL := 5) (ret := (some .boolean)) (by decide) rfl ?_
  intro p e s m args below meth c s₁ B hml hv
  obtain ⟨rfl, h0⟩ := hv
  have hx := B.exec
  have hb := B.bytes
  have hr := B.returns
  have hts := fun (w : Cond) (hw : w ∈ lwW) => atoms_spec (ws := (.code yX11_isAhead cX11_isAhead 5 (some .boolean) :: lwW)) B.pre w (List.mem_cons_of_mem _ hw)
  have hown : s.vm.findClass RX11 = some m.cls := findClass_of_methodNamed B.named
  have hlocks := B.notSynchronized
  have hP := h0.1
  have hK := h0.2.1
  have hi := h0.2.2.1
  have hZ := h0.2.2.2
  have hN := h0.2.2.2.2.2.2.2.1
  have hV := h0.2.2.2.2.2.2.2.2.1
  have hS : va_S (xA G) s.heap s.heap [] := va_S.rf
  have hl := lv_entry ([.ref (G.1 105), .int p1, .int p2]) (n := 5) (Nat.le_of_ble_eq_true rfl)
  rw [lg_entry_eq]
  generalize (lg_sl ([.ref (G.1 105), .int p1, .int p2]) ++ List.replicate (5 - (lg_sl ([.ref (G.1 105), .int p1, .int p2])).length) Slot.unset).toArray = ls at hl ⊢
  have hl : lv_has ls 5 [(0, .ref (G.1 105)), (1, .int p1), (2, .int p2)] := hl
  unfold fX11_isAhead at h
  refine lv_iload_n hx hb dX11_isAhead_0 rfl (lv_at hl 1 rfl) ?_
  obtain ⟨xq1, hfq2, h⟩ := obd h
  refine va_calli (va_runS (As := [.int p1]) (rest := []) ⟨hx, hb, hml, hown, hts⟩ (kX11_isSlot l p1 xq1 hfq2) (va_cwS 1 hts (lwW_gS mw_463 mw_464 mw_1 mw_465) rfl rfl rfl (by decide +kernel) ⟨Nat.le_of_ble_eq_true rfl, Nat.le_of_ble_eq_true rfl⟩) ⟨fun a U g mk q => ⟨q.1, trivial⟩, fun U hU hW => ⟨rfl, trivial⟩⟩ rfl rfl hl.1 rfl (lv_room (Nat.le_of_ble_eq_true rfl)) dX11_isAhead_1 ⟨Nat.zero_le _, Nat.zero_le _⟩) hS (fun q _ h => h.elim) (fun q h => h.elim) (fun r u t H1 locs ht hvm hw hB hz1 hq1 hS => ?_)
  obtain rfl := hw.symm
  have hP := xP_kept hP hq1
  refine W.widen (k := 0) (n := 0) (Nat.le_refl _) (Nat.le_refl _) ?_
  refine lv_if_eq (tgt := 14) hx hb dX11_isAhead_4 (by decide) (fun hcq3 => ?_) (fun hcq3 => ?_)
  · have h := ifp hcq3 h
    refine lv_iconst (v := 0) hx hb dX11_isAhead_14 (by decide) ?_
    obtain rfl := Option.some.inj h
    exact W.zret hx hb hr rfl (fun t ht hW => ⟨⟨_, _, rfl, ⟨rfl, rfl⟩, xPre_at h0 hS hP ht hW⟩, hS.F ht⟩) hS.2.2 dX11_isAhead_15
  have h := ifn hcq3 h
  refine lv_iload_n hx hb dX11_isAhead_7 rfl (lv_at hl 2 rfl) ?_
  obtain ⟨xq4, hfq5, h⟩ := obd h
  refine va_calli (va_runS (As := [.int p2]) (rest := []) ⟨hx, hb, hml, hown, hts⟩ (kX11_isSlot l p2 xq4 hfq5) (va_cwS 1 hts (lwW_gS mw_463 mw_464 mw_1 mw_465) rfl rfl rfl (by decide +kernel) ⟨Nat.le_of_ble_eq_true rfl, Nat.le_of_ble_eq_true rfl⟩) ⟨fun a U g mk q => ⟨q.1, trivial⟩, fun U hU hW => ⟨rfl, trivial⟩⟩ rfl rfl hl.1 rfl (lv_room (Nat.le_of_ble_eq_true rfl)) dX11_isAhead_8 ⟨Nat.zero_le _, Nat.zero_le _⟩) hS (fun q _ h => h.elim) (fun q h => h.elim) (fun r u t H1 locs ht hvm hw hB hz1 hq1 hS => ?_)
  obtain rfl := hw.symm
  have hP := xP_kept hP hq1
  refine W.widen (k := 0) (n := 0) (Nat.le_refl _) (Nat.le_refl _) ?_
  refine lv_if_ne (tgt := 16) hx hb dX11_isAhead_11 (by decide) (fun hcq6 => ?_) (fun hcq6 => ?_)
  · have h := ifn hcq6 h
    refine lv_aload_n hx hb dX11_isAhead_16 rfl (lv_at hl 0 rfl) ?_
    refine va_get (D := D) (ci := 11) (v := .ref (G.1 102)) (C := RX11) (T := TX11) (N := 13) hx hb hts iwX11 hown hK hP 105 (xg_7 rfl) rfl 0 (by decide) (hts _ mw_282) (fun _ h9 => h9) rfl dX11_isAhead_17 ?_
    refine lv_iload_n hx hb dX11_isAhead_20 rfl (lv_at hl 1 rfl) ?_
    obtain ⟨hiq7, h⟩ := nif h
    refine va_aldq hx hb hK hP 102 1 (xg_6 rfl) rfl hiq7 dX11_isAhead_21 ?_
    refine W.eq (g2 := F0 m 22 ls [.ref (G.1 (xb 102 + p1.toNatClampNeg))]) rfl ?_
    refine lv_astore_n (lv' := [(3, .ref (G.1 (xb 102 + p1.toNatClampNeg))), (0, .ref (G.1 105)), (1, .int p1), (2, .int p2)]) hx hb dX11_isAhead_22 rfl hl (by decide) rfl (fun ls hl => ?_)
    refine lv_aload_n hx hb dX11_isAhead_23 rfl (lv_at hl 1 rfl) ?_
    refine va_get (D := D) (ci := 11) (v := .ref (G.1 102)) (C := RX11) (T := TX11) (N := 13) hx hb hts iwX11 hown hK hP 105 (xg_7 rfl) rfl 0 (by decide) (hts _ mw_282) (fun _ h9 => h9) rfl dX11_isAhead_24 ?_
    refine lv_iload_n hx hb dX11_isAhead_27 rfl (lv_at hl 3 rfl) ?_
    obtain ⟨hiq8, h⟩ := nif h
    refine va_aldq hx hb hK hP 102 1 (xg_6 rfl) rfl hiq8 dX11_isAhead_28 ?_
    refine W.eq (g2 := F0 m 29 ls [.ref (G.1 (xb 102 + p2.toNatClampNeg))]) rfl ?_
    refine lv_astore (lv' := [(4, .ref (G.1 (xb 102 + p2.toNatClampNeg))), (3, .ref (G.1 (xb 102 + p1.toNatClampNeg))), (0, .ref (G.1 105)), (1, .int p1), (2, .int p2)]) hx hb dX11_isAhead_29 hl (by decide) rfl (fun ls hl => ?_)
    refine lv_aload_n hx hb dX11_isAhead_31 rfl (lv_at hl 1 rfl) ?_
    obtain ⟨xq9, hfq10, h⟩ := obd h
    refine va_calli (va_runV (As := []) (rest := []) ⟨hx, hb, hml, hown, hts⟩ (kX6_norm l D G ub _ (xb 102 + p1.toNatClampNeg) (xr6 rfl (vp_lt hiq7)) xq9 hfq10) (cwV 0 hts (lwW_gV mw_515 mw_516 mw_517 mw_3 mw_518) rfl rfl rfl (by decide +kernel) ⟨Nat.le_of_ble_eq_true rfl, Nat.le_of_ble_eq_true rfl⟩) ⟨fun a U g mk q => ⟨q.1, xPre_call q.2⟩, va_recv hK hP rfl (xg_0 (xr6 rfl (vp_lt hiq7))), fun U hU hW => ⟨rfl, xPre_at h0 hS hP hU hW⟩⟩ rfl rfl hl.1 rfl (lv_room (Nat.le_of_ble_eq_true rfl)) dX11_isAhead_32 ⟨Nat.zero_le _, Nat.zero_le _⟩) hS (fun q _ h => h) (fun q h => h) (fun r u t H1 locs ht hvm hw hB hz1 hq1 hS => ?_)
    obtain ⟨rfl, rfl⟩ := hw
    have hP := hB.1
    rw [ht] at hP
    refine W.widen (k := 0) (n := 0) (Nat.le_refl _) (Nat.le_refl _) ?_
    refine lv_aload hx hb dX11_isAhead_35 (lv_at hl 0 rfl) ?_
    obtain ⟨xq11, hfq12, h⟩ := obd h
    refine va_calli (va_runV (As := []) (rest := [.int xq9.1]) ⟨hx, hb, hml, hown, hts⟩ (kX6_norm l D G ub _ (xb 102 + p2.toNatClampNeg) (xr6 rfl (vp_lt hiq8)) xq11 hfq12) (cwV 0 hts (lwW_gV mw_515 mw_516 mw_517 mw_3 mw_518) rfl rfl rfl (by decide +kernel) ⟨Nat.le_of_ble_eq_true rfl, Nat.le_of_ble_eq_true rfl⟩) ⟨fun a U g mk q => ⟨q.1, xPre_call q.2⟩, va_recv hK hP rfl (xg_0 (xr6 rfl (vp_lt hiq8))), fun U hU hW => ⟨rfl, xPre_at h0 hS hP hU hW⟩⟩ rfl rfl hl.1 rfl (lv_room (Nat.le_of_ble_eq_true rfl)) dX11_isAhead_37 ⟨Nat.zero_le _, Nat.zero_le _⟩) hS (fun q _ h => h) (fun q h => h) (fun r u t H1 locs ht hvm hw hB hz1 hq1 hS => ?_)
    obtain ⟨rfl, rfl⟩ := hw
    have hP := hB.1
    rw [ht] at hP
    refine W.widen (k := 0) (n := 0) (Nat.le_refl _) (Nat.le_refl _) ?_
    refine lv_icmp_eq (tgt := 61) hx hb dX11_isAhead_40 (by decide) (fun hcq13 => ?_) (fun hcq13 => ?_)
    · have h := ifp hcq13 h
      refine lv_aload_n hx hb dX11_isAhead_61 rfl (lv_at hl 1 rfl) ?_
      refine lv_aload hx hb dX11_isAhead_62 (lv_at hl 0 rfl) ?_
      obtain ⟨xq14, hfq15, h⟩ := obd h
      refine va_calli (va_runV (As := [.ref (G.1 (xb 102 + p2.toNatClampNeg))]) (rest := []) ⟨hx, hb, hml, hown, hts⟩ (kX6_isSame l D G ub _ (xb 102 + p1.toNatClampNeg) (xr6 rfl (vp_lt hiq7)) (xb 102 + p2.toNatClampNeg) (xr6 rfl (vp_lt hiq8)) xq14 hfq15) (cwV 1 hts (lwW_gV mw_523 mw_524 mw_525 mw_3 mw_526) rfl rfl rfl (by decide +kernel) ⟨Nat.le_of_ble_eq_true rfl, Nat.le_of_ble_eq_true rfl⟩) ⟨fun a U g mk q => ⟨q.1, xPre_call q.2⟩, va_recv hK hP rfl (xg_0 (xr6 rfl (vp_lt hiq7))), fun U hU hW => ⟨rfl, xPre_at h0 hS hP hU hW⟩⟩ rfl rfl hl.1 rfl (lv_room (Nat.le_of_ble_eq_true rfl)) dX11_isAhead_64 ⟨Nat.zero_le _, Nat.zero_le _⟩) hS (fun q _ h => h) (fun q h => h) (fun r u t H1 locs ht hvm hw hB hz1 hq1 hS => ?_)
      obtain ⟨rfl, rfl⟩ := hw
      have hP := hB.1
      rw [ht] at hP
      refine W.widen (k := 0) (n := 0) (Nat.le_refl _) (Nat.le_refl _) ?_
      refine lv_if_eq (tgt := 83) hx hb dX11_isAhead_67 (by decide) (fun hcq16 => ?_) (fun hcq16 => ?_)
      · have h := ifp hcq16 h
        refine lv_aload_n hx hb dX11_isAhead_83 rfl (lv_at hl 1 rfl) ?_
        refine lv_aload hx hb dX11_isAhead_84 (lv_at hl 0 rfl) ?_
        obtain ⟨xq17, hfq18, h⟩ := obd h
        refine va_calli (va_runV (As := [.ref (G.1 (xb 102 + p2.toNatClampNeg))]) (rest := []) ⟨hx, hb, hml, hown, hts⟩ (kX6_isGreaterThan l D G ub _ (xb 102 + p1.toNatClampNeg) (xr6 rfl (vp_lt hiq7)) (xb 102 + p2.toNatClampNeg) (xr6 rfl (vp_lt hiq8)) xq17 hfq18) (cwV 1 hts (lwW_gV mw_844 mw_587 mw_588 mw_3 mw_589) rfl rfl rfl (by decide +kernel) ⟨Nat.le_of_ble_eq_true rfl, Nat.le_of_ble_eq_true rfl⟩) ⟨fun a U g mk q => ⟨q.1, xPre_call q.2⟩, va_recv hK hP rfl (xg_0 (xr6 rfl (vp_lt hiq7))), fun U hU hW => ⟨rfl, xPre_at h0 hS hP hU hW⟩⟩ rfl rfl hl.1 rfl (lv_room (Nat.le_of_ble_eq_true rfl)) dX11_isAhead_86 ⟨Nat.zero_le _, Nat.zero_le _⟩) hS (fun q _ h => h) (fun q h => h) (fun r u t H1 locs ht hvm hw hB hz1 hq1 hS => ?_)
        obtain ⟨rfl, rfl⟩ := hw
        have hP := hB.1
        rw [ht] at hP
        refine W.widen (k := 0) (n := 0) (Nat.le_refl _) (Nat.le_refl _) ?_
        obtain ⟨hzq19, h⟩ := nif h
        have hzq19 := Decidable.not_not.mp hzq19
        obtain rfl := Option.some.inj h
        exact W.zret hx hb hr (nar01 hzq19) (fun t ht hW => ⟨⟨_, _, rfl, ⟨rfl, rfl⟩, xPre_at h0 hS hP ht hW⟩, hS.F ht⟩) hS.2.2 dX11_isAhead_89
      have h := ifn hcq16 h
      refine lv_iload_n hx hb dX11_isAhead_70 rfl (lv_at hl 3 rfl) ?_
      refine lv_iload_n hx hb dX11_isAhead_71 rfl (lv_at hl 4 rfl) ?_
      refine lv_icmp_ge (tgt := 79) hx hb dX11_isAhead_72 (by decide) (fun hcq20 => ?_) (fun hcq20 => ?_)
      · have h := ifp hcq20 h
        refine lv_iconst (v := 0) hx hb dX11_isAhead_79 (by decide) ?_
        refine lv_goto (tgt := 89) hx hb dX11_isAhead_80 (by decide) ?_
        obtain rfl := Option.some.inj h
        exact W.zret hx hb hr rfl (fun t ht hW => ⟨⟨_, _, rfl, ⟨rfl, rfl⟩, xPre_at h0 hS hP ht hW⟩, hS.F ht⟩) hS.2.2 dX11_isAhead_89
      have h := ifn hcq20 h
      refine lv_iconst (v := 1) hx hb dX11_isAhead_75 (by decide) ?_
      refine lv_goto (tgt := 89) hx hb dX11_isAhead_76 (by decide) ?_
      obtain rfl := Option.some.inj h
      exact W.zret hx hb hr rfl (fun t ht hW => ⟨⟨_, _, rfl, ⟨rfl, rfl⟩, xPre_at h0 hS hP ht hW⟩, hS.F ht⟩) hS.2.2 dX11_isAhead_89
    have h := ifn hcq13 h
    refine lv_aload_n hx hb dX11_isAhead_43 rfl (lv_at hl 1 rfl) ?_
    obtain ⟨xq21, hfq22, h⟩ := obd h
    refine va_calli (va_runV (As := []) (rest := []) ⟨hx, hb, hml, hown, hts⟩ (kX6_norm l D G ub _ (xb 102 + p1.toNatClampNeg) (xr6 rfl (vp_lt hiq7)) xq21 hfq22) (cwV 0 hts (lwW_gV mw_515 mw_516 mw_517 mw_3 mw_518) rfl rfl rfl (by decide +kernel) ⟨Nat.le_of_ble_eq_true rfl, Nat.le_of_ble_eq_true rfl⟩) ⟨fun a U g mk q => ⟨q.1, xPre_call q.2⟩, va_recv hK hP rfl (xg_0 (xr6 rfl (vp_lt hiq7))), fun U hU hW => ⟨rfl, xPre_at h0 hS hP hU hW⟩⟩ rfl rfl hl.1 rfl (lv_room (Nat.le_of_ble_eq_true rfl)) dX11_isAhead_44 ⟨Nat.zero_le _, Nat.zero_le _⟩) hS (fun q _ h => h) (fun q h => h) (fun r u t H1 locs ht hvm hw hB hz1 hq1 hS => ?_)
    obtain ⟨rfl, rfl⟩ := hw
    have hP := hB.1
    rw [ht] at hP
    refine W.widen (k := 0) (n := 0) (Nat.le_refl _) (Nat.le_refl _) ?_
    refine lv_aload hx hb dX11_isAhead_47 (lv_at hl 0 rfl) ?_
    obtain ⟨xq23, hfq24, h⟩ := obd h
    refine va_calli (va_runV (As := []) (rest := [.int xq21.1]) ⟨hx, hb, hml, hown, hts⟩ (kX6_norm l D G ub _ (xb 102 + p2.toNatClampNeg) (xr6 rfl (vp_lt hiq8)) xq23 hfq24) (cwV 0 hts (lwW_gV mw_515 mw_516 mw_517 mw_3 mw_518) rfl rfl rfl (by decide +kernel) ⟨Nat.le_of_ble_eq_true rfl, Nat.le_of_ble_eq_true rfl⟩) ⟨fun a U g mk q => ⟨q.1, xPre_call q.2⟩, va_recv hK hP rfl (xg_0 (xr6 rfl (vp_lt hiq8))), fun U hU hW => ⟨rfl, xPre_at h0 hS hP hU hW⟩⟩ rfl rfl hl.1 rfl (lv_room (Nat.le_of_ble_eq_true rfl)) dX11_isAhead_49 ⟨Nat.zero_le _, Nat.zero_le _⟩) hS (fun q _ h => h) (fun q h => h) (fun r u t H1 locs ht hvm hw hB hz1 hq1 hS => ?_)
    obtain ⟨rfl, rfl⟩ := hw
    have hP := hB.1
    rw [ht] at hP
    refine W.widen (k := 0) (n := 0) (Nat.le_refl _) (Nat.le_refl _) ?_
    refine lv_icmp_ge (tgt := 59) hx hb dX11_isAhead_52 (by decide) (fun hcq25 => ?_) (fun hcq25 => ?_)
    · have h := ifp hcq25 h
      refine lv_iconst (v := 0) hx hb dX11_isAhead_59 (by decide) ?_
      obtain rfl := Option.some.inj h
      exact W.zret hx hb hr rfl (fun t ht hW => ⟨⟨_, _, rfl, ⟨rfl, rfl⟩, xPre_at h0 hS hP ht hW⟩, hS.F ht⟩) hS.2.2 dX11_isAhead_60
    have h := ifn hcq25 h
    refine lv_iconst (v := 1) hx hb dX11_isAhead_55 (by decide) ?_
    refine lv_goto (tgt := 60) hx hb dX11_isAhead_56 (by decide) ?_
    obtain rfl := Option.some.inj h
    exact W.zret hx hb hr rfl (fun t ht hW => ⟨⟨_, _, rfl, ⟨rfl, rfl⟩, xPre_at h0 hS hP ht hW⟩, hS.F ht⟩) hS.2.2 dX11_isAhead_60
  have h := ifp hcq6 h
  refine lv_iconst (v := 0) hx hb dX11_isAhead_14 (by decide) ?_
  obtain rfl := Option.some.inj h
  exact W.zret hx hb hr rfl (fun t ht hW => ⟨⟨_, _, rfl, ⟨rfl, rfl⟩, xPre_at h0 hS hP ht hW⟩, hS.F ht⟩) hS.2.2 dX11_isAhead_15
def fX11_slotsAheadOf_J22 (p1 : Int32) (K4 : Int32 → Int32 → QMem → Option (Int32 × QMem)) (v2 : Int32) (v3 : Int32) (τ : QMem) : Option (Int32 × QMem) :=
  K4 v2 (v3 + 1) τ
def fX11_slotsAheadOf_L4 (p1 : Int32) : Nat → Int32 → Int32 → QMem → Option (Int32 × QMem)
  | 0, _, _, _ => none
  | n + 1, v2, v3, τ =>
  if 6 ≤ v3 then (some (v2, τ)) else ((fX11_isAhead v3 p1 τ).bind fun xq2 => (if xq2.1 = 0 then (fX11_slotsAheadOf_J22 p1 (fX11_slotsAheadOf_L4 p1 n) v2 v3 xq2.2) else (fX11_slotsAheadOf_J22 p1 (fX11_slotsAheadOf_L4 p1 n) (v2 + 1) v3 xq2.2)))
def fX11_slotsAheadOf (p1 : Int32) (σ : QMem) : Option (Int32 × QMem) :=
  fX11_slotsAheadOf_L4 p1 FU 0 0 σ
set_option maxHeartbeats 4000000 in
set_option maxRecDepth 100000 in
theorem kX11_slotsAheadOf (l : Launch) (D : va_G) (G : xG) (ub : xB) (σ : QMem) (p1 : Int32) (res : Int32 × QMem) (h : fX11_slotsAheadOf p1 σ = some res) : Met l yX11_slotsAheadOf (.code yX11_slotsAheadOf cX11_slotsAheadOf 4 (some .int) :: lwW) (rmD 2) (xPc D G ub σ [.ref (G.1 105), .int p1]) (xQi D G ub res) 0 0 (xA G) := by
  refine Met.ofW (cc := cX11_slotsAheadOf) (maxL := 4) (ret := (some .int)) (by decide) rfl ?_
  intro p e s m args below meth c s₁ B hml hv
  obtain ⟨rfl, h0⟩ := hv
  have hx := B.exec
  have hb := B.bytes
  have hr := B.returns
  have hts := fun (w : Cond) (hw : w ∈ lwW) => atoms_spec (ws := (.code yX11_slotsAheadOf cX11_slotsAheadOf 4 (some .int) :: lwW)) B.pre w (List.mem_cons_of_mem _ hw)
  have hown : s.vm.findClass RX11 = some m.cls := findClass_of_methodNamed B.named
  have hlocks := B.notSynchronized
  have hP := h0.1
  have hK := h0.2.1
  have hi := h0.2.2.1
  have hZ := h0.2.2.2
  have hN := h0.2.2.2.2.2.2.2.1
  have hV := h0.2.2.2.2.2.2.2.2.1
  have hS : va_S (xA G) s.heap s.heap [] := va_S.rf
  have hl := lv_entry ([.ref (G.1 105), .int p1]) (n := 4) (Nat.le_of_ble_eq_true rfl)
  rw [lg_entry_eq]
  generalize (lg_sl ([.ref (G.1 105), .int p1]) ++ List.replicate (4 - (lg_sl ([.ref (G.1 105), .int p1])).length) Slot.unset).toArray = ls at hl ⊢
  have hl : lv_has ls 4 [(0, .ref (G.1 105)), (1, .int p1)] := hl
  unfold fX11_slotsAheadOf at h
  have L4 : ∀ (n4 : Nat) (v2 : Int32) (v3 : Int32) (τ : QMem) (H : Heap) (locs : List Loc) (ls : Array Slot), fX11_slotsAheadOf_L4 p1 n4 v2 v3 τ = some res → va_P D vwCl (xW G τ) H → va_S (xA G) s.heap H locs → lv_has ls 4 [(0, .ref (G.1 105)), (1, .int p1), (2, .int v2), (3, .int v3)] → W p l e (headSpec (.code yX11_slotsAheadOf cX11_slotsAheadOf 4 (some .int) :: lwW) (rmD 2)).room s m ([.ref (G.1 105), .int p1] : List Value).toArray below meth c H locs 0 0 (MQ below (xQi D G ub res) ([.ref (G.1 105), .int p1] : List Value).toArray s 0 0 (xA G)) (F0 m 4 ls []) := by
    intro n4
    induction n4 with
    | zero => intro v2 v3 τ H locs ls h; rw [fX11_slotsAheadOf_L4] at h; cases h
    | succ n4 ih4 =>
      intro v2 v3 τ H locs ls h hP hS hl
      rw [fX11_slotsAheadOf_L4] at h
      have J22 : ∀ (v2 : Int32) (v3 : Int32) (τ : QMem) (H : Heap) (locs : List Loc) (ls : Array Slot), fX11_slotsAheadOf_J22 p1 (fX11_slotsAheadOf_L4 p1 n4) v2 v3 τ = some res → va_P D vwCl (xW G τ) H → va_S (xA G) s.heap H locs → lv_has ls 4 [(0, .ref (G.1 105)), (1, .int p1), (2, .int v2), (3, .int v3)] → W p l e (headSpec (.code yX11_slotsAheadOf cX11_slotsAheadOf 4 (some .int) :: lwW) (rmD 2)).room s m ([.ref (G.1 105), .int p1] : List Value).toArray below meth c H locs 0 0 (MQ below (xQi D G ub res) ([.ref (G.1 105), .int p1] : List Value).toArray s 0 0 (xA G)) (F0 m 22 ls []) := by
        intro v2 v3 τ H locs ls h hP hS hl
        unfold fX11_slotsAheadOf_J22 at h
        refine lv_iinc (v := v3 + 1) (lv' := [(3, .int (v3 + 1)), (0, .ref (G.1 105)), (1, .int p1), (2, .int v2)]) hx hb dX11_slotsAheadOf_22 hl (k := 3) rfl rfl (by decide) rfl (fun ls hl => ?_)
        refine lv_goto (tgt := 4) hx hb dX11_slotsAheadOf_25 (by decide) ?_
        exact ih4 v2 (v3 + 1) _ _ _ _ h hP hS (lv_sub hl [1, 2, 3, 0] rfl)
      refine lv_iload_n hx hb dX11_slotsAheadOf_4 rfl (lv_at hl 3 rfl) ?_
      refine lv_bipush (v := 6) hx hb dX11_slotsAheadOf_5 (by decide) ?_
      refine lv_icmp_ge (tgt := 28) hx hb dX11_slotsAheadOf_7 (by decide) (fun hcq1 => ?_) (fun hcq1 => ?_)
      · have h := ifp hcq1 h
        refine lv_iload_n hx hb dX11_slotsAheadOf_28 rfl (lv_at hl 2 rfl) ?_
        obtain rfl := Option.some.inj h
        exact W.iret (v := v2) hx hb hr (fun t ht hW => ⟨⟨_, _, rfl, ⟨rfl, rfl⟩, xPre_at h0 hS hP ht hW⟩, hS.F ht⟩) hS.2.2 dX11_slotsAheadOf_29
      have h := ifn hcq1 h
      refine lv_aload_n hx hb dX11_slotsAheadOf_10 rfl (lv_at hl 0 rfl) ?_
      refine lv_iload_n hx hb dX11_slotsAheadOf_11 rfl (lv_at hl 3 rfl) ?_
      refine lv_iload_n hx hb dX11_slotsAheadOf_12 rfl (lv_at hl 1 rfl) ?_
      obtain ⟨xq2, hfq3, h⟩ := obd h
      refine va_calli (va_runV (As := [.int v3, .int p1]) (rest := []) ⟨hx, hb, hml, hown, hts⟩ (kX11_isAhead l D G ub _ v3 p1 xq2 hfq3) (cwV 2 hts (lwW_gV mw_840 mw_842 ms_22 mw_1 mw_843) rfl rfl rfl (by decide +kernel) ⟨Nat.le_of_ble_eq_true rfl, Nat.le_of_ble_eq_true rfl⟩) ⟨fun a U g mk q => ⟨q.1, xPre_call q.2⟩, va_recv hK hP rfl (xg_7 rfl), fun U hU hW => ⟨rfl, xPre_at h0 hS hP hU hW⟩⟩ rfl rfl hl.1 rfl (lv_room (Nat.le_of_ble_eq_true rfl)) dX11_slotsAheadOf_13 ⟨Nat.zero_le _, Nat.zero_le _⟩) hS (fun q _ h => h) (fun q h => h) (fun r u t H1 locs ht hvm hw hB hz1 hq1 hS => ?_)
      obtain ⟨rfl, rfl⟩ := hw
      have hP := hB.1
      rw [ht] at hP
      refine W.widen (k := 0) (n := 0) (Nat.le_refl _) (Nat.le_refl _) ?_
      refine lv_if_eq (tgt := 22) hx hb dX11_slotsAheadOf_16 (by decide) (fun hcq4 => ?_) (fun hcq4 => ?_)
      · have h := ifp hcq4 h
        exact J22 v2 v3 _ _ _ _ h hP hS (lv_sub hl [0, 1, 2, 3] rfl)
      have h := ifn hcq4 h
      refine lv_iinc (v := v2 + 1) (lv' := [(2, .int (v2 + 1)), (0, .ref (G.1 105)), (1, .int p1), (3, .int v3)]) hx hb dX11_slotsAheadOf_19 hl (k := 2) rfl rfl (by decide) rfl (fun ls hl => ?_)
      exact J22 (v2 + 1) v3 _ _ _ _ h hP hS (lv_sub hl [1, 2, 0, 3] rfl)
  refine lv_iconst (v := 0) hx hb dX11_slotsAheadOf_0 (by decide) ?_
  refine lv_istore_n (lv' := [(2, .int 0), (0, .ref (G.1 105)), (1, .int p1)]) hx hb dX11_slotsAheadOf_1 rfl hl (by decide) rfl (fun ls hl => ?_)
  refine lv_iconst (v := 0) hx hb dX11_slotsAheadOf_2 (by decide) ?_
  refine lv_istore_n (lv' := [(3, .int 0), (2, .int 0), (0, .ref (G.1 105)), (1, .int p1)]) hx hb dX11_slotsAheadOf_3 rfl hl (by decide) rfl (fun ls hl => ?_)
  exact L4 FU 0 0 _ _ _ _ h hP hS (lv_sub hl [2, 3, 1, 0] rfl)
def fX11_rank_L16 (p1 : Int32) : Nat → Int32 → QMem → Option (Int32 × QMem)
  | 0, _, _ => none
  | n + 1, v2, τ =>
  if 6 ≤ v2 then (some ((-1), τ)) else ((fX11_slotsAheadOf v2 τ).bind fun xq2 => (if xq2.1 = p1 then (some (v2, xq2.2)) else ((fX11_rank_L16 p1 n) (v2 + 1) xq2.2)))
def fX11_rank (p1 : Int32) (σ : QMem) : Option (Int32 × QMem) :=
  if p1 < 0 then (some ((-1002), σ)) else (if p1 < 6 then (fX11_rank_L16 p1 FU 0 σ) else (some ((-1002), σ)))
set_option maxHeartbeats 4000000 in
set_option maxRecDepth 100000 in
theorem kX11_rank (l : Launch) (D : va_G) (G : xG) (ub : xB) (σ : QMem) (p1 : Int32) (res : Int32 × QMem) (h : fX11_rank p1 σ = some res) : Met l yX11_rank (.code yX11_rank cX11_rank 3 (some .int) :: lwW) (rmD 3) (xPc D G ub σ [.ref (G.1 105), .int p1]) (xQi D G ub res) 0 0 (xA G) := by
  refine Met.ofW (cc := cX11_rank) (maxL := 3) (ret := (some .int)) (by decide) rfl ?_
  intro p e s m args below meth c s₁ B hml hv
  obtain ⟨rfl, h0⟩ := hv
  have hx := B.exec
  have hb := B.bytes
  have hr := B.returns
  have hts := fun (w : Cond) (hw : w ∈ lwW) => atoms_spec (ws := (.code yX11_rank cX11_rank 3 (some .int) :: lwW)) B.pre w (List.mem_cons_of_mem _ hw)
  have hown : s.vm.findClass RX11 = some m.cls := findClass_of_methodNamed B.named
  have hlocks := B.notSynchronized
  have hP := h0.1
  have hK := h0.2.1
  have hi := h0.2.2.1
  have hZ := h0.2.2.2
  have hN := h0.2.2.2.2.2.2.2.1
  have hV := h0.2.2.2.2.2.2.2.2.1
  have hS : va_S (xA G) s.heap s.heap [] := va_S.rf
  have hl := lv_entry ([.ref (G.1 105), .int p1]) (n := 3) (Nat.le_of_ble_eq_true rfl)
  rw [lg_entry_eq]
  generalize (lg_sl ([.ref (G.1 105), .int p1]) ++ List.replicate (3 - (lg_sl ([.ref (G.1 105), .int p1])).length) Slot.unset).toArray = ls at hl ⊢
  have hl : lv_has ls 3 [(0, .ref (G.1 105)), (1, .int p1)] := hl
  unfold fX11_rank at h
  have L16 : ∀ (n16 : Nat) (v2 : Int32) (τ : QMem) (H : Heap) (locs : List Loc) (ls : Array Slot), fX11_rank_L16 p1 n16 v2 τ = some res → va_P D vwCl (xW G τ) H → va_S (xA G) s.heap H locs → lv_has ls 3 [(0, .ref (G.1 105)), (1, .int p1), (2, .int v2)] → W p l e (headSpec (.code yX11_rank cX11_rank 3 (some .int) :: lwW) (rmD 3)).room s m ([.ref (G.1 105), .int p1] : List Value).toArray below meth c H locs 0 0 (MQ below (xQi D G ub res) ([.ref (G.1 105), .int p1] : List Value).toArray s 0 0 (xA G)) (F0 m 16 ls []) := by
    intro n16
    induction n16 with
    | zero => intro v2 τ H locs ls h; rw [fX11_rank_L16] at h; cases h
    | succ n16 ih16 =>
      intro v2 τ H locs ls h hP hS hl
      rw [fX11_rank_L16] at h
      refine lv_iload_n hx hb dX11_rank_16 rfl (lv_at hl 2 rfl) ?_
      refine lv_bipush (v := 6) hx hb dX11_rank_17 (by decide) ?_
      refine lv_icmp_ge (tgt := 39) hx hb dX11_rank_19 (by decide) (fun hcq1 => ?_) (fun hcq1 => ?_)
      · have h := ifp hcq1 h
        refine lv_iconst (v := (-1)) hx hb dX11_rank_39 (by decide) ?_
        obtain rfl := Option.some.inj h
        exact W.iret (v := (-1)) hx hb hr (fun t ht hW => ⟨⟨_, _, rfl, ⟨rfl, rfl⟩, xPre_at h0 hS hP ht hW⟩, hS.F ht⟩) hS.2.2 dX11_rank_40
      have h := ifn hcq1 h
      refine lv_aload_n hx hb dX11_rank_22 rfl (lv_at hl 0 rfl) ?_
      refine lv_iload_n hx hb dX11_rank_23 rfl (lv_at hl 2 rfl) ?_
      obtain ⟨xq2, hfq3, h⟩ := obd h
      refine va_calli (va_runV (As := [.int v2]) (rest := []) ⟨hx, hb, hml, hown, hts⟩ (kX11_slotsAheadOf l D G ub _ v2 xq2 hfq3) (cwV 1 hts (lwW_gV mw_836 mw_838 ms_21 mw_1 mw_839) rfl rfl rfl (by decide +kernel) ⟨Nat.le_of_ble_eq_true rfl, Nat.le_of_ble_eq_true rfl⟩) ⟨fun a U g mk q => ⟨q.1, xPre_call q.2⟩, va_recv hK hP rfl (xg_7 rfl), fun U hU hW => ⟨rfl, xPre_at h0 hS hP hU hW⟩⟩ rfl rfl hl.1 rfl (lv_room (Nat.le_of_ble_eq_true rfl)) dX11_rank_24 ⟨Nat.zero_le _, Nat.zero_le _⟩) hS (fun q _ h => h) (fun q h => h) (fun r u t H1 locs ht hvm hw hB hz1 hq1 hS => ?_)
      obtain ⟨rfl, rfl⟩ := hw
      have hP := hB.1
      rw [ht] at hP
      refine W.widen (k := 0) (n := 0) (Nat.le_refl _) (Nat.le_refl _) ?_
      refine lv_iload_n hx hb dX11_rank_27 rfl (lv_at hl 1 rfl) ?_
      refine lv_icmp_ne (tgt := 33) hx hb dX11_rank_28 (by decide) (fun hcq4 => ?_) (fun hcq4 => ?_)
      · have h := ifn hcq4 h
        refine lv_iinc (v := v2 + 1) (lv' := [(2, .int (v2 + 1)), (0, .ref (G.1 105)), (1, .int p1)]) hx hb dX11_rank_33 hl (k := 2) rfl rfl (by decide) rfl (fun ls hl => ?_)
        refine lv_goto (tgt := 16) hx hb dX11_rank_36 (by decide) ?_
        exact ih16 (v2 + 1) _ _ _ _ h hP hS (lv_sub hl [1, 2, 0] rfl)
      have h := ifp hcq4 h
      refine lv_iload_n hx hb dX11_rank_31 rfl (lv_at hl 2 rfl) ?_
      obtain rfl := Option.some.inj h
      exact W.iret (v := v2) hx hb hr (fun t ht hW => ⟨⟨_, _, rfl, ⟨rfl, rfl⟩, xPre_at h0 hS hP ht hW⟩, hS.F ht⟩) hS.2.2 dX11_rank_32
  refine lv_iload_n hx hb dX11_rank_0 rfl (lv_at hl 1 rfl) ?_
  refine lv_if_lt (tgt := 10) hx hb dX11_rank_1 (by decide) (fun hcq5 => ?_) (fun hcq5 => ?_)
  · have h := ifp hcq5 h
    refine lv_sipush (v := (-1002)) hx hb dX11_rank_10 (by decide) ?_
    obtain rfl := Option.some.inj h
    exact W.iret (v := (-1002)) hx hb hr (fun t ht hW => ⟨⟨_, _, rfl, ⟨rfl, rfl⟩, xPre_at h0 hS hP ht hW⟩, hS.F ht⟩) hS.2.2 dX11_rank_13
  have h := ifn hcq5 h
  refine lv_iload_n hx hb dX11_rank_4 rfl (lv_at hl 1 rfl) ?_
  refine lv_bipush (v := 6) hx hb dX11_rank_5 (by decide) ?_
  refine lv_icmp_lt (tgt := 14) hx hb dX11_rank_7 (by decide) (fun hcq6 => ?_) (fun hcq6 => ?_)
  · have h := ifp hcq6 h
    refine lv_iconst (v := 0) hx hb dX11_rank_14 (by decide) ?_
    refine lv_istore_n (lv' := [(2, .int 0), (0, .ref (G.1 105)), (1, .int p1)]) hx hb dX11_rank_15 rfl hl (by decide) rfl (fun ls hl => ?_)
    exact L16 FU 0 _ _ _ _ h hP hS (lv_sub hl [1, 2, 0] rfl)
  have h := ifn hcq6 h
  refine lv_sipush (v := (-1002)) hx hb dX11_rank_10 (by decide) ?_
  obtain rfl := Option.some.inj h
  exact W.iret (v := (-1002)) hx hb hr (fun t ht hW => ⟨⟨_, _, rfl, ⟨rfl, rfl⟩, xPre_at h0 hS hP ht hW⟩, hS.F ht⟩) hS.2.2 dX11_rank_13
def fX11_isTally (p0 : Int32) : Option (Int32) :=
  if p0 < 0 then (some 0) else (if 3 ≤ p0 then (some 0) else (some 1))
set_option maxHeartbeats 4000000 in
set_option maxRecDepth 100000 in
theorem kX11_isTally (l : Launch) (p0 : Int32) (res : Int32) (h : fX11_isTally p0 = some res) : Met l yX11_isTally (.code yX11_isTally cX11_isTally 1 (some .boolean) :: lwW) (rmD 0) (nPc [.int p0]) (nQi res) 0 0 (fun _ => False) := by
  refine Met.ofW (cc := cX11_isTally) (maxL := 1) (ret := (some .boolean)) (by decide) rfl ?_
  intro p e s m args below meth c s₁ B hml hv
  obtain ⟨rfl, h0⟩ := hv
  have hx := B.exec
  have hb := B.bytes
  have hr := B.returns
  have hts := fun (w : Cond) (hw : w ∈ lwW) => atoms_spec (ws := (.code yX11_isTally cX11_isTally 1 (some .boolean) :: lwW)) B.pre w (List.mem_cons_of_mem _ hw)
  have hown : s.vm.findClass RX11 = some m.cls := findClass_of_methodNamed B.named
  have hlocks := B.notSynchronized
  have hS : va_S (fun _ => False) s.heap s.heap [] := va_S.rf
  have hl := lv_entry ([.int p0]) (n := 1) (Nat.le_of_ble_eq_true rfl)
  rw [lg_entry_eq]
  generalize (lg_sl ([.int p0]) ++ List.replicate (1 - (lg_sl ([.int p0])).length) Slot.unset).toArray = ls at hl ⊢
  have hl : lv_has ls 1 [(0, .int p0)] := hl
  unfold fX11_isTally at h
  refine lv_iload_n hx hb dX11_isTally_0 rfl (lv_at hl 0 rfl) ?_
  refine lv_if_lt (tgt := 13) hx hb dX11_isTally_1 (by decide) (fun hcq1 => ?_) (fun hcq1 => ?_)
  · have h := ifp hcq1 h
    refine lv_iconst (v := 0) hx hb dX11_isTally_13 (by decide) ?_
    obtain rfl := Option.some.inj h
    exact W.zret hx hb hr rfl (fun t ht hW => ⟨⟨_, (), rfl, rfl, trivial⟩, hS.F ht⟩) hS.2.2 dX11_isTally_14
  have h := ifn hcq1 h
  refine lv_iload_n hx hb dX11_isTally_4 rfl (lv_at hl 0 rfl) ?_
  refine lv_iconst (v := 3) hx hb dX11_isTally_5 (by decide) ?_
  refine lv_icmp_ge (tgt := 13) hx hb dX11_isTally_6 (by decide) (fun hcq2 => ?_) (fun hcq2 => ?_)
  · have h := ifp hcq2 h
    refine lv_iconst (v := 0) hx hb dX11_isTally_13 (by decide) ?_
    obtain rfl := Option.some.inj h
    exact W.zret hx hb hr rfl (fun t ht hW => ⟨⟨_, (), rfl, rfl, trivial⟩, hS.F ht⟩) hS.2.2 dX11_isTally_14
  have h := ifn hcq2 h
  refine lv_iconst (v := 1) hx hb dX11_isTally_9 (by decide) ?_
  refine lv_goto (tgt := 14) hx hb dX11_isTally_10 (by decide) ?_
  obtain rfl := Option.some.inj h
  exact W.zret hx hb hr rfl (fun t ht hW => ⟨⟨_, (), rfl, rfl, trivial⟩, hS.F ht⟩) hS.2.2 dX11_isTally_14
def fX11_tally (p1 : Int32) (p2 : Int32) (σ : QMem) : Option (Int32 × QMem) :=
  (fX11_isTally p1).bind fun xq1 => (if xq1 = 0 then (some ((-1001), σ)) else (if p2 ≤ 6 then (if 0 ≤ p2 then (if (p1 < 0 ∨ xl 107 ≤ p1.toNatClampNeg) then none else ((fX10_begin (xb 107 + p1.toNatClampNeg) p2 σ).bind fun xq7 => (some (p2, xq7)))) else (some ((-1013), σ))) else (some ((-1002), σ))))
set_option maxHeartbeats 4000000 in
set_option maxRecDepth 100000 in
theorem kX11_tally (l : Launch) (D : va_G) (G : xG) (ub : xB) (σ : QMem) (p1 : Int32) (p2 : Int32) (res : Int32 × QMem) (h : fX11_tally p1 p2 σ = some res) : Met l yX11_tally (.code yX11_tally cX11_tally 3 (some .int) :: lwW) (rmD 2) (xPc D G ub σ [.ref (G.1 105), .int p1, .int p2]) (xQi D G ub res) 0 0 (xA G) := by
  refine Met.ofW (cc := cX11_tally) (maxL := 3) (ret := (some .int)) (by decide) rfl ?_
  intro p e s m args below meth c s₁ B hml hv
  obtain ⟨rfl, h0⟩ := hv
  have hx := B.exec
  have hb := B.bytes
  have hr := B.returns
  have hts := fun (w : Cond) (hw : w ∈ lwW) => atoms_spec (ws := (.code yX11_tally cX11_tally 3 (some .int) :: lwW)) B.pre w (List.mem_cons_of_mem _ hw)
  have hown : s.vm.findClass RX11 = some m.cls := findClass_of_methodNamed B.named
  have hlocks := B.notSynchronized
  have hP := h0.1
  have hK := h0.2.1
  have hi := h0.2.2.1
  have hZ := h0.2.2.2
  have hN := h0.2.2.2.2.2.2.2.1
  have hV := h0.2.2.2.2.2.2.2.2.1
  have hS : va_S (xA G) s.heap s.heap [] := va_S.rf
  have hl := lv_entry ([.ref (G.1 105), .int p1, .int p2]) (n := 3) (Nat.le_of_ble_eq_true rfl)
  rw [lg_entry_eq]
  generalize (lg_sl ([.ref (G.1 105), .int p1, .int p2]) ++ List.replicate (3 - (lg_sl ([.ref (G.1 105), .int p1, .int p2])).length) Slot.unset).toArray = ls at hl ⊢
  have hl : lv_has ls 3 [(0, .ref (G.1 105)), (1, .int p1), (2, .int p2)] := hl
  unfold fX11_tally at h
  refine lv_iload_n hx hb dX11_tally_0 rfl (lv_at hl 1 rfl) ?_
  obtain ⟨xq1, hfq2, h⟩ := obd h
  refine va_calli (va_runS (As := [.int p1]) (rest := []) ⟨hx, hb, hml, hown, hts⟩ (kX11_isTally l p1 xq1 hfq2) (va_cwS 1 hts (lwW_gS mw_849 mw_850 mw_1 mw_851) rfl rfl rfl (by decide +kernel) ⟨Nat.le_of_ble_eq_true rfl, Nat.le_of_ble_eq_true rfl⟩) ⟨fun a U g mk q => ⟨q.1, trivial⟩, fun U hU hW => ⟨rfl, trivial⟩⟩ rfl rfl hl.1 rfl (lv_room (Nat.le_of_ble_eq_true rfl)) dX11_tally_1 ⟨Nat.zero_le _, Nat.zero_le _⟩) hS (fun q _ h => h.elim) (fun q h => h.elim) (fun r u t H1 locs ht hvm hw hB hz1 hq1 hS => ?_)
  obtain rfl := hw.symm
  have hP := xP_kept hP hq1
  refine W.widen (k := 0) (n := 0) (Nat.le_refl _) (Nat.le_refl _) ?_
  refine lv_if_ne (tgt := 11) hx hb dX11_tally_4 (by decide) (fun hcq3 => ?_) (fun hcq3 => ?_)
  · have h := ifn hcq3 h
    refine lv_iload_n hx hb dX11_tally_11 rfl (lv_at hl 2 rfl) ?_
    refine lv_bipush (v := 6) hx hb dX11_tally_12 (by decide) ?_
    refine lv_icmp_le (tgt := 21) hx hb dX11_tally_14 (by decide) (fun hcq4 => ?_) (fun hcq4 => ?_)
    · have h := ifp hcq4 h
      refine lv_iload_n hx hb dX11_tally_21 rfl (lv_at hl 2 rfl) ?_
      refine lv_if_ge (tgt := 29) hx hb dX11_tally_22 (by decide) (fun hcq5 => ?_) (fun hcq5 => ?_)
      · have h := ifp hcq5 h
        refine lv_aload_n hx hb dX11_tally_29 rfl (lv_at hl 0 rfl) ?_
        refine va_get (D := D) (ci := 11) (v := .ref (G.1 107)) (C := RX11) (T := TX11) (N := 13) hx hb hts iwX11 hown hK hP 105 (xg_7 rfl) rfl 2 (by decide) (hts _ mw_284) (fun _ h9 => h9) rfl dX11_tally_30 ?_
        refine lv_iload_n hx hb dX11_tally_33 rfl (lv_at hl 1 rfl) ?_
        obtain ⟨hiq6, h⟩ := nif h
        refine va_aldq hx hb hK hP 107 3 (xg_9 rfl) rfl hiq6 dX11_tally_34 ?_
        refine W.eq (g2 := F0 m 35 ls [.ref (G.1 (xb 107 + p1.toNatClampNeg))]) rfl ?_
        refine lv_iload_n hx hb dX11_tally_35 rfl (lv_at hl 2 rfl) ?_
        obtain ⟨xq7, hfq8, h⟩ := obd h
        refine va_callv (va_runV (As := [.int p2]) (rest := []) ⟨hx, hb, hml, hown, hts⟩ (kX10_begin l D G ub _ (xb 107 + p1.toNatClampNeg) (xr9 rfl (vp_lt hiq6)) p2 xq7 hfq8) (cwV 1 hts (lwW_gV mw_852 mw_853 mw_854 mw_5 mw_855) rfl rfl rfl (by decide +kernel) ⟨Nat.le_of_ble_eq_true rfl, Nat.le_of_ble_eq_true rfl⟩) ⟨fun a U g mk q => ⟨q.1, xPre_call q.2⟩, va_recv hK hP rfl (xg_4 (xr9 rfl (vp_lt hiq6))), fun U hU hW => ⟨rfl, xPre_at h0 hS hP hU hW⟩⟩ rfl rfl hl.1 rfl (lv_room (Nat.le_of_ble_eq_true rfl)) dX11_tally_36 ⟨Nat.zero_le _, Nat.zero_le _⟩) hS (fun q _ h => h) (fun q h => h) (fun u t H1 locs ht hvm hw hB hz1 hq1 hS => ?_)
        obtain rfl := hw.symm
        have hP := hB.1
        rw [ht] at hP
        refine W.widen (k := 0) (n := 0) (Nat.le_refl _) (Nat.le_refl _) ?_
        refine lv_iload_n hx hb dX11_tally_39 rfl (lv_at hl 2 rfl) ?_
        obtain rfl := Option.some.inj h
        exact W.iret (v := p2) hx hb hr (fun t ht hW => ⟨⟨_, _, rfl, ⟨rfl, rfl⟩, xPre_at h0 hS hP ht hW⟩, hS.F ht⟩) hS.2.2 dX11_tally_40
      have h := ifn hcq5 h
      refine lv_sipush (v := (-1013)) hx hb dX11_tally_25 (by decide) ?_
      obtain rfl := Option.some.inj h
      exact W.iret (v := (-1013)) hx hb hr (fun t ht hW => ⟨⟨_, _, rfl, ⟨rfl, rfl⟩, xPre_at h0 hS hP ht hW⟩, hS.F ht⟩) hS.2.2 dX11_tally_28
    have h := ifn hcq4 h
    refine lv_sipush (v := (-1002)) hx hb dX11_tally_17 (by decide) ?_
    obtain rfl := Option.some.inj h
    exact W.iret (v := (-1002)) hx hb hr (fun t ht hW => ⟨⟨_, _, rfl, ⟨rfl, rfl⟩, xPre_at h0 hS hP ht hW⟩, hS.F ht⟩) hS.2.2 dX11_tally_20
  have h := ifp hcq3 h
  refine lv_sipush (v := (-1001)) hx hb dX11_tally_7 (by decide) ?_
  obtain rfl := Option.some.inj h
  exact W.iret (v := (-1001)) hx hb hr (fun t ht hW => ⟨⟨_, _, rfl, ⟨rfl, rfl⟩, xPre_at h0 hS hP ht hW⟩, hS.F ht⟩) hS.2.2 dX11_tally_10
def fX11_load (p1 : Int32) (p2 : Int32) (p3 : Int32) (σ : QMem) : Option (Int32 × QMem) :=
  (fX11_isTally p1).bind fun xq1 => (if xq1 = 0 then (some ((-1001), σ)) else ((fX11_isSlot p3).bind fun xq4 => (if xq4 = 0 then (some ((-1001), σ)) else (if (p1 < 0 ∨ xl 107 ≤ p1.toNatClampNeg) then none else ((fX10_isMissing (xb 107 + p1.toNatClampNeg) σ).bind fun xq8 => (if xq8.1 = 0 then ((fX10_hasPlace (xb 107 + p1.toNatClampNeg) p2 xq8.2).bind fun xq11 => (if xq11.1 = 0 then (some ((-1012), xq11.2)) else (if (p3 < 0 ∨ xl 102 ≤ p3.toNatClampNeg) then none else ((fX6_norm (xb 102 + p3.toNatClampNeg) xq11.2).bind fun xq15 => ((fX10_store (xb 107 + p1.toNatClampNeg) p2 xq15.1 xq15.2).bind fun xq17 => (some (xq15.1, xq17))))))) else (some ((-1011), xq8.2))))))))
set_option maxHeartbeats 4000000 in
set_option maxRecDepth 100000 in
theorem kX11_load (l : Launch) (D : va_G) (G : xG) (ub : xB) (σ : QMem) (p1 : Int32) (p2 : Int32) (p3 : Int32) (res : Int32 × QMem) (h : fX11_load p1 p2 p3 σ = some res) : Met l yX11_load (.code yX11_load cX11_load 6 (some .int) :: lwW) (rmD 1) (xPc D G ub σ [.ref (G.1 105), .int p1, .int p2, .int p3]) (xQi D G ub res) 0 0 (xA G) := by
  refine Met.ofW (cc := cX11_load) (maxL := 6) (ret := (some .int)) (by decide) rfl ?_
  intro p e s m args below meth c s₁ B hml hv
  obtain ⟨rfl, h0⟩ := hv
  have hx := B.exec
  have hb := B.bytes
  have hr := B.returns
  have hts := fun (w : Cond) (hw : w ∈ lwW) => atoms_spec (ws := (.code yX11_load cX11_load 6 (some .int) :: lwW)) B.pre w (List.mem_cons_of_mem _ hw)
  have hown : s.vm.findClass RX11 = some m.cls := findClass_of_methodNamed B.named
  have hlocks := B.notSynchronized
  have hP := h0.1
  have hK := h0.2.1
  have hi := h0.2.2.1
  have hZ := h0.2.2.2
  have hN := h0.2.2.2.2.2.2.2.1
  have hV := h0.2.2.2.2.2.2.2.2.1
  have hS : va_S (xA G) s.heap s.heap [] := va_S.rf
  have hl := lv_entry ([.ref (G.1 105), .int p1, .int p2, .int p3]) (n := 6) (Nat.le_of_ble_eq_true rfl)
  rw [lg_entry_eq]
  generalize (lg_sl ([.ref (G.1 105), .int p1, .int p2, .int p3]) ++ List.replicate (6 - (lg_sl ([.ref (G.1 105), .int p1, .int p2, .int p3])).length) Slot.unset).toArray = ls at hl ⊢
  have hl : lv_has ls 6 [(0, .ref (G.1 105)), (1, .int p1), (2, .int p2), (3, .int p3)] := hl
  unfold fX11_load at h
  refine lv_iload_n hx hb dX11_load_0 rfl (lv_at hl 1 rfl) ?_
  obtain ⟨xq1, hfq2, h⟩ := obd h
  refine va_calli (va_runS (As := [.int p1]) (rest := []) ⟨hx, hb, hml, hown, hts⟩ (kX11_isTally l p1 xq1 hfq2) (va_cwS 1 hts (lwW_gS mw_849 mw_850 mw_1 mw_851) rfl rfl rfl (by decide +kernel) ⟨Nat.le_of_ble_eq_true rfl, Nat.le_of_ble_eq_true rfl⟩) ⟨fun a U g mk q => ⟨q.1, trivial⟩, fun U hU hW => ⟨rfl, trivial⟩⟩ rfl rfl hl.1 rfl (lv_room (Nat.le_of_ble_eq_true rfl)) dX11_load_1 ⟨Nat.zero_le _, Nat.zero_le _⟩) hS (fun q _ h => h.elim) (fun q h => h.elim) (fun r u t H1 locs ht hvm hw hB hz1 hq1 hS => ?_)
  obtain rfl := hw.symm
  have hP := xP_kept hP hq1
  refine W.widen (k := 0) (n := 0) (Nat.le_refl _) (Nat.le_refl _) ?_
  refine lv_if_eq (tgt := 14) hx hb dX11_load_4 (by decide) (fun hcq3 => ?_) (fun hcq3 => ?_)
  · have h := ifp hcq3 h
    refine lv_sipush (v := (-1001)) hx hb dX11_load_14 (by decide) ?_
    obtain rfl := Option.some.inj h
    exact W.iret (v := (-1001)) hx hb hr (fun t ht hW => ⟨⟨_, _, rfl, ⟨rfl, rfl⟩, xPre_at h0 hS hP ht hW⟩, hS.F ht⟩) hS.2.2 dX11_load_17
  have h := ifn hcq3 h
  refine lv_iload_n hx hb dX11_load_7 rfl (lv_at hl 3 rfl) ?_
  obtain ⟨xq4, hfq5, h⟩ := obd h
  refine va_calli (va_runS (As := [.int p3]) (rest := []) ⟨hx, hb, hml, hown, hts⟩ (kX11_isSlot l p3 xq4 hfq5) (va_cwS 1 hts (lwW_gS mw_463 mw_464 mw_1 mw_465) rfl rfl rfl (by decide +kernel) ⟨Nat.le_of_ble_eq_true rfl, Nat.le_of_ble_eq_true rfl⟩) ⟨fun a U g mk q => ⟨q.1, trivial⟩, fun U hU hW => ⟨rfl, trivial⟩⟩ rfl rfl hl.1 rfl (lv_room (Nat.le_of_ble_eq_true rfl)) dX11_load_8 ⟨Nat.zero_le _, Nat.zero_le _⟩) hS (fun q _ h => h.elim) (fun q h => h.elim) (fun r u t H1 locs ht hvm hw hB hz1 hq1 hS => ?_)
  obtain rfl := hw.symm
  have hP := xP_kept hP hq1
  refine W.widen (k := 0) (n := 0) (Nat.le_refl _) (Nat.le_refl _) ?_
  refine lv_if_ne (tgt := 18) hx hb dX11_load_11 (by decide) (fun hcq6 => ?_) (fun hcq6 => ?_)
  · have h := ifn hcq6 h
    refine lv_aload_n hx hb dX11_load_18 rfl (lv_at hl 0 rfl) ?_
    refine va_get (D := D) (ci := 11) (v := .ref (G.1 107)) (C := RX11) (T := TX11) (N := 13) hx hb hts iwX11 hown hK hP 105 (xg_7 rfl) rfl 2 (by decide) (hts _ mw_284) (fun _ h9 => h9) rfl dX11_load_19 ?_
    refine lv_iload_n hx hb dX11_load_22 rfl (lv_at hl 1 rfl) ?_
    obtain ⟨hiq7, h⟩ := nif h
    refine va_aldq hx hb hK hP 107 3 (xg_9 rfl) rfl hiq7 dX11_load_23 ?_
    refine W.eq (g2 := F0 m 24 ls [.ref (G.1 (xb 107 + p1.toNatClampNeg))]) rfl ?_
    refine lv_astore (lv' := [(4, .ref (G.1 (xb 107 + p1.toNatClampNeg))), (0, .ref (G.1 105)), (1, .int p1), (2, .int p2), (3, .int p3)]) hx hb dX11_load_24 hl (by decide) rfl (fun ls hl => ?_)
    refine lv_aload hx hb dX11_load_26 (lv_at hl 0 rfl) ?_
    obtain ⟨xq8, hfq9, h⟩ := obd h
    refine va_calli (va_runV (As := []) (rest := []) ⟨hx, hb, hml, hown, hts⟩ (kX10_isMissing l D G ub _ (xb 107 + p1.toNatClampNeg) (xr9 rfl (vp_lt hiq7)) xq8 hfq9) (cwV 0 hts (lwW_gV mw_864 mw_865 mw_866 mw_5 mw_867) rfl rfl rfl (by decide +kernel) ⟨Nat.le_of_ble_eq_true rfl, Nat.le_of_ble_eq_true rfl⟩) ⟨fun a U g mk q => ⟨q.1, xPre_call q.2⟩, va_recv hK hP rfl (xg_4 (xr9 rfl (vp_lt hiq7))), fun U hU hW => ⟨rfl, xPre_at h0 hS hP hU hW⟩⟩ rfl rfl hl.1 rfl (lv_room (Nat.le_of_ble_eq_true rfl)) dX11_load_28 ⟨Nat.zero_le _, Nat.zero_le _⟩) hS (fun q _ h => h) (fun q h => h) (fun r u t H1 locs ht hvm hw hB hz1 hq1 hS => ?_)
    obtain ⟨rfl, rfl⟩ := hw
    have hP := hB.1
    rw [ht] at hP
    refine W.widen (k := 0) (n := 0) (Nat.le_refl _) (Nat.le_refl _) ?_
    refine lv_if_eq (tgt := 38) hx hb dX11_load_31 (by decide) (fun hcq10 => ?_) (fun hcq10 => ?_)
    · have h := ifp hcq10 h
      refine lv_aload hx hb dX11_load_38 (lv_at hl 0 rfl) ?_
      refine lv_iload_n hx hb dX11_load_40 rfl (lv_at hl 3 rfl) ?_
      obtain ⟨xq11, hfq12, h⟩ := obd h
      refine va_calli (va_runV (As := [.int p2]) (rest := []) ⟨hx, hb, hml, hown, hts⟩ (kX10_hasPlace l D G ub _ (xb 107 + p1.toNatClampNeg) (xr9 rfl (vp_lt hiq7)) p2 xq11 hfq12) (cwV 1 hts (lwW_gV mw_868 mw_869 mw_870 mw_5 mw_871) rfl rfl rfl (by decide +kernel) ⟨Nat.le_of_ble_eq_true rfl, Nat.le_of_ble_eq_true rfl⟩) ⟨fun a U g mk q => ⟨q.1, xPre_call q.2⟩, va_recv hK hP rfl (xg_4 (xr9 rfl (vp_lt hiq7))), fun U hU hW => ⟨rfl, xPre_at h0 hS hP hU hW⟩⟩ rfl rfl hl.1 rfl (lv_room (Nat.le_of_ble_eq_true rfl)) dX11_load_41 ⟨Nat.zero_le _, Nat.zero_le _⟩) hS (fun q _ h => h) (fun q h => h) (fun r u t H1 locs ht hvm hw hB hz1 hq1 hS => ?_)
      obtain ⟨rfl, rfl⟩ := hw
      have hP := hB.1
      rw [ht] at hP
      refine W.widen (k := 0) (n := 0) (Nat.le_refl _) (Nat.le_refl _) ?_
      refine lv_if_ne (tgt := 51) hx hb dX11_load_44 (by decide) (fun hcq13 => ?_) (fun hcq13 => ?_)
      · have h := ifn hcq13 h
        refine lv_aload_n hx hb dX11_load_51 rfl (lv_at hl 1 rfl) ?_
        refine va_get (D := D) (ci := 11) (v := .ref (G.1 102)) (C := RX11) (T := TX11) (N := 13) hx hb hts iwX11 hown hK hP 105 (xg_7 rfl) rfl 0 (by decide) (hts _ mw_282) (fun _ h9 => h9) rfl dX11_load_52 ?_
        refine lv_iload_n hx hb dX11_load_55 rfl (lv_at hl 4 rfl) ?_
        obtain ⟨hiq14, h⟩ := nif h
        refine va_aldq hx hb hK hP 102 1 (xg_6 rfl) rfl hiq14 dX11_load_56 ?_
        refine W.eq (g2 := F0 m 57 ls [.ref (G.1 (xb 102 + p3.toNatClampNeg))]) rfl ?_
        obtain ⟨xq15, hfq16, h⟩ := obd h
        refine va_calli (va_runV (As := []) (rest := []) ⟨hx, hb, hml, hown, hts⟩ (kX6_norm l D G ub _ (xb 102 + p3.toNatClampNeg) (xr6 rfl (vp_lt hiq14)) xq15 hfq16) (cwV 0 hts (lwW_gV mw_515 mw_516 mw_517 mw_3 mw_518) rfl rfl rfl (by decide +kernel) ⟨Nat.le_of_ble_eq_true rfl, Nat.le_of_ble_eq_true rfl⟩) ⟨fun a U g mk q => ⟨q.1, xPre_call q.2⟩, va_recv hK hP rfl (xg_0 (xr6 rfl (vp_lt hiq14))), fun U hU hW => ⟨rfl, xPre_at h0 hS hP hU hW⟩⟩ rfl rfl hl.1 rfl (lv_room (Nat.le_of_ble_eq_true rfl)) dX11_load_57 ⟨Nat.zero_le _, Nat.zero_le _⟩) hS (fun q _ h => h) (fun q h => h) (fun r u t H1 locs ht hvm hw hB hz1 hq1 hS => ?_)
        obtain ⟨rfl, rfl⟩ := hw
        have hP := hB.1
        rw [ht] at hP
        refine W.widen (k := 0) (n := 0) (Nat.le_refl _) (Nat.le_refl _) ?_
        refine lv_istore (lv' := [(5, .int xq15.1), (4, .ref (G.1 (xb 107 + p1.toNatClampNeg))), (0, .ref (G.1 105)), (1, .int p1), (2, .int p2), (3, .int p3)]) hx hb dX11_load_60 hl (by decide) rfl (fun ls hl => ?_)
        refine lv_aload hx hb dX11_load_62 (lv_at hl 1 rfl) ?_
        refine lv_iload_n hx hb dX11_load_64 rfl (lv_at hl 4 rfl) ?_
        refine lv_iload hx hb dX11_load_65 (lv_at hl 0 rfl) ?_
        obtain ⟨xq17, hfq18, h⟩ := obd h
        refine va_callv (va_runV (As := [.int p2, .int xq15.1]) (rest := []) ⟨hx, hb, hml, hown, hts⟩ (kX10_store l D G ub _ (xb 107 + p1.toNatClampNeg) (xr9 rfl (vp_lt hiq7)) p2 xq15.1 xq17 hfq18) (cwV 2 hts (lwW_gV mw_872 mw_873 mw_874 mw_5 mw_875) rfl rfl rfl (by decide +kernel) ⟨Nat.le_of_ble_eq_true rfl, Nat.le_of_ble_eq_true rfl⟩) ⟨fun a U g mk q => ⟨q.1, xPre_call q.2⟩, va_recv hK hP rfl (xg_4 (xr9 rfl (vp_lt hiq7))), fun U hU hW => ⟨rfl, xPre_at h0 hS hP hU hW⟩⟩ rfl rfl hl.1 rfl (lv_room (Nat.le_of_ble_eq_true rfl)) dX11_load_67 ⟨Nat.zero_le _, Nat.zero_le _⟩) hS (fun q _ h => h) (fun q h => h) (fun u t H1 locs ht hvm hw hB hz1 hq1 hS => ?_)
        obtain rfl := hw.symm
        have hP := hB.1
        rw [ht] at hP
        refine W.widen (k := 0) (n := 0) (Nat.le_refl _) (Nat.le_refl _) ?_
        refine lv_iload hx hb dX11_load_70 (lv_at hl 0 rfl) ?_
        obtain rfl := Option.some.inj h
        exact W.iret (v := xq15.1) hx hb hr (fun t ht hW => ⟨⟨_, _, rfl, ⟨rfl, rfl⟩, xPre_at h0 hS hP ht hW⟩, hS.F ht⟩) hS.2.2 dX11_load_72
      have h := ifp hcq13 h
      refine lv_sipush (v := (-1012)) hx hb dX11_load_47 (by decide) ?_
      obtain rfl := Option.some.inj h
      exact W.iret (v := (-1012)) hx hb hr (fun t ht hW => ⟨⟨_, _, rfl, ⟨rfl, rfl⟩, xPre_at h0 hS hP ht hW⟩, hS.F ht⟩) hS.2.2 dX11_load_50
    have h := ifn hcq10 h
    refine lv_sipush (v := (-1011)) hx hb dX11_load_34 (by decide) ?_
    obtain rfl := Option.some.inj h
    exact W.iret (v := (-1011)) hx hb hr (fun t ht hW => ⟨⟨_, _, rfl, ⟨rfl, rfl⟩, xPre_at h0 hS hP ht hW⟩, hS.F ht⟩) hS.2.2 dX11_load_37
  have h := ifp hcq6 h
  refine lv_sipush (v := (-1001)) hx hb dX11_load_14 (by decide) ?_
  obtain rfl := Option.some.inj h
  exact W.iret (v := (-1001)) hx hb hr (fun t ht hW => ⟨⟨_, _, rfl, ⟨rfl, rfl⟩, xPre_at h0 hS hP ht hW⟩, hS.F ht⟩) hS.2.2 dX11_load_17
def fX11_calculate (p0 : Int32) (p1 : Int64) (p3 : Int64) : Option (Int64) :=
  if p0 = 0 then (some (p1 + p3)) else (if p0 = 1 then (some (p1 - p3)) else (if p0 = 2 then (some (p1 * p3)) else (if p0 = 3 then (if (lg_cmp p3 0) = 0 then (some 0) else (if p3 = 0 then none else (some (p1 / p3)))) else (if p0 = 4 then (if (lg_cmp p3 0) = 0 then (some 0) else (if p3 = 0 then none else (some (p1 - p1 / p3 * p3)))) else (some p3)))))
set_option maxHeartbeats 4000000 in
set_option maxRecDepth 100000 in
theorem kX11_calculate (l : Launch) (p0 : Int32) (p1 : Int64) (p3 : Int64) (res : Int64) (h : fX11_calculate p0 p1 p3 = some res) : Met l yX11_calculate (.code yX11_calculate cX11_calculate 5 (some .long) :: lwW) (rmD 0) (nPc [.int p0, .long p1, .long p3]) (nQl res) 0 0 (fun _ => False) := by
  refine Met.ofW (cc := cX11_calculate) (maxL := 5) (ret := (some .long)) (by decide) rfl ?_
  intro p e s m args below meth c s₁ B hml hv
  obtain ⟨rfl, h0⟩ := hv
  have hx := B.exec
  have hb := B.bytes
  have hr := B.returns
  have hts := fun (w : Cond) (hw : w ∈ lwW) => atoms_spec (ws := (.code yX11_calculate cX11_calculate 5 (some .long) :: lwW)) B.pre w (List.mem_cons_of_mem _ hw)
  have hown : s.vm.findClass RX11 = some m.cls := findClass_of_methodNamed B.named
  have hlocks := B.notSynchronized
  have hS : va_S (fun _ => False) s.heap s.heap [] := va_S.rf
  have hl := lv_entry ([.int p0, .long p1, .long p3]) (n := 5) (Nat.le_of_ble_eq_true rfl)
  rw [lg_entry_eq]
  generalize (lg_sl ([.int p0, .long p1, .long p3]) ++ List.replicate (5 - (lg_sl ([.int p0, .long p1, .long p3])).length) Slot.unset).toArray = ls at hl ⊢
  have hl : lv_has ls 5 [(0, .int p0), (1, .long p1), (3, .long p3)] := hl
  unfold fX11_calculate at h
  refine lv_iload_n hx hb dX11_calculate_0 rfl (lv_at hl 0 rfl) ?_
  by_cases hcq1 : p0 = 0
  · have h := ifp hcq1 h
    refine lv_tableIn (off := 35) (tgt := 36) hx hb dX11_calculate_1 (by rw [hcq1]; decide) (by rw [hcq1]; decide) (by rw [hcq1]; rfl) (by decide) ?_
    refine lv_lload_n hx hb dX11_calculate_36 rfl (lv_at hl 1 rfl) ?_
    refine lv_lload_n hx hb dX11_calculate_37 rfl (lv_at hl 2 rfl) ?_
    refine lv_ladd hx hb dX11_calculate_38 ?_
    obtain rfl := Option.some.inj h
    exact W.lret (v := p1 + p3) hx hb hr (fun t ht hW => ⟨⟨_, (), rfl, rfl, trivial⟩, hS.F ht⟩) hS.2.2 dX11_calculate_39
  have h := ifn hcq1 h
  by_cases hcq2 : p0 = 1
  · have h := ifp hcq2 h
    refine lv_tableIn (off := 39) (tgt := 40) hx hb dX11_calculate_1 (by rw [hcq2]; decide) (by rw [hcq2]; decide) (by rw [hcq2]; rfl) (by decide) ?_
    refine lv_lload_n hx hb dX11_calculate_40 rfl (lv_at hl 1 rfl) ?_
    refine lv_lload_n hx hb dX11_calculate_41 rfl (lv_at hl 2 rfl) ?_
    refine lv_lsub hx hb dX11_calculate_42 ?_
    obtain rfl := Option.some.inj h
    exact W.lret (v := p1 - p3) hx hb hr (fun t ht hW => ⟨⟨_, (), rfl, rfl, trivial⟩, hS.F ht⟩) hS.2.2 dX11_calculate_43
  have h := ifn hcq2 h
  by_cases hcq3 : p0 = 2
  · have h := ifp hcq3 h
    refine lv_tableIn (off := 43) (tgt := 44) hx hb dX11_calculate_1 (by rw [hcq3]; decide) (by rw [hcq3]; decide) (by rw [hcq3]; rfl) (by decide) ?_
    refine lv_lload_n hx hb dX11_calculate_44 rfl (lv_at hl 1 rfl) ?_
    refine lv_lload_n hx hb dX11_calculate_45 rfl (lv_at hl 2 rfl) ?_
    refine lv_lmul hx hb dX11_calculate_46 ?_
    obtain rfl := Option.some.inj h
    exact W.lret (v := p1 * p3) hx hb hr (fun t ht hW => ⟨⟨_, (), rfl, rfl, trivial⟩, hS.F ht⟩) hS.2.2 dX11_calculate_47
  have h := ifn hcq3 h
  by_cases hcq4 : p0 = 3
  · have h := ifp hcq4 h
    refine lv_tableIn (off := 47) (tgt := 48) hx hb dX11_calculate_1 (by rw [hcq4]; decide) (by rw [hcq4]; decide) (by rw [hcq4]; rfl) (by decide) ?_
    refine lv_lload_n hx hb dX11_calculate_48 rfl (lv_at hl 2 rfl) ?_
    refine lv_lconst (v := 0) hx hb dX11_calculate_49 (by decide) ?_
    refine W.lcmp hx hb dX11_calculate_50 ?_
    refine lv_if_ne (tgt := 58) hx hb dX11_calculate_51 (by decide) (fun hcq5 => ?_) (fun hcq5 => ?_)
    · have h := ifn hcq5 h
      refine lv_lload_n hx hb dX11_calculate_58 rfl (lv_at hl 1 rfl) ?_
      refine lv_lload_n hx hb dX11_calculate_59 rfl (lv_at hl 2 rfl) ?_
      obtain ⟨hdq6, h⟩ := nif h
      refine lv_ldiv hx hb dX11_calculate_60 hdq6 ?_
      obtain rfl := Option.some.inj h
      exact W.lret (v := p1 / p3) hx hb hr (fun t ht hW => ⟨⟨_, (), rfl, rfl, trivial⟩, hS.F ht⟩) hS.2.2 dX11_calculate_61
    have h := ifp hcq5 h
    refine lv_lconst (v := 0) hx hb dX11_calculate_54 (by decide) ?_
    refine lv_goto (tgt := 61) hx hb dX11_calculate_55 (by decide) ?_
    obtain rfl := Option.some.inj h
    exact W.lret (v := 0) hx hb hr (fun t ht hW => ⟨⟨_, (), rfl, rfl, trivial⟩, hS.F ht⟩) hS.2.2 dX11_calculate_61
  have h := ifn hcq4 h
  by_cases hcq7 : p0 = 4
  · have h := ifp hcq7 h
    refine lv_tableIn (off := 61) (tgt := 62) hx hb dX11_calculate_1 (by rw [hcq7]; decide) (by rw [hcq7]; decide) (by rw [hcq7]; rfl) (by decide) ?_
    refine lv_lload_n hx hb dX11_calculate_62 rfl (lv_at hl 2 rfl) ?_
    refine lv_lconst (v := 0) hx hb dX11_calculate_63 (by decide) ?_
    refine W.lcmp hx hb dX11_calculate_64 ?_
    refine lv_if_ne (tgt := 72) hx hb dX11_calculate_65 (by decide) (fun hcq8 => ?_) (fun hcq8 => ?_)
    · have h := ifn hcq8 h
      refine lv_lload_n hx hb dX11_calculate_72 rfl (lv_at hl 1 rfl) ?_
      refine lv_lload_n hx hb dX11_calculate_73 rfl (lv_at hl 2 rfl) ?_
      obtain ⟨hdq9, h⟩ := nif h
      refine lv_lrem hx hb dX11_calculate_74 hdq9 ?_
      obtain rfl := Option.some.inj h
      exact W.lret (v := p1 - p1 / p3 * p3) hx hb hr (fun t ht hW => ⟨⟨_, (), rfl, rfl, trivial⟩, hS.F ht⟩) hS.2.2 dX11_calculate_75
    have h := ifp hcq8 h
    refine lv_lconst (v := 0) hx hb dX11_calculate_68 (by decide) ?_
    refine lv_goto (tgt := 75) hx hb dX11_calculate_69 (by decide) ?_
    obtain rfl := Option.some.inj h
    exact W.lret (v := 0) hx hb hr (fun t ht hW => ⟨⟨_, (), rfl, rfl, trivial⟩, hS.F ht⟩) hS.2.2 dX11_calculate_75
  have h := ifn hcq7 h
  refine lv_tableOut (tgt := 76) hx hb dX11_calculate_1 (by have t0 := toI_ne hcq1; have t1 := toI_ne hcq2; have t2 := toI_ne hcq3; have t3 := toI_ne hcq4; have t4 := toI_ne hcq7; rw [show (0 : Int32).toInt = 0 from by decide] at t0; rw [show (1 : Int32).toInt = 1 from by decide] at t1; rw [show (2 : Int32).toInt = 2 from by decide] at t2; rw [show (3 : Int32).toInt = 3 from by decide] at t3; rw [show (4 : Int32).toInt = 4 from by decide] at t4; omega) (by decide) ?_
  refine lv_lload_n hx hb dX11_calculate_76 rfl (lv_at hl 2 rfl) ?_
  obtain rfl := Option.some.inj h
  exact W.lret (v := p3) hx hb hr (fun t ht hW => ⟨⟨_, (), rfl, rfl, trivial⟩, hS.F ht⟩) hS.2.2 dX11_calculate_77
def fX11_work_J95 (p1 : Int32) (p2 : Int32) (p3 : Int32) (p4 : Int32) (v5 : Nat) (v6 : Int32) (τ : QMem) : Option (Int32 × QMem) :=
  (fX10_at v5 p3 τ).bind fun xq1 => ((fX11_calculate p2 xq1.1.toInt64 v6.toInt64).bind fun xq3 => (if (lg_cmp xq3 xq3.toInt32.toInt64) = 0 then ((fX10_store v5 p3 ((ms xq1.2 105 12 xq3.toInt32) 105 12) (ms xq1.2 105 12 xq3.toInt32)).bind fun xq6 => (some (0, xq6))) else (some ((-1015), xq1.2))))
def fX11_work (p1 : Int32) (p2 : Int32) (p3 : Int32) (p4 : Int32) (σ : QMem) : Option (Int32 × QMem) :=
  (fX11_isTally p1).bind fun xq15 => (if xq15 = 0 then (some ((-1001), σ)) else (if p2 < 0 then (some ((-1002), σ)) else (if p2 ≤ 5 then (if (p1 < 0 ∨ xl 107 ≤ p1.toNatClampNeg) then none else ((fX10_isMissing (xb 107 + p1.toNatClampNeg) σ).bind fun xq21 => (if xq21.1 = 0 then ((fX10_hasPlace (xb 107 + p1.toNatClampNeg) p3 xq21.2).bind fun xq24 => (if xq24.1 = 0 then (some ((-1012), xq24.2)) else ((fX10_hasPlace (xb 107 + p1.toNatClampNeg) p4 xq24.2).bind fun xq27 => (if xq27.1 = 0 then (some ((-1012), xq27.2)) else ((fX10_at (xb 107 + p1.toNatClampNeg) p4 xq27.2).bind fun xq30 => (if xq30.1 = 0 then (if p2 = 3 then (some ((-1014), xq30.2)) else (if p2 = 4 then (some ((-1014), xq30.2)) else (fX11_work_J95 p1 p2 p3 p4 (xb 107 + p1.toNatClampNeg) xq30.1 xq30.2))) else (fX11_work_J95 p1 p2 p3 p4 (xb 107 + p1.toNatClampNeg) xq30.1 xq30.2))))))) else (some ((-1011), xq21.2))))) else (some ((-1002), σ)))))
set_option maxHeartbeats 4000000 in
set_option maxRecDepth 100000 in
theorem kX11_work (l : Launch) (D : va_G) (G : xG) (ub : xB) (σ : QMem) (p1 : Int32) (p2 : Int32) (p3 : Int32) (p4 : Int32) (res : Int32 × QMem) (h : fX11_work p1 p2 p3 p4 σ = some res) : Met l yX11_work (.code yX11_work cX11_work 9 (some .int) :: lwW) (rmD 1) (xPc D G ub σ [.ref (G.1 105), .int p1, .int p2, .int p3, .int p4]) (xQi D G ub res) 0 0 (xA G) := by
  refine Met.ofW (cc := cX11_work) (maxL := 9) (ret := (some .int)) (by decide) rfl ?_
  intro p e s m args below meth c s₁ B hml hv
  obtain ⟨rfl, h0⟩ := hv
  have hx := B.exec
  have hb := B.bytes
  have hr := B.returns
  have hts := fun (w : Cond) (hw : w ∈ lwW) => atoms_spec (ws := (.code yX11_work cX11_work 9 (some .int) :: lwW)) B.pre w (List.mem_cons_of_mem _ hw)
  have hown : s.vm.findClass RX11 = some m.cls := findClass_of_methodNamed B.named
  have hlocks := B.notSynchronized
  have hP := h0.1
  have hK := h0.2.1
  have hi := h0.2.2.1
  have hZ := h0.2.2.2
  have hN := h0.2.2.2.2.2.2.2.1
  have hV := h0.2.2.2.2.2.2.2.2.1
  have hS : va_S (xA G) s.heap s.heap [] := va_S.rf
  have hl := lv_entry ([.ref (G.1 105), .int p1, .int p2, .int p3, .int p4]) (n := 9) (Nat.le_of_ble_eq_true rfl)
  rw [lg_entry_eq]
  generalize (lg_sl ([.ref (G.1 105), .int p1, .int p2, .int p3, .int p4]) ++ List.replicate (9 - (lg_sl ([.ref (G.1 105), .int p1, .int p2, .int p3, .int p4])).length) Slot.unset).toArray = ls at hl ⊢
  have hl : lv_has ls 9 [(0, .ref (G.1 105)), (1, .int p1), (2, .int p2), (3, .int p3), (4, .int p4)] := hl
  unfold fX11_work at h
  have J95 : ∀ (v5 : Nat) (hv5 : xk v5 = 4) (v6 : Int32) (τ : QMem) (H : Heap) (locs : List Loc) (ls : Array Slot), fX11_work_J95 p1 p2 p3 p4 v5 v6 τ = some res → va_P D vwCl (xW G τ) H → va_S (xA G) s.heap H locs → lv_has ls 9 [(0, .ref (G.1 105)), (2, .int p2), (3, .int p3), (5, .ref (G.1 v5)), (6, .int v6)] → W p l e (headSpec (.code yX11_work cX11_work 9 (some .int) :: lwW) (rmD 1)).room s m ([.ref (G.1 105), .int p1, .int p2, .int p3, .int p4] : List Value).toArray below meth c H locs 0 0 (MQ below (xQi D G ub res) ([.ref (G.1 105), .int p1, .int p2, .int p3, .int p4] : List Value).toArray s 0 0 (xA G)) (F0 m 95 ls []) := by
    intro v5 hv5 v6 τ H locs ls h hP hS hl
    unfold fX11_work_J95 at h
    refine lv_iload_n hx hb dX11_work_95 rfl (lv_at hl 1 rfl) ?_
    refine lv_aload hx hb dX11_work_96 (lv_at hl 3 rfl) ?_
    refine lv_iload_n hx hb dX11_work_98 rfl (lv_at hl 2 rfl) ?_
    obtain ⟨xq8, hfq9, h⟩ := obd h
    refine va_calli (va_runV (As := [.int p3]) (rest := [.int p2]) ⟨hx, hb, hml, hown, hts⟩ (kX10_at l D G ub _ v5 hv5 p3 xq8 hfq9) (cwV 1 hts (lwW_gV mw_880 mw_881 mw_882 mw_5 mw_883) rfl rfl rfl (by decide +kernel) ⟨Nat.le_of_ble_eq_true rfl, Nat.le_of_ble_eq_true rfl⟩) ⟨fun a U g mk q => ⟨q.1, xPre_call q.2⟩, va_recv hK hP rfl (xg_4 hv5), fun U hU hW => ⟨rfl, xPre_at h0 hS hP hU hW⟩⟩ rfl rfl hl.1 rfl (lv_room (Nat.le_of_ble_eq_true rfl)) dX11_work_99 ⟨Nat.zero_le _, Nat.zero_le _⟩) hS (fun q _ h => h) (fun q h => h) (fun r u t H1 locs ht hvm hw hB hz1 hq1 hS => ?_)
    obtain ⟨rfl, rfl⟩ := hw
    have hP := hB.1
    rw [ht] at hP
    refine W.widen (k := 0) (n := 0) (Nat.le_refl _) (Nat.le_refl _) ?_
    refine lv_i2l hx hb dX11_work_102 rfl ?_
    refine lv_iload hx hb dX11_work_103 (lv_at hl 4 rfl) ?_
    refine lv_i2l hx hb dX11_work_105 rfl ?_
    obtain ⟨xq10, hfq11, h⟩ := obd h
    refine va_calll (va_runS (As := [.int p2, .long xq8.1.toInt64, .long v6.toInt64]) (rest := []) ⟨hx, hb, hml, hown, hts⟩ (kX11_calculate l p2 xq8.1.toInt64 v6.toInt64 xq10 hfq11) (va_cwS 3 hts (lwW_gS mw_884 mw_885 mw_1 mw_886) rfl rfl rfl (by decide +kernel) ⟨Nat.le_of_ble_eq_true rfl, Nat.le_of_ble_eq_true rfl⟩) ⟨fun a U g mk q => ⟨q.1, trivial⟩, fun U hU hW => ⟨rfl, trivial⟩⟩ rfl rfl hl.1 rfl (lv_room (Nat.le_of_ble_eq_true rfl)) dX11_work_106 ⟨Nat.zero_le _, Nat.zero_le _⟩) hS (fun q _ h => h.elim) (fun q h => h.elim) (fun r u t H1 locs ht hvm hw hB hz1 hq1 hS => ?_)
    obtain rfl := hw.symm
    have hP := xP_kept hP hq1
    refine W.widen (k := 0) (n := 0) (Nat.le_refl _) (Nat.le_refl _) ?_
    refine lv_lstore (lv' := [(7, .long xq10), (0, .ref (G.1 105)), (2, .int p2), (3, .int p3), (5, .ref (G.1 v5)), (6, .int v6)]) hx hb dX11_work_109 hl (by decide) rfl (fun ls hl => ?_)
    refine lv_lload hx hb dX11_work_111 (lv_at hl 0 rfl) ?_
    refine lv_lload hx hb dX11_work_113 (lv_at hl 0 rfl) ?_
    refine lv_l2i hx hb dX11_work_115 rfl ?_
    refine lv_i2l hx hb dX11_work_116 rfl ?_
    refine W.lcmp hx hb dX11_work_117 ?_
    refine lv_if_eq (tgt := 125) hx hb dX11_work_118 (by decide) (fun hcq12 => ?_) (fun hcq12 => ?_)
    · have h := ifp hcq12 h
      refine lv_aload_n hx hb dX11_work_125 rfl (lv_at hl 1 rfl) ?_
      refine lv_lload hx hb dX11_work_126 (lv_at hl 0 rfl) ?_
      refine lv_l2i hx hb dX11_work_128 rfl ?_
      refine va_put (D := D) (ci := 11) (v := .int xq10.toInt32) (ty := .int) (C := RX11) (T := TX11) (N := 13) hx hb hts iwX11 tyX11 tyX11_ok nmX11 hown hK hP (xD hi) hS 105 (xg_7 rfl) rfl 12 (by decide) (hts _ mw_294) (fun _ h9 => h9) rfl (by decide +kernel) rfl rfl (Nat.le_of_ble_eq_true rfl) dX11_work_129 (fun H locs hP hD hS => ?_)
      have hP : va_P D vwCl (xW G (ms xq8.2 105 12 xq10.toInt32)) H := by rw [← xs_7_12 rfl]; exact hP
      refine lv_aload hx hb dX11_work_132 (lv_at hl 4 rfl) ?_
      refine lv_iload_n hx hb dX11_work_134 rfl (lv_at hl 3 rfl) ?_
      refine lv_aload_n hx hb dX11_work_135 rfl (lv_at hl 1 rfl) ?_
      refine va_get (D := D) (ci := 11) (v := .int ((ms xq8.2 105 12 xq10.toInt32) 105 12)) (C := RX11) (T := TX11) (N := 13) hx hb hts iwX11 hown hK hP 105 (xg_7 rfl) rfl 12 (by decide) (hts _ mw_294) (fun _ h9 => h9) rfl dX11_work_136 ?_
      obtain ⟨xq13, hfq14, h⟩ := obd h
      refine va_callv (va_runV (As := [.int p3, .int ((ms xq8.2 105 12 xq10.toInt32) 105 12)]) (rest := []) ⟨hx, hb, hml, hown, hts⟩ (kX10_store l D G ub _ v5 hv5 p3 ((ms xq8.2 105 12 xq10.toInt32) 105 12) xq13 hfq14) (cwV 2 hts (lwW_gV mw_872 mw_873 mw_874 mw_5 mw_875) rfl rfl rfl (by decide +kernel) ⟨Nat.le_of_ble_eq_true rfl, Nat.le_of_ble_eq_true rfl⟩) ⟨fun a U g mk q => ⟨q.1, xPre_call q.2⟩, va_recv hK hP rfl (xg_4 hv5), fun U hU hW => ⟨rfl, xPre_at h0 hS hP hU hW⟩⟩ rfl rfl hl.1 rfl (lv_room (Nat.le_of_ble_eq_true rfl)) dX11_work_139 ⟨Nat.zero_le _, Nat.zero_le _⟩) hS (fun q _ h => h) (fun q h => h) (fun u t H1 locs ht hvm hw hB hz1 hq1 hS => ?_)
      obtain rfl := hw.symm
      have hP := hB.1
      rw [ht] at hP
      refine W.widen (k := 0) (n := 0) (Nat.le_refl _) (Nat.le_refl _) ?_
      refine lv_iconst (v := 0) hx hb dX11_work_142 (by decide) ?_
      obtain rfl := Option.some.inj h
      exact W.iret (v := 0) hx hb hr (fun t ht hW => ⟨⟨_, _, rfl, ⟨rfl, rfl⟩, xPre_at h0 hS hP ht hW⟩, hS.F ht⟩) hS.2.2 dX11_work_143
    have h := ifn hcq12 h
    refine lv_sipush (v := (-1015)) hx hb dX11_work_121 (by decide) ?_
    obtain rfl := Option.some.inj h
    exact W.iret (v := (-1015)) hx hb hr (fun t ht hW => ⟨⟨_, _, rfl, ⟨rfl, rfl⟩, xPre_at h0 hS hP ht hW⟩, hS.F ht⟩) hS.2.2 dX11_work_124
  refine lv_iload_n hx hb dX11_work_0 rfl (lv_at hl 1 rfl) ?_
  obtain ⟨xq15, hfq16, h⟩ := obd h
  refine va_calli (va_runS (As := [.int p1]) (rest := []) ⟨hx, hb, hml, hown, hts⟩ (kX11_isTally l p1 xq15 hfq16) (va_cwS 1 hts (lwW_gS mw_849 mw_850 mw_1 mw_851) rfl rfl rfl (by decide +kernel) ⟨Nat.le_of_ble_eq_true rfl, Nat.le_of_ble_eq_true rfl⟩) ⟨fun a U g mk q => ⟨q.1, trivial⟩, fun U hU hW => ⟨rfl, trivial⟩⟩ rfl rfl hl.1 rfl (lv_room (Nat.le_of_ble_eq_true rfl)) dX11_work_1 ⟨Nat.zero_le _, Nat.zero_le _⟩) hS (fun q _ h => h.elim) (fun q h => h.elim) (fun r u t H1 locs ht hvm hw hB hz1 hq1 hS => ?_)
  obtain rfl := hw.symm
  have hP := xP_kept hP hq1
  refine W.widen (k := 0) (n := 0) (Nat.le_refl _) (Nat.le_refl _) ?_
  refine lv_if_ne (tgt := 11) hx hb dX11_work_4 (by decide) (fun hcq17 => ?_) (fun hcq17 => ?_)
  · have h := ifn hcq17 h
    refine lv_iload_n hx hb dX11_work_11 rfl (lv_at hl 2 rfl) ?_
    refine lv_if_lt (tgt := 20) hx hb dX11_work_12 (by decide) (fun hcq18 => ?_) (fun hcq18 => ?_)
    · have h := ifp hcq18 h
      refine lv_sipush (v := (-1002)) hx hb dX11_work_20 (by decide) ?_
      obtain rfl := Option.some.inj h
      exact W.iret (v := (-1002)) hx hb hr (fun t ht hW => ⟨⟨_, _, rfl, ⟨rfl, rfl⟩, xPre_at h0 hS hP ht hW⟩, hS.F ht⟩) hS.2.2 dX11_work_23
    have h := ifn hcq18 h
    refine lv_iload_n hx hb dX11_work_15 rfl (lv_at hl 2 rfl) ?_
    refine lv_iconst (v := 5) hx hb dX11_work_16 (by decide) ?_
    refine lv_icmp_le (tgt := 24) hx hb dX11_work_17 (by decide) (fun hcq19 => ?_) (fun hcq19 => ?_)
    · have h := ifp hcq19 h
      refine lv_aload_n hx hb dX11_work_24 rfl (lv_at hl 0 rfl) ?_
      refine va_get (D := D) (ci := 11) (v := .ref (G.1 107)) (C := RX11) (T := TX11) (N := 13) hx hb hts iwX11 hown hK hP 105 (xg_7 rfl) rfl 2 (by decide) (hts _ mw_284) (fun _ h9 => h9) rfl dX11_work_25 ?_
      refine lv_iload_n hx hb dX11_work_28 rfl (lv_at hl 1 rfl) ?_
      obtain ⟨hiq20, h⟩ := nif h
      refine va_aldq hx hb hK hP 107 3 (xg_9 rfl) rfl hiq20 dX11_work_29 ?_
      refine W.eq (g2 := F0 m 30 ls [.ref (G.1 (xb 107 + p1.toNatClampNeg))]) rfl ?_
      refine lv_astore (lv' := [(5, .ref (G.1 (xb 107 + p1.toNatClampNeg))), (0, .ref (G.1 105)), (1, .int p1), (2, .int p2), (3, .int p3), (4, .int p4)]) hx hb dX11_work_30 hl (by decide) rfl (fun ls hl => ?_)
      refine lv_aload hx hb dX11_work_32 (lv_at hl 0 rfl) ?_
      obtain ⟨xq21, hfq22, h⟩ := obd h
      refine va_calli (va_runV (As := []) (rest := []) ⟨hx, hb, hml, hown, hts⟩ (kX10_isMissing l D G ub _ (xb 107 + p1.toNatClampNeg) (xr9 rfl (vp_lt hiq20)) xq21 hfq22) (cwV 0 hts (lwW_gV mw_864 mw_865 mw_866 mw_5 mw_867) rfl rfl rfl (by decide +kernel) ⟨Nat.le_of_ble_eq_true rfl, Nat.le_of_ble_eq_true rfl⟩) ⟨fun a U g mk q => ⟨q.1, xPre_call q.2⟩, va_recv hK hP rfl (xg_4 (xr9 rfl (vp_lt hiq20))), fun U hU hW => ⟨rfl, xPre_at h0 hS hP hU hW⟩⟩ rfl rfl hl.1 rfl (lv_room (Nat.le_of_ble_eq_true rfl)) dX11_work_34 ⟨Nat.zero_le _, Nat.zero_le _⟩) hS (fun q _ h => h) (fun q h => h) (fun r u t H1 locs ht hvm hw hB hz1 hq1 hS => ?_)
      obtain ⟨rfl, rfl⟩ := hw
      have hP := hB.1
      rw [ht] at hP
      refine W.widen (k := 0) (n := 0) (Nat.le_refl _) (Nat.le_refl _) ?_
      refine lv_if_eq (tgt := 44) hx hb dX11_work_37 (by decide) (fun hcq23 => ?_) (fun hcq23 => ?_)
      · have h := ifp hcq23 h
        refine lv_aload hx hb dX11_work_44 (lv_at hl 0 rfl) ?_
        refine lv_iload_n hx hb dX11_work_46 rfl (lv_at hl 4 rfl) ?_
        obtain ⟨xq24, hfq25, h⟩ := obd h
        refine va_calli (va_runV (As := [.int p3]) (rest := []) ⟨hx, hb, hml, hown, hts⟩ (kX10_hasPlace l D G ub _ (xb 107 + p1.toNatClampNeg) (xr9 rfl (vp_lt hiq20)) p3 xq24 hfq25) (cwV 1 hts (lwW_gV mw_868 mw_869 mw_870 mw_5 mw_871) rfl rfl rfl (by decide +kernel) ⟨Nat.le_of_ble_eq_true rfl, Nat.le_of_ble_eq_true rfl⟩) ⟨fun a U g mk q => ⟨q.1, xPre_call q.2⟩, va_recv hK hP rfl (xg_4 (xr9 rfl (vp_lt hiq20))), fun U hU hW => ⟨rfl, xPre_at h0 hS hP hU hW⟩⟩ rfl rfl hl.1 rfl (lv_room (Nat.le_of_ble_eq_true rfl)) dX11_work_47 ⟨Nat.zero_le _, Nat.zero_le _⟩) hS (fun q _ h => h) (fun q h => h) (fun r u t H1 locs ht hvm hw hB hz1 hq1 hS => ?_)
        obtain ⟨rfl, rfl⟩ := hw
        have hP := hB.1
        rw [ht] at hP
        refine W.widen (k := 0) (n := 0) (Nat.le_refl _) (Nat.le_refl _) ?_
        refine lv_if_eq (tgt := 63) hx hb dX11_work_50 (by decide) (fun hcq26 => ?_) (fun hcq26 => ?_)
        · have h := ifp hcq26 h
          refine lv_sipush (v := (-1012)) hx hb dX11_work_63 (by decide) ?_
          obtain rfl := Option.some.inj h
          exact W.iret (v := (-1012)) hx hb hr (fun t ht hW => ⟨⟨_, _, rfl, ⟨rfl, rfl⟩, xPre_at h0 hS hP ht hW⟩, hS.F ht⟩) hS.2.2 dX11_work_66
        have h := ifn hcq26 h
        refine lv_aload hx hb dX11_work_53 (lv_at hl 0 rfl) ?_
        refine lv_iload hx hb dX11_work_55 (lv_at hl 5 rfl) ?_
        obtain ⟨xq27, hfq28, h⟩ := obd h
        refine va_calli (va_runV (As := [.int p4]) (rest := []) ⟨hx, hb, hml, hown, hts⟩ (kX10_hasPlace l D G ub _ (xb 107 + p1.toNatClampNeg) (xr9 rfl (vp_lt hiq20)) p4 xq27 hfq28) (cwV 1 hts (lwW_gV mw_868 mw_869 mw_870 mw_5 mw_871) rfl rfl rfl (by decide +kernel) ⟨Nat.le_of_ble_eq_true rfl, Nat.le_of_ble_eq_true rfl⟩) ⟨fun a U g mk q => ⟨q.1, xPre_call q.2⟩, va_recv hK hP rfl (xg_4 (xr9 rfl (vp_lt hiq20))), fun U hU hW => ⟨rfl, xPre_at h0 hS hP hU hW⟩⟩ rfl rfl hl.1 rfl (lv_room (Nat.le_of_ble_eq_true rfl)) dX11_work_57 ⟨Nat.zero_le _, Nat.zero_le _⟩) hS (fun q _ h => h) (fun q h => h) (fun r u t H1 locs ht hvm hw hB hz1 hq1 hS => ?_)
        obtain ⟨rfl, rfl⟩ := hw
        have hP := hB.1
        rw [ht] at hP
        refine W.widen (k := 0) (n := 0) (Nat.le_refl _) (Nat.le_refl _) ?_
        refine lv_if_ne (tgt := 67) hx hb dX11_work_60 (by decide) (fun hcq29 => ?_) (fun hcq29 => ?_)
        · have h := ifn hcq29 h
          refine lv_aload hx hb dX11_work_67 (lv_at hl 0 rfl) ?_
          refine lv_iload hx hb dX11_work_69 (lv_at hl 5 rfl) ?_
          obtain ⟨xq30, hfq31, h⟩ := obd h
          refine va_calli (va_runV (As := [.int p4]) (rest := []) ⟨hx, hb, hml, hown, hts⟩ (kX10_at l D G ub _ (xb 107 + p1.toNatClampNeg) (xr9 rfl (vp_lt hiq20)) p4 xq30 hfq31) (cwV 1 hts (lwW_gV mw_880 mw_881 mw_882 mw_5 mw_883) rfl rfl rfl (by decide +kernel) ⟨Nat.le_of_ble_eq_true rfl, Nat.le_of_ble_eq_true rfl⟩) ⟨fun a U g mk q => ⟨q.1, xPre_call q.2⟩, va_recv hK hP rfl (xg_4 (xr9 rfl (vp_lt hiq20))), fun U hU hW => ⟨rfl, xPre_at h0 hS hP hU hW⟩⟩ rfl rfl hl.1 rfl (lv_room (Nat.le_of_ble_eq_true rfl)) dX11_work_71 ⟨Nat.zero_le _, Nat.zero_le _⟩) hS (fun q _ h => h) (fun q h => h) (fun r u t H1 locs ht hvm hw hB hz1 hq1 hS => ?_)
          obtain ⟨rfl, rfl⟩ := hw
          have hP := hB.1
          rw [ht] at hP
          refine W.widen (k := 0) (n := 0) (Nat.le_refl _) (Nat.le_refl _) ?_
          refine lv_istore (lv' := [(6, .int xq30.1), (5, .ref (G.1 (xb 107 + p1.toNatClampNeg))), (0, .ref (G.1 105)), (1, .int p1), (2, .int p2), (3, .int p3), (4, .int p4)]) hx hb dX11_work_74 hl (by decide) rfl (fun ls hl => ?_)
          refine lv_iload hx hb dX11_work_76 (lv_at hl 0 rfl) ?_
          refine lv_if_ne (tgt := 95) hx hb dX11_work_78 (by decide) (fun hcq32 => ?_) (fun hcq32 => ?_)
          · have h := ifn hcq32 h
            exact J95 (xb 107 + p1.toNatClampNeg) (xr9 rfl (vp_lt hiq20)) xq30.1 _ _ _ _ h hP hS (lv_sub hl [2, 4, 5, 1, 0] rfl)
          have h := ifp hcq32 h
          refine lv_iload_n hx hb dX11_work_81 rfl (lv_at hl 4 rfl) ?_
          refine lv_iconst (v := 3) hx hb dX11_work_82 (by decide) ?_
          refine lv_icmp_eq (tgt := 91) hx hb dX11_work_83 (by decide) (fun hcq33 => ?_) (fun hcq33 => ?_)
          · have h := ifp hcq33 h
            refine lv_sipush (v := (-1014)) hx hb dX11_work_91 (by decide) ?_
            obtain rfl := Option.some.inj h
            exact W.iret (v := (-1014)) hx hb hr (fun t ht hW => ⟨⟨_, _, rfl, ⟨rfl, rfl⟩, xPre_at h0 hS hP ht hW⟩, hS.F ht⟩) hS.2.2 dX11_work_94
          have h := ifn hcq33 h
          refine lv_iload_n hx hb dX11_work_86 rfl (lv_at hl 4 rfl) ?_
          refine lv_iconst (v := 4) hx hb dX11_work_87 (by decide) ?_
          refine lv_icmp_ne (tgt := 95) hx hb dX11_work_88 (by decide) (fun hcq34 => ?_) (fun hcq34 => ?_)
          · have h := ifn hcq34 h
            exact J95 (xb 107 + p1.toNatClampNeg) (xr9 rfl (vp_lt hiq20)) xq30.1 _ _ _ _ h hP hS (lv_sub hl [2, 4, 5, 1, 0] rfl)
          have h := ifp hcq34 h
          refine lv_sipush (v := (-1014)) hx hb dX11_work_91 (by decide) ?_
          obtain rfl := Option.some.inj h
          exact W.iret (v := (-1014)) hx hb hr (fun t ht hW => ⟨⟨_, _, rfl, ⟨rfl, rfl⟩, xPre_at h0 hS hP ht hW⟩, hS.F ht⟩) hS.2.2 dX11_work_94
        have h := ifp hcq29 h
        refine lv_sipush (v := (-1012)) hx hb dX11_work_63 (by decide) ?_
        obtain rfl := Option.some.inj h
        exact W.iret (v := (-1012)) hx hb hr (fun t ht hW => ⟨⟨_, _, rfl, ⟨rfl, rfl⟩, xPre_at h0 hS hP ht hW⟩, hS.F ht⟩) hS.2.2 dX11_work_66
      have h := ifn hcq23 h
      refine lv_sipush (v := (-1011)) hx hb dX11_work_40 (by decide) ?_
      obtain rfl := Option.some.inj h
      exact W.iret (v := (-1011)) hx hb hr (fun t ht hW => ⟨⟨_, _, rfl, ⟨rfl, rfl⟩, xPre_at h0 hS hP ht hW⟩, hS.F ht⟩) hS.2.2 dX11_work_43
    have h := ifn hcq19 h
    refine lv_sipush (v := (-1002)) hx hb dX11_work_20 (by decide) ?_
    obtain rfl := Option.some.inj h
    exact W.iret (v := (-1002)) hx hb hr (fun t ht hW => ⟨⟨_, _, rfl, ⟨rfl, rfl⟩, xPre_at h0 hS hP ht hW⟩, hS.F ht⟩) hS.2.2 dX11_work_23
  have h := ifp hcq17 h
  refine lv_sipush (v := (-1001)) hx hb dX11_work_7 (by decide) ?_
  obtain rfl := Option.some.inj h
  exact W.iret (v := (-1001)) hx hb hr (fun t ht hW => ⟨⟨_, _, rfl, ⟨rfl, rfl⟩, xPre_at h0 hS hP ht hW⟩, hS.F ht⟩) hS.2.2 dX11_work_10
def fX11_latest  (σ : QMem) : Option (Int32 × QMem) :=
  some (σ 105 12, σ)
set_option maxHeartbeats 4000000 in
set_option maxRecDepth 100000 in
theorem kX11_latest (l : Launch) (D : va_G) (G : xG) (ub : xB) (σ : QMem) (res : Int32 × QMem) (h : fX11_latest σ = some res) : Met l yX11_latest (.code yX11_latest cX11_latest 1 (some .int) :: lwW) (rmD 0) (xPc D G ub σ [.ref (G.1 105)]) (xQi D G ub res) 0 0 (xA G) := by
  refine Met.ofW (cc := cX11_latest) (maxL := 1) (ret := (some .int)) (by decide) rfl ?_
  intro p e s m args below meth c s₁ B hml hv
  obtain ⟨rfl, h0⟩ := hv
  have hx := B.exec
  have hb := B.bytes
  have hr := B.returns
  have hts := fun (w : Cond) (hw : w ∈ lwW) => atoms_spec (ws := (.code yX11_latest cX11_latest 1 (some .int) :: lwW)) B.pre w (List.mem_cons_of_mem _ hw)
  have hown : s.vm.findClass RX11 = some m.cls := findClass_of_methodNamed B.named
  have hlocks := B.notSynchronized
  have hP := h0.1
  have hK := h0.2.1
  have hi := h0.2.2.1
  have hZ := h0.2.2.2
  have hN := h0.2.2.2.2.2.2.2.1
  have hV := h0.2.2.2.2.2.2.2.2.1
  have hS : va_S (xA G) s.heap s.heap [] := va_S.rf
  have hl := lv_entry ([.ref (G.1 105)]) (n := 1) (Nat.le_of_ble_eq_true rfl)
  rw [lg_entry_eq]
  generalize (lg_sl ([.ref (G.1 105)]) ++ List.replicate (1 - (lg_sl ([.ref (G.1 105)])).length) Slot.unset).toArray = ls at hl ⊢
  have hl : lv_has ls 1 [(0, .ref (G.1 105))] := hl
  unfold fX11_latest at h
  refine lv_aload_n hx hb dX11_latest_0 rfl (lv_at hl 0 rfl) ?_
  refine va_get (D := D) (ci := 11) (v := .int (σ 105 12)) (C := RX11) (T := TX11) (N := 13) hx hb hts iwX11 hown hK hP 105 (xg_7 rfl) rfl 12 (by decide) (hts _ mw_294) (fun _ h9 => h9) rfl dX11_latest_1 ?_
  obtain rfl := Option.some.inj h
  exact W.iret (v := σ 105 12) hx hb hr (fun t ht hW => ⟨⟨_, _, rfl, ⟨rfl, rfl⟩, xPre_at h0 hS hP ht hW⟩, hS.F ht⟩) hS.2.2 dX11_latest_4
def fX11_drop (p1 : Int32) (σ : QMem) : Option (Int32 × QMem) :=
  (fX11_isTally p1).bind fun xq1 => (if xq1 = 0 then (some ((-1001), σ)) else (if (p1 < 0 ∨ xl 107 ≤ p1.toNatClampNeg) then none else ((fX10_isMissing (xb 107 + p1.toNatClampNeg) σ).bind fun xq5 => (if xq5.1 = 0 then (if (p1 < 0 ∨ xl 107 ≤ p1.toNatClampNeg) then none else ((fX10_size (xb 107 + p1.toNatClampNeg) xq5.2).bind fun xq9 => (if (p1 < 0 ∨ xl 107 ≤ p1.toNatClampNeg) then none else ((fX10_discard (xb 107 + p1.toNatClampNeg) xq9.2).bind fun xq12 => (some (xq9.1, xq12)))))) else (some ((-1011), xq5.2))))))
set_option maxHeartbeats 4000000 in
set_option maxRecDepth 100000 in
theorem kX11_drop (l : Launch) (D : va_G) (G : xG) (ub : xB) (σ : QMem) (p1 : Int32) (res : Int32 × QMem) (h : fX11_drop p1 σ = some res) : Met l yX11_drop (.code yX11_drop cX11_drop 3 (some .int) :: lwW) (rmD 1) (xPc D G ub σ [.ref (G.1 105), .int p1]) (xQi D G ub res) 0 0 (xA G) := by
  refine Met.ofW (cc := cX11_drop) (maxL := 3) (ret := (some .int)) (by decide) rfl ?_
  intro p e s m args below meth c s₁ B hml hv
  obtain ⟨rfl, h0⟩ := hv
  have hx := B.exec
  have hb := B.bytes
  have hr := B.returns
  have hts := fun (w : Cond) (hw : w ∈ lwW) => atoms_spec (ws := (.code yX11_drop cX11_drop 3 (some .int) :: lwW)) B.pre w (List.mem_cons_of_mem _ hw)
  have hown : s.vm.findClass RX11 = some m.cls := findClass_of_methodNamed B.named
  have hlocks := B.notSynchronized
  have hP := h0.1
  have hK := h0.2.1
  have hi := h0.2.2.1
  have hZ := h0.2.2.2
  have hN := h0.2.2.2.2.2.2.2.1
  have hV := h0.2.2.2.2.2.2.2.2.1
  have hS : va_S (xA G) s.heap s.heap [] := va_S.rf
  have hl := lv_entry ([.ref (G.1 105), .int p1]) (n := 3) (Nat.le_of_ble_eq_true rfl)
  rw [lg_entry_eq]
  generalize (lg_sl ([.ref (G.1 105), .int p1]) ++ List.replicate (3 - (lg_sl ([.ref (G.1 105), .int p1])).length) Slot.unset).toArray = ls at hl ⊢
  have hl : lv_has ls 3 [(0, .ref (G.1 105)), (1, .int p1)] := hl
  unfold fX11_drop at h
  refine lv_iload_n hx hb dX11_drop_0 rfl (lv_at hl 1 rfl) ?_
  obtain ⟨xq1, hfq2, h⟩ := obd h
  refine va_calli (va_runS (As := [.int p1]) (rest := []) ⟨hx, hb, hml, hown, hts⟩ (kX11_isTally l p1 xq1 hfq2) (va_cwS 1 hts (lwW_gS mw_849 mw_850 mw_1 mw_851) rfl rfl rfl (by decide +kernel) ⟨Nat.le_of_ble_eq_true rfl, Nat.le_of_ble_eq_true rfl⟩) ⟨fun a U g mk q => ⟨q.1, trivial⟩, fun U hU hW => ⟨rfl, trivial⟩⟩ rfl rfl hl.1 rfl (lv_room (Nat.le_of_ble_eq_true rfl)) dX11_drop_1 ⟨Nat.zero_le _, Nat.zero_le _⟩) hS (fun q _ h => h.elim) (fun q h => h.elim) (fun r u t H1 locs ht hvm hw hB hz1 hq1 hS => ?_)
  obtain rfl := hw.symm
  have hP := xP_kept hP hq1
  refine W.widen (k := 0) (n := 0) (Nat.le_refl _) (Nat.le_refl _) ?_
  refine lv_if_ne (tgt := 11) hx hb dX11_drop_4 (by decide) (fun hcq3 => ?_) (fun hcq3 => ?_)
  · have h := ifn hcq3 h
    refine lv_aload_n hx hb dX11_drop_11 rfl (lv_at hl 0 rfl) ?_
    refine va_get (D := D) (ci := 11) (v := .ref (G.1 107)) (C := RX11) (T := TX11) (N := 13) hx hb hts iwX11 hown hK hP 105 (xg_7 rfl) rfl 2 (by decide) (hts _ mw_284) (fun _ h9 => h9) rfl dX11_drop_12 ?_
    refine lv_iload_n hx hb dX11_drop_15 rfl (lv_at hl 1 rfl) ?_
    obtain ⟨hiq4, h⟩ := nif h
    refine va_aldq hx hb hK hP 107 3 (xg_9 rfl) rfl hiq4 dX11_drop_16 ?_
    refine W.eq (g2 := F0 m 17 ls [.ref (G.1 (xb 107 + p1.toNatClampNeg))]) rfl ?_
    obtain ⟨xq5, hfq6, h⟩ := obd h
    refine va_calli (va_runV (As := []) (rest := []) ⟨hx, hb, hml, hown, hts⟩ (kX10_isMissing l D G ub _ (xb 107 + p1.toNatClampNeg) (xr9 rfl (vp_lt hiq4)) xq5 hfq6) (cwV 0 hts (lwW_gV mw_864 mw_865 mw_866 mw_5 mw_867) rfl rfl rfl (by decide +kernel) ⟨Nat.le_of_ble_eq_true rfl, Nat.le_of_ble_eq_true rfl⟩) ⟨fun a U g mk q => ⟨q.1, xPre_call q.2⟩, va_recv hK hP rfl (xg_4 (xr9 rfl (vp_lt hiq4))), fun U hU hW => ⟨rfl, xPre_at h0 hS hP hU hW⟩⟩ rfl rfl hl.1 rfl (lv_room (Nat.le_of_ble_eq_true rfl)) dX11_drop_17 ⟨Nat.zero_le _, Nat.zero_le _⟩) hS (fun q _ h => h) (fun q h => h) (fun r u t H1 locs ht hvm hw hB hz1 hq1 hS => ?_)
    obtain ⟨rfl, rfl⟩ := hw
    have hP := hB.1
    rw [ht] at hP
    refine W.widen (k := 0) (n := 0) (Nat.le_refl _) (Nat.le_refl _) ?_
    refine lv_if_eq (tgt := 27) hx hb dX11_drop_20 (by decide) (fun hcq7 => ?_) (fun hcq7 => ?_)
    · have h := ifp hcq7 h
      refine lv_aload_n hx hb dX11_drop_27 rfl (lv_at hl 0 rfl) ?_
      refine va_get (D := D) (ci := 11) (v := .ref (G.1 107)) (C := RX11) (T := TX11) (N := 13) hx hb hts iwX11 hown hK hP 105 (xg_7 rfl) rfl 2 (by decide) (hts _ mw_284) (fun _ h9 => h9) rfl dX11_drop_28 ?_
      refine lv_iload_n hx hb dX11_drop_31 rfl (lv_at hl 1 rfl) ?_
      obtain ⟨hiq8, h⟩ := nif h
      refine va_aldq hx hb hK hP 107 3 (xg_9 rfl) rfl hiq8 dX11_drop_32 ?_
      refine W.eq (g2 := F0 m 33 ls [.ref (G.1 (xb 107 + p1.toNatClampNeg))]) rfl ?_
      obtain ⟨xq9, hfq10, h⟩ := obd h
      refine va_calli (va_runV (As := []) (rest := []) ⟨hx, hb, hml, hown, hts⟩ (kX10_size l D G ub _ (xb 107 + p1.toNatClampNeg) (xr9 rfl (vp_lt hiq8)) xq9 hfq10) (cwV 0 hts (lwW_gV mw_895 mw_896 mw_897 mw_5 mw_898) rfl rfl rfl (by decide +kernel) ⟨Nat.le_of_ble_eq_true rfl, Nat.le_of_ble_eq_true rfl⟩) ⟨fun a U g mk q => ⟨q.1, xPre_call q.2⟩, va_recv hK hP rfl (xg_4 (xr9 rfl (vp_lt hiq8))), fun U hU hW => ⟨rfl, xPre_at h0 hS hP hU hW⟩⟩ rfl rfl hl.1 rfl (lv_room (Nat.le_of_ble_eq_true rfl)) dX11_drop_33 ⟨Nat.zero_le _, Nat.zero_le _⟩) hS (fun q _ h => h) (fun q h => h) (fun r u t H1 locs ht hvm hw hB hz1 hq1 hS => ?_)
      obtain ⟨rfl, rfl⟩ := hw
      have hP := hB.1
      rw [ht] at hP
      refine W.widen (k := 0) (n := 0) (Nat.le_refl _) (Nat.le_refl _) ?_
      refine lv_istore_n (lv' := [(2, .int xq9.1), (0, .ref (G.1 105)), (1, .int p1)]) hx hb dX11_drop_36 rfl hl (by decide) rfl (fun ls hl => ?_)
      refine lv_aload_n hx hb dX11_drop_37 rfl (lv_at hl 1 rfl) ?_
      refine va_get (D := D) (ci := 11) (v := .ref (G.1 107)) (C := RX11) (T := TX11) (N := 13) hx hb hts iwX11 hown hK hP 105 (xg_7 rfl) rfl 2 (by decide) (hts _ mw_284) (fun _ h9 => h9) rfl dX11_drop_38 ?_
      refine lv_iload_n hx hb dX11_drop_41 rfl (lv_at hl 2 rfl) ?_
      obtain ⟨hiq11, h⟩ := nif h
      refine va_aldq hx hb hK hP 107 3 (xg_9 rfl) rfl hiq11 dX11_drop_42 ?_
      refine W.eq (g2 := F0 m 43 ls [.ref (G.1 (xb 107 + p1.toNatClampNeg))]) rfl ?_
      obtain ⟨xq12, hfq13, h⟩ := obd h
      refine va_callv (va_runV (As := []) (rest := []) ⟨hx, hb, hml, hown, hts⟩ (kX10_discard l D G ub _ (xb 107 + p1.toNatClampNeg) (xr9 rfl (vp_lt hiq11)) xq12 hfq13) (cwV 0 hts (lwW_gV mw_492 mw_493 mw_494 mw_5 mw_495) rfl rfl rfl (by decide +kernel) ⟨Nat.le_of_ble_eq_true rfl, Nat.le_of_ble_eq_true rfl⟩) ⟨fun a U g mk q => ⟨q.1, xPre_call q.2⟩, va_recv hK hP rfl (xg_4 (xr9 rfl (vp_lt hiq11))), fun U hU hW => ⟨rfl, xPre_at h0 hS hP hU hW⟩⟩ rfl rfl hl.1 rfl (lv_room (Nat.le_of_ble_eq_true rfl)) dX11_drop_43 ⟨Nat.zero_le _, Nat.zero_le _⟩) hS (fun q _ h => h) (fun q h => h) (fun u t H1 locs ht hvm hw hB hz1 hq1 hS => ?_)
      obtain rfl := hw.symm
      have hP := hB.1
      rw [ht] at hP
      refine W.widen (k := 0) (n := 0) (Nat.le_refl _) (Nat.le_refl _) ?_
      refine lv_iload_n hx hb dX11_drop_46 rfl (lv_at hl 0 rfl) ?_
      obtain rfl := Option.some.inj h
      exact W.iret (v := xq9.1) hx hb hr (fun t ht hW => ⟨⟨_, _, rfl, ⟨rfl, rfl⟩, xPre_at h0 hS hP ht hW⟩, hS.F ht⟩) hS.2.2 dX11_drop_47
    have h := ifn hcq7 h
    refine lv_sipush (v := (-1011)) hx hb dX11_drop_23 (by decide) ?_
    obtain rfl := Option.some.inj h
    exact W.iret (v := (-1011)) hx hb hr (fun t ht hW => ⟨⟨_, _, rfl, ⟨rfl, rfl⟩, xPre_at h0 hS hP ht hW⟩, hS.F ht⟩) hS.2.2 dX11_drop_26
  have h := ifp hcq3 h
  refine lv_sipush (v := (-1001)) hx hb dX11_drop_7 (by decide) ?_
  obtain rfl := Option.some.inj h
  exact W.iret (v := (-1001)) hx hb hr (fun t ht hW => ⟨⟨_, _, rfl, ⟨rfl, rfl⟩, xPre_at h0 hS hP ht hW⟩, hS.F ht⟩) hS.2.2 dX11_drop_10
def fX11_allNorms_L4  : Nat → Int32 → Int32 → QMem → Option (Int32 × QMem)
  | 0, _, _, _ => none
  | n + 1, v1, v2, τ =>
  if 6 ≤ v2 then (some (v1, τ)) else (if (v2 < 0 ∨ xl 102 ≤ v2.toNatClampNeg) then none else ((fX6_norm (xb 102 + v2.toNatClampNeg) τ).bind fun xq3 => ((fX11_allNorms_L4 n) (v1 + xq3.1) (v2 + 1) xq3.2)))
def fX11_allNorms  (σ : QMem) : Option (Int32 × QMem) :=
  fX11_allNorms_L4 FU 0 0 σ
set_option maxHeartbeats 4000000 in
set_option maxRecDepth 100000 in
theorem kX11_allNorms (l : Launch) (D : va_G) (G : xG) (ub : xB) (σ : QMem) (res : Int32 × QMem) (h : fX11_allNorms σ = some res) : Met l yX11_allNorms (.code yX11_allNorms cX11_allNorms 3 (some .int) :: lwW) (rmD 1) (xPc D G ub σ [.ref (G.1 105)]) (xQi D G ub res) 0 0 (xA G) := by
  refine Met.ofW (cc := cX11_allNorms) (maxL := 3) (ret := (some .int)) (by decide) rfl ?_
  intro p e s m args below meth c s₁ B hml hv
  obtain ⟨rfl, h0⟩ := hv
  have hx := B.exec
  have hb := B.bytes
  have hr := B.returns
  have hts := fun (w : Cond) (hw : w ∈ lwW) => atoms_spec (ws := (.code yX11_allNorms cX11_allNorms 3 (some .int) :: lwW)) B.pre w (List.mem_cons_of_mem _ hw)
  have hown : s.vm.findClass RX11 = some m.cls := findClass_of_methodNamed B.named
  have hlocks := B.notSynchronized
  have hP := h0.1
  have hK := h0.2.1
  have hi := h0.2.2.1
  have hZ := h0.2.2.2
  have hN := h0.2.2.2.2.2.2.2.1
  have hV := h0.2.2.2.2.2.2.2.2.1
  have hS : va_S (xA G) s.heap s.heap [] := va_S.rf
  have hl := lv_entry ([.ref (G.1 105)]) (n := 3) (Nat.le_of_ble_eq_true rfl)
  rw [lg_entry_eq]
  generalize (lg_sl ([.ref (G.1 105)]) ++ List.replicate (3 - (lg_sl ([.ref (G.1 105)])).length) Slot.unset).toArray = ls at hl ⊢
  have hl : lv_has ls 3 [(0, .ref (G.1 105))] := hl
  unfold fX11_allNorms at h
  have L4 : ∀ (n4 : Nat) (v1 : Int32) (v2 : Int32) (τ : QMem) (H : Heap) (locs : List Loc) (ls : Array Slot), fX11_allNorms_L4 n4 v1 v2 τ = some res → va_P D vwCl (xW G τ) H → va_S (xA G) s.heap H locs → lv_has ls 3 [(0, .ref (G.1 105)), (1, .int v1), (2, .int v2)] → W p l e (headSpec (.code yX11_allNorms cX11_allNorms 3 (some .int) :: lwW) (rmD 1)).room s m ([.ref (G.1 105)] : List Value).toArray below meth c H locs 0 0 (MQ below (xQi D G ub res) ([.ref (G.1 105)] : List Value).toArray s 0 0 (xA G)) (F0 m 4 ls []) := by
    intro n4
    induction n4 with
    | zero => intro v1 v2 τ H locs ls h; rw [fX11_allNorms_L4] at h; cases h
    | succ n4 ih4 =>
      intro v1 v2 τ H locs ls h hP hS hl
      rw [fX11_allNorms_L4] at h
      refine lv_iload_n hx hb dX11_allNorms_4 rfl (lv_at hl 2 rfl) ?_
      refine lv_bipush (v := 6) hx hb dX11_allNorms_5 (by decide) ?_
      refine lv_icmp_ge (tgt := 28) hx hb dX11_allNorms_7 (by decide) (fun hcq1 => ?_) (fun hcq1 => ?_)
      · have h := ifp hcq1 h
        refine lv_iload_n hx hb dX11_allNorms_28 rfl (lv_at hl 1 rfl) ?_
        obtain rfl := Option.some.inj h
        exact W.iret (v := v1) hx hb hr (fun t ht hW => ⟨⟨_, _, rfl, ⟨rfl, rfl⟩, xPre_at h0 hS hP ht hW⟩, hS.F ht⟩) hS.2.2 dX11_allNorms_29
      have h := ifn hcq1 h
      refine lv_iload_n hx hb dX11_allNorms_10 rfl (lv_at hl 1 rfl) ?_
      refine lv_aload_n hx hb dX11_allNorms_11 rfl (lv_at hl 0 rfl) ?_
      refine va_get (D := D) (ci := 11) (v := .ref (G.1 102)) (C := RX11) (T := TX11) (N := 13) hx hb hts iwX11 hown hK hP 105 (xg_7 rfl) rfl 0 (by decide) (hts _ mw_282) (fun _ h9 => h9) rfl dX11_allNorms_12 ?_
      refine lv_iload_n hx hb dX11_allNorms_15 rfl (lv_at hl 2 rfl) ?_
      obtain ⟨hiq2, h⟩ := nif h
      refine va_aldq hx hb hK hP 102 1 (xg_6 rfl) rfl hiq2 dX11_allNorms_16 ?_
      refine W.eq (g2 := F0 m 17 ls [.ref (G.1 (xb 102 + v2.toNatClampNeg)), .int v1]) rfl ?_
      obtain ⟨xq3, hfq4, h⟩ := obd h
      refine va_calli (va_runV (As := []) (rest := [.int v1]) ⟨hx, hb, hml, hown, hts⟩ (kX6_norm l D G ub _ (xb 102 + v2.toNatClampNeg) (xr6 rfl (vp_lt hiq2)) xq3 hfq4) (cwV 0 hts (lwW_gV mw_515 mw_516 mw_517 mw_3 mw_518) rfl rfl rfl (by decide +kernel) ⟨Nat.le_of_ble_eq_true rfl, Nat.le_of_ble_eq_true rfl⟩) ⟨fun a U g mk q => ⟨q.1, xPre_call q.2⟩, va_recv hK hP rfl (xg_0 (xr6 rfl (vp_lt hiq2))), fun U hU hW => ⟨rfl, xPre_at h0 hS hP hU hW⟩⟩ rfl rfl hl.1 rfl (lv_room (Nat.le_of_ble_eq_true rfl)) dX11_allNorms_17 ⟨Nat.zero_le _, Nat.zero_le _⟩) hS (fun q _ h => h) (fun q h => h) (fun r u t H1 locs ht hvm hw hB hz1 hq1 hS => ?_)
      obtain ⟨rfl, rfl⟩ := hw
      have hP := hB.1
      rw [ht] at hP
      refine W.widen (k := 0) (n := 0) (Nat.le_refl _) (Nat.le_refl _) ?_
      refine lv_iadd hx hb dX11_allNorms_20 ?_
      refine lv_istore_n (lv' := [(1, .int (v1 + xq3.1)), (0, .ref (G.1 105)), (2, .int v2)]) hx hb dX11_allNorms_21 rfl hl (by decide) rfl (fun ls hl => ?_)
      refine lv_iinc (v := v2 + 1) (lv' := [(2, .int (v2 + 1)), (1, .int (v1 + xq3.1)), (0, .ref (G.1 105))]) hx hb dX11_allNorms_22 hl (k := 2) rfl rfl (by decide) rfl (fun ls hl => ?_)
      refine lv_goto (tgt := 4) hx hb dX11_allNorms_25 (by decide) ?_
      exact ih4 (v1 + xq3.1) (v2 + 1) _ _ _ _ h hP hS (lv_sub hl [2, 1, 0] rfl)
  refine lv_iconst (v := 0) hx hb dX11_allNorms_0 (by decide) ?_
  refine lv_istore_n (lv' := [(1, .int 0), (0, .ref (G.1 105))]) hx hb dX11_allNorms_1 rfl hl (by decide) rfl (fun ls hl => ?_)
  refine lv_iconst (v := 0) hx hb dX11_allNorms_2 (by decide) ?_
  refine lv_istore_n (lv' := [(2, .int 0), (1, .int 0), (0, .ref (G.1 105))]) hx hb dX11_allNorms_3 rfl hl (by decide) rfl (fun ls hl => ?_)
  exact L4 FU 0 0 _ _ _ _ h hP hS (lv_sub hl [2, 1, 0] rfl)
def fX11_allPlaces_L4  : Nat → Int32 → Int32 → QMem → Option (Int32 × QMem)
  | 0, _, _, _ => none
  | n + 1, v1, v2, τ =>
  if 3 ≤ v2 then (some (v1, τ)) else (if (v2 < 0 ∨ xl 107 ≤ v2.toNatClampNeg) then none else ((fX10_size (xb 107 + v2.toNatClampNeg) τ).bind fun xq3 => ((fX11_allPlaces_L4 n) (v1 + xq3.1) (v2 + 1) xq3.2)))
def fX11_allPlaces  (σ : QMem) : Option (Int32 × QMem) :=
  fX11_allPlaces_L4 FU 0 0 σ
set_option maxHeartbeats 4000000 in
set_option maxRecDepth 100000 in
theorem kX11_allPlaces (l : Launch) (D : va_G) (G : xG) (ub : xB) (σ : QMem) (res : Int32 × QMem) (h : fX11_allPlaces σ = some res) : Met l yX11_allPlaces (.code yX11_allPlaces cX11_allPlaces 3 (some .int) :: lwW) (rmD 1) (xPc D G ub σ [.ref (G.1 105)]) (xQi D G ub res) 0 0 (xA G) := by
  refine Met.ofW (cc := cX11_allPlaces) (maxL := 3) (ret := (some .int)) (by decide) rfl ?_
  intro p e s m args below meth c s₁ B hml hv
  obtain ⟨rfl, h0⟩ := hv
  have hx := B.exec
  have hb := B.bytes
  have hr := B.returns
  have hts := fun (w : Cond) (hw : w ∈ lwW) => atoms_spec (ws := (.code yX11_allPlaces cX11_allPlaces 3 (some .int) :: lwW)) B.pre w (List.mem_cons_of_mem _ hw)
  have hown : s.vm.findClass RX11 = some m.cls := findClass_of_methodNamed B.named
  have hlocks := B.notSynchronized
  have hP := h0.1
  have hK := h0.2.1
  have hi := h0.2.2.1
  have hZ := h0.2.2.2
  have hN := h0.2.2.2.2.2.2.2.1
  have hV := h0.2.2.2.2.2.2.2.2.1
  have hS : va_S (xA G) s.heap s.heap [] := va_S.rf
  have hl := lv_entry ([.ref (G.1 105)]) (n := 3) (Nat.le_of_ble_eq_true rfl)
  rw [lg_entry_eq]
  generalize (lg_sl ([.ref (G.1 105)]) ++ List.replicate (3 - (lg_sl ([.ref (G.1 105)])).length) Slot.unset).toArray = ls at hl ⊢
  have hl : lv_has ls 3 [(0, .ref (G.1 105))] := hl
  unfold fX11_allPlaces at h
  have L4 : ∀ (n4 : Nat) (v1 : Int32) (v2 : Int32) (τ : QMem) (H : Heap) (locs : List Loc) (ls : Array Slot), fX11_allPlaces_L4 n4 v1 v2 τ = some res → va_P D vwCl (xW G τ) H → va_S (xA G) s.heap H locs → lv_has ls 3 [(0, .ref (G.1 105)), (1, .int v1), (2, .int v2)] → W p l e (headSpec (.code yX11_allPlaces cX11_allPlaces 3 (some .int) :: lwW) (rmD 1)).room s m ([.ref (G.1 105)] : List Value).toArray below meth c H locs 0 0 (MQ below (xQi D G ub res) ([.ref (G.1 105)] : List Value).toArray s 0 0 (xA G)) (F0 m 4 ls []) := by
    intro n4
    induction n4 with
    | zero => intro v1 v2 τ H locs ls h; rw [fX11_allPlaces_L4] at h; cases h
    | succ n4 ih4 =>
      intro v1 v2 τ H locs ls h hP hS hl
      rw [fX11_allPlaces_L4] at h
      refine lv_iload_n hx hb dX11_allPlaces_4 rfl (lv_at hl 2 rfl) ?_
      refine lv_iconst (v := 3) hx hb dX11_allPlaces_5 (by decide) ?_
      refine lv_icmp_ge (tgt := 27) hx hb dX11_allPlaces_6 (by decide) (fun hcq1 => ?_) (fun hcq1 => ?_)
      · have h := ifp hcq1 h
        refine lv_iload_n hx hb dX11_allPlaces_27 rfl (lv_at hl 1 rfl) ?_
        obtain rfl := Option.some.inj h
        exact W.iret (v := v1) hx hb hr (fun t ht hW => ⟨⟨_, _, rfl, ⟨rfl, rfl⟩, xPre_at h0 hS hP ht hW⟩, hS.F ht⟩) hS.2.2 dX11_allPlaces_28
      have h := ifn hcq1 h
      refine lv_iload_n hx hb dX11_allPlaces_9 rfl (lv_at hl 1 rfl) ?_
      refine lv_aload_n hx hb dX11_allPlaces_10 rfl (lv_at hl 0 rfl) ?_
      refine va_get (D := D) (ci := 11) (v := .ref (G.1 107)) (C := RX11) (T := TX11) (N := 13) hx hb hts iwX11 hown hK hP 105 (xg_7 rfl) rfl 2 (by decide) (hts _ mw_284) (fun _ h9 => h9) rfl dX11_allPlaces_11 ?_
      refine lv_iload_n hx hb dX11_allPlaces_14 rfl (lv_at hl 2 rfl) ?_
      obtain ⟨hiq2, h⟩ := nif h
      refine va_aldq hx hb hK hP 107 3 (xg_9 rfl) rfl hiq2 dX11_allPlaces_15 ?_
      refine W.eq (g2 := F0 m 16 ls [.ref (G.1 (xb 107 + v2.toNatClampNeg)), .int v1]) rfl ?_
      obtain ⟨xq3, hfq4, h⟩ := obd h
      refine va_calli (va_runV (As := []) (rest := [.int v1]) ⟨hx, hb, hml, hown, hts⟩ (kX10_size l D G ub _ (xb 107 + v2.toNatClampNeg) (xr9 rfl (vp_lt hiq2)) xq3 hfq4) (cwV 0 hts (lwW_gV mw_895 mw_896 mw_897 mw_5 mw_898) rfl rfl rfl (by decide +kernel) ⟨Nat.le_of_ble_eq_true rfl, Nat.le_of_ble_eq_true rfl⟩) ⟨fun a U g mk q => ⟨q.1, xPre_call q.2⟩, va_recv hK hP rfl (xg_4 (xr9 rfl (vp_lt hiq2))), fun U hU hW => ⟨rfl, xPre_at h0 hS hP hU hW⟩⟩ rfl rfl hl.1 rfl (lv_room (Nat.le_of_ble_eq_true rfl)) dX11_allPlaces_16 ⟨Nat.zero_le _, Nat.zero_le _⟩) hS (fun q _ h => h) (fun q h => h) (fun r u t H1 locs ht hvm hw hB hz1 hq1 hS => ?_)
      obtain ⟨rfl, rfl⟩ := hw
      have hP := hB.1
      rw [ht] at hP
      refine W.widen (k := 0) (n := 0) (Nat.le_refl _) (Nat.le_refl _) ?_
      refine lv_iadd hx hb dX11_allPlaces_19 ?_
      refine lv_istore_n (lv' := [(1, .int (v1 + xq3.1)), (0, .ref (G.1 105)), (2, .int v2)]) hx hb dX11_allPlaces_20 rfl hl (by decide) rfl (fun ls hl => ?_)
      refine lv_iinc (v := v2 + 1) (lv' := [(2, .int (v2 + 1)), (1, .int (v1 + xq3.1)), (0, .ref (G.1 105))]) hx hb dX11_allPlaces_21 hl (k := 2) rfl rfl (by decide) rfl (fun ls hl => ?_)
      refine lv_goto (tgt := 4) hx hb dX11_allPlaces_24 (by decide) ?_
      exact ih4 (v1 + xq3.1) (v2 + 1) _ _ _ _ h hP hS (lv_sub hl [2, 1, 0] rfl)
  refine lv_iconst (v := 0) hx hb dX11_allPlaces_0 (by decide) ?_
  refine lv_istore_n (lv' := [(1, .int 0), (0, .ref (G.1 105))]) hx hb dX11_allPlaces_1 rfl hl (by decide) rfl (fun ls hl => ?_)
  refine lv_iconst (v := 0) hx hb dX11_allPlaces_2 (by decide) ?_
  refine lv_istore_n (lv' := [(2, .int 0), (1, .int 0), (0, .ref (G.1 105))]) hx hb dX11_allPlaces_3 rfl hl (by decide) rfl (fun ls hl => ?_)
  exact L4 FU 0 0 _ _ _ _ h hP hS (lv_sub hl [2, 1, 0] rfl)
def fX11_count (p1 : Int32) (σ : QMem) : Option (Int32 × QMem) :=
  if p1 = 0 then ((fX11_filledSlots σ).bind fun xq2 => (some (xq2.1, xq2.2))) else (if p1 = 1 then ((fX11_allNorms σ).bind fun xq5 => (some (xq5.1, xq5.2))) else (if p1 = 2 then ((fX4_size σ).bind fun xq8 => (some (xq8.1, xq8.2))) else (if p1 = 3 then ((fX8_size σ).bind fun xq11 => (some (xq11.1, xq11.2))) else (if p1 = 4 then ((fX11_allPlaces σ).bind fun xq14 => (some (xq14.1, xq14.2))) else (if p1 = 5 then (if ((0 : Int32) < 0 ∨ xl 106 ≤ (0 : Int32).toNatClampNeg) then none else ((fX9_isStored (xb 106 + (0 : Int32).toNatClampNeg) σ).bind fun xq18 => (if xq18.1 = 0 then (some (0, xq18.2)) else (some (1, xq18.2))))) else (if p1 = 6 then (if ((1 : Int32) < 0 ∨ xl 106 ≤ (1 : Int32).toNatClampNeg) then none else ((fX9_isStored (xb 106 + (1 : Int32).toNatClampNeg) σ).bind fun xq23 => (if xq23.1 = 0 then (some (0, xq23.2)) else (some (1, xq23.2))))) else (some ((-1002), σ))))))))
set_option maxHeartbeats 4000000 in
set_option maxRecDepth 100000 in
theorem kX11_count (l : Launch) (D : va_G) (G : xG) (ub : xB) (σ : QMem) (p1 : Int32) (res : Int32 × QMem) (h : fX11_count p1 σ = some res) : Met l yX11_count (.code yX11_count cX11_count 2 (some .int) :: lwW) (rmD 2) (xPc D G ub σ [.ref (G.1 105), .int p1]) (xQi D G ub res) 0 0 (xA G) := by
  refine Met.ofW (cc := cX11_count) (maxL := 2) (ret := (some .int)) (by decide) rfl ?_
  intro p e s m args below meth c s₁ B hml hv
  obtain ⟨rfl, h0⟩ := hv
  have hx := B.exec
  have hb := B.bytes
  have hr := B.returns
  have hts := fun (w : Cond) (hw : w ∈ lwW) => atoms_spec (ws := (.code yX11_count cX11_count 2 (some .int) :: lwW)) B.pre w (List.mem_cons_of_mem _ hw)
  have hown : s.vm.findClass RX11 = some m.cls := findClass_of_methodNamed B.named
  have hlocks := B.notSynchronized
  have hP := h0.1
  have hK := h0.2.1
  have hi := h0.2.2.1
  have hZ := h0.2.2.2
  have hN := h0.2.2.2.2.2.2.2.1
  have hV := h0.2.2.2.2.2.2.2.2.1
  have hS : va_S (xA G) s.heap s.heap [] := va_S.rf
  have hl := lv_entry ([.ref (G.1 105), .int p1]) (n := 2) (Nat.le_of_ble_eq_true rfl)
  rw [lg_entry_eq]
  generalize (lg_sl ([.ref (G.1 105), .int p1]) ++ List.replicate (2 - (lg_sl ([.ref (G.1 105), .int p1])).length) Slot.unset).toArray = ls at hl ⊢
  have hl : lv_has ls 2 [(0, .ref (G.1 105)), (1, .int p1)] := hl
  unfold fX11_count at h
  refine lv_iload_n hx hb dX11_count_0 rfl (lv_at hl 1 rfl) ?_
  by_cases hcq1 : p1 = 0
  · have h := ifp hcq1 h
    refine lv_tableIn (off := 43) (tgt := 44) hx hb dX11_count_1 (by rw [hcq1]; decide) (by rw [hcq1]; decide) (by rw [hcq1]; rfl) (by decide) ?_
    refine lv_aload_n hx hb dX11_count_44 rfl (lv_at hl 0 rfl) ?_
    obtain ⟨xq2, hfq3, h⟩ := obd h
    refine va_calli (va_runV (As := []) (rest := []) ⟨hx, hb, hml, hown, hts⟩ (kX11_filledSlots l D G ub _ xq2 hfq3) (cwV 0 hts (lwW_gV mw_747 mw_749 ms_18 mw_1 mw_750) rfl rfl rfl (by decide +kernel) ⟨Nat.le_of_ble_eq_true rfl, Nat.le_of_ble_eq_true rfl⟩) ⟨fun a U g mk q => ⟨q.1, xPre_call q.2⟩, va_recv hK hP rfl (xg_7 rfl), fun U hU hW => ⟨rfl, xPre_at h0 hS hP hU hW⟩⟩ rfl rfl hl.1 rfl (lv_room (Nat.le_of_ble_eq_true rfl)) dX11_count_45 ⟨Nat.zero_le _, Nat.zero_le _⟩) hS (fun q _ h => h) (fun q h => h) (fun r u t H1 locs ht hvm hw hB hz1 hq1 hS => ?_)
    obtain ⟨rfl, rfl⟩ := hw
    have hP := hB.1
    rw [ht] at hP
    refine W.widen (k := 0) (n := 0) (Nat.le_refl _) (Nat.le_refl _) ?_
    obtain rfl := Option.some.inj h
    exact W.iret (v := xq2.1) hx hb hr (fun t ht hW => ⟨⟨_, _, rfl, ⟨rfl, rfl⟩, xPre_at h0 hS hP ht hW⟩, hS.F ht⟩) hS.2.2 dX11_count_48
  have h := ifn hcq1 h
  by_cases hcq4 : p1 = 1
  · have h := ifp hcq4 h
    refine lv_tableIn (off := 48) (tgt := 49) hx hb dX11_count_1 (by rw [hcq4]; decide) (by rw [hcq4]; decide) (by rw [hcq4]; rfl) (by decide) ?_
    refine lv_aload_n hx hb dX11_count_49 rfl (lv_at hl 0 rfl) ?_
    obtain ⟨xq5, hfq6, h⟩ := obd h
    refine va_calli (va_runV (As := []) (rest := []) ⟨hx, hb, hml, hown, hts⟩ (kX11_allNorms l D G ub _ xq5 hfq6) (cwV 0 hts (lwW_gV mw_903 mw_905 ms_23 mw_1 mw_906) rfl rfl rfl (by decide +kernel) ⟨Nat.le_of_ble_eq_true rfl, Nat.le_of_ble_eq_true rfl⟩) ⟨fun a U g mk q => ⟨q.1, xPre_call q.2⟩, va_recv hK hP rfl (xg_7 rfl), fun U hU hW => ⟨rfl, xPre_at h0 hS hP hU hW⟩⟩ rfl rfl hl.1 rfl (lv_room (Nat.le_of_ble_eq_true rfl)) dX11_count_50 ⟨Nat.zero_le _, Nat.zero_le _⟩) hS (fun q _ h => h) (fun q h => h) (fun r u t H1 locs ht hvm hw hB hz1 hq1 hS => ?_)
    obtain ⟨rfl, rfl⟩ := hw
    have hP := hB.1
    rw [ht] at hP
    refine W.widen (k := 0) (n := 0) (Nat.le_refl _) (Nat.le_refl _) ?_
    obtain rfl := Option.some.inj h
    exact W.iret (v := xq5.1) hx hb hr (fun t ht hW => ⟨⟨_, _, rfl, ⟨rfl, rfl⟩, xPre_at h0 hS hP ht hW⟩, hS.F ht⟩) hS.2.2 dX11_count_53
  have h := ifn hcq4 h
  by_cases hcq7 : p1 = 2
  · have h := ifp hcq7 h
    refine lv_tableIn (off := 53) (tgt := 54) hx hb dX11_count_1 (by rw [hcq7]; decide) (by rw [hcq7]; decide) (by rw [hcq7]; rfl) (by decide) ?_
    refine lv_aload_n hx hb dX11_count_54 rfl (lv_at hl 0 rfl) ?_
    refine va_get (D := D) (ci := 11) (v := .ref (G.1 108)) (C := RX11) (T := TX11) (N := 13) hx hb hts iwX11 hown hK hP 105 (xg_7 rfl) rfl 3 (by decide) (hts _ mw_285) (fun _ h9 => h9) rfl dX11_count_55 ?_
    obtain ⟨xq8, hfq9, h⟩ := obd h
    refine va_calli (va_runV (As := []) (rest := []) ⟨hx, hb, hml, hown, hts⟩ (kX4_size l D G ub _ xq8 hfq9) (cwV 0 hts (lwW_gV mw_730 mw_731 mw_732 mw_6 mw_733) rfl rfl rfl (by decide +kernel) ⟨Nat.le_of_ble_eq_true rfl, Nat.le_of_ble_eq_true rfl⟩) ⟨fun a U g mk q => ⟨q.1, xPre_call q.2⟩, va_recv hK hP rfl (xg_10 rfl), fun U hU hW => ⟨rfl, xPre_at h0 hS hP hU hW⟩⟩ rfl rfl hl.1 rfl (lv_room (Nat.le_of_ble_eq_true rfl)) dX11_count_58 ⟨Nat.zero_le _, Nat.zero_le _⟩) hS (fun q _ h => h) (fun q h => h) (fun r u t H1 locs ht hvm hw hB hz1 hq1 hS => ?_)
    obtain ⟨rfl, rfl⟩ := hw
    have hP := hB.1
    rw [ht] at hP
    refine W.widen (k := 0) (n := 0) (Nat.le_refl _) (Nat.le_refl _) ?_
    obtain rfl := Option.some.inj h
    exact W.iret (v := xq8.1) hx hb hr (fun t ht hW => ⟨⟨_, _, rfl, ⟨rfl, rfl⟩, xPre_at h0 hS hP ht hW⟩, hS.F ht⟩) hS.2.2 dX11_count_61
  have h := ifn hcq7 h
  by_cases hcq10 : p1 = 3
  · have h := ifp hcq10 h
    refine lv_tableIn (off := 61) (tgt := 62) hx hb dX11_count_1 (by rw [hcq10]; decide) (by rw [hcq10]; decide) (by rw [hcq10]; rfl) (by decide) ?_
    refine lv_aload_n hx hb dX11_count_62 rfl (lv_at hl 0 rfl) ?_
    refine va_get (D := D) (ci := 11) (v := .ref (G.1 109)) (C := RX11) (T := TX11) (N := 13) hx hb hts iwX11 hown hK hP 105 (xg_7 rfl) rfl 4 (by decide) (hts _ mw_286) (fun _ h9 => h9) rfl dX11_count_63 ?_
    obtain ⟨xq11, hfq12, h⟩ := obd h
    refine va_calli (va_runV (As := []) (rest := []) ⟨hx, hb, hml, hown, hts⟩ (kX8_size l D G ub _ xq11 hfq12) (cwV 0 hts (lwW_gV mw_334 mw_335 mw_336 mw_7 mw_337) rfl rfl rfl (by decide +kernel) ⟨Nat.le_of_ble_eq_true rfl, Nat.le_of_ble_eq_true rfl⟩) ⟨fun a U g mk q => ⟨q.1, xPre_call q.2⟩, va_recv hK hP rfl (xg_11 rfl), fun U hU hW => ⟨rfl, xPre_at h0 hS hP hU hW⟩⟩ rfl rfl hl.1 rfl (lv_room (Nat.le_of_ble_eq_true rfl)) dX11_count_66 ⟨Nat.zero_le _, Nat.zero_le _⟩) hS (fun q _ h => h) (fun q h => h) (fun r u t H1 locs ht hvm hw hB hz1 hq1 hS => ?_)
    obtain ⟨rfl, rfl⟩ := hw
    have hP := hB.1
    rw [ht] at hP
    refine W.widen (k := 0) (n := 0) (Nat.le_refl _) (Nat.le_refl _) ?_
    obtain rfl := Option.some.inj h
    exact W.iret (v := xq11.1) hx hb hr (fun t ht hW => ⟨⟨_, _, rfl, ⟨rfl, rfl⟩, xPre_at h0 hS hP ht hW⟩, hS.F ht⟩) hS.2.2 dX11_count_69
  have h := ifn hcq10 h
  by_cases hcq13 : p1 = 4
  · have h := ifp hcq13 h
    refine lv_tableIn (off := 69) (tgt := 70) hx hb dX11_count_1 (by rw [hcq13]; decide) (by rw [hcq13]; decide) (by rw [hcq13]; rfl) (by decide) ?_
    refine lv_aload_n hx hb dX11_count_70 rfl (lv_at hl 0 rfl) ?_
    obtain ⟨xq14, hfq15, h⟩ := obd h
    refine va_calli (va_runV (As := []) (rest := []) ⟨hx, hb, hml, hown, hts⟩ (kX11_allPlaces l D G ub _ xq14 hfq15) (cwV 0 hts (lwW_gV mw_907 mw_909 ms_24 mw_1 mw_910) rfl rfl rfl (by decide +kernel) ⟨Nat.le_of_ble_eq_true rfl, Nat.le_of_ble_eq_true rfl⟩) ⟨fun a U g mk q => ⟨q.1, xPre_call q.2⟩, va_recv hK hP rfl (xg_7 rfl), fun U hU hW => ⟨rfl, xPre_at h0 hS hP hU hW⟩⟩ rfl rfl hl.1 rfl (lv_room (Nat.le_of_ble_eq_true rfl)) dX11_count_71 ⟨Nat.zero_le _, Nat.zero_le _⟩) hS (fun q _ h => h) (fun q h => h) (fun r u t H1 locs ht hvm hw hB hz1 hq1 hS => ?_)
    obtain ⟨rfl, rfl⟩ := hw
    have hP := hB.1
    rw [ht] at hP
    refine W.widen (k := 0) (n := 0) (Nat.le_refl _) (Nat.le_refl _) ?_
    obtain rfl := Option.some.inj h
    exact W.iret (v := xq14.1) hx hb hr (fun t ht hW => ⟨⟨_, _, rfl, ⟨rfl, rfl⟩, xPre_at h0 hS hP ht hW⟩, hS.F ht⟩) hS.2.2 dX11_count_74
  have h := ifn hcq13 h
  by_cases hcq16 : p1 = 5
  · have h := ifp hcq16 h
    refine lv_tableIn (off := 74) (tgt := 75) hx hb dX11_count_1 (by rw [hcq16]; decide) (by rw [hcq16]; decide) (by rw [hcq16]; rfl) (by decide) ?_
    refine lv_aload_n hx hb dX11_count_75 rfl (lv_at hl 0 rfl) ?_
    refine va_get (D := D) (ci := 11) (v := .ref (G.1 106)) (C := RX11) (T := TX11) (N := 13) hx hb hts iwX11 hown hK hP 105 (xg_7 rfl) rfl 1 (by decide) (hts _ mw_283) (fun _ h9 => h9) rfl dX11_count_76 ?_
    refine lv_iconst (v := 0) hx hb dX11_count_79 (by decide) ?_
    obtain ⟨hiq17, h⟩ := nif h
    refine va_aldq hx hb hK hP 106 2 (xg_8 rfl) rfl hiq17 dX11_count_80 ?_
    refine W.eq (g2 := F0 m 81 ls [.ref (G.1 (xb 106 + (0 : Int32).toNatClampNeg))]) rfl ?_
    obtain ⟨xq18, hfq19, h⟩ := obd h
    refine va_calli (va_runV (As := []) (rest := []) ⟨hx, hb, hml, hown, hts⟩ (kX9_isStored l D G ub _ (xb 106 + (0 : Int32).toNatClampNeg) (xr8 rfl (vp_lt hiq17)) xq18 hfq19) (cwV 0 hts (lwW_gV mw_755 mw_756 mw_757 mw_4 mw_758) rfl rfl rfl (by decide +kernel) ⟨Nat.le_of_ble_eq_true rfl, Nat.le_of_ble_eq_true rfl⟩) ⟨fun a U g mk q => ⟨q.1, xPre_call q.2⟩, va_recv hK hP rfl (xg_5 (xr8 rfl (vp_lt hiq17))), fun U hU hW => ⟨rfl, xPre_at h0 hS hP hU hW⟩⟩ rfl rfl hl.1 rfl (lv_room (Nat.le_of_ble_eq_true rfl)) dX11_count_81 ⟨Nat.zero_le _, Nat.zero_le _⟩) hS (fun q _ h => h) (fun q h => h) (fun r u t H1 locs ht hvm hw hB hz1 hq1 hS => ?_)
    obtain ⟨rfl, rfl⟩ := hw
    have hP := hB.1
    rw [ht] at hP
    refine W.widen (k := 0) (n := 0) (Nat.le_refl _) (Nat.le_refl _) ?_
    refine lv_if_eq (tgt := 91) hx hb dX11_count_84 (by decide) (fun hcq20 => ?_) (fun hcq20 => ?_)
    · have h := ifp hcq20 h
      refine lv_iconst (v := 0) hx hb dX11_count_91 (by decide) ?_
      obtain rfl := Option.some.inj h
      exact W.iret (v := 0) hx hb hr (fun t ht hW => ⟨⟨_, _, rfl, ⟨rfl, rfl⟩, xPre_at h0 hS hP ht hW⟩, hS.F ht⟩) hS.2.2 dX11_count_92
    have h := ifn hcq20 h
    refine lv_iconst (v := 1) hx hb dX11_count_87 (by decide) ?_
    refine lv_goto (tgt := 92) hx hb dX11_count_88 (by decide) ?_
    obtain rfl := Option.some.inj h
    exact W.iret (v := 1) hx hb hr (fun t ht hW => ⟨⟨_, _, rfl, ⟨rfl, rfl⟩, xPre_at h0 hS hP ht hW⟩, hS.F ht⟩) hS.2.2 dX11_count_92
  have h := ifn hcq16 h
  by_cases hcq21 : p1 = 6
  · have h := ifp hcq21 h
    refine lv_tableIn (off := 92) (tgt := 93) hx hb dX11_count_1 (by rw [hcq21]; decide) (by rw [hcq21]; decide) (by rw [hcq21]; rfl) (by decide) ?_
    refine lv_aload_n hx hb dX11_count_93 rfl (lv_at hl 0 rfl) ?_
    refine va_get (D := D) (ci := 11) (v := .ref (G.1 106)) (C := RX11) (T := TX11) (N := 13) hx hb hts iwX11 hown hK hP 105 (xg_7 rfl) rfl 1 (by decide) (hts _ mw_283) (fun _ h9 => h9) rfl dX11_count_94 ?_
    refine lv_iconst (v := 1) hx hb dX11_count_97 (by decide) ?_
    obtain ⟨hiq22, h⟩ := nif h
    refine va_aldq hx hb hK hP 106 2 (xg_8 rfl) rfl hiq22 dX11_count_98 ?_
    refine W.eq (g2 := F0 m 99 ls [.ref (G.1 (xb 106 + (1 : Int32).toNatClampNeg))]) rfl ?_
    obtain ⟨xq23, hfq24, h⟩ := obd h
    refine va_calli (va_runV (As := []) (rest := []) ⟨hx, hb, hml, hown, hts⟩ (kX9_isStored l D G ub _ (xb 106 + (1 : Int32).toNatClampNeg) (xr8 rfl (vp_lt hiq22)) xq23 hfq24) (cwV 0 hts (lwW_gV mw_755 mw_756 mw_757 mw_4 mw_758) rfl rfl rfl (by decide +kernel) ⟨Nat.le_of_ble_eq_true rfl, Nat.le_of_ble_eq_true rfl⟩) ⟨fun a U g mk q => ⟨q.1, xPre_call q.2⟩, va_recv hK hP rfl (xg_5 (xr8 rfl (vp_lt hiq22))), fun U hU hW => ⟨rfl, xPre_at h0 hS hP hU hW⟩⟩ rfl rfl hl.1 rfl (lv_room (Nat.le_of_ble_eq_true rfl)) dX11_count_99 ⟨Nat.zero_le _, Nat.zero_le _⟩) hS (fun q _ h => h) (fun q h => h) (fun r u t H1 locs ht hvm hw hB hz1 hq1 hS => ?_)
    obtain ⟨rfl, rfl⟩ := hw
    have hP := hB.1
    rw [ht] at hP
    refine W.widen (k := 0) (n := 0) (Nat.le_refl _) (Nat.le_refl _) ?_
    refine lv_if_eq (tgt := 109) hx hb dX11_count_102 (by decide) (fun hcq25 => ?_) (fun hcq25 => ?_)
    · have h := ifp hcq25 h
      refine lv_iconst (v := 0) hx hb dX11_count_109 (by decide) ?_
      obtain rfl := Option.some.inj h
      exact W.iret (v := 0) hx hb hr (fun t ht hW => ⟨⟨_, _, rfl, ⟨rfl, rfl⟩, xPre_at h0 hS hP ht hW⟩, hS.F ht⟩) hS.2.2 dX11_count_110
    have h := ifn hcq25 h
    refine lv_iconst (v := 1) hx hb dX11_count_105 (by decide) ?_
    refine lv_goto (tgt := 110) hx hb dX11_count_106 (by decide) ?_
    obtain rfl := Option.some.inj h
    exact W.iret (v := 1) hx hb hr (fun t ht hW => ⟨⟨_, _, rfl, ⟨rfl, rfl⟩, xPre_at h0 hS hP ht hW⟩, hS.F ht⟩) hS.2.2 dX11_count_110
  have h := ifn hcq21 h
  refine lv_tableOut (tgt := 111) hx hb dX11_count_1 (by have t0 := toI_ne hcq1; have t1 := toI_ne hcq4; have t2 := toI_ne hcq7; have t3 := toI_ne hcq10; have t4 := toI_ne hcq13; have t5 := toI_ne hcq16; have t6 := toI_ne hcq21; rw [show (0 : Int32).toInt = 0 from by decide] at t0; rw [show (1 : Int32).toInt = 1 from by decide] at t1; rw [show (2 : Int32).toInt = 2 from by decide] at t2; rw [show (3 : Int32).toInt = 3 from by decide] at t3; rw [show (4 : Int32).toInt = 4 from by decide] at t4; rw [show (5 : Int32).toInt = 5 from by decide] at t5; rw [show (6 : Int32).toInt = 6 from by decide] at t6; omega) (by decide) ?_
  refine lv_sipush (v := (-1002)) hx hb dX11_count_111 (by decide) ?_
  obtain rfl := Option.some.inj h
  exact W.iret (v := (-1002)) hx hb hr (fun t ht hW => ⟨⟨_, _, rfl, ⟨rfl, rfl⟩, xPre_at h0 hS hP ht hW⟩, hS.F ht⟩) hS.2.2 dX11_count_114
