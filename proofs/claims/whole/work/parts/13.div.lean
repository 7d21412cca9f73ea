def fX1_nearEven (p0 : Int32) (p1 : Int32) : Option (Int32) :=
  if p1 ≤ 0 then (some 0) else (if (2 * p1) = 0 then none else (some (2 * (qfd (p0 + p1) (2 * p1)))))
set_option maxHeartbeats 4000000 in
set_option maxRecDepth 100000 in
theorem kX1_nearEven (l : Launch) (p0 : Int32) (p1 : Int32) (res : Int32) (h : fX1_nearEven p0 p1 = some res) : Met l yX1_nearEven (.code yX1_nearEven cX1_nearEven 2 (some .int) :: lwW) (rmD 1) (nPc [.int p0, .int p1]) (nQi res) 0 0 (fun _ => False) := by
  refine Met.ofW (cc := cX1_nearEven) (maxL := 2) (ret := (some .int)) (by decide) rfl ?_
  intro p e s m args below meth c s₁ B hml hv
  obtain ⟨rfl, h0⟩ := hv
  have hx := B.exec
  have hb := B.bytes
  have hr := B.returns
  have hts := fun (w : Cond) (hw : w ∈ lwW) => atoms_spec (ws := (.code yX1_nearEven cX1_nearEven 2 (some .int) :: lwW)) B.pre w (List.mem_cons_of_mem _ hw)
  have hown : s.vm.findClass RX1 = some m.cls := findClass_of_methodNamed B.named
  have hlocks := B.notSynchronized
  have hS : va_S (fun _ => False) s.heap s.heap [] := va_S.rf
  have hl := lv_entry ([.int p0, .int p1]) (n := 2) (Nat.le_of_ble_eq_true rfl)
  rw [lg_entry_eq]
  generalize (lg_sl ([.int p0, .int p1]) ++ List.replicate (2 - (lg_sl ([.int p0, .int p1])).length) Slot.unset).toArray = ls at hl ⊢
  have hl : lv_has ls 2 [(0, .int p0), (1, .int p1)] := hl
  unfold fX1_nearEven at h
  refine lv_iload_n hx hb dX1_nearEven_0 rfl (lv_at hl 1 rfl) ?_
  refine lv_if_le (tgt := 18) hx hb dX1_nearEven_1 (by decide) (fun hcq1 => ?_) (fun hcq1 => ?_)
  · have h := ifp hcq1 h
    refine lv_iconst (v := 0) hx hb dX1_nearEven_18 (by decide) ?_
    obtain rfl := Option.some.inj h
    exact W.iret (v := 0) hx hb hr (fun t ht hW => ⟨⟨_, (), rfl, rfl, trivial⟩, hS.F ht⟩) hS.2.2 dX1_nearEven_19
  have h := ifn hcq1 h
  refine lv_iconst (v := 2) hx hb dX1_nearEven_4 (by decide) ?_
  refine lv_iload_n hx hb dX1_nearEven_5 rfl (lv_at hl 0 rfl) ?_
  refine lv_iload_n hx hb dX1_nearEven_6 rfl (lv_at hl 1 rfl) ?_
  refine lv_iadd hx hb dX1_nearEven_7 ?_
  refine lv_iconst (v := 2) hx hb dX1_nearEven_8 (by decide) ?_
  refine lv_iload_n hx hb dX1_nearEven_9 rfl (lv_at hl 1 rfl) ?_
  refine lv_imul hx hb dX1_nearEven_10 ?_
  obtain ⟨hdq2, h⟩ := nif h
  refine va_mfloorDiv hx hb (by rw [hml]; exact hl.1.symm) hown (hts _ mw_635) (hts _ mw_636) (hts _ mw_2) (hts _ mw_637) (Nat.le_of_ble_eq_true rfl) (Nat.le_of_ble_eq_true rfl) (Nat.zero_le _) (Nat.zero_le _) hdq2 dX1_nearEven_11 ?_
  refine lv_imul hx hb dX1_nearEven_14 ?_
  refine lv_goto (tgt := 19) hx hb dX1_nearEven_15 (by decide) ?_
  obtain rfl := Option.some.inj h
  exact W.iret (v := 2 * (qfd (p0 + p1) (2 * p1))) hx hb hr (fun t ht hW => ⟨⟨_, (), rfl, rfl, trivial⟩, hS.F ht⟩) hS.2.2 dX1_nearEven_19
def fX1_nearOdd (p0 : Int32) (p1 : Int32) : Option (Int32) :=
  if p1 ≤ 0 then (some 1) else (if (2 * p1) = 0 then none else (some ((2 * (qfd p0 (2 * p1))) + 1)))
set_option maxHeartbeats 4000000 in
set_option maxRecDepth 100000 in
theorem kX1_nearOdd (l : Launch) (p0 : Int32) (p1 : Int32) (res : Int32) (h : fX1_nearOdd p0 p1 = some res) : Met l yX1_nearOdd (.code yX1_nearOdd cX1_nearOdd 2 (some .int) :: lwW) (rmD 1) (nPc [.int p0, .int p1]) (nQi res) 0 0 (fun _ => False) := by
  refine Met.ofW (cc := cX1_nearOdd) (maxL := 2) (ret := (some .int)) (by decide) rfl ?_
  intro p e s m args below meth c s₁ B hml hv
  obtain ⟨rfl, h0⟩ := hv
  have hx := B.exec
  have hb := B.bytes
  have hr := B.returns
  have hts := fun (w : Cond) (hw : w ∈ lwW) => atoms_spec (ws := (.code yX1_nearOdd cX1_nearOdd 2 (some .int) :: lwW)) B.pre w (List.mem_cons_of_mem _ hw)
  have hown : s.vm.findClass RX1 = some m.cls := findClass_of_methodNamed B.named
  have hlocks := B.notSynchronized
  have hS : va_S (fun _ => False) s.heap s.heap [] := va_S.rf
  have hl := lv_entry ([.int p0, .int p1]) (n := 2) (Nat.le_of_ble_eq_true rfl)
  rw [lg_entry_eq]
  generalize (lg_sl ([.int p0, .int p1]) ++ List.replicate (2 - (lg_sl ([.int p0, .int p1])).length) Slot.unset).toArray = ls at hl ⊢
  have hl : lv_has ls 2 [(0, .int p0), (1, .int p1)] := hl
  unfold fX1_nearOdd at h
  refine lv_iload_n hx hb dX1_nearOdd_0 rfl (lv_at hl 1 rfl) ?_
  refine lv_if_le (tgt := 18) hx hb dX1_nearOdd_1 (by decide) (fun hcq1 => ?_) (fun hcq1 => ?_)
  · have h := ifp hcq1 h
    refine lv_iconst (v := 1) hx hb dX1_nearOdd_18 (by decide) ?_
    obtain rfl := Option.some.inj h
    exact W.iret (v := 1) hx hb hr (fun t ht hW => ⟨⟨_, (), rfl, rfl, trivial⟩, hS.F ht⟩) hS.2.2 dX1_nearOdd_19
  have h := ifn hcq1 h
  refine lv_iconst (v := 2) hx hb dX1_nearOdd_4 (by decide) ?_
  refine lv_iload_n hx hb dX1_nearOdd_5 rfl (lv_at hl 0 rfl) ?_
  refine lv_iconst (v := 2) hx hb dX1_nearOdd_6 (by decide) ?_
  refine lv_iload_n hx hb dX1_nearOdd_7 rfl (lv_at hl 1 rfl) ?_
  refine lv_imul hx hb dX1_nearOdd_8 ?_
  obtain ⟨hdq2, h⟩ := nif h
  refine va_mfloorDiv hx hb (by rw [hml]; exact hl.1.symm) hown (hts _ mw_635) (hts _ mw_636) (hts _ mw_2) (hts _ mw_637) (Nat.le_of_ble_eq_true rfl) (Nat.le_of_ble_eq_true rfl) (Nat.zero_le _) (Nat.zero_le _) hdq2 dX1_nearOdd_9 ?_
  refine lv_imul hx hb dX1_nearOdd_12 ?_
  refine lv_iconst (v := 1) hx hb dX1_nearOdd_13 (by decide) ?_
  refine lv_iadd hx hb dX1_nearOdd_14 ?_
  refine lv_goto (tgt := 19) hx hb dX1_nearOdd_15 (by decide) ?_
  obtain rfl := Option.some.inj h
  exact W.iret (v := (2 * (qfd p0 (2 * p1))) + 1) hx hb hr (fun t ht hW => ⟨⟨_, (), rfl, rfl, trivial⟩, hS.F ht⟩) hS.2.2 dX1_nearOdd_19
def fX1_distance (k1 : Nat) (p2 : Int32) (σ : QMem) : Option (Int32 × QMem) :=
  some ((((((σ 39 0) - (p2 * (σ k1 0))) * ((σ 39 0) - (p2 * (σ k1 0)))) + (((σ 39 1) - (p2 * (σ k1 1))) * ((σ 39 1) - (p2 * (σ k1 1))))) + (((σ 39 2) - (p2 * (σ k1 2))) * ((σ 39 2) - (p2 * (σ k1 2))))) + (((σ 39 3) - (p2 * (σ k1 3))) * ((σ 39 3) - (p2 * (σ k1 3)))), σ)
set_option maxHeartbeats 4000000 in
set_option maxRecDepth 100000 in
theorem kX1_distance (l : Launch) (D : va_G) (G : xG) (ub : xB) (σ : QMem) (k1 : Nat) (hk1 : xk k1 = 0) (p2 : Int32) (res : Int32 × QMem) (h : fX1_distance k1 p2 σ = some res) : Met l yX1_distance (.code yX1_distance cX1_distance 7 (some .int) :: lwW) (rmD 0) (xPc D G ub σ [.ref (G.1 110), .ref (G.1 k1), .int p2]) (xQi D G ub res) 0 0 (xA G) := by
  refine Met.ofW (cc := cX1_distance) (maxL := 7) (ret := (some .int)) (by decide) rfl ?_
  intro p e s m args below meth c s₁ B hml hv
  obtain ⟨rfl, h0⟩ := hv
  have hx := B.exec
  have hb := B.bytes
  have hr := B.returns
  have hts := fun (w : Cond) (hw : w ∈ lwW) => atoms_spec (ws := (.code yX1_distance cX1_distance 7 (some .int) :: lwW)) B.pre w (List.mem_cons_of_mem _ hw)
  have hown : s.vm.findClass RX1 = some m.cls := findClass_of_methodNamed B.named
  have hlocks := B.notSynchronized
  have hP := h0.1
  have hK := h0.2.1
  have hi := h0.2.2.1
  have hZ := h0.2.2.2
  have hN := h0.2.2.2.2.2.2.2.1
  have hV := h0.2.2.2.2.2.2.2.2.1
  have hS : va_S (xA G) s.heap s.heap [] := va_S.rf
  have hl := lv_entry ([.ref (G.1 110), .ref (G.1 k1), .int p2]) (n := 7) (Nat.le_of_ble_eq_true rfl)
  rw [lg_entry_eq]
  generalize (lg_sl ([.ref (G.1 110), .ref (G.1 k1), .int p2]) ++ List.replicate (7 - (lg_sl ([.ref (G.1 110), .ref (G.1 k1), .int p2])).length) Slot.unset).toArray = ls at hl ⊢
  have hl : lv_has ls 7 [(0, .ref (G.1 110)), (1, .ref (G.1 k1)), (2, .int p2)] := hl
  unfold fX1_distance at h
  refine lv_aload_n hx hb dX1_distance_0 rfl (lv_at hl 0 rfl) ?_
  refine va_get (D := D) (ci := 1) (v := .ref (G.1 39)) (C := RX1) (T := TX1) (N := 8) hx hb hts iwX1 hown hK hP 110 (xg_12 rfl) rfl 3 (by decide) (hts _ mw_156) (fun _ h9 => h9) rfl dX1_distance_1 ?_
  refine va_getN (D := D) (ci := 6) (v := .int (σ 39 0)) (C := RX6) (T := TX6) (N := 4) hx hb hts iwX6 hown hK hP 39 (xg_0 rfl) rfl 0 (by decide) (va_Nw.use rfl (hN.F 0 rfl)) (fun _ h9 => h9) rfl dX1_distance_4 ?_
  refine lv_iload_n hx hb dX1_distance_7 rfl (lv_at hl 2 rfl) ?_
  refine lv_aload_n hx hb dX1_distance_8 rfl (lv_at hl 1 rfl) ?_
  refine va_getN (D := D) (ci := 6) (v := .int (σ k1 0)) (C := RX6) (T := TX6) (N := 4) hx hb hts iwX6 hown hK hP k1 (xg_0 hk1) rfl 0 (by decide) (va_Nw.use rfl (hN.F 0 rfl)) (fun _ h9 => h9) rfl dX1_distance_9 ?_
  refine lv_imul hx hb dX1_distance_12 ?_
  refine lv_isub hx hb dX1_distance_13 ?_
  refine lv_istore_n (lv' := [(3, .int ((σ 39 0) - (p2 * (σ k1 0)))), (0, .ref (G.1 110)), (1, .ref (G.1 k1)), (2, .int p2)]) hx hb dX1_distance_14 rfl hl (by decide) rfl (fun ls hl => ?_)
  refine lv_aload_n hx hb dX1_distance_15 rfl (lv_at hl 1 rfl) ?_
  refine va_get (D := D) (ci := 1) (v := .ref (G.1 39)) (C := RX1) (T := TX1) (N := 8) hx hb hts iwX1 hown hK hP 110 (xg_12 rfl) rfl 3 (by decide) (hts _ mw_156) (fun _ h9 => h9) rfl dX1_distance_16 ?_
  refine va_getN (D := D) (ci := 6) (v := .int (σ 39 1)) (C := RX6) (T := TX6) (N := 4) hx hb hts iwX6 hown hK hP 39 (xg_0 rfl) rfl 1 (by decide) (va_Nw.use rfl (hN.F 2 rfl)) (fun _ h9 => h9) rfl dX1_distance_19 ?_
  refine lv_iload_n hx hb dX1_distance_22 rfl (lv_at hl 3 rfl) ?_
  refine lv_aload_n hx hb dX1_distance_23 rfl (lv_at hl 2 rfl) ?_
  refine va_getN (D := D) (ci := 6) (v := .int (σ k1 1)) (C := RX6) (T := TX6) (N := 4) hx hb hts iwX6 hown hK hP k1 (xg_0 hk1) rfl 1 (by decide) (va_Nw.use rfl (hN.F 2 rfl)) (fun _ h9 => h9) rfl dX1_distance_24 ?_
  refine lv_imul hx hb dX1_distance_27 ?_
  refine lv_isub hx hb dX1_distance_28 ?_
  refine lv_istore (lv' := [(4, .int ((σ 39 1) - (p2 * (σ k1 1)))), (3, .int ((σ 39 0) - (p2 * (σ k1 0)))), (0, .ref (G.1 110)), (1, .ref (G.1 k1)), (2, .int p2)]) hx hb dX1_distance_29 hl (by decide) rfl (fun ls hl => ?_)
  refine lv_aload_n hx hb dX1_distance_31 rfl (lv_at hl 2 rfl) ?_
  refine va_get (D := D) (ci := 1) (v := .ref (G.1 39)) (C := RX1) (T := TX1) (N := 8) hx hb hts iwX1 hown hK hP 110 (xg_12 rfl) rfl 3 (by decide) (hts _ mw_156) (fun _ h9 => h9) rfl dX1_distance_32 ?_
  refine va_getN (D := D) (ci := 6) (v := .int (σ 39 2)) (C := RX6) (T := TX6) (N := 4) hx hb hts iwX6 hown hK hP 39 (xg_0 rfl) rfl 2 (by decide) (va_Nw.use rfl (hN.F 4 rfl)) (fun _ h9 => h9) rfl dX1_distance_35 ?_
  refine lv_iload_n hx hb dX1_distance_38 rfl (lv_at hl 4 rfl) ?_
  refine lv_aload_n hx hb dX1_distance_39 rfl (lv_at hl 3 rfl) ?_
  refine va_getN (D := D) (ci := 6) (v := .int (σ k1 2)) (C := RX6) (T := TX6) (N := 4) hx hb hts iwX6 hown hK hP k1 (xg_0 hk1) rfl 2 (by decide) (va_Nw.use rfl (hN.F 4 rfl)) (fun _ h9 => h9) rfl dX1_distance_40 ?_
  refine lv_imul hx hb dX1_distance_43 ?_
  refine lv_isub hx hb dX1_distance_44 ?_
  refine lv_istore (lv' := [(5, .int ((σ 39 2) - (p2 * (σ k1 2)))), (4, .int ((σ 39 1) - (p2 * (σ k1 1)))), (3, .int ((σ 39 0) - (p2 * (σ k1 0)))), (0, .ref (G.1 110)), (1, .ref (G.1 k1)), (2, .int p2)]) hx hb dX1_distance_45 hl (by decide) rfl (fun ls hl => ?_)
  refine lv_aload_n hx hb dX1_distance_47 rfl (lv_at hl 3 rfl) ?_
  refine va_get (D := D) (ci := 1) (v := .ref (G.1 39)) (C := RX1) (T := TX1) (N := 8) hx hb hts iwX1 hown hK hP 110 (xg_12 rfl) rfl 3 (by decide) (hts _ mw_156) (fun _ h9 => h9) rfl dX1_distance_48 ?_
  refine va_getN (D := D) (ci := 6) (v := .int (σ 39 3)) (C := RX6) (T := TX6) (N := 4) hx hb hts iwX6 hown hK hP 39 (xg_0 rfl) rfl 3 (by decide) (va_Nw.use rfl (hN.F 6 rfl)) (fun _ h9 => h9) rfl dX1_distance_51 ?_
  refine lv_iload_n hx hb dX1_distance_54 rfl (lv_at hl 5 rfl) ?_
  refine lv_aload_n hx hb dX1_distance_55 rfl (lv_at hl 4 rfl) ?_
  refine va_getN (D := D) (ci := 6) (v := .int (σ k1 3)) (C := RX6) (T := TX6) (N := 4) hx hb hts iwX6 hown hK hP k1 (xg_0 hk1) rfl 3 (by decide) (va_Nw.use rfl (hN.F 6 rfl)) (fun _ h9 => h9) rfl dX1_distance_56 ?_
  refine lv_imul hx hb dX1_distance_59 ?_
  refine lv_isub hx hb dX1_distance_60 ?_
  refine lv_istore (lv' := [(6, .int ((σ 39 3) - (p2 * (σ k1 3)))), (5, .int ((σ 39 2) - (p2 * (σ k1 2)))), (4, .int ((σ 39 1) - (p2 * (σ k1 1)))), (3, .int ((σ 39 0) - (p2 * (σ k1 0)))), (0, .ref (G.1 110)), (1, .ref (G.1 k1)), (2, .int p2)]) hx hb dX1_distance_61 hl (by decide) rfl (fun ls hl => ?_)
  refine lv_iload_n hx hb dX1_distance_63 rfl (lv_at hl 3 rfl) ?_
  refine lv_iload_n hx hb dX1_distance_64 rfl (lv_at hl 3 rfl) ?_
  refine lv_imul hx hb dX1_distance_65 ?_
  refine lv_iload hx hb dX1_distance_66 (lv_at hl 2 rfl) ?_
  refine lv_iload hx hb dX1_distance_68 (lv_at hl 2 rfl) ?_
  refine lv_imul hx hb dX1_distance_70 ?_
  refine lv_iadd hx hb dX1_distance_71 ?_
  refine lv_iload hx hb dX1_distance_72 (lv_at hl 1 rfl) ?_
  refine lv_iload hx hb dX1_distance_74 (lv_at hl 1 rfl) ?_
  refine lv_imul hx hb dX1_distance_76 ?_
  refine lv_iadd hx hb dX1_distance_77 ?_
  refine lv_iload hx hb dX1_distance_78 (lv_at hl 0 rfl) ?_
  refine lv_iload hx hb dX1_distance_80 (lv_at hl 0 rfl) ?_
  refine lv_imul hx hb dX1_distance_82 ?_
  refine lv_iadd hx hb dX1_distance_83 ?_
  obtain rfl := Option.some.inj h
  exact W.iret (v := (((((σ 39 0) - (p2 * (σ k1 0))) * ((σ 39 0) - (p2 * (σ k1 0)))) + (((σ 39 1) - (p2 * (σ k1 1))) * ((σ 39 1) - (p2 * (σ k1 1))))) + (((σ 39 2) - (p2 * (σ k1 2))) * ((σ 39 2) - (p2 * (σ k1 2))))) + (((σ 39 3) - (p2 * (σ k1 3))) * ((σ 39 3) - (p2 * (σ k1 3))))) hx hb hr (fun t ht hW => ⟨⟨_, _, rfl, ⟨rfl, rfl⟩, xPre_at h0 hS hP ht hW⟩, hS.F ht⟩) hS.2.2 dX1_distance_84
def fX1_perform_J211 (k1 : Nat) (k2 : Nat) (p3 : Int32)  (τ : QMem) : Option (QMem) :=
  (fX6_becomeMade 41 k2 36 p3 τ).bind fun xq1 => ((fX6_becomeDifference 37 k1 41 xq1).bind fun xq3 => (some xq3))
def fX1_perform_J200 (k1 : Nat) (k2 : Nat) (p3 : Int32)  (τ : QMem) : Option (QMem) :=
  (fX6_copyFrom 36 40 τ).bind fun xq9 => (fX1_perform_J211 k1 k2 p3 xq9)
def fX1_perform (k1 : Nat) (k2 : Nat) (p3 : Int32) (σ : QMem) : Option (QMem) :=
  (fX6_put 36 0 0 0 0 σ).bind fun xq13 => ((fX6_norm k2 xq13).bind fun xq15 => (if xq15.1 ≤ 0 then (fX1_perform_J211 k1 k2 p3 xq15.2) else ((fX6_becomeConjugate 38 k2 xq15.2).bind fun xq18 => ((fX6_becomeMade 39 38 k1 p3 xq18).bind fun xq20 => ((fX1_nearEven (xq20 39 0) xq15.1).bind fun xq22 => ((fX1_nearEven (xq20 39 1) xq15.1).bind fun xq24 => ((fX1_nearEven (xq20 39 2) xq15.1).bind fun xq26 => ((fX1_nearEven (xq20 39 3) xq15.1).bind fun xq28 => ((fX6_put 36 xq22 xq24 xq26 xq28 xq20).bind fun xq30 => ((fX1_nearOdd (xq30 39 0) xq15.1).bind fun xq32 => ((fX1_nearOdd (xq30 39 1) xq15.1).bind fun xq34 => ((fX1_nearOdd (xq30 39 2) xq15.1).bind fun xq36 => ((fX1_nearOdd (xq30 39 3) xq15.1).bind fun xq38 => ((fX6_put 40 xq32 xq34 xq36 xq38 xq30).bind fun xq40 => ((fX1_distance 36 xq15.1 xq40).bind fun xq42 => ((fX1_distance 40 xq15.1 xq42.2).bind fun xq44 => (if 0 < (xq42.1 - xq44.1) then (fX1_perform_J200 k1 k2 p3 xq44.2) else (if (xq42.1 - xq44.1) = 0 then ((fX6_isGreaterThan 40 36 xq44.2).bind fun xq48 => (if xq48.1 = 0 then (fX1_perform_J211 k1 k2 p3 xq48.2) else (fX1_perform_J200 k1 k2 p3 xq48.2))) else (fX1_perform_J211 k1 k2 p3 xq44.2)))))))))))))))))))
set_option maxHeartbeats 4000000 in
set_option maxRecDepth 100000 in
theorem kX1_perform (l : Launch) (D : va_G) (G : xG) (ub : xB) (σ : QMem) (k1 : Nat) (hk1 : xk k1 = 0) (k2 : Nat) (hk2 : xk k2 = 0) (p3 : Int32) (res : QMem) (h : fX1_perform k1 k2 p3 σ = some res) : Met l yX1_perform (.code yX1_perform cX1_perform 6 none :: lwW) (rmD 2) (xPc D G ub σ [.ref (G.1 110), .ref (G.1 k1), .ref (G.1 k2), .int p3]) (xQv D G ub res) 0 0 (xA G) := by
  refine Met.ofW (cc := cX1_perform) (maxL := 6) (ret := none) (by decide) rfl ?_
  intro p e s m args below meth c s₁ B hml hv
  obtain ⟨rfl, h0⟩ := hv
  have hx := B.exec
  have hb := B.bytes
  have hr := B.returns
  have hts := fun (w : Cond) (hw : w ∈ lwW) => atoms_spec (ws := (.code yX1_perform cX1_perform 6 none :: lwW)) B.pre w (List.mem_cons_of_mem _ hw)
  have hown : s.vm.findClass RX1 = some m.cls := findClass_of_methodNamed B.named
  have hlocks := B.notSynchronized
  have hP := h0.1
  have hK := h0.2.1
  have hi := h0.2.2.1
  have hZ := h0.2.2.2
  have hN := h0.2.2.2.2.2.2.2.1
  have hV := h0.2.2.2.2.2.2.2.2.1
  have hS : va_S (xA G) s.heap s.heap [] := va_S.rf
  have hl := lv_entry ([.ref (G.1 110), .ref (G.1 k1), .ref (G.1 k2), .int p3]) (n := 6) (Nat.le_of_ble_eq_true rfl)
  rw [lg_entry_eq]
  generalize (lg_sl ([.ref (G.1 110), .ref (G.1 k1), .ref (G.1 k2), .int p3]) ++ List.replicate (6 - (lg_sl ([.ref (G.1 110), .ref (G.1 k1), .ref (G.1 k2), .int p3])).length) Slot.unset).toArray = ls at hl ⊢
  have hl : lv_has ls 6 [(0, .ref (G.1 110)), (1, .ref (G.1 k1)), (2, .ref (G.1 k2)), (3, .int p3)] := hl
  unfold fX1_perform at h
  have J211 : ∀ (τ : QMem) (H : Heap) (locs : List Loc) (ls : Array Slot), fX1_perform_J211 k1 k2 p3 τ = some res → va_P D vwCl (xW G τ) H → va_S (xA G) s.heap H locs → lv_has ls 6 [(0, .ref (G.1 110)), (1, .ref (G.1 k1)), (2, .ref (G.1 k2)), (3, .int p3)] → W p l e (headSpec (.code yX1_perform cX1_perform 6 none :: lwW) (rmD 2)).room s m ([.ref (G.1 110), .ref (G.1 k1), .ref (G.1 k2), .int p3] : List Value).toArray below meth c H locs 0 0 (MQ below (xQv D G ub res) ([.ref (G.1 110), .ref (G.1 k1), .ref (G.1 k2), .int p3] : List Value).toArray s 0 0 (xA G)) (F0 m 211 ls []) := by
    intro τ H locs ls h hP hS hl
    unfold fX1_perform_J211 at h
    refine lv_aload_n hx hb dX1_perform_211 rfl (lv_at hl 0 rfl) ?_
    refine va_get (D := D) (ci := 1) (v := .ref (G.1 41)) (C := RX1) (T := TX1) (N := 8) hx hb hts iwX1 hown hK hP 110 (xg_12 rfl) rfl 5 (by decide) (hts _ mw_158) (fun _ h9 => h9) rfl dX1_perform_212 ?_
    refine lv_aload_n hx hb dX1_perform_215 rfl (lv_at hl 2 rfl) ?_
    refine lv_aload_n hx hb dX1_perform_216 rfl (lv_at hl 0 rfl) ?_
    refine va_get (D := D) (ci := 1) (v := .ref (G.1 36)) (C := RX1) (T := TX1) (N := 8) hx hb hts iwX1 hown hK hP 110 (xg_12 rfl) rfl 0 (by decide) (hts _ mw_150) (fun _ h9 => h9) rfl dX1_perform_217 ?_
    refine lv_iload_n hx hb dX1_perform_220 rfl (lv_at hl 3 rfl) ?_
    obtain ⟨xq5, hfq6, h⟩ := obd h
    refine va_callv (va_runV (As := [.ref (G.1 k2), .ref (G.1 36), .int p3]) (rest := []) ⟨hx, hb, hml, hown, hts⟩ (kX6_becomeMade l D G ub _ 41 rfl k2 hk2 36 rfl p3 xq5 hfq6) (cwV 3 hts (lwW_gV mw_622 mw_579 mw_580 mw_3 mw_581) rfl rfl rfl (by decide +kernel) ⟨Nat.le_of_ble_eq_true rfl, Nat.le_of_ble_eq_true rfl⟩) ⟨fun a U g mk q => ⟨q.1, xPre_call q.2⟩, va_recv hK hP rfl (xg_0 rfl), fun U hU hW => ⟨rfl, xPre_at h0 hS hP hU hW⟩⟩ rfl rfl hl.1 rfl (lv_room (Nat.le_of_ble_eq_true rfl)) dX1_perform_221 ⟨Nat.zero_le _, Nat.zero_le _⟩) hS (fun q _ h => h) (fun q h => h) (fun u t H1 locs ht hvm hw hB hz1 hq1 hS => ?_)
    obtain rfl := hw.symm
    have hP := hB.1
    rw [ht] at hP
    refine W.widen (k := 0) (n := 0) (Nat.le_refl _) (Nat.le_refl _) ?_
    refine lv_aload_n hx hb dX1_perform_224 rfl (lv_at hl 0 rfl) ?_
    refine va_get (D := D) (ci := 1) (v := .ref (G.1 37)) (C := RX1) (T := TX1) (N := 8) hx hb hts iwX1 hown hK hP 110 (xg_12 rfl) rfl 1 (by decide) (hts _ mw_153) (fun _ h9 => h9) rfl dX1_perform_225 ?_
    refine lv_aload_n hx hb dX1_perform_228 rfl (lv_at hl 1 rfl) ?_
    refine lv_aload_n hx hb dX1_perform_229 rfl (lv_at hl 0 rfl) ?_
    refine va_get (D := D) (ci := 1) (v := .ref (G.1 41)) (C := RX1) (T := TX1) (N := 8) hx hb hts iwX1 hown hK hP 110 (xg_12 rfl) rfl 5 (by decide) (hts _ mw_158) (fun _ h9 => h9) rfl dX1_perform_230 ?_
    obtain ⟨xq7, hfq8, h⟩ := obd h
    refine va_callv (va_runV (As := [.ref (G.1 k1), .ref (G.1 41)]) (rest := []) ⟨hx, hb, hml, hown, hts⟩ (kX6_becomeDifference l D G ub _ 37 rfl k1 hk1 41 rfl xq7 hfq8) (cwV 2 hts (lwW_gV mw_647 mw_648 mw_649 mw_3 mw_650) rfl rfl rfl (by decide +kernel) ⟨Nat.le_of_ble_eq_true rfl, Nat.le_of_ble_eq_true rfl⟩) ⟨fun a U g mk q => ⟨q.1, xPre_call q.2⟩, va_recv hK hP rfl (xg_0 rfl), fun U hU hW => ⟨rfl, xPre_at h0 hS hP hU hW⟩⟩ rfl rfl hl.1 rfl (lv_room (Nat.le_of_ble_eq_true rfl)) dX1_perform_233 ⟨Nat.zero_le _, Nat.zero_le _⟩) hS (fun q _ h => h) (fun q h => h) (fun u t H1 locs ht hvm hw hB hz1 hq1 hS => ?_)
    obtain rfl := hw.symm
    have hP := hB.1
    rw [ht] at hP
    refine W.widen (k := 0) (n := 0) (Nat.le_refl _) (Nat.le_refl _) ?_
    obtain rfl := Option.some.inj h
    exact W.vret hx hb hr (fun t ht hW => ⟨⟨_, rfl, rfl, xPre_at h0 hS hP ht hW⟩, hS.F ht⟩) hS.2.2 dX1_perform_236
  have J200 : ∀ (τ : QMem) (H : Heap) (locs : List Loc) (ls : Array Slot), fX1_perform_J200 k1 k2 p3 τ = some res → va_P D vwCl (xW G τ) H → va_S (xA G) s.heap H locs → lv_has ls 6 [(0, .ref (G.1 110)), (1, .ref (G.1 k1)), (2, .ref (G.1 k2)), (3, .int p3)] → W p l e (headSpec (.code yX1_perform cX1_perform 6 none :: lwW) (rmD 2)).room s m ([.ref (G.1 110), .ref (G.1 k1), .ref (G.1 k2), .int p3] : List Value).toArray below meth c H locs 0 0 (MQ below (xQv D G ub res) ([.ref (G.1 110), .ref (G.1 k1), .ref (G.1 k2), .int p3] : List Value).toArray s 0 0 (xA G)) (F0 m 200 ls []) := by
    intro τ H locs ls h hP hS hl
    unfold fX1_perform_J200 at h
    refine lv_aload_n hx hb dX1_perform_200 rfl (lv_at hl 0 rfl) ?_
    refine va_get (D := D) (ci := 1) (v := .ref (G.1 36)) (C := RX1) (T := TX1) (N := 8) hx hb hts iwX1 hown hK hP 110 (xg_12 rfl) rfl 0 (by decide) (hts _ mw_150) (fun _ h9 => h9) rfl dX1_perform_201 ?_
    refine lv_aload_n hx hb dX1_perform_204 rfl (lv_at hl 0 rfl) ?_
    refine va_get (D := D) (ci := 1) (v := .ref (G.1 40)) (C := RX1) (T := TX1) (N := 8) hx hb hts iwX1 hown hK hP 110 (xg_12 rfl) rfl 4 (by decide) (hts _ mw_157) (fun _ h9 => h9) rfl dX1_perform_205 ?_
    obtain ⟨xq11, hfq12, h⟩ := obd h
    refine va_callv (va_runV (As := [.ref (G.1 40)]) (rest := []) ⟨hx, hb, hml, hown, hts⟩ (kX6_copyFrom l D G ub _ 36 rfl 40 rfl xq11 hfq12) (cwV 1 hts (lwW_gV mw_646 mw_481 mw_482 mw_3 mw_483) rfl rfl rfl (by decide +kernel) ⟨Nat.le_of_ble_eq_true rfl, Nat.le_of_ble_eq_true rfl⟩) ⟨fun a U g mk q => ⟨q.1, xPre_call q.2⟩, va_recv hK hP rfl (xg_0 rfl), fun U hU hW => ⟨rfl, xPre_at h0 hS hP hU hW⟩⟩ rfl rfl hl.1 rfl (lv_room (Nat.le_of_ble_eq_true rfl)) dX1_perform_208 ⟨Nat.zero_le _, Nat.zero_le _⟩) hS (fun q _ h => h) (fun q h => h) (fun u t H1 locs ht hvm hw hB hz1 hq1 hS => ?_)
    obtain rfl := hw.symm
    have hP := hB.1
    rw [ht] at hP
    refine W.widen (k := 0) (n := 0) (Nat.le_refl _) (Nat.le_refl _) ?_
    exact J211 _ _ _ _ h hP hS (lv_sub hl [0, 1, 2, 3] rfl)
  refine lv_aload_n hx hb dX1_perform_0 rfl (lv_at hl 0 rfl) ?_
  refine va_get (D := D) (ci := 1) (v := .ref (G.1 36)) (C := RX1) (T := TX1) (N := 8) hx hb hts iwX1 hown hK hP 110 (xg_12 rfl) rfl 0 (by decide) (hts _ mw_150) (fun _ h9 => h9) rfl dX1_perform_1 ?_
  refine lv_iconst (v := 0) hx hb dX1_perform_4 (by decide) ?_
  refine lv_iconst (v := 0) hx hb dX1_perform_5 (by decide) ?_
  refine lv_iconst (v := 0) hx hb dX1_perform_6 (by decide) ?_
  refine lv_iconst (v := 0) hx hb dX1_perform_7 (by decide) ?_
  obtain ⟨xq13, hfq14, h⟩ := obd h
  refine va_callv (va_runV (As := [.int 0, .int 0, .int 0, .int 0]) (rest := []) ⟨hx, hb, hml, hown, hts⟩ (kX6_put l D G ub _ 36 rfl 0 0 0 0 xq13 hfq14) (cwV 4 hts (lwW_gV mw_631 mw_467 mw_468 mw_3 mw_469) rfl rfl rfl (by decide +kernel) ⟨Nat.le_of_ble_eq_true rfl, Nat.le_of_ble_eq_true rfl⟩) ⟨fun a U g mk q => ⟨q.1, xPre_call q.2⟩, va_recv hK hP rfl (xg_0 rfl), fun U hU hW => ⟨rfl, xPre_at h0 hS hP hU hW⟩⟩ rfl rfl hl.1 rfl (lv_room (Nat.le_of_ble_eq_true rfl)) dX1_perform_8 ⟨Nat.zero_le _, Nat.zero_le _⟩) hS (fun q _ h => h) (fun q h => h) (fun u t H1 locs ht hvm hw hB hz1 hq1 hS => ?_)
  obtain rfl := hw.symm
  have hP := hB.1
  rw [ht] at hP
  refine W.widen (k := 0) (n := 0) (Nat.le_refl _) (Nat.le_refl _) ?_
  refine lv_aload_n hx hb dX1_perform_11 rfl (lv_at hl 2 rfl) ?_
  obtain ⟨xq15, hfq16, h⟩ := obd h
  refine va_calli (va_runV (As := []) (rest := []) ⟨hx, hb, hml, hown, hts⟩ (kX6_norm l D G ub _ k2 hk2 xq15 hfq16) (cwV 0 hts (lwW_gV mw_616 mw_516 mw_517 mw_3 mw_518) rfl rfl rfl (by decide +kernel) ⟨Nat.le_of_ble_eq_true rfl, Nat.le_of_ble_eq_true rfl⟩) ⟨fun a U g mk q => ⟨q.1, xPre_call q.2⟩, va_recv hK hP rfl (xg_0 hk2), fun U hU hW => ⟨rfl, xPre_at h0 hS hP hU hW⟩⟩ rfl rfl hl.1 rfl (lv_room (Nat.le_of_ble_eq_true rfl)) dX1_perform_12 ⟨Nat.zero_le _, Nat.zero_le _⟩) hS (fun q _ h => h) (fun q h => h) (fun r u t H1 locs ht hvm hw hB hz1 hq1 hS => ?_)
  obtain ⟨rfl, rfl⟩ := hw
  have hP := hB.1
  rw [ht] at hP
  refine W.widen (k := 0) (n := 0) (Nat.le_refl _) (Nat.le_refl _) ?_
  refine lv_istore (lv' := [(4, .int xq15.1), (0, .ref (G.1 110)), (1, .ref (G.1 k1)), (2, .ref (G.1 k2)), (3, .int p3)]) hx hb dX1_perform_15 hl (by decide) rfl (fun ls hl => ?_)
  refine lv_iload hx hb dX1_perform_17 (lv_at hl 0 rfl) ?_
  refine lv_if_le (tgt := 211) hx hb dX1_perform_19 (by decide) (fun hcq17 => ?_) (fun hcq17 => ?_)
  · have h := ifp hcq17 h
    exact J211 _ _ _ _ h hP hS (lv_sub hl [1, 2, 3, 4] rfl)
  have h := ifn hcq17 h
  refine lv_aload_n hx hb dX1_perform_22 rfl (lv_at hl 1 rfl) ?_
  refine va_get (D := D) (ci := 1) (v := .ref (G.1 38)) (C := RX1) (T := TX1) (N := 8) hx hb hts iwX1 hown hK hP 110 (xg_12 rfl) rfl 2 (by decide) (hts _ mw_155) (fun _ h9 => h9) rfl dX1_perform_23 ?_
  refine lv_aload_n hx hb dX1_perform_26 rfl (lv_at hl 3 rfl) ?_
  obtain ⟨xq18, hfq19, h⟩ := obd h
  refine va_callv (va_runV (As := [.ref (G.1 k2)]) (rest := []) ⟨hx, hb, hml, hown, hts⟩ (kX6_becomeConjugate l D G ub _ 38 rfl k2 hk2 xq18 hfq19) (cwV 1 hts (lwW_gV mw_618 mw_619 mw_620 mw_3 mw_621) rfl rfl rfl (by decide +kernel) ⟨Nat.le_of_ble_eq_true rfl, Nat.le_of_ble_eq_true rfl⟩) ⟨fun a U g mk q => ⟨q.1, xPre_call q.2⟩, va_recv hK hP rfl (xg_0 rfl), fun U hU hW => ⟨rfl, xPre_at h0 hS hP hU hW⟩⟩ rfl rfl hl.1 rfl (lv_room (Nat.le_of_ble_eq_true rfl)) dX1_perform_27 ⟨Nat.zero_le _, Nat.zero_le _⟩) hS (fun q _ h => h) (fun q h => h) (fun u t H1 locs ht hvm hw hB hz1 hq1 hS => ?_)
  obtain rfl := hw.symm
  have hP := hB.1
  rw [ht] at hP
  refine W.widen (k := 0) (n := 0) (Nat.le_refl _) (Nat.le_refl _) ?_
  refine lv_aload_n hx hb dX1_perform_30 rfl (lv_at hl 1 rfl) ?_
  refine va_get (D := D) (ci := 1) (v := .ref (G.1 39)) (C := RX1) (T := TX1) (N := 8) hx hb hts iwX1 hown hK hP 110 (xg_12 rfl) rfl 3 (by decide) (hts _ mw_156) (fun _ h9 => h9) rfl dX1_perform_31 ?_
  refine lv_aload_n hx hb dX1_perform_34 rfl (lv_at hl 1 rfl) ?_
  refine va_get (D := D) (ci := 1) (v := .ref (G.1 38)) (C := RX1) (T := TX1) (N := 8) hx hb hts iwX1 hown hK hP 110 (xg_12 rfl) rfl 2 (by decide) (hts _ mw_155) (fun _ h9 => h9) rfl dX1_perform_35 ?_
  refine lv_aload_n hx hb dX1_perform_38 rfl (lv_at hl 2 rfl) ?_
  refine lv_iload_n hx hb dX1_perform_39 rfl (lv_at hl 4 rfl) ?_
  obtain ⟨xq20, hfq21, h⟩ := obd h
  refine va_callv (va_runV (As := [.ref (G.1 38), .ref (G.1 k1), .int p3]) (rest := []) ⟨hx, hb, hml, hown, hts⟩ (kX6_becomeMade l D G ub _ 39 rfl 38 rfl k1 hk1 p3 xq20 hfq21) (cwV 3 hts (lwW_gV mw_622 mw_579 mw_580 mw_3 mw_581) rfl rfl rfl (by decide +kernel) ⟨Nat.le_of_ble_eq_true rfl, Nat.le_of_ble_eq_true rfl⟩) ⟨fun a U g mk q => ⟨q.1, xPre_call q.2⟩, va_recv hK hP rfl (xg_0 rfl), fun U hU hW => ⟨rfl, xPre_at h0 hS hP hU hW⟩⟩ rfl rfl hl.1 rfl (lv_room (Nat.le_of_ble_eq_true rfl)) dX1_perform_40 ⟨Nat.zero_le _, Nat.zero_le _⟩) hS (fun q _ h => h) (fun q h => h) (fun u t H1 locs ht hvm hw hB hz1 hq1 hS => ?_)
  obtain rfl := hw.symm
  have hP := hB.1
  rw [ht] at hP
  refine W.widen (k := 0) (n := 0) (Nat.le_refl _) (Nat.le_refl _) ?_
  refine lv_aload_n hx hb dX1_perform_43 rfl (lv_at hl 1 rfl) ?_
  refine va_get (D := D) (ci := 1) (v := .ref (G.1 36)) (C := RX1) (T := TX1) (N := 8) hx hb hts iwX1 hown hK hP 110 (xg_12 rfl) rfl 0 (by decide) (hts _ mw_150) (fun _ h9 => h9) rfl dX1_perform_44 ?_
  refine lv_aload_n hx hb dX1_perform_47 rfl (lv_at hl 1 rfl) ?_
  refine va_get (D := D) (ci := 1) (v := .ref (G.1 39)) (C := RX1) (T := TX1) (N := 8) hx hb hts iwX1 hown hK hP 110 (xg_12 rfl) rfl 3 (by decide) (hts _ mw_156) (fun _ h9 => h9) rfl dX1_perform_48 ?_
  refine va_getN (D := D) (ci := 6) (v := .int (xq20 39 0)) (C := RX6) (T := TX6) (N := 4) hx hb hts iwX6 hown hK hP 39 (xg_0 rfl) rfl 0 (by decide) (va_Nw.use rfl (hN.F 0 rfl)) (fun _ h9 => h9) rfl dX1_perform_51 ?_
  refine lv_iload hx hb dX1_perform_54 (lv_at hl 0 rfl) ?_
  obtain ⟨xq22, hfq23, h⟩ := obd h
  refine va_calli (va_runS (As := [.int (xq20 39 0), .int xq15.1]) (rest := [.ref (G.1 36)]) ⟨hx, hb, hml, hown, hts⟩ (kX1_nearEven l (xq20 39 0) xq15.1 xq22 hfq23) (va_cwS 2 hts (lwW_gS mw_632 mw_633 mw_8 mw_634) rfl rfl rfl (by decide +kernel) ⟨Nat.le_of_ble_eq_true rfl, Nat.le_of_ble_eq_true rfl⟩) ⟨fun a U g mk q => ⟨q.1, trivial⟩, fun U hU hW => ⟨rfl, trivial⟩⟩ rfl rfl hl.1 rfl (lv_room (Nat.le_of_ble_eq_true rfl)) dX1_perform_56 ⟨Nat.zero_le _, Nat.zero_le _⟩) hS (fun q _ h => h.elim) (fun q h => h.elim) (fun r u t H1 locs ht hvm hw hB hz1 hq1 hS => ?_)
  obtain rfl := hw.symm
  have hP := xP_kept hP hq1
  refine W.widen (k := 0) (n := 0) (Nat.le_refl _) (Nat.le_refl _) ?_
  refine lv_aload_n hx hb dX1_perform_59 rfl (lv_at hl 1 rfl) ?_
  refine va_get (D := D) (ci := 1) (v := .ref (G.1 39)) (C := RX1) (T := TX1) (N := 8) hx hb hts iwX1 hown hK hP 110 (xg_12 rfl) rfl 3 (by decide) (hts _ mw_156) (fun _ h9 => h9) rfl dX1_perform_60 ?_
  refine va_getN (D := D) (ci := 6) (v := .int (xq20 39 1)) (C := RX6) (T := TX6) (N := 4) hx hb hts iwX6 hown hK hP 39 (xg_0 rfl) rfl 1 (by decide) (va_Nw.use rfl (hN.F 2 rfl)) (fun _ h9 => h9) rfl dX1_perform_63 ?_
  refine lv_iload hx hb dX1_perform_66 (lv_at hl 0 rfl) ?_
  obtain ⟨xq24, hfq25, h⟩ := obd h
  refine va_calli (va_runS (As := [.int (xq20 39 1), .int xq15.1]) (rest := [.int xq22, .ref (G.1 36)]) ⟨hx, hb, hml, hown, hts⟩ (kX1_nearEven l (xq20 39 1) xq15.1 xq24 hfq25) (va_cwS 2 hts (lwW_gS mw_632 mw_633 mw_8 mw_634) rfl rfl rfl (by decide +kernel) ⟨Nat.le_of_ble_eq_true rfl, Nat.le_of_ble_eq_true rfl⟩) ⟨fun a U g mk q => ⟨q.1, trivial⟩, fun U hU hW => ⟨rfl, trivial⟩⟩ rfl rfl hl.1 rfl (lv_room (Nat.le_of_ble_eq_true rfl)) dX1_perform_68 ⟨Nat.zero_le _, Nat.zero_le _⟩) hS (fun q _ h => h.elim) (fun q h => h.elim) (fun r u t H1 locs ht hvm hw hB hz1 hq1 hS => ?_)
  obtain rfl := hw.symm
  have hP := xP_kept hP hq1
  refine W.widen (k := 0) (n := 0) (Nat.le_refl _) (Nat.le_refl _) ?_
  refine lv_aload_n hx hb dX1_perform_71 rfl (lv_at hl 1 rfl) ?_
  refine va_get (D := D) (ci := 1) (v := .ref (G.1 39)) (C := RX1) (T := TX1) (N := 8) hx hb hts iwX1 hown hK hP 110 (xg_12 rfl) rfl 3 (by decide) (hts _ mw_156) (fun _ h9 => h9) rfl dX1_perform_72 ?_
  refine va_getN (D := D) (ci := 6) (v := .int (xq20 39 2)) (C := RX6) (T := TX6) (N := 4) hx hb hts iwX6 hown hK hP 39 (xg_0 rfl) rfl 2 (by decide) (va_Nw.use rfl (hN.F 4 rfl)) (fun _ h9 => h9) rfl dX1_perform_75 ?_
  refine lv_iload hx hb dX1_perform_78 (lv_at hl 0 rfl) ?_
  obtain ⟨xq26, hfq27, h⟩ := obd h
  refine va_calli (va_runS (As := [.int (xq20 39 2), .int xq15.1]) (rest := [.int xq24, .int xq22, .ref (G.1 36)]) ⟨hx, hb, hml, hown, hts⟩ (kX1_nearEven l (xq20 39 2) xq15.1 xq26 hfq27) (va_cwS 2 hts (lwW_gS mw_632 mw_633 mw_8 mw_634) rfl rfl rfl (by decide +kernel) ⟨Nat.le_of_ble_eq_true rfl, Nat.le_of_ble_eq_true rfl⟩) ⟨fun a U g mk q => ⟨q.1, trivial⟩, fun U hU hW => ⟨rfl, trivial⟩⟩ rfl rfl hl.1 rfl (lv_room (Nat.le_of_ble_eq_true rfl)) dX1_perform_80 ⟨Nat.zero_le _, Nat.zero_le _⟩) hS (fun q _ h => h.elim) (fun q h => h.elim) (fun r u t H1 locs ht hvm hw hB hz1 hq1 hS => ?_)
  obtain rfl := hw.symm
  have hP := xP_kept hP hq1
  refine W.widen (k := 0) (n := 0) (Nat.le_refl _) (Nat.le_refl _) ?_
  refine lv_aload_n hx hb dX1_perform_83 rfl (lv_at hl 1 rfl) ?_
  refine va_get (D := D) (ci := 1) (v := .ref (G.1 39)) (C := RX1) (T := TX1) (N := 8) hx hb hts iwX1 hown hK hP 110 (xg_12 rfl) rfl 3 (by decide) (hts _ mw_156) (fun _ h9 => h9) rfl dX1_perform_84 ?_
  refine va_getN (D := D) (ci := 6) (v := .int (xq20 39 3)) (C := RX6) (T := TX6) (N := 4) hx hb hts iwX6 hown hK hP 39 (xg_0 rfl) rfl 3 (by decide) (va_Nw.use rfl (hN.F 6 rfl)) (fun _ h9 => h9) rfl dX1_perform_87 ?_
  refine lv_iload hx hb dX1_perform_90 (lv_at hl 0 rfl) ?_
  obtain ⟨xq28, hfq29, h⟩ := obd h
  refine va_calli (va_runS (As := [.int (xq20 39 3), .int xq15.1]) (rest := [.int xq26, .int xq24, .int xq22, .ref (G.1 36)]) ⟨hx, hb, hml, hown, hts⟩ (kX1_nearEven l (xq20 39 3) xq15.1 xq28 hfq29) (va_cwS 2 hts (lwW_gS mw_632 mw_633 mw_8 mw_634) rfl rfl rfl (by decide +kernel) ⟨Nat.le_of_ble_eq_true rfl, Nat.le_of_ble_eq_true rfl⟩) ⟨fun a U g mk q => ⟨q.1, trivial⟩, fun U hU hW => ⟨rfl, trivial⟩⟩ rfl rfl hl.1 rfl (lv_room (Nat.le_of_ble_eq_true rfl)) dX1_perform_92 ⟨Nat.zero_le _, Nat.zero_le _⟩) hS (fun q _ h => h.elim) (fun q h => h.elim) (fun r u t H1 locs ht hvm hw hB hz1 hq1 hS => ?_)
  obtain rfl := hw.symm
  have hP := xP_kept hP hq1
  refine W.widen (k := 0) (n := 0) (Nat.le_refl _) (Nat.le_refl _) ?_
  obtain ⟨xq30, hfq31, h⟩ := obd h
  refine va_callv (va_runV (As := [.int xq22, .int xq24, .int xq26, .int xq28]) (rest := []) ⟨hx, hb, hml, hown, hts⟩ (kX6_put l D G ub _ 36 rfl xq22 xq24 xq26 xq28 xq30 hfq31) (cwV 4 hts (lwW_gV mw_631 mw_467 mw_468 mw_3 mw_469) rfl rfl rfl (by decide +kernel) ⟨Nat.le_of_ble_eq_true rfl, Nat.le_of_ble_eq_true rfl⟩) ⟨fun a U g mk q => ⟨q.1, xPre_call q.2⟩, va_recv hK hP rfl (xg_0 rfl), fun U hU hW => ⟨rfl, xPre_at h0 hS hP hU hW⟩⟩ rfl rfl hl.1 rfl (lv_room (Nat.le_of_ble_eq_true rfl)) dX1_perform_95 ⟨Nat.zero_le _, Nat.zero_le _⟩) hS (fun q _ h => h) (fun q h => h) (fun u t H1 locs ht hvm hw hB hz1 hq1 hS => ?_)
  obtain rfl := hw.symm
  have hP := hB.1
  rw [ht] at hP
  refine W.widen (k := 0) (n := 0) (Nat.le_refl _) (Nat.le_refl _) ?_
  refine lv_aload_n hx hb dX1_perform_98 rfl (lv_at hl 1 rfl) ?_
  refine va_get (D := D) (ci := 1) (v := .ref (G.1 40)) (C := RX1) (T := TX1) (N := 8) hx hb hts iwX1 hown hK hP 110 (xg_12 rfl) rfl 4 (by decide) (hts _ mw_157) (fun _ h9 => h9) rfl dX1_perform_99 ?_
  refine lv_aload_n hx hb dX1_perform_102 rfl (lv_at hl 1 rfl) ?_
  refine va_get (D := D) (ci := 1) (v := .ref (G.1 39)) (C := RX1) (T := TX1) (N := 8) hx hb hts iwX1 hown hK hP 110 (xg_12 rfl) rfl 3 (by decide) (hts _ mw_156) (fun _ h9 => h9) rfl dX1_perform_103 ?_
  refine va_getN (D := D) (ci := 6) (v := .int (xq30 39 0)) (C := RX6) (T := TX6) (N := 4) hx hb hts iwX6 hown hK hP 39 (xg_0 rfl) rfl 0 (by decide) (va_Nw.use rfl (hN.F 0 rfl)) (fun _ h9 => h9) rfl dX1_perform_106 ?_
  refine lv_iload hx hb dX1_perform_109 (lv_at hl 0 rfl) ?_
  obtain ⟨xq32, hfq33, h⟩ := obd h
  refine va_calli (va_runS (As := [.int (xq30 39 0), .int xq15.1]) (rest := [.ref (G.1 40)]) ⟨hx, hb, hml, hown, hts⟩ (kX1_nearOdd l (xq30 39 0) xq15.1 xq32 hfq33) (va_cwS 2 hts (lwW_gS mw_638 mw_639 mw_8 mw_640) rfl rfl rfl (by decide +kernel) ⟨Nat.le_of_ble_eq_true rfl, Nat.le_of_ble_eq_true rfl⟩) ⟨fun a U g mk q => ⟨q.1, trivial⟩, fun U hU hW => ⟨rfl, trivial⟩⟩ rfl rfl hl.1 rfl (lv_room (Nat.le_of_ble_eq_true rfl)) dX1_perform_111 ⟨Nat.zero_le _, Nat.zero_le _⟩) hS (fun q _ h => h.elim) (fun q h => h.elim) (fun r u t H1 locs ht hvm hw hB hz1 hq1 hS => ?_)
  obtain rfl := hw.symm
  have hP := xP_kept hP hq1
  refine W.widen (k := 0) (n := 0) (Nat.le_refl _) (Nat.le_refl _) ?_
  refine lv_aload_n hx hb dX1_perform_114 rfl (lv_at hl 1 rfl) ?_
  refine va_get (D := D) (ci := 1) (v := .ref (G.1 39)) (C := RX1) (T := TX1) (N := 8) hx hb hts iwX1 hown hK hP 110 (xg_12 rfl) rfl 3 (by decide) (hts _ mw_156) (fun _ h9 => h9) rfl dX1_perform_115 ?_
  refine va_getN (D := D) (ci := 6) (v := .int (xq30 39 1)) (C := RX6) (T := TX6) (N := 4) hx hb hts iwX6 hown hK hP 39 (xg_0 rfl) rfl 1 (by decide) (va_Nw.use rfl (hN.F 2 rfl)) (fun _ h9 => h9) rfl dX1_perform_118 ?_
  refine lv_iload hx hb dX1_perform_121 (lv_at hl 0 rfl) ?_
  obtain ⟨xq34, hfq35, h⟩ := obd h
  refine va_calli (va_runS (As := [.int (xq30 39 1), .int xq15.1]) (rest := [.int xq32, .ref (G.1 40)]) ⟨hx, hb, hml, hown, hts⟩ (kX1_nearOdd l (xq30 39 1) xq15.1 xq34 hfq35) (va_cwS 2 hts (lwW_gS mw_638 mw_639 mw_8 mw_640) rfl rfl rfl (by decide +kernel) ⟨Nat.le_of_ble_eq_true rfl, Nat.le_of_ble_eq_true rfl⟩) ⟨fun a U g mk q => ⟨q.1, trivial⟩, fun U hU hW => ⟨rfl, trivial⟩⟩ rfl rfl hl.1 rfl (lv_room (Nat.le_of_ble_eq_true rfl)) dX1_perform_123 ⟨Nat.zero_le _, Nat.zero_le _⟩) hS (fun q _ h => h.elim) (fun q h => h.elim) (fun r u t H1 locs ht hvm hw hB hz1 hq1 hS => ?_)
  obtain rfl := hw.symm
  have hP := xP_kept hP hq1
  refine W.widen (k := 0) (n := 0) (Nat.le_refl _) (Nat.le_refl _) ?_
  refine lv_aload_n hx hb dX1_perform_126 rfl (lv_at hl 1 rfl) ?_
  refine va_get (D := D) (ci := 1) (v := .ref (G.1 39)) (C := RX1) (T := TX1) (N := 8) hx hb hts iwX1 hown hK hP 110 (xg_12 rfl) rfl 3 (by decide) (hts _ mw_156) (fun _ h9 => h9) rfl dX1_perform_127 ?_
  refine va_getN (D := D) (ci := 6) (v := .int (xq30 39 2)) (C := RX6) (T := TX6) (N := 4) hx hb hts iwX6 hown hK hP 39 (xg_0 rfl) rfl 2 (by decide) (va_Nw.use rfl (hN.F 4 rfl)) (fun _ h9 => h9) rfl dX1_perform_130 ?_
  refine lv_iload hx hb dX1_perform_133 (lv_at hl 0 rfl) ?_
  obtain ⟨xq36, hfq37, h⟩ := obd h
  refine va_calli (va_runS (As := [.int (xq30 39 2), .int xq15.1]) (rest := [.int xq34, .int xq32, .ref (G.1 40)]) ⟨hx, hb, hml, hown, hts⟩ (kX1_nearOdd l (xq30 39 2) xq15.1 xq36 hfq37) (va_cwS 2 hts (lwW_gS mw_638 mw_639 mw_8 mw_640) rfl rfl rfl (by decide +kernel) ⟨Nat.le_of_ble_eq_true rfl, Nat.le_of_ble_eq_true rfl⟩) ⟨fun a U g mk q => ⟨q.1, trivial⟩, fun U hU hW => ⟨rfl, trivial⟩⟩ rfl rfl hl.1 rfl (lv_room (Nat.le_of_ble_eq_true rfl)) dX1_perform_135 ⟨Nat.zero_le _, Nat.zero_le _⟩) hS (fun q _ h => h.elim) (fun q h => h.elim) (fun r u t H1 locs ht hvm hw hB hz1 hq1 hS => ?_)
  obtain rfl := hw.symm
  have hP := xP_kept hP hq1
  refine W.widen (k := 0) (n := 0) (Nat.le_refl _) (Nat.le_refl _) ?_
  refine lv_aload_n hx hb dX1_perform_138 rfl (lv_at hl 1 rfl) ?_
  refine va_get (D := D) (ci := 1) (v := .ref (G.1 39)) (C := RX1) (T := TX1) (N := 8) hx hb hts iwX1 hown hK hP 110 (xg_12 rfl) rfl 3 (by decide) (hts _ mw_156) (fun _ h9 => h9) rfl dX1_perform_139 ?_
  refine va_getN (D := D) (ci := 6) (v := .int (xq30 39 3)) (C := RX6) (T := TX6) (N := 4) hx hb hts iwX6 hown hK hP 39 (xg_0 rfl) rfl 3 (by decide) (va_Nw.use rfl (hN.F 6 rfl)) (fun _ h9 => h9) rfl dX1_perform_142 ?_
  refine lv_iload hx hb dX1_perform_145 (lv_at hl 0 rfl) ?_
  obtain ⟨xq38, hfq39, h⟩ := obd h
  refine va_calli (va_runS (As := [.int (xq30 39 3), .int xq15.1]) (rest := [.int xq36, .int xq34, .int xq32, .ref (G.1 40)]) ⟨hx, hb, hml, hown, hts⟩ (kX1_nearOdd l (xq30 39 3) xq15.1 xq38 hfq39) (va_cwS 2 hts (lwW_gS mw_638 mw_639 mw_8 mw_640) rfl rfl rfl (by decide +kernel) ⟨Nat.le_of_ble_eq_true rfl, Nat.le_of_ble_eq_true rfl⟩) ⟨fun a U g mk q => ⟨q.1, trivial⟩, fun U hU hW => ⟨rfl, trivial⟩⟩ rfl rfl hl.1 rfl (lv_room (Nat.le_of_ble_eq_true rfl)) dX1_perform_147 ⟨Nat.zero_le _, Nat.zero_le _⟩) hS (fun q _ h => h.elim) (fun q h => h.elim) (fun r u t H1 locs ht hvm hw hB hz1 hq1 hS => ?_)
  obtain rfl := hw.symm
  have hP := xP_kept hP hq1
  refine W.widen (k := 0) (n := 0) (Nat.le_refl _) (Nat.le_refl _) ?_
  obtain ⟨xq40, hfq41, h⟩ := obd h
  refine va_callv (va_runV (As := [.int xq32, .int xq34, .int xq36, .int xq38]) (rest := []) ⟨hx, hb, hml, hown, hts⟩ (kX6_put l D G ub _ 40 rfl xq32 xq34 xq36 xq38 xq40 hfq41) (cwV 4 hts (lwW_gV mw_631 mw_467 mw_468 mw_3 mw_469) rfl rfl rfl (by decide +kernel) ⟨Nat.le_of_ble_eq_true rfl, Nat.le_of_ble_eq_true rfl⟩) ⟨fun a U g mk q => ⟨q.1, xPre_call q.2⟩, va_recv hK hP rfl (xg_0 rfl), fun U hU hW => ⟨rfl, xPre_at h0 hS hP hU hW⟩⟩ rfl rfl hl.1 rfl (lv_room (Nat.le_of_ble_eq_true rfl)) dX1_perform_150 ⟨Nat.zero_le _, Nat.zero_le _⟩) hS (fun q _ h => h) (fun q h => h) (fun u t H1 locs ht hvm hw hB hz1 hq1 hS => ?_)
  obtain rfl := hw.symm
  have hP := hB.1
  rw [ht] at hP
  refine W.widen (k := 0) (n := 0) (Nat.le_refl _) (Nat.le_refl _) ?_
  refine lv_aload_n hx hb dX1_perform_153 rfl (lv_at hl 1 rfl) ?_
  refine lv_aload_n hx hb dX1_perform_154 rfl (lv_at hl 1 rfl) ?_
  refine va_get (D := D) (ci := 1) (v := .ref (G.1 36)) (C := RX1) (T := TX1) (N := 8) hx hb hts iwX1 hown hK hP 110 (xg_12 rfl) rfl 0 (by decide) (hts _ mw_150) (fun _ h9 => h9) rfl dX1_perform_155 ?_
  refine lv_iload hx hb dX1_perform_158 (lv_at hl 0 rfl) ?_
  obtain ⟨xq42, hfq43, h⟩ := obd h
  refine va_calli (va_runV (As := [.ref (G.1 36), .int xq15.1]) (rest := []) ⟨hx, hb, hml, hown, hts⟩ (kX1_distance l D G ub _ 36 rfl xq15.1 xq42 hfq43) (cwV 2 hts (lwW_gV mw_641 mw_643 ms_16 mw_8 mw_644) rfl rfl rfl (by decide +kernel) ⟨Nat.le_of_ble_eq_true rfl, Nat.le_of_ble_eq_true rfl⟩) ⟨fun a U g mk q => ⟨q.1, xPre_call q.2⟩, va_recv hK hP rfl (xg_12 rfl), fun U hU hW => ⟨rfl, xPre_at h0 hS hP hU hW⟩⟩ rfl rfl hl.1 rfl (lv_room (Nat.le_of_ble_eq_true rfl)) dX1_perform_160 ⟨Nat.zero_le _, Nat.zero_le _⟩) hS (fun q _ h => h) (fun q h => h) (fun r u t H1 locs ht hvm hw hB hz1 hq1 hS => ?_)
  obtain ⟨rfl, rfl⟩ := hw
  have hP := hB.1
  rw [ht] at hP
  refine W.widen (k := 0) (n := 0) (Nat.le_refl _) (Nat.le_refl _) ?_
  refine lv_aload_n hx hb dX1_perform_163 rfl (lv_at hl 1 rfl) ?_
  refine lv_aload_n hx hb dX1_perform_164 rfl (lv_at hl 1 rfl) ?_
  refine va_get (D := D) (ci := 1) (v := .ref (G.1 40)) (C := RX1) (T := TX1) (N := 8) hx hb hts iwX1 hown hK hP 110 (xg_12 rfl) rfl 4 (by decide) (hts _ mw_157) (fun _ h9 => h9) rfl dX1_perform_165 ?_
  refine lv_iload hx hb dX1_perform_168 (lv_at hl 0 rfl) ?_
  obtain ⟨xq44, hfq45, h⟩ := obd h
  refine va_calli (va_runV (As := [.ref (G.1 40), .int xq15.1]) (rest := [.int xq42.1]) ⟨hx, hb, hml, hown, hts⟩ (kX1_distance l D G ub _ 40 rfl xq15.1 xq44 hfq45) (cwV 2 hts (lwW_gV mw_641 mw_643 ms_16 mw_8 mw_644) rfl rfl rfl (by decide +kernel) ⟨Nat.le_of_ble_eq_true rfl, Nat.le_of_ble_eq_true rfl⟩) ⟨fun a U g mk q => ⟨q.1, xPre_call q.2⟩, va_recv hK hP rfl (xg_12 rfl), fun U hU hW => ⟨rfl, xPre_at h0 hS hP hU hW⟩⟩ rfl rfl hl.1 rfl (lv_room (Nat.le_of_ble_eq_true rfl)) dX1_perform_170 ⟨Nat.zero_le _, Nat.zero_le _⟩) hS (fun q _ h => h) (fun q h => h) (fun r u t H1 locs ht hvm hw hB hz1 hq1 hS => ?_)
  obtain ⟨rfl, rfl⟩ := hw
  have hP := hB.1
  rw [ht] at hP
  refine W.widen (k := 0) (n := 0) (Nat.le_refl _) (Nat.le_refl _) ?_
  refine lv_isub hx hb dX1_perform_173 ?_
  refine lv_istore (lv' := [(5, .int (xq42.1 - xq44.1)), (4, .int xq15.1), (0, .ref (G.1 110)), (1, .ref (G.1 k1)), (2, .ref (G.1 k2)), (3, .int p3)]) hx hb dX1_perform_174 hl (by decide) rfl (fun ls hl => ?_)
  refine lv_iload hx hb dX1_perform_176 (lv_at hl 0 rfl) ?_
  refine lv_if_gt (tgt := 200) hx hb dX1_perform_178 (by decide) (fun hcq46 => ?_) (fun hcq46 => ?_)
  · have h := ifp hcq46 h
    exact J200 _ _ _ _ h hP hS (lv_sub hl [2, 3, 4, 5] rfl)
  have h := ifn hcq46 h
  refine lv_iload hx hb dX1_perform_181 (lv_at hl 0 rfl) ?_
  refine lv_if_ne (tgt := 211) hx hb dX1_perform_183 (by decide) (fun hcq47 => ?_) (fun hcq47 => ?_)
  · have h := ifn hcq47 h
    exact J211 _ _ _ _ h hP hS (lv_sub hl [2, 3, 4, 5] rfl)
  have h := ifp hcq47 h
  refine lv_aload_n hx hb dX1_perform_186 rfl (lv_at hl 2 rfl) ?_
  refine va_get (D := D) (ci := 1) (v := .ref (G.1 40)) (C := RX1) (T := TX1) (N := 8) hx hb hts iwX1 hown hK hP 110 (xg_12 rfl) rfl 4 (by decide) (hts _ mw_157) (fun _ h9 => h9) rfl dX1_perform_187 ?_
  refine lv_aload_n hx hb dX1_perform_190 rfl (lv_at hl 2 rfl) ?_
  refine va_get (D := D) (ci := 1) (v := .ref (G.1 36)) (C := RX1) (T := TX1) (N := 8) hx hb hts iwX1 hown hK hP 110 (xg_12 rfl) rfl 0 (by decide) (hts _ mw_150) (fun _ h9 => h9) rfl dX1_perform_191 ?_
  obtain ⟨xq48, hfq49, h⟩ := obd h
  refine va_calli (va_runV (As := [.ref (G.1 36)]) (rest := []) ⟨hx, hb, hml, hown, hts⟩ (kX6_isGreaterThan l D G ub _ 40 rfl 36 rfl xq48 hfq49) (cwV 1 hts (lwW_gV mw_645 mw_587 mw_588 mw_3 mw_589) rfl rfl rfl (by decide +kernel) ⟨Nat.le_of_ble_eq_true rfl, Nat.le_of_ble_eq_true rfl⟩) ⟨fun a U g mk q => ⟨q.1, xPre_call q.2⟩, va_recv hK hP rfl (xg_0 rfl), fun U hU hW => ⟨rfl, xPre_at h0 hS hP hU hW⟩⟩ rfl rfl hl.1 rfl (lv_room (Nat.le_of_ble_eq_true rfl)) dX1_perform_194 ⟨Nat.zero_le _, Nat.zero_le _⟩) hS (fun q _ h => h) (fun q h => h) (fun r u t H1 locs ht hvm hw hB hz1 hq1 hS => ?_)
  obtain ⟨rfl, rfl⟩ := hw
  have hP := hB.1
  rw [ht] at hP
  refine W.widen (k := 0) (n := 0) (Nat.le_refl _) (Nat.le_refl _) ?_
  refine lv_if_eq (tgt := 211) hx hb dX1_perform_197 (by decide) (fun hcq50 => ?_) (fun hcq50 => ?_)
  · have h := ifp hcq50 h
    exact J211 _ _ _ _ h hP hS (lv_sub hl [2, 3, 4, 5] rfl)
  have h := ifn hcq50 h
  exact J200 _ _ _ _ h hP hS (lv_sub hl [2, 3, 4, 5] rfl)
def fX1_descend_L22 (k1 : Nat) (k2 : Nat) (p3 : Int32) : Nat → Int32 → Int32 → QMem → Option (Int32 × QMem)
  | 0, _, _, _ => none
  | n + 1, v4, v5, τ =>
  if 1000 ≤ v5 then (some (v4, τ)) else ((fX6_isZero 43 τ).bind fun xq2 => (if xq2.1 = 0 then ((fX1_perform 42 43 p3 xq2.2).bind fun xq5 => ((fX6_copyFrom 42 43 xq5).bind fun xq7 => ((fX6_copyFrom 43 37 xq7).bind fun xq9 => ((fX1_descend_L22 k1 k2 p3 n) (v4 + 1) (v5 + 1) xq9)))) else (some (v4, xq2.2))))
def fX1_descend (k1 : Nat) (k2 : Nat) (p3 : Int32) (σ : QMem) : Option (Int32 × QMem) :=
  (fX6_copyFrom 42 k1 σ).bind fun xq11 => ((fX6_copyFrom 43 k2 xq11).bind fun xq13 => (fX1_descend_L22 k1 k2 p3 FU 0 0 xq13))
set_option maxHeartbeats 4000000 in
set_option maxRecDepth 100000 in
theorem kX1_descend (l : Launch) (D : va_G) (G : xG) (ub : xB) (σ : QMem) (k1 : Nat) (hk1 : xk k1 = 0) (k2 : Nat) (hk2 : xk k2 = 0) (p3 : Int32) (res : Int32 × QMem) (h : fX1_descend k1 k2 p3 σ = some res) : Met l yX1_descend (.code yX1_descend cX1_descend 6 (some .int) :: lwW) (rmD 3) (xPc D G ub σ [.ref (G.1 110), .ref (G.1 k1), .ref (G.1 k2), .int p3]) (xQi D G ub res) 0 0 (xA G) := by
  refine Met.ofW (cc := cX1_descend) (maxL := 6) (ret := (some .int)) (by decide) rfl ?_
  intro p e s m args below meth c s₁ B hml hv
  obtain ⟨rfl, h0⟩ := hv
  have hx := B.exec
  have hb := B.bytes
  have hr := B.returns
  have hts := fun (w : Cond) (hw : w ∈ lwW) => atoms_spec (ws := (.code yX1_descend cX1_descend 6 (some .int) :: lwW)) B.pre w (List.mem_cons_of_mem _ hw)
  have hown : s.vm.findClass RX1 = some m.cls := findClass_of_methodNamed B.named
  have hlocks := B.notSynchronized
  have hP := h0.1
  have hK := h0.2.1
  have hi := h0.2.2.1
  have hZ := h0.2.2.2
  have hN := h0.2.2.2.2.2.2.2.1
  have hV := h0.2.2.2.2.2.2.2.2.1
  have hS : va_S (xA G) s.heap s.heap [] := va_S.rf
  have hl := lv_entry ([.ref (G.1 110), .ref (G.1 k1), .ref (G.1 k2), .int p3]) (n := 6) (Nat.le_of_ble_eq_true rfl)
  rw [lg_entry_eq]
  generalize (lg_sl ([.ref (G.1 110), .ref (G.1 k1), .ref (G.1 k2), .int p3]) ++ List.replicate (6 - (lg_sl ([.ref (G.1 110), .ref (G.1 k1), .ref (G.1 k2), .int p3])).length) Slot.unset).toArray = ls at hl ⊢
  have hl : lv_has ls 6 [(0, .ref (G.1 110)), (1, .ref (G.1 k1)), (2, .ref (G.1 k2)), (3, .int p3)] := hl
  unfold fX1_descend at h
  have L22 : ∀ (n22 : Nat) (v4 : Int32) (v5 : Int32) (τ : QMem) (H : Heap) (locs : List Loc) (ls : Array Slot), fX1_descend_L22 k1 k2 p3 n22 v4 v5 τ = some res → va_P D vwCl (xW G τ) H → va_S (xA G) s.heap H locs → lv_has ls 6 [(0, .ref (G.1 110)), (3, .int p3), (4, .int v4), (5, .int v5)] → W p l e (headSpec (.code yX1_descend cX1_descend 6 (some .int) :: lwW) (rmD 3)).room s m ([.ref (G.1 110), .ref (G.1 k1), .ref (G.1 k2), .int p3] : List Value).toArray below meth c H locs 0 0 (MQ below (xQi D G ub res) ([.ref (G.1 110), .ref (G.1 k1), .ref (G.1 k2), .int p3] : List Value).toArray s 0 0 (xA G)) (F0 m 22 ls []) := by
    intro n22
    induction n22 with
    | zero => intro v4 v5 τ H locs ls h; rw [fX1_descend_L22] at h; cases h
    | succ n22 ih22 =>
      intro v4 v5 τ H locs ls h hP hS hl
      rw [fX1_descend_L22] at h
      refine lv_iload hx hb dX1_descend_22 (lv_at hl 3 rfl) ?_
      refine lv_sipush (v := 1000) hx hb dX1_descend_24 (by decide) ?_
      refine lv_icmp_ge (tgt := 84) hx hb dX1_descend_27 (by decide) (fun hcq1 => ?_) (fun hcq1 => ?_)
      · have h := ifp hcq1 h
        refine lv_iload hx hb dX1_descend_84 (lv_at hl 2 rfl) ?_
        obtain rfl := Option.some.inj h
        exact W.iret (v := v4) hx hb hr (fun t ht hW => ⟨⟨_, _, rfl, ⟨rfl, rfl⟩, xPre_at h0 hS hP ht hW⟩, hS.F ht⟩) hS.2.2 dX1_descend_86
      have h := ifn hcq1 h
      refine lv_aload_n hx hb dX1_descend_30 rfl (lv_at hl 0 rfl) ?_
      refine va_get (D := D) (ci := 1) (v := .ref (G.1 43)) (C := RX1) (T := TX1) (N := 8) hx hb hts iwX1 hown hK hP 110 (xg_12 rfl) rfl 7 (by decide) (hts _ mw_161) (fun _ h9 => h9) rfl dX1_descend_31 ?_
      obtain ⟨xq2, hfq3, h⟩ := obd h
      refine va_calli (va_runV (As := []) (rest := []) ⟨hx, hb, hml, hown, hts⟩ (kX6_isZero l D G ub _ 43 rfl xq2 hfq3) (cwV 0 hts (lwW_gV mw_617 mw_512 mw_513 mw_3 mw_514) rfl rfl rfl (by decide +kernel) ⟨Nat.le_of_ble_eq_true rfl, Nat.le_of_ble_eq_true rfl⟩) ⟨fun a U g mk q => ⟨q.1, xPre_call q.2⟩, va_recv hK hP rfl (xg_0 rfl), fun U hU hW => ⟨rfl, xPre_at h0 hS hP hU hW⟩⟩ rfl rfl hl.1 rfl (lv_room (Nat.le_of_ble_eq_true rfl)) dX1_descend_34 ⟨Nat.zero_le _, Nat.zero_le _⟩) hS (fun q _ h => h) (fun q h => h) (fun r u t H1 locs ht hvm hw hB hz1 hq1 hS => ?_)
      obtain ⟨rfl, rfl⟩ := hw
      have hP := hB.1
      rw [ht] at hP
      refine W.widen (k := 0) (n := 0) (Nat.le_refl _) (Nat.le_refl _) ?_
      refine lv_if_ne (tgt := 84) hx hb dX1_descend_37 (by decide) (fun hcq4 => ?_) (fun hcq4 => ?_)
      · have h := ifn hcq4 h
        refine lv_iload hx hb dX1_descend_84 (lv_at hl 2 rfl) ?_
        obtain rfl := Option.some.inj h
        exact W.iret (v := v4) hx hb hr (fun t ht hW => ⟨⟨_, _, rfl, ⟨rfl, rfl⟩, xPre_at h0 hS hP ht hW⟩, hS.F ht⟩) hS.2.2 dX1_descend_86
      have h := ifp hcq4 h
      refine lv_aload_n hx hb dX1_descend_40 rfl (lv_at hl 0 rfl) ?_
      refine lv_aload_n hx hb dX1_descend_41 rfl (lv_at hl 0 rfl) ?_
      refine va_get (D := D) (ci := 1) (v := .ref (G.1 42)) (C := RX1) (T := TX1) (N := 8) hx hb hts iwX1 hown hK hP 110 (xg_12 rfl) rfl 6 (by decide) (hts _ mw_159) (fun _ h9 => h9) rfl dX1_descend_42 ?_
      refine lv_aload_n hx hb dX1_descend_45 rfl (lv_at hl 0 rfl) ?_
      refine va_get (D := D) (ci := 1) (v := .ref (G.1 43)) (C := RX1) (T := TX1) (N := 8) hx hb hts iwX1 hown hK hP 110 (xg_12 rfl) rfl 7 (by decide) (hts _ mw_161) (fun _ h9 => h9) rfl dX1_descend_46 ?_
      refine lv_iload_n hx hb dX1_descend_49 rfl (lv_at hl 1 rfl) ?_
      obtain ⟨xq5, hfq6, h⟩ := obd h
      refine va_callv (va_runV (As := [.ref (G.1 42), .ref (G.1 43), .int p3]) (rest := []) ⟨hx, hb, hml, hown, hts⟩ (kX1_perform l D G ub _ 42 rfl 43 rfl p3 xq5 hfq6) (cwV 3 hts (lwW_gV mw_725 mw_628 mw_629 mw_8 mw_630) rfl rfl rfl (by decide +kernel) ⟨Nat.le_of_ble_eq_true rfl, Nat.le_of_ble_eq_true rfl⟩) ⟨fun a U g mk q => ⟨q.1, xPre_call q.2⟩, va_recv hK hP rfl (xg_12 rfl), fun U hU hW => ⟨rfl, xPre_at h0 hS hP hU hW⟩⟩ rfl rfl hl.1 rfl (lv_room (Nat.le_of_ble_eq_true rfl)) dX1_descend_50 ⟨Nat.zero_le _, Nat.zero_le _⟩) hS (fun q _ h => h) (fun q h => h) (fun u t H1 locs ht hvm hw hB hz1 hq1 hS => ?_)
      obtain rfl := hw.symm
      have hP := hB.1
      rw [ht] at hP
      refine W.widen (k := 0) (n := 0) (Nat.le_refl _) (Nat.le_refl _) ?_
      refine lv_aload_n hx hb dX1_descend_53 rfl (lv_at hl 0 rfl) ?_
      refine va_get (D := D) (ci := 1) (v := .ref (G.1 42)) (C := RX1) (T := TX1) (N := 8) hx hb hts iwX1 hown hK hP 110 (xg_12 rfl) rfl 6 (by decide) (hts _ mw_159) (fun _ h9 => h9) rfl dX1_descend_54 ?_
      refine lv_aload_n hx hb dX1_descend_57 rfl (lv_at hl 0 rfl) ?_
      refine va_get (D := D) (ci := 1) (v := .ref (G.1 43)) (C := RX1) (T := TX1) (N := 8) hx hb hts iwX1 hown hK hP 110 (xg_12 rfl) rfl 7 (by decide) (hts _ mw_161) (fun _ h9 => h9) rfl dX1_descend_58 ?_
      obtain ⟨xq7, hfq8, h⟩ := obd h
      refine va_callv (va_runV (As := [.ref (G.1 43)]) (rest := []) ⟨hx, hb, hml, hown, hts⟩ (kX6_copyFrom l D G ub _ 42 rfl 43 rfl xq7 hfq8) (cwV 1 hts (lwW_gV mw_646 mw_481 mw_482 mw_3 mw_483) rfl rfl rfl (by decide +kernel) ⟨Nat.le_of_ble_eq_true rfl, Nat.le_of_ble_eq_true rfl⟩) ⟨fun a U g mk q => ⟨q.1, xPre_call q.2⟩, va_recv hK hP rfl (xg_0 rfl), fun U hU hW => ⟨rfl, xPre_at h0 hS hP hU hW⟩⟩ rfl rfl hl.1 rfl (lv_room (Nat.le_of_ble_eq_true rfl)) dX1_descend_61 ⟨Nat.zero_le _, Nat.zero_le _⟩) hS (fun q _ h => h) (fun q h => h) (fun u t H1 locs ht hvm hw hB hz1 hq1 hS => ?_)
      obtain rfl := hw.symm
      have hP := hB.1
      rw [ht] at hP
      refine W.widen (k := 0) (n := 0) (Nat.le_refl _) (Nat.le_refl _) ?_
      refine lv_aload_n hx hb dX1_descend_64 rfl (lv_at hl 0 rfl) ?_
      refine va_get (D := D) (ci := 1) (v := .ref (G.1 43)) (C := RX1) (T := TX1) (N := 8) hx hb hts iwX1 hown hK hP 110 (xg_12 rfl) rfl 7 (by decide) (hts _ mw_161) (fun _ h9 => h9) rfl dX1_descend_65 ?_
      refine lv_aload_n hx hb dX1_descend_68 rfl (lv_at hl 0 rfl) ?_
      refine va_get (D := D) (ci := 1) (v := .ref (G.1 37)) (C := RX1) (T := TX1) (N := 8) hx hb hts iwX1 hown hK hP 110 (xg_12 rfl) rfl 1 (by decide) (hts _ mw_153) (fun _ h9 => h9) rfl dX1_descend_69 ?_
      obtain ⟨xq9, hfq10, h⟩ := obd h
      refine va_callv (va_runV (As := [.ref (G.1 37)]) (rest := []) ⟨hx, hb, hml, hown, hts⟩ (kX6_copyFrom l D G ub _ 43 rfl 37 rfl xq9 hfq10) (cwV 1 hts (lwW_gV mw_646 mw_481 mw_482 mw_3 mw_483) rfl rfl rfl (by decide +kernel) ⟨Nat.le_of_ble_eq_true rfl, Nat.le_of_ble_eq_true rfl⟩) ⟨fun a U g mk q => ⟨q.1, xPre_call q.2⟩, va_recv hK hP rfl (xg_0 rfl), fun U hU hW => ⟨rfl, xPre_at h0 hS hP hU hW⟩⟩ rfl rfl hl.1 rfl (lv_room (Nat.le_of_ble_eq_true rfl)) dX1_descend_72 ⟨Nat.zero_le _, Nat.zero_le _⟩) hS (fun q _ h => h) (fun q h => h) (fun u t H1 locs ht hvm hw hB hz1 hq1 hS => ?_)
      obtain rfl := hw.symm
      have hP := hB.1
      rw [ht] at hP
      refine W.widen (k := 0) (n := 0) (Nat.le_refl _) (Nat.le_refl _) ?_
      refine lv_iinc (v := v4 + 1) (lv' := [(4, .int (v4 + 1)), (0, .ref (G.1 110)), (3, .int p3), (5, .int v5)]) hx hb dX1_descend_75 hl (k := 2) rfl rfl (by decide) rfl (fun ls hl => ?_)
      refine lv_iinc (v := v5 + 1) (lv' := [(5, .int (v5 + 1)), (4, .int (v4 + 1)), (0, .ref (G.1 110)), (3, .int p3)]) hx hb dX1_descend_78 hl (k := 3) rfl rfl (by decide) rfl (fun ls hl => ?_)
      refine lv_goto (tgt := 22) hx hb dX1_descend_81 (by decide) ?_
      exact ih22 (v4 + 1) (v5 + 1) _ _ _ _ h hP hS (lv_sub hl [2, 3, 1, 0] rfl)
  refine lv_aload_n hx hb dX1_descend_0 rfl (lv_at hl 0 rfl) ?_
  refine va_get (D := D) (ci := 1) (v := .ref (G.1 42)) (C := RX1) (T := TX1) (N := 8) hx hb hts iwX1 hown hK hP 110 (xg_12 rfl) rfl 6 (by decide) (hts _ mw_159) (fun _ h9 => h9) rfl dX1_descend_1 ?_
  refine lv_aload_n hx hb dX1_descend_4 rfl (lv_at hl 1 rfl) ?_
  obtain ⟨xq11, hfq12, h⟩ := obd h
  refine va_callv (va_runV (As := [.ref (G.1 k1)]) (rest := []) ⟨hx, hb, hml, hown, hts⟩ (kX6_copyFrom l D G ub _ 42 rfl k1 hk1 xq11 hfq12) (cwV 1 hts (lwW_gV mw_646 mw_481 mw_482 mw_3 mw_483) rfl rfl rfl (by decide +kernel) ⟨Nat.le_of_ble_eq_true rfl, Nat.le_of_ble_eq_true rfl⟩) ⟨fun a U g mk q => ⟨q.1, xPre_call q.2⟩, va_recv hK hP rfl (xg_0 rfl), fun U hU hW => ⟨rfl, xPre_at h0 hS hP hU hW⟩⟩ rfl rfl hl.1 rfl (lv_room (Nat.le_of_ble_eq_true rfl)) dX1_descend_5 ⟨Nat.zero_le _, Nat.zero_le _⟩) hS (fun q _ h => h) (fun q h => h) (fun u t H1 locs ht hvm hw hB hz1 hq1 hS => ?_)
  obtain rfl := hw.symm
  have hP := hB.1
  rw [ht] at hP
  refine W.widen (k := 0) (n := 0) (Nat.le_refl _) (Nat.le_refl _) ?_
  refine lv_aload_n hx hb dX1_descend_8 rfl (lv_at hl 0 rfl) ?_
  refine va_get (D := D) (ci := 1) (v := .ref (G.1 43)) (C := RX1) (T := TX1) (N := 8) hx hb hts iwX1 hown hK hP 110 (xg_12 rfl) rfl 7 (by decide) (hts _ mw_161) (fun _ h9 => h9) rfl dX1_descend_9 ?_
  refine lv_aload_n hx hb dX1_descend_12 rfl (lv_at hl 2 rfl) ?_
  obtain ⟨xq13, hfq14, h⟩ := obd h
  refine va_callv (va_runV (As := [.ref (G.1 k2)]) (rest := []) ⟨hx, hb, hml, hown, hts⟩ (kX6_copyFrom l D G ub _ 43 rfl k2 hk2 xq13 hfq14) (cwV 1 hts (lwW_gV mw_646 mw_481 mw_482 mw_3 mw_483) rfl rfl rfl (by decide +kernel) ⟨Nat.le_of_ble_eq_true rfl, Nat.le_of_ble_eq_true rfl⟩) ⟨fun a U g mk q => ⟨q.1, xPre_call q.2⟩, va_recv hK hP rfl (xg_0 rfl), fun U hU hW => ⟨rfl, xPre_at h0 hS hP hU hW⟩⟩ rfl rfl hl.1 rfl (lv_room (Nat.le_of_ble_eq_true rfl)) dX1_descend_13 ⟨Nat.zero_le _, Nat.zero_le _⟩) hS (fun q _ h => h) (fun q h => h) (fun u t H1 locs ht hvm hw hB hz1 hq1 hS => ?_)
  obtain rfl := hw.symm
  have hP := hB.1
  rw [ht] at hP
  refine W.widen (k := 0) (n := 0) (Nat.le_refl _) (Nat.le_refl _) ?_
  refine lv_iconst (v := 0) hx hb dX1_descend_16 (by decide) ?_
  refine lv_istore (lv' := [(4, .int 0), (0, .ref (G.1 110)), (1, .ref (G.1 k1)), (2, .ref (G.1 k2)), (3, .int p3)]) hx hb dX1_descend_17 hl (by decide) rfl (fun ls hl => ?_)
  refine lv_iconst (v := 0) hx hb dX1_descend_19 (by decide) ?_
  refine lv_istore (lv' := [(5, .int 0), (4, .int 0), (0, .ref (G.1 110)), (1, .ref (G.1 k1)), (2, .ref (G.1 k2)), (3, .int p3)]) hx hb dX1_descend_20 hl (by decide) rfl (fun ls hl => ?_)
  exact L22 FU 0 0 _ _ _ _ h hP hS (lv_sub hl [2, 5, 1, 0] rfl)
def fX1_isDivisor (k1 : Nat) (k2 : Nat) (p3 : Int32) (σ : QMem) : Option (Int32 × QMem) :=
  (fX6_norm k1 σ).bind fun xq1 => (if xq1.1 = 0 then ((fX6_isZero k2 xq1.2).bind fun xq11 => (if ¬ (xq11.1 = 0 ∨ xq11.1 = 1) then none else (some (xq11.1, xq11.2)))) else ((fX6_becomeConjugate 38 k1 xq1.2).bind fun xq4 => ((fX6_becomeMade 39 38 k2 p3 xq4).bind fun xq6 => ((fX6_isTimes 39 xq1.1 xq6).bind fun xq8 => (if ¬ (xq8.1 = 0 ∨ xq8.1 = 1) then none else (some (xq8.1, xq8.2)))))))
set_option maxHeartbeats 4000000 in
set_option maxRecDepth 100000 in
theorem kX1_isDivisor (l : Launch) (D : va_G) (G : xG) (ub : xB) (σ : QMem) (k1 : Nat) (hk1 : xk k1 = 0) (k2 : Nat) (hk2 : xk k2 = 0) (p3 : Int32) (res : Int32 × QMem) (h : fX1_isDivisor k1 k2 p3 σ = some res) : Met l yX1_isDivisor (.code yX1_isDivisor cX1_isDivisor 5 (some .boolean) :: lwW) (rmD 2) (xPc D G ub σ [.ref (G.1 110), .ref (G.1 k1), .ref (G.1 k2), .int p3]) (xQi D G ub res) 0 0 (xA G) := by
  refine Met.ofW (cc := cX1_isDivisor) (maxL := 5) (ret := (some .boolean)) (by decide) rfl ?_
  intro p e s m args below meth c s₁ B hml hv
  obtain ⟨rfl, h0⟩ := hv
  have hx := B.exec
  have hb := B.bytes
  have hr := B.returns
  have hts := fun (w : Cond) (hw : w ∈ lwW) => atoms_spec (ws := (.code yX1_isDivisor cX1_isDivisor 5 (some .boolean) :: lwW)) B.pre w (List.mem_cons_of_mem _ hw)
  have hown : s.vm.findClass RX1 = some m.cls := findClass_of_methodNamed B.named
  have hlocks := B.notSynchronized
  have hP := h0.1
  have hK := h0.2.1
  have hi := h0.2.2.1
  have hZ := h0.2.2.2
  have hN := h0.2.2.2.2.2.2.2.1
  have hV := h0.2.2.2.2.2.2.2.2.1
  have hS : va_S (xA G) s.heap s.heap [] := va_S.rf
  have hl := lv_entry ([.ref (G.1 110), .ref (G.1 k1), .ref (G.1 k2), .int p3]) (n := 5) (Nat.le_of_ble_eq_true rfl)
  rw [lg_entry_eq]
  generalize (lg_sl ([.ref (G.1 110), .ref (G.1 k1), .ref (G.1 k2), .int p3]) ++ List.replicate (5 - (lg_sl ([.ref (G.1 110), .ref (G.1 k1), .ref (G.1 k2), .int p3])).length) Slot.unset).toArray = ls at hl ⊢
  have hl : lv_has ls 5 [(0, .ref (G.1 110)), (1, .ref (G.1 k1)), (2, .ref (G.1 k2)), (3, .int p3)] := hl
  unfold fX1_isDivisor at h
  refine lv_aload_n hx hb dX1_isDivisor_0 rfl (lv_at hl 1 rfl) ?_
  obtain ⟨xq1, hfq2, h⟩ := obd h
  refine va_calli (va_runV (As := []) (rest := []) ⟨hx, hb, hml, hown, hts⟩ (kX6_norm l D G ub _ k1 hk1 xq1 hfq2) (cwV 0 hts (lwW_gV mw_616 mw_516 mw_517 mw_3 mw_518) rfl rfl rfl (by decide +kernel) ⟨Nat.le_of_ble_eq_true rfl, Nat.le_of_ble_eq_true rfl⟩) ⟨fun a U g mk q => ⟨q.1, xPre_call q.2⟩, va_recv hK hP rfl (xg_0 hk1), fun U hU hW => ⟨rfl, xPre_at h0 hS hP hU hW⟩⟩ rfl rfl hl.1 rfl (lv_room (Nat.le_of_ble_eq_true rfl)) dX1_isDivisor_1 ⟨Nat.zero_le _, Nat.zero_le _⟩) hS (fun q _ h => h) (fun q h => h) (fun r u t H1 locs ht hvm hw hB hz1 hq1 hS => ?_)
  obtain ⟨rfl, rfl⟩ := hw
  have hP := hB.1
  rw [ht] at hP
  refine W.widen (k := 0) (n := 0) (Nat.le_refl _) (Nat.le_refl _) ?_
  refine lv_istore (lv' := [(4, .int xq1.1), (0, .ref (G.1 110)), (1, .ref (G.1 k1)), (2, .ref (G.1 k2)), (3, .int p3)]) hx hb dX1_isDivisor_4 hl (by decide) rfl (fun ls hl => ?_)
  refine lv_iload hx hb dX1_isDivisor_6 (lv_at hl 0 rfl) ?_
  refine lv_if_ne (tgt := 16) hx hb dX1_isDivisor_8 (by decide) (fun hcq3 => ?_) (fun hcq3 => ?_)
  · have h := ifn hcq3 h
    refine lv_aload_n hx hb dX1_isDivisor_16 rfl (lv_at hl 1 rfl) ?_
    refine va_get (D := D) (ci := 1) (v := .ref (G.1 38)) (C := RX1) (T := TX1) (N := 8) hx hb hts iwX1 hown hK hP 110 (xg_12 rfl) rfl 2 (by decide) (hts _ mw_155) (fun _ h9 => h9) rfl dX1_isDivisor_17 ?_
    refine lv_aload_n hx hb dX1_isDivisor_20 rfl (lv_at hl 2 rfl) ?_
    obtain ⟨xq4, hfq5, h⟩ := obd h
    refine va_callv (va_runV (As := [.ref (G.1 k1)]) (rest := []) ⟨hx, hb, hml, hown, hts⟩ (kX6_becomeConjugate l D G ub _ 38 rfl k1 hk1 xq4 hfq5) (cwV 1 hts (lwW_gV mw_618 mw_619 mw_620 mw_3 mw_621) rfl rfl rfl (by decide +kernel) ⟨Nat.le_of_ble_eq_true rfl, Nat.le_of_ble_eq_true rfl⟩) ⟨fun a U g mk q => ⟨q.1, xPre_call q.2⟩, va_recv hK hP rfl (xg_0 rfl), fun U hU hW => ⟨rfl, xPre_at h0 hS hP hU hW⟩⟩ rfl rfl hl.1 rfl (lv_room (Nat.le_of_ble_eq_true rfl)) dX1_isDivisor_21 ⟨Nat.zero_le _, Nat.zero_le _⟩) hS (fun q _ h => h) (fun q h => h) (fun u t H1 locs ht hvm hw hB hz1 hq1 hS => ?_)
    obtain rfl := hw.symm
    have hP := hB.1
    rw [ht] at hP
    refine W.widen (k := 0) (n := 0) (Nat.le_refl _) (Nat.le_refl _) ?_
    refine lv_aload_n hx hb dX1_isDivisor_24 rfl (lv_at hl 1 rfl) ?_
    refine va_get (D := D) (ci := 1) (v := .ref (G.1 39)) (C := RX1) (T := TX1) (N := 8) hx hb hts iwX1 hown hK hP 110 (xg_12 rfl) rfl 3 (by decide) (hts _ mw_156) (fun _ h9 => h9) rfl dX1_isDivisor_25 ?_
    refine lv_aload_n hx hb dX1_isDivisor_28 rfl (lv_at hl 1 rfl) ?_
    refine va_get (D := D) (ci := 1) (v := .ref (G.1 38)) (C := RX1) (T := TX1) (N := 8) hx hb hts iwX1 hown hK hP 110 (xg_12 rfl) rfl 2 (by decide) (hts _ mw_155) (fun _ h9 => h9) rfl dX1_isDivisor_29 ?_
    refine lv_aload_n hx hb dX1_isDivisor_32 rfl (lv_at hl 3 rfl) ?_
    refine lv_iload_n hx hb dX1_isDivisor_33 rfl (lv_at hl 4 rfl) ?_
    obtain ⟨xq6, hfq7, h⟩ := obd h
    refine va_callv (va_runV (As := [.ref (G.1 38), .ref (G.1 k2), .int p3]) (rest := []) ⟨hx, hb, hml, hown, hts⟩ (kX6_becomeMade l D G ub _ 39 rfl 38 rfl k2 hk2 p3 xq6 hfq7) (cwV 3 hts (lwW_gV mw_622 mw_579 mw_580 mw_3 mw_581) rfl rfl rfl (by decide +kernel) ⟨Nat.le_of_ble_eq_true rfl, Nat.le_of_ble_eq_true rfl⟩) ⟨fun a U g mk q => ⟨q.1, xPre_call q.2⟩, va_recv hK hP rfl (xg_0 rfl), fun U hU hW => ⟨rfl, xPre_at h0 hS hP hU hW⟩⟩ rfl rfl hl.1 rfl (lv_room (Nat.le_of_ble_eq_true rfl)) dX1_isDivisor_34 ⟨Nat.zero_le _, Nat.zero_le _⟩) hS (fun q _ h => h) (fun q h => h) (fun u t H1 locs ht hvm hw hB hz1 hq1 hS => ?_)
    obtain rfl := hw.symm
    have hP := hB.1
    rw [ht] at hP
    refine W.widen (k := 0) (n := 0) (Nat.le_refl _) (Nat.le_refl _) ?_
    refine lv_aload_n hx hb dX1_isDivisor_37 rfl (lv_at hl 1 rfl) ?_
    refine va_get (D := D) (ci := 1) (v := .ref (G.1 39)) (C := RX1) (T := TX1) (N := 8) hx hb hts iwX1 hown hK hP 110 (xg_12 rfl) rfl 3 (by decide) (hts _ mw_156) (fun _ h9 => h9) rfl dX1_isDivisor_38 ?_
    refine lv_iload hx hb dX1_isDivisor_41 (lv_at hl 0 rfl) ?_
    obtain ⟨xq8, hfq9, h⟩ := obd h
    refine va_calli (va_runV (As := [.int xq1.1]) (rest := []) ⟨hx, hb, hml, hown, hts⟩ (kX6_isTimes l D G ub _ 39 rfl xq1.1 xq8 hfq9) (cwV 1 hts (lwW_gV mw_623 mw_537 mw_538 mw_3 mw_539) rfl rfl rfl (by decide +kernel) ⟨Nat.le_of_ble_eq_true rfl, Nat.le_of_ble_eq_true rfl⟩) ⟨fun a U g mk q => ⟨q.1, xPre_call q.2⟩, va_recv hK hP rfl (xg_0 rfl), fun U hU hW => ⟨rfl, xPre_at h0 hS hP hU hW⟩⟩ rfl rfl hl.1 rfl (lv_room (Nat.le_of_ble_eq_true rfl)) dX1_isDivisor_43 ⟨Nat.zero_le _, Nat.zero_le _⟩) hS (fun q _ h => h) (fun q h => h) (fun r u t H1 locs ht hvm hw hB hz1 hq1 hS => ?_)
    obtain ⟨rfl, rfl⟩ := hw
    have hP := hB.1
    rw [ht] at hP
    refine W.widen (k := 0) (n := 0) (Nat.le_refl _) (Nat.le_refl _) ?_
    obtain ⟨hzq10, h⟩ := nif h
    have hzq10 := Decidable.not_not.mp hzq10
    obtain rfl := Option.some.inj h
    exact W.zret hx hb hr (nar01 hzq10) (fun t ht hW => ⟨⟨_, _, rfl, ⟨rfl, rfl⟩, xPre_at h0 hS hP ht hW⟩, hS.F ht⟩) hS.2.2 dX1_isDivisor_46
  have h := ifp hcq3 h
  refine lv_aload_n hx hb dX1_isDivisor_11 rfl (lv_at hl 3 rfl) ?_
  obtain ⟨xq11, hfq12, h⟩ := obd h
  refine va_calli (va_runV (As := []) (rest := []) ⟨hx, hb, hml, hown, hts⟩ (kX6_isZero l D G ub _ k2 hk2 xq11 hfq12) (cwV 0 hts (lwW_gV mw_617 mw_512 mw_513 mw_3 mw_514) rfl rfl rfl (by decide +kernel) ⟨Nat.le_of_ble_eq_true rfl, Nat.le_of_ble_eq_true rfl⟩) ⟨fun a U g mk q => ⟨q.1, xPre_call q.2⟩, va_recv hK hP rfl (xg_0 hk2), fun U hU hW => ⟨rfl, xPre_at h0 hS hP hU hW⟩⟩ rfl rfl hl.1 rfl (lv_room (Nat.le_of_ble_eq_true rfl)) dX1_isDivisor_12 ⟨Nat.zero_le _, Nat.zero_le _⟩) hS (fun q _ h => h) (fun q h => h) (fun r u t H1 locs ht hvm hw hB hz1 hq1 hS => ?_)
  obtain ⟨rfl, rfl⟩ := hw
  have hP := hB.1
  rw [ht] at hP
  refine W.widen (k := 0) (n := 0) (Nat.le_refl _) (Nat.le_refl _) ?_
  obtain ⟨hzq13, h⟩ := nif h
  have hzq13 := Decidable.not_not.mp hzq13
  obtain rfl := Option.some.inj h
  exact W.zret hx hb hr (nar01 hzq13) (fun t ht hW => ⟨⟨_, _, rfl, ⟨rfl, rfl⟩, xPre_at h0 hS hP ht hW⟩, hS.F ht⟩) hS.2.2 dX1_isDivisor_15
