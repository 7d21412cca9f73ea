def fX2_putMate (k1 : Nat) (k2 : Nat) (p3 : Int32) (p4 : Int32) (σ : QMem) : Option (QMem) :=
  (fX6_putUnit 45 p4 σ).bind fun xq1 => ((fX6_becomeMade k1 k2 45 p3 xq1).bind fun xq3 => (some xq3))
set_option maxHeartbeats 4000000 in
set_option maxRecDepth 100000 in
theorem kX2_putMate (l : Launch) (D : va_G) (G : xG) (ub : xB) (σ : QMem) (k1 : Nat) (hk1 : xk k1 = 0) (k2 : Nat) (hk2 : xk k2 = 0) (p3 : Int32) (p4 : Int32) (res : QMem) (h : fX2_putMate k1 k2 p3 p4 σ = some res) : Met l yX2_putMate (.code yX2_putMate cX2_putMate 5 none :: lwW) (rmD 2) (xPc D G ub σ [.ref (G.1 111), .ref (G.1 k1), .ref (G.1 k2), .int p3, .int p4]) (xQv D G ub res) 0 0 (xA G) := by
  refine Met.ofW (cc := cX2_putMate) (maxL := 5) (ret := none) (by decide) rfl ?_
  intro p e s m args below meth c s₁ B hml hv
  obtain ⟨rfl, h0⟩ := hv
  have hx := B.exec
  have hb := B.bytes
  have hr := B.returns
  have hts := fun (w : Cond) (hw : w ∈ lwW) => atoms_spec (ws := (.code yX2_putMate cX2_putMate 5 none :: lwW)) B.pre w (List.mem_cons_of_mem _ hw)
  have hown : s.vm.findClass RX2 = some m.cls := findClass_of_methodNamed B.named
  have hlocks := B.notSynchronized
  have hP := h0.1
  have hK := h0.2.1
  have hi := h0.2.2.1
  have hZ := h0.2.2.2
  have hN := h0.2.2.2.2.2.2.2.1
  have hV := h0.2.2.2.2.2.2.2.2.1
  have hS : va_S (xA G) s.heap s.heap [] := va_S.rf
  have hl := lv_entry ([.ref (G.1 111), .ref (G.1 k1), .ref (G.1 k2), .int p3, .int p4]) (n := 5) (Nat.le_of_ble_eq_true rfl)
  rw [lg_entry_eq]
  generalize (lg_sl ([.ref (G.1 111), .ref (G.1 k1), .ref (G.1 k2), .int p3, .int p4]) ++ List.replicate (5 - (lg_sl ([.ref (G.1 111), .ref (G.1 k1), .ref (G.1 k2), .int p3, .int p4])).length) Slot.unset).toArray = ls at hl ⊢
  have hl : lv_has ls 5 [(0, .ref (G.1 111)), (1, .ref (G.1 k1)), (2, .ref (G.1 k2)), (3, .int p3), (4, .int p4)] := hl
  unfold fX2_putMate at h
  refine lv_aload_n hx hb dX2_putMate_0 rfl (lv_at hl 0 rfl) ?_
  refine va_get (D := D) (ci := 2) (v := .ref (G.1 45)) (C := RX2) (T := TX2) (N := 5) hx hb hts iwX2 hown hK hP 111 (xg_13 rfl) rfl 2 (by decide) (hts _ mw_205) (fun _ h9 => h9) rfl dX2_putMate_1 ?_
  refine lv_iload hx hb dX2_putMate_4 (lv_at hl 4 rfl) ?_
  obtain ⟨xq1, hfq2, h⟩ := obd h
  refine va_callv (va_runV (As := [.int p4]) (rest := []) ⟨hx, hb, hml, hown, hts⟩ (kX6_putUnit l D G ub _ 45 rfl p4 xq1 hfq2) (cwV 1 hts (lwW_gV mw_577 mw_471 mw_472 mw_3 mw_473) rfl rfl rfl (by decide +kernel) ⟨Nat.le_of_ble_eq_true rfl, Nat.le_of_ble_eq_true rfl⟩) ⟨fun a U g mk q => ⟨q.1, xPre_call q.2⟩, va_recv hK hP rfl (xg_0 rfl), fun U hU hW => ⟨rfl, xPre_at h0 hS hP hU hW⟩⟩ rfl rfl hl.1 rfl (lv_room (Nat.le_of_ble_eq_true rfl)) dX2_putMate_6 ⟨Nat.zero_le _, Nat.zero_le _⟩) hS (fun q _ h => h) (fun q h => h) (fun u t H1 locs ht hvm hw hB hz1 hq1 hS => ?_)
  obtain rfl := hw.symm
  have hP := hB.1
  rw [ht] at hP
  refine W.widen (k := 0) (n := 0) (Nat.le_refl _) (Nat.le_refl _) ?_
  refine lv_aload_n hx hb dX2_putMate_9 rfl (lv_at hl 1 rfl) ?_
  refine lv_aload_n hx hb dX2_putMate_10 rfl (lv_at hl 2 rfl) ?_
  refine lv_aload_n hx hb dX2_putMate_11 rfl (lv_at hl 0 rfl) ?_
  refine va_get (D := D) (ci := 2) (v := .ref (G.1 45)) (C := RX2) (T := TX2) (N := 5) hx hb hts iwX2 hown hK hP 111 (xg_13 rfl) rfl 2 (by decide) (hts _ mw_205) (fun _ h9 => h9) rfl dX2_putMate_12 ?_
  refine lv_iload_n hx hb dX2_putMate_15 rfl (lv_at hl 3 rfl) ?_
  obtain ⟨xq3, hfq4, h⟩ := obd h
  refine va_callv (va_runV (As := [.ref (G.1 k2), .ref (G.1 45), .int p3]) (rest := []) ⟨hx, hb, hml, hown, hts⟩ (kX6_becomeMade l D G ub _ k1 hk1 k2 hk2 45 rfl p3 xq3 hfq4) (cwV 3 hts (lwW_gV mw_578 mw_579 mw_580 mw_3 mw_581) rfl rfl rfl (by decide +kernel) ⟨Nat.le_of_ble_eq_true rfl, Nat.le_of_ble_eq_true rfl⟩) ⟨fun a U g mk q => ⟨q.1, xPre_call q.2⟩, va_recv hK hP rfl (xg_0 hk1), fun U hU hW => ⟨rfl, xPre_at h0 hS hP hU hW⟩⟩ rfl rfl hl.1 rfl (lv_room (Nat.le_of_ble_eq_true rfl)) dX2_putMate_16 ⟨Nat.zero_le _, Nat.zero_le _⟩) hS (fun q _ h => h) (fun q h => h) (fun u t H1 locs ht hvm hw hB hz1 hq1 hS => ?_)
  obtain rfl := hw.symm
  have hP := hB.1
  rw [ht] at hP
  refine W.widen (k := 0) (n := 0) (Nat.le_refl _) (Nat.le_refl _) ?_
  obtain rfl := Option.some.inj h
  exact W.vret hx hb hr (fun t ht hW => ⟨⟨_, rfl, rfl, xPre_at h0 hS hP ht hW⟩, hS.F ht⟩) hS.2.2 dX2_putMate_19
def fX2_putHead_J46 (k1 : Nat) (k2 : Nat) (p3 : Int32) (K8 : Int32 → QMem → Option (QMem)) (v4 : Int32) (τ : QMem) : Option (QMem) :=
  K8 (v4 + 1) τ
def fX2_putHead_L8 (k1 : Nat) (k2 : Nat) (p3 : Int32) : Nat → Int32 → QMem → Option (QMem)
  | 0, _, _ => none
  | n + 1, v4, τ =>
  if 24 ≤ v4 then (some τ) else ((fX2_putMate 46 k2 p3 v4 τ).bind fun xq2 => ((fX6_isGreaterThan 46 k1 xq2).bind fun xq4 => (if xq4.1 = 0 then (fX2_putHead_J46 k1 k2 p3 (fX2_putHead_L8 k1 k2 p3 n) v4 xq4.2) else ((fX6_copyFrom k1 46 xq4.2).bind fun xq7 => (fX2_putHead_J46 k1 k2 p3 (fX2_putHead_L8 k1 k2 p3 n) v4 xq7)))))
def fX2_putHead (k1 : Nat) (k2 : Nat) (p3 : Int32) (σ : QMem) : Option (QMem) :=
  (fX6_copyFrom k1 k2 σ).bind fun xq9 => (fX2_putHead_L8 k1 k2 p3 FU 1 xq9)
set_option maxHeartbeats 4000000 in
set_option maxRecDepth 100000 in
theorem kX2_putHead (l : Launch) (D : va_G) (G : xG) (ub : xB) (σ : QMem) (k1 : Nat) (hk1 : xk k1 = 0) (k2 : Nat) (hk2 : xk k2 = 0) (p3 : Int32) (res : QMem) (h : fX2_putHead k1 k2 p3 σ = some res) : Met l yX2_putHead (.code yX2_putHead cX2_putHead 5 none :: lwW) (rmD 3) (xPc D G ub σ [.ref (G.1 111), .ref (G.1 k1), .ref (G.1 k2), .int p3]) (xQv D G ub res) 0 0 (xA G) := by
  refine Met.ofW (cc := cX2_putHead) (maxL := 5) (ret := none) (by decide) rfl ?_
  intro p e s m args below meth c s₁ B hml hv
  obtain ⟨rfl, h0⟩ := hv
  have hx := B.exec
  have hb := B.bytes
  have hr := B.returns
  have hts := fun (w : Cond) (hw : w ∈ lwW) => atoms_spec (ws := (.code yX2_putHead cX2_putHead 5 none :: lwW)) B.pre w (List.mem_cons_of_mem _ hw)
  have hown : s.vm.findClass RX2 = some m.cls := findClass_of_methodNamed B.named
  have hlocks := B.notSynchronized
  have hP := h0.1
  have hK := h0.2.1
  have hi := h0.2.2.1
  have hZ := h0.2.2.2
  have hN := h0.2.2.2.2.2.2.2.1
  have hV := h0.2.2.2.2.2.2.2.2.1
  have hS : va_S (xA G) s.heap s.heap [] := va_S.rf
  have hl := lv_entry ([.ref (G.1 111), .ref (G.1 k1), .ref (G.1 k2), .int p3]) (n := 5) (Nat.le_of_ble_eq_true rfl)
  rw [lg_entry_eq]
  generalize (lg_sl ([.ref (G.1 111), .ref (G.1 k1), .ref (G.1 k2), .int p3]) ++ List.replicate (5 - (lg_sl ([.ref (G.1 111), .ref (G.1 k1), .ref (G.1 k2), .int p3])).length) Slot.unset).toArray = ls at hl ⊢
  have hl : lv_has ls 5 [(0, .ref (G.1 111)), (1, .ref (G.1 k1)), (2, .ref (G.1 k2)), (3, .int p3)] := hl
  unfold fX2_putHead at h
  have L8 : ∀ (n8 : Nat) (v4 : Int32) (τ : QMem) (H : Heap) (locs : List Loc) (ls : Array Slot), fX2_putHead_L8 k1 k2 p3 n8 v4 τ = some res → va_P D vwCl (xW G τ) H → va_S (xA G) s.heap H locs → lv_has ls 5 [(0, .ref (G.1 111)), (1, .ref (G.1 k1)), (2, .ref (G.1 k2)), (3, .int p3), (4, .int v4)] → W p l e (headSpec (.code yX2_putHead cX2_putHead 5 none :: lwW) (rmD 3)).room s m ([.ref (G.1 111), .ref (G.1 k1), .ref (G.1 k2), .int p3] : List Value).toArray below meth c H locs 0 0 (MQ below (xQv D G ub res) ([.ref (G.1 111), .ref (G.1 k1), .ref (G.1 k2), .int p3] : List Value).toArray s 0 0 (xA G)) (F0 m 8 ls []) := by
    intro n8
    induction n8 with
    | zero => intro v4 τ H locs ls h; rw [fX2_putHead_L8] at h; cases h
    | succ n8 ih8 =>
      intro v4 τ H locs ls h hP hS hl
      rw [fX2_putHead_L8] at h
      have J46 : ∀ (v4 : Int32) (τ : QMem) (H : Heap) (locs : List Loc) (ls : Array Slot), fX2_putHead_J46 k1 k2 p3 (fX2_putHead_L8 k1 k2 p3 n8) v4 τ = some res → va_P D vwCl (xW G τ) H → va_S (xA G) s.heap H locs → lv_has ls 5 [(0, .ref (G.1 111)), (1, .ref (G.1 k1)), (2, .ref (G.1 k2)), (3, .int p3), (4, .int v4)] → W p l e (headSpec (.code yX2_putHead cX2_putHead 5 none :: lwW) (rmD 3)).room s m ([.ref (G.1 111), .ref (G.1 k1), .ref (G.1 k2), .int p3] : List Value).toArray below meth c H locs 0 0 (MQ below (xQv D G ub res) ([.ref (G.1 111), .ref (G.1 k1), .ref (G.1 k2), .int p3] : List Value).toArray s 0 0 (xA G)) (F0 m 46 ls []) := by
        intro v4 τ H locs ls h hP hS hl
        unfold fX2_putHead_J46 at h
        refine lv_iinc (v := v4 + 1) (lv' := [(4, .int (v4 + 1)), (0, .ref (G.1 111)), (1, .ref (G.1 k1)), (2, .ref (G.1 k2)), (3, .int p3)]) hx hb dX2_putHead_46 hl (k := 4) rfl rfl (by decide) rfl (fun ls hl => ?_)
        refine lv_goto (tgt := 8) hx hb dX2_putHead_49 (by decide) ?_
        exact ih8 (v4 + 1) _ _ _ _ h hP hS (lv_sub hl [1, 2, 3, 4, 0] rfl)
      refine lv_iload hx hb dX2_putHead_8 (lv_at hl 4 rfl) ?_
      refine lv_bipush (v := 24) hx hb dX2_putHead_10 (by decide) ?_
      refine lv_icmp_ge (tgt := 52) hx hb dX2_putHead_12 (by decide) (fun hcq1 => ?_) (fun hcq1 => ?_)
      · have h := ifp hcq1 h
        obtain rfl := Option.some.inj h
        exact W.vret hx hb hr (fun t ht hW => ⟨⟨_, rfl, rfl, xPre_at h0 hS hP ht hW⟩, hS.F ht⟩) hS.2.2 dX2_putHead_52
      have h := ifn hcq1 h
      refine lv_aload_n hx hb dX2_putHead_15 rfl (lv_at hl 0 rfl) ?_
      refine lv_aload_n hx hb dX2_putHead_16 rfl (lv_at hl 0 rfl) ?_
      refine va_get (D := D) (ci := 2) (v := .ref (G.1 46)) (C := RX2) (T := TX2) (N := 5) hx hb hts iwX2 hown hK hP 111 (xg_13 rfl) rfl 3 (by decide) (hts _ mw_206) (fun _ h9 => h9) rfl dX2_putHead_17 ?_
      refine lv_aload_n hx hb dX2_putHead_20 rfl (lv_at hl 2 rfl) ?_
      refine lv_iload_n hx hb dX2_putHead_21 rfl (lv_at hl 3 rfl) ?_
      refine lv_iload hx hb dX2_putHead_22 (lv_at hl 4 rfl) ?_
      obtain ⟨xq2, hfq3, h⟩ := obd h
      refine va_callv (va_runV (As := [.ref (G.1 46), .ref (G.1 k2), .int p3, .int v4]) (rest := []) ⟨hx, hb, hml, hown, hts⟩ (kX2_putMate l D G ub _ 46 rfl k2 hk2 p3 v4 xq2 hfq3) (cwV 4 hts (lwW_gV mw_704 mw_705 mw_706 mw_9 mw_707) rfl rfl rfl (by decide +kernel) ⟨Nat.le_of_ble_eq_true rfl, Nat.le_of_ble_eq_true rfl⟩) ⟨fun a U g mk q => ⟨q.1, xPre_call q.2⟩, va_recv hK hP rfl (xg_13 rfl), fun U hU hW => ⟨rfl, xPre_at h0 hS hP hU hW⟩⟩ rfl rfl hl.1 rfl (lv_room (Nat.le_of_ble_eq_true rfl)) dX2_putHead_24 ⟨Nat.zero_le _, Nat.zero_le _⟩) hS (fun q _ h => h) (fun q h => h) (fun u t H1 locs ht hvm hw hB hz1 hq1 hS => ?_)
      obtain rfl := hw.symm
      have hP := hB.1
      rw [ht] at hP
      refine W.widen (k := 0) (n := 0) (Nat.le_refl _) (Nat.le_refl _) ?_
      refine lv_aload_n hx hb dX2_putHead_27 rfl (lv_at hl 0 rfl) ?_
      refine va_get (D := D) (ci := 2) (v := .ref (G.1 46)) (C := RX2) (T := TX2) (N := 5) hx hb hts iwX2 hown hK hP 111 (xg_13 rfl) rfl 3 (by decide) (hts _ mw_206) (fun _ h9 => h9) rfl dX2_putHead_28 ?_
      refine lv_aload_n hx hb dX2_putHead_31 rfl (lv_at hl 1 rfl) ?_
      obtain ⟨xq4, hfq5, h⟩ := obd h
      refine va_calli (va_runV (As := [.ref (G.1 k1)]) (rest := []) ⟨hx, hb, hml, hown, hts⟩ (kX6_isGreaterThan l D G ub _ 46 rfl k1 hk1 xq4 hfq5) (cwV 1 hts (lwW_gV mw_586 mw_587 mw_588 mw_3 mw_589) rfl rfl rfl (by decide +kernel) ⟨Nat.le_of_ble_eq_true rfl, Nat.le_of_ble_eq_true rfl⟩) ⟨fun a U g mk q => ⟨q.1, xPre_call q.2⟩, va_recv hK hP rfl (xg_0 rfl), fun U hU hW => ⟨rfl, xPre_at h0 hS hP hU hW⟩⟩ rfl rfl hl.1 rfl (lv_room (Nat.le_of_ble_eq_true rfl)) dX2_putHead_32 ⟨Nat.zero_le _, Nat.zero_le _⟩) hS (fun q _ h => h) (fun q h => h) (fun r u t H1 locs ht hvm hw hB hz1 hq1 hS => ?_)
      obtain ⟨rfl, rfl⟩ := hw
      have hP := hB.1
      rw [ht] at hP
      refine W.widen (k := 0) (n := 0) (Nat.le_refl _) (Nat.le_refl _) ?_
      refine lv_if_eq (tgt := 46) hx hb dX2_putHead_35 (by decide) (fun hcq6 => ?_) (fun hcq6 => ?_)
      · have h := ifp hcq6 h
        exact J46 v4 _ _ _ _ h hP hS (lv_sub hl [0, 1, 2, 3, 4] rfl)
      have h := ifn hcq6 h
      refine lv_aload_n hx hb dX2_putHead_38 rfl (lv_at hl 1 rfl) ?_
      refine lv_aload_n hx hb dX2_putHead_39 rfl (lv_at hl 0 rfl) ?_
      refine va_get (D := D) (ci := 2) (v := .ref (G.1 46)) (C := RX2) (T := TX2) (N := 5) hx hb hts iwX2 hown hK hP 111 (xg_13 rfl) rfl 3 (by decide) (hts _ mw_206) (fun _ h9 => h9) rfl dX2_putHead_40 ?_
      obtain ⟨xq7, hfq8, h⟩ := obd h
      refine va_callv (va_runV (As := [.ref (G.1 46)]) (rest := []) ⟨hx, hb, hml, hown, hts⟩ (kX6_copyFrom l D G ub _ k1 hk1 46 rfl xq7 hfq8) (cwV 1 hts (lwW_gV mw_703 mw_481 mw_482 mw_3 mw_483) rfl rfl rfl (by decide +kernel) ⟨Nat.le_of_ble_eq_true rfl, Nat.le_of_ble_eq_true rfl⟩) ⟨fun a U g mk q => ⟨q.1, xPre_call q.2⟩, va_recv hK hP rfl (xg_0 hk1), fun U hU hW => ⟨rfl, xPre_at h0 hS hP hU hW⟩⟩ rfl rfl hl.1 rfl (lv_room (Nat.le_of_ble_eq_true rfl)) dX2_putHead_43 ⟨Nat.zero_le _, Nat.zero_le _⟩) hS (fun q _ h => h) (fun q h => h) (fun u t H1 locs ht hvm hw hB hz1 hq1 hS => ?_)
      obtain rfl := hw.symm
      have hP := hB.1
      rw [ht] at hP
      refine W.widen (k := 0) (n := 0) (Nat.le_refl _) (Nat.le_refl _) ?_
      exact J46 v4 _ _ _ _ h hP hS (lv_sub hl [0, 1, 2, 3, 4] rfl)
  refine lv_aload_n hx hb dX2_putHead_0 rfl (lv_at hl 1 rfl) ?_
  refine lv_aload_n hx hb dX2_putHead_1 rfl (lv_at hl 2 rfl) ?_
  obtain ⟨xq9, hfq10, h⟩ := obd h
  refine va_callv (va_runV (As := [.ref (G.1 k2)]) (rest := []) ⟨hx, hb, hml, hown, hts⟩ (kX6_copyFrom l D G ub _ k1 hk1 k2 hk2 xq9 hfq10) (cwV 1 hts (lwW_gV mw_703 mw_481 mw_482 mw_3 mw_483) rfl rfl rfl (by decide +kernel) ⟨Nat.le_of_ble_eq_true rfl, Nat.le_of_ble_eq_true rfl⟩) ⟨fun a U g mk q => ⟨q.1, xPre_call q.2⟩, va_recv hK hP rfl (xg_0 hk1), fun U hU hW => ⟨rfl, xPre_at h0 hS hP hU hW⟩⟩ rfl rfl hl.1 rfl (lv_room (Nat.le_of_ble_eq_true rfl)) dX2_putHead_2 ⟨Nat.zero_le _, Nat.zero_le _⟩) hS (fun q _ h => h) (fun q h => h) (fun u t H1 locs ht hvm hw hB hz1 hq1 hS => ?_)
  obtain rfl := hw.symm
  have hP := hB.1
  rw [ht] at hP
  refine W.widen (k := 0) (n := 0) (Nat.le_refl _) (Nat.le_refl _) ?_
  refine lv_iconst (v := 1) hx hb dX2_putHead_5 (by decide) ?_
  refine lv_istore (lv' := [(4, .int 1), (0, .ref (G.1 111)), (1, .ref (G.1 k1)), (2, .ref (G.1 k2)), (3, .int p3)]) hx hb dX2_putHead_6 hl (by decide) rfl (fun ls hl => ?_)
  exact L8 FU 1 _ _ _ _ h hP hS (lv_sub hl [1, 2, 3, 4, 0] rfl)
def fX2_likeRoot (p1 : Int32) (p2 : Int32) (σ : QMem) : Option (Int32 × QMem) :=
  if p1 < 0 then (some ((-1), σ)) else (if p1 < (Int32.ofNat (xl 85)) then (if (p1 < 0 ∨ xl 85 ≤ p1.toNatClampNeg) then none else (if (((σ 85 p1.toNatClampNeg) ^^^ p2) &&& 1) = 0 then (some (σ 85 p1.toNatClampNeg, σ)) else (some ((σ 85 p1.toNatClampNeg) - 1, σ)))) else (some ((-1), σ)))
set_option maxHeartbeats 4000000 in
set_option maxRecDepth 100000 in
theorem kX2_likeRoot (l : Launch) (D : va_G) (G : xG) (ub : xB) (σ : QMem) (p1 : Int32) (p2 : Int32) (res : Int32 × QMem) (h : fX2_likeRoot p1 p2 σ = some res) : Met l yX2_likeRoot (.code yX2_likeRoot cX2_likeRoot 4 (some .int) :: lwW) (rmD 0) (xPc D G ub σ [.ref (G.1 111), .int p1, .int p2]) (xQi D G ub res) 0 0 (xA G) := by
  refine Met.ofW (cc := cX2_likeRoot) (maxL := 4) (ret := (some .int)) (by decide) rfl ?_
  intro p e s m args below meth c s₁ B hml hv
  obtain ⟨rfl, h0⟩ := hv
  have hx := B.exec
  have hb := B.bytes
  have hr := B.returns
  have hts := fun (w : Cond) (hw : w ∈ lwW) => atoms_spec (ws := (.code yX2_likeRoot cX2_likeRoot 4 (some .int) :: lwW)) B.pre w (List.mem_cons_of_mem _ hw)
  have hown : s.vm.findClass RX2 = some m.cls := findClass_of_methodNamed B.named
  have hlocks := B.notSynchronized
  have hP := h0.1
  have hK := h0.2.1
  have hi := h0.2.2.1
  have hZ := h0.2.2.2
  have hN := h0.2.2.2.2.2.2.2.1
  have hV := h0.2.2.2.2.2.2.2.2.1
  have hS : va_S (xA G) s.heap s.heap [] := va_S.rf
  have hl := lv_entry ([.ref (G.1 111), .int p1, .int p2]) (n := 4) (Nat.le_of_ble_eq_true rfl)
  rw [lg_entry_eq]
  generalize (lg_sl ([.ref (G.1 111), .int p1, .int p2]) ++ List.replicate (4 - (lg_sl ([.ref (G.1 111), .int p1, .int p2])).length) Slot.unset).toArray = ls at hl ⊢
  have hl : lv_has ls 4 [(0, .ref (G.1 111)), (1, .int p1), (2, .int p2)] := hl
  unfold fX2_likeRoot at h
  refine lv_iload_n hx hb dX2_likeRoot_0 rfl (lv_at hl 1 rfl) ?_
  refine lv_if_lt (tgt := 13) hx hb dX2_likeRoot_1 (by decide) (fun hcq1 => ?_) (fun hcq1 => ?_)
  · have h := ifp hcq1 h
    refine lv_iconst (v := (-1)) hx hb dX2_likeRoot_13 (by decide) ?_
    obtain rfl := Option.some.inj h
    exact W.iret (v := (-1)) hx hb hr (fun t ht hW => ⟨⟨_, _, rfl, ⟨rfl, rfl⟩, xPre_at h0 hS hP ht hW⟩, hS.F ht⟩) hS.2.2 dX2_likeRoot_14
  have h := ifn hcq1 h
  refine lv_iload_n hx hb dX2_likeRoot_4 rfl (lv_at hl 1 rfl) ?_
  refine lv_aload_n hx hb dX2_likeRoot_5 rfl (lv_at hl 0 rfl) ?_
  refine va_get (D := D) (ci := 2) (v := .ref (G.1 85)) (C := RX2) (T := TX2) (N := 5) hx hb hts iwX2 hown hK hP 111 (xg_13 rfl) rfl 4 (by decide) (hts _ mw_207) (fun _ h9 => h9) rfl dX2_likeRoot_6 ?_
  refine va_alen hx hb hK hP 85 0 (xg_2 rfl) rfl (v := Int32.ofNat (xl 85)) rfl dX2_likeRoot_9 ?_
  refine lv_icmp_lt (tgt := 15) hx hb dX2_likeRoot_10 (by decide) (fun hcq2 => ?_) (fun hcq2 => ?_)
  · have h := ifp hcq2 h
    refine lv_aload_n hx hb dX2_likeRoot_15 rfl (lv_at hl 0 rfl) ?_
    refine va_get (D := D) (ci := 2) (v := .ref (G.1 85)) (C := RX2) (T := TX2) (N := 5) hx hb hts iwX2 hown hK hP 111 (xg_13 rfl) rfl 4 (by decide) (hts _ mw_207) (fun _ h9 => h9) rfl dX2_likeRoot_16 ?_
    refine lv_iload_n hx hb dX2_likeRoot_19 rfl (lv_at hl 1 rfl) ?_
    obtain ⟨hiq3, h⟩ := nif h
    refine va_iald hx hb hK hP 85 0 (xg_2 rfl) rfl hiq3 dX2_likeRoot_20 ?_
    refine lv_istore_n (lv' := [(3, .int (σ 85 p1.toNatClampNeg)), (0, .ref (G.1 111)), (1, .int p1), (2, .int p2)]) hx hb dX2_likeRoot_21 rfl hl (by decide) rfl (fun ls hl => ?_)
    refine lv_iload_n hx hb dX2_likeRoot_22 rfl (lv_at hl 0 rfl) ?_
    refine lv_iload_n hx hb dX2_likeRoot_23 rfl (lv_at hl 3 rfl) ?_
    refine lv_ixor hx hb dX2_likeRoot_24 ?_
    refine lv_iconst (v := 1) hx hb dX2_likeRoot_25 (by decide) ?_
    refine lv_iand hx hb dX2_likeRoot_26 ?_
    refine lv_if_ne (tgt := 34) hx hb dX2_likeRoot_27 (by decide) (fun hcq4 => ?_) (fun hcq4 => ?_)
    · have h := ifn hcq4 h
      refine lv_iload_n hx hb dX2_likeRoot_34 rfl (lv_at hl 0 rfl) ?_
      refine lv_iconst (v := 1) hx hb dX2_likeRoot_35 (by decide) ?_
      refine lv_isub hx hb dX2_likeRoot_36 ?_
      obtain rfl := Option.some.inj h
      exact W.iret (v := (σ 85 p1.toNatClampNeg) - 1) hx hb hr (fun t ht hW => ⟨⟨_, _, rfl, ⟨rfl, rfl⟩, xPre_at h0 hS hP ht hW⟩, hS.F ht⟩) hS.2.2 dX2_likeRoot_37
    have h := ifp hcq4 h
    refine lv_iload_n hx hb dX2_likeRoot_30 rfl (lv_at hl 0 rfl) ?_
    refine lv_goto (tgt := 37) hx hb dX2_likeRoot_31 (by decide) ?_
    obtain rfl := Option.some.inj h
    exact W.iret (v := σ 85 p1.toNatClampNeg) hx hb hr (fun t ht hW => ⟨⟨_, _, rfl, ⟨rfl, rfl⟩, xPre_at h0 hS hP ht hW⟩, hS.F ht⟩) hS.2.2 dX2_likeRoot_37
  have h := ifn hcq2 h
  refine lv_iconst (v := (-1)) hx hb dX2_likeRoot_13 (by decide) ?_
  obtain rfl := Option.some.inj h
  exact W.iret (v := (-1)) hx hb hr (fun t ht hW => ⟨⟨_, _, rfl, ⟨rfl, rfl⟩, xPre_at h0 hS hP ht hW⟩, hS.F ht⟩) hS.2.2 dX2_likeRoot_14
def fX2_isHead_L2 (p1 : Int32) : Nat → Int32 → QMem → Option (Int32 × QMem)
  | 0, _, _ => none
  | n + 1, v2, τ =>
  if 24 ≤ v2 then (some (1, τ)) else ((fX6_putUnit 45 v2 τ).bind fun xq2 => ((fX6_becomeMade 46 44 45 p1 xq2).bind fun xq4 => ((fX6_isGreaterThan 46 44 xq4).bind fun xq6 => (if xq6.1 = 0 then ((fX2_isHead_L2 p1 n) (v2 + 1) xq6.2) else (some (0, xq6.2))))))
def fX2_isHead (p1 : Int32) (σ : QMem) : Option (Int32 × QMem) :=
  fX2_isHead_L2 p1 FU 1 σ
set_option maxHeartbeats 4000000 in
set_option maxRecDepth 100000 in
theorem kX2_isHead (l : Launch) (D : va_G) (G : xG) (ub : xB) (σ : QMem) (p1 : Int32) (res : Int32 × QMem) (h : fX2_isHead p1 σ = some res) : Met l yX2_isHead (.code yX2_isHead cX2_isHead 3 (some .boolean) :: lwW) (rmD 2) (xPc D G ub σ [.ref (G.1 111), .int p1]) (xQi D G ub res) 0 0 (xA G) := by
  refine Met.ofW (cc := cX2_isHead) (maxL := 3) (ret := (some .boolean)) (by decide) rfl ?_
  intro p e s m args below meth c s₁ B hml hv
  obtain ⟨rfl, h0⟩ := hv
  have hx := B.exec
  have hb := B.bytes
  have hr := B.returns
  have hts := fun (w : Cond) (hw : w ∈ lwW) => atoms_spec (ws := (.code yX2_isHead cX2_isHead 3 (some .boolean) :: lwW)) B.pre w (List.mem_cons_of_mem _ hw)
  have hown : s.vm.findClass RX2 = some m.cls := findClass_of_methodNamed B.named
  have hlocks := B.notSynchronized
  have hP := h0.1
  have hK := h0.2.1
  have hi := h0.2.2.1
  have hZ := h0.2.2.2
  have hN := h0.2.2.2.2.2.2.2.1
  have hV := h0.2.2.2.2.2.2.2.2.1
  have hS : va_S (xA G) s.heap s.heap [] := va_S.rf
  have hl := lv_entry ([.ref (G.1 111), .int p1]) (n := 3) (Nat.le_of_ble_eq_true rfl)
  rw [lg_entry_eq]
  generalize (lg_sl ([.ref (G.1 111), .int p1]) ++ List.replicate (3 - (lg_sl ([.ref (G.1 111), .int p1])).length) Slot.unset).toArray = ls at hl ⊢
  have hl : lv_has ls 3 [(0, .ref (G.1 111)), (1, .int p1)] := hl
  unfold fX2_isHead at h
  have L2 : ∀ (n2 : Nat) (v2 : Int32) (τ : QMem) (H : Heap) (locs : List Loc) (ls : Array Slot), fX2_isHead_L2 p1 n2 v2 τ = some res → va_P D vwCl (xW G τ) H → va_S (xA G) s.heap H locs → lv_has ls 3 [(0, .ref (G.1 111)), (1, .int p1), (2, .int v2)] → W p l e (headSpec (.code yX2_isHead cX2_isHead 3 (some .boolean) :: lwW) (rmD 2)).room s m ([.ref (G.1 111), .int p1] : List Value).toArray below meth c H locs 0 0 (MQ below (xQi D G ub res) ([.ref (G.1 111), .int p1] : List Value).toArray s 0 0 (xA G)) (F0 m 2 ls []) := by
    intro n2
    induction n2 with
    | zero => intro v2 τ H locs ls h; rw [fX2_isHead_L2] at h; cases h
    | succ n2 ih2 =>
      intro v2 τ H locs ls h hP hS hl
      rw [fX2_isHead_L2] at h
      refine lv_iload_n hx hb dX2_isHead_2 rfl (lv_at hl 2 rfl) ?_
      refine lv_bipush (v := 24) hx hb dX2_isHead_3 (by decide) ?_
      refine lv_icmp_ge (tgt := 54) hx hb dX2_isHead_5 (by decide) (fun hcq1 => ?_) (fun hcq1 => ?_)
      · have h := ifp hcq1 h
        refine lv_iconst (v := 1) hx hb dX2_isHead_54 (by decide) ?_
        obtain rfl := Option.some.inj h
        exact W.zret hx hb hr rfl (fun t ht hW => ⟨⟨_, _, rfl, ⟨rfl, rfl⟩, xPre_at h0 hS hP ht hW⟩, hS.F ht⟩) hS.2.2 dX2_isHead_55
      have h := ifn hcq1 h
      refine lv_aload_n hx hb dX2_isHead_8 rfl (lv_at hl 0 rfl) ?_
      refine va_get (D := D) (ci := 2) (v := .ref (G.1 45)) (C := RX2) (T := TX2) (N := 5) hx hb hts iwX2 hown hK hP 111 (xg_13 rfl) rfl 2 (by decide) (hts _ mw_205) (fun _ h9 => h9) rfl dX2_isHead_9 ?_
      refine lv_iload_n hx hb dX2_isHead_12 rfl (lv_at hl 2 rfl) ?_
      obtain ⟨xq2, hfq3, h⟩ := obd h
      refine va_callv (va_runV (As := [.int v2]) (rest := []) ⟨hx, hb, hml, hown, hts⟩ (kX6_putUnit l D G ub _ 45 rfl v2 xq2 hfq3) (cwV 1 hts (lwW_gV mw_577 mw_471 mw_472 mw_3 mw_473) rfl rfl rfl (by decide +kernel) ⟨Nat.le_of_ble_eq_true rfl, Nat.le_of_ble_eq_true rfl⟩) ⟨fun a U g mk q => ⟨q.1, xPre_call q.2⟩, va_recv hK hP rfl (xg_0 rfl), fun U hU hW => ⟨rfl, xPre_at h0 hS hP hU hW⟩⟩ rfl rfl hl.1 rfl (lv_room (Nat.le_of_ble_eq_true rfl)) dX2_isHead_13 ⟨Nat.zero_le _, Nat.zero_le _⟩) hS (fun q _ h => h) (fun q h => h) (fun u t H1 locs ht hvm hw hB hz1 hq1 hS => ?_)
      obtain rfl := hw.symm
      have hP := hB.1
      rw [ht] at hP
      refine W.widen (k := 0) (n := 0) (Nat.le_refl _) (Nat.le_refl _) ?_
      refine lv_aload_n hx hb dX2_isHead_16 rfl (lv_at hl 0 rfl) ?_
      refine va_get (D := D) (ci := 2) (v := .ref (G.1 46)) (C := RX2) (T := TX2) (N := 5) hx hb hts iwX2 hown hK hP 111 (xg_13 rfl) rfl 3 (by decide) (hts _ mw_206) (fun _ h9 => h9) rfl dX2_isHead_17 ?_
      refine lv_aload_n hx hb dX2_isHead_20 rfl (lv_at hl 0 rfl) ?_
      refine va_get (D := D) (ci := 2) (v := .ref (G.1 44)) (C := RX2) (T := TX2) (N := 5) hx hb hts iwX2 hown hK hP 111 (xg_13 rfl) rfl 1 (by decide) (hts _ mw_204) (fun _ h9 => h9) rfl dX2_isHead_21 ?_
      refine lv_aload_n hx hb dX2_isHead_24 rfl (lv_at hl 0 rfl) ?_
      refine va_get (D := D) (ci := 2) (v := .ref (G.1 45)) (C := RX2) (T := TX2) (N := 5) hx hb hts iwX2 hown hK hP 111 (xg_13 rfl) rfl 2 (by decide) (hts _ mw_205) (fun _ h9 => h9) rfl dX2_isHead_25 ?_
      refine lv_iload_n hx hb dX2_isHead_28 rfl (lv_at hl 1 rfl) ?_
      obtain ⟨xq4, hfq5, h⟩ := obd h
      refine va_callv (va_runV (As := [.ref (G.1 44), .ref (G.1 45), .int p1]) (rest := []) ⟨hx, hb, hml, hown, hts⟩ (kX6_becomeMade l D G ub _ 46 rfl 44 rfl 45 rfl p1 xq4 hfq5) (cwV 3 hts (lwW_gV mw_578 mw_579 mw_580 mw_3 mw_581) rfl rfl rfl (by decide +kernel) ⟨Nat.le_of_ble_eq_true rfl, Nat.le_of_ble_eq_true rfl⟩) ⟨fun a U g mk q => ⟨q.1, xPre_call q.2⟩, va_recv hK hP rfl (xg_0 rfl), fun U hU hW => ⟨rfl, xPre_at h0 hS hP hU hW⟩⟩ rfl rfl hl.1 rfl (lv_room (Nat.le_of_ble_eq_true rfl)) dX2_isHead_29 ⟨Nat.zero_le _, Nat.zero_le _⟩) hS (fun q _ h => h) (fun q h => h) (fun u t H1 locs ht hvm hw hB hz1 hq1 hS => ?_)
      obtain rfl := hw.symm
      have hP := hB.1
      rw [ht] at hP
      refine W.widen (k := 0) (n := 0) (Nat.le_refl _) (Nat.le_refl _) ?_
      refine lv_aload_n hx hb dX2_isHead_32 rfl (lv_at hl 0 rfl) ?_
      refine va_get (D := D) (ci := 2) (v := .ref (G.1 46)) (C := RX2) (T := TX2) (N := 5) hx hb hts iwX2 hown hK hP 111 (xg_13 rfl) rfl 3 (by decide) (hts _ mw_206) (fun _ h9 => h9) rfl dX2_isHead_33 ?_
      refine lv_aload_n hx hb dX2_isHead_36 rfl (lv_at hl 0 rfl) ?_
      refine va_get (D := D) (ci := 2) (v := .ref (G.1 44)) (C := RX2) (T := TX2) (N := 5) hx hb hts iwX2 hown hK hP 111 (xg_13 rfl) rfl 1 (by decide) (hts _ mw_204) (fun _ h9 => h9) rfl dX2_isHead_37 ?_
      obtain ⟨xq6, hfq7, h⟩ := obd h
      refine va_calli (va_runV (As := [.ref (G.1 44)]) (rest := []) ⟨hx, hb, hml, hown, hts⟩ (kX6_isGreaterThan l D G ub _ 46 rfl 44 rfl xq6 hfq7) (cwV 1 hts (lwW_gV mw_586 mw_587 mw_588 mw_3 mw_589) rfl rfl rfl (by decide +kernel) ⟨Nat.le_of_ble_eq_true rfl, Nat.le_of_ble_eq_true rfl⟩) ⟨fun a U g mk q => ⟨q.1, xPre_call q.2⟩, va_recv hK hP rfl (xg_0 rfl), fun U hU hW => ⟨rfl, xPre_at h0 hS hP hU hW⟩⟩ rfl rfl hl.1 rfl (lv_room (Nat.le_of_ble_eq_true rfl)) dX2_isHead_40 ⟨Nat.zero_le _, Nat.zero_le _⟩) hS (fun q _ h => h) (fun q h => h) (fun r u t H1 locs ht hvm hw hB hz1 hq1 hS => ?_)
      obtain ⟨rfl, rfl⟩ := hw
      have hP := hB.1
      rw [ht] at hP
      refine W.widen (k := 0) (n := 0) (Nat.le_refl _) (Nat.le_refl _) ?_
      refine lv_if_eq (tgt := 48) hx hb dX2_isHead_43 (by decide) (fun hcq8 => ?_) (fun hcq8 => ?_)
      · have h := ifp hcq8 h
        refine lv_iinc (v := v2 + 1) (lv' := [(2, .int (v2 + 1)), (0, .ref (G.1 111)), (1, .int p1)]) hx hb dX2_isHead_48 hl (k := 2) rfl rfl (by decide) rfl (fun ls hl => ?_)
        refine lv_goto (tgt := 2) hx hb dX2_isHead_51 (by decide) ?_
        exact ih2 (v2 + 1) _ _ _ _ h hP hS (lv_sub hl [1, 2, 0] rfl)
      have h := ifn hcq8 h
      refine lv_iconst (v := 0) hx hb dX2_isHead_46 (by decide) ?_
      obtain rfl := Option.some.inj h
      exact W.zret hx hb hr rfl (fun t ht hW => ⟨⟨_, _, rfl, ⟨rfl, rfl⟩, xPre_at h0 hS hP ht hW⟩, hS.F ht⟩) hS.2.2 dX2_isHead_47
  refine lv_iconst (v := 1) hx hb dX2_isHead_0 (by decide) ?_
  refine lv_istore_n (lv' := [(2, .int 1), (0, .ref (G.1 111)), (1, .int p1)]) hx hb dX2_isHead_1 rfl hl (by decide) rfl (fun ls hl => ?_)
  exact L2 FU 1 _ _ _ _ h hP hS (lv_sub hl [1, 2, 0] rfl)
def fX2_offer_J118 (p1 : Int32) (p2 : Int32) (p3 : Int32) (p4 : Int32) (p5 : Int32) (v6 : Int32) (τ : QMem) : Option (QMem) :=
  (fX7_append 57 p1 p2 p3 (-v6) τ).bind fun xq1 => (some xq1)
def fX2_offer_J85 (p1 : Int32) (p2 : Int32) (p3 : Int32) (p4 : Int32) (p5 : Int32) (v6 : Int32) (v7 : Int32) (τ : QMem) : Option (QMem) :=
  (fX6_put 44 p1 p2 p3 (-v6) τ).bind fun xq5 => (if v6 ≤ 0 then (some xq5) else (if v7 < p1 then (fX2_offer_J118 p1 p2 p3 p4 p5 v6 xq5) else ((fX2_isHead p5 xq5).bind fun xq9 => (if xq9.1 = 0 then (some xq9.2) else (fX2_offer_J118 p1 p2 p3 p4 p5 v6 xq9.2)))))
def fX2_offer_J73 (p1 : Int32) (p2 : Int32) (p3 : Int32) (p4 : Int32) (p5 : Int32) (v6 : Int32) (v7 : Int32) (τ : QMem) : Option (QMem) :=
  (fX7_append 57 p1 p2 p3 v6 τ).bind fun xq19 => (fX2_offer_J85 p1 p2 p3 p4 p5 v6 v7 xq19)
def fX2_offer (p1 : Int32) (p2 : Int32) (p3 : Int32) (p4 : Int32) (p5 : Int32) (σ : QMem) : Option (QMem) :=
  (fX2_likeRoot p4 p1 σ).bind fun xq23 => (if xq23.1 < 0 then (some xq23.2) else (if (xq23.1 * xq23.1) = p4 then (if (((if 0 ≤ p2 then p2 else 0 - p2) + (if 0 ≤ p3 then p3 else 0 - p3)) + xq23.1) ≤ p1 then ((fX6_put 44 p1 p2 p3 xq23.1 xq23.2).bind fun xq28 => (if (((if 0 ≤ p2 then p2 else 0 - p2) + (if 0 ≤ p3 then p3 else 0 - p3)) + xq23.1) < p1 then (fX2_offer_J73 p1 p2 p3 p4 p5 xq23.1 (((if 0 ≤ p2 then p2 else 0 - p2) + (if 0 ≤ p3 then p3 else 0 - p3)) + xq23.1) xq28) else ((fX2_isHead p5 xq28).bind fun xq31 => (if xq31.1 = 0 then (fX2_offer_J85 p1 p2 p3 p4 p5 xq23.1 (((if 0 ≤ p2 then p2 else 0 - p2) + (if 0 ≤ p3 then p3 else 0 - p3)) + xq23.1) xq31.2) else (fX2_offer_J73 p1 p2 p3 p4 p5 xq23.1 (((if 0 ≤ p2 then p2 else 0 - p2) + (if 0 ≤ p3 then p3 else 0 - p3)) + xq23.1) xq31.2))))) else (some xq23.2)) else (some xq23.2)))
set_option maxHeartbeats 4000000 in
set_option maxRecDepth 100000 in
theorem kX2_offer (l : Launch) (D : va_G) (G : xG) (ub : xB) (σ : QMem) (p1 : Int32) (p2 : Int32) (p3 : Int32) (p4 : Int32) (p5 : Int32) (res : QMem) (h : fX2_offer p1 p2 p3 p4 p5 σ = some res) : Met l yX2_offer (.code yX2_offer cX2_offer 8 none :: lwW) (rmD 3) (xPc D G ub σ [.ref (G.1 111), .int p1, .int p2, .int p3, .int p4, .int p5]) (xQv D G ub res) 0 0 (xA G) := by
  refine Met.ofW (cc := cX2_offer) (maxL := 8) (ret := none) (by decide) rfl ?_
  intro p e s m args below meth c s₁ B hml hv
  obtain ⟨rfl, h0⟩ := hv
  have hx := B.exec
  have hb := B.bytes
  have hr := B.returns
  have hts := fun (w : Cond) (hw : w ∈ lwW) => atoms_spec (ws := (.code yX2_offer cX2_offer 8 none :: lwW)) B.pre w (List.mem_cons_of_mem _ hw)
  have hown : s.vm.findClass RX2 = some m.cls := findClass_of_methodNamed B.named
  have hlocks := B.notSynchronized
  have hP := h0.1
  have hK := h0.2.1
  have hi := h0.2.2.1
  have hZ := h0.2.2.2
  have hN := h0.2.2.2.2.2.2.2.1
  have hV := h0.2.2.2.2.2.2.2.2.1
  have hS : va_S (xA G) s.heap s.heap [] := va_S.rf
  have hl := lv_entry ([.ref (G.1 111), .int p1, .int p2, .int p3, .int p4, .int p5]) (n := 8) (Nat.le_of_ble_eq_true rfl)
  rw [lg_entry_eq]
  generalize (lg_sl ([.ref (G.1 111), .int p1, .int p2, .int p3, .int p4, .int p5]) ++ List.replicate (8 - (lg_sl ([.ref (G.1 111), .int p1, .int p2, .int p3, .int p4, .int p5])).length) Slot.unset).toArray = ls at hl ⊢
  have hl : lv_has ls 8 [(0, .ref (G.1 111)), (1, .int p1), (2, .int p2), (3, .int p3), (4, .int p4), (5, .int p5)] := hl
  unfold fX2_offer at h
  have J118 : ∀ (v6 : Int32) (τ : QMem) (H : Heap) (locs : List Loc) (ls : Array Slot), fX2_offer_J118 p1 p2 p3 p4 p5 v6 τ = some res → va_P D vwCl (xW G τ) H → va_S (xA G) s.heap H locs → lv_has ls 8 [(0, .ref (G.1 111)), (1, .int p1), (2, .int p2), (3, .int p3), (6, .int v6)] → W p l e (headSpec (.code yX2_offer cX2_offer 8 none :: lwW) (rmD 3)).room s m ([.ref (G.1 111), .int p1, .int p2, .int p3, .int p4, .int p5] : List Value).toArray below meth c H locs 0 0 (MQ below (xQv D G ub res) ([.ref (G.1 111), .int p1, .int p2, .int p3, .int p4, .int p5] : List Value).toArray s 0 0 (xA G)) (F0 m 118 ls []) := by
    intro v6 τ H locs ls h hP hS hl
    unfold fX2_offer_J118 at h
    refine lv_aload_n hx hb dX2_offer_118 rfl (lv_at hl 0 rfl) ?_
    refine va_get (D := D) (ci := 2) (v := .ref (G.1 57)) (C := RX2) (T := TX2) (N := 5) hx hb hts iwX2 hown hK hP 111 (xg_13 rfl) rfl 0 (by decide) (hts _ mw_201) (fun _ h9 => h9) rfl dX2_offer_119 ?_
    refine lv_iload_n hx hb dX2_offer_122 rfl (lv_at hl 1 rfl) ?_
    refine lv_iload_n hx hb dX2_offer_123 rfl (lv_at hl 2 rfl) ?_
    refine lv_iload_n hx hb dX2_offer_124 rfl (lv_at hl 3 rfl) ?_
    refine lv_iload hx hb dX2_offer_125 (lv_at hl 4 rfl) ?_
    refine lv_ineg hx hb dX2_offer_127 ?_
    obtain ⟨xq3, hfq4, h⟩ := obd h
    refine va_callv (va_runV (As := [.int p1, .int p2, .int p3, .int (-v6)]) (rest := []) ⟨hx, hb, hml, hown, hts⟩ (kX7_append l D G ub _ 57 rfl p1 p2 p3 (-v6) xq3 hfq4) (cwV 4 hts (lwW_gV mw_590 mw_591 mw_592 mw_10 mw_593) rfl rfl rfl (by decide +kernel) ⟨Nat.le_of_ble_eq_true rfl, Nat.le_of_ble_eq_true rfl⟩) ⟨fun a U g mk q => ⟨q.1, xPre_call q.2⟩, va_recv hK hP rfl (xg_1 rfl), fun U hU hW => ⟨rfl, xPre_at h0 hS hP hU hW⟩⟩ rfl rfl hl.1 rfl (lv_room (Nat.le_of_ble_eq_true rfl)) dX2_offer_128 ⟨Nat.zero_le _, Nat.zero_le _⟩) hS (fun q _ h => h) (fun q h => h) (fun u t H1 locs ht hvm hw hB hz1 hq1 hS => ?_)
    obtain rfl := hw.symm
    have hP := hB.1
    rw [ht] at hP
    refine W.widen (k := 0) (n := 0) (Nat.le_refl _) (Nat.le_refl _) ?_
    obtain rfl := Option.some.inj h
    exact W.vret hx hb hr (fun t ht hW => ⟨⟨_, rfl, rfl, xPre_at h0 hS hP ht hW⟩, hS.F ht⟩) hS.2.2 dX2_offer_131
  have J85 : ∀ (v6 : Int32) (v7 : Int32) (τ : QMem) (H : Heap) (locs : List Loc) (ls : Array Slot), fX2_offer_J85 p1 p2 p3 p4 p5 v6 v7 τ = some res → va_P D vwCl (xW G τ) H → va_S (xA G) s.heap H locs → lv_has ls 8 [(0, .ref (G.1 111)), (1, .int p1), (2, .int p2), (3, .int p3), (5, .int p5), (6, .int v6), (7, .int v7)] → W p l e (headSpec (.code yX2_offer cX2_offer 8 none :: lwW) (rmD 3)).room s m ([.ref (G.1 111), .int p1, .int p2, .int p3, .int p4, .int p5] : List Value).toArray below meth c H locs 0 0 (MQ below (xQv D G ub res) ([.ref (G.1 111), .int p1, .int p2, .int p3, .int p4, .int p5] : List Value).toArray s 0 0 (xA G)) (F0 m 85 ls []) := by
    intro v6 v7 τ H locs ls h hP hS hl
    unfold fX2_offer_J85 at h
    refine lv_aload_n hx hb dX2_offer_85 rfl (lv_at hl 0 rfl) ?_
    refine va_get (D := D) (ci := 2) (v := .ref (G.1 44)) (C := RX2) (T := TX2) (N := 5) hx hb hts iwX2 hown hK hP 111 (xg_13 rfl) rfl 1 (by decide) (hts _ mw_204) (fun _ h9 => h9) rfl dX2_offer_86 ?_
    refine lv_iload_n hx hb dX2_offer_89 rfl (lv_at hl 1 rfl) ?_
    refine lv_iload_n hx hb dX2_offer_90 rfl (lv_at hl 2 rfl) ?_
    refine lv_iload_n hx hb dX2_offer_91 rfl (lv_at hl 3 rfl) ?_
    refine lv_iload hx hb dX2_offer_92 (lv_at hl 5 rfl) ?_
    refine lv_ineg hx hb dX2_offer_94 ?_
    obtain ⟨xq12, hfq13, h⟩ := obd h
    refine va_callv (va_runV (As := [.int p1, .int p2, .int p3, .int (-v6)]) (rest := []) ⟨hx, hb, hml, hown, hts⟩ (kX6_put l D G ub _ 44 rfl p1 p2 p3 (-v6) xq12 hfq13) (cwV 4 hts (lwW_gV mw_572 mw_467 mw_468 mw_3 mw_469) rfl rfl rfl (by decide +kernel) ⟨Nat.le_of_ble_eq_true rfl, Nat.le_of_ble_eq_true rfl⟩) ⟨fun a U g mk q => ⟨q.1, xPre_call q.2⟩, va_recv hK hP rfl (xg_0 rfl), fun U hU hW => ⟨rfl, xPre_at h0 hS hP hU hW⟩⟩ rfl rfl hl.1 rfl (lv_room (Nat.le_of_ble_eq_true rfl)) dX2_offer_95 ⟨Nat.zero_le _, Nat.zero_le _⟩) hS (fun q _ h => h) (fun q h => h) (fun u t H1 locs ht hvm hw hB hz1 hq1 hS => ?_)
    obtain rfl := hw.symm
    have hP := hB.1
    rw [ht] at hP
    refine W.widen (k := 0) (n := 0) (Nat.le_refl _) (Nat.le_refl _) ?_
    refine lv_iload hx hb dX2_offer_98 (lv_at hl 5 rfl) ?_
    refine lv_if_le (tgt := 131) hx hb dX2_offer_100 (by decide) (fun hcq14 => ?_) (fun hcq14 => ?_)
    · have h := ifp hcq14 h
      obtain rfl := Option.some.inj h
      exact W.vret hx hb hr (fun t ht hW => ⟨⟨_, rfl, rfl, xPre_at h0 hS hP ht hW⟩, hS.F ht⟩) hS.2.2 dX2_offer_131
    have h := ifn hcq14 h
    refine lv_iload hx hb dX2_offer_103 (lv_at hl 6 rfl) ?_
    refine lv_iload_n hx hb dX2_offer_105 rfl (lv_at hl 1 rfl) ?_
    refine lv_icmp_lt (tgt := 118) hx hb dX2_offer_106 (by decide) (fun hcq15 => ?_) (fun hcq15 => ?_)
    · have h := ifp hcq15 h
      exact J118 v6 _ _ _ _ h hP hS (lv_sub hl [0, 1, 2, 3, 5] rfl)
    have h := ifn hcq15 h
    refine lv_aload_n hx hb dX2_offer_109 rfl (lv_at hl 0 rfl) ?_
    refine lv_iload hx hb dX2_offer_110 (lv_at hl 4 rfl) ?_
    obtain ⟨xq16, hfq17, h⟩ := obd h
    refine va_calli (va_runV (As := [.int p5]) (rest := []) ⟨hx, hb, hml, hown, hts⟩ (kX2_isHead l D G ub _ p5 xq16 hfq17) (cwV 1 hts (lwW_gV mw_573 mw_575 ms_14 mw_9 mw_576) rfl rfl rfl (by decide +kernel) ⟨Nat.le_of_ble_eq_true rfl, Nat.le_of_ble_eq_true rfl⟩) ⟨fun a U g mk q => ⟨q.1, xPre_call q.2⟩, va_recv hK hP rfl (xg_13 rfl), fun U hU hW => ⟨rfl, xPre_at h0 hS hP hU hW⟩⟩ rfl rfl hl.1 rfl (lv_room (Nat.le_of_ble_eq_true rfl)) dX2_offer_112 ⟨Nat.zero_le _, Nat.zero_le _⟩) hS (fun q _ h => h) (fun q h => h) (fun r u t H1 locs ht hvm hw hB hz1 hq1 hS => ?_)
    obtain ⟨rfl, rfl⟩ := hw
    have hP := hB.1
    rw [ht] at hP
    refine W.widen (k := 0) (n := 0) (Nat.le_refl _) (Nat.le_refl _) ?_
    refine lv_if_eq (tgt := 131) hx hb dX2_offer_115 (by decide) (fun hcq18 => ?_) (fun hcq18 => ?_)
    · have h := ifp hcq18 h
      obtain rfl := Option.some.inj h
      exact W.vret hx hb hr (fun t ht hW => ⟨⟨_, rfl, rfl, xPre_at h0 hS hP ht hW⟩, hS.F ht⟩) hS.2.2 dX2_offer_131
    have h := ifn hcq18 h
    exact J118 v6 _ _ _ _ h hP hS (lv_sub hl [0, 1, 2, 3, 5] rfl)
  have J73 : ∀ (v6 : Int32) (v7 : Int32) (τ : QMem) (H : Heap) (locs : List Loc) (ls : Array Slot), fX2_offer_J73 p1 p2 p3 p4 p5 v6 v7 τ = some res → va_P D vwCl (xW G τ) H → va_S (xA G) s.heap H locs → lv_has ls 8 [(0, .ref (G.1 111)), (1, .int p1), (2, .int p2), (3, .int p3), (5, .int p5), (6, .int v6), (7, .int v7)] → W p l e (headSpec (.code yX2_offer cX2_offer 8 none :: lwW) (rmD 3)).room s m ([.ref (G.1 111), .int p1, .int p2, .int p3, .int p4, .int p5] : List Value).toArray below meth c H locs 0 0 (MQ below (xQv D G ub res) ([.ref (G.1 111), .int p1, .int p2, .int p3, .int p4, .int p5] : List Value).toArray s 0 0 (xA G)) (F0 m 73 ls []) := by
    intro v6 v7 τ H locs ls h hP hS hl
    unfold fX2_offer_J73 at h
    refine lv_aload_n hx hb dX2_offer_73 rfl (lv_at hl 0 rfl) ?_
    refine va_get (D := D) (ci := 2) (v := .ref (G.1 57)) (C := RX2) (T := TX2) (N := 5) hx hb hts iwX2 hown hK hP 111 (xg_13 rfl) rfl 0 (by decide) (hts _ mw_201) (fun _ h9 => h9) rfl dX2_offer_74 ?_
    refine lv_iload_n hx hb dX2_offer_77 rfl (lv_at hl 1 rfl) ?_
    refine lv_iload_n hx hb dX2_offer_78 rfl (lv_at hl 2 rfl) ?_
    refine lv_iload_n hx hb dX2_offer_79 rfl (lv_at hl 3 rfl) ?_
    refine lv_iload hx hb dX2_offer_80 (lv_at hl 5 rfl) ?_
    obtain ⟨xq21, hfq22, h⟩ := obd h
    refine va_callv (va_runV (As := [.int p1, .int p2, .int p3, .int v6]) (rest := []) ⟨hx, hb, hml, hown, hts⟩ (kX7_append l D G ub _ 57 rfl p1 p2 p3 v6 xq21 hfq22) (cwV 4 hts (lwW_gV mw_590 mw_591 mw_592 mw_10 mw_593) rfl rfl rfl (by decide +kernel) ⟨Nat.le_of_ble_eq_true rfl, Nat.le_of_ble_eq_true rfl⟩) ⟨fun a U g mk q => ⟨q.1, xPre_call q.2⟩, va_recv hK hP rfl (xg_1 rfl), fun U hU hW => ⟨rfl, xPre_at h0 hS hP hU hW⟩⟩ rfl rfl hl.1 rfl (lv_room (Nat.le_of_ble_eq_true rfl)) dX2_offer_82 ⟨Nat.zero_le _, Nat.zero_le _⟩) hS (fun q _ h => h) (fun q h => h) (fun u t H1 locs ht hvm hw hB hz1 hq1 hS => ?_)
    obtain rfl := hw.symm
    have hP := hB.1
    rw [ht] at hP
    refine W.widen (k := 0) (n := 0) (Nat.le_refl _) (Nat.le_refl _) ?_
    exact J85 v6 v7 _ _ _ _ h hP hS (lv_sub hl [0, 1, 2, 3, 4, 5, 6] rfl)
  refine lv_aload_n hx hb dX2_offer_0 rfl (lv_at hl 0 rfl) ?_
  refine lv_iload hx hb dX2_offer_1 (lv_at hl 4 rfl) ?_
  refine lv_iload_n hx hb dX2_offer_3 rfl (lv_at hl 1 rfl) ?_
  obtain ⟨xq23, hfq24, h⟩ := obd h
  refine va_calli (va_runV (As := [.int p4, .int p1]) (rest := []) ⟨hx, hb, hml, hown, hts⟩ (kX2_likeRoot l D G ub _ p4 p1 xq23 hfq24) (cwV 2 hts (lwW_gV mw_561 mw_563 ms_12 mw_9 mw_564) rfl rfl rfl (by decide +kernel) ⟨Nat.le_of_ble_eq_true rfl, Nat.le_of_ble_eq_true rfl⟩) ⟨fun a U g mk q => ⟨q.1, xPre_call q.2⟩, va_recv hK hP rfl (xg_13 rfl), fun U hU hW => ⟨rfl, xPre_at h0 hS hP hU hW⟩⟩ rfl rfl hl.1 rfl (lv_room (Nat.le_of_ble_eq_true rfl)) dX2_offer_4 ⟨Nat.zero_le _, Nat.zero_le _⟩) hS (fun q _ h => h) (fun q h => h) (fun r u t H1 locs ht hvm hw hB hz1 hq1 hS => ?_)
  obtain ⟨rfl, rfl⟩ := hw
  have hP := hB.1
  rw [ht] at hP
  refine W.widen (k := 0) (n := 0) (Nat.le_refl _) (Nat.le_refl _) ?_
  refine lv_istore (lv' := [(6, .int xq23.1), (0, .ref (G.1 111)), (1, .int p1), (2, .int p2), (3, .int p3), (4, .int p4), (5, .int p5)]) hx hb dX2_offer_7 hl (by decide) rfl (fun ls hl => ?_)
  refine lv_iload hx hb dX2_offer_9 (lv_at hl 0 rfl) ?_
  refine lv_if_lt (tgt := 24) hx hb dX2_offer_11 (by decide) (fun hcq25 => ?_) (fun hcq25 => ?_)
  · have h := ifp hcq25 h
    obtain rfl := Option.some.inj h
    exact W.vret hx hb hr (fun t ht hW => ⟨⟨_, rfl, rfl, xPre_at h0 hS hP ht hW⟩, hS.F ht⟩) hS.2.2 dX2_offer_24
  have h := ifn hcq25 h
  refine lv_iload hx hb dX2_offer_14 (lv_at hl 0 rfl) ?_
  refine lv_iload hx hb dX2_offer_16 (lv_at hl 0 rfl) ?_
  refine lv_imul hx hb dX2_offer_18 ?_
  refine lv_iload hx hb dX2_offer_19 (lv_at hl 5 rfl) ?_
  refine lv_icmp_eq (tgt := 25) hx hb dX2_offer_21 (by decide) (fun hcq26 => ?_) (fun hcq26 => ?_)
  · have h := ifp hcq26 h
    refine lv_iload_n hx hb dX2_offer_25 rfl (lv_at hl 3 rfl) ?_
    refine va_mabs hx hb (by rw [hml]; exact hl.1.symm) hown (hts _ mm_RX2_67) (hts _ mms_abs) (hts _ mw_2) (hts _ mmc_abs) (Nat.le_of_ble_eq_true rfl) (Nat.le_of_ble_eq_true rfl) (Nat.zero_le _) (Nat.zero_le _) dX2_offer_26 ?_
    refine lv_iload_n hx hb dX2_offer_29 rfl (lv_at hl 4 rfl) ?_
    refine va_mabs hx hb (by rw [hml]; exact hl.1.symm) hown (hts _ mm_RX2_67) (hts _ mms_abs) (hts _ mw_2) (hts _ mmc_abs) (Nat.le_of_ble_eq_true rfl) (Nat.le_of_ble_eq_true rfl) (Nat.zero_le _) (Nat.zero_le _) dX2_offer_30 ?_
    refine lv_iadd hx hb dX2_offer_33 ?_
    refine lv_iload hx hb dX2_offer_34 (lv_at hl 0 rfl) ?_
    refine lv_iadd hx hb dX2_offer_36 ?_
    refine lv_istore (lv' := [(7, .int (((if 0 ≤ p2 then p2 else 0 - p2) + (if 0 ≤ p3 then p3 else 0 - p3)) + xq23.1)), (6, .int xq23.1), (0, .ref (G.1 111)), (1, .int p1), (2, .int p2), (3, .int p3), (4, .int p4), (5, .int p5)]) hx hb dX2_offer_37 hl (by decide) rfl (fun ls hl => ?_)
    refine lv_iload hx hb dX2_offer_39 (lv_at hl 0 rfl) ?_
    refine lv_iload_n hx hb dX2_offer_41 rfl (lv_at hl 3 rfl) ?_
    refine lv_icmp_le (tgt := 46) hx hb dX2_offer_42 (by decide) (fun hcq27 => ?_) (fun hcq27 => ?_)
    · have h := ifp hcq27 h
      refine lv_aload_n hx hb dX2_offer_46 rfl (lv_at hl 2 rfl) ?_
      refine va_get (D := D) (ci := 2) (v := .ref (G.1 44)) (C := RX2) (T := TX2) (N := 5) hx hb hts iwX2 hown hK hP 111 (xg_13 rfl) rfl 1 (by decide) (hts _ mw_204) (fun _ h9 => h9) rfl dX2_offer_47 ?_
      refine lv_iload_n hx hb dX2_offer_50 rfl (lv_at hl 3 rfl) ?_
      refine lv_iload_n hx hb dX2_offer_51 rfl (lv_at hl 4 rfl) ?_
      refine lv_iload_n hx hb dX2_offer_52 rfl (lv_at hl 5 rfl) ?_
      refine lv_iload hx hb dX2_offer_53 (lv_at hl 1 rfl) ?_
      obtain ⟨xq28, hfq29, h⟩ := obd h
      refine va_callv (va_runV (As := [.int p1, .int p2, .int p3, .int xq23.1]) (rest := []) ⟨hx, hb, hml, hown, hts⟩ (kX6_put l D G ub _ 44 rfl p1 p2 p3 xq23.1 xq28 hfq29) (cwV 4 hts (lwW_gV mw_572 mw_467 mw_468 mw_3 mw_469) rfl rfl rfl (by decide +kernel) ⟨Nat.le_of_ble_eq_true rfl, Nat.le_of_ble_eq_true rfl⟩) ⟨fun a U g mk q => ⟨q.1, xPre_call q.2⟩, va_recv hK hP rfl (xg_0 rfl), fun U hU hW => ⟨rfl, xPre_at h0 hS hP hU hW⟩⟩ rfl rfl hl.1 rfl (lv_room (Nat.le_of_ble_eq_true rfl)) dX2_offer_55 ⟨Nat.zero_le _, Nat.zero_le _⟩) hS (fun q _ h => h) (fun q h => h) (fun u t H1 locs ht hvm hw hB hz1 hq1 hS => ?_)
      obtain rfl := hw.symm
      have hP := hB.1
      rw [ht] at hP
      refine W.widen (k := 0) (n := 0) (Nat.le_refl _) (Nat.le_refl _) ?_
      refine lv_iload hx hb dX2_offer_58 (lv_at hl 0 rfl) ?_
      refine lv_iload_n hx hb dX2_offer_60 rfl (lv_at hl 3 rfl) ?_
      refine lv_icmp_lt (tgt := 73) hx hb dX2_offer_61 (by decide) (fun hcq30 => ?_) (fun hcq30 => ?_)
      · have h := ifp hcq30 h
        exact J73 xq23.1 (((if 0 ≤ p2 then p2 else 0 - p2) + (if 0 ≤ p3 then p3 else 0 - p3)) + xq23.1) _ _ _ _ h hP hS (lv_sub hl [2, 3, 4, 5, 7, 1, 0] rfl)
      have h := ifn hcq30 h
      refine lv_aload_n hx hb dX2_offer_64 rfl (lv_at hl 2 rfl) ?_
      refine lv_iload hx hb dX2_offer_65 (lv_at hl 7 rfl) ?_
      obtain ⟨xq31, hfq32, h⟩ := obd h
      refine va_calli (va_runV (As := [.int p5]) (rest := []) ⟨hx, hb, hml, hown, hts⟩ (kX2_isHead l D G ub _ p5 xq31 hfq32) (cwV 1 hts (lwW_gV mw_573 mw_575 ms_14 mw_9 mw_576) rfl rfl rfl (by decide +kernel) ⟨Nat.le_of_ble_eq_true rfl, Nat.le_of_ble_eq_true rfl⟩) ⟨fun a U g mk q => ⟨q.1, xPre_call q.2⟩, va_recv hK hP rfl (xg_13 rfl), fun U hU hW => ⟨rfl, xPre_at h0 hS hP hU hW⟩⟩ rfl rfl hl.1 rfl (lv_room (Nat.le_of_ble_eq_true rfl)) dX2_offer_67 ⟨Nat.zero_le _, Nat.zero_le _⟩) hS (fun q _ h => h) (fun q h => h) (fun r u t H1 locs ht hvm hw hB hz1 hq1 hS => ?_)
      obtain ⟨rfl, rfl⟩ := hw
      have hP := hB.1
      rw [ht] at hP
      refine W.widen (k := 0) (n := 0) (Nat.le_refl _) (Nat.le_refl _) ?_
      refine lv_if_eq (tgt := 85) hx hb dX2_offer_70 (by decide) (fun hcq33 => ?_) (fun hcq33 => ?_)
      · have h := ifp hcq33 h
        exact J85 xq23.1 (((if 0 ≤ p2 then p2 else 0 - p2) + (if 0 ≤ p3 then p3 else 0 - p3)) + xq23.1) _ _ _ _ h hP hS (lv_sub hl [2, 3, 4, 5, 7, 1, 0] rfl)
      have h := ifn hcq33 h
      exact J73 xq23.1 (((if 0 ≤ p2 then p2 else 0 - p2) + (if 0 ≤ p3 then p3 else 0 - p3)) + xq23.1) _ _ _ _ h hP hS (lv_sub hl [2, 3, 4, 5, 7, 1, 0] rfl)
    have h := ifn hcq27 h
    obtain rfl := Option.some.inj h
    exact W.vret hx hb hr (fun t ht hW => ⟨⟨_, rfl, rfl, xPre_at h0 hS hP ht hW⟩, hS.F ht⟩) hS.2.2 dX2_offer_45
  have h := ifn hcq26 h
  obtain rfl := Option.some.inj h
  exact W.vret hx hb hr (fun t ht hW => ⟨⟨_, rfl, rfl, xPre_at h0 hS hP ht hW⟩, hS.F ht⟩) hS.2.2 dX2_offer_24
def fX2_gather_J121 (p1 : Int32) (p2 : Int32) (K10 : Int32 → QMem → Option (QMem)) (v3 : Int32) (τ : QMem) : Option (QMem) :=
  K10 (v3 + (-1)) τ
def fX2_gather_L83 (p1 : Int32) (p2 : Int32) (K10 : Int32 → QMem → Option (QMem)) (K52 : Int32 → Int32 → Int32 → Int32 → QMem → Option (QMem)) : Nat → Int32 → Int32 → Int32 → Int32 → Int32 → Int32 → Int32 → QMem → Option (QMem)
  | 0, _, _, _, _, _, _, _, _ => none
  | n + 1, v3, v4, v5, v6, v7, v8, v9, τ =>
  if v9 < (-v8) then (K52 v3 v4 v5 (v6 + (-2)) τ) else ((fX2_offer v3 v6 v9 (v7 - (v9 * v9)) p2 τ).bind fun xq2 => ((fX2_gather_L83 p1 p2 K10 K52 n) v3 v4 v5 v6 v7 v8 (v9 + (-2)) xq2))
def fX2_gather_L52 (p1 : Int32) (p2 : Int32) (K10 : Int32 → QMem → Option (QMem)) : Nat → Int32 → Int32 → Int32 → Int32 → QMem → Option (QMem)
  | 0, _, _, _, _, _ => none
  | n + 1, v3, v4, v5, v6, τ =>
  if v6 < (-v5) then (fX2_gather_J121 p1 p2 K10 v3 τ) else ((fX2_likeRoot (v4 - (v6 * v6)) v3 τ).bind fun xq5 => (fX2_gather_L83 p1 p2 K10 (fX2_gather_L52 p1 p2 K10 n) FU v3 v4 v5 v6 (v4 - (v6 * v6)) xq5.1 xq5.1 xq5.2))
def fX2_gather_L10 (p1 : Int32) (p2 : Int32) : Nat → Int32 → QMem → Option (QMem)
  | 0, _, _ => none
  | n + 1, v3, τ =>
  if v3 ≤ 0 then (some τ) else (if ((4 * p1) - (v3 * v3)) < 0 then (fX2_gather_J121 p1 p2 (fX2_gather_L10 p1 p2 n) v3 τ) else (if ((4 * p1) - (v3 * v3)) ≤ (v3 * v3) then ((fX2_likeRoot ((4 * p1) - (v3 * v3)) v3 τ).bind fun xq10 => (fX2_gather_L52 p1 p2 (fX2_gather_L10 p1 p2 n) FU v3 ((4 * p1) - (v3 * v3)) xq10.1 xq10.1 xq10.2)) else (fX2_gather_J121 p1 p2 (fX2_gather_L10 p1 p2 n) v3 τ)))
def fX2_gather (p1 : Int32) (p2 : Int32) (σ : QMem) : Option (QMem) :=
  (fX7_clear 57 σ).bind fun xq12 => (fX2_gather_L10 p1 p2 FU 24 xq12)
set_option maxHeartbeats 4000000 in
set_option maxRecDepth 100000 in
theorem kX2_gather (l : Launch) (D : va_G) (G : xG) (ub : xB) (σ : QMem) (p1 : Int32) (p2 : Int32) (res : QMem) (h : fX2_gather p1 p2 σ = some res) : Met l yX2_gather (.code yX2_gather cX2_gather 10 none :: lwW) (rmD 4) (xPc D G ub σ [.ref (G.1 111), .int p1, .int p2]) (xQv D G ub res) 0 0 (xA G) := by
  refine Met.ofW (cc := cX2_gather) (maxL := 10) (ret := none) (by decide) rfl ?_
  intro p e s m args below meth c s₁ B hml hv
  obtain ⟨rfl, h0⟩ := hv
  have hx := B.exec
  have hb := B.bytes
  have hr := B.returns
  have hts := fun (w : Cond) (hw : w ∈ lwW) => atoms_spec (ws := (.code yX2_gather cX2_gather 10 none :: lwW)) B.pre w (List.mem_cons_of_mem _ hw)
  have hown : s.vm.findClass RX2 = some m.cls := findClass_of_methodNamed B.named
  have hlocks := B.notSynchronized
  have hP := h0.1
  have hK := h0.2.1
  have hi := h0.2.2.1
  have hZ := h0.2.2.2
  have hN := h0.2.2.2.2.2.2.2.1
  have hV := h0.2.2.2.2.2.2.2.2.1
  have hS : va_S (xA G) s.heap s.heap [] := va_S.rf
  have hl := lv_entry ([.ref (G.1 111), .int p1, .int p2]) (n := 10) (Nat.le_of_ble_eq_true rfl)
  rw [lg_entry_eq]
  generalize (lg_sl ([.ref (G.1 111), .int p1, .int p2]) ++ List.replicate (10 - (lg_sl ([.ref (G.1 111), .int p1, .int p2])).length) Slot.unset).toArray = ls at hl ⊢
  have hl : lv_has ls 10 [(0, .ref (G.1 111)), (1, .int p1), (2, .int p2)] := hl
  unfold fX2_gather at h
  have L10 : ∀ (n10 : Nat) (v3 : Int32) (τ : QMem) (H : Heap) (locs : List Loc) (ls : Array Slot), fX2_gather_L10 p1 p2 n10 v3 τ = some res → va_P D vwCl (xW G τ) H → va_S (xA G) s.heap H locs → lv_has ls 10 [(0, .ref (G.1 111)), (1, .int p1), (2, .int p2), (3, .int v3)] → W p l e (headSpec (.code yX2_gather cX2_gather 10 none :: lwW) (rmD 4)).room s m ([.ref (G.1 111), .int p1, .int p2] : List Value).toArray below meth c H locs 0 0 (MQ below (xQv D G ub res) ([.ref (G.1 111), .int p1, .int p2] : List Value).toArray s 0 0 (xA G)) (F0 m 10 ls []) := by
    intro n10
    induction n10 with
    | zero => intro v3 τ H locs ls h; rw [fX2_gather_L10] at h; cases h
    | succ n10 ih10 =>
      intro v3 τ H locs ls h hP hS hl
      rw [fX2_gather_L10] at h
      have J121 : ∀ (v3 : Int32) (τ : QMem) (H : Heap) (locs : List Loc) (ls : Array Slot), fX2_gather_J121 p1 p2 (fX2_gather_L10 p1 p2 n10) v3 τ = some res → va_P D vwCl (xW G τ) H → va_S (xA G) s.heap H locs → lv_has ls 10 [(0, .ref (G.1 111)), (1, .int p1), (2, .int p2), (3, .int v3)] → W p l e (headSpec (.code yX2_gather cX2_gather 10 none :: lwW) (rmD 4)).room s m ([.ref (G.1 111), .int p1, .int p2] : List Value).toArray below meth c H locs 0 0 (MQ below (xQv D G ub res) ([.ref (G.1 111), .int p1, .int p2] : List Value).toArray s 0 0 (xA G)) (F0 m 121 ls []) := by
        intro v3 τ H locs ls h hP hS hl
        unfold fX2_gather_J121 at h
        refine lv_iinc (v := v3 + (-1)) (lv' := [(3, .int (v3 + (-1))), (0, .ref (G.1 111)), (1, .int p1), (2, .int p2)]) hx hb dX2_gather_121 hl (k := 3) rfl rfl (by decide) rfl (fun ls hl => ?_)
        refine lv_goto (tgt := 10) hx hb dX2_gather_124 (by decide) ?_
        exact ih10 (v3 + (-1)) _ _ _ _ h hP hS (lv_sub hl [1, 2, 3, 0] rfl)
      have L52 : ∀ (n52 : Nat) (v3 : Int32) (v4 : Int32) (v5 : Int32) (v6 : Int32) (τ : QMem) (H : Heap) (locs : List Loc) (ls : Array Slot), fX2_gather_L52 p1 p2 (fX2_gather_L10 p1 p2 n10) n52 v3 v4 v5 v6 τ = some res → va_P D vwCl (xW G τ) H → va_S (xA G) s.heap H locs → lv_has ls 10 [(0, .ref (G.1 111)), (1, .int p1), (2, .int p2), (3, .int v3), (4, .int v4), (5, .int v5), (6, .int v6)] → W p l e (headSpec (.code yX2_gather cX2_gather 10 none :: lwW) (rmD 4)).room s m ([.ref (G.1 111), .int p1, .int p2] : List Value).toArray below meth c H locs 0 0 (MQ below (xQv D G ub res) ([.ref (G.1 111), .int p1, .int p2] : List Value).toArray s 0 0 (xA G)) (F0 m 52 ls []) := by
        intro n52
        induction n52 with
        | zero => intro v3 v4 v5 v6 τ H locs ls h; rw [fX2_gather_L52] at h; cases h
        | succ n52 ih52 =>
          intro v3 v4 v5 v6 τ H locs ls h hP hS hl
          rw [fX2_gather_L52] at h
          have L83 : ∀ (n83 : Nat) (v3 : Int32) (v4 : Int32) (v5 : Int32) (v6 : Int32) (v7 : Int32) (v8 : Int32) (v9 : Int32) (τ : QMem) (H : Heap) (locs : List Loc) (ls : Array Slot), fX2_gather_L83 p1 p2 (fX2_gather_L10 p1 p2 n10) (fX2_gather_L52 p1 p2 (fX2_gather_L10 p1 p2 n10) n52) n83 v3 v4 v5 v6 v7 v8 v9 τ = some res → va_P D vwCl (xW G τ) H → va_S (xA G) s.heap H locs → lv_has ls 10 [(0, .ref (G.1 111)), (1, .int p1), (2, .int p2), (3, .int v3), (4, .int v4), (5, .int v5), (6, .int v6), (7, .int v7), (8, .int v8), (9, .int v9)] → W p l e (headSpec (.code yX2_gather cX2_gather 10 none :: lwW) (rmD 4)).room s m ([.ref (G.1 111), .int p1, .int p2] : List Value).toArray below meth c H locs 0 0 (MQ below (xQv D G ub res) ([.ref (G.1 111), .int p1, .int p2] : List Value).toArray s 0 0 (xA G)) (F0 m 83 ls []) := by
            intro n83
            induction n83 with
            | zero => intro v3 v4 v5 v6 v7 v8 v9 τ H locs ls h; rw [fX2_gather_L83] at h; cases h
            | succ n83 ih83 =>
              intro v3 v4 v5 v6 v7 v8 v9 τ H locs ls h hP hS hl
              rw [fX2_gather_L83] at h
              refine lv_iload hx hb dX2_gather_83 (lv_at hl 9 rfl) ?_
              refine lv_iload hx hb dX2_gather_85 (lv_at hl 8 rfl) ?_
              refine lv_ineg hx hb dX2_gather_87 ?_
              refine lv_icmp_lt (tgt := 115) hx hb dX2_gather_88 (by decide) (fun hcq1 => ?_) (fun hcq1 => ?_)
              · have h := ifp hcq1 h
                refine lv_iinc (v := v6 + (-2)) (lv' := [(6, .int (v6 + (-2))), (0, .ref (G.1 111)), (1, .int p1), (2, .int p2), (3, .int v3), (4, .int v4), (5, .int v5), (7, .int v7), (8, .int v8), (9, .int v9)]) hx hb dX2_gather_115 hl (k := 6) rfl rfl (by decide) rfl (fun ls hl => ?_)
                refine lv_goto (tgt := 52) hx hb dX2_gather_118 (by decide) ?_
                exact ih52 v3 v4 v5 (v6 + (-2)) _ _ _ _ h hP hS (lv_sub hl [1, 2, 3, 4, 5, 6, 0] rfl)
              have h := ifn hcq1 h
              refine lv_aload_n hx hb dX2_gather_91 rfl (lv_at hl 0 rfl) ?_
              refine lv_iload_n hx hb dX2_gather_92 rfl (lv_at hl 3 rfl) ?_
              refine lv_iload hx hb dX2_gather_93 (lv_at hl 6 rfl) ?_
              refine lv_iload hx hb dX2_gather_95 (lv_at hl 9 rfl) ?_
              refine lv_iload hx hb dX2_gather_97 (lv_at hl 7 rfl) ?_
              refine lv_iload hx hb dX2_gather_99 (lv_at hl 9 rfl) ?_
              refine lv_iload hx hb dX2_gather_101 (lv_at hl 9 rfl) ?_
              refine lv_imul hx hb dX2_gather_103 ?_
              refine lv_isub hx hb dX2_gather_104 ?_
              refine lv_iload_n hx hb dX2_gather_105 rfl (lv_at hl 2 rfl) ?_
              obtain ⟨xq2, hfq3, h⟩ := obd h
              refine va_callv (va_runV (As := [.int v3, .int v6, .int v9, .int (v7 - (v9 * v9)), .int p2]) (rest := []) ⟨hx, hb, hml, hown, hts⟩ (kX2_offer l D G ub _ v3 v6 v9 (v7 - (v9 * v9)) p2 xq2 hfq3) (cwV 5 hts (lwW_gV mw_565 mw_567 ms_13 mw_9 mw_568) rfl rfl rfl (by decide +kernel) ⟨Nat.le_of_ble_eq_true rfl, Nat.le_of_ble_eq_true rfl⟩) ⟨fun a U g mk q => ⟨q.1, xPre_call q.2⟩, va_recv hK hP rfl (xg_13 rfl), fun U hU hW => ⟨rfl, xPre_at h0 hS hP hU hW⟩⟩ rfl rfl hl.1 rfl (lv_room (Nat.le_of_ble_eq_true rfl)) dX2_gather_106 ⟨Nat.zero_le _, Nat.zero_le _⟩) hS (fun q _ h => h) (fun q h => h) (fun u t H1 locs ht hvm hw hB hz1 hq1 hS => ?_)
              obtain rfl := hw.symm
              have hP := hB.1
              rw [ht] at hP
              refine W.widen (k := 0) (n := 0) (Nat.le_refl _) (Nat.le_refl _) ?_
              refine lv_iinc (v := v9 + (-2)) (lv' := [(9, .int (v9 + (-2))), (0, .ref (G.1 111)), (1, .int p1), (2, .int p2), (3, .int v3), (4, .int v4), (5, .int v5), (6, .int v6), (7, .int v7), (8, .int v8)]) hx hb dX2_gather_109 hl (k := 9) rfl rfl (by decide) rfl (fun ls hl => ?_)
              refine lv_goto (tgt := 83) hx hb dX2_gather_112 (by decide) ?_
              exact ih83 v3 v4 v5 v6 v7 v8 (v9 + (-2)) _ _ _ _ h hP hS (lv_sub hl [1, 2, 3, 4, 5, 6, 7, 8, 9, 0] rfl)
          refine lv_iload hx hb dX2_gather_52 (lv_at hl 6 rfl) ?_
          refine lv_iload hx hb dX2_gather_54 (lv_at hl 5 rfl) ?_
          refine lv_ineg hx hb dX2_gather_56 ?_
          refine lv_icmp_lt (tgt := 121) hx hb dX2_gather_57 (by decide) (fun hcq4 => ?_) (fun hcq4 => ?_)
          · have h := ifp hcq4 h
            exact J121 v3 _ _ _ _ h hP hS (lv_sub hl [0, 1, 2, 3] rfl)
          have h := ifn hcq4 h
          refine lv_iload hx hb dX2_gather_60 (lv_at hl 4 rfl) ?_
          refine lv_iload hx hb dX2_gather_62 (lv_at hl 6 rfl) ?_
          refine lv_iload hx hb dX2_gather_64 (lv_at hl 6 rfl) ?_
          refine lv_imul hx hb dX2_gather_66 ?_
          refine lv_isub hx hb dX2_gather_67 ?_
          refine lv_istore (lv' := [(7, .int (v4 - (v6 * v6))), (0, .ref (G.1 111)), (1, .int p1), (2, .int p2), (3, .int v3), (4, .int v4), (5, .int v5), (6, .int v6)]) hx hb dX2_gather_68 hl (by decide) rfl (fun ls hl => ?_)
          refine lv_aload_n hx hb dX2_gather_70 rfl (lv_at hl 1 rfl) ?_
          refine lv_iload hx hb dX2_gather_71 (lv_at hl 0 rfl) ?_
          refine lv_iload_n hx hb dX2_gather_73 rfl (lv_at hl 4 rfl) ?_
          obtain ⟨xq5, hfq6, h⟩ := obd h
          refine va_calli (va_runV (As := [.int (v4 - (v6 * v6)), .int v3]) (rest := []) ⟨hx, hb, hml, hown, hts⟩ (kX2_likeRoot l D G ub _ (v4 - (v6 * v6)) v3 xq5 hfq6) (cwV 2 hts (lwW_gV mw_561 mw_563 ms_12 mw_9 mw_564) rfl rfl rfl (by decide +kernel) ⟨Nat.le_of_ble_eq_true rfl, Nat.le_of_ble_eq_true rfl⟩) ⟨fun a U g mk q => ⟨q.1, xPre_call q.2⟩, va_recv hK hP rfl (xg_13 rfl), fun U hU hW => ⟨rfl, xPre_at h0 hS hP hU hW⟩⟩ rfl rfl hl.1 rfl (lv_room (Nat.le_of_ble_eq_true rfl)) dX2_gather_74 ⟨Nat.zero_le _, Nat.zero_le _⟩) hS (fun q _ h => h) (fun q h => h) (fun r u t H1 locs ht hvm hw hB hz1 hq1 hS => ?_)
          obtain ⟨rfl, rfl⟩ := hw
          have hP := hB.1
          rw [ht] at hP
          refine W.widen (k := 0) (n := 0) (Nat.le_refl _) (Nat.le_refl _) ?_
          refine lv_istore (lv' := [(8, .int xq5.1), (7, .int (v4 - (v6 * v6))), (0, .ref (G.1 111)), (1, .int p1), (2, .int p2), (3, .int v3), (4, .int v4), (5, .int v5), (6, .int v6)]) hx hb dX2_gather_77 hl (by decide) rfl (fun ls hl => ?_)
          refine lv_iload hx hb dX2_gather_79 (lv_at hl 0 rfl) ?_
          refine lv_istore (lv' := [(9, .int xq5.1), (8, .int xq5.1), (7, .int (v4 - (v6 * v6))), (0, .ref (G.1 111)), (1, .int p1), (2, .int p2), (3, .int v3), (4, .int v4), (5, .int v5), (6, .int v6)]) hx hb dX2_gather_81 hl (by decide) rfl (fun ls hl => ?_)
          exact L83 FU v3 v4 v5 v6 (v4 - (v6 * v6)) xq5.1 xq5.1 _ _ _ _ h hP hS (lv_sub hl [3, 4, 5, 6, 7, 8, 9, 2, 1, 0] rfl)
      refine lv_iload_n hx hb dX2_gather_10 rfl (lv_at hl 3 rfl) ?_
      refine lv_if_le (tgt := 127) hx hb dX2_gather_11 (by decide) (fun hcq7 => ?_) (fun hcq7 => ?_)
      · have h := ifp hcq7 h
        obtain rfl := Option.some.inj h
        exact W.vret hx hb hr (fun t ht hW => ⟨⟨_, rfl, rfl, xPre_at h0 hS hP ht hW⟩, hS.F ht⟩) hS.2.2 dX2_gather_127
      have h := ifn hcq7 h
      refine lv_iconst (v := 4) hx hb dX2_gather_14 (by decide) ?_
      refine lv_iload_n hx hb dX2_gather_15 rfl (lv_at hl 1 rfl) ?_
      refine lv_imul hx hb dX2_gather_16 ?_
      refine lv_iload_n hx hb dX2_gather_17 rfl (lv_at hl 3 rfl) ?_
      refine lv_iload_n hx hb dX2_gather_18 rfl (lv_at hl 3 rfl) ?_
      refine lv_imul hx hb dX2_gather_19 ?_
      refine lv_isub hx hb dX2_gather_20 ?_
      refine lv_istore (lv' := [(4, .int ((4 * p1) - (v3 * v3))), (0, .ref (G.1 111)), (1, .int p1), (2, .int p2), (3, .int v3)]) hx hb dX2_gather_21 hl (by decide) rfl (fun ls hl => ?_)
      refine lv_iload hx hb dX2_gather_23 (lv_at hl 0 rfl) ?_
      refine lv_if_lt (tgt := 121) hx hb dX2_gather_25 (by decide) (fun hcq8 => ?_) (fun hcq8 => ?_)
      · have h := ifp hcq8 h
        exact J121 v3 _ _ _ _ h hP hS (lv_sub hl [1, 2, 3, 4] rfl)
      have h := ifn hcq8 h
      refine lv_iload hx hb dX2_gather_28 (lv_at hl 0 rfl) ?_
      refine lv_iload_n hx hb dX2_gather_30 rfl (lv_at hl 4 rfl) ?_
      refine lv_iload_n hx hb dX2_gather_31 rfl (lv_at hl 4 rfl) ?_
      refine lv_imul hx hb dX2_gather_32 ?_
      refine lv_icmp_le (tgt := 39) hx hb dX2_gather_33 (by decide) (fun hcq9 => ?_) (fun hcq9 => ?_)
      · have h := ifp hcq9 h
        refine lv_aload_n hx hb dX2_gather_39 rfl (lv_at hl 1 rfl) ?_
        refine lv_iload hx hb dX2_gather_40 (lv_at hl 0 rfl) ?_
        refine lv_iload_n hx hb dX2_gather_42 rfl (lv_at hl 4 rfl) ?_
        obtain ⟨xq10, hfq11, h⟩ := obd h
        refine va_calli (va_runV (As := [.int ((4 * p1) - (v3 * v3)), .int v3]) (rest := []) ⟨hx, hb, hml, hown, hts⟩ (kX2_likeRoot l D G ub _ ((4 * p1) - (v3 * v3)) v3 xq10 hfq11) (cwV 2 hts (lwW_gV mw_561 mw_563 ms_12 mw_9 mw_564) rfl rfl rfl (by decide +kernel) ⟨Nat.le_of_ble_eq_true rfl, Nat.le_of_ble_eq_true rfl⟩) ⟨fun a U g mk q => ⟨q.1, xPre_call q.2⟩, va_recv hK hP rfl (xg_13 rfl), fun U hU hW => ⟨rfl, xPre_at h0 hS hP hU hW⟩⟩ rfl rfl hl.1 rfl (lv_room (Nat.le_of_ble_eq_true rfl)) dX2_gather_43 ⟨Nat.zero_le _, Nat.zero_le _⟩) hS (fun q _ h => h) (fun q h => h) (fun r u t H1 locs ht hvm hw hB hz1 hq1 hS => ?_)
        obtain ⟨rfl, rfl⟩ := hw
        have hP := hB.1
        rw [ht] at hP
        refine W.widen (k := 0) (n := 0) (Nat.le_refl _) (Nat.le_refl _) ?_
        refine lv_istore (lv' := [(5, .int xq10.1), (4, .int ((4 * p1) - (v3 * v3))), (0, .ref (G.1 111)), (1, .int p1), (2, .int p2), (3, .int v3)]) hx hb dX2_gather_46 hl (by decide) rfl (fun ls hl => ?_)
        refine lv_iload hx hb dX2_gather_48 (lv_at hl 0 rfl) ?_
        refine lv_istore (lv' := [(6, .int xq10.1), (5, .int xq10.1), (4, .int ((4 * p1) - (v3 * v3))), (0, .ref (G.1 111)), (1, .int p1), (2, .int p2), (3, .int v3)]) hx hb dX2_gather_50 hl (by decide) rfl (fun ls hl => ?_)
        exact L52 FU v3 ((4 * p1) - (v3 * v3)) xq10.1 xq10.1 _ _ _ _ h hP hS (lv_sub hl [3, 4, 5, 6, 2, 1, 0] rfl)
      have h := ifn hcq9 h
      refine lv_goto (tgt := 121) hx hb dX2_gather_36 (by decide) ?_
      exact J121 v3 _ _ _ _ h hP hS (lv_sub hl [1, 2, 3, 4] rfl)
  refine lv_aload_n hx hb dX2_gather_0 rfl (lv_at hl 0 rfl) ?_
  refine va_get (D := D) (ci := 2) (v := .ref (G.1 57)) (C := RX2) (T := TX2) (N := 5) hx hb hts iwX2 hown hK hP 111 (xg_13 rfl) rfl 0 (by decide) (hts _ mw_201) (fun _ h9 => h9) rfl dX2_gather_1 ?_
  obtain ⟨xq12, hfq13, h⟩ := obd h
  refine va_callv (va_runV (As := []) (rest := []) ⟨hx, hb, hml, hown, hts⟩ (kX7_clear l D G ub _ 57 rfl xq12 hfq13) (cwV 0 hts (lwW_gV mw_560 mw_552 mw_553 mw_10 mw_554) rfl rfl rfl (by decide +kernel) ⟨Nat.le_of_ble_eq_true rfl, Nat.le_of_ble_eq_true rfl⟩) ⟨fun a U g mk q => ⟨q.1, xPre_call q.2⟩, va_recv hK hP rfl (xg_1 rfl), fun U hU hW => ⟨rfl, xPre_at h0 hS hP hU hW⟩⟩ rfl rfl hl.1 rfl (lv_room (Nat.le_of_ble_eq_true rfl)) dX2_gather_4 ⟨Nat.zero_le _, Nat.zero_le _⟩) hS (fun q _ h => h) (fun q h => h) (fun u t H1 locs ht hvm hw hB hz1 hq1 hS => ?_)
  obtain rfl := hw.symm
  have hP := hB.1
  rw [ht] at hP
  refine W.widen (k := 0) (n := 0) (Nat.le_refl _) (Nat.le_refl _) ?_
  refine lv_bipush (v := 24) hx hb dX2_gather_7 (by decide) ?_
  refine lv_istore_n (lv' := [(3, .int 24), (0, .ref (G.1 111)), (1, .int p1), (2, .int p2)]) hx hb dX2_gather_9 rfl hl (by decide) rfl (fun ls hl => ?_)
  exact L10 FU 24 _ _ _ _ h hP hS (lv_sub hl [1, 2, 3, 0] rfl)
def fX5_takeDivisors_J87 (k0 : Nat) (k1 : Nat) (p2 : Int32) (K14 : Int32 → Int32 → QMem → Option (QMem)) (v3 : Int32) (v4 : Int32) (τ : QMem) : Option (QMem) :=
  K14 v3 (v4 + 1) τ
def fX5_takeDivisors_L14 (k0 : Nat) (k1 : Nat) (p2 : Int32) : Nat → Int32 → Int32 → QMem → Option (QMem)
  | 0, _, _, _ => none
  | n + 1, v3, v4, τ =>
  if v3 ≤ v4 then (some τ) else ((fX7_putRow 57 (k0 - 39) v4 τ).bind fun xq2 => ((fX1_isDivisor (k0 - 39) k1 p2 xq2).bind fun xq4 => (if xq4.1 = 0 then (fX5_takeDivisors_J87 k0 k1 p2 (fX5_takeDivisors_L14 k0 k1 p2 n) v3 v4 xq4.2) else ((fX7_append (k0 - 27) (xq4.2 (k0 - 39) 0) (xq4.2 (k0 - 39) 1) (xq4.2 (k0 - 39) 2) (xq4.2 (k0 - 39) 3) xq4.2).bind fun xq7 => (fX5_takeDivisors_J87 k0 k1 p2 (fX5_takeDivisors_L14 k0 k1 p2 n) v3 v4 xq7)))))
def fX5_takeDivisors (k0 : Nat) (k1 : Nat) (p2 : Int32) (σ : QMem) : Option (QMem) :=
  (fX7_size 57 σ).bind fun xq9 => (fX5_takeDivisors_L14 k0 k1 p2 FU xq9.1 0 xq9.2)
set_option maxHeartbeats 4000000 in
set_option maxRecDepth 100000 in
theorem kX5_takeDivisors (l : Launch) (D : va_G) (G : xG) (ub : xB) (σ : QMem) (k0 : Nat) (hk0 : xk k0 = 3) (k1 : Nat) (hk1 : xk k1 = 0) (p2 : Int32) (res : QMem) (h : fX5_takeDivisors k0 k1 p2 σ = some res) : Met l yX5_takeDivisors (.code yX5_takeDivisors cX5_takeDivisors 5 none :: lwW) (rmD 3) (xPc D G ub σ [.ref (G.1 k0), .ref (G.1 k1), .int p2]) (xQv D G ub res) 0 0 (xA G) := by
  refine Met.ofW (cc := cX5_takeDivisors) (maxL := 5) (ret := none) (by decide) rfl ?_
  intro p e s m args below meth c s₁ B hml hv
  obtain ⟨rfl, h0⟩ := hv
  have hx := B.exec
  have hb := B.bytes
  have hr := B.returns
  have hts := fun (w : Cond) (hw : w ∈ lwW) => atoms_spec (ws := (.code yX5_takeDivisors cX5_takeDivisors 5 none :: lwW)) B.pre w (List.mem_cons_of_mem _ hw)
  have hown : s.vm.findClass RX5 = some m.cls := findClass_of_methodNamed B.named
  have hlocks := B.notSynchronized
  have hP := h0.1
  have hK := h0.2.1
  have hi := h0.2.2.1
  have hZ := h0.2.2.2
  have hN := h0.2.2.2.2.2.2.2.1
  have hV := h0.2.2.2.2.2.2.2.2.1
  have hS : va_S (xA G) s.heap s.heap [] := va_S.rf
  have hl := lv_entry ([.ref (G.1 k0), .ref (G.1 k1), .int p2]) (n := 5) (Nat.le_of_ble_eq_true rfl)
  rw [lg_entry_eq]
  generalize (lg_sl ([.ref (G.1 k0), .ref (G.1 k1), .int p2]) ++ List.replicate (5 - (lg_sl ([.ref (G.1 k0), .ref (G.1 k1), .int p2])).length) Slot.unset).toArray = ls at hl ⊢
  have hl : lv_has ls 5 [(0, .ref (G.1 k0)), (1, .ref (G.1 k1)), (2, .int p2)] := hl
  unfold fX5_takeDivisors at h
  have L14 : ∀ (n14 : Nat) (v3 : Int32) (v4 : Int32) (τ : QMem) (H : Heap) (locs : List Loc) (ls : Array Slot), fX5_takeDivisors_L14 k0 k1 p2 n14 v3 v4 τ = some res → va_P D vwCl (xW G τ) H → va_S (xA G) s.heap H locs → lv_has ls 5 [(0, .ref (G.1 k0)), (1, .ref (G.1 k1)), (2, .int p2), (3, .int v3), (4, .int v4)] → W p l e (headSpec (.code yX5_takeDivisors cX5_takeDivisors 5 none :: lwW) (rmD 3)).room s m ([.ref (G.1 k0), .ref (G.1 k1), .int p2] : List Value).toArray below meth c H locs 0 0 (MQ below (xQv D G ub res) ([.ref (G.1 k0), .ref (G.1 k1), .int p2] : List Value).toArray s 0 0 (xA G)) (F0 m 14 ls []) := by
    intro n14
    induction n14 with
    | zero => intro v3 v4 τ H locs ls h; rw [fX5_takeDivisors_L14] at h; cases h
    | succ n14 ih14 =>
      intro v3 v4 τ H locs ls h hP hS hl
      rw [fX5_takeDivisors_L14] at h
      have J87 : ∀ (v3 : Int32) (v4 : Int32) (τ : QMem) (H : Heap) (locs : List Loc) (ls : Array Slot), fX5_takeDivisors_J87 k0 k1 p2 (fX5_takeDivisors_L14 k0 k1 p2 n14) v3 v4 τ = some res → va_P D vwCl (xW G τ) H → va_S (xA G) s.heap H locs → lv_has ls 5 [(0, .ref (G.1 k0)), (1, .ref (G.1 k1)), (2, .int p2), (3, .int v3), (4, .int v4)] → W p l e (headSpec (.code yX5_takeDivisors cX5_takeDivisors 5 none :: lwW) (rmD 3)).room s m ([.ref (G.1 k0), .ref (G.1 k1), .int p2] : List Value).toArray below meth c H locs 0 0 (MQ below (xQv D G ub res) ([.ref (G.1 k0), .ref (G.1 k1), .int p2] : List Value).toArray s 0 0 (xA G)) (F0 m 87 ls []) := by
        intro v3 v4 τ H locs ls h hP hS hl
        unfold fX5_takeDivisors_J87 at h
        refine lv_iinc (v := v4 + 1) (lv' := [(4, .int (v4 + 1)), (0, .ref (G.1 k0)), (1, .ref (G.1 k1)), (2, .int p2), (3, .int v3)]) hx hb dX5_takeDivisors_87 hl (k := 4) rfl rfl (by decide) rfl (fun ls hl => ?_)
        refine lv_goto (tgt := 14) hx hb dX5_takeDivisors_90 (by decide) ?_
        exact ih14 v3 (v4 + 1) _ _ _ _ h hP hS (lv_sub hl [1, 2, 3, 4, 0] rfl)
      refine lv_iload hx hb dX5_takeDivisors_14 (lv_at hl 4 rfl) ?_
      refine lv_iload_n hx hb dX5_takeDivisors_16 rfl (lv_at hl 3 rfl) ?_
      refine lv_icmp_ge (tgt := 93) hx hb dX5_takeDivisors_17 (by decide) (fun hcq1 => ?_) (fun hcq1 => ?_)
      · have h := ifp hcq1 h
        obtain rfl := Option.some.inj h
        exact W.vret hx hb hr (fun t ht hW => ⟨⟨_, rfl, rfl, xPre_at h0 hS hP ht hW⟩, hS.F ht⟩) hS.2.2 dX5_takeDivisors_93
      have h := ifn hcq1 h
      refine lv_aload_n hx hb dX5_takeDivisors_20 rfl (lv_at hl 0 rfl) ?_
      refine va_get (D := D) (ci := 5) (v := .ref (G.1 111)) (C := RX5) (T := TX5) (N := 4) hx hb hts iwX5 hown hK hP k0 (xg_3 hk0) rfl 1 (by decide) (hts _ mw_232) (fun _ h9 => h9) rfl dX5_takeDivisors_21 ?_
      refine va_getN (D := D) (ci := 2) (v := .ref (G.1 57)) (C := RX2) (T := TX2) (N := 5) hx hb hts iwX2 hown hK hP 111 (xg_13 rfl) rfl 0 (by decide) (va_Nw.use rfl (hN.F 12 rfl)) (fun _ h9 => h9) rfl dX5_takeDivisors_24 ?_
      refine lv_aload_n hx hb dX5_takeDivisors_27 rfl (lv_at hl 0 rfl) ?_
      refine va_get (D := D) (ci := 5) (v := .ref (G.1 (k0 - 39))) (C := RX5) (T := TX5) (N := 4) hx hb hts iwX5 hown hK hP k0 (xg_3 hk0) rfl 3 (by decide) (hts _ mw_234) (fun _ h9 => h9) rfl dX5_takeDivisors_28 ?_
      refine lv_iload hx hb dX5_takeDivisors_31 (lv_at hl 4 rfl) ?_
      obtain ⟨xq2, hfq3, h⟩ := obd h
      refine va_callv (va_runV (As := [.ref (G.1 (k0 - 39)), .int v4]) (rest := []) ⟨hx, hb, hml, hown, hts⟩ (kX7_putRow l D G ub _ 57 rfl (k0 - 39) (xf3_3 hk0) v4 xq2 hfq3) (cwV 2 hts (lwW_gV mw_602 mw_603 mw_604 mw_10 mw_605) rfl rfl rfl (by decide +kernel) ⟨Nat.le_of_ble_eq_true rfl, Nat.le_of_ble_eq_true rfl⟩) ⟨fun a U g mk q => ⟨q.1, xPre_call q.2⟩, va_recv hK hP rfl (xg_1 rfl), fun U hU hW => ⟨rfl, xPre_at h0 hS hP hU hW⟩⟩ rfl rfl hl.1 rfl (lv_room (Nat.le_of_ble_eq_true rfl)) dX5_takeDivisors_33 ⟨Nat.zero_le _, Nat.zero_le _⟩) hS (fun q _ h => h) (fun q h => h) (fun u t H1 locs ht hvm hw hB hz1 hq1 hS => ?_)
      obtain rfl := hw.symm
      have hP := hB.1
      rw [ht] at hP
      refine W.widen (k := 0) (n := 0) (Nat.le_refl _) (Nat.le_refl _) ?_
      refine lv_aload_n hx hb dX5_takeDivisors_36 rfl (lv_at hl 0 rfl) ?_
      refine va_get (D := D) (ci := 5) (v := .ref (G.1 110)) (C := RX5) (T := TX5) (N := 4) hx hb hts iwX5 hown hK hP k0 (xg_3 hk0) rfl 2 (by decide) (hts _ mw_233) (fun _ h9 => h9) rfl dX5_takeDivisors_37 ?_
      refine lv_aload_n hx hb dX5_takeDivisors_40 rfl (lv_at hl 0 rfl) ?_
      refine va_get (D := D) (ci := 5) (v := .ref (G.1 (k0 - 39))) (C := RX5) (T := TX5) (N := 4) hx hb hts iwX5 hown hK hP k0 (xg_3 hk0) rfl 3 (by decide) (hts _ mw_234) (fun _ h9 => h9) rfl dX5_takeDivisors_41 ?_
      refine lv_aload_n hx hb dX5_takeDivisors_44 rfl (lv_at hl 1 rfl) ?_
      refine lv_iload_n hx hb dX5_takeDivisors_45 rfl (lv_at hl 2 rfl) ?_
      obtain ⟨xq4, hfq5, h⟩ := obd h
      refine va_calli (va_runV (As := [.ref (G.1 (k0 - 39)), .ref (G.1 k1), .int p2]) (rest := []) ⟨hx, hb, hml, hown, hts⟩ (kX1_isDivisor l D G ub _ (k0 - 39) (xf3_3 hk0) k1 hk1 p2 xq4 hfq5) (cwV 3 hts (lwW_gV mw_612 mw_613 mw_614 mw_8 mw_615) rfl rfl rfl (by decide +kernel) ⟨Nat.le_of_ble_eq_true rfl, Nat.le_of_ble_eq_true rfl⟩) ⟨fun a U g mk q => ⟨q.1, xPre_call q.2⟩, va_recv hK hP rfl (xg_12 rfl), fun U hU hW => ⟨rfl, xPre_at h0 hS hP hU hW⟩⟩ rfl rfl hl.1 rfl (lv_room (Nat.le_of_ble_eq_true rfl)) dX5_takeDivisors_46 ⟨Nat.zero_le _, Nat.zero_le _⟩) hS (fun q _ h => h) (fun q h => h) (fun r u t H1 locs ht hvm hw hB hz1 hq1 hS => ?_)
      obtain ⟨rfl, rfl⟩ := hw
      have hP := hB.1
      rw [ht] at hP
      refine W.widen (k := 0) (n := 0) (Nat.le_refl _) (Nat.le_refl _) ?_
      refine lv_if_eq (tgt := 87) hx hb dX5_takeDivisors_49 (by decide) (fun hcq6 => ?_) (fun hcq6 => ?_)
      · have h := ifp hcq6 h
        exact J87 v3 v4 _ _ _ _ h hP hS (lv_sub hl [0, 1, 2, 3, 4] rfl)
      have h := ifn hcq6 h
      refine lv_aload_n hx hb dX5_takeDivisors_52 rfl (lv_at hl 0 rfl) ?_
      refine va_get (D := D) (ci := 5) (v := .ref (G.1 (k0 - 27))) (C := RX5) (T := TX5) (N := 4) hx hb hts iwX5 hown hK hP k0 (xg_3 hk0) rfl 0 (by decide) (hts _ mw_229) (fun _ h9 => h9) rfl dX5_takeDivisors_53 ?_
      refine lv_aload_n hx hb dX5_takeDivisors_56 rfl (lv_at hl 0 rfl) ?_
      refine va_get (D := D) (ci := 5) (v := .ref (G.1 (k0 - 39))) (C := RX5) (T := TX5) (N := 4) hx hb hts iwX5 hown hK hP k0 (xg_3 hk0) rfl 3 (by decide) (hts _ mw_234) (fun _ h9 => h9) rfl dX5_takeDivisors_57 ?_
      refine va_getN (D := D) (ci := 6) (v := .int (xq4.2 (k0 - 39) 0)) (C := RX6) (T := TX6) (N := 4) hx hb hts iwX6 hown hK hP (k0 - 39) (xg_0 (xf3_3 hk0)) rfl 0 (by decide) (va_Nw.use rfl (hN.F 1 rfl)) (fun _ h9 => h9) rfl dX5_takeDivisors_60 ?_
      refine lv_aload_n hx hb dX5_takeDivisors_63 rfl (lv_at hl 0 rfl) ?_
      refine va_get (D := D) (ci := 5) (v := .ref (G.1 (k0 - 39))) (C := RX5) (T := TX5) (N := 4) hx hb hts iwX5 hown hK hP k0 (xg_3 hk0) rfl 3 (by decide) (hts _ mw_234) (fun _ h9 => h9) rfl dX5_takeDivisors_64 ?_
      refine va_getN (D := D) (ci := 6) (v := .int (xq4.2 (k0 - 39) 1)) (C := RX6) (T := TX6) (N := 4) hx hb hts iwX6 hown hK hP (k0 - 39) (xg_0 (xf3_3 hk0)) rfl 1 (by decide) (va_Nw.use rfl (hN.F 3 rfl)) (fun _ h9 => h9) rfl dX5_takeDivisors_67 ?_
      refine lv_aload_n hx hb dX5_takeDivisors_70 rfl (lv_at hl 0 rfl) ?_
      refine va_get (D := D) (ci := 5) (v := .ref (G.1 (k0 - 39))) (C := RX5) (T := TX5) (N := 4) hx hb hts iwX5 hown hK hP k0 (xg_3 hk0) rfl 3 (by decide) (hts _ mw_234) (fun _ h9 => h9) rfl dX5_takeDivisors_71 ?_
      refine va_getN (D := D) (ci := 6) (v := .int (xq4.2 (k0 - 39) 2)) (C := RX6) (T := TX6) (N := 4) hx hb hts iwX6 hown hK hP (k0 - 39) (xg_0 (xf3_3 hk0)) rfl 2 (by decide) (va_Nw.use rfl (hN.F 5 rfl)) (fun _ h9 => h9) rfl dX5_takeDivisors_74 ?_
      refine lv_aload_n hx hb dX5_takeDivisors_77 rfl (lv_at hl 0 rfl) ?_
      refine va_get (D := D) (ci := 5) (v := .ref (G.1 (k0 - 39))) (C := RX5) (T := TX5) (N := 4) hx hb hts iwX5 hown hK hP k0 (xg_3 hk0) rfl 3 (by decide) (hts _ mw_234) (fun _ h9 => h9) rfl dX5_takeDivisors_78 ?_
      refine va_getN (D := D) (ci := 6) (v := .int (xq4.2 (k0 - 39) 3)) (C := RX6) (T := TX6) (N := 4) hx hb hts iwX6 hown hK hP (k0 - 39) (xg_0 (xf3_3 hk0)) rfl 3 (by decide) (va_Nw.use rfl (hN.F 7 rfl)) (fun _ h9 => h9) rfl dX5_takeDivisors_81 ?_
      obtain ⟨xq7, hfq8, h⟩ := obd h
      refine va_callv (va_runV (As := [.int (xq4.2 (k0 - 39) 0), .int (xq4.2 (k0 - 39) 1), .int (xq4.2 (k0 - 39) 2), .int (xq4.2 (k0 - 39) 3)]) (rest := []) ⟨hx, hb, hml, hown, hts⟩ (kX7_append l D G ub _ (k0 - 27) (xf3_0 hk0) (xq4.2 (k0 - 39) 0) (xq4.2 (k0 - 39) 1) (xq4.2 (k0 - 39) 2) (xq4.2 (k0 - 39) 3) xq7 hfq8) (cwV 4 hts (lwW_gV mw_624 mw_591 mw_592 mw_10 mw_593) rfl rfl rfl (by decide +kernel) ⟨Nat.le_of_ble_eq_true rfl, Nat.le_of_ble_eq_true rfl⟩) ⟨fun a U g mk q => ⟨q.1, xPre_call q.2⟩, va_recv hK hP rfl (xg_1 (xf3_0 hk0)), fun U hU hW => ⟨rfl, xPre_at h0 hS hP hU hW⟩⟩ rfl rfl hl.1 rfl (lv_room (Nat.le_of_ble_eq_true rfl)) dX5_takeDivisors_84 ⟨Nat.zero_le _, Nat.zero_le _⟩) hS (fun q _ h => h) (fun q h => h) (fun u t H1 locs ht hvm hw hB hz1 hq1 hS => ?_)
      obtain rfl := hw.symm
      have hP := hB.1
      rw [ht] at hP
      refine W.widen (k := 0) (n := 0) (Nat.le_refl _) (Nat.le_refl _) ?_
      exact J87 v3 v4 _ _ _ _ h hP hS (lv_sub hl [0, 1, 2, 3, 4] rfl)
  refine lv_aload_n hx hb dX5_takeDivisors_0 rfl (lv_at hl 0 rfl) ?_
  refine va_get (D := D) (ci := 5) (v := .ref (G.1 111)) (C := RX5) (T := TX5) (N := 4) hx hb hts iwX5 hown hK hP k0 (xg_3 hk0) rfl 1 (by decide) (hts _ mw_232) (fun _ h9 => h9) rfl dX5_takeDivisors_1 ?_
  refine va_getN (D := D) (ci := 2) (v := .ref (G.1 57)) (C := RX2) (T := TX2) (N := 5) hx hb hts iwX2 hown hK hP 111 (xg_13 rfl) rfl 0 (by decide) (va_Nw.use rfl (hN.F 12 rfl)) (fun _ h9 => h9) rfl dX5_takeDivisors_4 ?_
  obtain ⟨xq9, hfq10, h⟩ := obd h
  refine va_calli (va_runV (As := []) (rest := []) ⟨hx, hb, hml, hown, hts⟩ (kX7_size l D G ub _ 57 rfl xq9 hfq10) (cwV 0 hts (lwW_gV mw_598 mw_599 mw_600 mw_10 mw_601) rfl rfl rfl (by decide +kernel) ⟨Nat.le_of_ble_eq_true rfl, Nat.le_of_ble_eq_true rfl⟩) ⟨fun a U g mk q => ⟨q.1, xPre_call q.2⟩, va_recv hK hP rfl (xg_1 rfl), fun U hU hW => ⟨rfl, xPre_at h0 hS hP hU hW⟩⟩ rfl rfl hl.1 rfl (lv_room (Nat.le_of_ble_eq_true rfl)) dX5_takeDivisors_7 ⟨Nat.zero_le _, Nat.zero_le _⟩) hS (fun q _ h => h) (fun q h => h) (fun r u t H1 locs ht hvm hw hB hz1 hq1 hS => ?_)
  obtain ⟨rfl, rfl⟩ := hw
  have hP := hB.1
  rw [ht] at hP
  refine W.widen (k := 0) (n := 0) (Nat.le_refl _) (Nat.le_refl _) ?_
  refine lv_istore_n (lv' := [(3, .int xq9.1), (0, .ref (G.1 k0)), (1, .ref (G.1 k1)), (2, .int p2)]) hx hb dX5_takeDivisors_10 rfl hl (by decide) rfl (fun ls hl => ?_)
  refine lv_iconst (v := 0) hx hb dX5_takeDivisors_11 (by decide) ?_
  refine lv_istore (lv' := [(4, .int 0), (3, .int xq9.1), (0, .ref (G.1 k0)), (1, .ref (G.1 k1)), (2, .int p2)]) hx hb dX5_takeDivisors_12 hl (by decide) rfl (fun ls hl => ?_)
  exact L14 FU xq9.1 0 _ _ _ _ h hP hS (lv_sub hl [2, 3, 4, 1, 0] rfl)
def fX5_gather_J79 (k0 : Nat) (k1 : Nat) (p2 : Int32) (K15 : Int32 → Int32 → QMem → Option (QMem)) (v3 : Int32) (v4 : Int32) (τ : QMem) : Option (QMem) :=
  K15 v3 (v4 + 1) τ
def fX5_gather_L54 (k0 : Nat) (k1 : Nat) (p2 : Int32) (K15 : Int32 → Int32 → QMem → Option (QMem)) : Nat → Int32 → Int32 → Int32 → QMem → Option (QMem)
  | 0, _, _, _, _ => none
  | n + 1, v3, v4, v5, τ =>
  if 8 ≤ v5 then (fX5_gather_J79 k0 k1 p2 K15 v3 v4 τ) else (if v4 = 0 then none else (if (v3 - v3 / v4 * v4) = 0 then (if v4 = 0 then none else ((fX5_gather_L54 k0 k1 p2 K15 n) (v3 / v4) v4 (v5 + 1) τ)) else (fX5_gather_J79 k0 k1 p2 K15 v3 v4 τ)))
def fX5_gather_J51 (k0 : Nat) (k1 : Nat) (p2 : Int32) (K15 : Int32 → Int32 → QMem → Option (QMem)) (v3 : Int32) (v4 : Int32) (τ : QMem) : Option (QMem) :=
  fX5_gather_L54 k0 k1 p2 K15 FU v3 v4 0 τ
def fX5_gather_L15 (k0 : Nat) (k1 : Nat) (p2 : Int32) : Nat → Int32 → Int32 → QMem → Option (QMem)
  | 0, _, _, _ => none
  | n + 1, v3, v4, τ =>
  if 150 < v4 then (some τ) else (if v3 ≤ 1 then (some τ) else (if v4 = 0 then none else (if (v3 - v3 / v4 * v4) = 0 then ((fX2_gather v4 p2 τ).bind fun xq9 => ((fX5_takeDivisors k0 k1 p2 xq9).bind fun xq11 => (fX5_gather_J51 k0 k1 p2 (fX5_gather_L15 k0 k1 p2 n) v3 v4 xq11))) else (fX5_gather_J51 k0 k1 p2 (fX5_gather_L15 k0 k1 p2 n) v3 v4 τ))))
def fX5_gather (k0 : Nat) (k1 : Nat) (p2 : Int32) (σ : QMem) : Option (QMem) :=
  (fX7_clear (k0 - 27) σ).bind fun xq13 => ((fX6_norm k1 xq13).bind fun xq15 => (fX5_gather_L15 k0 k1 p2 FU xq15.1 2 xq15.2))
set_option maxHeartbeats 4000000 in
set_option maxRecDepth 100000 in
theorem kX5_gather (l : Launch) (D : va_G) (G : xG) (ub : xB) (σ : QMem) (k0 : Nat) (hk0 : xk k0 = 3) (k1 : Nat) (hk1 : xk k1 = 0) (p2 : Int32) (res : QMem) (h : fX5_gather k0 k1 p2 σ = some res) : Met l yX5_gather (.code yX5_gather cX5_gather 6 none :: lwW) (rmD 5) (xPc D G ub σ [.ref (G.1 k0), .ref (G.1 k1), .int p2]) (xQv D G ub res) 0 0 (xA G) := by
  refine Met.ofW (cc := cX5_gather) (maxL := 6) (ret := none) (by decide) rfl ?_
  intro p e s m args below meth c s₁ B hml hv
  obtain ⟨rfl, h0⟩ := hv
  have hx := B.exec
  have hb := B.bytes
  have hr := B.returns
  have hts := fun (w : Cond) (hw : w ∈ lwW) => atoms_spec (ws := (.code yX5_gather cX5_gather 6 none :: lwW)) B.pre w (List.mem_cons_of_mem _ hw)
  have hown : s.vm.findClass RX5 = some m.cls := findClass_of_methodNamed B.named
  have hlocks := B.notSynchronized
  have hP := h0.1
  have hK := h0.2.1
  have hi := h0.2.2.1
  have hZ := h0.2.2.2
  have hN := h0.2.2.2.2.2.2.2.1
  have hV := h0.2.2.2.2.2.2.2.2.1
  have hS : va_S (xA G) s.heap s.heap [] := va_S.rf
  have hl := lv_entry ([.ref (G.1 k0), .ref (G.1 k1), .int p2]) (n := 6) (Nat.le_of_ble_eq_true rfl)
  rw [lg_entry_eq]
  generalize (lg_sl ([.ref (G.1 k0), .ref (G.1 k1), .int p2]) ++ List.replicate (6 - (lg_sl ([.ref (G.1 k0), .ref (G.1 k1), .int p2])).length) Slot.unset).toArray = ls at hl ⊢
  have hl : lv_has ls 6 [(0, .ref (G.1 k0)), (1, .ref (G.1 k1)), (2, .int p2)] := hl
  unfold fX5_gather at h
  have L15 : ∀ (n15 : Nat) (v3 : Int32) (v4 : Int32) (τ : QMem) (H : Heap) (locs : List Loc) (ls : Array Slot), fX5_gather_L15 k0 k1 p2 n15 v3 v4 τ = some res → va_P D vwCl (xW G τ) H → va_S (xA G) s.heap H locs → lv_has ls 6 [(0, .ref (G.1 k0)), (1, .ref (G.1 k1)), (2, .int p2), (3, .int v3), (4, .int v4)] → W p l e (headSpec (.code yX5_gather cX5_gather 6 none :: lwW) (rmD 5)).room s m ([.ref (G.1 k0), .ref (G.1 k1), .int p2] : List Value).toArray below meth c H locs 0 0 (MQ below (xQv D G ub res) ([.ref (G.1 k0), .ref (G.1 k1), .int p2] : List Value).toArray s 0 0 (xA G)) (F0 m 15 ls []) := by
    intro n15
    induction n15 with
    | zero => intro v3 v4 τ H locs ls h; rw [fX5_gather_L15] at h; cases h
    | succ n15 ih15 =>
      intro v3 v4 τ H locs ls h hP hS hl
      rw [fX5_gather_L15] at h
      have J79 : ∀ (v3 : Int32) (v4 : Int32) (τ : QMem) (H : Heap) (locs : List Loc) (ls : Array Slot), fX5_gather_J79 k0 k1 p2 (fX5_gather_L15 k0 k1 p2 n15) v3 v4 τ = some res → va_P D vwCl (xW G τ) H → va_S (xA G) s.heap H locs → lv_has ls 6 [(0, .ref (G.1 k0)), (1, .ref (G.1 k1)), (2, .int p2), (3, .int v3), (4, .int v4)] → W p l e (headSpec (.code yX5_gather cX5_gather 6 none :: lwW) (rmD 5)).room s m ([.ref (G.1 k0), .ref (G.1 k1), .int p2] : List Value).toArray below meth c H locs 0 0 (MQ below (xQv D G ub res) ([.ref (G.1 k0), .ref (G.1 k1), .int p2] : List Value).toArray s 0 0 (xA G)) (F0 m 79 ls []) := by
        intro v3 v4 τ H locs ls h hP hS hl
        unfold fX5_gather_J79 at h
        refine lv_iinc (v := v4 + 1) (lv' := [(4, .int (v4 + 1)), (0, .ref (G.1 k0)), (1, .ref (G.1 k1)), (2, .int p2), (3, .int v3)]) hx hb dX5_gather_79 hl (k := 4) rfl rfl (by decide) rfl (fun ls hl => ?_)
        refine lv_goto (tgt := 15) hx hb dX5_gather_82 (by decide) ?_
        exact ih15 v3 (v4 + 1) _ _ _ _ h hP hS (lv_sub hl [1, 2, 3, 4, 0] rfl)
      have L54 : ∀ (n54 : Nat) (v3 : Int32) (v4 : Int32) (v5 : Int32) (τ : QMem) (H : Heap) (locs : List Loc) (ls : Array Slot), fX5_gather_L54 k0 k1 p2 (fX5_gather_L15 k0 k1 p2 n15) n54 v3 v4 v5 τ = some res → va_P D vwCl (xW G τ) H → va_S (xA G) s.heap H locs → lv_has ls 6 [(0, .ref (G.1 k0)), (1, .ref (G.1 k1)), (2, .int p2), (3, .int v3), (4, .int v4), (5, .int v5)] → W p l e (headSpec (.code yX5_gather cX5_gather 6 none :: lwW) (rmD 5)).room s m ([.ref (G.1 k0), .ref (G.1 k1), .int p2] : List Value).toArray below meth c H locs 0 0 (MQ below (xQv D G ub res) ([.ref (G.1 k0), .ref (G.1 k1), .int p2] : List Value).toArray s 0 0 (xA G)) (F0 m 54 ls []) := by
        intro n54
        induction n54 with
        | zero => intro v3 v4 v5 τ H locs ls h; rw [fX5_gather_L54] at h; cases h
        | succ n54 ih54 =>
          intro v3 v4 v5 τ H locs ls h hP hS hl
          rw [fX5_gather_L54] at h
          refine lv_iload hx hb dX5_gather_54 (lv_at hl 5 rfl) ?_
          refine lv_bipush (v := 8) hx hb dX5_gather_56 (by decide) ?_
          refine lv_icmp_ge (tgt := 79) hx hb dX5_gather_58 (by decide) (fun hcq1 => ?_) (fun hcq1 => ?_)
          · have h := ifp hcq1 h
            exact J79 v3 v4 _ _ _ _ h hP hS (lv_sub hl [0, 1, 2, 3, 4] rfl)
          have h := ifn hcq1 h
          refine lv_iload_n hx hb dX5_gather_61 rfl (lv_at hl 3 rfl) ?_
          refine lv_iload hx hb dX5_gather_62 (lv_at hl 4 rfl) ?_
          obtain ⟨hdq2, h⟩ := nif h
          refine lv_irem hx hb dX5_gather_64 hdq2 ?_
          refine lv_if_ne (tgt := 79) hx hb dX5_gather_65 (by decide) (fun hcq3 => ?_) (fun hcq3 => ?_)
          · have h := ifn hcq3 h
            exact J79 v3 v4 _ _ _ _ h hP hS (lv_sub hl [0, 1, 2, 3, 4] rfl)
          have h := ifp hcq3 h
          refine lv_iload_n hx hb dX5_gather_68 rfl (lv_at hl 3 rfl) ?_
          refine lv_iload hx hb dX5_gather_69 (lv_at hl 4 rfl) ?_
          obtain ⟨hdq4, h⟩ := nif h
          refine lv_idiv hx hb dX5_gather_71 hdq4 ?_
          refine lv_istore_n (lv' := [(3, .int (v3 / v4)), (0, .ref (G.1 k0)), (1, .ref (G.1 k1)), (2, .int p2), (4, .int v4), (5, .int v5)]) hx hb dX5_gather_72 rfl hl (by decide) rfl (fun ls hl => ?_)
          refine lv_iinc (v := v5 + 1) (lv' := [(5, .int (v5 + 1)), (3, .int (v3 / v4)), (0, .ref (G.1 k0)), (1, .ref (G.1 k1)), (2, .int p2), (4, .int v4)]) hx hb dX5_gather_73 hl (k := 5) rfl rfl (by decide) rfl (fun ls hl => ?_)
          refine lv_goto (tgt := 54) hx hb dX5_gather_76 (by decide) ?_
          exact ih54 (v3 / v4) v4 (v5 + 1) _ _ _ _ h hP hS (lv_sub hl [2, 3, 4, 1, 5, 0] rfl)
      have J51 : ∀ (v3 : Int32) (v4 : Int32) (τ : QMem) (H : Heap) (locs : List Loc) (ls : Array Slot), fX5_gather_J51 k0 k1 p2 (fX5_gather_L15 k0 k1 p2 n15) v3 v4 τ = some res → va_P D vwCl (xW G τ) H → va_S (xA G) s.heap H locs → lv_has ls 6 [(0, .ref (G.1 k0)), (1, .ref (G.1 k1)), (2, .int p2), (3, .int v3), (4, .int v4)] → W p l e (headSpec (.code yX5_gather cX5_gather 6 none :: lwW) (rmD 5)).room s m ([.ref (G.1 k0), .ref (G.1 k1), .int p2] : List Value).toArray below meth c H locs 0 0 (MQ below (xQv D G ub res) ([.ref (G.1 k0), .ref (G.1 k1), .int p2] : List Value).toArray s 0 0 (xA G)) (F0 m 51 ls []) := by
        intro v3 v4 τ H locs ls h hP hS hl
        unfold fX5_gather_J51 at h
        refine lv_iconst (v := 0) hx hb dX5_gather_51 (by decide) ?_
        refine lv_istore (lv' := [(5, .int 0), (0, .ref (G.1 k0)), (1, .ref (G.1 k1)), (2, .int p2), (3, .int v3), (4, .int v4)]) hx hb dX5_gather_52 hl (by decide) rfl (fun ls hl => ?_)
        exact L54 FU v3 v4 0 _ _ _ _ h hP hS (lv_sub hl [1, 2, 3, 4, 5, 0] rfl)
      refine lv_iload hx hb dX5_gather_15 (lv_at hl 4 rfl) ?_
      refine lv_sipush (v := 150) hx hb dX5_gather_17 (by decide) ?_
      refine lv_icmp_gt (tgt := 85) hx hb dX5_gather_20 (by decide) (fun hcq5 => ?_) (fun hcq5 => ?_)
      · have h := ifp hcq5 h
        obtain rfl := Option.some.inj h
        exact W.vret hx hb hr (fun t ht hW => ⟨⟨_, rfl, rfl, xPre_at h0 hS hP ht hW⟩, hS.F ht⟩) hS.2.2 dX5_gather_85
      have h := ifn hcq5 h
      refine lv_iload_n hx hb dX5_gather_23 rfl (lv_at hl 3 rfl) ?_
      refine lv_iconst (v := 1) hx hb dX5_gather_24 (by decide) ?_
      refine lv_icmp_le (tgt := 85) hx hb dX5_gather_25 (by decide) (fun hcq6 => ?_) (fun hcq6 => ?_)
      · have h := ifp hcq6 h
        obtain rfl := Option.some.inj h
        exact W.vret hx hb hr (fun t ht hW => ⟨⟨_, rfl, rfl, xPre_at h0 hS hP ht hW⟩, hS.F ht⟩) hS.2.2 dX5_gather_85
      have h := ifn hcq6 h
      refine lv_iload_n hx hb dX5_gather_28 rfl (lv_at hl 3 rfl) ?_
      refine lv_iload hx hb dX5_gather_29 (lv_at hl 4 rfl) ?_
      obtain ⟨hdq7, h⟩ := nif h
      refine lv_irem hx hb dX5_gather_31 hdq7 ?_
      refine lv_if_ne (tgt := 51) hx hb dX5_gather_32 (by decide) (fun hcq8 => ?_) (fun hcq8 => ?_)
      · have h := ifn hcq8 h
        exact J51 v3 v4 _ _ _ _ h hP hS (lv_sub hl [0, 1, 2, 3, 4] rfl)
      have h := ifp hcq8 h
      refine lv_aload_n hx hb dX5_gather_35 rfl (lv_at hl 0 rfl) ?_
      refine va_get (D := D) (ci := 5) (v := .ref (G.1 111)) (C := RX5) (T := TX5) (N := 4) hx hb hts iwX5 hown hK hP k0 (xg_3 hk0) rfl 1 (by decide) (hts _ mw_232) (fun _ h9 => h9) rfl dX5_gather_36 ?_
      refine lv_iload hx hb dX5_gather_39 (lv_at hl 4 rfl) ?_
      refine lv_iload_n hx hb dX5_gather_41 rfl (lv_at hl 2 rfl) ?_
      obtain ⟨xq9, hfq10, h⟩ := obd h
      refine va_callv (va_runV (As := [.int v4, .int p2]) (rest := []) ⟨hx, hb, hml, hown, hts⟩ (kX2_gather l D G ub _ v4 p2 xq9 hfq10) (cwV 2 hts (lwW_gV mw_556 mw_557 mw_558 mw_9 mw_559) rfl rfl rfl (by decide +kernel) ⟨Nat.le_of_ble_eq_true rfl, Nat.le_of_ble_eq_true rfl⟩) ⟨fun a U g mk q => ⟨q.1, xPre_call q.2⟩, va_recv hK hP rfl (xg_13 rfl), fun U hU hW => ⟨rfl, xPre_at h0 hS hP hU hW⟩⟩ rfl rfl hl.1 rfl (lv_room (Nat.le_of_ble_eq_true rfl)) dX5_gather_42 ⟨Nat.zero_le _, Nat.zero_le _⟩) hS (fun q _ h => h) (fun q h => h) (fun u t H1 locs ht hvm hw hB hz1 hq1 hS => ?_)
      obtain rfl := hw.symm
      have hP := hB.1
      rw [ht] at hP
      refine W.widen (k := 0) (n := 0) (Nat.le_refl _) (Nat.le_refl _) ?_
      refine lv_aload_n hx hb dX5_gather_45 rfl (lv_at hl 0 rfl) ?_
      refine lv_aload_n hx hb dX5_gather_46 rfl (lv_at hl 1 rfl) ?_
      refine lv_iload_n hx hb dX5_gather_47 rfl (lv_at hl 2 rfl) ?_
      obtain ⟨xq11, hfq12, h⟩ := obd h
      refine va_callv (va_runV (As := [.ref (G.1 k1), .int p2]) (rest := []) ⟨hx, hb, hml, hown, hts⟩ (kX5_takeDivisors l D G ub _ k0 hk0 k1 hk1 p2 xq11 hfq12) (cwV 2 hts (lwW_gV mw_594 mw_596 ms_15 mw_11 mw_597) rfl rfl rfl (by decide +kernel) ⟨Nat.le_of_ble_eq_true rfl, Nat.le_of_ble_eq_true rfl⟩) ⟨fun a U g mk q => ⟨q.1, xPre_call q.2⟩, va_recv hK hP rfl (xg_3 hk0), fun U hU hW => ⟨rfl, xPre_at h0 hS hP hU hW⟩⟩ rfl rfl hl.1 rfl (lv_room (Nat.le_of_ble_eq_true rfl)) dX5_gather_48 ⟨Nat.zero_le _, Nat.zero_le _⟩) hS (fun q _ h => h) (fun q h => h) (fun u t H1 locs ht hvm hw hB hz1 hq1 hS => ?_)
      obtain rfl := hw.symm
      have hP := hB.1
      rw [ht] at hP
      refine W.widen (k := 0) (n := 0) (Nat.le_refl _) (Nat.le_refl _) ?_
      exact J51 v3 v4 _ _ _ _ h hP hS (lv_sub hl [0, 1, 2, 3, 4] rfl)
  refine lv_aload_n hx hb dX5_gather_0 rfl (lv_at hl 0 rfl) ?_
  refine va_get (D := D) (ci := 5) (v := .ref (G.1 (k0 - 27))) (C := RX5) (T := TX5) (N := 4) hx hb hts iwX5 hown hK hP k0 (xg_3 hk0) rfl 0 (by decide) (hts _ mw_229) (fun _ h9 => h9) rfl dX5_gather_1 ?_
  obtain ⟨xq13, hfq14, h⟩ := obd h
  refine va_callv (va_runV (As := []) (rest := []) ⟨hx, hb, hml, hown, hts⟩ (kX7_clear l D G ub _ (k0 - 27) (xf3_0 hk0) xq13 hfq14) (cwV 0 hts (lwW_gV mw_551 mw_552 mw_553 mw_10 mw_554) rfl rfl rfl (by decide +kernel) ⟨Nat.le_of_ble_eq_true rfl, Nat.le_of_ble_eq_true rfl⟩) ⟨fun a U g mk q => ⟨q.1, xPre_call q.2⟩, va_recv hK hP rfl (xg_1 (xf3_0 hk0)), fun U hU hW => ⟨rfl, xPre_at h0 hS hP hU hW⟩⟩ rfl rfl hl.1 rfl (lv_room (Nat.le_of_ble_eq_true rfl)) dX5_gather_4 ⟨Nat.zero_le _, Nat.zero_le _⟩) hS (fun q _ h => h) (fun q h => h) (fun u t H1 locs ht hvm hw hB hz1 hq1 hS => ?_)
  obtain rfl := hw.symm
  have hP := hB.1
  rw [ht] at hP
  refine W.widen (k := 0) (n := 0) (Nat.le_refl _) (Nat.le_refl _) ?_
  refine lv_aload_n hx hb dX5_gather_7 rfl (lv_at hl 1 rfl) ?_
  obtain ⟨xq15, hfq16, h⟩ := obd h
  refine va_calli (va_runV (As := []) (rest := []) ⟨hx, hb, hml, hown, hts⟩ (kX6_norm l D G ub _ k1 hk1 xq15 hfq16) (cwV 0 hts (lwW_gV mw_555 mw_516 mw_517 mw_3 mw_518) rfl rfl rfl (by decide +kernel) ⟨Nat.le_of_ble_eq_true rfl, Nat.le_of_ble_eq_true rfl⟩) ⟨fun a U g mk q => ⟨q.1, xPre_call q.2⟩, va_recv hK hP rfl (xg_0 hk1), fun U hU hW => ⟨rfl, xPre_at h0 hS hP hU hW⟩⟩ rfl rfl hl.1 rfl (lv_room (Nat.le_of_ble_eq_true rfl)) dX5_gather_8 ⟨Nat.zero_le _, Nat.zero_le _⟩) hS (fun q _ h => h) (fun q h => h) (fun r u t H1 locs ht hvm hw hB hz1 hq1 hS => ?_)
  obtain ⟨rfl, rfl⟩ := hw
  have hP := hB.1
  rw [ht] at hP
  refine W.widen (k := 0) (n := 0) (Nat.le_refl _) (Nat.le_refl _) ?_
  refine lv_istore_n (lv' := [(3, .int xq15.1), (0, .ref (G.1 k0)), (1, .ref (G.1 k1)), (2, .int p2)]) hx hb dX5_gather_11 rfl hl (by decide) rfl (fun ls hl => ?_)
  refine lv_iconst (v := 2) hx hb dX5_gather_12 (by decide) ?_
  refine lv_istore (lv' := [(4, .int 2), (3, .int xq15.1), (0, .ref (G.1 k0)), (1, .ref (G.1 k1)), (2, .int p2)]) hx hb dX5_gather_13 hl (by decide) rfl (fun ls hl => ?_)
  exact L15 FU xq15.1 2 _ _ _ _ h hP hS (lv_sub hl [2, 3, 4, 1, 0] rfl)
