def fX12_squares_J34 (p1 : Int32) (p2 : Int32) (p3 : Int32)  (τ : QMem) : Option (Int32 × QMem) :=
  (fX12_rowsOf p1 p2 p3 τ).bind fun xq1 => (some (xq1.1, xq1.2))
def fX12_squares (p1 : Int32) (p2 : Int32) (p3 : Int32) (σ : QMem) : Option (Int32 × QMem) :=
  (fX12_in p1 0 150).bind fun xq5 => (if xq5 = 0 then (some ((-1002), σ)) else (if p2 < (-2) then (some ((-1002), σ)) else (if p2 < 0 then (fX12_squares_J34 p1 p2 p3 σ) else ((fX12_in p3 0 3).bind fun xq10 => (if xq10 = 0 then (some ((-1002), σ)) else (fX12_squares_J34 p1 p2 p3 σ))))))
set_option maxHeartbeats 4000000 in
set_option maxRecDepth 100000 in
theorem kX12_squares (l : Launch) (D : va_G) (G : xG) (σ : QMem) (p1 : Int32) (p2 : Int32) (p3 : Int32) (res : Int32 × QMem) (h : fX12_squares p1 p2 p3 σ = some res) : Met l yX12_squares (.code yX12_squares cX12_squares 4 (some .int) :: lwW) (rmD 2) (mPc D G σ [.ref (G.1 28), .int p1, .int p2, .int p3]) (mQi D G res) 0 0 (mA G) := by
  refine Met.ofW (cc := cX12_squares) (maxL := 4) (ret := (some .int)) (by decide) rfl ?_
  intro p e s m args below meth c s₁ B hml hv
  obtain ⟨rfl, h0⟩ := hv
  have hx := B.exec
  have hb := B.bytes
  have hr := B.returns
  have hts := fun (w : Cond) (hw : w ∈ lwW) => atoms_spec (ws := (.code yX12_squares cX12_squares 4 (some .int) :: lwW)) B.pre w (List.mem_cons_of_mem _ hw)
  have hown : s.vm.findClass RX12 = some m.cls := findClass_of_methodNamed B.named
  have hlocks := B.notSynchronized
  have hP := h0.1
  have hK := h0.2.1
  have hi := h0.2.2
  have hS : va_S (mA G) s.heap s.heap [] := va_S.rf
  have hl := lv_entry ([.ref (G.1 28), .int p1, .int p2, .int p3]) (n := 4) (Nat.le_of_ble_eq_true rfl)
  rw [lg_entry_eq]
  generalize (lg_sl ([.ref (G.1 28), .int p1, .int p2, .int p3]) ++ List.replicate (4 - (lg_sl ([.ref (G.1 28), .int p1, .int p2, .int p3])).length) Slot.unset).toArray = ls at hl ⊢
  have hl : lv_has ls 4 [(0, .ref (G.1 28)), (1, .int p1), (2, .int p2), (3, .int p3)] := hl
  unfold fX12_squares at h
  have J34 : ∀ (τ : QMem) (H : Heap) (locs : List Loc) (ls : Array Slot), fX12_squares_J34 p1 p2 p3 τ = some res → va_P D vwCl (mW G τ) H → va_S (mA G) s.heap H locs → lv_has ls 4 [(0, .ref (G.1 28)), (1, .int p1), (2, .int p2), (3, .int p3)] → W p l e (headSpec (.code yX12_squares cX12_squares 4 (some .int) :: lwW) (rmD 2)).room s m ([.ref (G.1 28), .int p1, .int p2, .int p3] : List Value).toArray below meth c H locs 0 0 (MQ below (mQi D G res) ([.ref (G.1 28), .int p1, .int p2, .int p3] : List Value).toArray s 0 0 (mA G)) (F0 m 34 ls []) := by
    intro τ H locs ls h hP hS hl
    unfold fX12_squares_J34 at h
    refine lv_aload_n hx hb dX12_squares_34 rfl (lv_at hl 0 rfl) ?_
    refine lv_iload_n hx hb dX12_squares_35 rfl (lv_at hl 1 rfl) ?_
    refine lv_iload_n hx hb dX12_squares_36 rfl (lv_at hl 2 rfl) ?_
    refine lv_iload_n hx hb dX12_squares_37 rfl (lv_at hl 3 rfl) ?_
    obtain ⟨xq3, hfq4, h⟩ := obd h
    refine va_calli (va_runV (As := [.int p1, .int p2, .int p3]) (rest := []) ⟨hx, hb, hml, hown, hts⟩ (kX12_rowsOf l D G _ p1 p2 p3 xq3 hfq4) (cwV 3 hts (lwW_gV mw_1222 mw_1224 ms_44 mw_14 mw_1225) rfl rfl rfl (by decide +kernel) ⟨Nat.le_of_ble_eq_true rfl, Nat.le_of_ble_eq_true rfl⟩) ⟨fun a U g mk q => ⟨q.1, mPre_call q.2⟩, va_recv hK hP rfl (mg_2 rfl), fun U hU hW => ⟨rfl, mPre_at h0 hS hP hU hW⟩⟩ rfl rfl hl.1 rfl (lv_room (Nat.le_of_ble_eq_true rfl)) dX12_squares_38 ⟨Nat.zero_le _, Nat.zero_le _⟩) hS (fun q _ h => h) (fun q h => h) (fun r u t H1 locs ht hvm hw hB hz1 hq1 hS => ?_)
    obtain ⟨rfl, rfl⟩ := hw
    have hP := hB.1
    rw [ht] at hP
    refine W.widen (k := 0) (n := 0) (Nat.le_refl _) (Nat.le_refl _) ?_
    obtain rfl := Option.some.inj h
    exact W.iret (v := xq3.1) hx hb hr (fun t ht hW => ⟨⟨_, _, rfl, ⟨rfl, rfl⟩, mPre_at h0 hS hP ht hW⟩, hS.F ht⟩) hS.2.2 dX12_squares_41
  refine lv_iload_n hx hb dX12_squares_0 rfl (lv_at hl 1 rfl) ?_
  refine lv_iconst (v := 0) hx hb dX12_squares_1 (by decide) ?_
  refine lv_sipush (v := 150) hx hb dX12_squares_2 (by decide) ?_
  obtain ⟨xq5, hfq6, h⟩ := obd h
  refine va_calli (va_runS (As := [.int p1, .int 0, .int 150]) (rest := []) ⟨hx, hb, hml, hown, hts⟩ (kX12_in l p1 0 150 xq5 hfq6) (va_cwS 3 hts (lwW_gS mw_1069 mw_1070 mw_14 mw_1071) rfl rfl rfl (by decide +kernel) ⟨Nat.le_of_ble_eq_true rfl, Nat.le_of_ble_eq_true rfl⟩) ⟨fun a U g mk q => ⟨q.1, trivial⟩, fun U hU hW => ⟨rfl, trivial⟩⟩ rfl rfl hl.1 rfl (lv_room (Nat.le_of_ble_eq_true rfl)) dX12_squares_5 ⟨Nat.zero_le _, Nat.zero_le _⟩) hS (fun q _ h => h.elim) (fun q h => h.elim) (fun r u t H1 locs ht hvm hw hB hz1 hq1 hS => ?_)
  obtain rfl := hw.symm
  have hP := mP_kept hP hq1
  refine W.widen (k := 0) (n := 0) (Nat.le_refl _) (Nat.le_refl _) ?_
  refine lv_if_eq (tgt := 30) hx hb dX12_squares_8 (by decide) (fun hcq7 => ?_) (fun hcq7 => ?_)
  · have h := ifp hcq7 h
    refine lv_sipush (v := (-1002)) hx hb dX12_squares_30 (by decide) ?_
    obtain rfl := Option.some.inj h
    exact W.iret (v := (-1002)) hx hb hr (fun t ht hW => ⟨⟨_, _, rfl, ⟨rfl, rfl⟩, mPre_at h0 hS hP ht hW⟩, hS.F ht⟩) hS.2.2 dX12_squares_33
  have h := ifn hcq7 h
  refine lv_iload_n hx hb dX12_squares_11 rfl (lv_at hl 2 rfl) ?_
  refine lv_bipush (v := (-2)) hx hb dX12_squares_12 (by decide) ?_
  refine lv_icmp_lt (tgt := 30) hx hb dX12_squares_14 (by decide) (fun hcq8 => ?_) (fun hcq8 => ?_)
  · have h := ifp hcq8 h
    refine lv_sipush (v := (-1002)) hx hb dX12_squares_30 (by decide) ?_
    obtain rfl := Option.some.inj h
    exact W.iret (v := (-1002)) hx hb hr (fun t ht hW => ⟨⟨_, _, rfl, ⟨rfl, rfl⟩, mPre_at h0 hS hP ht hW⟩, hS.F ht⟩) hS.2.2 dX12_squares_33
  have h := ifn hcq8 h
  refine lv_iload_n hx hb dX12_squares_17 rfl (lv_at hl 2 rfl) ?_
  refine lv_if_lt (tgt := 34) hx hb dX12_squares_18 (by decide) (fun hcq9 => ?_) (fun hcq9 => ?_)
  · have h := ifp hcq9 h
    exact J34 _ _ _ _ h hP hS (lv_sub hl [0, 1, 2, 3] rfl)
  have h := ifn hcq9 h
  refine lv_iload_n hx hb dX12_squares_21 rfl (lv_at hl 3 rfl) ?_
  refine lv_iconst (v := 0) hx hb dX12_squares_22 (by decide) ?_
  refine lv_iconst (v := 3) hx hb dX12_squares_23 (by decide) ?_
  obtain ⟨xq10, hfq11, h⟩ := obd h
  refine va_calli (va_runS (As := [.int p3, .int 0, .int 3]) (rest := []) ⟨hx, hb, hml, hown, hts⟩ (kX12_in l p3 0 3 xq10 hfq11) (va_cwS 3 hts (lwW_gS mw_1069 mw_1070 mw_14 mw_1071) rfl rfl rfl (by decide +kernel) ⟨Nat.le_of_ble_eq_true rfl, Nat.le_of_ble_eq_true rfl⟩) ⟨fun a U g mk q => ⟨q.1, trivial⟩, fun U hU hW => ⟨rfl, trivial⟩⟩ rfl rfl hl.1 rfl (lv_room (Nat.le_of_ble_eq_true rfl)) dX12_squares_24 ⟨Nat.zero_le _, Nat.zero_le _⟩) hS (fun q _ h => h.elim) (fun q h => h.elim) (fun r u t H1 locs ht hvm hw hB hz1 hq1 hS => ?_)
  obtain rfl := hw.symm
  have hP := mP_kept hP hq1
  refine W.widen (k := 0) (n := 0) (Nat.le_refl _) (Nat.le_refl _) ?_
  refine lv_if_ne (tgt := 34) hx hb dX12_squares_27 (by decide) (fun hcq12 => ?_) (fun hcq12 => ?_)
  · have h := ifn hcq12 h
    exact J34 _ _ _ _ h hP hS (lv_sub hl [0, 1, 2, 3] rfl)
  have h := ifp hcq12 h
  refine lv_sipush (v := (-1002)) hx hb dX12_squares_30 (by decide) ?_
  obtain rfl := Option.some.inj h
  exact W.iret (v := (-1002)) hx hb hr (fun t ht hW => ⟨⟨_, _, rfl, ⟨rfl, rfl⟩, mPre_at h0 hS hP ht hW⟩, hS.F ht⟩) hS.2.2 dX12_squares_33
def fX12_turned_J61 (p1 : Int32) (p2 : Int32) (p3 : Int32) (K36 : Int32 → QMem → Option (Int32 × QMem)) (v4 : Int32) (s0 : Nat) (s1 : Int32) (s2 : Int32) (τ : QMem) : Option (Int32 × QMem) :=
  if (s1 < 0 ∨ ml s0 ≤ s1.toNatClampNeg) then none else (K36 (v4 + 1) (ms τ s0 s1.toNatClampNeg s2))
def fX12_turned_L36 (p1 : Int32) (p2 : Int32) (p3 : Int32) : Nat → Int32 → QMem → Option (Int32 × QMem)
  | 0, _, _ => none
  | n + 1, v4, τ =>
  if 4 ≤ v4 then ((fX12_product 13 (4 * p1) 19 0 20 τ).bind fun xq4 => ((fX12_conjugates 13 (4 * p1) 2 xq4).bind fun xq6 => ((fX12_product 20 0 2 0 19 xq6).bind fun xq8 => (if (1 + p3 < 0 ∨ ml 19 ≤ (1 + p3).toNatClampNeg) then none else (some (xq8 19 (1 + p3).toNatClampNeg, xq8)))))) else (if v4 = (p2 + 1) then (fX12_turned_J61 p1 p2 p3 (fX12_turned_L36 p1 p2 p3 n) v4 19 v4 2 τ) else (fX12_turned_J61 p1 p2 p3 (fX12_turned_L36 p1 p2 p3 n) v4 19 v4 0 τ))
def fX12_turned (p1 : Int32) (p2 : Int32) (p3 : Int32) (σ : QMem) : Option (Int32 × QMem) :=
  (fX12_isSlot p1).bind fun xq12 => (if xq12 = 0 then (some ((-1001), σ)) else ((fX12_in p2 0 2).bind fun xq15 => (if xq15 = 0 then (some ((-1002), σ)) else ((fX12_in p3 0 2).bind fun xq18 => (if xq18 = 0 then (some ((-1002), σ)) else (fX12_turned_L36 p1 p2 p3 FU 0 σ))))))
set_option maxHeartbeats 4000000 in
set_option maxRecDepth 100000 in
theorem kX12_turned (l : Launch) (D : va_G) (G : xG) (σ : QMem) (p1 : Int32) (p2 : Int32) (p3 : Int32) (res : Int32 × QMem) (h : fX12_turned p1 p2 p3 σ = some res) : Met l yX12_turned (.code yX12_turned cX12_turned 5 (some .int) :: lwW) (rmD 2) (mPc D G σ [.ref (G.1 28), .int p1, .int p2, .int p3]) (mQi D G res) 0 0 (mA G) := by
  refine Met.ofW (cc := cX12_turned) (maxL := 5) (ret := (some .int)) (by decide) rfl ?_
  intro p e s m args below meth c s₁ B hml hv
  obtain ⟨rfl, h0⟩ := hv
  have hx := B.exec
  have hb := B.bytes
  have hr := B.returns
  have hts := fun (w : Cond) (hw : w ∈ lwW) => atoms_spec (ws := (.code yX12_turned cX12_turned 5 (some .int) :: lwW)) B.pre w (List.mem_cons_of_mem _ hw)
  have hown : s.vm.findClass RX12 = some m.cls := findClass_of_methodNamed B.named
  have hlocks := B.notSynchronized
  have hP := h0.1
  have hK := h0.2.1
  have hi := h0.2.2
  have hS : va_S (mA G) s.heap s.heap [] := va_S.rf
  have hl := lv_entry ([.ref (G.1 28), .int p1, .int p2, .int p3]) (n := 5) (Nat.le_of_ble_eq_true rfl)
  rw [lg_entry_eq]
  generalize (lg_sl ([.ref (G.1 28), .int p1, .int p2, .int p3]) ++ List.replicate (5 - (lg_sl ([.ref (G.1 28), .int p1, .int p2, .int p3])).length) Slot.unset).toArray = ls at hl ⊢
  have hl : lv_has ls 5 [(0, .ref (G.1 28)), (1, .int p1), (2, .int p2), (3, .int p3)] := hl
  unfold fX12_turned at h
  have L36 : ∀ (n36 : Nat) (v4 : Int32) (τ : QMem) (H : Heap) (locs : List Loc) (ls : Array Slot), fX12_turned_L36 p1 p2 p3 n36 v4 τ = some res → va_P D vwCl (mW G τ) H → va_S (mA G) s.heap H locs → lv_has ls 5 [(0, .ref (G.1 28)), (1, .int p1), (2, .int p2), (3, .int p3), (4, .int v4)] → W p l e (headSpec (.code yX12_turned cX12_turned 5 (some .int) :: lwW) (rmD 2)).room s m ([.ref (G.1 28), .int p1, .int p2, .int p3] : List Value).toArray below meth c H locs 0 0 (MQ below (mQi D G res) ([.ref (G.1 28), .int p1, .int p2, .int p3] : List Value).toArray s 0 0 (mA G)) (F0 m 36 ls []) := by
    intro n36
    induction n36 with
    | zero => intro v4 τ H locs ls h; rw [fX12_turned_L36] at h; cases h
    | succ n36 ih36 =>
      intro v4 τ H locs ls h hP hS hl
      rw [fX12_turned_L36] at h
      have J61 : ∀ (v4 : Int32) (s0 : Nat) (hs0 : mk s0 = 0) (s1 : Int32) (s2 : Int32) (τ : QMem) (H : Heap) (locs : List Loc) (ls : Array Slot), fX12_turned_J61 p1 p2 p3 (fX12_turned_L36 p1 p2 p3 n36) v4 s0 s1 s2 τ = some res → va_P D vwCl (mW G τ) H → va_S (mA G) s.heap H locs → lv_has ls 5 [(0, .ref (G.1 28)), (1, .int p1), (2, .int p2), (3, .int p3), (4, .int v4)] → W p l e (headSpec (.code yX12_turned cX12_turned 5 (some .int) :: lwW) (rmD 2)).room s m ([.ref (G.1 28), .int p1, .int p2, .int p3] : List Value).toArray below meth c H locs 0 0 (MQ below (mQi D G res) ([.ref (G.1 28), .int p1, .int p2, .int p3] : List Value).toArray s 0 0 (mA G)) (F0 m 61 ls [.int s2, .int s1, .ref (G.1 s0)]) := by
        intro v4 s0 hs0 s1 s2 τ H locs ls h hP hS hl
        unfold fX12_turned_J61 at h
        obtain ⟨hiq2, h⟩ := nif h
        refine va_iast hx hb hK hP (mD hi) hS s0 0 (mg_0 hs0) rfl hiq2 dX12_turned_61 (fun H locs hP hD hS => ?_)
        have hP : va_P D vwCl (mW G (ms τ s0 s1.toNatClampNeg s2)) H := by rw [← ms_0x hs0]; exact hP
        refine lv_iinc (v := v4 + 1) (lv' := [(4, .int (v4 + 1)), (0, .ref (G.1 28)), (1, .int p1), (2, .int p2), (3, .int p3)]) hx hb dX12_turned_62 hl (k := 4) rfl rfl (by decide) rfl (fun ls hl => ?_)
        refine lv_goto (tgt := 36) hx hb dX12_turned_65 (by decide) ?_
        exact ih36 (v4 + 1) _ _ _ _ h hP hS (lv_sub hl [1, 2, 3, 4, 0] rfl)
      refine lv_iload hx hb dX12_turned_36 (lv_at hl 4 rfl) ?_
      refine lv_iconst (v := 4) hx hb dX12_turned_38 (by decide) ?_
      refine lv_icmp_ge (tgt := 68) hx hb dX12_turned_39 (by decide) (fun hcq3 => ?_) (fun hcq3 => ?_)
      · have h := ifp hcq3 h
        refine lv_aload_n hx hb dX12_turned_68 rfl (lv_at hl 0 rfl) ?_
        refine va_get (D := D) (ci := 12) (v := .ref (G.1 13)) (C := RX12) (T := TX12) (N := 34) hx hb hts iwX12 hown hK hP 28 (mg_2 rfl) rfl 14 (by decide) (hts _ mw_972) (fun _ h9 => h9) rfl dX12_turned_69 ?_
        refine lv_iconst (v := 4) hx hb dX12_turned_72 (by decide) ?_
        refine lv_iload_n hx hb dX12_turned_73 rfl (lv_at hl 1 rfl) ?_
        refine lv_imul hx hb dX12_turned_74 ?_
        refine lv_aload_n hx hb dX12_turned_75 rfl (lv_at hl 0 rfl) ?_
        refine va_get (D := D) (ci := 12) (v := .ref (G.1 19)) (C := RX12) (T := TX12) (N := 34) hx hb hts iwX12 hown hK hP 28 (mg_2 rfl) rfl 21 (by decide) (hts _ mw_979) (fun _ h9 => h9) rfl dX12_turned_76 ?_
        refine lv_iconst (v := 0) hx hb dX12_turned_79 (by decide) ?_
        refine lv_aload_n hx hb dX12_turned_80 rfl (lv_at hl 0 rfl) ?_
        refine va_get (D := D) (ci := 12) (v := .ref (G.1 20)) (C := RX12) (T := TX12) (N := 34) hx hb hts iwX12 hown hK hP 28 (mg_2 rfl) rfl 22 (by decide) (hts _ mw_980) (fun _ h9 => h9) rfl dX12_turned_81 ?_
        obtain ⟨xq4, hfq5, h⟩ := obd h
        refine va_callv (va_runS (As := [.ref (G.1 13), .int (4 * p1), .ref (G.1 19), .int 0, .ref (G.1 20)]) (rest := []) ⟨hx, hb, hml, hown, hts⟩ (kX12_product l D G _ 13 rfl (4 * p1) 19 rfl 0 20 rfl xq4 hfq5) (va_cwS 5 hts (lwW_gS mw_945 mw_946 mw_14 mw_947) rfl rfl rfl (by decide +kernel) ⟨Nat.le_of_ble_eq_true rfl, Nat.le_of_ble_eq_true rfl⟩) ⟨fun a U g mk q => ⟨q.1, mPre_call q.2⟩, fun U hU hW => ⟨rfl, mPre_at h0 hS hP hU hW⟩⟩ rfl rfl hl.1 rfl (lv_room (Nat.le_of_ble_eq_true rfl)) dX12_turned_84 ⟨Nat.zero_le _, Nat.zero_le _⟩) hS (fun q _ h => h) (fun q h => h) (fun u t H1 locs ht hvm hw hB hz1 hq1 hS => ?_)
        obtain rfl := hw.symm
        have hP := hB.1
        rw [ht] at hP
        refine W.widen (k := 0) (n := 0) (Nat.le_refl _) (Nat.le_refl _) ?_
        refine lv_aload_n hx hb dX12_turned_87 rfl (lv_at hl 0 rfl) ?_
        refine va_get (D := D) (ci := 12) (v := .ref (G.1 13)) (C := RX12) (T := TX12) (N := 34) hx hb hts iwX12 hown hK hP 28 (mg_2 rfl) rfl 14 (by decide) (hts _ mw_972) (fun _ h9 => h9) rfl dX12_turned_88 ?_
        refine lv_iconst (v := 4) hx hb dX12_turned_91 (by decide) ?_
        refine lv_iload_n hx hb dX12_turned_92 rfl (lv_at hl 1 rfl) ?_
        refine lv_imul hx hb dX12_turned_93 ?_
        refine lv_aload_n hx hb dX12_turned_94 rfl (lv_at hl 0 rfl) ?_
        refine va_get (D := D) (ci := 12) (v := .ref (G.1 2)) (C := RX12) (T := TX12) (N := 34) hx hb hts iwX12 hown hK hP 28 (mg_2 rfl) rfl 2 (by decide) (hts _ mw_960) (fun _ h9 => h9) rfl dX12_turned_95 ?_
        obtain ⟨xq6, hfq7, h⟩ := obd h
        refine va_callv (va_runS (As := [.ref (G.1 13), .int (4 * p1), .ref (G.1 2)]) (rest := []) ⟨hx, hb, hml, hown, hts⟩ (kX12_conjugates l D G _ 13 rfl (4 * p1) 2 rfl xq6 hfq7) (va_cwS 3 hts (lwW_gS mw_939 mw_940 mw_14 mw_941) rfl rfl rfl (by decide +kernel) ⟨Nat.le_of_ble_eq_true rfl, Nat.le_of_ble_eq_true rfl⟩) ⟨fun a U g mk q => ⟨q.1, mPre_call q.2⟩, fun U hU hW => ⟨rfl, mPre_at h0 hS hP hU hW⟩⟩ rfl rfl hl.1 rfl (lv_room (Nat.le_of_ble_eq_true rfl)) dX12_turned_98 ⟨Nat.zero_le _, Nat.zero_le _⟩) hS (fun q _ h => h) (fun q h => h) (fun u t H1 locs ht hvm hw hB hz1 hq1 hS => ?_)
        obtain rfl := hw.symm
        have hP := hB.1
        rw [ht] at hP
        refine W.widen (k := 0) (n := 0) (Nat.le_refl _) (Nat.le_refl _) ?_
        refine lv_aload_n hx hb dX12_turned_101 rfl (lv_at hl 0 rfl) ?_
        refine va_get (D := D) (ci := 12) (v := .ref (G.1 20)) (C := RX12) (T := TX12) (N := 34) hx hb hts iwX12 hown hK hP 28 (mg_2 rfl) rfl 22 (by decide) (hts _ mw_980) (fun _ h9 => h9) rfl dX12_turned_102 ?_
        refine lv_iconst (v := 0) hx hb dX12_turned_105 (by decide) ?_
        refine lv_aload_n hx hb dX12_turned_106 rfl (lv_at hl 0 rfl) ?_
        refine va_get (D := D) (ci := 12) (v := .ref (G.1 2)) (C := RX12) (T := TX12) (N := 34) hx hb hts iwX12 hown hK hP 28 (mg_2 rfl) rfl 2 (by decide) (hts _ mw_960) (fun _ h9 => h9) rfl dX12_turned_107 ?_
        refine lv_iconst (v := 0) hx hb dX12_turned_110 (by decide) ?_
        refine lv_aload_n hx hb dX12_turned_111 rfl (lv_at hl 0 rfl) ?_
        refine va_get (D := D) (ci := 12) (v := .ref (G.1 19)) (C := RX12) (T := TX12) (N := 34) hx hb hts iwX12 hown hK hP 28 (mg_2 rfl) rfl 21 (by decide) (hts _ mw_979) (fun _ h9 => h9) rfl dX12_turned_112 ?_
        obtain ⟨xq8, hfq9, h⟩ := obd h
        refine va_callv (va_runS (As := [.ref (G.1 20), .int 0, .ref (G.1 2), .int 0, .ref (G.1 19)]) (rest := []) ⟨hx, hb, hml, hown, hts⟩ (kX12_product l D G _ 20 rfl 0 2 rfl 0 19 rfl xq8 hfq9) (va_cwS 5 hts (lwW_gS mw_945 mw_946 mw_14 mw_947) rfl rfl rfl (by decide +kernel) ⟨Nat.le_of_ble_eq_true rfl, Nat.le_of_ble_eq_true rfl⟩) ⟨fun a U g mk q => ⟨q.1, mPre_call q.2⟩, fun U hU hW => ⟨rfl, mPre_at h0 hS hP hU hW⟩⟩ rfl rfl hl.1 rfl (lv_room (Nat.le_of_ble_eq_true rfl)) dX12_turned_115 ⟨Nat.zero_le _, Nat.zero_le _⟩) hS (fun q _ h => h) (fun q h => h) (fun u t H1 locs ht hvm hw hB hz1 hq1 hS => ?_)
        obtain rfl := hw.symm
        have hP := hB.1
        rw [ht] at hP
        refine W.widen (k := 0) (n := 0) (Nat.le_refl _) (Nat.le_refl _) ?_
        refine lv_aload_n hx hb dX12_turned_118 rfl (lv_at hl 0 rfl) ?_
        refine va_get (D := D) (ci := 12) (v := .ref (G.1 19)) (C := RX12) (T := TX12) (N := 34) hx hb hts iwX12 hown hK hP 28 (mg_2 rfl) rfl 21 (by decide) (hts _ mw_979) (fun _ h9 => h9) rfl dX12_turned_119 ?_
        refine lv_iconst (v := 1) hx hb dX12_turned_122 (by decide) ?_
        refine lv_iload_n hx hb dX12_turned_123 rfl (lv_at hl 3 rfl) ?_
        refine lv_iadd hx hb dX12_turned_124 ?_
        obtain ⟨hiq10, h⟩ := nif h
        refine va_iald hx hb hK hP 19 0 (mg_0 rfl) rfl hiq10 dX12_turned_125 ?_
        obtain rfl := Option.some.inj h
        exact W.iret (v := xq8 19 (1 + p3).toNatClampNeg) hx hb hr (fun t ht hW => ⟨⟨_, _, rfl, ⟨rfl, rfl⟩, mPre_at h0 hS hP ht hW⟩, hS.F ht⟩) hS.2.2 dX12_turned_126
      have h := ifn hcq3 h
      refine lv_aload_n hx hb dX12_turned_42 rfl (lv_at hl 0 rfl) ?_
      refine va_get (D := D) (ci := 12) (v := .ref (G.1 19)) (C := RX12) (T := TX12) (N := 34) hx hb hts iwX12 hown hK hP 28 (mg_2 rfl) rfl 21 (by decide) (hts _ mw_979) (fun _ h9 => h9) rfl dX12_turned_43 ?_
      refine lv_iload hx hb dX12_turned_46 (lv_at hl 4 rfl) ?_
      refine lv_iload hx hb dX12_turned_48 (lv_at hl 4 rfl) ?_
      refine lv_iload_n hx hb dX12_turned_50 rfl (lv_at hl 2 rfl) ?_
      refine lv_iconst (v := 1) hx hb dX12_turned_51 (by decide) ?_
      refine lv_iadd hx hb dX12_turned_52 ?_
      refine lv_icmp_ne (tgt := 60) hx hb dX12_turned_53 (by decide) (fun hcq11 => ?_) (fun hcq11 => ?_)
      · have h := ifn hcq11 h
        refine lv_iconst (v := 0) hx hb dX12_turned_60 (by decide) ?_
        exact J61 v4 19 rfl v4 0 _ _ _ _ h hP hS (lv_sub hl [0, 1, 2, 3, 4] rfl)
      have h := ifp hcq11 h
      refine lv_iconst (v := 2) hx hb dX12_turned_56 (by decide) ?_
      refine lv_goto (tgt := 61) hx hb dX12_turned_57 (by decide) ?_
      exact J61 v4 19 rfl v4 2 _ _ _ _ h hP hS (lv_sub hl [0, 1, 2, 3, 4] rfl)
  refine lv_iload_n hx hb dX12_turned_0 rfl (lv_at hl 1 rfl) ?_
  obtain ⟨xq12, hfq13, h⟩ := obd h
  refine va_calli (va_runS (As := [.int p1]) (rest := []) ⟨hx, hb, hml, hown, hts⟩ (kX12_isSlot l p1 xq12 hfq13) (va_cwS 1 hts (lwW_gS mw_1066 mw_1067 mw_14 mw_1068) rfl rfl rfl (by decide +kernel) ⟨Nat.le_of_ble_eq_true rfl, Nat.le_of_ble_eq_true rfl⟩) ⟨fun a U g mk q => ⟨q.1, trivial⟩, fun U hU hW => ⟨rfl, trivial⟩⟩ rfl rfl hl.1 rfl (lv_room (Nat.le_of_ble_eq_true rfl)) dX12_turned_1 ⟨Nat.zero_le _, Nat.zero_le _⟩) hS (fun q _ h => h.elim) (fun q h => h.elim) (fun r u t H1 locs ht hvm hw hB hz1 hq1 hS => ?_)
  obtain rfl := hw.symm
  have hP := mP_kept hP hq1
  refine W.widen (k := 0) (n := 0) (Nat.le_refl _) (Nat.le_refl _) ?_
  refine lv_if_ne (tgt := 11) hx hb dX12_turned_4 (by decide) (fun hcq14 => ?_) (fun hcq14 => ?_)
  · have h := ifn hcq14 h
    refine lv_iload_n hx hb dX12_turned_11 rfl (lv_at hl 2 rfl) ?_
    refine lv_iconst (v := 0) hx hb dX12_turned_12 (by decide) ?_
    refine lv_iconst (v := 2) hx hb dX12_turned_13 (by decide) ?_
    obtain ⟨xq15, hfq16, h⟩ := obd h
    refine va_calli (va_runS (As := [.int p2, .int 0, .int 2]) (rest := []) ⟨hx, hb, hml, hown, hts⟩ (kX12_in l p2 0 2 xq15 hfq16) (va_cwS 3 hts (lwW_gS mw_1069 mw_1070 mw_14 mw_1071) rfl rfl rfl (by decide +kernel) ⟨Nat.le_of_ble_eq_true rfl, Nat.le_of_ble_eq_true rfl⟩) ⟨fun a U g mk q => ⟨q.1, trivial⟩, fun U hU hW => ⟨rfl, trivial⟩⟩ rfl rfl hl.1 rfl (lv_room (Nat.le_of_ble_eq_true rfl)) dX12_turned_14 ⟨Nat.zero_le _, Nat.zero_le _⟩) hS (fun q _ h => h.elim) (fun q h => h.elim) (fun r u t H1 locs ht hvm hw hB hz1 hq1 hS => ?_)
    obtain rfl := hw.symm
    have hP := mP_kept hP hq1
    refine W.widen (k := 0) (n := 0) (Nat.le_refl _) (Nat.le_refl _) ?_
    refine lv_if_eq (tgt := 29) hx hb dX12_turned_17 (by decide) (fun hcq17 => ?_) (fun hcq17 => ?_)
    · have h := ifp hcq17 h
      refine lv_sipush (v := (-1002)) hx hb dX12_turned_29 (by decide) ?_
      obtain rfl := Option.some.inj h
      exact W.iret (v := (-1002)) hx hb hr (fun t ht hW => ⟨⟨_, _, rfl, ⟨rfl, rfl⟩, mPre_at h0 hS hP ht hW⟩, hS.F ht⟩) hS.2.2 dX12_turned_32
    have h := ifn hcq17 h
    refine lv_iload_n hx hb dX12_turned_20 rfl (lv_at hl 3 rfl) ?_
    refine lv_iconst (v := 0) hx hb dX12_turned_21 (by decide) ?_
    refine lv_iconst (v := 2) hx hb dX12_turned_22 (by decide) ?_
    obtain ⟨xq18, hfq19, h⟩ := obd h
    refine va_calli (va_runS (As := [.int p3, .int 0, .int 2]) (rest := []) ⟨hx, hb, hml, hown, hts⟩ (kX12_in l p3 0 2 xq18 hfq19) (va_cwS 3 hts (lwW_gS mw_1069 mw_1070 mw_14 mw_1071) rfl rfl rfl (by decide +kernel) ⟨Nat.le_of_ble_eq_true rfl, Nat.le_of_ble_eq_true rfl⟩) ⟨fun a U g mk q => ⟨q.1, trivial⟩, fun U hU hW => ⟨rfl, trivial⟩⟩ rfl rfl hl.1 rfl (lv_room (Nat.le_of_ble_eq_true rfl)) dX12_turned_23 ⟨Nat.zero_le _, Nat.zero_le _⟩) hS (fun q _ h => h.elim) (fun q h => h.elim) (fun r u t H1 locs ht hvm hw hB hz1 hq1 hS => ?_)
    obtain rfl := hw.symm
    have hP := mP_kept hP hq1
    refine W.widen (k := 0) (n := 0) (Nat.le_refl _) (Nat.le_refl _) ?_
    refine lv_if_ne (tgt := 33) hx hb dX12_turned_26 (by decide) (fun hcq20 => ?_) (fun hcq20 => ?_)
    · have h := ifn hcq20 h
      refine lv_iconst (v := 0) hx hb dX12_turned_33 (by decide) ?_
      refine lv_istore (lv' := [(4, .int 0), (0, .ref (G.1 28)), (1, .int p1), (2, .int p2), (3, .int p3)]) hx hb dX12_turned_34 hl (by decide) rfl (fun ls hl => ?_)
      exact L36 FU 0 _ _ _ _ h hP hS (lv_sub hl [1, 2, 3, 4, 0] rfl)
    have h := ifp hcq20 h
    refine lv_sipush (v := (-1002)) hx hb dX12_turned_29 (by decide) ?_
    obtain rfl := Option.some.inj h
    exact W.iret (v := (-1002)) hx hb hr (fun t ht hW => ⟨⟨_, _, rfl, ⟨rfl, rfl⟩, mPre_at h0 hS hP ht hW⟩, hS.F ht⟩) hS.2.2 dX12_turned_32
  have h := ifp hcq14 h
  refine lv_sipush (v := (-1001)) hx hb dX12_turned_7 (by decide) ?_
  obtain rfl := Option.some.inj h
  exact W.iret (v := (-1001)) hx hb hr (fun t ht hW => ⟨⟨_, _, rfl, ⟨rfl, rfl⟩, mPre_at h0 hS hP ht hW⟩, hS.F ht⟩) hS.2.2 dX12_turned_10
def fX12_isAhead_J77 (p1 : Int32) (p2 : Int32)  (τ : QMem) : Option (Int32 × QMem) :=
  some (1, τ)
def fX12_isAhead (p1 : Int32) (p2 : Int32) (σ : QMem) : Option (Int32 × QMem) :=
  (fX12_norm p1 σ).bind fun xq1 => ((fX12_norm p2 xq1.2).bind fun xq3 => (if xq1.1 = xq3.1 then ((fX12_isGreater 13 (4 * p1) 13 (4 * p2) xq3.2).bind fun xq6 => (if xq6.1 = 0 then ((fX12_isGreater 13 (4 * p2) 13 (4 * p1) xq6.2).bind fun xq9 => (if xq9.1 = 0 then (if p2 ≤ p1 then (some (0, xq9.2)) else (fX12_isAhead_J77 p1 p2 xq9.2)) else (some (0, xq9.2)))) else (fX12_isAhead_J77 p1 p2 xq6.2))) else ((fX12_norm p1 xq3.2).bind fun xq13 => ((fX12_norm p2 xq13.2).bind fun xq15 => (if xq15.1 ≤ xq13.1 then (some (0, xq15.2)) else (some (1, xq15.2)))))))
set_option maxHeartbeats 4000000 in
set_option maxRecDepth 100000 in
theorem kX12_isAhead (l : Launch) (D : va_G) (G : xG) (σ : QMem) (p1 : Int32) (p2 : Int32) (res : Int32 × QMem) (h : fX12_isAhead p1 p2 σ = some res) : Met l yX12_isAhead (.code yX12_isAhead cX12_isAhead 3 (some .boolean) :: lwW) (rmD 2) (mPc D G σ [.ref (G.1 28), .int p1, .int p2]) (mQi D G res) 0 0 (mA G) := by
  refine Met.ofW (cc := cX12_isAhead) (maxL := 3) (ret := (some .boolean)) (by decide) rfl ?_
  intro p e s m args below meth c s₁ B hml hv
  obtain ⟨rfl, h0⟩ := hv
  have hx := B.exec
  have hb := B.bytes
  have hr := B.returns
  have hts := fun (w : Cond) (hw : w ∈ lwW) => atoms_spec (ws := (.code yX12_isAhead cX12_isAhead 3 (some .boolean) :: lwW)) B.pre w (List.mem_cons_of_mem _ hw)
  have hown : s.vm.findClass RX12 = some m.cls := findClass_of_methodNamed B.named
  have hlocks := B.notSynchronized
  have hP := h0.1
  have hK := h0.2.1
  have hi := h0.2.2
  have hS : va_S (mA G) s.heap s.heap [] := va_S.rf
  have hl := lv_entry ([.ref (G.1 28), .int p1, .int p2]) (n := 3) (Nat.le_of_ble_eq_true rfl)
  rw [lg_entry_eq]
  generalize (lg_sl ([.ref (G.1 28), .int p1, .int p2]) ++ List.replicate (3 - (lg_sl ([.ref (G.1 28), .int p1, .int p2])).length) Slot.unset).toArray = ls at hl ⊢
  have hl : lv_has ls 3 [(0, .ref (G.1 28)), (1, .int p1), (2, .int p2)] := hl
  unfold fX12_isAhead at h
  have J77 : ∀ (τ : QMem) (H : Heap) (locs : List Loc) (ls : Array Slot), fX12_isAhead_J77 p1 p2 τ = some res → va_P D vwCl (mW G τ) H → va_S (mA G) s.heap H locs → lv_has ls 3 [] → W p l e (headSpec (.code yX12_isAhead cX12_isAhead 3 (some .boolean) :: lwW) (rmD 2)).room s m ([.ref (G.1 28), .int p1, .int p2] : List Value).toArray below meth c H locs 0 0 (MQ below (mQi D G res) ([.ref (G.1 28), .int p1, .int p2] : List Value).toArray s 0 0 (mA G)) (F0 m 77 ls []) := by
    intro τ H locs ls h hP hS hl
    unfold fX12_isAhead_J77 at h
    refine lv_iconst (v := 1) hx hb dX12_isAhead_77 (by decide) ?_
    refine lv_goto (tgt := 82) hx hb dX12_isAhead_78 (by decide) ?_
    obtain rfl := Option.some.inj h
    exact W.zret hx hb hr rfl (fun t ht hW => ⟨⟨_, _, rfl, ⟨rfl, rfl⟩, mPre_at h0 hS hP ht hW⟩, hS.F ht⟩) hS.2.2 dX12_isAhead_82
  refine lv_aload_n hx hb dX12_isAhead_0 rfl (lv_at hl 0 rfl) ?_
  refine lv_iload_n hx hb dX12_isAhead_1 rfl (lv_at hl 1 rfl) ?_
  obtain ⟨xq1, hfq2, h⟩ := obd h
  refine va_calli (va_runV (As := [.int p1]) (rest := []) ⟨hx, hb, hml, hown, hts⟩ (kX12_norm l D G _ p1 xq1 hfq2) (cwV 1 hts (lwW_gV mw_1083 mw_1085 ms_31 mw_14 mw_1086) rfl rfl rfl (by decide +kernel) ⟨Nat.le_of_ble_eq_true rfl, Nat.le_of_ble_eq_true rfl⟩) ⟨fun a U g mk q => ⟨q.1, mPre_call q.2⟩, va_recv hK hP rfl (mg_2 rfl), fun U hU hW => ⟨rfl, mPre_at h0 hS hP hU hW⟩⟩ rfl rfl hl.1 rfl (lv_room (Nat.le_of_ble_eq_true rfl)) dX12_isAhead_2 ⟨Nat.zero_le _, Nat.zero_le _⟩) hS (fun q _ h => h) (fun q h => h) (fun r u t H1 locs ht hvm hw hB hz1 hq1 hS => ?_)
  obtain ⟨rfl, rfl⟩ := hw
  have hP := hB.1
  rw [ht] at hP
  refine W.widen (k := 0) (n := 0) (Nat.le_refl _) (Nat.le_refl _) ?_
  refine lv_aload_n hx hb dX12_isAhead_5 rfl (lv_at hl 0 rfl) ?_
  refine lv_iload_n hx hb dX12_isAhead_6 rfl (lv_at hl 2 rfl) ?_
  obtain ⟨xq3, hfq4, h⟩ := obd h
  refine va_calli (va_runV (As := [.int p2]) (rest := [.int xq1.1]) ⟨hx, hb, hml, hown, hts⟩ (kX12_norm l D G _ p2 xq3 hfq4) (cwV 1 hts (lwW_gV mw_1083 mw_1085 ms_31 mw_14 mw_1086) rfl rfl rfl (by decide +kernel) ⟨Nat.le_of_ble_eq_true rfl, Nat.le_of_ble_eq_true rfl⟩) ⟨fun a U g mk q => ⟨q.1, mPre_call q.2⟩, va_recv hK hP rfl (mg_2 rfl), fun U hU hW => ⟨rfl, mPre_at h0 hS hP hU hW⟩⟩ rfl rfl hl.1 rfl (lv_room (Nat.le_of_ble_eq_true rfl)) dX12_isAhead_7 ⟨Nat.zero_le _, Nat.zero_le _⟩) hS (fun q _ h => h) (fun q h => h) (fun r u t H1 locs ht hvm hw hB hz1 hq1 hS => ?_)
  obtain ⟨rfl, rfl⟩ := hw
  have hP := hB.1
  rw [ht] at hP
  refine W.widen (k := 0) (n := 0) (Nat.le_refl _) (Nat.le_refl _) ?_
  refine lv_icmp_eq (tgt := 32) hx hb dX12_isAhead_10 (by decide) (fun hcq5 => ?_) (fun hcq5 => ?_)
  · have h := ifp hcq5 h
    refine lv_aload_n hx hb dX12_isAhead_32 rfl (lv_at hl 0 rfl) ?_
    refine va_get (D := D) (ci := 12) (v := .ref (G.1 13)) (C := RX12) (T := TX12) (N := 34) hx hb hts iwX12 hown hK hP 28 (mg_2 rfl) rfl 14 (by decide) (hts _ mw_972) (fun _ h9 => h9) rfl dX12_isAhead_33 ?_
    refine lv_iconst (v := 4) hx hb dX12_isAhead_36 (by decide) ?_
    refine lv_iload_n hx hb dX12_isAhead_37 rfl (lv_at hl 1 rfl) ?_
    refine lv_imul hx hb dX12_isAhead_38 ?_
    refine lv_aload_n hx hb dX12_isAhead_39 rfl (lv_at hl 0 rfl) ?_
    refine va_get (D := D) (ci := 12) (v := .ref (G.1 13)) (C := RX12) (T := TX12) (N := 34) hx hb hts iwX12 hown hK hP 28 (mg_2 rfl) rfl 14 (by decide) (hts _ mw_972) (fun _ h9 => h9) rfl dX12_isAhead_40 ?_
    refine lv_iconst (v := 4) hx hb dX12_isAhead_43 (by decide) ?_
    refine lv_iload_n hx hb dX12_isAhead_44 rfl (lv_at hl 2 rfl) ?_
    refine lv_imul hx hb dX12_isAhead_45 ?_
    obtain ⟨xq6, hfq7, h⟩ := obd h
    refine va_calli (va_runS (As := [.ref (G.1 13), .int (4 * p1), .ref (G.1 13), .int (4 * p2)]) (rest := []) ⟨hx, hb, hml, hown, hts⟩ (kX12_isGreater l D G _ 13 rfl (4 * p1) 13 rfl (4 * p2) xq6 hfq7) (va_cwS 4 hts (lwW_gS mw_952 mw_953 mw_14 mw_954) rfl rfl rfl (by decide +kernel) ⟨Nat.le_of_ble_eq_true rfl, Nat.le_of_ble_eq_true rfl⟩) ⟨fun a U g mk q => ⟨q.1, mPre_call q.2⟩, fun U hU hW => ⟨rfl, mPre_at h0 hS hP hU hW⟩⟩ rfl rfl hl.1 rfl (lv_room (Nat.le_of_ble_eq_true rfl)) dX12_isAhead_46 ⟨Nat.zero_le _, Nat.zero_le _⟩) hS (fun q _ h => h) (fun q h => h) (fun r u t H1 locs ht hvm hw hB hz1 hq1 hS => ?_)
    obtain ⟨rfl, rfl⟩ := hw
    have hP := hB.1
    rw [ht] at hP
    refine W.widen (k := 0) (n := 0) (Nat.le_refl _) (Nat.le_refl _) ?_
    refine lv_if_ne (tgt := 77) hx hb dX12_isAhead_49 (by decide) (fun hcq8 => ?_) (fun hcq8 => ?_)
    · have h := ifn hcq8 h
      exact J77 _ _ _ _ h hP hS (lv_sub hl [] rfl)
    have h := ifp hcq8 h
    refine lv_aload_n hx hb dX12_isAhead_52 rfl (lv_at hl 0 rfl) ?_
    refine va_get (D := D) (ci := 12) (v := .ref (G.1 13)) (C := RX12) (T := TX12) (N := 34) hx hb hts iwX12 hown hK hP 28 (mg_2 rfl) rfl 14 (by decide) (hts _ mw_972) (fun _ h9 => h9) rfl dX12_isAhead_53 ?_
    refine lv_iconst (v := 4) hx hb dX12_isAhead_56 (by decide) ?_
    refine lv_iload_n hx hb dX12_isAhead_57 rfl (lv_at hl 2 rfl) ?_
    refine lv_imul hx hb dX12_isAhead_58 ?_
    refine lv_aload_n hx hb dX12_isAhead_59 rfl (lv_at hl 0 rfl) ?_
    refine va_get (D := D) (ci := 12) (v := .ref (G.1 13)) (C := RX12) (T := TX12) (N := 34) hx hb hts iwX12 hown hK hP 28 (mg_2 rfl) rfl 14 (by decide) (hts _ mw_972) (fun _ h9 => h9) rfl dX12_isAhead_60 ?_
    refine lv_iconst (v := 4) hx hb dX12_isAhead_63 (by decide) ?_
    refine lv_iload_n hx hb dX12_isAhead_64 rfl (lv_at hl 1 rfl) ?_
    refine lv_imul hx hb dX12_isAhead_65 ?_
    obtain ⟨xq9, hfq10, h⟩ := obd h
    refine va_calli (va_runS (As := [.ref (G.1 13), .int (4 * p2), .ref (G.1 13), .int (4 * p1)]) (rest := []) ⟨hx, hb, hml, hown, hts⟩ (kX12_isGreater l D G _ 13 rfl (4 * p2) 13 rfl (4 * p1) xq9 hfq10) (va_cwS 4 hts (lwW_gS mw_952 mw_953 mw_14 mw_954) rfl rfl rfl (by decide +kernel) ⟨Nat.le_of_ble_eq_true rfl, Nat.le_of_ble_eq_true rfl⟩) ⟨fun a U g mk q => ⟨q.1, mPre_call q.2⟩, fun U hU hW => ⟨rfl, mPre_at h0 hS hP hU hW⟩⟩ rfl rfl hl.1 rfl (lv_room (Nat.le_of_ble_eq_true rfl)) dX12_isAhead_66 ⟨Nat.zero_le _, Nat.zero_le _⟩) hS (fun q _ h => h) (fun q h => h) (fun r u t H1 locs ht hvm hw hB hz1 hq1 hS => ?_)
    obtain ⟨rfl, rfl⟩ := hw
    have hP := hB.1
    rw [ht] at hP
    refine W.widen (k := 0) (n := 0) (Nat.le_refl _) (Nat.le_refl _) ?_
    refine lv_if_ne (tgt := 81) hx hb dX12_isAhead_69 (by decide) (fun hcq11 => ?_) (fun hcq11 => ?_)
    · have h := ifn hcq11 h
      refine lv_iconst (v := 0) hx hb dX12_isAhead_81 (by decide) ?_
      obtain rfl := Option.some.inj h
      exact W.zret hx hb hr rfl (fun t ht hW => ⟨⟨_, _, rfl, ⟨rfl, rfl⟩, mPre_at h0 hS hP ht hW⟩, hS.F ht⟩) hS.2.2 dX12_isAhead_82
    have h := ifp hcq11 h
    refine lv_iload_n hx hb dX12_isAhead_72 rfl (lv_at hl 1 rfl) ?_
    refine lv_iload_n hx hb dX12_isAhead_73 rfl (lv_at hl 2 rfl) ?_
    refine lv_icmp_ge (tgt := 81) hx hb dX12_isAhead_74 (by decide) (fun hcq12 => ?_) (fun hcq12 => ?_)
    · have h := ifp hcq12 h
      refine lv_iconst (v := 0) hx hb dX12_isAhead_81 (by decide) ?_
      obtain rfl := Option.some.inj h
      exact W.zret hx hb hr rfl (fun t ht hW => ⟨⟨_, _, rfl, ⟨rfl, rfl⟩, mPre_at h0 hS hP ht hW⟩, hS.F ht⟩) hS.2.2 dX12_isAhead_82
    have h := ifn hcq12 h
    exact J77 _ _ _ _ h hP hS (lv_sub hl [] rfl)
  have h := ifn hcq5 h
  refine lv_aload_n hx hb dX12_isAhead_13 rfl (lv_at hl 0 rfl) ?_
  refine lv_iload_n hx hb dX12_isAhead_14 rfl (lv_at hl 1 rfl) ?_
  obtain ⟨xq13, hfq14, h⟩ := obd h
  refine va_calli (va_runV (As := [.int p1]) (rest := []) ⟨hx, hb, hml, hown, hts⟩ (kX12_norm l D G _ p1 xq13 hfq14) (cwV 1 hts (lwW_gV mw_1083 mw_1085 ms_31 mw_14 mw_1086) rfl rfl rfl (by decide +kernel) ⟨Nat.le_of_ble_eq_true rfl, Nat.le_of_ble_eq_true rfl⟩) ⟨fun a U g mk q => ⟨q.1, mPre_call q.2⟩, va_recv hK hP rfl (mg_2 rfl), fun U hU hW => ⟨rfl, mPre_at h0 hS hP hU hW⟩⟩ rfl rfl hl.1 rfl (lv_room (Nat.le_of_ble_eq_true rfl)) dX12_isAhead_15 ⟨Nat.zero_le _, Nat.zero_le _⟩) hS (fun q _ h => h) (fun q h => h) (fun r u t H1 locs ht hvm hw hB hz1 hq1 hS => ?_)
  obtain ⟨rfl, rfl⟩ := hw
  have hP := hB.1
  rw [ht] at hP
  refine W.widen (k := 0) (n := 0) (Nat.le_refl _) (Nat.le_refl _) ?_
  refine lv_aload_n hx hb dX12_isAhead_18 rfl (lv_at hl 0 rfl) ?_
  refine lv_iload_n hx hb dX12_isAhead_19 rfl (lv_at hl 2 rfl) ?_
  obtain ⟨xq15, hfq16, h⟩ := obd h
  refine va_calli (va_runV (As := [.int p2]) (rest := [.int xq13.1]) ⟨hx, hb, hml, hown, hts⟩ (kX12_norm l D G _ p2 xq15 hfq16) (cwV 1 hts (lwW_gV mw_1083 mw_1085 ms_31 mw_14 mw_1086) rfl rfl rfl (by decide +kernel) ⟨Nat.le_of_ble_eq_true rfl, Nat.le_of_ble_eq_true rfl⟩) ⟨fun a U g mk q => ⟨q.1, mPre_call q.2⟩, va_recv hK hP rfl (mg_2 rfl), fun U hU hW => ⟨rfl, mPre_at h0 hS hP hU hW⟩⟩ rfl rfl hl.1 rfl (lv_room (Nat.le_of_ble_eq_true rfl)) dX12_isAhead_20 ⟨Nat.zero_le _, Nat.zero_le _⟩) hS (fun q _ h => h) (fun q h => h) (fun r u t H1 locs ht hvm hw hB hz1 hq1 hS => ?_)
  obtain ⟨rfl, rfl⟩ := hw
  have hP := hB.1
  rw [ht] at hP
  refine W.widen (k := 0) (n := 0) (Nat.le_refl _) (Nat.le_refl _) ?_
  refine lv_icmp_ge (tgt := 30) hx hb dX12_isAhead_23 (by decide) (fun hcq17 => ?_) (fun hcq17 => ?_)
  · have h := ifp hcq17 h
    refine lv_iconst (v := 0) hx hb dX12_isAhead_30 (by decide) ?_
    obtain rfl := Option.some.inj h
    exact W.zret hx hb hr rfl (fun t ht hW => ⟨⟨_, _, rfl, ⟨rfl, rfl⟩, mPre_at h0 hS hP ht hW⟩, hS.F ht⟩) hS.2.2 dX12_isAhead_31
  have h := ifn hcq17 h
  refine lv_iconst (v := 1) hx hb dX12_isAhead_26 (by decide) ?_
  refine lv_goto (tgt := 31) hx hb dX12_isAhead_27 (by decide) ?_
  obtain rfl := Option.some.inj h
  exact W.zret hx hb hr rfl (fun t ht hW => ⟨⟨_, _, rfl, ⟨rfl, rfl⟩, mPre_at h0 hS hP ht hW⟩, hS.F ht⟩) hS.2.2 dX12_isAhead_31
def fX12_rank_J42 (p1 : Int32) (K2 : Int32 → QMem → Option (Int32 × QMem)) (K13 : Int32 → Int32 → Int32 → QMem → Option (Int32 × QMem)) (v2 : Int32) (v4 : Int32) (s0 : Int32) (s1 : Int32) (τ : QMem) : Option (Int32 × QMem) :=
  K13 v2 (s0 + s1) (v4 + 1) τ
def fX12_rank_J41 (p1 : Int32) (K2 : Int32 → QMem → Option (Int32 × QMem)) (K13 : Int32 → Int32 → Int32 → QMem → Option (Int32 × QMem)) (v2 : Int32) (v4 : Int32) (s0 : Int32) (τ : QMem) : Option (Int32 × QMem) :=
  fX12_rank_J42 p1 K2 K13 v2 v4 s0 0 τ
def fX12_rank_L13 (p1 : Int32) (K2 : Int32 → QMem → Option (Int32 × QMem)) : Nat → Int32 → Int32 → Int32 → QMem → Option (Int32 × QMem)
  | 0, _, _, _, _ => none
  | n + 1, v2, v3, v4, τ =>
  if 6 ≤ v4 then (if v3 = p1 then (some (v2, τ)) else (K2 (v2 + 1) τ)) else (if v4 = v2 then (fX12_rank_J41 p1 K2 (fX12_rank_L13 p1 K2 n) v2 v4 v3 τ) else ((fX12_isAhead v4 v2 τ).bind fun xq4 => (if xq4.1 = 0 then (fX12_rank_J41 p1 K2 (fX12_rank_L13 p1 K2 n) v2 v4 v3 xq4.2) else (fX12_rank_J42 p1 K2 (fX12_rank_L13 p1 K2 n) v2 v4 v3 1 xq4.2))))
def fX12_rank_L2 (p1 : Int32) : Nat → Int32 → QMem → Option (Int32 × QMem)
  | 0, _, _ => none
  | n + 1, v2, τ =>
  if 6 ≤ v2 then (some ((-1002), τ)) else (fX12_rank_L13 p1 (fX12_rank_L2 p1 n) FU v2 0 0 τ)
def fX12_rank (p1 : Int32) (σ : QMem) : Option (Int32 × QMem) :=
  fX12_rank_L2 p1 FU 0 σ
set_option maxHeartbeats 4000000 in
set_option maxRecDepth 100000 in
theorem kX12_rank (l : Launch) (D : va_G) (G : xG) (σ : QMem) (p1 : Int32) (res : Int32 × QMem) (h : fX12_rank p1 σ = some res) : Met l yX12_rank (.code yX12_rank cX12_rank 5 (some .int) :: lwW) (rmD 3) (mPc D G σ [.ref (G.1 28), .int p1]) (mQi D G res) 0 0 (mA G) := by
  refine Met.ofW (cc := cX12_rank) (maxL := 5) (ret := (some .int)) (by decide) rfl ?_
  intro p e s m args below meth c s₁ B hml hv
  obtain ⟨rfl, h0⟩ := hv
  have hx := B.exec
  have hb := B.bytes
  have hr := B.returns
  have hts := fun (w : Cond) (hw : w ∈ lwW) => atoms_spec (ws := (.code yX12_rank cX12_rank 5 (some .int) :: lwW)) B.pre w (List.mem_cons_of_mem _ hw)
  have hown : s.vm.findClass RX12 = some m.cls := findClass_of_methodNamed B.named
  have hlocks := B.notSynchronized
  have hP := h0.1
  have hK := h0.2.1
  have hi := h0.2.2
  have hS : va_S (mA G) s.heap s.heap [] := va_S.rf
  have hl := lv_entry ([.ref (G.1 28), .int p1]) (n := 5) (Nat.le_of_ble_eq_true rfl)
  rw [lg_entry_eq]
  generalize (lg_sl ([.ref (G.1 28), .int p1]) ++ List.replicate (5 - (lg_sl ([.ref (G.1 28), .int p1])).length) Slot.unset).toArray = ls at hl ⊢
  have hl : lv_has ls 5 [(0, .ref (G.1 28)), (1, .int p1)] := hl
  unfold fX12_rank at h
  have L2 : ∀ (n2 : Nat) (v2 : Int32) (τ : QMem) (H : Heap) (locs : List Loc) (ls : Array Slot), fX12_rank_L2 p1 n2 v2 τ = some res → va_P D vwCl (mW G τ) H → va_S (mA G) s.heap H locs → lv_has ls 5 [(0, .ref (G.1 28)), (1, .int p1), (2, .int v2)] → W p l e (headSpec (.code yX12_rank cX12_rank 5 (some .int) :: lwW) (rmD 3)).room s m ([.ref (G.1 28), .int p1] : List Value).toArray below meth c H locs 0 0 (MQ below (mQi D G res) ([.ref (G.1 28), .int p1] : List Value).toArray s 0 0 (mA G)) (F0 m 2 ls []) := by
    intro n2
    induction n2 with
    | zero => intro v2 τ H locs ls h; rw [fX12_rank_L2] at h; cases h
    | succ n2 ih2 =>
      intro v2 τ H locs ls h hP hS hl
      rw [fX12_rank_L2] at h
      have L13 : ∀ (n13 : Nat) (v2 : Int32) (v3 : Int32) (v4 : Int32) (τ : QMem) (H : Heap) (locs : List Loc) (ls : Array Slot), fX12_rank_L13 p1 (fX12_rank_L2 p1 n2) n13 v2 v3 v4 τ = some res → va_P D vwCl (mW G τ) H → va_S (mA G) s.heap H locs → lv_has ls 5 [(0, .ref (G.1 28)), (1, .int p1), (2, .int v2), (3, .int v3), (4, .int v4)] → W p l e (headSpec (.code yX12_rank cX12_rank 5 (some .int) :: lwW) (rmD 3)).room s m ([.ref (G.1 28), .int p1] : List Value).toArray below meth c H locs 0 0 (MQ below (mQi D G res) ([.ref (G.1 28), .int p1] : List Value).toArray s 0 0 (mA G)) (F0 m 13 ls []) := by
        intro n13
        induction n13 with
        | zero => intro v2 v3 v4 τ H locs ls h; rw [fX12_rank_L13] at h; cases h
        | succ n13 ih13 =>
          intro v2 v3 v4 τ H locs ls h hP hS hl
          rw [fX12_rank_L13] at h
          have J42 : ∀ (v2 : Int32) (v4 : Int32) (s0 : Int32) (s1 : Int32) (τ : QMem) (H : Heap) (locs : List Loc) (ls : Array Slot), fX12_rank_J42 p1 (fX12_rank_L2 p1 n2) (fX12_rank_L13 p1 (fX12_rank_L2 p1 n2) n13) v2 v4 s0 s1 τ = some res → va_P D vwCl (mW G τ) H → va_S (mA G) s.heap H locs → lv_has ls 5 [(0, .ref (G.1 28)), (1, .int p1), (2, .int v2), (4, .int v4)] → W p l e (headSpec (.code yX12_rank cX12_rank 5 (some .int) :: lwW) (rmD 3)).room s m ([.ref (G.1 28), .int p1] : List Value).toArray below meth c H locs 0 0 (MQ below (mQi D G res) ([.ref (G.1 28), .int p1] : List Value).toArray s 0 0 (mA G)) (F0 m 42 ls [.int s1, .int s0]) := by
            intro v2 v4 s0 s1 τ H locs ls h hP hS hl
            unfold fX12_rank_J42 at h
            refine lv_iadd hx hb dX12_rank_42 ?_
            refine lv_istore_n (lv' := [(3, .int (s0 + s1)), (0, .ref (G.1 28)), (1, .int p1), (2, .int v2), (4, .int v4)]) hx hb dX12_rank_43 rfl hl (by decide) rfl (fun ls hl => ?_)
            refine lv_iinc (v := v4 + 1) (lv' := [(4, .int (v4 + 1)), (3, .int (s0 + s1)), (0, .ref (G.1 28)), (1, .int p1), (2, .int v2)]) hx hb dX12_rank_44 hl (k := 4) rfl rfl (by decide) rfl (fun ls hl => ?_)
            refine lv_goto (tgt := 13) hx hb dX12_rank_47 (by decide) ?_
            exact ih13 v2 (s0 + s1) (v4 + 1) _ _ _ _ h hP hS (lv_sub hl [2, 3, 4, 1, 0] rfl)
          have J41 : ∀ (v2 : Int32) (v4 : Int32) (s0 : Int32) (τ : QMem) (H : Heap) (locs : List Loc) (ls : Array Slot), fX12_rank_J41 p1 (fX12_rank_L2 p1 n2) (fX12_rank_L13 p1 (fX12_rank_L2 p1 n2) n13) v2 v4 s0 τ = some res → va_P D vwCl (mW G τ) H → va_S (mA G) s.heap H locs → lv_has ls 5 [(0, .ref (G.1 28)), (1, .int p1), (2, .int v2), (4, .int v4)] → W p l e (headSpec (.code yX12_rank cX12_rank 5 (some .int) :: lwW) (rmD 3)).room s m ([.ref (G.1 28), .int p1] : List Value).toArray below meth c H locs 0 0 (MQ below (mQi D G res) ([.ref (G.1 28), .int p1] : List Value).toArray s 0 0 (mA G)) (F0 m 41 ls [.int s0]) := by
            intro v2 v4 s0 τ H locs ls h hP hS hl
            unfold fX12_rank_J41 at h
            refine lv_iconst (v := 0) hx hb dX12_rank_41 (by decide) ?_
            exact J42 v2 v4 s0 0 _ _ _ _ h hP hS (lv_sub hl [0, 1, 2, 3] rfl)
          refine lv_iload hx hb dX12_rank_13 (lv_at hl 4 rfl) ?_
          refine lv_bipush (v := 6) hx hb dX12_rank_15 (by decide) ?_
          refine lv_icmp_ge (tgt := 50) hx hb dX12_rank_17 (by decide) (fun hcq1 => ?_) (fun hcq1 => ?_)
          · have h := ifp hcq1 h
            refine lv_iload_n hx hb dX12_rank_50 rfl (lv_at hl 3 rfl) ?_
            refine lv_iload_n hx hb dX12_rank_51 rfl (lv_at hl 1 rfl) ?_
            refine lv_icmp_ne (tgt := 57) hx hb dX12_rank_52 (by decide) (fun hcq2 => ?_) (fun hcq2 => ?_)
            · have h := ifn hcq2 h
              refine lv_iinc (v := v2 + 1) (lv' := [(2, .int (v2 + 1)), (0, .ref (G.1 28)), (1, .int p1), (3, .int v3), (4, .int v4)]) hx hb dX12_rank_57 hl (k := 2) rfl rfl (by decide) rfl (fun ls hl => ?_)
              refine lv_goto (tgt := 2) hx hb dX12_rank_60 (by decide) ?_
              exact ih2 (v2 + 1) _ _ _ _ h hP hS (lv_sub hl [1, 2, 0] rfl)
            have h := ifp hcq2 h
            refine lv_iload_n hx hb dX12_rank_55 rfl (lv_at hl 2 rfl) ?_
            obtain rfl := Option.some.inj h
            exact W.iret (v := v2) hx hb hr (fun t ht hW => ⟨⟨_, _, rfl, ⟨rfl, rfl⟩, mPre_at h0 hS hP ht hW⟩, hS.F ht⟩) hS.2.2 dX12_rank_56
          have h := ifn hcq1 h
          refine lv_iload_n hx hb dX12_rank_20 rfl (lv_at hl 3 rfl) ?_
          refine lv_iload hx hb dX12_rank_21 (lv_at hl 4 rfl) ?_
          refine lv_iload_n hx hb dX12_rank_23 rfl (lv_at hl 2 rfl) ?_
          refine lv_icmp_eq (tgt := 41) hx hb dX12_rank_24 (by decide) (fun hcq3 => ?_) (fun hcq3 => ?_)
          · have h := ifp hcq3 h
            exact J41 v2 v4 v3 _ _ _ _ h hP hS (lv_sub hl [0, 1, 2, 4] rfl)
          have h := ifn hcq3 h
          refine lv_aload_n hx hb dX12_rank_27 rfl (lv_at hl 0 rfl) ?_
          refine lv_iload hx hb dX12_rank_28 (lv_at hl 4 rfl) ?_
          refine lv_iload_n hx hb dX12_rank_30 rfl (lv_at hl 2 rfl) ?_
          obtain ⟨xq4, hfq5, h⟩ := obd h
          refine va_calli (va_runV (As := [.int v4, .int v2]) (rest := [.int v3]) ⟨hx, hb, hml, hown, hts⟩ (kX12_isAhead l D G _ v4 v2 xq4 hfq5) (cwV 2 hts (lwW_gV mw_1237 mw_1239 ms_45 mw_14 mw_1240) rfl rfl rfl (by decide +kernel) ⟨Nat.le_of_ble_eq_true rfl, Nat.le_of_ble_eq_true rfl⟩) ⟨fun a U g mk q => ⟨q.1, mPre_call q.2⟩, va_recv hK hP rfl (mg_2 rfl), fun U hU hW => ⟨rfl, mPre_at h0 hS hP hU hW⟩⟩ rfl rfl hl.1 rfl (lv_room (Nat.le_of_ble_eq_true rfl)) dX12_rank_31 ⟨Nat.zero_le _, Nat.zero_le _⟩) hS (fun q _ h => h) (fun q h => h) (fun r u t H1 locs ht hvm hw hB hz1 hq1 hS => ?_)
          obtain ⟨rfl, rfl⟩ := hw
          have hP := hB.1
          rw [ht] at hP
          refine W.widen (k := 0) (n := 0) (Nat.le_refl _) (Nat.le_refl _) ?_
          refine lv_if_eq (tgt := 41) hx hb dX12_rank_34 (by decide) (fun hcq6 => ?_) (fun hcq6 => ?_)
          · have h := ifp hcq6 h
            exact J41 v2 v4 v3 _ _ _ _ h hP hS (lv_sub hl [0, 1, 2, 4] rfl)
          have h := ifn hcq6 h
          refine lv_iconst (v := 1) hx hb dX12_rank_37 (by decide) ?_
          refine lv_goto (tgt := 42) hx hb dX12_rank_38 (by decide) ?_
          exact J42 v2 v4 v3 1 _ _ _ _ h hP hS (lv_sub hl [0, 1, 2, 4] rfl)
      refine lv_iload_n hx hb dX12_rank_2 rfl (lv_at hl 2 rfl) ?_
      refine lv_bipush (v := 6) hx hb dX12_rank_3 (by decide) ?_
      refine lv_icmp_ge (tgt := 63) hx hb dX12_rank_5 (by decide) (fun hcq7 => ?_) (fun hcq7 => ?_)
      · have h := ifp hcq7 h
        refine lv_sipush (v := (-1002)) hx hb dX12_rank_63 (by decide) ?_
        obtain rfl := Option.some.inj h
        exact W.iret (v := (-1002)) hx hb hr (fun t ht hW => ⟨⟨_, _, rfl, ⟨rfl, rfl⟩, mPre_at h0 hS hP ht hW⟩, hS.F ht⟩) hS.2.2 dX12_rank_66
      have h := ifn hcq7 h
      refine lv_iconst (v := 0) hx hb dX12_rank_8 (by decide) ?_
      refine lv_istore_n (lv' := [(3, .int 0), (0, .ref (G.1 28)), (1, .int p1), (2, .int v2)]) hx hb dX12_rank_9 rfl hl (by decide) rfl (fun ls hl => ?_)
      refine lv_iconst (v := 0) hx hb dX12_rank_10 (by decide) ?_
      refine lv_istore (lv' := [(4, .int 0), (3, .int 0), (0, .ref (G.1 28)), (1, .int p1), (2, .int v2)]) hx hb dX12_rank_11 hl (by decide) rfl (fun ls hl => ?_)
      exact L13 FU v2 0 0 _ _ _ _ h hP hS (lv_sub hl [2, 3, 4, 1, 0] rfl)
  refine lv_iconst (v := 0) hx hb dX12_rank_0 (by decide) ?_
  refine lv_istore_n (lv' := [(2, .int 0), (0, .ref (G.1 28)), (1, .int p1)]) hx hb dX12_rank_1 rfl hl (by decide) rfl (fun ls hl => ?_)
  exact L2 FU 0 _ _ _ _ h hP hS (lv_sub hl [1, 2, 0] rfl)
def fX12_write (p1 : Int32) (σ : QMem) : Option (Int32 × QMem) :=
  (fX12_in p1 0 255).bind fun xq1 => (if xq1 = 0 then (some ((-1002), σ)) else (if (σ 28 26) = 200 then (some ((-1004), σ)) else (if (σ 28 26 < 0 ∨ ml 23 ≤ (σ 28 26).toNatClampNeg) then none else (some ((ms (ms σ 23 (σ 28 26).toNatClampNeg p1) 28 26 (((ms σ 23 (σ 28 26).toNatClampNeg p1) 28 26) + 1)) 28 26, ms (ms σ 23 (σ 28 26).toNatClampNeg p1) 28 26 (((ms σ 23 (σ 28 26).toNatClampNeg p1) 28 26) + 1))))))
set_option maxHeartbeats 4000000 in
set_option maxRecDepth 100000 in
theorem kX12_write (l : Launch) (D : va_G) (G : xG) (σ : QMem) (p1 : Int32) (res : Int32 × QMem) (h : fX12_write p1 σ = some res) : Met l yX12_write (.code yX12_write cX12_write 2 (some .int) :: lwW) (rmD 1) (mPc D G σ [.ref (G.1 28), .int p1]) (mQi D G res) 0 0 (mA G) := by
  refine Met.ofW (cc := cX12_write) (maxL := 2) (ret := (some .int)) (by decide) rfl ?_
  intro p e s m args below meth c s₁ B hml hv
  obtain ⟨rfl, h0⟩ := hv
  have hx := B.exec
  have hb := B.bytes
  have hr := B.returns
  have hts := fun (w : Cond) (hw : w ∈ lwW) => atoms_spec (ws := (.code yX12_write cX12_write 2 (some .int) :: lwW)) B.pre w (List.mem_cons_of_mem _ hw)
  have hown : s.vm.findClass RX12 = some m.cls := findClass_of_methodNamed B.named
  have hlocks := B.notSynchronized
  have hP := h0.1
  have hK := h0.2.1
  have hi := h0.2.2
  have hS : va_S (mA G) s.heap s.heap [] := va_S.rf
  have hl := lv_entry ([.ref (G.1 28), .int p1]) (n := 2) (Nat.le_of_ble_eq_true rfl)
  rw [lg_entry_eq]
  generalize (lg_sl ([.ref (G.1 28), .int p1]) ++ List.replicate (2 - (lg_sl ([.ref (G.1 28), .int p1])).length) Slot.unset).toArray = ls at hl ⊢
  have hl : lv_has ls 2 [(0, .ref (G.1 28)), (1, .int p1)] := hl
  unfold fX12_write at h
  refine lv_iload_n hx hb dX12_write_0 rfl (lv_at hl 1 rfl) ?_
  refine lv_iconst (v := 0) hx hb dX12_write_1 (by decide) ?_
  refine lv_sipush (v := 255) hx hb dX12_write_2 (by decide) ?_
  obtain ⟨xq1, hfq2, h⟩ := obd h
  refine va_calli (va_runS (As := [.int p1, .int 0, .int 255]) (rest := []) ⟨hx, hb, hml, hown, hts⟩ (kX12_in l p1 0 255 xq1 hfq2) (va_cwS 3 hts (lwW_gS mw_1069 mw_1070 mw_14 mw_1071) rfl rfl rfl (by decide +kernel) ⟨Nat.le_of_ble_eq_true rfl, Nat.le_of_ble_eq_true rfl⟩) ⟨fun a U g mk q => ⟨q.1, trivial⟩, fun U hU hW => ⟨rfl, trivial⟩⟩ rfl rfl hl.1 rfl (lv_room (Nat.le_of_ble_eq_true rfl)) dX12_write_5 ⟨Nat.zero_le _, Nat.zero_le _⟩) hS (fun q _ h => h.elim) (fun q h => h.elim) (fun r u t H1 locs ht hvm hw hB hz1 hq1 hS => ?_)
  obtain rfl := hw.symm
  have hP := mP_kept hP hq1
  refine W.widen (k := 0) (n := 0) (Nat.le_refl _) (Nat.le_refl _) ?_
  refine lv_if_ne (tgt := 15) hx hb dX12_write_8 (by decide) (fun hcq3 => ?_) (fun hcq3 => ?_)
  · have h := ifn hcq3 h
    refine lv_aload_n hx hb dX12_write_15 rfl (lv_at hl 0 rfl) ?_
    refine va_get (D := D) (ci := 12) (v := .int (σ 28 26)) (C := RX12) (T := TX12) (N := 34) hx hb hts iwX12 hown hK hP 28 (mg_2 rfl) rfl 26 (by decide) (hts _ mw_984) (fun _ h9 => h9) rfl dX12_write_16 ?_
    refine lv_sipush (v := 200) hx hb dX12_write_19 (by decide) ?_
    refine lv_icmp_ne (tgt := 29) hx hb dX12_write_22 (by decide) (fun hcq4 => ?_) (fun hcq4 => ?_)
    · have h := ifn hcq4 h
      refine lv_aload_n hx hb dX12_write_29 rfl (lv_at hl 0 rfl) ?_
      refine va_get (D := D) (ci := 12) (v := .ref (G.1 23)) (C := RX12) (T := TX12) (N := 34) hx hb hts iwX12 hown hK hP 28 (mg_2 rfl) rfl 25 (by decide) (hts _ mw_983) (fun _ h9 => h9) rfl dX12_write_30 ?_
      refine lv_aload_n hx hb dX12_write_33 rfl (lv_at hl 0 rfl) ?_
      refine va_get (D := D) (ci := 12) (v := .int (σ 28 26)) (C := RX12) (T := TX12) (N := 34) hx hb hts iwX12 hown hK hP 28 (mg_2 rfl) rfl 26 (by decide) (hts _ mw_984) (fun _ h9 => h9) rfl dX12_write_34 ?_
      refine lv_iload_n hx hb dX12_write_37 rfl (lv_at hl 1 rfl) ?_
      obtain ⟨hiq5, h⟩ := nif h
      refine va_iast hx hb hK hP (mD hi) hS 23 0 (mg_0 rfl) rfl hiq5 dX12_write_38 (fun H locs hP hD hS => ?_)
      have hP : va_P D vwCl (mW G (ms σ 23 (σ 28 26).toNatClampNeg p1)) H := by rw [← ms_0x rfl]; exact hP
      refine lv_aload_n hx hb dX12_write_39 rfl (lv_at hl 0 rfl) ?_
      refine lv_dup hx hb dX12_write_40 rfl ?_
      refine va_get (D := D) (ci := 12) (v := .int ((ms σ 23 (σ 28 26).toNatClampNeg p1) 28 26)) (C := RX12) (T := TX12) (N := 34) hx hb hts iwX12 hown hK hP 28 (mg_2 rfl) rfl 26 (by decide) (hts _ mw_984) (fun _ h9 => h9) rfl dX12_write_41 ?_
      refine lv_iconst (v := 1) hx hb dX12_write_44 (by decide) ?_
      refine lv_iadd hx hb dX12_write_45 ?_
      refine va_put (D := D) (ci := 12) (v := .int (((ms σ 23 (σ 28 26).toNatClampNeg p1) 28 26) + 1)) (ty := .int) (C := RX12) (T := TX12) (N := 34) hx hb hts iwX12 tyX12 tyX12_ok nmX12 hown hK hP (mD hi) hS 28 (mg_2 rfl) rfl 26 (by decide) (hts _ mw_984) (fun _ h9 => h9) rfl (by decide +kernel) rfl rfl (Nat.le_of_ble_eq_true rfl) dX12_write_46 (fun H locs hP hD hS => ?_)
      have hP : va_P D vwCl (mW G (ms (ms σ 23 (σ 28 26).toNatClampNeg p1) 28 26 (((ms σ 23 (σ 28 26).toNatClampNeg p1) 28 26) + 1))) H := by rw [← ms_2_26 rfl]; exact hP
      refine lv_aload_n hx hb dX12_write_49 rfl (lv_at hl 0 rfl) ?_
      refine va_get (D := D) (ci := 12) (v := .int ((ms (ms σ 23 (σ 28 26).toNatClampNeg p1) 28 26 (((ms σ 23 (σ 28 26).toNatClampNeg p1) 28 26) + 1)) 28 26)) (C := RX12) (T := TX12) (N := 34) hx hb hts iwX12 hown hK hP 28 (mg_2 rfl) rfl 26 (by decide) (hts _ mw_984) (fun _ h9 => h9) rfl dX12_write_50 ?_
      obtain rfl := Option.some.inj h
      exact W.iret (v := (ms (ms σ 23 (σ 28 26).toNatClampNeg p1) 28 26 (((ms σ 23 (σ 28 26).toNatClampNeg p1) 28 26) + 1)) 28 26) hx hb hr (fun t ht hW => ⟨⟨_, _, rfl, ⟨rfl, rfl⟩, mPre_at h0 hS hP ht hW⟩, hS.F ht⟩) hS.2.2 dX12_write_53
    have h := ifp hcq4 h
    refine lv_sipush (v := (-1004)) hx hb dX12_write_25 (by decide) ?_
    obtain rfl := Option.some.inj h
    exact W.iret (v := (-1004)) hx hb hr (fun t ht hW => ⟨⟨_, _, rfl, ⟨rfl, rfl⟩, mPre_at h0 hS hP ht hW⟩, hS.F ht⟩) hS.2.2 dX12_write_28
  have h := ifp hcq3 h
  refine lv_sipush (v := (-1002)) hx hb dX12_write_11 (by decide) ?_
  obtain rfl := Option.some.inj h
  exact W.iret (v := (-1002)) hx hb hr (fun t ht hW => ⟨⟨_, _, rfl, ⟨rfl, rfl⟩, mPre_at h0 hS hP ht hW⟩, hS.F ht⟩) hS.2.2 dX12_write_14
def fX12_erase  (σ : QMem) : Option (Int32 × QMem) :=
  some (σ 28 26, ms σ 28 26 0)
set_option maxHeartbeats 4000000 in
set_option maxRecDepth 100000 in
theorem kX12_erase (l : Launch) (D : va_G) (G : xG) (σ : QMem) (res : Int32 × QMem) (h : fX12_erase σ = some res) : Met l yX12_erase (.code yX12_erase cX12_erase 2 (some .int) :: lwW) (rmD 0) (mPc D G σ [.ref (G.1 28)]) (mQi D G res) 0 0 (mA G) := by
  refine Met.ofW (cc := cX12_erase) (maxL := 2) (ret := (some .int)) (by decide) rfl ?_
  intro p e s m args below meth c s₁ B hml hv
  obtain ⟨rfl, h0⟩ := hv
  have hx := B.exec
  have hb := B.bytes
  have hr := B.returns
  have hts := fun (w : Cond) (hw : w ∈ lwW) => atoms_spec (ws := (.code yX12_erase cX12_erase 2 (some .int) :: lwW)) B.pre w (List.mem_cons_of_mem _ hw)
  have hown : s.vm.findClass RX12 = some m.cls := findClass_of_methodNamed B.named
  have hlocks := B.notSynchronized
  have hP := h0.1
  have hK := h0.2.1
  have hi := h0.2.2
  have hS : va_S (mA G) s.heap s.heap [] := va_S.rf
  have hl := lv_entry ([.ref (G.1 28)]) (n := 2) (Nat.le_of_ble_eq_true rfl)
  rw [lg_entry_eq]
  generalize (lg_sl ([.ref (G.1 28)]) ++ List.replicate (2 - (lg_sl ([.ref (G.1 28)])).length) Slot.unset).toArray = ls at hl ⊢
  have hl : lv_has ls 2 [(0, .ref (G.1 28))] := hl
  unfold fX12_erase at h
  refine lv_aload_n hx hb dX12_erase_0 rfl (lv_at hl 0 rfl) ?_
  refine va_get (D := D) (ci := 12) (v := .int (σ 28 26)) (C := RX12) (T := TX12) (N := 34) hx hb hts iwX12 hown hK hP 28 (mg_2 rfl) rfl 26 (by decide) (hts _ mw_984) (fun _ h9 => h9) rfl dX12_erase_1 ?_
  refine lv_istore_n (lv' := [(1, .int (σ 28 26)), (0, .ref (G.1 28))]) hx hb dX12_erase_4 rfl hl (by decide) rfl (fun ls hl => ?_)
  refine lv_aload_n hx hb dX12_erase_5 rfl (lv_at hl 1 rfl) ?_
  refine lv_iconst (v := 0) hx hb dX12_erase_6 (by decide) ?_
  refine va_put (D := D) (ci := 12) (v := .int 0) (ty := .int) (C := RX12) (T := TX12) (N := 34) hx hb hts iwX12 tyX12 tyX12_ok nmX12 hown hK hP (mD hi) hS 28 (mg_2 rfl) rfl 26 (by decide) (hts _ mw_984) (fun _ h9 => h9) rfl (by decide +kernel) rfl rfl (Nat.le_of_ble_eq_true rfl) dX12_erase_7 (fun H locs hP hD hS => ?_)
  have hP : va_P D vwCl (mW G (ms σ 28 26 0)) H := by rw [← ms_2_26 rfl]; exact hP
  refine lv_iload_n hx hb dX12_erase_10 rfl (lv_at hl 0 rfl) ?_
  obtain rfl := Option.some.inj h
  exact W.iret (v := σ 28 26) hx hb hr (fun t ht hW => ⟨⟨_, _, rfl, ⟨rfl, rfl⟩, mPre_at h0 hS hP ht hW⟩, hS.F ht⟩) hS.2.2 dX12_erase_11
def fX12_looks_J38   (τ : QMem) : Option (Int32 × QMem) :=
  if (τ 28 26) ≤ (τ 28 27) then (some ((-1), τ)) else (if (τ 28 27 < 0 ∨ ml 23 ≤ (τ 28 27).toNatClampNeg) then none else (some (τ 23 (τ 28 27).toNatClampNeg, τ)))
def fX12_looks_L0  : Nat → QMem → Option (Int32 × QMem)
  | 0, _ => none
  | n + 1, τ =>
  if (τ 28 26) ≤ (τ 28 27) then (fX12_looks_J38 τ) else (if (τ 28 27 < 0 ∨ ml 23 ≤ (τ 28 27).toNatClampNeg) then none else (if (τ 23 (τ 28 27).toNatClampNeg) = 32 then ((fX12_looks_L0 n) (ms τ 28 27 ((τ 28 27) + 1))) else (fX12_looks_J38 τ)))
def fX12_looks  (σ : QMem) : Option (Int32 × QMem) :=
  if (σ 28 26) ≤ (σ 28 27) then (fX12_looks_J38 σ) else (if (σ 28 27 < 0 ∨ ml 23 ≤ (σ 28 27).toNatClampNeg) then none else (if (σ 23 (σ 28 27).toNatClampNeg) = 32 then (fX12_looks_L0 FU (ms σ 28 27 ((σ 28 27) + 1))) else (fX12_looks_J38 σ)))
set_option maxHeartbeats 4000000 in
set_option maxRecDepth 100000 in
theorem kX12_looks (l : Launch) (D : va_G) (G : xG) (σ : QMem) (res : Int32 × QMem) (h : fX12_looks σ = some res) : Met l yX12_looks (.code yX12_looks cX12_looks 1 (some .int) :: lwW) (rmD 0) (mPc D G σ [.ref (G.1 28)]) (mQi D G res) 0 0 (mA G) := by
  refine Met.ofW (cc := cX12_looks) (maxL := 1) (ret := (some .int)) (by decide) rfl ?_
  intro p e s m args below meth c s₁ B hml hv
  obtain ⟨rfl, h0⟩ := hv
  have hx := B.exec
  have hb := B.bytes
  have hr := B.returns
  have hts := fun (w : Cond) (hw : w ∈ lwW) => atoms_spec (ws := (.code yX12_looks cX12_looks 1 (some .int) :: lwW)) B.pre w (List.mem_cons_of_mem _ hw)
  have hown : s.vm.findClass RX12 = some m.cls := findClass_of_methodNamed B.named
  have hlocks := B.notSynchronized
  have hP := h0.1
  have hK := h0.2.1
  have hi := h0.2.2
  have hS : va_S (mA G) s.heap s.heap [] := va_S.rf
  have hl := lv_entry ([.ref (G.1 28)]) (n := 1) (Nat.le_of_ble_eq_true rfl)
  rw [lg_entry_eq]
  generalize (lg_sl ([.ref (G.1 28)]) ++ List.replicate (1 - (lg_sl ([.ref (G.1 28)])).length) Slot.unset).toArray = ls at hl ⊢
  have hl : lv_has ls 1 [(0, .ref (G.1 28))] := hl
  unfold fX12_looks at h
  have J38 : ∀ (τ : QMem) (H : Heap) (locs : List Loc) (ls : Array Slot), fX12_looks_J38 τ = some res → va_P D vwCl (mW G τ) H → va_S (mA G) s.heap H locs → lv_has ls 1 [(0, .ref (G.1 28))] → W p l e (headSpec (.code yX12_looks cX12_looks 1 (some .int) :: lwW) (rmD 0)).room s m ([.ref (G.1 28)] : List Value).toArray below meth c H locs 0 0 (MQ below (mQi D G res) ([.ref (G.1 28)] : List Value).toArray s 0 0 (mA G)) (F0 m 38 ls []) := by
    intro τ H locs ls h hP hS hl
    unfold fX12_looks_J38 at h
    refine lv_aload_n hx hb dX12_looks_38 rfl (lv_at hl 0 rfl) ?_
    refine va_get (D := D) (ci := 12) (v := .int (τ 28 27)) (C := RX12) (T := TX12) (N := 34) hx hb hts iwX12 hown hK hP 28 (mg_2 rfl) rfl 27 (by decide) (hts _ mw_985) (fun _ h9 => h9) rfl dX12_looks_39 ?_
    refine lv_aload_n hx hb dX12_looks_42 rfl (lv_at hl 0 rfl) ?_
    refine va_get (D := D) (ci := 12) (v := .int (τ 28 26)) (C := RX12) (T := TX12) (N := 34) hx hb hts iwX12 hown hK hP 28 (mg_2 rfl) rfl 26 (by decide) (hts _ mw_984) (fun _ h9 => h9) rfl dX12_looks_43 ?_
    refine lv_icmp_ge (tgt := 61) hx hb dX12_looks_46 (by decide) (fun hcq3 => ?_) (fun hcq3 => ?_)
    · have h := ifp hcq3 h
      refine lv_iconst (v := (-1)) hx hb dX12_looks_61 (by decide) ?_
      obtain rfl := Option.some.inj h
      exact W.iret (v := (-1)) hx hb hr (fun t ht hW => ⟨⟨_, _, rfl, ⟨rfl, rfl⟩, mPre_at h0 hS hP ht hW⟩, hS.F ht⟩) hS.2.2 dX12_looks_62
    have h := ifn hcq3 h
    refine lv_aload_n hx hb dX12_looks_49 rfl (lv_at hl 0 rfl) ?_
    refine va_get (D := D) (ci := 12) (v := .ref (G.1 23)) (C := RX12) (T := TX12) (N := 34) hx hb hts iwX12 hown hK hP 28 (mg_2 rfl) rfl 25 (by decide) (hts _ mw_983) (fun _ h9 => h9) rfl dX12_looks_50 ?_
    refine lv_aload_n hx hb dX12_looks_53 rfl (lv_at hl 0 rfl) ?_
    refine va_get (D := D) (ci := 12) (v := .int (τ 28 27)) (C := RX12) (T := TX12) (N := 34) hx hb hts iwX12 hown hK hP 28 (mg_2 rfl) rfl 27 (by decide) (hts _ mw_985) (fun _ h9 => h9) rfl dX12_looks_54 ?_
    obtain ⟨hiq4, h⟩ := nif h
    refine va_iald hx hb hK hP 23 0 (mg_0 rfl) rfl hiq4 dX12_looks_57 ?_
    refine lv_goto (tgt := 62) hx hb dX12_looks_58 (by decide) ?_
    obtain rfl := Option.some.inj h
    exact W.iret (v := τ 23 (τ 28 27).toNatClampNeg) hx hb hr (fun t ht hW => ⟨⟨_, _, rfl, ⟨rfl, rfl⟩, mPre_at h0 hS hP ht hW⟩, hS.F ht⟩) hS.2.2 dX12_looks_62
  have L0 : ∀ (n0 : Nat) (τ : QMem) (H : Heap) (locs : List Loc) (ls : Array Slot), fX12_looks_L0 n0 τ = some res → va_P D vwCl (mW G τ) H → va_S (mA G) s.heap H locs → lv_has ls 1 [(0, .ref (G.1 28))] → W p l e (headSpec (.code yX12_looks cX12_looks 1 (some .int) :: lwW) (rmD 0)).room s m ([.ref (G.1 28)] : List Value).toArray below meth c H locs 0 0 (MQ below (mQi D G res) ([.ref (G.1 28)] : List Value).toArray s 0 0 (mA G)) (F0 m 0 ls []) := by
    intro n0
    induction n0 with
    | zero => intro τ H locs ls h; rw [fX12_looks_L0] at h; cases h
    | succ n0 ih0 =>
      intro τ H locs ls h hP hS hl
      rw [fX12_looks_L0] at h
      refine lv_aload_n hx hb dX12_looks_0 rfl (lv_at hl 0 rfl) ?_
      refine va_get (D := D) (ci := 12) (v := .int (τ 28 27)) (C := RX12) (T := TX12) (N := 34) hx hb hts iwX12 hown hK hP 28 (mg_2 rfl) rfl 27 (by decide) (hts _ mw_985) (fun _ h9 => h9) rfl dX12_looks_1 ?_
      refine lv_aload_n hx hb dX12_looks_4 rfl (lv_at hl 0 rfl) ?_
      refine va_get (D := D) (ci := 12) (v := .int (τ 28 26)) (C := RX12) (T := TX12) (N := 34) hx hb hts iwX12 hown hK hP 28 (mg_2 rfl) rfl 26 (by decide) (hts _ mw_984) (fun _ h9 => h9) rfl dX12_looks_5 ?_
      refine lv_icmp_ge (tgt := 38) hx hb dX12_looks_8 (by decide) (fun hcq5 => ?_) (fun hcq5 => ?_)
      · have h := ifp hcq5 h
        exact J38 _ _ _ _ h hP hS (lv_sub hl [0] rfl)
      have h := ifn hcq5 h
      refine lv_aload_n hx hb dX12_looks_11 rfl (lv_at hl 0 rfl) ?_
      refine va_get (D := D) (ci := 12) (v := .ref (G.1 23)) (C := RX12) (T := TX12) (N := 34) hx hb hts iwX12 hown hK hP 28 (mg_2 rfl) rfl 25 (by decide) (hts _ mw_983) (fun _ h9 => h9) rfl dX12_looks_12 ?_
      refine lv_aload_n hx hb dX12_looks_15 rfl (lv_at hl 0 rfl) ?_
      refine va_get (D := D) (ci := 12) (v := .int (τ 28 27)) (C := RX12) (T := TX12) (N := 34) hx hb hts iwX12 hown hK hP 28 (mg_2 rfl) rfl 27 (by decide) (hts _ mw_985) (fun _ h9 => h9) rfl dX12_looks_16 ?_
      obtain ⟨hiq6, h⟩ := nif h
      refine va_iald hx hb hK hP 23 0 (mg_0 rfl) rfl hiq6 dX12_looks_19 ?_
      refine lv_bipush (v := 32) hx hb dX12_looks_20 (by decide) ?_
      refine lv_icmp_ne (tgt := 38) hx hb dX12_looks_22 (by decide) (fun hcq7 => ?_) (fun hcq7 => ?_)
      · have h := ifn hcq7 h
        exact J38 _ _ _ _ h hP hS (lv_sub hl [0] rfl)
      have h := ifp hcq7 h
      refine lv_aload_n hx hb dX12_looks_25 rfl (lv_at hl 0 rfl) ?_
      refine lv_dup hx hb dX12_looks_26 rfl ?_
      refine va_get (D := D) (ci := 12) (v := .int (τ 28 27)) (C := RX12) (T := TX12) (N := 34) hx hb hts iwX12 hown hK hP 28 (mg_2 rfl) rfl 27 (by decide) (hts _ mw_985) (fun _ h9 => h9) rfl dX12_looks_27 ?_
      refine lv_iconst (v := 1) hx hb dX12_looks_30 (by decide) ?_
      refine lv_iadd hx hb dX12_looks_31 ?_
      refine va_put (D := D) (ci := 12) (v := .int ((τ 28 27) + 1)) (ty := .int) (C := RX12) (T := TX12) (N := 34) hx hb hts iwX12 tyX12 tyX12_ok nmX12 hown hK hP (mD hi) hS 28 (mg_2 rfl) rfl 27 (by decide) (hts _ mw_985) (fun _ h9 => h9) rfl (by decide +kernel) rfl rfl (Nat.le_of_ble_eq_true rfl) dX12_looks_32 (fun H locs hP hD hS => ?_)
      have hP : va_P D vwCl (mW G (ms τ 28 27 ((τ 28 27) + 1))) H := by rw [← ms_2_27 rfl]; exact hP
      refine lv_goto (tgt := 0) hx hb dX12_looks_35 (by decide) ?_
      exact ih0 _ _ _ _ h hP hS (lv_sub hl [0] rfl)
  refine lv_aload_n hx hb dX12_looks_0 rfl (lv_at hl 0 rfl) ?_
  refine va_get (D := D) (ci := 12) (v := .int (σ 28 27)) (C := RX12) (T := TX12) (N := 34) hx hb hts iwX12 hown hK hP 28 (mg_2 rfl) rfl 27 (by decide) (hts _ mw_985) (fun _ h9 => h9) rfl dX12_looks_1 ?_
  refine lv_aload_n hx hb dX12_looks_4 rfl (lv_at hl 0 rfl) ?_
  refine va_get (D := D) (ci := 12) (v := .int (σ 28 26)) (C := RX12) (T := TX12) (N := 34) hx hb hts iwX12 hown hK hP 28 (mg_2 rfl) rfl 26 (by decide) (hts _ mw_984) (fun _ h9 => h9) rfl dX12_looks_5 ?_
  refine lv_icmp_ge (tgt := 38) hx hb dX12_looks_8 (by decide) (fun hcq8 => ?_) (fun hcq8 => ?_)
  · have h := ifp hcq8 h
    exact J38 _ _ _ _ h hP hS (lv_sub hl [0] rfl)
  have h := ifn hcq8 h
  refine lv_aload_n hx hb dX12_looks_11 rfl (lv_at hl 0 rfl) ?_
  refine va_get (D := D) (ci := 12) (v := .ref (G.1 23)) (C := RX12) (T := TX12) (N := 34) hx hb hts iwX12 hown hK hP 28 (mg_2 rfl) rfl 25 (by decide) (hts _ mw_983) (fun _ h9 => h9) rfl dX12_looks_12 ?_
  refine lv_aload_n hx hb dX12_looks_15 rfl (lv_at hl 0 rfl) ?_
  refine va_get (D := D) (ci := 12) (v := .int (σ 28 27)) (C := RX12) (T := TX12) (N := 34) hx hb hts iwX12 hown hK hP 28 (mg_2 rfl) rfl 27 (by decide) (hts _ mw_985) (fun _ h9 => h9) rfl dX12_looks_16 ?_
  obtain ⟨hiq9, h⟩ := nif h
  refine va_iald hx hb hK hP 23 0 (mg_0 rfl) rfl hiq9 dX12_looks_19 ?_
  refine lv_bipush (v := 32) hx hb dX12_looks_20 (by decide) ?_
  refine lv_icmp_ne (tgt := 38) hx hb dX12_looks_22 (by decide) (fun hcq10 => ?_) (fun hcq10 => ?_)
  · have h := ifn hcq10 h
    exact J38 _ _ _ _ h hP hS (lv_sub hl [0] rfl)
  have h := ifp hcq10 h
  refine lv_aload_n hx hb dX12_looks_25 rfl (lv_at hl 0 rfl) ?_
  refine lv_dup hx hb dX12_looks_26 rfl ?_
  refine va_get (D := D) (ci := 12) (v := .int (σ 28 27)) (C := RX12) (T := TX12) (N := 34) hx hb hts iwX12 hown hK hP 28 (mg_2 rfl) rfl 27 (by decide) (hts _ mw_985) (fun _ h9 => h9) rfl dX12_looks_27 ?_
  refine lv_iconst (v := 1) hx hb dX12_looks_30 (by decide) ?_
  refine lv_iadd hx hb dX12_looks_31 ?_
  refine va_put (D := D) (ci := 12) (v := .int ((σ 28 27) + 1)) (ty := .int) (C := RX12) (T := TX12) (N := 34) hx hb hts iwX12 tyX12 tyX12_ok nmX12 hown hK hP (mD hi) hS 28 (mg_2 rfl) rfl 27 (by decide) (hts _ mw_985) (fun _ h9 => h9) rfl (by decide +kernel) rfl rfl (Nat.le_of_ble_eq_true rfl) dX12_looks_32 (fun H locs hP hD hS => ?_)
  have hP : va_P D vwCl (mW G (ms σ 28 27 ((σ 28 27) + 1))) H := by rw [← ms_2_27 rfl]; exact hP
  refine lv_goto (tgt := 0) hx hb dX12_looks_35 (by decide) ?_
  exact L0 FU _ _ _ _ h hP hS (lv_sub hl [0] rfl)
def fX12_isLetter (p1 : Int32) (σ : QMem) : Option (Int32 × QMem) :=
  if (σ 28 26) ≤ p1 then (some (0, σ)) else (if (p1 < 0 ∨ ml 23 ≤ p1.toNatClampNeg) then none else ((fX12_in (σ 23 p1.toNatClampNeg) 97 122).bind fun xq3 => (if xq3 = 0 then (some (0, σ)) else (some (1, σ)))))
set_option maxHeartbeats 4000000 in
set_option maxRecDepth 100000 in
theorem kX12_isLetter (l : Launch) (D : va_G) (G : xG) (σ : QMem) (p1 : Int32) (res : Int32 × QMem) (h : fX12_isLetter p1 σ = some res) : Met l yX12_isLetter (.code yX12_isLetter cX12_isLetter 2 (some .boolean) :: lwW) (rmD 1) (mPc D G σ [.ref (G.1 28), .int p1]) (mQi D G res) 0 0 (mA G) := by
  refine Met.ofW (cc := cX12_isLetter) (maxL := 2) (ret := (some .boolean)) (by decide) rfl ?_
  intro p e s m args below meth c s₁ B hml hv
  obtain ⟨rfl, h0⟩ := hv
  have hx := B.exec
  have hb := B.bytes
  have hr := B.returns
  have hts := fun (w : Cond) (hw : w ∈ lwW) => atoms_spec (ws := (.code yX12_isLetter cX12_isLetter 2 (some .boolean) :: lwW)) B.pre w (List.mem_cons_of_mem _ hw)
  have hown : s.vm.findClass RX12 = some m.cls := findClass_of_methodNamed B.named
  have hlocks := B.notSynchronized
  have hP := h0.1
  have hK := h0.2.1
  have hi := h0.2.2
  have hS : va_S (mA G) s.heap s.heap [] := va_S.rf
  have hl := lv_entry ([.ref (G.1 28), .int p1]) (n := 2) (Nat.le_of_ble_eq_true rfl)
  rw [lg_entry_eq]
  generalize (lg_sl ([.ref (G.1 28), .int p1]) ++ List.replicate (2 - (lg_sl ([.ref (G.1 28), .int p1])).length) Slot.unset).toArray = ls at hl ⊢
  have hl : lv_has ls 2 [(0, .ref (G.1 28)), (1, .int p1)] := hl
  unfold fX12_isLetter at h
  refine lv_iload_n hx hb dX12_isLetter_0 rfl (lv_at hl 1 rfl) ?_
  refine lv_aload_n hx hb dX12_isLetter_1 rfl (lv_at hl 0 rfl) ?_
  refine va_get (D := D) (ci := 12) (v := .int (σ 28 26)) (C := RX12) (T := TX12) (N := 34) hx hb hts iwX12 hown hK hP 28 (mg_2 rfl) rfl 26 (by decide) (hts _ mw_984) (fun _ h9 => h9) rfl dX12_isLetter_2 ?_
  refine lv_icmp_ge (tgt := 28) hx hb dX12_isLetter_5 (by decide) (fun hcq1 => ?_) (fun hcq1 => ?_)
  · have h := ifp hcq1 h
    refine lv_iconst (v := 0) hx hb dX12_isLetter_28 (by decide) ?_
    obtain rfl := Option.some.inj h
    exact W.zret hx hb hr rfl (fun t ht hW => ⟨⟨_, _, rfl, ⟨rfl, rfl⟩, mPre_at h0 hS hP ht hW⟩, hS.F ht⟩) hS.2.2 dX12_isLetter_29
  have h := ifn hcq1 h
  refine lv_aload_n hx hb dX12_isLetter_8 rfl (lv_at hl 0 rfl) ?_
  refine va_get (D := D) (ci := 12) (v := .ref (G.1 23)) (C := RX12) (T := TX12) (N := 34) hx hb hts iwX12 hown hK hP 28 (mg_2 rfl) rfl 25 (by decide) (hts _ mw_983) (fun _ h9 => h9) rfl dX12_isLetter_9 ?_
  refine lv_iload_n hx hb dX12_isLetter_12 rfl (lv_at hl 1 rfl) ?_
  obtain ⟨hiq2, h⟩ := nif h
  refine va_iald hx hb hK hP 23 0 (mg_0 rfl) rfl hiq2 dX12_isLetter_13 ?_
  refine lv_bipush (v := 97) hx hb dX12_isLetter_14 (by decide) ?_
  refine lv_bipush (v := 122) hx hb dX12_isLetter_16 (by decide) ?_
  obtain ⟨xq3, hfq4, h⟩ := obd h
  refine va_calli (va_runS (As := [.int (σ 23 p1.toNatClampNeg), .int 97, .int 122]) (rest := []) ⟨hx, hb, hml, hown, hts⟩ (kX12_in l (σ 23 p1.toNatClampNeg) 97 122 xq3 hfq4) (va_cwS 3 hts (lwW_gS mw_1069 mw_1070 mw_14 mw_1071) rfl rfl rfl (by decide +kernel) ⟨Nat.le_of_ble_eq_true rfl, Nat.le_of_ble_eq_true rfl⟩) ⟨fun a U g mk q => ⟨q.1, trivial⟩, fun U hU hW => ⟨rfl, trivial⟩⟩ rfl rfl hl.1 rfl (lv_room (Nat.le_of_ble_eq_true rfl)) dX12_isLetter_18 ⟨Nat.zero_le _, Nat.zero_le _⟩) hS (fun q _ h => h.elim) (fun q h => h.elim) (fun r u t H1 locs ht hvm hw hB hz1 hq1 hS => ?_)
  obtain rfl := hw.symm
  have hP := mP_kept hP hq1
  refine W.widen (k := 0) (n := 0) (Nat.le_refl _) (Nat.le_refl _) ?_
  refine lv_if_eq (tgt := 28) hx hb dX12_isLetter_21 (by decide) (fun hcq5 => ?_) (fun hcq5 => ?_)
  · have h := ifp hcq5 h
    refine lv_iconst (v := 0) hx hb dX12_isLetter_28 (by decide) ?_
    obtain rfl := Option.some.inj h
    exact W.zret hx hb hr rfl (fun t ht hW => ⟨⟨_, _, rfl, ⟨rfl, rfl⟩, mPre_at h0 hS hP ht hW⟩, hS.F ht⟩) hS.2.2 dX12_isLetter_29
  have h := ifn hcq5 h
  refine lv_iconst (v := 1) hx hb dX12_isLetter_24 (by decide) ?_
  refine lv_goto (tgt := 29) hx hb dX12_isLetter_25 (by decide) ?_
  obtain rfl := Option.some.inj h
  exact W.zret hx hb hr rfl (fun t ht hW => ⟨⟨_, _, rfl, ⟨rfl, rfl⟩, mPre_at h0 hS hP ht hW⟩, hS.F ht⟩) hS.2.2 dX12_isLetter_29
def fX12_isFigure (p1 : Int32) (σ : QMem) : Option (Int32 × QMem) :=
  if (σ 28 26) ≤ p1 then (some (0, σ)) else (if (p1 < 0 ∨ ml 23 ≤ p1.toNatClampNeg) then none else ((fX12_in (σ 23 p1.toNatClampNeg) 48 57).bind fun xq3 => (if xq3 = 0 then (some (0, σ)) else (some (1, σ)))))
set_option maxHeartbeats 4000000 in
set_option maxRecDepth 100000 in
theorem kX12_isFigure (l : Launch) (D : va_G) (G : xG) (σ : QMem) (p1 : Int32) (res : Int32 × QMem) (h : fX12_isFigure p1 σ = some res) : Met l yX12_isFigure (.code yX12_isFigure cX12_isFigure 2 (some .boolean) :: lwW) (rmD 1) (mPc D G σ [.ref (G.1 28), .int p1]) (mQi D G res) 0 0 (mA G) := by
  refine Met.ofW (cc := cX12_isFigure) (maxL := 2) (ret := (some .boolean)) (by decide) rfl ?_
  intro p e s m args below meth c s₁ B hml hv
  obtain ⟨rfl, h0⟩ := hv
  have hx := B.exec
  have hb := B.bytes
  have hr := B.returns
  have hts := fun (w : Cond) (hw : w ∈ lwW) => atoms_spec (ws := (.code yX12_isFigure cX12_isFigure 2 (some .boolean) :: lwW)) B.pre w (List.mem_cons_of_mem _ hw)
  have hown : s.vm.findClass RX12 = some m.cls := findClass_of_methodNamed B.named
  have hlocks := B.notSynchronized
  have hP := h0.1
  have hK := h0.2.1
  have hi := h0.2.2
  have hS : va_S (mA G) s.heap s.heap [] := va_S.rf
  have hl := lv_entry ([.ref (G.1 28), .int p1]) (n := 2) (Nat.le_of_ble_eq_true rfl)
  rw [lg_entry_eq]
  generalize (lg_sl ([.ref (G.1 28), .int p1]) ++ List.replicate (2 - (lg_sl ([.ref (G.1 28), .int p1])).length) Slot.unset).toArray = ls at hl ⊢
  have hl : lv_has ls 2 [(0, .ref (G.1 28)), (1, .int p1)] := hl
  unfold fX12_isFigure at h
  refine lv_iload_n hx hb dX12_isFigure_0 rfl (lv_at hl 1 rfl) ?_
  refine lv_aload_n hx hb dX12_isFigure_1 rfl (lv_at hl 0 rfl) ?_
  refine va_get (D := D) (ci := 12) (v := .int (σ 28 26)) (C := RX12) (T := TX12) (N := 34) hx hb hts iwX12 hown hK hP 28 (mg_2 rfl) rfl 26 (by decide) (hts _ mw_984) (fun _ h9 => h9) rfl dX12_isFigure_2 ?_
  refine lv_icmp_ge (tgt := 28) hx hb dX12_isFigure_5 (by decide) (fun hcq1 => ?_) (fun hcq1 => ?_)
  · have h := ifp hcq1 h
    refine lv_iconst (v := 0) hx hb dX12_isFigure_28 (by decide) ?_
    obtain rfl := Option.some.inj h
    exact W.zret hx hb hr rfl (fun t ht hW => ⟨⟨_, _, rfl, ⟨rfl, rfl⟩, mPre_at h0 hS hP ht hW⟩, hS.F ht⟩) hS.2.2 dX12_isFigure_29
  have h := ifn hcq1 h
  refine lv_aload_n hx hb dX12_isFigure_8 rfl (lv_at hl 0 rfl) ?_
  refine va_get (D := D) (ci := 12) (v := .ref (G.1 23)) (C := RX12) (T := TX12) (N := 34) hx hb hts iwX12 hown hK hP 28 (mg_2 rfl) rfl 25 (by decide) (hts _ mw_983) (fun _ h9 => h9) rfl dX12_isFigure_9 ?_
  refine lv_iload_n hx hb dX12_isFigure_12 rfl (lv_at hl 1 rfl) ?_
  obtain ⟨hiq2, h⟩ := nif h
  refine va_iald hx hb hK hP 23 0 (mg_0 rfl) rfl hiq2 dX12_isFigure_13 ?_
  refine lv_bipush (v := 48) hx hb dX12_isFigure_14 (by decide) ?_
  refine lv_bipush (v := 57) hx hb dX12_isFigure_16 (by decide) ?_
  obtain ⟨xq3, hfq4, h⟩ := obd h
  refine va_calli (va_runS (As := [.int (σ 23 p1.toNatClampNeg), .int 48, .int 57]) (rest := []) ⟨hx, hb, hml, hown, hts⟩ (kX12_in l (σ 23 p1.toNatClampNeg) 48 57 xq3 hfq4) (va_cwS 3 hts (lwW_gS mw_1069 mw_1070 mw_14 mw_1071) rfl rfl rfl (by decide +kernel) ⟨Nat.le_of_ble_eq_true rfl, Nat.le_of_ble_eq_true rfl⟩) ⟨fun a U g mk q => ⟨q.1, trivial⟩, fun U hU hW => ⟨rfl, trivial⟩⟩ rfl rfl hl.1 rfl (lv_room (Nat.le_of_ble_eq_true rfl)) dX12_isFigure_18 ⟨Nat.zero_le _, Nat.zero_le _⟩) hS (fun q _ h => h.elim) (fun q h => h.elim) (fun r u t H1 locs ht hvm hw hB hz1 hq1 hS => ?_)
  obtain rfl := hw.symm
  have hP := mP_kept hP hq1
  refine W.widen (k := 0) (n := 0) (Nat.le_refl _) (Nat.le_refl _) ?_
  refine lv_if_eq (tgt := 28) hx hb dX12_isFigure_21 (by decide) (fun hcq5 => ?_) (fun hcq5 => ?_)
  · have h := ifp hcq5 h
    refine lv_iconst (v := 0) hx hb dX12_isFigure_28 (by decide) ?_
    obtain rfl := Option.some.inj h
    exact W.zret hx hb hr rfl (fun t ht hW => ⟨⟨_, _, rfl, ⟨rfl, rfl⟩, mPre_at h0 hS hP ht hW⟩, hS.F ht⟩) hS.2.2 dX12_isFigure_29
  have h := ifn hcq5 h
  refine lv_iconst (v := 1) hx hb dX12_isFigure_24 (by decide) ?_
  refine lv_goto (tgt := 29) hx hb dX12_isFigure_25 (by decide) ?_
  obtain rfl := Option.some.inj h
  exact W.zret hx hb hr rfl (fun t ht hW => ⟨⟨_, _, rfl, ⟨rfl, rfl⟩, mPre_at h0 hS hP ht hW⟩, hS.F ht⟩) hS.2.2 dX12_isFigure_29
def fX12_isWord_J102 (p1 : Int32) (p2 : Int32) (p3 : Int32) (p4 : Int32) (v5 : Int32) (τ : QMem) : Option (Int32 × QMem) :=
  (fX12_isLetter ((τ 28 27) + v5) τ).bind fun xq1 => (if xq1.1 = 0 then (some (1, xq1.2)) else (some (0, xq1.2)))
def fX12_isWord_J74 (p1 : Int32) (p2 : Int32) (p3 : Int32) (p4 : Int32) (v5 : Int32) (s0 : Int32) (τ : QMem) : Option (Int32 × QMem) :=
  if s0 = 0 then (some (0, τ)) else (if p4 = 0 then (fX12_isWord_J102 p1 p2 p3 p4 v5 τ) else (if ((τ 28 27) + 3 < 0 ∨ ml 23 ≤ ((τ 28 27) + 3).toNatClampNeg) then none else (if (τ 23 ((τ 28 27) + 3).toNatClampNeg) = p4 then (fX12_isWord_J102 p1 p2 p3 p4 v5 τ) else (some (0, τ)))))
def fX12_isWord_J73 (p1 : Int32) (p2 : Int32) (p3 : Int32) (p4 : Int32) (v5 : Int32) (τ : QMem) : Option (Int32 × QMem) :=
  fX12_isWord_J74 p1 p2 p3 p4 v5 0 τ
def fX12_isWord_J10 (p1 : Int32) (p2 : Int32) (p3 : Int32) (p4 : Int32) (s0 : Int32) (τ : QMem) : Option (Int32 × QMem) :=
  if (τ 28 26) < ((τ 28 27) + s0) then (fX12_isWord_J73 p1 p2 p3 p4 s0 τ) else (if (τ 28 27 < 0 ∨ ml 23 ≤ (τ 28 27).toNatClampNeg) then none else (if (τ 23 (τ 28 27).toNatClampNeg) = p1 then (if ((τ 28 27) + 1 < 0 ∨ ml 23 ≤ ((τ 28 27) + 1).toNatClampNeg) then none else (if (τ 23 ((τ 28 27) + 1).toNatClampNeg) = p2 then (if ((τ 28 27) + 2 < 0 ∨ ml 23 ≤ ((τ 28 27) + 2).toNatClampNeg) then none else (if (τ 23 ((τ 28 27) + 2).toNatClampNeg) = p3 then (fX12_isWord_J74 p1 p2 p3 p4 s0 1 τ) else (fX12_isWord_J73 p1 p2 p3 p4 s0 τ))) else (fX12_isWord_J73 p1 p2 p3 p4 s0 τ))) else (fX12_isWord_J73 p1 p2 p3 p4 s0 τ)))
def fX12_isWord (p1 : Int32) (p2 : Int32) (p3 : Int32) (p4 : Int32) (σ : QMem) : Option (Int32 × QMem) :=
  if p4 = 0 then (fX12_isWord_J10 p1 p2 p3 p4 3 σ) else (fX12_isWord_J10 p1 p2 p3 p4 4 σ)
set_option maxHeartbeats 4000000 in
set_option maxRecDepth 100000 in
theorem kX12_isWord (l : Launch) (D : va_G) (G : xG) (σ : QMem) (p1 : Int32) (p2 : Int32) (p3 : Int32) (p4 : Int32) (res : Int32 × QMem) (h : fX12_isWord p1 p2 p3 p4 σ = some res) : Met l yX12_isWord (.code yX12_isWord cX12_isWord 7 (some .boolean) :: lwW) (rmD 2) (mPc D G σ [.ref (G.1 28), .int p1, .int p2, .int p3, .int p4]) (mQi D G res) 0 0 (mA G) := by
  refine Met.ofW (cc := cX12_isWord) (maxL := 7) (ret := (some .boolean)) (by decide) rfl ?_
  intro p e s m args below meth c s₁ B hml hv
  obtain ⟨rfl, h0⟩ := hv
  have hx := B.exec
  have hb := B.bytes
  have hr := B.returns
  have hts := fun (w : Cond) (hw : w ∈ lwW) => atoms_spec (ws := (.code yX12_isWord cX12_isWord 7 (some .boolean) :: lwW)) B.pre w (List.mem_cons_of_mem _ hw)
  have hown : s.vm.findClass RX12 = some m.cls := findClass_of_methodNamed B.named
  have hlocks := B.notSynchronized
  have hP := h0.1
  have hK := h0.2.1
  have hi := h0.2.2
  have hS : va_S (mA G) s.heap s.heap [] := va_S.rf
  have hl := lv_entry ([.ref (G.1 28), .int p1, .int p2, .int p3, .int p4]) (n := 7) (Nat.le_of_ble_eq_true rfl)
  rw [lg_entry_eq]
  generalize (lg_sl ([.ref (G.1 28), .int p1, .int p2, .int p3, .int p4]) ++ List.replicate (7 - (lg_sl ([.ref (G.1 28), .int p1, .int p2, .int p3, .int p4])).length) Slot.unset).toArray = ls at hl ⊢
  have hl : lv_has ls 7 [(0, .ref (G.1 28)), (1, .int p1), (2, .int p2), (3, .int p3), (4, .int p4)] := hl
  unfold fX12_isWord at h
  have J102 : ∀ (v5 : Int32) (τ : QMem) (H : Heap) (locs : List Loc) (ls : Array Slot), fX12_isWord_J102 p1 p2 p3 p4 v5 τ = some res → va_P D vwCl (mW G τ) H → va_S (mA G) s.heap H locs → lv_has ls 7 [(0, .ref (G.1 28)), (5, .int v5)] → W p l e (headSpec (.code yX12_isWord cX12_isWord 7 (some .boolean) :: lwW) (rmD 2)).room s m ([.ref (G.1 28), .int p1, .int p2, .int p3, .int p4] : List Value).toArray below meth c H locs 0 0 (MQ below (mQi D G res) ([.ref (G.1 28), .int p1, .int p2, .int p3, .int p4] : List Value).toArray s 0 0 (mA G)) (F0 m 102 ls []) := by
    intro v5 τ H locs ls h hP hS hl
    unfold fX12_isWord_J102 at h
    refine lv_aload_n hx hb dX12_isWord_102 rfl (lv_at hl 0 rfl) ?_
    refine lv_aload_n hx hb dX12_isWord_103 rfl (lv_at hl 0 rfl) ?_
    refine va_get (D := D) (ci := 12) (v := .int (τ 28 27)) (C := RX12) (T := TX12) (N := 34) hx hb hts iwX12 hown hK hP 28 (mg_2 rfl) rfl 27 (by decide) (hts _ mw_985) (fun _ h9 => h9) rfl dX12_isWord_104 ?_
    refine lv_iload hx hb dX12_isWord_107 (lv_at hl 1 rfl) ?_
    refine lv_iadd hx hb dX12_isWord_109 ?_
    obtain ⟨xq4, hfq5, h⟩ := obd h
    refine va_calli (va_runV (As := [.int ((τ 28 27) + v5)]) (rest := []) ⟨hx, hb, hml, hown, hts⟩ (kX12_isLetter l D G _ ((τ 28 27) + v5) xq4 hfq5) (cwV 1 hts (lwW_gV mw_1273 mw_1275 ms_51 mw_14 mw_1276) rfl rfl rfl (by decide +kernel) ⟨Nat.le_of_ble_eq_true rfl, Nat.le_of_ble_eq_true rfl⟩) ⟨fun a U g mk q => ⟨q.1, mPre_call q.2⟩, va_recv hK hP rfl (mg_2 rfl), fun U hU hW => ⟨rfl, mPre_at h0 hS hP hU hW⟩⟩ rfl rfl hl.1 rfl (lv_room (Nat.le_of_ble_eq_true rfl)) dX12_isWord_110 ⟨Nat.zero_le _, Nat.zero_le _⟩) hS (fun q _ h => h) (fun q h => h) (fun r u t H1 locs ht hvm hw hB hz1 hq1 hS => ?_)
    obtain ⟨rfl, rfl⟩ := hw
    have hP := hB.1
    rw [ht] at hP
    refine W.widen (k := 0) (n := 0) (Nat.le_refl _) (Nat.le_refl _) ?_
    refine lv_if_ne (tgt := 120) hx hb dX12_isWord_113 (by decide) (fun hcq6 => ?_) (fun hcq6 => ?_)
    · have h := ifn hcq6 h
      refine lv_iconst (v := 0) hx hb dX12_isWord_120 (by decide) ?_
      obtain rfl := Option.some.inj h
      exact W.zret hx hb hr rfl (fun t ht hW => ⟨⟨_, _, rfl, ⟨rfl, rfl⟩, mPre_at h0 hS hP ht hW⟩, hS.F ht⟩) hS.2.2 dX12_isWord_121
    have h := ifp hcq6 h
    refine lv_iconst (v := 1) hx hb dX12_isWord_116 (by decide) ?_
    refine lv_goto (tgt := 121) hx hb dX12_isWord_117 (by decide) ?_
    obtain rfl := Option.some.inj h
    exact W.zret hx hb hr rfl (fun t ht hW => ⟨⟨_, _, rfl, ⟨rfl, rfl⟩, mPre_at h0 hS hP ht hW⟩, hS.F ht⟩) hS.2.2 dX12_isWord_121
  have J74 : ∀ (v5 : Int32) (s0 : Int32) (τ : QMem) (H : Heap) (locs : List Loc) (ls : Array Slot), fX12_isWord_J74 p1 p2 p3 p4 v5 s0 τ = some res → va_P D vwCl (mW G τ) H → va_S (mA G) s.heap H locs → lv_has ls 7 [(0, .ref (G.1 28)), (4, .int p4), (5, .int v5)] → W p l e (headSpec (.code yX12_isWord cX12_isWord 7 (some .boolean) :: lwW) (rmD 2)).room s m ([.ref (G.1 28), .int p1, .int p2, .int p3, .int p4] : List Value).toArray below meth c H locs 0 0 (MQ below (mQi D G res) ([.ref (G.1 28), .int p1, .int p2, .int p3, .int p4] : List Value).toArray s 0 0 (mA G)) (F0 m 74 ls [.int s0]) := by
    intro v5 s0 τ H locs ls h hP hS hl
    unfold fX12_isWord_J74 at h
    refine lv_istore (lv' := [(6, .int s0), (0, .ref (G.1 28)), (4, .int p4), (5, .int v5)]) hx hb dX12_isWord_74 hl (by decide) rfl (fun ls hl => ?_)
    refine lv_iload hx hb dX12_isWord_76 (lv_at hl 0 rfl) ?_
    refine lv_if_eq (tgt := 120) hx hb dX12_isWord_78 (by decide) (fun hcq11 => ?_) (fun hcq11 => ?_)
    · have h := ifp hcq11 h
      refine lv_iconst (v := 0) hx hb dX12_isWord_120 (by decide) ?_
      obtain rfl := Option.some.inj h
      exact W.zret hx hb hr rfl (fun t ht hW => ⟨⟨_, _, rfl, ⟨rfl, rfl⟩, mPre_at h0 hS hP ht hW⟩, hS.F ht⟩) hS.2.2 dX12_isWord_121
    have h := ifn hcq11 h
    refine lv_iload hx hb dX12_isWord_81 (lv_at hl 2 rfl) ?_
    refine lv_if_eq (tgt := 102) hx hb dX12_isWord_83 (by decide) (fun hcq12 => ?_) (fun hcq12 => ?_)
    · have h := ifp hcq12 h
      exact J102 v5 _ _ _ _ h hP hS (lv_sub hl [1, 3] rfl)
    have h := ifn hcq12 h
    refine lv_aload_n hx hb dX12_isWord_86 rfl (lv_at hl 1 rfl) ?_
    refine va_get (D := D) (ci := 12) (v := .ref (G.1 23)) (C := RX12) (T := TX12) (N := 34) hx hb hts iwX12 hown hK hP 28 (mg_2 rfl) rfl 25 (by decide) (hts _ mw_983) (fun _ h9 => h9) rfl dX12_isWord_87 ?_
    refine lv_aload_n hx hb dX12_isWord_90 rfl (lv_at hl 1 rfl) ?_
    refine va_get (D := D) (ci := 12) (v := .int (τ 28 27)) (C := RX12) (T := TX12) (N := 34) hx hb hts iwX12 hown hK hP 28 (mg_2 rfl) rfl 27 (by decide) (hts _ mw_985) (fun _ h9 => h9) rfl dX12_isWord_91 ?_
    refine lv_iconst (v := 3) hx hb dX12_isWord_94 (by decide) ?_
    refine lv_iadd hx hb dX12_isWord_95 ?_
    obtain ⟨hiq13, h⟩ := nif h
    refine va_iald hx hb hK hP 23 0 (mg_0 rfl) rfl hiq13 dX12_isWord_96 ?_
    refine lv_iload hx hb dX12_isWord_97 (lv_at hl 2 rfl) ?_
    refine lv_icmp_ne (tgt := 120) hx hb dX12_isWord_99 (by decide) (fun hcq14 => ?_) (fun hcq14 => ?_)
    · have h := ifn hcq14 h
      refine lv_iconst (v := 0) hx hb dX12_isWord_120 (by decide) ?_
      obtain rfl := Option.some.inj h
      exact W.zret hx hb hr rfl (fun t ht hW => ⟨⟨_, _, rfl, ⟨rfl, rfl⟩, mPre_at h0 hS hP ht hW⟩, hS.F ht⟩) hS.2.2 dX12_isWord_121
    have h := ifp hcq14 h
    exact J102 v5 _ _ _ _ h hP hS (lv_sub hl [1, 3] rfl)
  have J73 : ∀ (v5 : Int32) (τ : QMem) (H : Heap) (locs : List Loc) (ls : Array Slot), fX12_isWord_J73 p1 p2 p3 p4 v5 τ = some res → va_P D vwCl (mW G τ) H → va_S (mA G) s.heap H locs → lv_has ls 7 [(0, .ref (G.1 28)), (4, .int p4), (5, .int v5)] → W p l e (headSpec (.code yX12_isWord cX12_isWord 7 (some .boolean) :: lwW) (rmD 2)).room s m ([.ref (G.1 28), .int p1, .int p2, .int p3, .int p4] : List Value).toArray below meth c H locs 0 0 (MQ below (mQi D G res) ([.ref (G.1 28), .int p1, .int p2, .int p3, .int p4] : List Value).toArray s 0 0 (mA G)) (F0 m 73 ls []) := by
    intro v5 τ H locs ls h hP hS hl
    unfold fX12_isWord_J73 at h
    refine lv_iconst (v := 0) hx hb dX12_isWord_73 (by decide) ?_
    exact J74 v5 0 _ _ _ _ h hP hS (lv_sub hl [0, 1, 2] rfl)
  have J10 : ∀ (s0 : Int32) (τ : QMem) (H : Heap) (locs : List Loc) (ls : Array Slot), fX12_isWord_J10 p1 p2 p3 p4 s0 τ = some res → va_P D vwCl (mW G τ) H → va_S (mA G) s.heap H locs → lv_has ls 7 [(0, .ref (G.1 28)), (1, .int p1), (2, .int p2), (3, .int p3), (4, .int p4)] → W p l e (headSpec (.code yX12_isWord cX12_isWord 7 (some .boolean) :: lwW) (rmD 2)).room s m ([.ref (G.1 28), .int p1, .int p2, .int p3, .int p4] : List Value).toArray below meth c H locs 0 0 (MQ below (mQi D G res) ([.ref (G.1 28), .int p1, .int p2, .int p3, .int p4] : List Value).toArray s 0 0 (mA G)) (F0 m 10 ls [.int s0]) := by
    intro s0 τ H locs ls h hP hS hl
    unfold fX12_isWord_J10 at h
    refine lv_istore (lv' := [(5, .int s0), (0, .ref (G.1 28)), (1, .int p1), (2, .int p2), (3, .int p3), (4, .int p4)]) hx hb dX12_isWord_10 hl (by decide) rfl (fun ls hl => ?_)
    refine lv_aload_n hx hb dX12_isWord_12 rfl (lv_at hl 1 rfl) ?_
    refine va_get (D := D) (ci := 12) (v := .int (τ 28 27)) (C := RX12) (T := TX12) (N := 34) hx hb hts iwX12 hown hK hP 28 (mg_2 rfl) rfl 27 (by decide) (hts _ mw_985) (fun _ h9 => h9) rfl dX12_isWord_13 ?_
    refine lv_iload hx hb dX12_isWord_16 (lv_at hl 0 rfl) ?_
    refine lv_iadd hx hb dX12_isWord_18 ?_
    refine lv_aload_n hx hb dX12_isWord_19 rfl (lv_at hl 1 rfl) ?_
    refine va_get (D := D) (ci := 12) (v := .int (τ 28 26)) (C := RX12) (T := TX12) (N := 34) hx hb hts iwX12 hown hK hP 28 (mg_2 rfl) rfl 26 (by decide) (hts _ mw_984) (fun _ h9 => h9) rfl dX12_isWord_20 ?_
    refine lv_icmp_gt (tgt := 73) hx hb dX12_isWord_23 (by decide) (fun hcq22 => ?_) (fun hcq22 => ?_)
    · have h := ifp hcq22 h
      exact J73 s0 _ _ _ _ h hP hS (lv_sub hl [1, 5, 0] rfl)
    have h := ifn hcq22 h
    refine lv_aload_n hx hb dX12_isWord_26 rfl (lv_at hl 1 rfl) ?_
    refine va_get (D := D) (ci := 12) (v := .ref (G.1 23)) (C := RX12) (T := TX12) (N := 34) hx hb hts iwX12 hown hK hP 28 (mg_2 rfl) rfl 25 (by decide) (hts _ mw_983) (fun _ h9 => h9) rfl dX12_isWord_27 ?_
    refine lv_aload_n hx hb dX12_isWord_30 rfl (lv_at hl 1 rfl) ?_
    refine va_get (D := D) (ci := 12) (v := .int (τ 28 27)) (C := RX12) (T := TX12) (N := 34) hx hb hts iwX12 hown hK hP 28 (mg_2 rfl) rfl 27 (by decide) (hts _ mw_985) (fun _ h9 => h9) rfl dX12_isWord_31 ?_
    obtain ⟨hiq23, h⟩ := nif h
    refine va_iald hx hb hK hP 23 0 (mg_0 rfl) rfl hiq23 dX12_isWord_34 ?_
    refine lv_iload_n hx hb dX12_isWord_35 rfl (lv_at hl 2 rfl) ?_
    refine lv_icmp_ne (tgt := 73) hx hb dX12_isWord_36 (by decide) (fun hcq24 => ?_) (fun hcq24 => ?_)
    · have h := ifn hcq24 h
      exact J73 s0 _ _ _ _ h hP hS (lv_sub hl [1, 5, 0] rfl)
    have h := ifp hcq24 h
    refine lv_aload_n hx hb dX12_isWord_39 rfl (lv_at hl 1 rfl) ?_
    refine va_get (D := D) (ci := 12) (v := .ref (G.1 23)) (C := RX12) (T := TX12) (N := 34) hx hb hts iwX12 hown hK hP 28 (mg_2 rfl) rfl 25 (by decide) (hts _ mw_983) (fun _ h9 => h9) rfl dX12_isWord_40 ?_
    refine lv_aload_n hx hb dX12_isWord_43 rfl (lv_at hl 1 rfl) ?_
    refine va_get (D := D) (ci := 12) (v := .int (τ 28 27)) (C := RX12) (T := TX12) (N := 34) hx hb hts iwX12 hown hK hP 28 (mg_2 rfl) rfl 27 (by decide) (hts _ mw_985) (fun _ h9 => h9) rfl dX12_isWord_44 ?_
    refine lv_iconst (v := 1) hx hb dX12_isWord_47 (by decide) ?_
    refine lv_iadd hx hb dX12_isWord_48 ?_
    obtain ⟨hiq25, h⟩ := nif h
    refine va_iald hx hb hK hP 23 0 (mg_0 rfl) rfl hiq25 dX12_isWord_49 ?_
    refine lv_iload_n hx hb dX12_isWord_50 rfl (lv_at hl 3 rfl) ?_
    refine lv_icmp_ne (tgt := 73) hx hb dX12_isWord_51 (by decide) (fun hcq26 => ?_) (fun hcq26 => ?_)
    · have h := ifn hcq26 h
      exact J73 s0 _ _ _ _ h hP hS (lv_sub hl [1, 5, 0] rfl)
    have h := ifp hcq26 h
    refine lv_aload_n hx hb dX12_isWord_54 rfl (lv_at hl 1 rfl) ?_
    refine va_get (D := D) (ci := 12) (v := .ref (G.1 23)) (C := RX12) (T := TX12) (N := 34) hx hb hts iwX12 hown hK hP 28 (mg_2 rfl) rfl 25 (by decide) (hts _ mw_983) (fun _ h9 => h9) rfl dX12_isWord_55 ?_
    refine lv_aload_n hx hb dX12_isWord_58 rfl (lv_at hl 1 rfl) ?_
    refine va_get (D := D) (ci := 12) (v := .int (τ 28 27)) (C := RX12) (T := TX12) (N := 34) hx hb hts iwX12 hown hK hP 28 (mg_2 rfl) rfl 27 (by decide) (hts _ mw_985) (fun _ h9 => h9) rfl dX12_isWord_59 ?_
    refine lv_iconst (v := 2) hx hb dX12_isWord_62 (by decide) ?_
    refine lv_iadd hx hb dX12_isWord_63 ?_
    obtain ⟨hiq27, h⟩ := nif h
    refine va_iald hx hb hK hP 23 0 (mg_0 rfl) rfl hiq27 dX12_isWord_64 ?_
    refine lv_iload_n hx hb dX12_isWord_65 rfl (lv_at hl 4 rfl) ?_
    refine lv_icmp_ne (tgt := 73) hx hb dX12_isWord_66 (by decide) (fun hcq28 => ?_) (fun hcq28 => ?_)
    · have h := ifn hcq28 h
      exact J73 s0 _ _ _ _ h hP hS (lv_sub hl [1, 5, 0] rfl)
    have h := ifp hcq28 h
    refine lv_iconst (v := 1) hx hb dX12_isWord_69 (by decide) ?_
    refine lv_goto (tgt := 74) hx hb dX12_isWord_70 (by decide) ?_
    exact J74 s0 1 _ _ _ _ h hP hS (lv_sub hl [1, 5, 0] rfl)
  refine lv_iload hx hb dX12_isWord_0 (lv_at hl 4 rfl) ?_
  refine lv_if_ne (tgt := 9) hx hb dX12_isWord_2 (by decide) (fun hcq29 => ?_) (fun hcq29 => ?_)
  · have h := ifn hcq29 h
    refine lv_iconst (v := 4) hx hb dX12_isWord_9 (by decide) ?_
    exact J10 4 _ _ _ _ h hP hS (lv_sub hl [0, 1, 2, 3, 4] rfl)
  have h := ifp hcq29 h
  refine lv_iconst (v := 3) hx hb dX12_isWord_5 (by decide) ?_
  refine lv_goto (tgt := 10) hx hb dX12_isWord_6 (by decide) ?_
  exact J10 3 _ _ _ _ h hP hS (lv_sub hl [0, 1, 2, 3, 4] rfl)
def fX12_readsWord_J121  (v1 : Int32) (s1 : Int32) (s2 : Int32) (τ : QMem) : Option (Int32 × QMem) :=
  some (v1, ms τ 28 27 (s1 + s2))
def fX12_readsWord_J92  (v1 : Int32) (s1 : Int32) (τ : QMem) : Option (Int32 × QMem) :=
  if ¬ (s1 = 0 ∨ s1 = 1) then none else (if ((ms τ 28 28 s1) 28 28) = 0 then (if 2 ≤ v1 then (fX12_readsWord_J121 v1 ((ms τ 28 28 s1) 28 27) 4 (ms τ 28 28 s1)) else (fX12_readsWord_J121 v1 ((ms τ 28 28 s1) 28 27) 3 (ms τ 28 28 s1))) else (fX12_readsWord_J121 v1 ((ms τ 28 28 s1) 28 27) 0 (ms τ 28 28 s1)))
def fX12_readsWord_J80  (s0 : Int32) (τ : QMem) : Option (Int32 × QMem) :=
  if s0 = (-1) then (fX12_readsWord_J92 s0 1 τ) else (fX12_readsWord_J92 s0 0 τ)
def fX12_readsWord  (σ : QMem) : Option (Int32 × QMem) :=
  (fX12_looks σ).bind fun xq9 => ((fX12_isWord 97 108 108 0 xq9.2).bind fun xq11 => (if xq11.1 = 0 then ((fX12_isWord 112 117 116 0 xq11.2).bind fun xq14 => (if xq14.1 = 0 then ((fX12_isWord 117 110 105 116 xq14.2).bind fun xq17 => (if xq17.1 = 0 then ((fX12_isWord 99 111 112 121 xq17.2).bind fun xq20 => (if xq20.1 = 0 then (fX12_readsWord_J80 (-1) xq20.2) else (fX12_readsWord_J80 3 xq20.2))) else (fX12_readsWord_J80 2 xq17.2))) else (fX12_readsWord_J80 1 xq14.2))) else (fX12_readsWord_J80 0 xq11.2)))
set_option maxHeartbeats 4000000 in
set_option maxRecDepth 100000 in
theorem kX12_readsWord (l : Launch) (D : va_G) (G : xG) (σ : QMem) (res : Int32 × QMem) (h : fX12_readsWord σ = some res) : Met l yX12_readsWord (.code yX12_readsWord cX12_readsWord 2 (some .int) :: lwW) (rmD 3) (mPc D G σ [.ref (G.1 28)]) (mQi D G res) 0 0 (mA G) := by
  refine Met.ofW (cc := cX12_readsWord) (maxL := 2) (ret := (some .int)) (by decide) rfl ?_
  intro p e s m args below meth c s₁ B hml hv
  obtain ⟨rfl, h0⟩ := hv
  have hx := B.exec
  have hb := B.bytes
  have hr := B.returns
  have hts := fun (w : Cond) (hw : w ∈ lwW) => atoms_spec (ws := (.code yX12_readsWord cX12_readsWord 2 (some .int) :: lwW)) B.pre w (List.mem_cons_of_mem _ hw)
  have hown : s.vm.findClass RX12 = some m.cls := findClass_of_methodNamed B.named
  have hlocks := B.notSynchronized
  have hP := h0.1
  have hK := h0.2.1
  have hi := h0.2.2
  have hS : va_S (mA G) s.heap s.heap [] := va_S.rf
  have hl := lv_entry ([.ref (G.1 28)]) (n := 2) (Nat.le_of_ble_eq_true rfl)
  rw [lg_entry_eq]
  generalize (lg_sl ([.ref (G.1 28)]) ++ List.replicate (2 - (lg_sl ([.ref (G.1 28)])).length) Slot.unset).toArray = ls at hl ⊢
  have hl : lv_has ls 2 [(0, .ref (G.1 28))] := hl
  unfold fX12_readsWord at h
  have J121 : ∀ (v1 : Int32) (s1 : Int32) (s2 : Int32) (τ : QMem) (H : Heap) (locs : List Loc) (ls : Array Slot), fX12_readsWord_J121 v1 s1 s2 τ = some res → va_P D vwCl (mW G τ) H → va_S (mA G) s.heap H locs → lv_has ls 2 [(1, .int v1)] → W p l e (headSpec (.code yX12_readsWord cX12_readsWord 2 (some .int) :: lwW) (rmD 3)).room s m ([.ref (G.1 28)] : List Value).toArray below meth c H locs 0 0 (MQ below (mQi D G res) ([.ref (G.1 28)] : List Value).toArray s 0 0 (mA G)) (F0 m 121 ls [.int s2, .int s1, .ref (G.1 28)]) := by
    intro v1 s1 s2 τ H locs ls h hP hS hl
    unfold fX12_readsWord_J121 at h
    refine lv_iadd hx hb dX12_readsWord_121 ?_
    refine va_put (D := D) (ci := 12) (v := .int (s1 + s2)) (ty := .int) (C := RX12) (T := TX12) (N := 34) hx hb hts iwX12 tyX12 tyX12_ok nmX12 hown hK hP (mD hi) hS 28 (mg_2 rfl) rfl 27 (by decide) (hts _ mw_985) (fun _ h9 => h9) rfl (by decide +kernel) rfl rfl (Nat.le_of_ble_eq_true rfl) dX12_readsWord_122 (fun H locs hP hD hS => ?_)
    have hP : va_P D vwCl (mW G (ms τ 28 27 (s1 + s2))) H := by rw [← ms_2_27 rfl]; exact hP
    refine lv_iload_n hx hb dX12_readsWord_125 rfl (lv_at hl 0 rfl) ?_
    obtain rfl := Option.some.inj h
    exact W.iret (v := v1) hx hb hr (fun t ht hW => ⟨⟨_, _, rfl, ⟨rfl, rfl⟩, mPre_at h0 hS hP ht hW⟩, hS.F ht⟩) hS.2.2 dX12_readsWord_126
  have J92 : ∀ (v1 : Int32) (s1 : Int32) (τ : QMem) (H : Heap) (locs : List Loc) (ls : Array Slot), fX12_readsWord_J92 v1 s1 τ = some res → va_P D vwCl (mW G τ) H → va_S (mA G) s.heap H locs → lv_has ls 2 [(0, .ref (G.1 28)), (1, .int v1)] → W p l e (headSpec (.code yX12_readsWord cX12_readsWord 2 (some .int) :: lwW) (rmD 3)).room s m ([.ref (G.1 28)] : List Value).toArray below meth c H locs 0 0 (MQ below (mQi D G res) ([.ref (G.1 28)] : List Value).toArray s 0 0 (mA G)) (F0 m 92 ls [.int s1, .ref (G.1 28)]) := by
    intro v1 s1 τ H locs ls h hP hS hl
    unfold fX12_readsWord_J92 at h
    obtain ⟨hzq4, h⟩ := nif h
    have hzq4 := Decidable.not_not.mp hzq4
    refine va_put (D := D) (ci := 12) (v := .int s1) (ty := .boolean) (C := RX12) (T := TX12) (N := 34) hx hb hts iwX12 tyX12 tyX12_ok nmX12 hown hK hP (mD hi) hS 28 (mg_2 rfl) rfl 28 (by decide) (hts _ mw_986) (fun _ h9 => h9) rfl (by decide +kernel) (nar01 hzq4) (fit01 hzq4) (Nat.le_of_ble_eq_true rfl) dX12_readsWord_92 (fun H locs hP hD hS => ?_)
    have hP : va_P D vwCl (mW G (ms τ 28 28 s1)) H := by rw [← ms_2_28 rfl]; exact hP
    refine lv_aload_n hx hb dX12_readsWord_95 rfl (lv_at hl 0 rfl) ?_
    refine lv_dup hx hb dX12_readsWord_96 rfl ?_
    refine va_get (D := D) (ci := 12) (v := .int ((ms τ 28 28 s1) 28 27)) (C := RX12) (T := TX12) (N := 34) hx hb hts iwX12 hown hK hP 28 (mg_2 rfl) rfl 27 (by decide) (hts _ mw_985) (fun _ h9 => h9) rfl dX12_readsWord_97 ?_
    refine lv_aload_n hx hb dX12_readsWord_100 rfl (lv_at hl 0 rfl) ?_
    refine va_get (D := D) (ci := 12) (v := .int ((ms τ 28 28 s1) 28 28)) (C := RX12) (T := TX12) (N := 34) hx hb hts iwX12 hown hK hP 28 (mg_2 rfl) rfl 28 (by decide) (hts _ mw_986) (fun _ h9 => h9) rfl dX12_readsWord_101 ?_
    refine lv_if_eq (tgt := 111) hx hb dX12_readsWord_104 (by decide) (fun hcq5 => ?_) (fun hcq5 => ?_)
    · have h := ifp hcq5 h
      refine lv_iload_n hx hb dX12_readsWord_111 rfl (lv_at hl 1 rfl) ?_
      refine lv_iconst (v := 2) hx hb dX12_readsWord_112 (by decide) ?_
      refine lv_icmp_ge (tgt := 120) hx hb dX12_readsWord_113 (by decide) (fun hcq6 => ?_) (fun hcq6 => ?_)
      · have h := ifp hcq6 h
        refine lv_iconst (v := 4) hx hb dX12_readsWord_120 (by decide) ?_
        exact J121 v1 ((ms τ 28 28 s1) 28 27) 4 _ _ _ _ h hP hS (lv_sub hl [1] rfl)
      have h := ifn hcq6 h
      refine lv_iconst (v := 3) hx hb dX12_readsWord_116 (by decide) ?_
      refine lv_goto (tgt := 121) hx hb dX12_readsWord_117 (by decide) ?_
      exact J121 v1 ((ms τ 28 28 s1) 28 27) 3 _ _ _ _ h hP hS (lv_sub hl [1] rfl)
    have h := ifn hcq5 h
    refine lv_iconst (v := 0) hx hb dX12_readsWord_107 (by decide) ?_
    refine lv_goto (tgt := 121) hx hb dX12_readsWord_108 (by decide) ?_
    exact J121 v1 ((ms τ 28 28 s1) 28 27) 0 _ _ _ _ h hP hS (lv_sub hl [1] rfl)
  have J80 : ∀ (s0 : Int32) (τ : QMem) (H : Heap) (locs : List Loc) (ls : Array Slot), fX12_readsWord_J80 s0 τ = some res → va_P D vwCl (mW G τ) H → va_S (mA G) s.heap H locs → lv_has ls 2 [(0, .ref (G.1 28))] → W p l e (headSpec (.code yX12_readsWord cX12_readsWord 2 (some .int) :: lwW) (rmD 3)).room s m ([.ref (G.1 28)] : List Value).toArray below meth c H locs 0 0 (MQ below (mQi D G res) ([.ref (G.1 28)] : List Value).toArray s 0 0 (mA G)) (F0 m 80 ls [.int s0]) := by
    intro s0 τ H locs ls h hP hS hl
    unfold fX12_readsWord_J80 at h
    refine lv_istore_n (lv' := [(1, .int s0), (0, .ref (G.1 28))]) hx hb dX12_readsWord_80 rfl hl (by decide) rfl (fun ls hl => ?_)
    refine lv_aload_n hx hb dX12_readsWord_81 rfl (lv_at hl 1 rfl) ?_
    refine lv_iload_n hx hb dX12_readsWord_82 rfl (lv_at hl 0 rfl) ?_
    refine lv_iconst (v := (-1)) hx hb dX12_readsWord_83 (by decide) ?_
    refine lv_icmp_ne (tgt := 91) hx hb dX12_readsWord_84 (by decide) (fun hcq8 => ?_) (fun hcq8 => ?_)
    · have h := ifn hcq8 h
      refine lv_iconst (v := 0) hx hb dX12_readsWord_91 (by decide) ?_
      exact J92 s0 0 _ _ _ _ h hP hS (lv_sub hl [1, 0] rfl)
    have h := ifp hcq8 h
    refine lv_iconst (v := 1) hx hb dX12_readsWord_87 (by decide) ?_
    refine lv_goto (tgt := 92) hx hb dX12_readsWord_88 (by decide) ?_
    exact J92 s0 1 _ _ _ _ h hP hS (lv_sub hl [1, 0] rfl)
  refine lv_aload_n hx hb dX12_readsWord_0 rfl (lv_at hl 0 rfl) ?_
  obtain ⟨xq9, hfq10, h⟩ := obd h
  refine va_calli (va_runV (As := []) (rest := []) ⟨hx, hb, hml, hown, hts⟩ (kX12_looks l D G _ xq9 hfq10) (cwV 0 hts (lwW_gV mw_1265 mw_1267 ms_49 mw_14 mw_1268) rfl rfl rfl (by decide +kernel) ⟨Nat.le_of_ble_eq_true rfl, Nat.le_of_ble_eq_true rfl⟩) ⟨fun a U g mk q => ⟨q.1, mPre_call q.2⟩, va_recv hK hP rfl (mg_2 rfl), fun U hU hW => ⟨rfl, mPre_at h0 hS hP hU hW⟩⟩ rfl rfl hl.1 rfl (lv_room (Nat.le_of_ble_eq_true rfl)) dX12_readsWord_1 ⟨Nat.zero_le _, Nat.zero_le _⟩) hS (fun q _ h => h) (fun q h => h) (fun r u t H1 locs ht hvm hw hB hz1 hq1 hS => ?_)
  obtain ⟨rfl, rfl⟩ := hw
  have hP := hB.1
  rw [ht] at hP
  refine W.widen (k := 0) (n := 0) (Nat.le_refl _) (Nat.le_refl _) ?_
  refine lv_pop hx hb dX12_readsWord_4 rfl ?_
  refine lv_aload_n hx hb dX12_readsWord_5 rfl (lv_at hl 0 rfl) ?_
  refine lv_bipush (v := 97) hx hb dX12_readsWord_6 (by decide) ?_
  refine lv_bipush (v := 108) hx hb dX12_readsWord_8 (by decide) ?_
  refine lv_bipush (v := 108) hx hb dX12_readsWord_10 (by decide) ?_
  refine lv_iconst (v := 0) hx hb dX12_readsWord_12 (by decide) ?_
  obtain ⟨xq11, hfq12, h⟩ := obd h
  refine va_calli (va_runV (As := [.int 97, .int 108, .int 108, .int 0]) (rest := []) ⟨hx, hb, hml, hown, hts⟩ (kX12_isWord l D G _ 97 108 108 0 xq11 hfq12) (cwV 4 hts (lwW_gV mw_1269 mw_1271 ms_50 mw_14 mw_1272) rfl rfl rfl (by decide +kernel) ⟨Nat.le_of_ble_eq_true rfl, Nat.le_of_ble_eq_true rfl⟩) ⟨fun a U g mk q => ⟨q.1, mPre_call q.2⟩, va_recv hK hP rfl (mg_2 rfl), fun U hU hW => ⟨rfl, mPre_at h0 hS hP hU hW⟩⟩ rfl rfl hl.1 rfl (lv_room (Nat.le_of_ble_eq_true rfl)) dX12_readsWord_13 ⟨Nat.zero_le _, Nat.zero_le _⟩) hS (fun q _ h => h) (fun q h => h) (fun r u t H1 locs ht hvm hw hB hz1 hq1 hS => ?_)
  obtain ⟨rfl, rfl⟩ := hw
  have hP := hB.1
  rw [ht] at hP
  refine W.widen (k := 0) (n := 0) (Nat.le_refl _) (Nat.le_refl _) ?_
  refine lv_if_eq (tgt := 23) hx hb dX12_readsWord_16 (by decide) (fun hcq13 => ?_) (fun hcq13 => ?_)
  · have h := ifp hcq13 h
    refine lv_aload_n hx hb dX12_readsWord_23 rfl (lv_at hl 0 rfl) ?_
    refine lv_bipush (v := 112) hx hb dX12_readsWord_24 (by decide) ?_
    refine lv_bipush (v := 117) hx hb dX12_readsWord_26 (by decide) ?_
    refine lv_bipush (v := 116) hx hb dX12_readsWord_28 (by decide) ?_
    refine lv_iconst (v := 0) hx hb dX12_readsWord_30 (by decide) ?_
    obtain ⟨xq14, hfq15, h⟩ := obd h
    refine va_calli (va_runV (As := [.int 112, .int 117, .int 116, .int 0]) (rest := []) ⟨hx, hb, hml, hown, hts⟩ (kX12_isWord l D G _ 112 117 116 0 xq14 hfq15) (cwV 4 hts (lwW_gV mw_1269 mw_1271 ms_50 mw_14 mw_1272) rfl rfl rfl (by decide +kernel) ⟨Nat.le_of_ble_eq_true rfl, Nat.le_of_ble_eq_true rfl⟩) ⟨fun a U g mk q => ⟨q.1, mPre_call q.2⟩, va_recv hK hP rfl (mg_2 rfl), fun U hU hW => ⟨rfl, mPre_at h0 hS hP hU hW⟩⟩ rfl rfl hl.1 rfl (lv_room (Nat.le_of_ble_eq_true rfl)) dX12_readsWord_31 ⟨Nat.zero_le _, Nat.zero_le _⟩) hS (fun q _ h => h) (fun q h => h) (fun r u t H1 locs ht hvm hw hB hz1 hq1 hS => ?_)
    obtain ⟨rfl, rfl⟩ := hw
    have hP := hB.1
    rw [ht] at hP
    refine W.widen (k := 0) (n := 0) (Nat.le_refl _) (Nat.le_refl _) ?_
    refine lv_if_eq (tgt := 41) hx hb dX12_readsWord_34 (by decide) (fun hcq16 => ?_) (fun hcq16 => ?_)
    · have h := ifp hcq16 h
      refine lv_aload_n hx hb dX12_readsWord_41 rfl (lv_at hl 0 rfl) ?_
      refine lv_bipush (v := 117) hx hb dX12_readsWord_42 (by decide) ?_
      refine lv_bipush (v := 110) hx hb dX12_readsWord_44 (by decide) ?_
      refine lv_bipush (v := 105) hx hb dX12_readsWord_46 (by decide) ?_
      refine lv_bipush (v := 116) hx hb dX12_readsWord_48 (by decide) ?_
      obtain ⟨xq17, hfq18, h⟩ := obd h
      refine va_calli (va_runV (As := [.int 117, .int 110, .int 105, .int 116]) (rest := []) ⟨hx, hb, hml, hown, hts⟩ (kX12_isWord l D G _ 117 110 105 116 xq17 hfq18) (cwV 4 hts (lwW_gV mw_1269 mw_1271 ms_50 mw_14 mw_1272) rfl rfl rfl (by decide +kernel) ⟨Nat.le_of_ble_eq_true rfl, Nat.le_of_ble_eq_true rfl⟩) ⟨fun a U g mk q => ⟨q.1, mPre_call q.2⟩, va_recv hK hP rfl (mg_2 rfl), fun U hU hW => ⟨rfl, mPre_at h0 hS hP hU hW⟩⟩ rfl rfl hl.1 rfl (lv_room (Nat.le_of_ble_eq_true rfl)) dX12_readsWord_50 ⟨Nat.zero_le _, Nat.zero_le _⟩) hS (fun q _ h => h) (fun q h => h) (fun r u t H1 locs ht hvm hw hB hz1 hq1 hS => ?_)
      obtain ⟨rfl, rfl⟩ := hw
      have hP := hB.1
      rw [ht] at hP
      refine W.widen (k := 0) (n := 0) (Nat.le_refl _) (Nat.le_refl _) ?_
      refine lv_if_eq (tgt := 60) hx hb dX12_readsWord_53 (by decide) (fun hcq19 => ?_) (fun hcq19 => ?_)
      · have h := ifp hcq19 h
        refine lv_aload_n hx hb dX12_readsWord_60 rfl (lv_at hl 0 rfl) ?_
        refine lv_bipush (v := 99) hx hb dX12_readsWord_61 (by decide) ?_
        refine lv_bipush (v := 111) hx hb dX12_readsWord_63 (by decide) ?_
        refine lv_bipush (v := 112) hx hb dX12_readsWord_65 (by decide) ?_
        refine lv_bipush (v := 121) hx hb dX12_readsWord_67 (by decide) ?_
        obtain ⟨xq20, hfq21, h⟩ := obd h
        refine va_calli (va_runV (As := [.int 99, .int 111, .int 112, .int 121]) (rest := []) ⟨hx, hb, hml, hown, hts⟩ (kX12_isWord l D G _ 99 111 112 121 xq20 hfq21) (cwV 4 hts (lwW_gV mw_1269 mw_1271 ms_50 mw_14 mw_1272) rfl rfl rfl (by decide +kernel) ⟨Nat.le_of_ble_eq_true rfl, Nat.le_of_ble_eq_true rfl⟩) ⟨fun a U g mk q => ⟨q.1, mPre_call q.2⟩, va_recv hK hP rfl (mg_2 rfl), fun U hU hW => ⟨rfl, mPre_at h0 hS hP hU hW⟩⟩ rfl rfl hl.1 rfl (lv_room (Nat.le_of_ble_eq_true rfl)) dX12_readsWord_69 ⟨Nat.zero_le _, Nat.zero_le _⟩) hS (fun q _ h => h) (fun q h => h) (fun r u t H1 locs ht hvm hw hB hz1 hq1 hS => ?_)
        obtain ⟨rfl, rfl⟩ := hw
        have hP := hB.1
        rw [ht] at hP
        refine W.widen (k := 0) (n := 0) (Nat.le_refl _) (Nat.le_refl _) ?_
        refine lv_if_eq (tgt := 79) hx hb dX12_readsWord_72 (by decide) (fun hcq22 => ?_) (fun hcq22 => ?_)
        · have h := ifp hcq22 h
          refine lv_iconst (v := (-1)) hx hb dX12_readsWord_79 (by decide) ?_
          exact J80 (-1) _ _ _ _ h hP hS (lv_sub hl [0] rfl)
        have h := ifn hcq22 h
        refine lv_iconst (v := 3) hx hb dX12_readsWord_75 (by decide) ?_
        refine lv_goto (tgt := 80) hx hb dX12_readsWord_76 (by decide) ?_
        exact J80 3 _ _ _ _ h hP hS (lv_sub hl [0] rfl)
      have h := ifn hcq19 h
      refine lv_iconst (v := 2) hx hb dX12_readsWord_56 (by decide) ?_
      refine lv_goto (tgt := 80) hx hb dX12_readsWord_57 (by decide) ?_
      exact J80 2 _ _ _ _ h hP hS (lv_sub hl [0] rfl)
    have h := ifn hcq16 h
    refine lv_iconst (v := 1) hx hb dX12_readsWord_37 (by decide) ?_
    refine lv_goto (tgt := 80) hx hb dX12_readsWord_38 (by decide) ?_
    exact J80 1 _ _ _ _ h hP hS (lv_sub hl [0] rfl)
  have h := ifn hcq13 h
  refine lv_iconst (v := 0) hx hb dX12_readsWord_19 (by decide) ?_
  refine lv_goto (tgt := 80) hx hb dX12_readsWord_20 (by decide) ?_
  exact J80 0 _ _ _ _ h hP hS (lv_sub hl [0] rfl)
def fX12_figures_J72 (p1 : Int32)  (τ : QMem) : Option (Int32 × QMem) :=
  some ((-1), ms τ 28 28 1)
def fX12_figures_J50 (p1 : Int32) (K9 : Int32 → Int32 → QMem → Option (Int32 × QMem)) (v3 : Int32) (s0 : Int32) (τ : QMem) : Option (Int32 × QMem) :=
  K9 s0 (v3 + 1) τ
def fX12_figures_L9 (p1 : Int32) : Nat → Int32 → Int32 → QMem → Option (Int32 × QMem)
  | 0, _, _, _ => none
  | n + 1, v2, v3, τ =>
  (fX12_isFigure ((τ 28 27) + v3) τ).bind fun xq1 => (if xq1.1 = 0 then (if v3 < 1 then (fX12_figures_J72 p1 xq1.2) else (if 2 < v3 then (fX12_figures_J72 p1 xq1.2) else (if v2 ≤ p1 then (some (v2, ms xq1.2 28 27 ((xq1.2 28 27) + v3))) else (fX12_figures_J72 p1 xq1.2)))) else (if 2 ≤ v3 then (fX12_figures_J50 p1 (fX12_figures_L9 p1 n) v3 v2 xq1.2) else (if ((xq1.2 28 27) + v3 < 0 ∨ ml 23 ≤ ((xq1.2 28 27) + v3).toNatClampNeg) then none else (fX12_figures_J50 p1 (fX12_figures_L9 p1 n) v3 (((10 * v2) + (xq1.2 23 ((xq1.2 28 27) + v3).toNatClampNeg)) - 48) xq1.2))))
def fX12_figures (p1 : Int32) (σ : QMem) : Option (Int32 × QMem) :=
  (fX12_looks σ).bind fun xq9 => (fX12_figures_L9 p1 FU 0 0 xq9.2)
set_option maxHeartbeats 4000000 in
set_option maxRecDepth 100000 in
theorem kX12_figures (l : Launch) (D : va_G) (G : xG) (σ : QMem) (p1 : Int32) (res : Int32 × QMem) (h : fX12_figures p1 σ = some res) : Met l yX12_figures (.code yX12_figures cX12_figures 4 (some .int) :: lwW) (rmD 2) (mPc D G σ [.ref (G.1 28), .int p1]) (mQi D G res) 0 0 (mA G) := by
  refine Met.ofW (cc := cX12_figures) (maxL := 4) (ret := (some .int)) (by decide) rfl ?_
  intro p e s m args below meth c s₁ B hml hv
  obtain ⟨rfl, h0⟩ := hv
  have hx := B.exec
  have hb := B.bytes
  have hr := B.returns
  have hts := fun (w : Cond) (hw : w ∈ lwW) => atoms_spec (ws := (.code yX12_figures cX12_figures 4 (some .int) :: lwW)) B.pre w (List.mem_cons_of_mem _ hw)
  have hown : s.vm.findClass RX12 = some m.cls := findClass_of_methodNamed B.named
  have hlocks := B.notSynchronized
  have hP := h0.1
  have hK := h0.2.1
  have hi := h0.2.2
  have hS : va_S (mA G) s.heap s.heap [] := va_S.rf
  have hl := lv_entry ([.ref (G.1 28), .int p1]) (n := 4) (Nat.le_of_ble_eq_true rfl)
  rw [lg_entry_eq]
  generalize (lg_sl ([.ref (G.1 28), .int p1]) ++ List.replicate (4 - (lg_sl ([.ref (G.1 28), .int p1])).length) Slot.unset).toArray = ls at hl ⊢
  have hl : lv_has ls 4 [(0, .ref (G.1 28)), (1, .int p1)] := hl
  unfold fX12_figures at h
  have J72 : ∀ (τ : QMem) (H : Heap) (locs : List Loc) (ls : Array Slot), fX12_figures_J72 p1 τ = some res → va_P D vwCl (mW G τ) H → va_S (mA G) s.heap H locs → lv_has ls 4 [(0, .ref (G.1 28))] → W p l e (headSpec (.code yX12_figures cX12_figures 4 (some .int) :: lwW) (rmD 2)).room s m ([.ref (G.1 28), .int p1] : List Value).toArray below meth c H locs 0 0 (MQ below (mQi D G res) ([.ref (G.1 28), .int p1] : List Value).toArray s 0 0 (mA G)) (F0 m 72 ls []) := by
    intro τ H locs ls h hP hS hl
    unfold fX12_figures_J72 at h
    refine lv_aload_n hx hb dX12_figures_72 rfl (lv_at hl 0 rfl) ?_
    refine lv_iconst (v := 1) hx hb dX12_figures_73 (by decide) ?_
    refine va_put (D := D) (ci := 12) (v := .int 1) (ty := .boolean) (C := RX12) (T := TX12) (N := 34) hx hb hts iwX12 tyX12 tyX12_ok nmX12 hown hK hP (mD hi) hS 28 (mg_2 rfl) rfl 28 (by decide) (hts _ mw_986) (fun _ h9 => h9) rfl (by decide +kernel) rfl rfl (Nat.le_of_ble_eq_true rfl) dX12_figures_74 (fun H locs hP hD hS => ?_)
    have hP : va_P D vwCl (mW G (ms τ 28 28 1)) H := by rw [← ms_2_28 rfl]; exact hP
    refine lv_iconst (v := (-1)) hx hb dX12_figures_77 (by decide) ?_
    obtain rfl := Option.some.inj h
    exact W.iret (v := (-1)) hx hb hr (fun t ht hW => ⟨⟨_, _, rfl, ⟨rfl, rfl⟩, mPre_at h0 hS hP ht hW⟩, hS.F ht⟩) hS.2.2 dX12_figures_78
  have L9 : ∀ (n9 : Nat) (v2 : Int32) (v3 : Int32) (τ : QMem) (H : Heap) (locs : List Loc) (ls : Array Slot), fX12_figures_L9 p1 n9 v2 v3 τ = some res → va_P D vwCl (mW G τ) H → va_S (mA G) s.heap H locs → lv_has ls 4 [(0, .ref (G.1 28)), (1, .int p1), (2, .int v2), (3, .int v3)] → W p l e (headSpec (.code yX12_figures cX12_figures 4 (some .int) :: lwW) (rmD 2)).room s m ([.ref (G.1 28), .int p1] : List Value).toArray below meth c H locs 0 0 (MQ below (mQi D G res) ([.ref (G.1 28), .int p1] : List Value).toArray s 0 0 (mA G)) (F0 m 9 ls []) := by
    intro n9
    induction n9 with
    | zero => intro v2 v3 τ H locs ls h; rw [fX12_figures_L9] at h; cases h
    | succ n9 ih9 =>
      intro v2 v3 τ H locs ls h hP hS hl
      rw [fX12_figures_L9] at h
      have J50 : ∀ (v3 : Int32) (s0 : Int32) (τ : QMem) (H : Heap) (locs : List Loc) (ls : Array Slot), fX12_figures_J50 p1 (fX12_figures_L9 p1 n9) v3 s0 τ = some res → va_P D vwCl (mW G τ) H → va_S (mA G) s.heap H locs → lv_has ls 4 [(0, .ref (G.1 28)), (1, .int p1), (3, .int v3)] → W p l e (headSpec (.code yX12_figures cX12_figures 4 (some .int) :: lwW) (rmD 2)).room s m ([.ref (G.1 28), .int p1] : List Value).toArray below meth c H locs 0 0 (MQ below (mQi D G res) ([.ref (G.1 28), .int p1] : List Value).toArray s 0 0 (mA G)) (F0 m 50 ls [.int s0]) := by
        intro v3 s0 τ H locs ls h hP hS hl
        unfold fX12_figures_J50 at h
        refine lv_istore_n (lv' := [(2, .int s0), (0, .ref (G.1 28)), (1, .int p1), (3, .int v3)]) hx hb dX12_figures_50 rfl hl (by decide) rfl (fun ls hl => ?_)
        refine lv_iinc (v := v3 + 1) (lv' := [(3, .int (v3 + 1)), (2, .int s0), (0, .ref (G.1 28)), (1, .int p1)]) hx hb dX12_figures_51 hl (k := 3) rfl rfl (by decide) rfl (fun ls hl => ?_)
        refine lv_goto (tgt := 9) hx hb dX12_figures_54 (by decide) ?_
        exact ih9 s0 (v3 + 1) _ _ _ _ h hP hS (lv_sub hl [2, 3, 1, 0] rfl)
      refine lv_aload_n hx hb dX12_figures_9 rfl (lv_at hl 0 rfl) ?_
      refine lv_aload_n hx hb dX12_figures_10 rfl (lv_at hl 0 rfl) ?_
      refine va_get (D := D) (ci := 12) (v := .int (τ 28 27)) (C := RX12) (T := TX12) (N := 34) hx hb hts iwX12 hown hK hP 28 (mg_2 rfl) rfl 27 (by decide) (hts _ mw_985) (fun _ h9 => h9) rfl dX12_figures_11 ?_
      refine lv_iload_n hx hb dX12_figures_14 rfl (lv_at hl 3 rfl) ?_
      refine lv_iadd hx hb dX12_figures_15 ?_
      obtain ⟨xq1, hfq2, h⟩ := obd h
      refine va_calli (va_runV (As := [.int ((τ 28 27) + v3)]) (rest := []) ⟨hx, hb, hml, hown, hts⟩ (kX12_isFigure l D G _ ((τ 28 27) + v3) xq1 hfq2) (cwV 1 hts (lwW_gV mw_1285 mw_1287 ms_54 mw_14 mw_1288) rfl rfl rfl (by decide +kernel) ⟨Nat.le_of_ble_eq_true rfl, Nat.le_of_ble_eq_true rfl⟩) ⟨fun a U g mk q => ⟨q.1, mPre_call q.2⟩, va_recv hK hP rfl (mg_2 rfl), fun U hU hW => ⟨rfl, mPre_at h0 hS hP hU hW⟩⟩ rfl rfl hl.1 rfl (lv_room (Nat.le_of_ble_eq_true rfl)) dX12_figures_16 ⟨Nat.zero_le _, Nat.zero_le _⟩) hS (fun q _ h => h) (fun q h => h) (fun r u t H1 locs ht hvm hw hB hz1 hq1 hS => ?_)
      obtain ⟨rfl, rfl⟩ := hw
      have hP := hB.1
      rw [ht] at hP
      refine W.widen (k := 0) (n := 0) (Nat.le_refl _) (Nat.le_refl _) ?_
      refine lv_if_eq (tgt := 57) hx hb dX12_figures_19 (by decide) (fun hcq3 => ?_) (fun hcq3 => ?_)
      · have h := ifp hcq3 h
        refine lv_iload_n hx hb dX12_figures_57 rfl (lv_at hl 3 rfl) ?_
        refine lv_iconst (v := 1) hx hb dX12_figures_58 (by decide) ?_
        refine lv_icmp_lt (tgt := 72) hx hb dX12_figures_59 (by decide) (fun hcq4 => ?_) (fun hcq4 => ?_)
        · have h := ifp hcq4 h
          exact J72 _ _ _ _ h hP hS (lv_sub hl [0] rfl)
        have h := ifn hcq4 h
        refine lv_iload_n hx hb dX12_figures_62 rfl (lv_at hl 3 rfl) ?_
        refine lv_iconst (v := 2) hx hb dX12_figures_63 (by decide) ?_
        refine lv_icmp_gt (tgt := 72) hx hb dX12_figures_64 (by decide) (fun hcq5 => ?_) (fun hcq5 => ?_)
        · have h := ifp hcq5 h
          exact J72 _ _ _ _ h hP hS (lv_sub hl [0] rfl)
        have h := ifn hcq5 h
        refine lv_iload_n hx hb dX12_figures_67 rfl (lv_at hl 2 rfl) ?_
        refine lv_iload_n hx hb dX12_figures_68 rfl (lv_at hl 1 rfl) ?_
        refine lv_icmp_le (tgt := 79) hx hb dX12_figures_69 (by decide) (fun hcq6 => ?_) (fun hcq6 => ?_)
        · have h := ifp hcq6 h
          refine lv_aload_n hx hb dX12_figures_79 rfl (lv_at hl 0 rfl) ?_
          refine lv_dup hx hb dX12_figures_80 rfl ?_
          refine va_get (D := D) (ci := 12) (v := .int (xq1.2 28 27)) (C := RX12) (T := TX12) (N := 34) hx hb hts iwX12 hown hK hP 28 (mg_2 rfl) rfl 27 (by decide) (hts _ mw_985) (fun _ h9 => h9) rfl dX12_figures_81 ?_
          refine lv_iload_n hx hb dX12_figures_84 rfl (lv_at hl 3 rfl) ?_
          refine lv_iadd hx hb dX12_figures_85 ?_
          refine va_put (D := D) (ci := 12) (v := .int ((xq1.2 28 27) + v3)) (ty := .int) (C := RX12) (T := TX12) (N := 34) hx hb hts iwX12 tyX12 tyX12_ok nmX12 hown hK hP (mD hi) hS 28 (mg_2 rfl) rfl 27 (by decide) (hts _ mw_985) (fun _ h9 => h9) rfl (by decide +kernel) rfl rfl (Nat.le_of_ble_eq_true rfl) dX12_figures_86 (fun H locs hP hD hS => ?_)
          have hP : va_P D vwCl (mW G (ms xq1.2 28 27 ((xq1.2 28 27) + v3))) H := by rw [← ms_2_27 rfl]; exact hP
          refine lv_iload_n hx hb dX12_figures_89 rfl (lv_at hl 2 rfl) ?_
          obtain rfl := Option.some.inj h
          exact W.iret (v := v2) hx hb hr (fun t ht hW => ⟨⟨_, _, rfl, ⟨rfl, rfl⟩, mPre_at h0 hS hP ht hW⟩, hS.F ht⟩) hS.2.2 dX12_figures_90
        have h := ifn hcq6 h
        exact J72 _ _ _ _ h hP hS (lv_sub hl [0] rfl)
      have h := ifn hcq3 h
      refine lv_iload_n hx hb dX12_figures_22 rfl (lv_at hl 3 rfl) ?_
      refine lv_iconst (v := 2) hx hb dX12_figures_23 (by decide) ?_
      refine lv_icmp_ge (tgt := 49) hx hb dX12_figures_24 (by decide) (fun hcq7 => ?_) (fun hcq7 => ?_)
      · have h := ifp hcq7 h
        refine lv_iload_n hx hb dX12_figures_49 rfl (lv_at hl 2 rfl) ?_
        exact J50 v3 v2 _ _ _ _ h hP hS (lv_sub hl [0, 1, 3] rfl)
      have h := ifn hcq7 h
      refine lv_bipush (v := 10) hx hb dX12_figures_27 (by decide) ?_
      refine lv_iload_n hx hb dX12_figures_29 rfl (lv_at hl 2 rfl) ?_
      refine lv_imul hx hb dX12_figures_30 ?_
      refine lv_aload_n hx hb dX12_figures_31 rfl (lv_at hl 0 rfl) ?_
      refine va_get (D := D) (ci := 12) (v := .ref (G.1 23)) (C := RX12) (T := TX12) (N := 34) hx hb hts iwX12 hown hK hP 28 (mg_2 rfl) rfl 25 (by decide) (hts _ mw_983) (fun _ h9 => h9) rfl dX12_figures_32 ?_
      refine lv_aload_n hx hb dX12_figures_35 rfl (lv_at hl 0 rfl) ?_
      refine va_get (D := D) (ci := 12) (v := .int (xq1.2 28 27)) (C := RX12) (T := TX12) (N := 34) hx hb hts iwX12 hown hK hP 28 (mg_2 rfl) rfl 27 (by decide) (hts _ mw_985) (fun _ h9 => h9) rfl dX12_figures_36 ?_
      refine lv_iload_n hx hb dX12_figures_39 rfl (lv_at hl 3 rfl) ?_
      refine lv_iadd hx hb dX12_figures_40 ?_
      obtain ⟨hiq8, h⟩ := nif h
      refine va_iald hx hb hK hP 23 0 (mg_0 rfl) rfl hiq8 dX12_figures_41 ?_
      refine lv_iadd hx hb dX12_figures_42 ?_
      refine lv_bipush (v := 48) hx hb dX12_figures_43 (by decide) ?_
      refine lv_isub hx hb dX12_figures_45 ?_
      refine lv_goto (tgt := 50) hx hb dX12_figures_46 (by decide) ?_
      exact J50 v3 (((10 * v2) + (xq1.2 23 ((xq1.2 28 27) + v3).toNatClampNeg)) - 48) _ _ _ _ h hP hS (lv_sub hl [0, 1, 3] rfl)
  refine lv_aload_n hx hb dX12_figures_0 rfl (lv_at hl 0 rfl) ?_
  obtain ⟨xq9, hfq10, h⟩ := obd h
  refine va_calli (va_runV (As := []) (rest := []) ⟨hx, hb, hml, hown, hts⟩ (kX12_looks l D G _ xq9 hfq10) (cwV 0 hts (lwW_gV mw_1265 mw_1267 ms_49 mw_14 mw_1268) rfl rfl rfl (by decide +kernel) ⟨Nat.le_of_ble_eq_true rfl, Nat.le_of_ble_eq_true rfl⟩) ⟨fun a U g mk q => ⟨q.1, mPre_call q.2⟩, va_recv hK hP rfl (mg_2 rfl), fun U hU hW => ⟨rfl, mPre_at h0 hS hP hU hW⟩⟩ rfl rfl hl.1 rfl (lv_room (Nat.le_of_ble_eq_true rfl)) dX12_figures_1 ⟨Nat.zero_le _, Nat.zero_le _⟩) hS (fun q _ h => h) (fun q h => h) (fun r u t H1 locs ht hvm hw hB hz1 hq1 hS => ?_)
  obtain ⟨rfl, rfl⟩ := hw
  have hP := hB.1
  rw [ht] at hP
  refine W.widen (k := 0) (n := 0) (Nat.le_refl _) (Nat.le_refl _) ?_
  refine lv_pop hx hb dX12_figures_4 rfl ?_
  refine lv_iconst (v := 0) hx hb dX12_figures_5 (by decide) ?_
  refine lv_istore_n (lv' := [(2, .int 0), (0, .ref (G.1 28)), (1, .int p1)]) hx hb dX12_figures_6 rfl hl (by decide) rfl (fun ls hl => ?_)
  refine lv_iconst (v := 0) hx hb dX12_figures_7 (by decide) ?_
  refine lv_istore_n (lv' := [(3, .int 0), (2, .int 0), (0, .ref (G.1 28)), (1, .int p1)]) hx hb dX12_figures_8 rfl hl (by decide) rfl (fun ls hl => ?_)
  exact L9 FU 0 0 _ _ _ _ h hP hS (lv_sub hl [2, 3, 1, 0] rfl)
def fX12_takes (p1 : Int32) (p2 : Int32) (σ : QMem) : Option (QMem) :=
  if (σ 28 28) = 0 then ((fX12_figures p2 σ).bind fun xq2 => (if (p1 < 0 ∨ ml 25 ≤ p1.toNatClampNeg) then none else (some (ms xq2.2 25 p1.toNatClampNeg xq2.1)))) else (some σ)
set_option maxHeartbeats 4000000 in
set_option maxRecDepth 100000 in
theorem kX12_takes (l : Launch) (D : va_G) (G : xG) (σ : QMem) (p1 : Int32) (p2 : Int32) (res : QMem) (h : fX12_takes p1 p2 σ = some res) : Met l yX12_takes (.code yX12_takes cX12_takes 3 none :: lwW) (rmD 3) (mPc D G σ [.ref (G.1 28), .int p1, .int p2]) (mQv D G res) 0 0 (mA G) := by
  refine Met.ofW (cc := cX12_takes) (maxL := 3) (ret := none) (by decide) rfl ?_
  intro p e s m args below meth c s₁ B hml hv
  obtain ⟨rfl, h0⟩ := hv
  have hx := B.exec
  have hb := B.bytes
  have hr := B.returns
  have hts := fun (w : Cond) (hw : w ∈ lwW) => atoms_spec (ws := (.code yX12_takes cX12_takes 3 none :: lwW)) B.pre w (List.mem_cons_of_mem _ hw)
  have hown : s.vm.findClass RX12 = some m.cls := findClass_of_methodNamed B.named
  have hlocks := B.notSynchronized
  have hP := h0.1
  have hK := h0.2.1
  have hi := h0.2.2
  have hS : va_S (mA G) s.heap s.heap [] := va_S.rf
  have hl := lv_entry ([.ref (G.1 28), .int p1, .int p2]) (n := 3) (Nat.le_of_ble_eq_true rfl)
  rw [lg_entry_eq]
  generalize (lg_sl ([.ref (G.1 28), .int p1, .int p2]) ++ List.replicate (3 - (lg_sl ([.ref (G.1 28), .int p1, .int p2])).length) Slot.unset).toArray = ls at hl ⊢
  have hl : lv_has ls 3 [(0, .ref (G.1 28)), (1, .int p1), (2, .int p2)] := hl
  unfold fX12_takes at h
  refine lv_aload_n hx hb dX12_takes_0 rfl (lv_at hl 0 rfl) ?_
  refine va_get (D := D) (ci := 12) (v := .int (σ 28 28)) (C := RX12) (T := TX12) (N := 34) hx hb hts iwX12 hown hK hP 28 (mg_2 rfl) rfl 28 (by decide) (hts _ mw_986) (fun _ h9 => h9) rfl dX12_takes_1 ?_
  refine lv_if_ne (tgt := 18) hx hb dX12_takes_4 (by decide) (fun hcq1 => ?_) (fun hcq1 => ?_)
  · have h := ifn hcq1 h
    obtain rfl := Option.some.inj h
    exact W.vret hx hb hr (fun t ht hW => ⟨⟨_, rfl, rfl, mPre_at h0 hS hP ht hW⟩, hS.F ht⟩) hS.2.2 dX12_takes_18
  have h := ifp hcq1 h
  refine lv_aload_n hx hb dX12_takes_7 rfl (lv_at hl 0 rfl) ?_
  refine va_get (D := D) (ci := 12) (v := .ref (G.1 25)) (C := RX12) (T := TX12) (N := 34) hx hb hts iwX12 hown hK hP 28 (mg_2 rfl) rfl 30 (by decide) (hts _ mw_988) (fun _ h9 => h9) rfl dX12_takes_8 ?_
  refine lv_iload_n hx hb dX12_takes_11 rfl (lv_at hl 1 rfl) ?_
  refine lv_aload_n hx hb dX12_takes_12 rfl (lv_at hl 0 rfl) ?_
  refine lv_iload_n hx hb dX12_takes_13 rfl (lv_at hl 2 rfl) ?_
  obtain ⟨xq2, hfq3, h⟩ := obd h
  refine va_calli (va_runV (As := [.int p2]) (rest := [.int p1, .ref (G.1 25)]) ⟨hx, hb, hml, hown, hts⟩ (kX12_figures l D G _ p2 xq2 hfq3) (cwV 1 hts (lwW_gV mw_1281 mw_1283 ms_53 mw_14 mw_1284) rfl rfl rfl (by decide +kernel) ⟨Nat.le_of_ble_eq_true rfl, Nat.le_of_ble_eq_true rfl⟩) ⟨fun a U g mk q => ⟨q.1, mPre_call q.2⟩, va_recv hK hP rfl (mg_2 rfl), fun U hU hW => ⟨rfl, mPre_at h0 hS hP hU hW⟩⟩ rfl rfl hl.1 rfl (lv_room (Nat.le_of_ble_eq_true rfl)) dX12_takes_14 ⟨Nat.zero_le _, Nat.zero_le _⟩) hS (fun q _ h => h) (fun q h => h) (fun r u t H1 locs ht hvm hw hB hz1 hq1 hS => ?_)
  obtain ⟨rfl, rfl⟩ := hw
  have hP := hB.1
  rw [ht] at hP
  refine W.widen (k := 0) (n := 0) (Nat.le_refl _) (Nat.le_refl _) ?_
  obtain ⟨hiq4, h⟩ := nif h
  refine va_iast hx hb hK hP (mD hi) hS 25 0 (mg_0 rfl) rfl hiq4 dX12_takes_17 (fun H locs hP hD hS => ?_)
  have hP : va_P D vwCl (mW G (ms xq2.2 25 p1.toNatClampNeg xq2.1)) H := by rw [← ms_0x rfl]; exact hP
  obtain rfl := Option.some.inj h
  exact W.vret hx hb hr (fun t ht hW => ⟨⟨_, rfl, rfl, mPre_at h0 hS hP ht hW⟩, hS.F ht⟩) hS.2.2 dX12_takes_18
def fX12_takesPart_J126 (p1 : Int32) (p2 : Int32) (v4 : Int32) (s0 : Int32) (τ : QMem) : Option (QMem) :=
  if s0 = 0 then (some (ms (ms τ 28 28 1) 28 27 v4)) else (some τ)
def fX12_takesPart_J125 (p1 : Int32) (p2 : Int32) (v4 : Int32) (τ : QMem) : Option (QMem) :=
  fX12_takesPart_J126 p1 p2 v4 0 τ
def fX12_takesPart_J121 (p1 : Int32) (p2 : Int32) (v4 : Int32) (τ : QMem) : Option (QMem) :=
  fX12_takesPart_J126 p1 p2 v4 1 τ
def fX12_takesPart_J87 (p1 : Int32) (p2 : Int32) (v4 : Int32) (v5 : Int32) (s0 : Nat) (s1 : Int32) (s2 : Int32) (τ : QMem) : Option (QMem) :=
  if (s1 < 0 ∨ ml s0 ≤ s1.toNatClampNeg) then none else (if (p1 < 0 ∨ ml 25 ≤ p1.toNatClampNeg) then none else (if ((v5 - ((ms τ s0 s1.toNatClampNeg s2) 25 p1.toNatClampNeg)) - (v5 - ((ms τ s0 s1.toNatClampNeg s2) 25 p1.toNatClampNeg)) / 2 * 2) = 0 then (if p2 < 3 then (fX12_takesPart_J121 p1 p2 v4 (ms τ s0 s1.toNatClampNeg s2)) else ((fX12_normOf 25 p1 (ms τ s0 s1.toNatClampNeg s2)).bind fun xq7 => (if 150 < xq7.1 then (fX12_takesPart_J125 p1 p2 v4 xq7.2) else (fX12_takesPart_J121 p1 p2 v4 xq7.2)))) else (fX12_takesPart_J125 p1 p2 v4 (ms τ s0 s1.toNatClampNeg s2))))
def fX12_takesPart_J37 (p1 : Int32) (p2 : Int32) (v3 : Int32) (s1 : Int32) (s2 : Int32) (τ : QMem) : Option (QMem) :=
  (fX12_looks (ms τ 28 27 (s1 + s2))).bind fun xq17 => ((fX12_figures 24 xq17.2).bind fun xq19 => (if (xq19.2 28 28) = 0 then (if v3 = 0 then (fX12_takesPart_J87 p1 p2 (xq17.2 28 27) xq19.1 25 (p1 + p2) xq19.1 xq19.2) else (fX12_takesPart_J87 p1 p2 (xq17.2 28 27) xq19.1 25 (p1 + p2) (-xq19.1) xq19.2)) else (some xq19.2)))
def fX12_takesPart_J22 (p1 : Int32) (p2 : Int32) (s0 : Int32) (τ : QMem) : Option (QMem) :=
  if s0 = 0 then (fX12_takesPart_J37 p1 p2 s0 (τ 28 27) 0 τ) else (fX12_takesPart_J37 p1 p2 s0 (τ 28 27) 1 τ)
def fX12_takesPart (p1 : Int32) (p2 : Int32) (σ : QMem) : Option (QMem) :=
  if (σ 28 28) = 0 then ((fX12_looks σ).bind fun xq32 => (if xq32.1 = 45 then (fX12_takesPart_J22 p1 p2 1 xq32.2) else (fX12_takesPart_J22 p1 p2 0 xq32.2))) else (some σ)
set_option maxHeartbeats 4000000 in
set_option maxRecDepth 100000 in
theorem kX12_takesPart (l : Launch) (D : va_G) (G : xG) (σ : QMem) (p1 : Int32) (p2 : Int32) (res : QMem) (h : fX12_takesPart p1 p2 σ = some res) : Met l yX12_takesPart (.code yX12_takesPart cX12_takesPart 7 none :: lwW) (rmD 3) (mPc D G σ [.ref (G.1 28), .int p1, .int p2]) (mQv D G res) 0 0 (mA G) := by
  refine Met.ofW (cc := cX12_takesPart) (maxL := 7) (ret := none) (by decide) rfl ?_
  intro p e s m args below meth c s₁ B hml hv
  obtain ⟨rfl, h0⟩ := hv
  have hx := B.exec
  have hb := B.bytes
  have hr := B.returns
  have hts := fun (w : Cond) (hw : w ∈ lwW) => atoms_spec (ws := (.code yX12_takesPart cX12_takesPart 7 none :: lwW)) B.pre w (List.mem_cons_of_mem _ hw)
  have hown : s.vm.findClass RX12 = some m.cls := findClass_of_methodNamed B.named
  have hlocks := B.notSynchronized
  have hP := h0.1
  have hK := h0.2.1
  have hi := h0.2.2
  have hS : va_S (mA G) s.heap s.heap [] := va_S.rf
  have hl := lv_entry ([.ref (G.1 28), .int p1, .int p2]) (n := 7) (Nat.le_of_ble_eq_true rfl)
  rw [lg_entry_eq]
  generalize (lg_sl ([.ref (G.1 28), .int p1, .int p2]) ++ List.replicate (7 - (lg_sl ([.ref (G.1 28), .int p1, .int p2])).length) Slot.unset).toArray = ls at hl ⊢
  have hl : lv_has ls 7 [(0, .ref (G.1 28)), (1, .int p1), (2, .int p2)] := hl
  unfold fX12_takesPart at h
  have J126 : ∀ (v4 : Int32) (s0 : Int32) (τ : QMem) (H : Heap) (locs : List Loc) (ls : Array Slot), fX12_takesPart_J126 p1 p2 v4 s0 τ = some res → va_P D vwCl (mW G τ) H → va_S (mA G) s.heap H locs → lv_has ls 7 [(0, .ref (G.1 28)), (4, .int v4)] → W p l e (headSpec (.code yX12_takesPart cX12_takesPart 7 none :: lwW) (rmD 3)).room s m ([.ref (G.1 28), .int p1, .int p2] : List Value).toArray below meth c H locs 0 0 (MQ below (mQv D G res) ([.ref (G.1 28), .int p1, .int p2] : List Value).toArray s 0 0 (mA G)) (F0 m 126 ls [.int s0]) := by
    intro v4 s0 τ H locs ls h hP hS hl
    unfold fX12_takesPart_J126 at h
    refine lv_istore (lv' := [(6, .int s0), (0, .ref (G.1 28)), (4, .int v4)]) hx hb dX12_takesPart_126 hl (by decide) rfl (fun ls hl => ?_)
    refine lv_iload hx hb dX12_takesPart_128 (lv_at hl 0 rfl) ?_
    refine lv_if_ne (tgt := 144) hx hb dX12_takesPart_130 (by decide) (fun hcq2 => ?_) (fun hcq2 => ?_)
    · have h := ifn hcq2 h
      obtain rfl := Option.some.inj h
      exact W.vret hx hb hr (fun t ht hW => ⟨⟨_, rfl, rfl, mPre_at h0 hS hP ht hW⟩, hS.F ht⟩) hS.2.2 dX12_takesPart_144
    have h := ifp hcq2 h
    refine lv_aload_n hx hb dX12_takesPart_133 rfl (lv_at hl 1 rfl) ?_
    refine lv_iconst (v := 1) hx hb dX12_takesPart_134 (by decide) ?_
    refine va_put (D := D) (ci := 12) (v := .int 1) (ty := .boolean) (C := RX12) (T := TX12) (N := 34) hx hb hts iwX12 tyX12 tyX12_ok nmX12 hown hK hP (mD hi) hS 28 (mg_2 rfl) rfl 28 (by decide) (hts _ mw_986) (fun _ h9 => h9) rfl (by decide +kernel) rfl rfl (Nat.le_of_ble_eq_true rfl) dX12_takesPart_135 (fun H locs hP hD hS => ?_)
    have hP : va_P D vwCl (mW G (ms τ 28 28 1)) H := by rw [← ms_2_28 rfl]; exact hP
    refine lv_aload_n hx hb dX12_takesPart_138 rfl (lv_at hl 1 rfl) ?_
    refine lv_iload hx hb dX12_takesPart_139 (lv_at hl 2 rfl) ?_
    refine va_put (D := D) (ci := 12) (v := .int v4) (ty := .int) (C := RX12) (T := TX12) (N := 34) hx hb hts iwX12 tyX12 tyX12_ok nmX12 hown hK hP (mD hi) hS 28 (mg_2 rfl) rfl 27 (by decide) (hts _ mw_985) (fun _ h9 => h9) rfl (by decide +kernel) rfl rfl (Nat.le_of_ble_eq_true rfl) dX12_takesPart_141 (fun H locs hP hD hS => ?_)
    have hP : va_P D vwCl (mW G (ms (ms τ 28 28 1) 28 27 v4)) H := by rw [← ms_2_27 rfl]; exact hP
    obtain rfl := Option.some.inj h
    exact W.vret hx hb hr (fun t ht hW => ⟨⟨_, rfl, rfl, mPre_at h0 hS hP ht hW⟩, hS.F ht⟩) hS.2.2 dX12_takesPart_144
  have J125 : ∀ (v4 : Int32) (τ : QMem) (H : Heap) (locs : List Loc) (ls : Array Slot), fX12_takesPart_J125 p1 p2 v4 τ = some res → va_P D vwCl (mW G τ) H → va_S (mA G) s.heap H locs → lv_has ls 7 [(0, .ref (G.1 28)), (4, .int v4)] → W p l e (headSpec (.code yX12_takesPart cX12_takesPart 7 none :: lwW) (rmD 3)).room s m ([.ref (G.1 28), .int p1, .int p2] : List Value).toArray below meth c H locs 0 0 (MQ below (mQv D G res) ([.ref (G.1 28), .int p1, .int p2] : List Value).toArray s 0 0 (mA G)) (F0 m 125 ls []) := by
    intro v4 τ H locs ls h hP hS hl
    unfold fX12_takesPart_J125 at h
    refine lv_iconst (v := 0) hx hb dX12_takesPart_125 (by decide) ?_
    exact J126 v4 0 _ _ _ _ h hP hS (lv_sub hl [0, 1] rfl)
  have J121 : ∀ (v4 : Int32) (τ : QMem) (H : Heap) (locs : List Loc) (ls : Array Slot), fX12_takesPart_J121 p1 p2 v4 τ = some res → va_P D vwCl (mW G τ) H → va_S (mA G) s.heap H locs → lv_has ls 7 [(0, .ref (G.1 28)), (4, .int v4)] → W p l e (headSpec (.code yX12_takesPart cX12_takesPart 7 none :: lwW) (rmD 3)).room s m ([.ref (G.1 28), .int p1, .int p2] : List Value).toArray below meth c H locs 0 0 (MQ below (mQv D G res) ([.ref (G.1 28), .int p1, .int p2] : List Value).toArray s 0 0 (mA G)) (F0 m 121 ls []) := by
    intro v4 τ H locs ls h hP hS hl
    unfold fX12_takesPart_J121 at h
    refine lv_iconst (v := 1) hx hb dX12_takesPart_121 (by decide) ?_
    refine lv_goto (tgt := 126) hx hb dX12_takesPart_122 (by decide) ?_
    exact J126 v4 1 _ _ _ _ h hP hS (lv_sub hl [0, 1] rfl)
  have J87 : ∀ (v4 : Int32) (v5 : Int32) (s0 : Nat) (hs0 : mk s0 = 0) (s1 : Int32) (s2 : Int32) (τ : QMem) (H : Heap) (locs : List Loc) (ls : Array Slot), fX12_takesPart_J87 p1 p2 v4 v5 s0 s1 s2 τ = some res → va_P D vwCl (mW G τ) H → va_S (mA G) s.heap H locs → lv_has ls 7 [(0, .ref (G.1 28)), (1, .int p1), (2, .int p2), (4, .int v4), (5, .int v5)] → W p l e (headSpec (.code yX12_takesPart cX12_takesPart 7 none :: lwW) (rmD 3)).room s m ([.ref (G.1 28), .int p1, .int p2] : List Value).toArray below meth c H locs 0 0 (MQ below (mQv D G res) ([.ref (G.1 28), .int p1, .int p2] : List Value).toArray s 0 0 (mA G)) (F0 m 87 ls [.int s2, .int s1, .ref (G.1 s0)]) := by
    intro v4 v5 s0 hs0 s1 s2 τ H locs ls h hP hS hl
    unfold fX12_takesPart_J87 at h
    obtain ⟨hiq10, h⟩ := nif h
    refine va_iast hx hb hK hP (mD hi) hS s0 0 (mg_0 hs0) rfl hiq10 dX12_takesPart_87 (fun H locs hP hD hS => ?_)
    have hP : va_P D vwCl (mW G (ms τ s0 s1.toNatClampNeg s2)) H := by rw [← ms_0x hs0]; exact hP
    refine lv_iload hx hb dX12_takesPart_88 (lv_at hl 4 rfl) ?_
    refine lv_aload_n hx hb dX12_takesPart_90 rfl (lv_at hl 0 rfl) ?_
    refine va_get (D := D) (ci := 12) (v := .ref (G.1 25)) (C := RX12) (T := TX12) (N := 34) hx hb hts iwX12 hown hK hP 28 (mg_2 rfl) rfl 30 (by decide) (hts _ mw_988) (fun _ h9 => h9) rfl dX12_takesPart_91 ?_
    refine lv_iload_n hx hb dX12_takesPart_94 rfl (lv_at hl 1 rfl) ?_
    obtain ⟨hiq11, h⟩ := nif h
    refine va_iald hx hb hK hP 25 0 (mg_0 rfl) rfl hiq11 dX12_takesPart_95 ?_
    refine lv_isub hx hb dX12_takesPart_96 ?_
    refine lv_iconst (v := 2) hx hb dX12_takesPart_97 (by decide) ?_
    refine lv_irem hx hb dX12_takesPart_98 (by decide) ?_
    refine lv_if_ne (tgt := 125) hx hb dX12_takesPart_99 (by decide) (fun hcq12 => ?_) (fun hcq12 => ?_)
    · have h := ifn hcq12 h
      exact J125 v4 _ _ _ _ h hP hS (lv_sub hl [0, 3] rfl)
    have h := ifp hcq12 h
    refine lv_iload_n hx hb dX12_takesPart_102 rfl (lv_at hl 2 rfl) ?_
    refine lv_iconst (v := 3) hx hb dX12_takesPart_103 (by decide) ?_
    refine lv_icmp_lt (tgt := 121) hx hb dX12_takesPart_104 (by decide) (fun hcq13 => ?_) (fun hcq13 => ?_)
    · have h := ifp hcq13 h
      exact J121 v4 _ _ _ _ h hP hS (lv_sub hl [0, 3] rfl)
    have h := ifn hcq13 h
    refine lv_aload_n hx hb dX12_takesPart_107 rfl (lv_at hl 0 rfl) ?_
    refine va_get (D := D) (ci := 12) (v := .ref (G.1 25)) (C := RX12) (T := TX12) (N := 34) hx hb hts iwX12 hown hK hP 28 (mg_2 rfl) rfl 30 (by decide) (hts _ mw_988) (fun _ h9 => h9) rfl dX12_takesPart_108 ?_
    refine lv_iload_n hx hb dX12_takesPart_111 rfl (lv_at hl 1 rfl) ?_
    obtain ⟨xq14, hfq15, h⟩ := obd h
    refine va_calli (va_runS (As := [.ref (G.1 25), .int p1]) (rest := []) ⟨hx, hb, hml, hown, hts⟩ (kX12_normOf l D G _ 25 rfl p1 xq14 hfq15) (va_cwS 2 hts (lwW_gS mw_936 mw_937 mw_14 mw_938) rfl rfl rfl (by decide +kernel) ⟨Nat.le_of_ble_eq_true rfl, Nat.le_of_ble_eq_true rfl⟩) ⟨fun a U g mk q => ⟨q.1, mPre_call q.2⟩, fun U hU hW => ⟨rfl, mPre_at h0 hS hP hU hW⟩⟩ rfl rfl hl.1 rfl (lv_room (Nat.le_of_ble_eq_true rfl)) dX12_takesPart_112 ⟨Nat.zero_le _, Nat.zero_le _⟩) hS (fun q _ h => h) (fun q h => h) (fun r u t H1 locs ht hvm hw hB hz1 hq1 hS => ?_)
    obtain ⟨rfl, rfl⟩ := hw
    have hP := hB.1
    rw [ht] at hP
    refine W.widen (k := 0) (n := 0) (Nat.le_refl _) (Nat.le_refl _) ?_
    refine lv_sipush (v := 150) hx hb dX12_takesPart_115 (by decide) ?_
    refine lv_icmp_gt (tgt := 125) hx hb dX12_takesPart_118 (by decide) (fun hcq16 => ?_) (fun hcq16 => ?_)
    · have h := ifp hcq16 h
      exact J125 v4 _ _ _ _ h hP hS (lv_sub hl [0, 3] rfl)
    have h := ifn hcq16 h
    exact J121 v4 _ _ _ _ h hP hS (lv_sub hl [0, 3] rfl)
  have J37 : ∀ (v3 : Int32) (s1 : Int32) (s2 : Int32) (τ : QMem) (H : Heap) (locs : List Loc) (ls : Array Slot), fX12_takesPart_J37 p1 p2 v3 s1 s2 τ = some res → va_P D vwCl (mW G τ) H → va_S (mA G) s.heap H locs → lv_has ls 7 [(0, .ref (G.1 28)), (1, .int p1), (2, .int p2), (3, .int v3)] → W p l e (headSpec (.code yX12_takesPart cX12_takesPart 7 none :: lwW) (rmD 3)).room s m ([.ref (G.1 28), .int p1, .int p2] : List Value).toArray below meth c H locs 0 0 (MQ below (mQv D G res) ([.ref (G.1 28), .int p1, .int p2] : List Value).toArray s 0 0 (mA G)) (F0 m 37 ls [.int s2, .int s1, .ref (G.1 28)]) := by
    intro v3 s1 s2 τ H locs ls h hP hS hl
    unfold fX12_takesPart_J37 at h
    refine lv_iadd hx hb dX12_takesPart_37 ?_
    refine va_put (D := D) (ci := 12) (v := .int (s1 + s2)) (ty := .int) (C := RX12) (T := TX12) (N := 34) hx hb hts iwX12 tyX12 tyX12_ok nmX12 hown hK hP (mD hi) hS 28 (mg_2 rfl) rfl 27 (by decide) (hts _ mw_985) (fun _ h9 => h9) rfl (by decide +kernel) rfl rfl (Nat.le_of_ble_eq_true rfl) dX12_takesPart_38 (fun H locs hP hD hS => ?_)
    have hP : va_P D vwCl (mW G (ms τ 28 27 (s1 + s2))) H := by rw [← ms_2_27 rfl]; exact hP
    refine lv_aload_n hx hb dX12_takesPart_41 rfl (lv_at hl 0 rfl) ?_
    obtain ⟨xq23, hfq24, h⟩ := obd h
    refine va_calli (va_runV (As := []) (rest := []) ⟨hx, hb, hml, hown, hts⟩ (kX12_looks l D G _ xq23 hfq24) (cwV 0 hts (lwW_gV mw_1265 mw_1267 ms_49 mw_14 mw_1268) rfl rfl rfl (by decide +kernel) ⟨Nat.le_of_ble_eq_true rfl, Nat.le_of_ble_eq_true rfl⟩) ⟨fun a U g mk q => ⟨q.1, mPre_call q.2⟩, va_recv hK hP rfl (mg_2 rfl), fun U hU hW => ⟨rfl, mPre_at h0 hS hP hU hW⟩⟩ rfl rfl hl.1 rfl (lv_room (Nat.le_of_ble_eq_true rfl)) dX12_takesPart_42 ⟨Nat.zero_le _, Nat.zero_le _⟩) hS (fun q _ h => h) (fun q h => h) (fun r u t H1 locs ht hvm hw hB hz1 hq1 hS => ?_)
    obtain ⟨rfl, rfl⟩ := hw
    have hP := hB.1
    rw [ht] at hP
    refine W.widen (k := 0) (n := 0) (Nat.le_refl _) (Nat.le_refl _) ?_
    refine lv_pop hx hb dX12_takesPart_45 rfl ?_
    refine lv_aload_n hx hb dX12_takesPart_46 rfl (lv_at hl 0 rfl) ?_
    refine va_get (D := D) (ci := 12) (v := .int (xq23.2 28 27)) (C := RX12) (T := TX12) (N := 34) hx hb hts iwX12 hown hK hP 28 (mg_2 rfl) rfl 27 (by decide) (hts _ mw_985) (fun _ h9 => h9) rfl dX12_takesPart_47 ?_
    refine lv_istore (lv' := [(4, .int (xq23.2 28 27)), (0, .ref (G.1 28)), (1, .int p1), (2, .int p2), (3, .int v3)]) hx hb dX12_takesPart_50 hl (by decide) rfl (fun ls hl => ?_)
    refine lv_aload_n hx hb dX12_takesPart_52 rfl (lv_at hl 1 rfl) ?_
    refine lv_bipush (v := 24) hx hb dX12_takesPart_53 (by decide) ?_
    obtain ⟨xq25, hfq26, h⟩ := obd h
    refine va_calli (va_runV (As := [.int 24]) (rest := []) ⟨hx, hb, hml, hown, hts⟩ (kX12_figures l D G _ 24 xq25 hfq26) (cwV 1 hts (lwW_gV mw_1281 mw_1283 ms_53 mw_14 mw_1284) rfl rfl rfl (by decide +kernel) ⟨Nat.le_of_ble_eq_true rfl, Nat.le_of_ble_eq_true rfl⟩) ⟨fun a U g mk q => ⟨q.1, mPre_call q.2⟩, va_recv hK hP rfl (mg_2 rfl), fun U hU hW => ⟨rfl, mPre_at h0 hS hP hU hW⟩⟩ rfl rfl hl.1 rfl (lv_room (Nat.le_of_ble_eq_true rfl)) dX12_takesPart_55 ⟨Nat.zero_le _, Nat.zero_le _⟩) hS (fun q _ h => h) (fun q h => h) (fun r u t H1 locs ht hvm hw hB hz1 hq1 hS => ?_)
    obtain ⟨rfl, rfl⟩ := hw
    have hP := hB.1
    rw [ht] at hP
    refine W.widen (k := 0) (n := 0) (Nat.le_refl _) (Nat.le_refl _) ?_
    refine lv_istore (lv' := [(5, .int xq25.1), (4, .int (xq23.2 28 27)), (0, .ref (G.1 28)), (1, .int p1), (2, .int p2), (3, .int v3)]) hx hb dX12_takesPart_58 hl (by decide) rfl (fun ls hl => ?_)
    refine lv_aload_n hx hb dX12_takesPart_60 rfl (lv_at hl 2 rfl) ?_
    refine va_get (D := D) (ci := 12) (v := .int (xq25.2 28 28)) (C := RX12) (T := TX12) (N := 34) hx hb hts iwX12 hown hK hP 28 (mg_2 rfl) rfl 28 (by decide) (hts _ mw_986) (fun _ h9 => h9) rfl dX12_takesPart_61 ?_
    refine lv_if_eq (tgt := 68) hx hb dX12_takesPart_64 (by decide) (fun hcq27 => ?_) (fun hcq27 => ?_)
    · have h := ifp hcq27 h
      refine lv_aload_n hx hb dX12_takesPart_68 rfl (lv_at hl 2 rfl) ?_
      refine va_get (D := D) (ci := 12) (v := .ref (G.1 25)) (C := RX12) (T := TX12) (N := 34) hx hb hts iwX12 hown hK hP 28 (mg_2 rfl) rfl 30 (by decide) (hts _ mw_988) (fun _ h9 => h9) rfl dX12_takesPart_69 ?_
      refine lv_iload_n hx hb dX12_takesPart_72 rfl (lv_at hl 3 rfl) ?_
      refine lv_iload_n hx hb dX12_takesPart_73 rfl (lv_at hl 4 rfl) ?_
      refine lv_iadd hx hb dX12_takesPart_74 ?_
      refine lv_iload_n hx hb dX12_takesPart_75 rfl (lv_at hl 5 rfl) ?_
      refine lv_if_eq (tgt := 85) hx hb dX12_takesPart_76 (by decide) (fun hcq28 => ?_) (fun hcq28 => ?_)
      · have h := ifp hcq28 h
        refine lv_iload hx hb dX12_takesPart_85 (lv_at hl 0 rfl) ?_
        exact J87 (xq23.2 28 27) xq25.1 25 rfl (p1 + p2) xq25.1 _ _ _ _ h hP hS (lv_sub hl [2, 3, 4, 1, 0] rfl)
      have h := ifn hcq28 h
      refine lv_iload hx hb dX12_takesPart_79 (lv_at hl 0 rfl) ?_
      refine lv_ineg hx hb dX12_takesPart_81 ?_
      refine lv_goto (tgt := 87) hx hb dX12_takesPart_82 (by decide) ?_
      exact J87 (xq23.2 28 27) xq25.1 25 rfl (p1 + p2) (-xq25.1) _ _ _ _ h hP hS (lv_sub hl [2, 3, 4, 1, 0] rfl)
    have h := ifn hcq27 h
    obtain rfl := Option.some.inj h
    exact W.vret hx hb hr (fun t ht hW => ⟨⟨_, rfl, rfl, mPre_at h0 hS hP ht hW⟩, hS.F ht⟩) hS.2.2 dX12_takesPart_67
  have J22 : ∀ (s0 : Int32) (τ : QMem) (H : Heap) (locs : List Loc) (ls : Array Slot), fX12_takesPart_J22 p1 p2 s0 τ = some res → va_P D vwCl (mW G τ) H → va_S (mA G) s.heap H locs → lv_has ls 7 [(0, .ref (G.1 28)), (1, .int p1), (2, .int p2)] → W p l e (headSpec (.code yX12_takesPart cX12_takesPart 7 none :: lwW) (rmD 3)).room s m ([.ref (G.1 28), .int p1, .int p2] : List Value).toArray below meth c H locs 0 0 (MQ below (mQv D G res) ([.ref (G.1 28), .int p1, .int p2] : List Value).toArray s 0 0 (mA G)) (F0 m 22 ls [.int s0]) := by
    intro s0 τ H locs ls h hP hS hl
    unfold fX12_takesPart_J22 at h
    refine lv_istore_n (lv' := [(3, .int s0), (0, .ref (G.1 28)), (1, .int p1), (2, .int p2)]) hx hb dX12_takesPart_22 rfl hl (by decide) rfl (fun ls hl => ?_)
    refine lv_aload_n hx hb dX12_takesPart_23 rfl (lv_at hl 1 rfl) ?_
    refine lv_dup hx hb dX12_takesPart_24 rfl ?_
    refine va_get (D := D) (ci := 12) (v := .int (τ 28 27)) (C := RX12) (T := TX12) (N := 34) hx hb hts iwX12 hown hK hP 28 (mg_2 rfl) rfl 27 (by decide) (hts _ mw_985) (fun _ h9 => h9) rfl dX12_takesPart_25 ?_
    refine lv_iload_n hx hb dX12_takesPart_28 rfl (lv_at hl 0 rfl) ?_
    refine lv_if_eq (tgt := 36) hx hb dX12_takesPart_29 (by decide) (fun hcq30 => ?_) (fun hcq30 => ?_)
    · have h := ifp hcq30 h
      refine lv_iconst (v := 0) hx hb dX12_takesPart_36 (by decide) ?_
      exact J37 s0 (τ 28 27) 0 _ _ _ _ h hP hS (lv_sub hl [1, 2, 3, 0] rfl)
    have h := ifn hcq30 h
    refine lv_iconst (v := 1) hx hb dX12_takesPart_32 (by decide) ?_
    refine lv_goto (tgt := 37) hx hb dX12_takesPart_33 (by decide) ?_
    exact J37 s0 (τ 28 27) 1 _ _ _ _ h hP hS (lv_sub hl [1, 2, 3, 0] rfl)
  refine lv_aload_n hx hb dX12_takesPart_0 rfl (lv_at hl 0 rfl) ?_
  refine va_get (D := D) (ci := 12) (v := .int (σ 28 28)) (C := RX12) (T := TX12) (N := 34) hx hb hts iwX12 hown hK hP 28 (mg_2 rfl) rfl 28 (by decide) (hts _ mw_986) (fun _ h9 => h9) rfl dX12_takesPart_1 ?_
  refine lv_if_eq (tgt := 8) hx hb dX12_takesPart_4 (by decide) (fun hcq31 => ?_) (fun hcq31 => ?_)
  · have h := ifp hcq31 h
    refine lv_aload_n hx hb dX12_takesPart_8 rfl (lv_at hl 0 rfl) ?_
    obtain ⟨xq32, hfq33, h⟩ := obd h
    refine va_calli (va_runV (As := []) (rest := []) ⟨hx, hb, hml, hown, hts⟩ (kX12_looks l D G _ xq32 hfq33) (cwV 0 hts (lwW_gV mw_1265 mw_1267 ms_49 mw_14 mw_1268) rfl rfl rfl (by decide +kernel) ⟨Nat.le_of_ble_eq_true rfl, Nat.le_of_ble_eq_true rfl⟩) ⟨fun a U g mk q => ⟨q.1, mPre_call q.2⟩, va_recv hK hP rfl (mg_2 rfl), fun U hU hW => ⟨rfl, mPre_at h0 hS hP hU hW⟩⟩ rfl rfl hl.1 rfl (lv_room (Nat.le_of_ble_eq_true rfl)) dX12_takesPart_9 ⟨Nat.zero_le _, Nat.zero_le _⟩) hS (fun q _ h => h) (fun q h => h) (fun r u t H1 locs ht hvm hw hB hz1 hq1 hS => ?_)
    obtain ⟨rfl, rfl⟩ := hw
    have hP := hB.1
    rw [ht] at hP
    refine W.widen (k := 0) (n := 0) (Nat.le_refl _) (Nat.le_refl _) ?_
    refine lv_bipush (v := 45) hx hb dX12_takesPart_12 (by decide) ?_
    refine lv_icmp_ne (tgt := 21) hx hb dX12_takesPart_14 (by decide) (fun hcq34 => ?_) (fun hcq34 => ?_)
    · have h := ifn hcq34 h
      refine lv_iconst (v := 0) hx hb dX12_takesPart_21 (by decide) ?_
      exact J22 0 _ _ _ _ h hP hS (lv_sub hl [0, 1, 2] rfl)
    have h := ifp hcq34 h
    refine lv_iconst (v := 1) hx hb dX12_takesPart_17 (by decide) ?_
    refine lv_goto (tgt := 22) hx hb dX12_takesPart_18 (by decide) ?_
    exact J22 1 _ _ _ _ h hP hS (lv_sub hl [0, 1, 2] rfl)
  have h := ifn hcq31 h
  obtain rfl := Option.some.inj h
  exact W.vret hx hb hr (fun t ht hW => ⟨⟨_, rfl, rfl, mPre_at h0 hS hP ht hW⟩, hS.F ht⟩) hS.2.2 dX12_takesPart_7
def fX12_readsClause_L68 (p1 : Int32) : Nat → Int32 → Int32 → QMem → Option (QMem)
  | 0, _, _, _ => none
  | n + 1, v2, v3, τ =>
  if 4 ≤ v3 then (some τ) else (if (p1 < 0 ∨ ml 24 ≤ p1.toNatClampNeg) then none else (if (τ 24 p1.toNatClampNeg) = 1 then ((fX12_takesPart (v2 + 1) v3 τ).bind fun xq4 => ((fX12_readsClause_L68 p1 n) v2 (v3 + 1) xq4)) else (some τ)))
def fX12_readsClause_J66 (p1 : Int32) (v2 : Int32) (τ : QMem) : Option (QMem) :=
  fX12_readsClause_L68 p1 FU v2 0 τ
def fX12_readsClause_J48 (p1 : Int32) (v2 : Int32) (τ : QMem) : Option (QMem) :=
  if (p1 < 0 ∨ ml 24 ≤ p1.toNatClampNeg) then none else (if (τ 24 p1.toNatClampNeg) = 3 then ((fX12_takes (v2 + 1) 5 τ).bind fun xq8 => (fX12_readsClause_J66 p1 v2 xq8)) else (fX12_readsClause_J66 p1 v2 τ))
def fX12_readsClause_J29 (p1 : Int32) (v2 : Int32) (τ : QMem) : Option (QMem) :=
  if (p1 < 0 ∨ ml 24 ≤ p1.toNatClampNeg) then none else (if (τ 24 p1.toNatClampNeg) = 2 then ((fX12_takes (v2 + 1) 23 τ).bind fun xq16 => (fX12_readsClause_J48 p1 v2 xq16)) else (fX12_readsClause_J48 p1 v2 τ))
def fX12_readsClause (p1 : Int32) (σ : QMem) : Option (QMem) :=
  (fX12_readsWord σ).bind fun xq22 => (if (p1 < 0 ∨ ml 24 ≤ p1.toNatClampNeg) then none else (if (p1 < 0 ∨ ml 24 ≤ p1.toNatClampNeg) then none else (if ((ms xq22.2 24 p1.toNatClampNeg xq22.1) 24 p1.toNatClampNeg) ≤ 0 then (fX12_readsClause_J29 p1 (5 * p1) (ms xq22.2 24 p1.toNatClampNeg xq22.1)) else ((fX12_takes (5 * p1) 5 (ms xq22.2 24 p1.toNatClampNeg xq22.1)).bind fun xq27 => (fX12_readsClause_J29 p1 (5 * p1) xq27)))))
set_option maxHeartbeats 4000000 in
set_option maxRecDepth 100000 in
theorem kX12_readsClause (l : Launch) (D : va_G) (G : xG) (σ : QMem) (p1 : Int32) (res : QMem) (h : fX12_readsClause p1 σ = some res) : Met l yX12_readsClause (.code yX12_readsClause cX12_readsClause 4 none :: lwW) (rmD 4) (mPc D G σ [.ref (G.1 28), .int p1]) (mQv D G res) 0 0 (mA G) := by
  refine Met.ofW (cc := cX12_readsClause) (maxL := 4) (ret := none) (by decide) rfl ?_
  intro p e s m args below meth c s₁ B hml hv
  obtain ⟨rfl, h0⟩ := hv
  have hx := B.exec
  have hb := B.bytes
  have hr := B.returns
  have hts := fun (w : Cond) (hw : w ∈ lwW) => atoms_spec (ws := (.code yX12_readsClause cX12_readsClause 4 none :: lwW)) B.pre w (List.mem_cons_of_mem _ hw)
  have hown : s.vm.findClass RX12 = some m.cls := findClass_of_methodNamed B.named
  have hlocks := B.notSynchronized
  have hP := h0.1
  have hK := h0.2.1
  have hi := h0.2.2
  have hS : va_S (mA G) s.heap s.heap [] := va_S.rf
  have hl := lv_entry ([.ref (G.1 28), .int p1]) (n := 4) (Nat.le_of_ble_eq_true rfl)
  rw [lg_entry_eq]
  generalize (lg_sl ([.ref (G.1 28), .int p1]) ++ List.replicate (4 - (lg_sl ([.ref (G.1 28), .int p1])).length) Slot.unset).toArray = ls at hl ⊢
  have hl : lv_has ls 4 [(0, .ref (G.1 28)), (1, .int p1)] := hl
  unfold fX12_readsClause at h
  have L68 : ∀ (n68 : Nat) (v2 : Int32) (v3 : Int32) (τ : QMem) (H : Heap) (locs : List Loc) (ls : Array Slot), fX12_readsClause_L68 p1 n68 v2 v3 τ = some res → va_P D vwCl (mW G τ) H → va_S (mA G) s.heap H locs → lv_has ls 4 [(0, .ref (G.1 28)), (1, .int p1), (2, .int v2), (3, .int v3)] → W p l e (headSpec (.code yX12_readsClause cX12_readsClause 4 none :: lwW) (rmD 4)).room s m ([.ref (G.1 28), .int p1] : List Value).toArray below meth c H locs 0 0 (MQ below (mQv D G res) ([.ref (G.1 28), .int p1] : List Value).toArray s 0 0 (mA G)) (F0 m 68 ls []) := by
    intro n68
    induction n68 with
    | zero => intro v2 v3 τ H locs ls h; rw [fX12_readsClause_L68] at h; cases h
    | succ n68 ih68 =>
      intro v2 v3 τ H locs ls h hP hS hl
      rw [fX12_readsClause_L68] at h
      refine lv_iload_n hx hb dX12_readsClause_68 rfl (lv_at hl 3 rfl) ?_
      refine lv_iconst (v := 4) hx hb dX12_readsClause_69 (by decide) ?_
      refine lv_icmp_ge (tgt := 97) hx hb dX12_readsClause_70 (by decide) (fun hcq1 => ?_) (fun hcq1 => ?_)
      · have h := ifp hcq1 h
        obtain rfl := Option.some.inj h
        exact W.vret hx hb hr (fun t ht hW => ⟨⟨_, rfl, rfl, mPre_at h0 hS hP ht hW⟩, hS.F ht⟩) hS.2.2 dX12_readsClause_97
      have h := ifn hcq1 h
      refine lv_aload_n hx hb dX12_readsClause_73 rfl (lv_at hl 0 rfl) ?_
      refine va_get (D := D) (ci := 12) (v := .ref (G.1 24)) (C := RX12) (T := TX12) (N := 34) hx hb hts iwX12 hown hK hP 28 (mg_2 rfl) rfl 29 (by decide) (hts _ mw_987) (fun _ h9 => h9) rfl dX12_readsClause_74 ?_
      refine lv_iload_n hx hb dX12_readsClause_77 rfl (lv_at hl 1 rfl) ?_
      obtain ⟨hiq2, h⟩ := nif h
      refine va_iald hx hb hK hP 24 0 (mg_0 rfl) rfl hiq2 dX12_readsClause_78 ?_
      refine lv_iconst (v := 1) hx hb dX12_readsClause_79 (by decide) ?_
      refine lv_icmp_ne (tgt := 97) hx hb dX12_readsClause_80 (by decide) (fun hcq3 => ?_) (fun hcq3 => ?_)
      · have h := ifn hcq3 h
        obtain rfl := Option.some.inj h
        exact W.vret hx hb hr (fun t ht hW => ⟨⟨_, rfl, rfl, mPre_at h0 hS hP ht hW⟩, hS.F ht⟩) hS.2.2 dX12_readsClause_97
      have h := ifp hcq3 h
      refine lv_aload_n hx hb dX12_readsClause_83 rfl (lv_at hl 0 rfl) ?_
      refine lv_iload_n hx hb dX12_readsClause_84 rfl (lv_at hl 2 rfl) ?_
      refine lv_iconst (v := 1) hx hb dX12_readsClause_85 (by decide) ?_
      refine lv_iadd hx hb dX12_readsClause_86 ?_
      refine lv_iload_n hx hb dX12_readsClause_87 rfl (lv_at hl 3 rfl) ?_
      obtain ⟨xq4, hfq5, h⟩ := obd h
      refine va_callv (va_runV (As := [.int (v2 + 1), .int v3]) (rest := []) ⟨hx, hb, hml, hown, hts⟩ (kX12_takesPart l D G _ (v2 + 1) v3 xq4 hfq5) (cwV 2 hts (lwW_gV mw_1289 mw_1291 ms_55 mw_14 mw_1292) rfl rfl rfl (by decide +kernel) ⟨Nat.le_of_ble_eq_true rfl, Nat.le_of_ble_eq_true rfl⟩) ⟨fun a U g mk q => ⟨q.1, mPre_call q.2⟩, va_recv hK hP rfl (mg_2 rfl), fun U hU hW => ⟨rfl, mPre_at h0 hS hP hU hW⟩⟩ rfl rfl hl.1 rfl (lv_room (Nat.le_of_ble_eq_true rfl)) dX12_readsClause_88 ⟨Nat.zero_le _, Nat.zero_le _⟩) hS (fun q _ h => h) (fun q h => h) (fun u t H1 locs ht hvm hw hB hz1 hq1 hS => ?_)
      obtain rfl := hw.symm
      have hP := hB.1
      rw [ht] at hP
      refine W.widen (k := 0) (n := 0) (Nat.le_refl _) (Nat.le_refl _) ?_
      refine lv_iinc (v := v3 + 1) (lv' := [(3, .int (v3 + 1)), (0, .ref (G.1 28)), (1, .int p1), (2, .int v2)]) hx hb dX12_readsClause_91 hl (k := 3) rfl rfl (by decide) rfl (fun ls hl => ?_)
      refine lv_goto (tgt := 68) hx hb dX12_readsClause_94 (by decide) ?_
      exact ih68 v2 (v3 + 1) _ _ _ _ h hP hS (lv_sub hl [1, 2, 3, 0] rfl)
  have J66 : ∀ (v2 : Int32) (τ : QMem) (H : Heap) (locs : List Loc) (ls : Array Slot), fX12_readsClause_J66 p1 v2 τ = some res → va_P D vwCl (mW G τ) H → va_S (mA G) s.heap H locs → lv_has ls 4 [(0, .ref (G.1 28)), (1, .int p1), (2, .int v2)] → W p l e (headSpec (.code yX12_readsClause cX12_readsClause 4 none :: lwW) (rmD 4)).room s m ([.ref (G.1 28), .int p1] : List Value).toArray below meth c H locs 0 0 (MQ below (mQv D G res) ([.ref (G.1 28), .int p1] : List Value).toArray s 0 0 (mA G)) (F0 m 66 ls []) := by
    intro v2 τ H locs ls h hP hS hl
    unfold fX12_readsClause_J66 at h
    refine lv_iconst (v := 0) hx hb dX12_readsClause_66 (by decide) ?_
    refine lv_istore_n (lv' := [(3, .int 0), (0, .ref (G.1 28)), (1, .int p1), (2, .int v2)]) hx hb dX12_readsClause_67 rfl hl (by decide) rfl (fun ls hl => ?_)
    exact L68 FU v2 0 _ _ _ _ h hP hS (lv_sub hl [1, 2, 3, 0] rfl)
  have J48 : ∀ (v2 : Int32) (τ : QMem) (H : Heap) (locs : List Loc) (ls : Array Slot), fX12_readsClause_J48 p1 v2 τ = some res → va_P D vwCl (mW G τ) H → va_S (mA G) s.heap H locs → lv_has ls 4 [(0, .ref (G.1 28)), (1, .int p1), (2, .int v2)] → W p l e (headSpec (.code yX12_readsClause cX12_readsClause 4 none :: lwW) (rmD 4)).room s m ([.ref (G.1 28), .int p1] : List Value).toArray below meth c H locs 0 0 (MQ below (mQv D G res) ([.ref (G.1 28), .int p1] : List Value).toArray s 0 0 (mA G)) (F0 m 48 ls []) := by
    intro v2 τ H locs ls h hP hS hl
    unfold fX12_readsClause_J48 at h
    refine lv_aload_n hx hb dX12_readsClause_48 rfl (lv_at hl 0 rfl) ?_
    refine va_get (D := D) (ci := 12) (v := .ref (G.1 24)) (C := RX12) (T := TX12) (N := 34) hx hb hts iwX12 hown hK hP 28 (mg_2 rfl) rfl 29 (by decide) (hts _ mw_987) (fun _ h9 => h9) rfl dX12_readsClause_49 ?_
    refine lv_iload_n hx hb dX12_readsClause_52 rfl (lv_at hl 1 rfl) ?_
    obtain ⟨hiq10, h⟩ := nif h
    refine va_iald hx hb hK hP 24 0 (mg_0 rfl) rfl hiq10 dX12_readsClause_53 ?_
    refine lv_iconst (v := 3) hx hb dX12_readsClause_54 (by decide) ?_
    refine lv_icmp_ne (tgt := 66) hx hb dX12_readsClause_55 (by decide) (fun hcq11 => ?_) (fun hcq11 => ?_)
    · have h := ifn hcq11 h
      exact J66 v2 _ _ _ _ h hP hS (lv_sub hl [0, 1, 2] rfl)
    have h := ifp hcq11 h
    refine lv_aload_n hx hb dX12_readsClause_58 rfl (lv_at hl 0 rfl) ?_
    refine lv_iload_n hx hb dX12_readsClause_59 rfl (lv_at hl 2 rfl) ?_
    refine lv_iconst (v := 1) hx hb dX12_readsClause_60 (by decide) ?_
    refine lv_iadd hx hb dX12_readsClause_61 ?_
    refine lv_iconst (v := 5) hx hb dX12_readsClause_62 (by decide) ?_
    obtain ⟨xq12, hfq13, h⟩ := obd h
    refine va_callv (va_runV (As := [.int (v2 + 1), .int 5]) (rest := []) ⟨hx, hb, hml, hown, hts⟩ (kX12_takes l D G _ (v2 + 1) 5 xq12 hfq13) (cwV 2 hts (lwW_gV mw_1277 mw_1279 ms_52 mw_14 mw_1280) rfl rfl rfl (by decide +kernel) ⟨Nat.le_of_ble_eq_true rfl, Nat.le_of_ble_eq_true rfl⟩) ⟨fun a U g mk q => ⟨q.1, mPre_call q.2⟩, va_recv hK hP rfl (mg_2 rfl), fun U hU hW => ⟨rfl, mPre_at h0 hS hP hU hW⟩⟩ rfl rfl hl.1 rfl (lv_room (Nat.le_of_ble_eq_true rfl)) dX12_readsClause_63 ⟨Nat.zero_le _, Nat.zero_le _⟩) hS (fun q _ h => h) (fun q h => h) (fun u t H1 locs ht hvm hw hB hz1 hq1 hS => ?_)
    obtain rfl := hw.symm
    have hP := hB.1
    rw [ht] at hP
    refine W.widen (k := 0) (n := 0) (Nat.le_refl _) (Nat.le_refl _) ?_
    exact J66 v2 _ _ _ _ h hP hS (lv_sub hl [0, 1, 2] rfl)
  have J29 : ∀ (v2 : Int32) (τ : QMem) (H : Heap) (locs : List Loc) (ls : Array Slot), fX12_readsClause_J29 p1 v2 τ = some res → va_P D vwCl (mW G τ) H → va_S (mA G) s.heap H locs → lv_has ls 4 [(0, .ref (G.1 28)), (1, .int p1), (2, .int v2)] → W p l e (headSpec (.code yX12_readsClause cX12_readsClause 4 none :: lwW) (rmD 4)).room s m ([.ref (G.1 28), .int p1] : List Value).toArray below meth c H locs 0 0 (MQ below (mQv D G res) ([.ref (G.1 28), .int p1] : List Value).toArray s 0 0 (mA G)) (F0 m 29 ls []) := by
    intro v2 τ H locs ls h hP hS hl
    unfold fX12_readsClause_J29 at h
    refine lv_aload_n hx hb dX12_readsClause_29 rfl (lv_at hl 0 rfl) ?_
    refine va_get (D := D) (ci := 12) (v := .ref (G.1 24)) (C := RX12) (T := TX12) (N := 34) hx hb hts iwX12 hown hK hP 28 (mg_2 rfl) rfl 29 (by decide) (hts _ mw_987) (fun _ h9 => h9) rfl dX12_readsClause_30 ?_
    refine lv_iload_n hx hb dX12_readsClause_33 rfl (lv_at hl 1 rfl) ?_
    obtain ⟨hiq18, h⟩ := nif h
    refine va_iald hx hb hK hP 24 0 (mg_0 rfl) rfl hiq18 dX12_readsClause_34 ?_
    refine lv_iconst (v := 2) hx hb dX12_readsClause_35 (by decide) ?_
    refine lv_icmp_ne (tgt := 48) hx hb dX12_readsClause_36 (by decide) (fun hcq19 => ?_) (fun hcq19 => ?_)
    · have h := ifn hcq19 h
      exact J48 v2 _ _ _ _ h hP hS (lv_sub hl [0, 1, 2] rfl)
    have h := ifp hcq19 h
    refine lv_aload_n hx hb dX12_readsClause_39 rfl (lv_at hl 0 rfl) ?_
    refine lv_iload_n hx hb dX12_readsClause_40 rfl (lv_at hl 2 rfl) ?_
    refine lv_iconst (v := 1) hx hb dX12_readsClause_41 (by decide) ?_
    refine lv_iadd hx hb dX12_readsClause_42 ?_
    refine lv_bipush (v := 23) hx hb dX12_readsClause_43 (by decide) ?_
    obtain ⟨xq20, hfq21, h⟩ := obd h
    refine va_callv (va_runV (As := [.int (v2 + 1), .int 23]) (rest := []) ⟨hx, hb, hml, hown, hts⟩ (kX12_takes l D G _ (v2 + 1) 23 xq20 hfq21) (cwV 2 hts (lwW_gV mw_1277 mw_1279 ms_52 mw_14 mw_1280) rfl rfl rfl (by decide +kernel) ⟨Nat.le_of_ble_eq_true rfl, Nat.le_of_ble_eq_true rfl⟩) ⟨fun a U g mk q => ⟨q.1, mPre_call q.2⟩, va_recv hK hP rfl (mg_2 rfl), fun U hU hW => ⟨rfl, mPre_at h0 hS hP hU hW⟩⟩ rfl rfl hl.1 rfl (lv_room (Nat.le_of_ble_eq_true rfl)) dX12_readsClause_45 ⟨Nat.zero_le _, Nat.zero_le _⟩) hS (fun q _ h => h) (fun q h => h) (fun u t H1 locs ht hvm hw hB hz1 hq1 hS => ?_)
    obtain rfl := hw.symm
    have hP := hB.1
    rw [ht] at hP
    refine W.widen (k := 0) (n := 0) (Nat.le_refl _) (Nat.le_refl _) ?_
    exact J48 v2 _ _ _ _ h hP hS (lv_sub hl [0, 1, 2] rfl)
  refine lv_aload_n hx hb dX12_readsClause_0 rfl (lv_at hl 0 rfl) ?_
  refine va_get (D := D) (ci := 12) (v := .ref (G.1 24)) (C := RX12) (T := TX12) (N := 34) hx hb hts iwX12 hown hK hP 28 (mg_2 rfl) rfl 29 (by decide) (hts _ mw_987) (fun _ h9 => h9) rfl dX12_readsClause_1 ?_
  refine lv_iload_n hx hb dX12_readsClause_4 rfl (lv_at hl 1 rfl) ?_
  refine lv_aload_n hx hb dX12_readsClause_5 rfl (lv_at hl 0 rfl) ?_
  obtain ⟨xq22, hfq23, h⟩ := obd h
  refine va_calli (va_runV (As := []) (rest := [.int p1, .ref (G.1 24)]) ⟨hx, hb, hml, hown, hts⟩ (kX12_readsWord l D G _ xq22 hfq23) (cwV 0 hts (lwW_gV mw_1261 mw_1263 ms_48 mw_14 mw_1264) rfl rfl rfl (by decide +kernel) ⟨Nat.le_of_ble_eq_true rfl, Nat.le_of_ble_eq_true rfl⟩) ⟨fun a U g mk q => ⟨q.1, mPre_call q.2⟩, va_recv hK hP rfl (mg_2 rfl), fun U hU hW => ⟨rfl, mPre_at h0 hS hP hU hW⟩⟩ rfl rfl hl.1 rfl (lv_room (Nat.le_of_ble_eq_true rfl)) dX12_readsClause_6 ⟨Nat.zero_le _, Nat.zero_le _⟩) hS (fun q _ h => h) (fun q h => h) (fun r u t H1 locs ht hvm hw hB hz1 hq1 hS => ?_)
  obtain ⟨rfl, rfl⟩ := hw
  have hP := hB.1
  rw [ht] at hP
  refine W.widen (k := 0) (n := 0) (Nat.le_refl _) (Nat.le_refl _) ?_
  obtain ⟨hiq24, h⟩ := nif h
  refine va_iast hx hb hK hP (mD hi) hS 24 0 (mg_0 rfl) rfl hiq24 dX12_readsClause_9 (fun H locs hP hD hS => ?_)
  have hP : va_P D vwCl (mW G (ms xq22.2 24 p1.toNatClampNeg xq22.1)) H := by rw [← ms_0x rfl]; exact hP
  refine lv_iconst (v := 5) hx hb dX12_readsClause_10 (by decide) ?_
  refine lv_iload_n hx hb dX12_readsClause_11 rfl (lv_at hl 1 rfl) ?_
  refine lv_imul hx hb dX12_readsClause_12 ?_
  refine lv_istore_n (lv' := [(2, .int (5 * p1)), (0, .ref (G.1 28)), (1, .int p1)]) hx hb dX12_readsClause_13 rfl hl (by decide) rfl (fun ls hl => ?_)
  refine lv_aload_n hx hb dX12_readsClause_14 rfl (lv_at hl 1 rfl) ?_
  refine va_get (D := D) (ci := 12) (v := .ref (G.1 24)) (C := RX12) (T := TX12) (N := 34) hx hb hts iwX12 hown hK hP 28 (mg_2 rfl) rfl 29 (by decide) (hts _ mw_987) (fun _ h9 => h9) rfl dX12_readsClause_15 ?_
  refine lv_iload_n hx hb dX12_readsClause_18 rfl (lv_at hl 2 rfl) ?_
  obtain ⟨hiq25, h⟩ := nif h
  refine va_iald hx hb hK hP 24 0 (mg_0 rfl) rfl hiq25 dX12_readsClause_19 ?_
  refine lv_if_le (tgt := 29) hx hb dX12_readsClause_20 (by decide) (fun hcq26 => ?_) (fun hcq26 => ?_)
  · have h := ifp hcq26 h
    exact J29 (5 * p1) _ _ _ _ h hP hS (lv_sub hl [1, 2, 0] rfl)
  have h := ifn hcq26 h
  refine lv_aload_n hx hb dX12_readsClause_23 rfl (lv_at hl 1 rfl) ?_
  refine lv_iload_n hx hb dX12_readsClause_24 rfl (lv_at hl 0 rfl) ?_
  refine lv_iconst (v := 5) hx hb dX12_readsClause_25 (by decide) ?_
  obtain ⟨xq27, hfq28, h⟩ := obd h
  refine va_callv (va_runV (As := [.int (5 * p1), .int 5]) (rest := []) ⟨hx, hb, hml, hown, hts⟩ (kX12_takes l D G _ (5 * p1) 5 xq27 hfq28) (cwV 2 hts (lwW_gV mw_1277 mw_1279 ms_52 mw_14 mw_1280) rfl rfl rfl (by decide +kernel) ⟨Nat.le_of_ble_eq_true rfl, Nat.le_of_ble_eq_true rfl⟩) ⟨fun a U g mk q => ⟨q.1, mPre_call q.2⟩, va_recv hK hP rfl (mg_2 rfl), fun U hU hW => ⟨rfl, mPre_at h0 hS hP hU hW⟩⟩ rfl rfl hl.1 rfl (lv_room (Nat.le_of_ble_eq_true rfl)) dX12_readsClause_26 ⟨Nat.zero_le _, Nat.zero_le _⟩) hS (fun q _ h => h) (fun q h => h) (fun u t H1 locs ht hvm hw hB hz1 hq1 hS => ?_)
  obtain rfl := hw.symm
  have hP := hB.1
  rw [ht] at hP
  refine W.widen (k := 0) (n := 0) (Nat.le_refl _) (Nat.le_refl _) ?_
  exact J29 (5 * p1) _ _ _ _ h hP hS (lv_sub hl [1, 2, 0] rfl)
def fX12_reads_J103  (K14 : Int32 → Int32 → QMem → Option (Int32 × QMem)) (v1 : Int32) (v2 : Int32) (s1 : Int32) (s2 : Int32) (τ : QMem) : Option (Int32 × QMem) :=
  K14 v1 v2 (ms τ 28 27 (s1 + s2))
def fX12_reads_J102  (K14 : Int32 → Int32 → QMem → Option (Int32 × QMem)) (v1 : Int32) (v2 : Int32) (s1 : Int32) (τ : QMem) : Option (Int32 × QMem) :=
  fX12_reads_J103 K14 v1 v2 s1 0 τ
def fX12_reads_J79  (K14 : Int32 → Int32 → QMem → Option (Int32 × QMem)) (v1 : Int32) (v2 : Int32) (s1 : Int32) (τ : QMem) : Option (Int32 × QMem) :=
  if ¬ (s1 = 0 ∨ s1 = 1) then none else (if v2 = 0 then (fX12_reads_J102 K14 v1 v2 ((ms τ 28 28 s1) 28 27) (ms τ 28 28 s1)) else (if ((ms τ 28 28 s1) 28 28) = 0 then (fX12_reads_J103 K14 v1 v2 ((ms τ 28 28 s1) 28 27) 1 (ms τ 28 28 s1)) else (fX12_reads_J102 K14 v1 v2 ((ms τ 28 28 s1) 28 27) (ms τ 28 28 s1))))
def fX12_reads_J78  (K14 : Int32 → Int32 → QMem → Option (Int32 × QMem)) (v1 : Int32) (v2 : Int32) (τ : QMem) : Option (Int32 × QMem) :=
  fX12_reads_J79 K14 v1 v2 0 τ
def fX12_reads_J74  (K14 : Int32 → Int32 → QMem → Option (Int32 × QMem)) (v1 : Int32) (v2 : Int32) (τ : QMem) : Option (Int32 × QMem) :=
  fX12_reads_J79 K14 v1 v2 1 τ
def fX12_reads_J56  (K14 : Int32 → Int32 → QMem → Option (Int32 × QMem)) (v1 : Int32) (v3 : Int32) (s0 : Int32) (τ : QMem) : Option (Int32 × QMem) :=
  if v3 < 0 then (fX12_reads_J78 K14 v1 s0 τ) else (if v3 = 59 then (if v1 = 24 then (fX12_reads_J74 K14 v1 s0 τ) else (fX12_reads_J78 K14 v1 s0 τ)) else (fX12_reads_J74 K14 v1 s0 τ))
def fX12_reads_L14  : Nat → Int32 → Int32 → QMem → Option (Int32 × QMem)
  | 0, _, _, _ => none
  | n + 1, v1, v2, τ =>
  if v2 = 0 then (some (v1, τ)) else (if (τ 28 28) = 0 then ((fX12_readsClause v1 τ).bind fun xq15 => (if (xq15 28 28) = 0 then ((fX12_looks xq15).bind fun xq18 => (if xq18.1 = 59 then (fX12_reads_J56 (fX12_reads_L14 n) (v1 + 1) xq18.1 1 xq18.2) else (fX12_reads_J56 (fX12_reads_L14 n) (v1 + 1) xq18.1 0 xq18.2))) else ((fX12_reads_L14 n) (v1 + 1) v2 xq15))) else (some (v1, τ)))
def fX12_reads  (σ : QMem) : Option (Int32 × QMem) :=
  fX12_reads_L14 FU 0 1 (ms (ms σ 28 27 0) 28 28 0)
set_option maxHeartbeats 4000000 in
set_option maxRecDepth 100000 in
theorem kX12_reads (l : Launch) (D : va_G) (G : xG) (σ : QMem) (res : Int32 × QMem) (h : fX12_reads σ = some res) : Met l yX12_reads (.code yX12_reads cX12_reads 4 (some .int) :: lwW) (rmD 5) (mPc D G σ [.ref (G.1 28)]) (mQi D G res) 0 0 (mA G) := by
  refine Met.ofW (cc := cX12_reads) (maxL := 4) (ret := (some .int)) (by decide) rfl ?_
  intro p e s m args below meth c s₁ B hml hv
  obtain ⟨rfl, h0⟩ := hv
  have hx := B.exec
  have hb := B.bytes
  have hr := B.returns
  have hts := fun (w : Cond) (hw : w ∈ lwW) => atoms_spec (ws := (.code yX12_reads cX12_reads 4 (some .int) :: lwW)) B.pre w (List.mem_cons_of_mem _ hw)
  have hown : s.vm.findClass RX12 = some m.cls := findClass_of_methodNamed B.named
  have hlocks := B.notSynchronized
  have hP := h0.1
  have hK := h0.2.1
  have hi := h0.2.2
  have hS : va_S (mA G) s.heap s.heap [] := va_S.rf
  have hl := lv_entry ([.ref (G.1 28)]) (n := 4) (Nat.le_of_ble_eq_true rfl)
  rw [lg_entry_eq]
  generalize (lg_sl ([.ref (G.1 28)]) ++ List.replicate (4 - (lg_sl ([.ref (G.1 28)])).length) Slot.unset).toArray = ls at hl ⊢
  have hl : lv_has ls 4 [(0, .ref (G.1 28))] := hl
  unfold fX12_reads at h
  have L14 : ∀ (n14 : Nat) (v1 : Int32) (v2 : Int32) (τ : QMem) (H : Heap) (locs : List Loc) (ls : Array Slot), fX12_reads_L14 n14 v1 v2 τ = some res → va_P D vwCl (mW G τ) H → va_S (mA G) s.heap H locs → lv_has ls 4 [(0, .ref (G.1 28)), (1, .int v1), (2, .int v2)] → W p l e (headSpec (.code yX12_reads cX12_reads 4 (some .int) :: lwW) (rmD 5)).room s m ([.ref (G.1 28)] : List Value).toArray below meth c H locs 0 0 (MQ below (mQi D G res) ([.ref (G.1 28)] : List Value).toArray s 0 0 (mA G)) (F0 m 14 ls []) := by
    intro n14
    induction n14 with
    | zero => intro v1 v2 τ H locs ls h; rw [fX12_reads_L14] at h; cases h
    | succ n14 ih14 =>
      intro v1 v2 τ H locs ls h hP hS hl
      rw [fX12_reads_L14] at h
      have J103 : ∀ (v1 : Int32) (v2 : Int32) (s1 : Int32) (s2 : Int32) (τ : QMem) (H : Heap) (locs : List Loc) (ls : Array Slot), fX12_reads_J103 (fX12_reads_L14 n14) v1 v2 s1 s2 τ = some res → va_P D vwCl (mW G τ) H → va_S (mA G) s.heap H locs → lv_has ls 4 [(0, .ref (G.1 28)), (1, .int v1), (2, .int v2)] → W p l e (headSpec (.code yX12_reads cX12_reads 4 (some .int) :: lwW) (rmD 5)).room s m ([.ref (G.1 28)] : List Value).toArray below meth c H locs 0 0 (MQ below (mQi D G res) ([.ref (G.1 28)] : List Value).toArray s 0 0 (mA G)) (F0 m 103 ls [.int s2, .int s1, .ref (G.1 28)]) := by
        intro v1 v2 s1 s2 τ H locs ls h hP hS hl
        unfold fX12_reads_J103 at h
        refine lv_iadd hx hb dX12_reads_103 ?_
        refine va_put (D := D) (ci := 12) (v := .int (s1 + s2)) (ty := .int) (C := RX12) (T := TX12) (N := 34) hx hb hts iwX12 tyX12 tyX12_ok nmX12 hown hK hP (mD hi) hS 28 (mg_2 rfl) rfl 27 (by decide) (hts _ mw_985) (fun _ h9 => h9) rfl (by decide +kernel) rfl rfl (Nat.le_of_ble_eq_true rfl) dX12_reads_104 (fun H locs hP hD hS => ?_)
        have hP : va_P D vwCl (mW G (ms τ 28 27 (s1 + s2))) H := by rw [← ms_2_27 rfl]; exact hP
        refine lv_goto (tgt := 14) hx hb dX12_reads_107 (by decide) ?_
        exact ih14 v1 v2 _ _ _ _ h hP hS (lv_sub hl [0, 1, 2] rfl)
      have J102 : ∀ (v1 : Int32) (v2 : Int32) (s1 : Int32) (τ : QMem) (H : Heap) (locs : List Loc) (ls : Array Slot), fX12_reads_J102 (fX12_reads_L14 n14) v1 v2 s1 τ = some res → va_P D vwCl (mW G τ) H → va_S (mA G) s.heap H locs → lv_has ls 4 [(0, .ref (G.1 28)), (1, .int v1), (2, .int v2)] → W p l e (headSpec (.code yX12_reads cX12_reads 4 (some .int) :: lwW) (rmD 5)).room s m ([.ref (G.1 28)] : List Value).toArray below meth c H locs 0 0 (MQ below (mQi D G res) ([.ref (G.1 28)] : List Value).toArray s 0 0 (mA G)) (F0 m 102 ls [.int s1, .ref (G.1 28)]) := by
        intro v1 v2 s1 τ H locs ls h hP hS hl
        unfold fX12_reads_J102 at h
        refine lv_iconst (v := 0) hx hb dX12_reads_102 (by decide) ?_
        exact J103 v1 v2 s1 0 _ _ _ _ h hP hS (lv_sub hl [0, 1, 2] rfl)
      have J79 : ∀ (v1 : Int32) (v2 : Int32) (s1 : Int32) (τ : QMem) (H : Heap) (locs : List Loc) (ls : Array Slot), fX12_reads_J79 (fX12_reads_L14 n14) v1 v2 s1 τ = some res → va_P D vwCl (mW G τ) H → va_S (mA G) s.heap H locs → lv_has ls 4 [(0, .ref (G.1 28)), (1, .int v1), (2, .int v2)] → W p l e (headSpec (.code yX12_reads cX12_reads 4 (some .int) :: lwW) (rmD 5)).room s m ([.ref (G.1 28)] : List Value).toArray below meth c H locs 0 0 (MQ below (mQi D G res) ([.ref (G.1 28)] : List Value).toArray s 0 0 (mA G)) (F0 m 79 ls [.int s1, .ref (G.1 28)]) := by
        intro v1 v2 s1 τ H locs ls h hP hS hl
        unfold fX12_reads_J79 at h
        obtain ⟨hzq4, h⟩ := nif h
        have hzq4 := Decidable.not_not.mp hzq4
        refine va_put (D := D) (ci := 12) (v := .int s1) (ty := .boolean) (C := RX12) (T := TX12) (N := 34) hx hb hts iwX12 tyX12 tyX12_ok nmX12 hown hK hP (mD hi) hS 28 (mg_2 rfl) rfl 28 (by decide) (hts _ mw_986) (fun _ h9 => h9) rfl (by decide +kernel) (nar01 hzq4) (fit01 hzq4) (Nat.le_of_ble_eq_true rfl) dX12_reads_79 (fun H locs hP hD hS => ?_)
        have hP : va_P D vwCl (mW G (ms τ 28 28 s1)) H := by rw [← ms_2_28 rfl]; exact hP
        refine lv_aload_n hx hb dX12_reads_82 rfl (lv_at hl 0 rfl) ?_
        refine lv_dup hx hb dX12_reads_83 rfl ?_
        refine va_get (D := D) (ci := 12) (v := .int ((ms τ 28 28 s1) 28 27)) (C := RX12) (T := TX12) (N := 34) hx hb hts iwX12 hown hK hP 28 (mg_2 rfl) rfl 27 (by decide) (hts _ mw_985) (fun _ h9 => h9) rfl dX12_reads_84 ?_
        refine lv_iload_n hx hb dX12_reads_87 rfl (lv_at hl 2 rfl) ?_
        refine lv_if_eq (tgt := 102) hx hb dX12_reads_88 (by decide) (fun hcq5 => ?_) (fun hcq5 => ?_)
        · have h := ifp hcq5 h
          exact J102 v1 v2 ((ms τ 28 28 s1) 28 27) _ _ _ _ h hP hS (lv_sub hl [0, 1, 2] rfl)
        have h := ifn hcq5 h
        refine lv_aload_n hx hb dX12_reads_91 rfl (lv_at hl 0 rfl) ?_
        refine va_get (D := D) (ci := 12) (v := .int ((ms τ 28 28 s1) 28 28)) (C := RX12) (T := TX12) (N := 34) hx hb hts iwX12 hown hK hP 28 (mg_2 rfl) rfl 28 (by decide) (hts _ mw_986) (fun _ h9 => h9) rfl dX12_reads_92 ?_
        refine lv_if_ne (tgt := 102) hx hb dX12_reads_95 (by decide) (fun hcq6 => ?_) (fun hcq6 => ?_)
        · have h := ifn hcq6 h
          exact J102 v1 v2 ((ms τ 28 28 s1) 28 27) _ _ _ _ h hP hS (lv_sub hl [0, 1, 2] rfl)
        have h := ifp hcq6 h
        refine lv_iconst (v := 1) hx hb dX12_reads_98 (by decide) ?_
        refine lv_goto (tgt := 103) hx hb dX12_reads_99 (by decide) ?_
        exact J103 v1 v2 ((ms τ 28 28 s1) 28 27) 1 _ _ _ _ h hP hS (lv_sub hl [0, 1, 2] rfl)
      have J78 : ∀ (v1 : Int32) (v2 : Int32) (τ : QMem) (H : Heap) (locs : List Loc) (ls : Array Slot), fX12_reads_J78 (fX12_reads_L14 n14) v1 v2 τ = some res → va_P D vwCl (mW G τ) H → va_S (mA G) s.heap H locs → lv_has ls 4 [(0, .ref (G.1 28)), (1, .int v1), (2, .int v2)] → W p l e (headSpec (.code yX12_reads cX12_reads 4 (some .int) :: lwW) (rmD 5)).room s m ([.ref (G.1 28)] : List Value).toArray below meth c H locs 0 0 (MQ below (mQi D G res) ([.ref (G.1 28)] : List Value).toArray s 0 0 (mA G)) (F0 m 78 ls [.ref (G.1 28)]) := by
        intro v1 v2 τ H locs ls h hP hS hl
        unfold fX12_reads_J78 at h
        refine lv_iconst (v := 0) hx hb dX12_reads_78 (by decide) ?_
        exact J79 v1 v2 0 _ _ _ _ h hP hS (lv_sub hl [0, 1, 2] rfl)
      have J74 : ∀ (v1 : Int32) (v2 : Int32) (τ : QMem) (H : Heap) (locs : List Loc) (ls : Array Slot), fX12_reads_J74 (fX12_reads_L14 n14) v1 v2 τ = some res → va_P D vwCl (mW G τ) H → va_S (mA G) s.heap H locs → lv_has ls 4 [(0, .ref (G.1 28)), (1, .int v1), (2, .int v2)] → W p l e (headSpec (.code yX12_reads cX12_reads 4 (some .int) :: lwW) (rmD 5)).room s m ([.ref (G.1 28)] : List Value).toArray below meth c H locs 0 0 (MQ below (mQi D G res) ([.ref (G.1 28)] : List Value).toArray s 0 0 (mA G)) (F0 m 74 ls [.ref (G.1 28)]) := by
        intro v1 v2 τ H locs ls h hP hS hl
        unfold fX12_reads_J74 at h
        refine lv_iconst (v := 1) hx hb dX12_reads_74 (by decide) ?_
        refine lv_goto (tgt := 79) hx hb dX12_reads_75 (by decide) ?_
        exact J79 v1 v2 1 _ _ _ _ h hP hS (lv_sub hl [0, 1, 2] rfl)
      have J56 : ∀ (v1 : Int32) (v3 : Int32) (s0 : Int32) (τ : QMem) (H : Heap) (locs : List Loc) (ls : Array Slot), fX12_reads_J56 (fX12_reads_L14 n14) v1 v3 s0 τ = some res → va_P D vwCl (mW G τ) H → va_S (mA G) s.heap H locs → lv_has ls 4 [(0, .ref (G.1 28)), (1, .int v1), (3, .int v3)] → W p l e (headSpec (.code yX12_reads cX12_reads 4 (some .int) :: lwW) (rmD 5)).room s m ([.ref (G.1 28)] : List Value).toArray below meth c H locs 0 0 (MQ below (mQi D G res) ([.ref (G.1 28)] : List Value).toArray s 0 0 (mA G)) (F0 m 56 ls [.int s0]) := by
        intro v1 v3 s0 τ H locs ls h hP hS hl
        unfold fX12_reads_J56 at h
        refine lv_istore_n (lv' := [(2, .int s0), (0, .ref (G.1 28)), (1, .int v1), (3, .int v3)]) hx hb dX12_reads_56 rfl hl (by decide) rfl (fun ls hl => ?_)
        refine lv_aload_n hx hb dX12_reads_57 rfl (lv_at hl 1 rfl) ?_
        refine lv_iload_n hx hb dX12_reads_58 rfl (lv_at hl 3 rfl) ?_
        refine lv_if_lt (tgt := 78) hx hb dX12_reads_59 (by decide) (fun hcq10 => ?_) (fun hcq10 => ?_)
        · have h := ifp hcq10 h
          exact J78 v1 s0 _ _ _ _ h hP hS (lv_sub hl [1, 2, 0] rfl)
        have h := ifn hcq10 h
        refine lv_iload_n hx hb dX12_reads_62 rfl (lv_at hl 3 rfl) ?_
        refine lv_bipush (v := 59) hx hb dX12_reads_63 (by decide) ?_
        refine lv_icmp_ne (tgt := 74) hx hb dX12_reads_65 (by decide) (fun hcq11 => ?_) (fun hcq11 => ?_)
        · have h := ifn hcq11 h
          exact J74 v1 s0 _ _ _ _ h hP hS (lv_sub hl [1, 2, 0] rfl)
        have h := ifp hcq11 h
        refine lv_iload_n hx hb dX12_reads_68 rfl (lv_at hl 2 rfl) ?_
        refine lv_bipush (v := 24) hx hb dX12_reads_69 (by decide) ?_
        refine lv_icmp_ne (tgt := 78) hx hb dX12_reads_71 (by decide) (fun hcq12 => ?_) (fun hcq12 => ?_)
        · have h := ifn hcq12 h
          exact J78 v1 s0 _ _ _ _ h hP hS (lv_sub hl [1, 2, 0] rfl)
        have h := ifp hcq12 h
        exact J74 v1 s0 _ _ _ _ h hP hS (lv_sub hl [1, 2, 0] rfl)
      refine lv_iload_n hx hb dX12_reads_14 rfl (lv_at hl 2 rfl) ?_
      refine lv_if_eq (tgt := 110) hx hb dX12_reads_15 (by decide) (fun hcq13 => ?_) (fun hcq13 => ?_)
      · have h := ifp hcq13 h
        refine lv_iload_n hx hb dX12_reads_110 rfl (lv_at hl 1 rfl) ?_
        obtain rfl := Option.some.inj h
        exact W.iret (v := v1) hx hb hr (fun t ht hW => ⟨⟨_, _, rfl, ⟨rfl, rfl⟩, mPre_at h0 hS hP ht hW⟩, hS.F ht⟩) hS.2.2 dX12_reads_111
      have h := ifn hcq13 h
      refine lv_aload_n hx hb dX12_reads_18 rfl (lv_at hl 0 rfl) ?_
      refine va_get (D := D) (ci := 12) (v := .int (τ 28 28)) (C := RX12) (T := TX12) (N := 34) hx hb hts iwX12 hown hK hP 28 (mg_2 rfl) rfl 28 (by decide) (hts _ mw_986) (fun _ h9 => h9) rfl dX12_reads_19 ?_
      refine lv_if_ne (tgt := 110) hx hb dX12_reads_22 (by decide) (fun hcq14 => ?_) (fun hcq14 => ?_)
      · have h := ifn hcq14 h
        refine lv_iload_n hx hb dX12_reads_110 rfl (lv_at hl 1 rfl) ?_
        obtain rfl := Option.some.inj h
        exact W.iret (v := v1) hx hb hr (fun t ht hW => ⟨⟨_, _, rfl, ⟨rfl, rfl⟩, mPre_at h0 hS hP ht hW⟩, hS.F ht⟩) hS.2.2 dX12_reads_111
      have h := ifp hcq14 h
      refine lv_aload_n hx hb dX12_reads_25 rfl (lv_at hl 0 rfl) ?_
      refine lv_iload_n hx hb dX12_reads_26 rfl (lv_at hl 1 rfl) ?_
      obtain ⟨xq15, hfq16, h⟩ := obd h
      refine va_callv (va_runV (As := [.int v1]) (rest := []) ⟨hx, hb, hml, hown, hts⟩ (kX12_readsClause l D G _ v1 xq15 hfq16) (cwV 1 hts (lwW_gV mw_1257 mw_1259 ms_47 mw_14 mw_1260) rfl rfl rfl (by decide +kernel) ⟨Nat.le_of_ble_eq_true rfl, Nat.le_of_ble_eq_true rfl⟩) ⟨fun a U g mk q => ⟨q.1, mPre_call q.2⟩, va_recv hK hP rfl (mg_2 rfl), fun U hU hW => ⟨rfl, mPre_at h0 hS hP hU hW⟩⟩ rfl rfl hl.1 rfl (lv_room (Nat.le_of_ble_eq_true rfl)) dX12_reads_27 ⟨Nat.zero_le _, Nat.zero_le _⟩) hS (fun q _ h => h) (fun q h => h) (fun u t H1 locs ht hvm hw hB hz1 hq1 hS => ?_)
      obtain rfl := hw.symm
      have hP := hB.1
      rw [ht] at hP
      refine W.widen (k := 0) (n := 0) (Nat.le_refl _) (Nat.le_refl _) ?_
      refine lv_iinc (v := v1 + 1) (lv' := [(1, .int (v1 + 1)), (0, .ref (G.1 28)), (2, .int v2)]) hx hb dX12_reads_30 hl (k := 1) rfl rfl (by decide) rfl (fun ls hl => ?_)
      refine lv_aload_n hx hb dX12_reads_33 rfl (lv_at hl 1 rfl) ?_
      refine va_get (D := D) (ci := 12) (v := .int (xq15 28 28)) (C := RX12) (T := TX12) (N := 34) hx hb hts iwX12 hown hK hP 28 (mg_2 rfl) rfl 28 (by decide) (hts _ mw_986) (fun _ h9 => h9) rfl dX12_reads_34 ?_
      refine lv_if_ne (tgt := 14) hx hb dX12_reads_37 (by decide) (fun hcq17 => ?_) (fun hcq17 => ?_)
      · have h := ifn hcq17 h
        exact ih14 (v1 + 1) v2 _ _ _ _ h hP hS (lv_sub hl [1, 0, 2] rfl)
      have h := ifp hcq17 h
      refine lv_aload_n hx hb dX12_reads_40 rfl (lv_at hl 1 rfl) ?_
      obtain ⟨xq18, hfq19, h⟩ := obd h
      refine va_calli (va_runV (As := []) (rest := []) ⟨hx, hb, hml, hown, hts⟩ (kX12_looks l D G _ xq18 hfq19) (cwV 0 hts (lwW_gV mw_1265 mw_1267 ms_49 mw_14 mw_1268) rfl rfl rfl (by decide +kernel) ⟨Nat.le_of_ble_eq_true rfl, Nat.le_of_ble_eq_true rfl⟩) ⟨fun a U g mk q => ⟨q.1, mPre_call q.2⟩, va_recv hK hP rfl (mg_2 rfl), fun U hU hW => ⟨rfl, mPre_at h0 hS hP hU hW⟩⟩ rfl rfl hl.1 rfl (lv_room (Nat.le_of_ble_eq_true rfl)) dX12_reads_41 ⟨Nat.zero_le _, Nat.zero_le _⟩) hS (fun q _ h => h) (fun q h => h) (fun r u t H1 locs ht hvm hw hB hz1 hq1 hS => ?_)
      obtain ⟨rfl, rfl⟩ := hw
      have hP := hB.1
      rw [ht] at hP
      refine W.widen (k := 0) (n := 0) (Nat.le_refl _) (Nat.le_refl _) ?_
      refine lv_istore_n (lv' := [(3, .int xq18.1), (1, .int (v1 + 1)), (0, .ref (G.1 28)), (2, .int v2)]) hx hb dX12_reads_44 rfl hl (by decide) rfl (fun ls hl => ?_)
      refine lv_iload_n hx hb dX12_reads_45 rfl (lv_at hl 0 rfl) ?_
      refine lv_bipush (v := 59) hx hb dX12_reads_46 (by decide) ?_
      refine lv_icmp_ne (tgt := 55) hx hb dX12_reads_48 (by decide) (fun hcq20 => ?_) (fun hcq20 => ?_)
      · have h := ifn hcq20 h
        refine lv_iconst (v := 0) hx hb dX12_reads_55 (by decide) ?_
        exact J56 (v1 + 1) xq18.1 0 _ _ _ _ h hP hS (lv_sub hl [2, 1, 0] rfl)
      have h := ifp hcq20 h
      refine lv_iconst (v := 1) hx hb dX12_reads_51 (by decide) ?_
      refine lv_goto (tgt := 56) hx hb dX12_reads_52 (by decide) ?_
      exact J56 (v1 + 1) xq18.1 1 _ _ _ _ h hP hS (lv_sub hl [2, 1, 0] rfl)
  refine lv_aload_n hx hb dX12_reads_0 rfl (lv_at hl 0 rfl) ?_
  refine lv_iconst (v := 0) hx hb dX12_reads_1 (by decide) ?_
  refine va_put (D := D) (ci := 12) (v := .int 0) (ty := .int) (C := RX12) (T := TX12) (N := 34) hx hb hts iwX12 tyX12 tyX12_ok nmX12 hown hK hP (mD hi) hS 28 (mg_2 rfl) rfl 27 (by decide) (hts _ mw_985) (fun _ h9 => h9) rfl (by decide +kernel) rfl rfl (Nat.le_of_ble_eq_true rfl) dX12_reads_2 (fun H locs hP hD hS => ?_)
  have hP : va_P D vwCl (mW G (ms σ 28 27 0)) H := by rw [← ms_2_27 rfl]; exact hP
  refine lv_aload_n hx hb dX12_reads_5 rfl (lv_at hl 0 rfl) ?_
  refine lv_iconst (v := 0) hx hb dX12_reads_6 (by decide) ?_
  refine va_put (D := D) (ci := 12) (v := .int 0) (ty := .boolean) (C := RX12) (T := TX12) (N := 34) hx hb hts iwX12 tyX12 tyX12_ok nmX12 hown hK hP (mD hi) hS 28 (mg_2 rfl) rfl 28 (by decide) (hts _ mw_986) (fun _ h9 => h9) rfl (by decide +kernel) rfl rfl (Nat.le_of_ble_eq_true rfl) dX12_reads_7 (fun H locs hP hD hS => ?_)
  have hP : va_P D vwCl (mW G (ms (ms σ 28 27 0) 28 28 0)) H := by rw [← ms_2_28 rfl]; exact hP
  refine lv_iconst (v := 0) hx hb dX12_reads_10 (by decide) ?_
  refine lv_istore_n (lv' := [(1, .int 0), (0, .ref (G.1 28))]) hx hb dX12_reads_11 rfl hl (by decide) rfl (fun ls hl => ?_)
  refine lv_iconst (v := 1) hx hb dX12_reads_12 (by decide) ?_
  refine lv_istore_n (lv' := [(2, .int 1), (1, .int 0), (0, .ref (G.1 28))]) hx hb dX12_reads_13 rfl hl (by decide) rfl (fun ls hl => ?_)
  exact L14 FU 0 1 _ _ _ _ h hP hS (lv_sub hl [2, 1, 0] rfl)
def fX12_fault  (σ : QMem) : Option (Int32 × QMem) :=
  (fX12_reads σ).bind fun xq1 => (if (xq1.2 28 28) = 0 then (some ((-1), xq1.2)) else (some (xq1.2 28 27, xq1.2)))
set_option maxHeartbeats 4000000 in
set_option maxRecDepth 100000 in
theorem kX12_fault (l : Launch) (D : va_G) (G : xG) (σ : QMem) (res : Int32 × QMem) (h : fX12_fault σ = some res) : Met l yX12_fault (.code yX12_fault cX12_fault 1 (some .int) :: lwW) (rmD 6) (mPc D G σ [.ref (G.1 28)]) (mQi D G res) 0 0 (mA G) := by
  refine Met.ofW (cc := cX12_fault) (maxL := 1) (ret := (some .int)) (by decide) rfl ?_
  intro p e s m args below meth c s₁ B hml hv
  obtain ⟨rfl, h0⟩ := hv
  have hx := B.exec
  have hb := B.bytes
  have hr := B.returns
  have hts := fun (w : Cond) (hw : w ∈ lwW) => atoms_spec (ws := (.code yX12_fault cX12_fault 1 (some .int) :: lwW)) B.pre w (List.mem_cons_of_mem _ hw)
  have hown : s.vm.findClass RX12 = some m.cls := findClass_of_methodNamed B.named
  have hlocks := B.notSynchronized
  have hP := h0.1
  have hK := h0.2.1
  have hi := h0.2.2
  have hS : va_S (mA G) s.heap s.heap [] := va_S.rf
  have hl := lv_entry ([.ref (G.1 28)]) (n := 1) (Nat.le_of_ble_eq_true rfl)
  rw [lg_entry_eq]
  generalize (lg_sl ([.ref (G.1 28)]) ++ List.replicate (1 - (lg_sl ([.ref (G.1 28)])).length) Slot.unset).toArray = ls at hl ⊢
  have hl : lv_has ls 1 [(0, .ref (G.1 28))] := hl
  unfold fX12_fault at h
  refine lv_aload_n hx hb dX12_fault_0 rfl (lv_at hl 0 rfl) ?_
  obtain ⟨xq1, hfq2, h⟩ := obd h
  refine va_calli (va_runV (As := []) (rest := []) ⟨hx, hb, hml, hown, hts⟩ (kX12_reads l D G _ xq1 hfq2) (cwV 0 hts (lwW_gV mw_1253 mw_1255 ms_46 mw_14 mw_1256) rfl rfl rfl (by decide +kernel) ⟨Nat.le_of_ble_eq_true rfl, Nat.le_of_ble_eq_true rfl⟩) ⟨fun a U g mk q => ⟨q.1, mPre_call q.2⟩, va_recv hK hP rfl (mg_2 rfl), fun U hU hW => ⟨rfl, mPre_at h0 hS hP hU hW⟩⟩ rfl rfl hl.1 rfl (lv_room (Nat.le_of_ble_eq_true rfl)) dX12_fault_1 ⟨Nat.zero_le _, Nat.zero_le _⟩) hS (fun q _ h => h) (fun q h => h) (fun r u t H1 locs ht hvm hw hB hz1 hq1 hS => ?_)
  obtain ⟨rfl, rfl⟩ := hw
  have hP := hB.1
  rw [ht] at hP
  refine W.widen (k := 0) (n := 0) (Nat.le_refl _) (Nat.le_refl _) ?_
  refine lv_pop hx hb dX12_fault_4 rfl ?_
  refine lv_aload_n hx hb dX12_fault_5 rfl (lv_at hl 0 rfl) ?_
  refine va_get (D := D) (ci := 12) (v := .int (xq1.2 28 28)) (C := RX12) (T := TX12) (N := 34) hx hb hts iwX12 hown hK hP 28 (mg_2 rfl) rfl 28 (by decide) (hts _ mw_986) (fun _ h9 => h9) rfl dX12_fault_6 ?_
  refine lv_if_eq (tgt := 19) hx hb dX12_fault_9 (by decide) (fun hcq3 => ?_) (fun hcq3 => ?_)
  · have h := ifp hcq3 h
    refine lv_iconst (v := (-1)) hx hb dX12_fault_19 (by decide) ?_
    obtain rfl := Option.some.inj h
    exact W.iret (v := (-1)) hx hb hr (fun t ht hW => ⟨⟨_, _, rfl, ⟨rfl, rfl⟩, mPre_at h0 hS hP ht hW⟩, hS.F ht⟩) hS.2.2 dX12_fault_20
  have h := ifn hcq3 h
  refine lv_aload_n hx hb dX12_fault_12 rfl (lv_at hl 0 rfl) ?_
  refine va_get (D := D) (ci := 12) (v := .int (xq1.2 28 27)) (C := RX12) (T := TX12) (N := 34) hx hb hts iwX12 hown hK hP 28 (mg_2 rfl) rfl 27 (by decide) (hts _ mw_985) (fun _ h9 => h9) rfl dX12_fault_13 ?_
  refine lv_goto (tgt := 20) hx hb dX12_fault_16 (by decide) ?_
  obtain rfl := Option.some.inj h
  exact W.iret (v := xq1.2 28 27) hx hb hr (fun t ht hW => ⟨⟨_, _, rfl, ⟨rfl, rfl⟩, mPre_at h0 hS hP ht hW⟩, hS.F ht⟩) hS.2.2 dX12_fault_20
def fX12_does_L46 (p1 : Int32) : Nat → Int32 → QMem → Option (QMem)
  | 0, _, _ => none
  | n + 1, v3, τ =>
  if 24 ≤ v3 then (some τ) else (if (v3 < 0 ∨ ml 13 ≤ v3.toNatClampNeg) then none else ((fX12_does_L46 p1 n) (v3 + 1) (ms τ 13 v3.toNatClampNeg 0)))
def fX12_does (p1 : Int32) (σ : QMem) : Option (QMem) :=
  if (5 * p1 < 0 ∨ ml 25 ≤ (5 * p1).toNatClampNeg) then none else (if (p1 < 0 ∨ ml 24 ≤ p1.toNatClampNeg) then none else (if (σ 24 p1.toNatClampNeg) = 0 then (fX12_does_L46 p1 FU 0 σ) else (if (σ 24 p1.toNatClampNeg) = 1 then ((fX12_copies 25 ((5 * p1) + 1) 13 (4 * (σ 25 (5 * p1).toNatClampNeg)) σ).bind fun xq7 => (some xq7)) else (if (σ 24 p1.toNatClampNeg) = 2 then (if ((5 * p1) + 1 < 0 ∨ ml 25 ≤ ((5 * p1) + 1).toNatClampNeg) then none else ((fX12_copies 1 (4 * (σ 25 ((5 * p1) + 1).toNatClampNeg)) 13 (4 * (σ 25 (5 * p1).toNatClampNeg)) σ).bind fun xq11 => (some xq11))) else (if ((5 * p1) + 1 < 0 ∨ ml 25 ≤ ((5 * p1) + 1).toNatClampNeg) then none else ((fX12_copies 13 (4 * (σ 25 ((5 * p1) + 1).toNatClampNeg)) 13 (4 * (σ 25 (5 * p1).toNatClampNeg)) σ).bind fun xq14 => (some xq14)))))))
set_option maxHeartbeats 4000000 in
set_option maxRecDepth 100000 in
theorem kX12_does (l : Launch) (D : va_G) (G : xG) (σ : QMem) (p1 : Int32) (res : QMem) (h : fX12_does p1 σ = some res) : Met l yX12_does (.code yX12_does cX12_does 4 none :: lwW) (rmD 1) (mPc D G σ [.ref (G.1 28), .int p1]) (mQv D G res) 0 0 (mA G) := by
  refine Met.ofW (cc := cX12_does) (maxL := 4) (ret := none) (by decide) rfl ?_
  intro p e s m args below meth c s₁ B hml hv
  obtain ⟨rfl, h0⟩ := hv
  have hx := B.exec
  have hb := B.bytes
  have hr := B.returns
  have hts := fun (w : Cond) (hw : w ∈ lwW) => atoms_spec (ws := (.code yX12_does cX12_does 4 none :: lwW)) B.pre w (List.mem_cons_of_mem _ hw)
  have hown : s.vm.findClass RX12 = some m.cls := findClass_of_methodNamed B.named
  have hlocks := B.notSynchronized
  have hP := h0.1
  have hK := h0.2.1
  have hi := h0.2.2
  have hS : va_S (mA G) s.heap s.heap [] := va_S.rf
  have hl := lv_entry ([.ref (G.1 28), .int p1]) (n := 4) (Nat.le_of_ble_eq_true rfl)
  rw [lg_entry_eq]
  generalize (lg_sl ([.ref (G.1 28), .int p1]) ++ List.replicate (4 - (lg_sl ([.ref (G.1 28), .int p1])).length) Slot.unset).toArray = ls at hl ⊢
  have hl : lv_has ls 4 [(0, .ref (G.1 28)), (1, .int p1)] := hl
  unfold fX12_does at h
  have L46 : ∀ (n46 : Nat) (v3 : Int32) (τ : QMem) (H : Heap) (locs : List Loc) (ls : Array Slot), fX12_does_L46 p1 n46 v3 τ = some res → va_P D vwCl (mW G τ) H → va_S (mA G) s.heap H locs → lv_has ls 4 [(0, .ref (G.1 28)), (3, .int v3)] → W p l e (headSpec (.code yX12_does cX12_does 4 none :: lwW) (rmD 1)).room s m ([.ref (G.1 28), .int p1] : List Value).toArray below meth c H locs 0 0 (MQ below (mQv D G res) ([.ref (G.1 28), .int p1] : List Value).toArray s 0 0 (mA G)) (F0 m 46 ls []) := by
    intro n46
    induction n46 with
    | zero => intro v3 τ H locs ls h; rw [fX12_does_L46] at h; cases h
    | succ n46 ih46 =>
      intro v3 τ H locs ls h hP hS hl
      rw [fX12_does_L46] at h
      refine lv_iload_n hx hb dX12_does_46 rfl (lv_at hl 1 rfl) ?_
      refine lv_bipush (v := 24) hx hb dX12_does_47 (by decide) ?_
      refine lv_icmp_ge (tgt := 65) hx hb dX12_does_49 (by decide) (fun hcq1 => ?_) (fun hcq1 => ?_)
      · have h := ifp hcq1 h
        refine lv_goto (tgt := 139) hx hb dX12_does_65 (by decide) ?_
        obtain rfl := Option.some.inj h
        exact W.vret hx hb hr (fun t ht hW => ⟨⟨_, rfl, rfl, mPre_at h0 hS hP ht hW⟩, hS.F ht⟩) hS.2.2 dX12_does_139
      have h := ifn hcq1 h
      refine lv_aload_n hx hb dX12_does_52 rfl (lv_at hl 0 rfl) ?_
      refine va_get (D := D) (ci := 12) (v := .ref (G.1 13)) (C := RX12) (T := TX12) (N := 34) hx hb hts iwX12 hown hK hP 28 (mg_2 rfl) rfl 14 (by decide) (hts _ mw_972) (fun _ h9 => h9) rfl dX12_does_53 ?_
      refine lv_iload_n hx hb dX12_does_56 rfl (lv_at hl 1 rfl) ?_
      refine lv_iconst (v := 0) hx hb dX12_does_57 (by decide) ?_
      obtain ⟨hiq2, h⟩ := nif h
      refine va_iast hx hb hK hP (mD hi) hS 13 0 (mg_0 rfl) rfl hiq2 dX12_does_58 (fun H locs hP hD hS => ?_)
      have hP : va_P D vwCl (mW G (ms τ 13 v3.toNatClampNeg 0)) H := by rw [← ms_0x rfl]; exact hP
      refine lv_iinc (v := v3 + 1) (lv' := [(3, .int (v3 + 1)), (0, .ref (G.1 28))]) hx hb dX12_does_59 hl (k := 1) rfl rfl (by decide) rfl (fun ls hl => ?_)
      refine lv_goto (tgt := 46) hx hb dX12_does_62 (by decide) ?_
      exact ih46 (v3 + 1) _ _ _ _ h hP hS (lv_sub hl [1, 0] rfl)
  refine lv_iconst (v := 4) hx hb dX12_does_0 (by decide) ?_
  refine lv_aload_n hx hb dX12_does_1 rfl (lv_at hl 0 rfl) ?_
  refine va_get (D := D) (ci := 12) (v := .ref (G.1 25)) (C := RX12) (T := TX12) (N := 34) hx hb hts iwX12 hown hK hP 28 (mg_2 rfl) rfl 30 (by decide) (hts _ mw_988) (fun _ h9 => h9) rfl dX12_does_2 ?_
  refine lv_iconst (v := 5) hx hb dX12_does_5 (by decide) ?_
  refine lv_iload_n hx hb dX12_does_6 rfl (lv_at hl 1 rfl) ?_
  refine lv_imul hx hb dX12_does_7 ?_
  obtain ⟨hiq3, h⟩ := nif h
  refine va_iald hx hb hK hP 25 0 (mg_0 rfl) rfl hiq3 dX12_does_8 ?_
  refine lv_imul hx hb dX12_does_9 ?_
  refine lv_istore_n (lv' := [(2, .int (4 * (σ 25 (5 * p1).toNatClampNeg))), (0, .ref (G.1 28)), (1, .int p1)]) hx hb dX12_does_10 rfl hl (by decide) rfl (fun ls hl => ?_)
  refine lv_aload_n hx hb dX12_does_11 rfl (lv_at hl 1 rfl) ?_
  refine va_get (D := D) (ci := 12) (v := .ref (G.1 24)) (C := RX12) (T := TX12) (N := 34) hx hb hts iwX12 hown hK hP 28 (mg_2 rfl) rfl 29 (by decide) (hts _ mw_987) (fun _ h9 => h9) rfl dX12_does_12 ?_
  refine lv_iload_n hx hb dX12_does_15 rfl (lv_at hl 2 rfl) ?_
  obtain ⟨hiq4, h⟩ := nif h
  refine va_iald hx hb hK hP 24 0 (mg_0 rfl) rfl hiq4 dX12_does_16 ?_
  by_cases hcq5 : (σ 24 p1.toNatClampNeg) = 0
  · have h := ifp hcq5 h
    refine lv_tableIn (off := 27) (tgt := 44) hx hb dX12_does_17 (by rw [hcq5]; decide) (by rw [hcq5]; decide) (by rw [hcq5]; rfl) (by decide) ?_
    refine lv_iconst (v := 0) hx hb dX12_does_44 (by decide) ?_
    refine lv_istore_n (lv' := [(3, .int 0), (2, .int (4 * (σ 25 (5 * p1).toNatClampNeg))), (0, .ref (G.1 28)), (1, .int p1)]) hx hb dX12_does_45 rfl hl (by decide) rfl (fun ls hl => ?_)
    exact L46 FU 0 _ _ _ _ h hP hS (lv_sub hl [2, 0] rfl)
  have h := ifn hcq5 h
  by_cases hcq6 : (σ 24 p1.toNatClampNeg) = 1
  · have h := ifp hcq6 h
    refine lv_tableIn (off := 51) (tgt := 68) hx hb dX12_does_17 (by rw [hcq6]; decide) (by rw [hcq6]; decide) (by rw [hcq6]; rfl) (by decide) ?_
    refine lv_aload_n hx hb dX12_does_68 rfl (lv_at hl 1 rfl) ?_
    refine va_get (D := D) (ci := 12) (v := .ref (G.1 25)) (C := RX12) (T := TX12) (N := 34) hx hb hts iwX12 hown hK hP 28 (mg_2 rfl) rfl 30 (by decide) (hts _ mw_988) (fun _ h9 => h9) rfl dX12_does_69 ?_
    refine lv_iconst (v := 5) hx hb dX12_does_72 (by decide) ?_
    refine lv_iload_n hx hb dX12_does_73 rfl (lv_at hl 2 rfl) ?_
    refine lv_imul hx hb dX12_does_74 ?_
    refine lv_iconst (v := 1) hx hb dX12_does_75 (by decide) ?_
    refine lv_iadd hx hb dX12_does_76 ?_
    refine lv_aload_n hx hb dX12_does_77 rfl (lv_at hl 1 rfl) ?_
    refine va_get (D := D) (ci := 12) (v := .ref (G.1 13)) (C := RX12) (T := TX12) (N := 34) hx hb hts iwX12 hown hK hP 28 (mg_2 rfl) rfl 14 (by decide) (hts _ mw_972) (fun _ h9 => h9) rfl dX12_does_78 ?_
    refine lv_iload_n hx hb dX12_does_81 rfl (lv_at hl 0 rfl) ?_
    obtain ⟨xq7, hfq8, h⟩ := obd h
    refine va_callv (va_runS (As := [.ref (G.1 25), .int ((5 * p1) + 1), .ref (G.1 13), .int (4 * (σ 25 (5 * p1).toNatClampNeg))]) (rest := []) ⟨hx, hb, hml, hown, hts⟩ (kX12_copies l D G _ 25 rfl ((5 * p1) + 1) 13 rfl (4 * (σ 25 (5 * p1).toNatClampNeg)) xq7 hfq8) (va_cwS 4 hts (lwW_gS mw_955 mw_956 mw_14 mw_957) rfl rfl rfl (by decide +kernel) ⟨Nat.le_of_ble_eq_true rfl, Nat.le_of_ble_eq_true rfl⟩) ⟨fun a U g mk q => ⟨q.1, mPre_call q.2⟩, fun U hU hW => ⟨rfl, mPre_at h0 hS hP hU hW⟩⟩ rfl rfl hl.1 rfl (lv_room (Nat.le_of_ble_eq_true rfl)) dX12_does_82 ⟨Nat.zero_le _, Nat.zero_le _⟩) hS (fun q _ h => h) (fun q h => h) (fun u t H1 locs ht hvm hw hB hz1 hq1 hS => ?_)
    obtain rfl := hw.symm
    have hP := hB.1
    rw [ht] at hP
    refine W.widen (k := 0) (n := 0) (Nat.le_refl _) (Nat.le_refl _) ?_
    refine lv_goto (tgt := 139) hx hb dX12_does_85 (by decide) ?_
    obtain rfl := Option.some.inj h
    exact W.vret hx hb hr (fun t ht hW => ⟨⟨_, rfl, rfl, mPre_at h0 hS hP ht hW⟩, hS.F ht⟩) hS.2.2 dX12_does_139
  have h := ifn hcq6 h
  by_cases hcq9 : (σ 24 p1.toNatClampNeg) = 2
  · have h := ifp hcq9 h
    refine lv_tableIn (off := 71) (tgt := 88) hx hb dX12_does_17 (by rw [hcq9]; decide) (by rw [hcq9]; decide) (by rw [hcq9]; rfl) (by decide) ?_
    refine lv_aload_n hx hb dX12_does_88 rfl (lv_at hl 1 rfl) ?_
    refine va_get (D := D) (ci := 12) (v := .ref (G.1 1)) (C := RX12) (T := TX12) (N := 34) hx hb hts iwX12 hown hK hP 28 (mg_2 rfl) rfl 1 (by decide) (hts _ mw_959) (fun _ h9 => h9) rfl dX12_does_89 ?_
    refine lv_iconst (v := 4) hx hb dX12_does_92 (by decide) ?_
    refine lv_aload_n hx hb dX12_does_93 rfl (lv_at hl 1 rfl) ?_
    refine va_get (D := D) (ci := 12) (v := .ref (G.1 25)) (C := RX12) (T := TX12) (N := 34) hx hb hts iwX12 hown hK hP 28 (mg_2 rfl) rfl 30 (by decide) (hts _ mw_988) (fun _ h9 => h9) rfl dX12_does_94 ?_
    refine lv_iconst (v := 5) hx hb dX12_does_97 (by decide) ?_
    refine lv_iload_n hx hb dX12_does_98 rfl (lv_at hl 2 rfl) ?_
    refine lv_imul hx hb dX12_does_99 ?_
    refine lv_iconst (v := 1) hx hb dX12_does_100 (by decide) ?_
    refine lv_iadd hx hb dX12_does_101 ?_
    obtain ⟨hiq10, h⟩ := nif h
    refine va_iald hx hb hK hP 25 0 (mg_0 rfl) rfl hiq10 dX12_does_102 ?_
    refine lv_imul hx hb dX12_does_103 ?_
    refine lv_aload_n hx hb dX12_does_104 rfl (lv_at hl 1 rfl) ?_
    refine va_get (D := D) (ci := 12) (v := .ref (G.1 13)) (C := RX12) (T := TX12) (N := 34) hx hb hts iwX12 hown hK hP 28 (mg_2 rfl) rfl 14 (by decide) (hts _ mw_972) (fun _ h9 => h9) rfl dX12_does_105 ?_
    refine lv_iload_n hx hb dX12_does_108 rfl (lv_at hl 0 rfl) ?_
    obtain ⟨xq11, hfq12, h⟩ := obd h
    refine va_callv (va_runS (As := [.ref (G.1 1), .int (4 * (σ 25 ((5 * p1) + 1).toNatClampNeg)), .ref (G.1 13), .int (4 * (σ 25 (5 * p1).toNatClampNeg))]) (rest := []) ⟨hx, hb, hml, hown, hts⟩ (kX12_copies l D G _ 1 rfl (4 * (σ 25 ((5 * p1) + 1).toNatClampNeg)) 13 rfl (4 * (σ 25 (5 * p1).toNatClampNeg)) xq11 hfq12) (va_cwS 4 hts (lwW_gS mw_955 mw_956 mw_14 mw_957) rfl rfl rfl (by decide +kernel) ⟨Nat.le_of_ble_eq_true rfl, Nat.le_of_ble_eq_true rfl⟩) ⟨fun a U g mk q => ⟨q.1, mPre_call q.2⟩, fun U hU hW => ⟨rfl, mPre_at h0 hS hP hU hW⟩⟩ rfl rfl hl.1 rfl (lv_room (Nat.le_of_ble_eq_true rfl)) dX12_does_109 ⟨Nat.zero_le _, Nat.zero_le _⟩) hS (fun q _ h => h) (fun q h => h) (fun u t H1 locs ht hvm hw hB hz1 hq1 hS => ?_)
    obtain rfl := hw.symm
    have hP := hB.1
    rw [ht] at hP
    refine W.widen (k := 0) (n := 0) (Nat.le_refl _) (Nat.le_refl _) ?_
    refine lv_goto (tgt := 139) hx hb dX12_does_112 (by decide) ?_
    obtain rfl := Option.some.inj h
    exact W.vret hx hb hr (fun t ht hW => ⟨⟨_, rfl, rfl, mPre_at h0 hS hP ht hW⟩, hS.F ht⟩) hS.2.2 dX12_does_139
  have h := ifn hcq9 h
  refine lv_tableOut (tgt := 115) hx hb dX12_does_17 (by have t0 := toI_ne hcq5; have t1 := toI_ne hcq6; have t2 := toI_ne hcq9; rw [show (0 : Int32).toInt = 0 from by decide] at t0; rw [show (1 : Int32).toInt = 1 from by decide] at t1; rw [show (2 : Int32).toInt = 2 from by decide] at t2; omega) (by decide) ?_
  refine lv_aload_n hx hb dX12_does_115 rfl (lv_at hl 1 rfl) ?_
  refine va_get (D := D) (ci := 12) (v := .ref (G.1 13)) (C := RX12) (T := TX12) (N := 34) hx hb hts iwX12 hown hK hP 28 (mg_2 rfl) rfl 14 (by decide) (hts _ mw_972) (fun _ h9 => h9) rfl dX12_does_116 ?_
  refine lv_iconst (v := 4) hx hb dX12_does_119 (by decide) ?_
  refine lv_aload_n hx hb dX12_does_120 rfl (lv_at hl 1 rfl) ?_
  refine va_get (D := D) (ci := 12) (v := .ref (G.1 25)) (C := RX12) (T := TX12) (N := 34) hx hb hts iwX12 hown hK hP 28 (mg_2 rfl) rfl 30 (by decide) (hts _ mw_988) (fun _ h9 => h9) rfl dX12_does_121 ?_
  refine lv_iconst (v := 5) hx hb dX12_does_124 (by decide) ?_
  refine lv_iload_n hx hb dX12_does_125 rfl (lv_at hl 2 rfl) ?_
  refine lv_imul hx hb dX12_does_126 ?_
  refine lv_iconst (v := 1) hx hb dX12_does_127 (by decide) ?_
  refine lv_iadd hx hb dX12_does_128 ?_
  obtain ⟨hiq13, h⟩ := nif h
  refine va_iald hx hb hK hP 25 0 (mg_0 rfl) rfl hiq13 dX12_does_129 ?_
  refine lv_imul hx hb dX12_does_130 ?_
  refine lv_aload_n hx hb dX12_does_131 rfl (lv_at hl 1 rfl) ?_
  refine va_get (D := D) (ci := 12) (v := .ref (G.1 13)) (C := RX12) (T := TX12) (N := 34) hx hb hts iwX12 hown hK hP 28 (mg_2 rfl) rfl 14 (by decide) (hts _ mw_972) (fun _ h9 => h9) rfl dX12_does_132 ?_
  refine lv_iload_n hx hb dX12_does_135 rfl (lv_at hl 0 rfl) ?_
  obtain ⟨xq14, hfq15, h⟩ := obd h
  refine va_callv (va_runS (As := [.ref (G.1 13), .int (4 * (σ 25 ((5 * p1) + 1).toNatClampNeg)), .ref (G.1 13), .int (4 * (σ 25 (5 * p1).toNatClampNeg))]) (rest := []) ⟨hx, hb, hml, hown, hts⟩ (kX12_copies l D G _ 13 rfl (4 * (σ 25 ((5 * p1) + 1).toNatClampNeg)) 13 rfl (4 * (σ 25 (5 * p1).toNatClampNeg)) xq14 hfq15) (va_cwS 4 hts (lwW_gS mw_955 mw_956 mw_14 mw_957) rfl rfl rfl (by decide +kernel) ⟨Nat.le_of_ble_eq_true rfl, Nat.le_of_ble_eq_true rfl⟩) ⟨fun a U g mk q => ⟨q.1, mPre_call q.2⟩, fun U hU hW => ⟨rfl, mPre_at h0 hS hP hU hW⟩⟩ rfl rfl hl.1 rfl (lv_room (Nat.le_of_ble_eq_true rfl)) dX12_does_136 ⟨Nat.zero_le _, Nat.zero_le _⟩) hS (fun q _ h => h) (fun q h => h) (fun u t H1 locs ht hvm hw hB hz1 hq1 hS => ?_)
  obtain rfl := hw.symm
  have hP := hB.1
  rw [ht] at hP
  refine W.widen (k := 0) (n := 0) (Nat.le_refl _) (Nat.le_refl _) ?_
  obtain rfl := Option.some.inj h
  exact W.vret hx hb hr (fun t ht hW => ⟨⟨_, rfl, rfl, mPre_at h0 hS hP ht hW⟩, hS.F ht⟩) hS.2.2 dX12_does_139
def fX12_desk_L60  : Nat → Int32 → Int32 → QMem → Option (Int32 × QMem)
  | 0, _, _, _ => none
  | n + 1, v1, v2, τ =>
  if 3 ≤ v2 then (some (v1, τ)) else (if (v2 < 0 ∨ ml 26 ≤ v2.toNatClampNeg) then none else ((fX12_desk_L60 n) v1 (v2 + 1) (ms τ 26 v2.toNatClampNeg (-1))))
def fX12_desk_L23  : Nat → Int32 → Int32 → QMem → Option (Int32 × QMem)
  | 0, _, _, _ => none
  | n + 1, v1, v2, τ =>
  if v1 ≤ v2 then (if ((0 : Int32) < 0 ∨ ml 15 ≤ (0 : Int32).toNatClampNeg) then none else (if ((1 : Int32) < 0 ∨ ml 15 ≤ (1 : Int32).toNatClampNeg) then none else (fX12_desk_L60 FU v1 0 (ms (ms (ms τ 28 15 0) 15 (0 : Int32).toNatClampNeg 0) 15 (1 : Int32).toNatClampNeg 0)))) else ((fX12_does v2 τ).bind fun xq6 => ((fX12_desk_L23 n) v1 (v2 + 1) xq6))
def fX12_desk  (σ : QMem) : Option (Int32 × QMem) :=
  (fX12_reads σ).bind fun xq8 => (if (xq8.2 28 28) = 0 then (fX12_desk_L23 FU xq8.1 0 (ms xq8.2 28 26 0)) else (some ((-1003), xq8.2)))
set_option maxHeartbeats 4000000 in
set_option maxRecDepth 100000 in
theorem kX12_desk (l : Launch) (D : va_G) (G : xG) (σ : QMem) (res : Int32 × QMem) (h : fX12_desk σ = some res) : Met l yX12_desk (.code yX12_desk cX12_desk 3 (some .int) :: lwW) (rmD 6) (mPc D G σ [.ref (G.1 28)]) (mQi D G res) 0 0 (mA G) := by
  refine Met.ofW (cc := cX12_desk) (maxL := 3) (ret := (some .int)) (by decide) rfl ?_
  intro p e s m args below meth c s₁ B hml hv
  obtain ⟨rfl, h0⟩ := hv
  have hx := B.exec
  have hb := B.bytes
  have hr := B.returns
  have hts := fun (w : Cond) (hw : w ∈ lwW) => atoms_spec (ws := (.code yX12_desk cX12_desk 3 (some .int) :: lwW)) B.pre w (List.mem_cons_of_mem _ hw)
  have hown : s.vm.findClass RX12 = some m.cls := findClass_of_methodNamed B.named
  have hlocks := B.notSynchronized
  have hP := h0.1
  have hK := h0.2.1
  have hi := h0.2.2
  have hS : va_S (mA G) s.heap s.heap [] := va_S.rf
  have hl := lv_entry ([.ref (G.1 28)]) (n := 3) (Nat.le_of_ble_eq_true rfl)
  rw [lg_entry_eq]
  generalize (lg_sl ([.ref (G.1 28)]) ++ List.replicate (3 - (lg_sl ([.ref (G.1 28)])).length) Slot.unset).toArray = ls at hl ⊢
  have hl : lv_has ls 3 [(0, .ref (G.1 28))] := hl
  unfold fX12_desk at h
  have L60 : ∀ (n60 : Nat) (v1 : Int32) (v2 : Int32) (τ : QMem) (H : Heap) (locs : List Loc) (ls : Array Slot), fX12_desk_L60 n60 v1 v2 τ = some res → va_P D vwCl (mW G τ) H → va_S (mA G) s.heap H locs → lv_has ls 3 [(0, .ref (G.1 28)), (1, .int v1), (2, .int v2)] → W p l e (headSpec (.code yX12_desk cX12_desk 3 (some .int) :: lwW) (rmD 6)).room s m ([.ref (G.1 28)] : List Value).toArray below meth c H locs 0 0 (MQ below (mQi D G res) ([.ref (G.1 28)] : List Value).toArray s 0 0 (mA G)) (F0 m 60 ls []) := by
    intro n60
    induction n60 with
    | zero => intro v1 v2 τ H locs ls h; rw [fX12_desk_L60] at h; cases h
    | succ n60 ih60 =>
      intro v1 v2 τ H locs ls h hP hS hl
      rw [fX12_desk_L60] at h
      refine lv_iload_n hx hb dX12_desk_60 rfl (lv_at hl 2 rfl) ?_
      refine lv_iconst (v := 3) hx hb dX12_desk_61 (by decide) ?_
      refine lv_icmp_ge (tgt := 78) hx hb dX12_desk_62 (by decide) (fun hcq1 => ?_) (fun hcq1 => ?_)
      · have h := ifp hcq1 h
        refine lv_iload_n hx hb dX12_desk_78 rfl (lv_at hl 1 rfl) ?_
        obtain rfl := Option.some.inj h
        exact W.iret (v := v1) hx hb hr (fun t ht hW => ⟨⟨_, _, rfl, ⟨rfl, rfl⟩, mPre_at h0 hS hP ht hW⟩, hS.F ht⟩) hS.2.2 dX12_desk_79
      have h := ifn hcq1 h
      refine lv_aload_n hx hb dX12_desk_65 rfl (lv_at hl 0 rfl) ?_
      refine va_get (D := D) (ci := 12) (v := .ref (G.1 26)) (C := RX12) (T := TX12) (N := 34) hx hb hts iwX12 hown hK hP 28 (mg_2 rfl) rfl 31 (by decide) (hts _ mw_989) (fun _ h9 => h9) rfl dX12_desk_66 ?_
      refine lv_iload_n hx hb dX12_desk_69 rfl (lv_at hl 2 rfl) ?_
      refine lv_iconst (v := (-1)) hx hb dX12_desk_70 (by decide) ?_
      obtain ⟨hiq2, h⟩ := nif h
      refine va_iast hx hb hK hP (mD hi) hS 26 0 (mg_0 rfl) rfl hiq2 dX12_desk_71 (fun H locs hP hD hS => ?_)
      have hP : va_P D vwCl (mW G (ms τ 26 v2.toNatClampNeg (-1))) H := by rw [← ms_0x rfl]; exact hP
      refine lv_iinc (v := v2 + 1) (lv' := [(2, .int (v2 + 1)), (0, .ref (G.1 28)), (1, .int v1)]) hx hb dX12_desk_72 hl (k := 2) rfl rfl (by decide) rfl (fun ls hl => ?_)
      refine lv_goto (tgt := 60) hx hb dX12_desk_75 (by decide) ?_
      exact ih60 v1 (v2 + 1) _ _ _ _ h hP hS (lv_sub hl [1, 2, 0] rfl)
  have L23 : ∀ (n23 : Nat) (v1 : Int32) (v2 : Int32) (τ : QMem) (H : Heap) (locs : List Loc) (ls : Array Slot), fX12_desk_L23 n23 v1 v2 τ = some res → va_P D vwCl (mW G τ) H → va_S (mA G) s.heap H locs → lv_has ls 3 [(0, .ref (G.1 28)), (1, .int v1), (2, .int v2)] → W p l e (headSpec (.code yX12_desk cX12_desk 3 (some .int) :: lwW) (rmD 6)).room s m ([.ref (G.1 28)] : List Value).toArray below meth c H locs 0 0 (MQ below (mQi D G res) ([.ref (G.1 28)] : List Value).toArray s 0 0 (mA G)) (F0 m 23 ls []) := by
    intro n23
    induction n23 with
    | zero => intro v1 v2 τ H locs ls h; rw [fX12_desk_L23] at h; cases h
    | succ n23 ih23 =>
      intro v1 v2 τ H locs ls h hP hS hl
      rw [fX12_desk_L23] at h
      refine lv_iload_n hx hb dX12_desk_23 rfl (lv_at hl 2 rfl) ?_
      refine lv_iload_n hx hb dX12_desk_24 rfl (lv_at hl 1 rfl) ?_
      refine lv_icmp_ge (tgt := 39) hx hb dX12_desk_25 (by decide) (fun hcq3 => ?_) (fun hcq3 => ?_)
      · have h := ifp hcq3 h
        refine lv_aload_n hx hb dX12_desk_39 rfl (lv_at hl 0 rfl) ?_
        refine lv_iconst (v := 0) hx hb dX12_desk_40 (by decide) ?_
        refine va_put (D := D) (ci := 12) (v := .int 0) (ty := .int) (C := RX12) (T := TX12) (N := 34) hx hb hts iwX12 tyX12 tyX12_ok nmX12 hown hK hP (mD hi) hS 28 (mg_2 rfl) rfl 15 (by decide) (hts _ mw_973) (fun _ h9 => h9) rfl (by decide +kernel) rfl rfl (Nat.le_of_ble_eq_true rfl) dX12_desk_41 (fun H locs hP hD hS => ?_)
        have hP : va_P D vwCl (mW G (ms τ 28 15 0)) H := by rw [← ms_2_15 rfl]; exact hP
        refine lv_aload_n hx hb dX12_desk_44 rfl (lv_at hl 0 rfl) ?_
        refine va_get (D := D) (ci := 12) (v := .ref (G.1 15)) (C := RX12) (T := TX12) (N := 34) hx hb hts iwX12 hown hK hP 28 (mg_2 rfl) rfl 17 (by decide) (hts _ mw_975) (fun _ h9 => h9) rfl dX12_desk_45 ?_
        refine lv_iconst (v := 0) hx hb dX12_desk_48 (by decide) ?_
        refine lv_iconst (v := 0) hx hb dX12_desk_49 (by decide) ?_
        obtain ⟨hiq4, h⟩ := nif h
        refine va_zast hx hb hK hP (mD hi) hS 15 1 (mg_1 rfl) rfl hiq4 dX12_desk_50 (fun H locs hP hD hS => ?_)
        have hP : va_P D vwCl (mW G (ms (ms τ 28 15 0) 15 (0 : Int32).toNatClampNeg 0)) H := by rw [← ms_1x rfl]; exact hP
        refine lv_aload_n hx hb dX12_desk_51 rfl (lv_at hl 0 rfl) ?_
        refine va_get (D := D) (ci := 12) (v := .ref (G.1 15)) (C := RX12) (T := TX12) (N := 34) hx hb hts iwX12 hown hK hP 28 (mg_2 rfl) rfl 17 (by decide) (hts _ mw_975) (fun _ h9 => h9) rfl dX12_desk_52 ?_
        refine lv_iconst (v := 1) hx hb dX12_desk_55 (by decide) ?_
        refine lv_iconst (v := 0) hx hb dX12_desk_56 (by decide) ?_
        obtain ⟨hiq5, h⟩ := nif h
        refine va_zast hx hb hK hP (mD hi) hS 15 1 (mg_1 rfl) rfl hiq5 dX12_desk_57 (fun H locs hP hD hS => ?_)
        have hP : va_P D vwCl (mW G (ms (ms (ms τ 28 15 0) 15 (0 : Int32).toNatClampNeg 0) 15 (1 : Int32).toNatClampNeg 0)) H := by rw [← ms_1x rfl]; exact hP
        refine lv_iconst (v := 0) hx hb dX12_desk_58 (by decide) ?_
        refine lv_istore_n (lv' := [(2, .int 0), (0, .ref (G.1 28)), (1, .int v1)]) hx hb dX12_desk_59 rfl hl (by decide) rfl (fun ls hl => ?_)
        exact L60 FU v1 0 _ _ _ _ h hP hS (lv_sub hl [1, 2, 0] rfl)
      have h := ifn hcq3 h
      refine lv_aload_n hx hb dX12_desk_28 rfl (lv_at hl 0 rfl) ?_
      refine lv_iload_n hx hb dX12_desk_29 rfl (lv_at hl 2 rfl) ?_
      obtain ⟨xq6, hfq7, h⟩ := obd h
      refine va_callv (va_runV (As := [.int v2]) (rest := []) ⟨hx, hb, hml, hown, hts⟩ (kX12_does l D G _ v2 xq6 hfq7) (cwV 1 hts (lwW_gV mw_1297 mw_1299 ms_56 mw_14 mw_1300) rfl rfl rfl (by decide +kernel) ⟨Nat.le_of_ble_eq_true rfl, Nat.le_of_ble_eq_true rfl⟩) ⟨fun a U g mk q => ⟨q.1, mPre_call q.2⟩, va_recv hK hP rfl (mg_2 rfl), fun U hU hW => ⟨rfl, mPre_at h0 hS hP hU hW⟩⟩ rfl rfl hl.1 rfl (lv_room (Nat.le_of_ble_eq_true rfl)) dX12_desk_30 ⟨Nat.zero_le _, Nat.zero_le _⟩) hS (fun q _ h => h) (fun q h => h) (fun u t H1 locs ht hvm hw hB hz1 hq1 hS => ?_)
      obtain rfl := hw.symm
      have hP := hB.1
      rw [ht] at hP
      refine W.widen (k := 0) (n := 0) (Nat.le_refl _) (Nat.le_refl _) ?_
      refine lv_iinc (v := v2 + 1) (lv' := [(2, .int (v2 + 1)), (0, .ref (G.1 28)), (1, .int v1)]) hx hb dX12_desk_33 hl (k := 2) rfl rfl (by decide) rfl (fun ls hl => ?_)
      refine lv_goto (tgt := 23) hx hb dX12_desk_36 (by decide) ?_
      exact ih23 v1 (v2 + 1) _ _ _ _ h hP hS (lv_sub hl [1, 2, 0] rfl)
  refine lv_aload_n hx hb dX12_desk_0 rfl (lv_at hl 0 rfl) ?_
  obtain ⟨xq8, hfq9, h⟩ := obd h
  refine va_calli (va_runV (As := []) (rest := []) ⟨hx, hb, hml, hown, hts⟩ (kX12_reads l D G _ xq8 hfq9) (cwV 0 hts (lwW_gV mw_1253 mw_1255 ms_46 mw_14 mw_1256) rfl rfl rfl (by decide +kernel) ⟨Nat.le_of_ble_eq_true rfl, Nat.le_of_ble_eq_true rfl⟩) ⟨fun a U g mk q => ⟨q.1, mPre_call q.2⟩, va_recv hK hP rfl (mg_2 rfl), fun U hU hW => ⟨rfl, mPre_at h0 hS hP hU hW⟩⟩ rfl rfl hl.1 rfl (lv_room (Nat.le_of_ble_eq_true rfl)) dX12_desk_1 ⟨Nat.zero_le _, Nat.zero_le _⟩) hS (fun q _ h => h) (fun q h => h) (fun r u t H1 locs ht hvm hw hB hz1 hq1 hS => ?_)
  obtain ⟨rfl, rfl⟩ := hw
  have hP := hB.1
  rw [ht] at hP
  refine W.widen (k := 0) (n := 0) (Nat.le_refl _) (Nat.le_refl _) ?_
  refine lv_istore_n (lv' := [(1, .int xq8.1), (0, .ref (G.1 28))]) hx hb dX12_desk_4 rfl hl (by decide) rfl (fun ls hl => ?_)
  refine lv_aload_n hx hb dX12_desk_5 rfl (lv_at hl 1 rfl) ?_
  refine va_get (D := D) (ci := 12) (v := .int (xq8.2 28 28)) (C := RX12) (T := TX12) (N := 34) hx hb hts iwX12 hown hK hP 28 (mg_2 rfl) rfl 28 (by decide) (hts _ mw_986) (fun _ h9 => h9) rfl dX12_desk_6 ?_
  refine lv_if_eq (tgt := 16) hx hb dX12_desk_9 (by decide) (fun hcq10 => ?_) (fun hcq10 => ?_)
  · have h := ifp hcq10 h
    refine lv_aload_n hx hb dX12_desk_16 rfl (lv_at hl 1 rfl) ?_
    refine lv_iconst (v := 0) hx hb dX12_desk_17 (by decide) ?_
    refine va_put (D := D) (ci := 12) (v := .int 0) (ty := .int) (C := RX12) (T := TX12) (N := 34) hx hb hts iwX12 tyX12 tyX12_ok nmX12 hown hK hP (mD hi) hS 28 (mg_2 rfl) rfl 26 (by decide) (hts _ mw_984) (fun _ h9 => h9) rfl (by decide +kernel) rfl rfl (Nat.le_of_ble_eq_true rfl) dX12_desk_18 (fun H locs hP hD hS => ?_)
    have hP : va_P D vwCl (mW G (ms xq8.2 28 26 0)) H := by rw [← ms_2_26 rfl]; exact hP
    refine lv_iconst (v := 0) hx hb dX12_desk_21 (by decide) ?_
    refine lv_istore_n (lv' := [(2, .int 0), (1, .int xq8.1), (0, .ref (G.1 28))]) hx hb dX12_desk_22 rfl hl (by decide) rfl (fun ls hl => ?_)
    exact L23 FU xq8.1 0 _ _ _ _ h hP hS (lv_sub hl [2, 1, 0] rfl)
  have h := ifn hcq10 h
  refine lv_sipush (v := (-1003)) hx hb dX12_desk_12 (by decide) ?_
  obtain rfl := Option.some.inj h
  exact W.iret (v := (-1003)) hx hb hr (fun t ht hW => ⟨⟨_, _, rfl, ⟨rfl, rfl⟩, mPre_at h0 hS hP ht hW⟩, hS.F ht⟩) hS.2.2 dX12_desk_15
def fX12_isTally (p0 : Int32) : Option (Int32) :=
  (fX12_in p0 0 2).bind fun xq1 => (if ¬ (xq1 = 0 ∨ xq1 = 1) then none else (some xq1))
set_option maxHeartbeats 4000000 in
set_option maxRecDepth 100000 in
theorem kX12_isTally (l : Launch) (p0 : Int32) (res : Int32) (h : fX12_isTally p0 = some res) : Met l yX12_isTally (.code yX12_isTally cX12_isTally 1 (some .boolean) :: lwW) (rmD 1) (nPc [.int p0]) (nQi res) 0 0 (fun _ => False) := by
  refine Met.ofW (cc := cX12_isTally) (maxL := 1) (ret := (some .boolean)) (by decide) rfl ?_
  intro p e s m args below meth c s₁ B hml hv
  obtain ⟨rfl, h0⟩ := hv
  have hx := B.exec
  have hb := B.bytes
  have hr := B.returns
  have hts := fun (w : Cond) (hw : w ∈ lwW) => atoms_spec (ws := (.code yX12_isTally cX12_isTally 1 (some .boolean) :: lwW)) B.pre w (List.mem_cons_of_mem _ hw)
  have hown : s.vm.findClass RX12 = some m.cls := findClass_of_methodNamed B.named
  have hlocks := B.notSynchronized
  have hS : va_S (fun _ => False) s.heap s.heap [] := va_S.rf
  have hl := lv_entry ([.int p0]) (n := 1) (Nat.le_of_ble_eq_true rfl)
  rw [lg_entry_eq]
  generalize (lg_sl ([.int p0]) ++ List.replicate (1 - (lg_sl ([.int p0])).length) Slot.unset).toArray = ls at hl ⊢
  have hl : lv_has ls 1 [(0, .int p0)] := hl
  unfold fX12_isTally at h
  refine lv_iload_n hx hb dX12_isTally_0 rfl (lv_at hl 0 rfl) ?_
  refine lv_iconst (v := 0) hx hb dX12_isTally_1 (by decide) ?_
  refine lv_iconst (v := 2) hx hb dX12_isTally_2 (by decide) ?_
  obtain ⟨xq1, hfq2, h⟩ := obd h
  refine va_calli (va_runS (As := [.int p0, .int 0, .int 2]) (rest := []) ⟨hx, hb, hml, hown, hts⟩ (kX12_in l p0 0 2 xq1 hfq2) (va_cwS 3 hts (lwW_gS mw_1069 mw_1070 mw_14 mw_1071) rfl rfl rfl (by decide +kernel) ⟨Nat.le_of_ble_eq_true rfl, Nat.le_of_ble_eq_true rfl⟩) ⟨fun a U g mk q => ⟨q.1, trivial⟩, fun U hU hW => ⟨rfl, trivial⟩⟩ rfl rfl hl.1 rfl (lv_room (Nat.le_of_ble_eq_true rfl)) dX12_isTally_3 ⟨Nat.zero_le _, Nat.zero_le _⟩) hS (fun q _ h => h.elim) (fun q h => h.elim) (fun r u t H1 locs ht hvm hw hB hz1 hq1 hS => ?_)
  obtain rfl := hw.symm
  refine W.widen (k := 0) (n := 0) (Nat.le_refl _) (Nat.le_refl _) ?_
  obtain ⟨hzq3, h⟩ := nif h
  have hzq3 := Decidable.not_not.mp hzq3
  obtain rfl := Option.some.inj h
  exact W.zret hx hb hr (nar01 hzq3) (fun t ht hW => ⟨⟨_, (), rfl, rfl, trivial⟩, hS.F ht⟩) hS.2.2 dX12_isTally_6
def fX12_tally_L38 (p1 : Int32) (p2 : Int32) : Nat → Int32 → QMem → Option (Int32 × QMem)
  | 0, _, _ => none
  | n + 1, v3, τ =>
  if 6 ≤ v3 then (some (p2, τ)) else (if ((6 * p1) + v3 < 0 ∨ ml 27 ≤ ((6 * p1) + v3).toNatClampNeg) then none else ((fX12_tally_L38 p1 p2 n) (v3 + 1) (ms τ 27 ((6 * p1) + v3).toNatClampNeg 0)))
def fX12_tally (p1 : Int32) (p2 : Int32) (σ : QMem) : Option (Int32 × QMem) :=
  (fX12_isTally p1).bind fun xq3 => (if xq3 = 0 then (some ((-1001), σ)) else (if p2 ≤ 6 then (if 0 ≤ p2 then (if (p1 < 0 ∨ ml 26 ≤ p1.toNatClampNeg) then none else (fX12_tally_L38 p1 p2 FU 0 (ms σ 26 p1.toNatClampNeg p2))) else (some ((-1013), σ))) else (some ((-1002), σ))))
set_option maxHeartbeats 4000000 in
set_option maxRecDepth 100000 in
theorem kX12_tally (l : Launch) (D : va_G) (G : xG) (σ : QMem) (p1 : Int32) (p2 : Int32) (res : Int32 × QMem) (h : fX12_tally p1 p2 σ = some res) : Met l yX12_tally (.code yX12_tally cX12_tally 4 (some .int) :: lwW) (rmD 2) (mPc D G σ [.ref (G.1 28), .int p1, .int p2]) (mQi D G res) 0 0 (mA G) := by
  refine Met.ofW (cc := cX12_tally) (maxL := 4) (ret := (some .int)) (by decide) rfl ?_
  intro p e s m args below meth c s₁ B hml hv
  obtain ⟨rfl, h0⟩ := hv
  have hx := B.exec
  have hb := B.bytes
  have hr := B.returns
  have hts := fun (w : Cond) (hw : w ∈ lwW) => atoms_spec (ws := (.code yX12_tally cX12_tally 4 (some .int) :: lwW)) B.pre w (List.mem_cons_of_mem _ hw)
  have hown : s.vm.findClass RX12 = some m.cls := findClass_of_methodNamed B.named
  have hlocks := B.notSynchronized
  have hP := h0.1
  have hK := h0.2.1
  have hi := h0.2.2
  have hS : va_S (mA G) s.heap s.heap [] := va_S.rf
  have hl := lv_entry ([.ref (G.1 28), .int p1, .int p2]) (n := 4) (Nat.le_of_ble_eq_true rfl)
  rw [lg_entry_eq]
  generalize (lg_sl ([.ref (G.1 28), .int p1, .int p2]) ++ List.replicate (4 - (lg_sl ([.ref (G.1 28), .int p1, .int p2])).length) Slot.unset).toArray = ls at hl ⊢
  have hl : lv_has ls 4 [(0, .ref (G.1 28)), (1, .int p1), (2, .int p2)] := hl
  unfold fX12_tally at h
  have L38 : ∀ (n38 : Nat) (v3 : Int32) (τ : QMem) (H : Heap) (locs : List Loc) (ls : Array Slot), fX12_tally_L38 p1 p2 n38 v3 τ = some res → va_P D vwCl (mW G τ) H → va_S (mA G) s.heap H locs → lv_has ls 4 [(0, .ref (G.1 28)), (1, .int p1), (2, .int p2), (3, .int v3)] → W p l e (headSpec (.code yX12_tally cX12_tally 4 (some .int) :: lwW) (rmD 2)).room s m ([.ref (G.1 28), .int p1, .int p2] : List Value).toArray below meth c H locs 0 0 (MQ below (mQi D G res) ([.ref (G.1 28), .int p1, .int p2] : List Value).toArray s 0 0 (mA G)) (F0 m 38 ls []) := by
    intro n38
    induction n38 with
    | zero => intro v3 τ H locs ls h; rw [fX12_tally_L38] at h; cases h
    | succ n38 ih38 =>
      intro v3 τ H locs ls h hP hS hl
      rw [fX12_tally_L38] at h
      refine lv_iload_n hx hb dX12_tally_38 rfl (lv_at hl 3 rfl) ?_
      refine lv_bipush (v := 6) hx hb dX12_tally_39 (by decide) ?_
      refine lv_icmp_ge (tgt := 62) hx hb dX12_tally_41 (by decide) (fun hcq1 => ?_) (fun hcq1 => ?_)
      · have h := ifp hcq1 h
        refine lv_iload_n hx hb dX12_tally_62 rfl (lv_at hl 2 rfl) ?_
        obtain rfl := Option.some.inj h
        exact W.iret (v := p2) hx hb hr (fun t ht hW => ⟨⟨_, _, rfl, ⟨rfl, rfl⟩, mPre_at h0 hS hP ht hW⟩, hS.F ht⟩) hS.2.2 dX12_tally_63
      have h := ifn hcq1 h
      refine lv_aload_n hx hb dX12_tally_44 rfl (lv_at hl 0 rfl) ?_
      refine va_get (D := D) (ci := 12) (v := .ref (G.1 27)) (C := RX12) (T := TX12) (N := 34) hx hb hts iwX12 hown hK hP 28 (mg_2 rfl) rfl 32 (by decide) (hts _ mw_990) (fun _ h9 => h9) rfl dX12_tally_45 ?_
      refine lv_bipush (v := 6) hx hb dX12_tally_48 (by decide) ?_
      refine lv_iload_n hx hb dX12_tally_50 rfl (lv_at hl 1 rfl) ?_
      refine lv_imul hx hb dX12_tally_51 ?_
      refine lv_iload_n hx hb dX12_tally_52 rfl (lv_at hl 3 rfl) ?_
      refine lv_iadd hx hb dX12_tally_53 ?_
      refine lv_iconst (v := 0) hx hb dX12_tally_54 (by decide) ?_
      obtain ⟨hiq2, h⟩ := nif h
      refine va_iast hx hb hK hP (mD hi) hS 27 0 (mg_0 rfl) rfl hiq2 dX12_tally_55 (fun H locs hP hD hS => ?_)
      have hP : va_P D vwCl (mW G (ms τ 27 ((6 * p1) + v3).toNatClampNeg 0)) H := by rw [← ms_0x rfl]; exact hP
      refine lv_iinc (v := v3 + 1) (lv' := [(3, .int (v3 + 1)), (0, .ref (G.1 28)), (1, .int p1), (2, .int p2)]) hx hb dX12_tally_56 hl (k := 3) rfl rfl (by decide) rfl (fun ls hl => ?_)
      refine lv_goto (tgt := 38) hx hb dX12_tally_59 (by decide) ?_
      exact ih38 (v3 + 1) _ _ _ _ h hP hS (lv_sub hl [1, 2, 3, 0] rfl)
  refine lv_iload_n hx hb dX12_tally_0 rfl (lv_at hl 1 rfl) ?_
  obtain ⟨xq3, hfq4, h⟩ := obd h
  refine va_calli (va_runS (As := [.int p1]) (rest := []) ⟨hx, hb, hml, hown, hts⟩ (kX12_isTally l p1 xq3 hfq4) (va_cwS 1 hts (lwW_gS mw_1305 mw_1306 mw_14 mw_1307) rfl rfl rfl (by decide +kernel) ⟨Nat.le_of_ble_eq_true rfl, Nat.le_of_ble_eq_true rfl⟩) ⟨fun a U g mk q => ⟨q.1, trivial⟩, fun U hU hW => ⟨rfl, trivial⟩⟩ rfl rfl hl.1 rfl (lv_room (Nat.le_of_ble_eq_true rfl)) dX12_tally_1 ⟨Nat.zero_le _, Nat.zero_le _⟩) hS (fun q _ h => h.elim) (fun q h => h.elim) (fun r u t H1 locs ht hvm hw hB hz1 hq1 hS => ?_)
  obtain rfl := hw.symm
  have hP := mP_kept hP hq1
  refine W.widen (k := 0) (n := 0) (Nat.le_refl _) (Nat.le_refl _) ?_
  refine lv_if_ne (tgt := 11) hx hb dX12_tally_4 (by decide) (fun hcq5 => ?_) (fun hcq5 => ?_)
  · have h := ifn hcq5 h
    refine lv_iload_n hx hb dX12_tally_11 rfl (lv_at hl 2 rfl) ?_
    refine lv_bipush (v := 6) hx hb dX12_tally_12 (by decide) ?_
    refine lv_icmp_le (tgt := 21) hx hb dX12_tally_14 (by decide) (fun hcq6 => ?_) (fun hcq6 => ?_)
    · have h := ifp hcq6 h
      refine lv_iload_n hx hb dX12_tally_21 rfl (lv_at hl 2 rfl) ?_
      refine lv_if_ge (tgt := 29) hx hb dX12_tally_22 (by decide) (fun hcq7 => ?_) (fun hcq7 => ?_)
      · have h := ifp hcq7 h
        refine lv_aload_n hx hb dX12_tally_29 rfl (lv_at hl 0 rfl) ?_
        refine va_get (D := D) (ci := 12) (v := .ref (G.1 26)) (C := RX12) (T := TX12) (N := 34) hx hb hts iwX12 hown hK hP 28 (mg_2 rfl) rfl 31 (by decide) (hts _ mw_989) (fun _ h9 => h9) rfl dX12_tally_30 ?_
        refine lv_iload_n hx hb dX12_tally_33 rfl (lv_at hl 1 rfl) ?_
        refine lv_iload_n hx hb dX12_tally_34 rfl (lv_at hl 2 rfl) ?_
        obtain ⟨hiq8, h⟩ := nif h
        refine va_iast hx hb hK hP (mD hi) hS 26 0 (mg_0 rfl) rfl hiq8 dX12_tally_35 (fun H locs hP hD hS => ?_)
        have hP : va_P D vwCl (mW G (ms σ 26 p1.toNatClampNeg p2)) H := by rw [← ms_0x rfl]; exact hP
        refine lv_iconst (v := 0) hx hb dX12_tally_36 (by decide) ?_
        refine lv_istore_n (lv' := [(3, .int 0), (0, .ref (G.1 28)), (1, .int p1), (2, .int p2)]) hx hb dX12_tally_37 rfl hl (by decide) rfl (fun ls hl => ?_)
        exact L38 FU 0 _ _ _ _ h hP hS (lv_sub hl [1, 2, 3, 0] rfl)
      have h := ifn hcq7 h
      refine lv_sipush (v := (-1013)) hx hb dX12_tally_25 (by decide) ?_
      obtain rfl := Option.some.inj h
      exact W.iret (v := (-1013)) hx hb hr (fun t ht hW => ⟨⟨_, _, rfl, ⟨rfl, rfl⟩, mPre_at h0 hS hP ht hW⟩, hS.F ht⟩) hS.2.2 dX12_tally_28
    have h := ifn hcq6 h
    refine lv_sipush (v := (-1002)) hx hb dX12_tally_17 (by decide) ?_
    obtain rfl := Option.some.inj h
    exact W.iret (v := (-1002)) hx hb hr (fun t ht hW => ⟨⟨_, _, rfl, ⟨rfl, rfl⟩, mPre_at h0 hS hP ht hW⟩, hS.F ht⟩) hS.2.2 dX12_tally_20
  have h := ifp hcq5 h
  refine lv_sipush (v := (-1001)) hx hb dX12_tally_7 (by decide) ?_
  obtain rfl := Option.some.inj h
  exact W.iret (v := (-1001)) hx hb hr (fun t ht hW => ⟨⟨_, _, rfl, ⟨rfl, rfl⟩, mPre_at h0 hS hP ht hW⟩, hS.F ht⟩) hS.2.2 dX12_tally_10
def fX12_lacks (p1 : Int32) (p2 : Int32) (σ : QMem) : Option (Int32 × QMem) :=
  if (p1 < 0 ∨ ml 26 ≤ p1.toNatClampNeg) then none else (if 0 ≤ (σ 26 p1.toNatClampNeg) then (if (p1 < 0 ∨ ml 26 ≤ p1.toNatClampNeg) then none else ((fX12_in p2 0 ((σ 26 p1.toNatClampNeg) - 1)).bind fun xq4 => (if xq4 = 0 then (some ((-1012), σ)) else (some (0, σ))))) else (some ((-1011), σ)))
set_option maxHeartbeats 4000000 in
set_option maxRecDepth 100000 in
theorem kX12_lacks (l : Launch) (D : va_G) (G : xG) (σ : QMem) (p1 : Int32) (p2 : Int32) (res : Int32 × QMem) (h : fX12_lacks p1 p2 σ = some res) : Met l yX12_lacks (.code yX12_lacks cX12_lacks 3 (some .int) :: lwW) (rmD 1) (mPc D G σ [.ref (G.1 28), .int p1, .int p2]) (mQi D G res) 0 0 (mA G) := by
  refine Met.ofW (cc := cX12_lacks) (maxL := 3) (ret := (some .int)) (by decide) rfl ?_
  intro p e s m args below meth c s₁ B hml hv
  obtain ⟨rfl, h0⟩ := hv
  have hx := B.exec
  have hb := B.bytes
  have hr := B.returns
  have hts := fun (w : Cond) (hw : w ∈ lwW) => atoms_spec (ws := (.code yX12_lacks cX12_lacks 3 (some .int) :: lwW)) B.pre w (List.mem_cons_of_mem _ hw)
  have hown : s.vm.findClass RX12 = some m.cls := findClass_of_methodNamed B.named
  have hlocks := B.notSynchronized
  have hP := h0.1
  have hK := h0.2.1
  have hi := h0.2.2
  have hS : va_S (mA G) s.heap s.heap [] := va_S.rf
  have hl := lv_entry ([.ref (G.1 28), .int p1, .int p2]) (n := 3) (Nat.le_of_ble_eq_true rfl)
  rw [lg_entry_eq]
  generalize (lg_sl ([.ref (G.1 28), .int p1, .int p2]) ++ List.replicate (3 - (lg_sl ([.ref (G.1 28), .int p1, .int p2])).length) Slot.unset).toArray = ls at hl ⊢
  have hl : lv_has ls 3 [(0, .ref (G.1 28)), (1, .int p1), (2, .int p2)] := hl
  unfold fX12_lacks at h
  refine lv_aload_n hx hb dX12_lacks_0 rfl (lv_at hl 0 rfl) ?_
  refine va_get (D := D) (ci := 12) (v := .ref (G.1 26)) (C := RX12) (T := TX12) (N := 34) hx hb hts iwX12 hown hK hP 28 (mg_2 rfl) rfl 31 (by decide) (hts _ mw_989) (fun _ h9 => h9) rfl dX12_lacks_1 ?_
  refine lv_iload_n hx hb dX12_lacks_4 rfl (lv_at hl 1 rfl) ?_
  obtain ⟨hiq1, h⟩ := nif h
  refine va_iald hx hb hK hP 26 0 (mg_0 rfl) rfl hiq1 dX12_lacks_5 ?_
  refine lv_if_ge (tgt := 15) hx hb dX12_lacks_6 (by decide) (fun hcq2 => ?_) (fun hcq2 => ?_)
  · have h := ifp hcq2 h
    refine lv_iload_n hx hb dX12_lacks_15 rfl (lv_at hl 2 rfl) ?_
    refine lv_iconst (v := 0) hx hb dX12_lacks_16 (by decide) ?_
    refine lv_aload_n hx hb dX12_lacks_17 rfl (lv_at hl 0 rfl) ?_
    refine va_get (D := D) (ci := 12) (v := .ref (G.1 26)) (C := RX12) (T := TX12) (N := 34) hx hb hts iwX12 hown hK hP 28 (mg_2 rfl) rfl 31 (by decide) (hts _ mw_989) (fun _ h9 => h9) rfl dX12_lacks_18 ?_
    refine lv_iload_n hx hb dX12_lacks_21 rfl (lv_at hl 1 rfl) ?_
    obtain ⟨hiq3, h⟩ := nif h
    refine va_iald hx hb hK hP 26 0 (mg_0 rfl) rfl hiq3 dX12_lacks_22 ?_
    refine lv_iconst (v := 1) hx hb dX12_lacks_23 (by decide) ?_
    refine lv_isub hx hb dX12_lacks_24 ?_
    obtain ⟨xq4, hfq5, h⟩ := obd h
    refine va_calli (va_runS (As := [.int p2, .int 0, .int ((σ 26 p1.toNatClampNeg) - 1)]) (rest := []) ⟨hx, hb, hml, hown, hts⟩ (kX12_in l p2 0 ((σ 26 p1.toNatClampNeg) - 1) xq4 hfq5) (va_cwS 3 hts (lwW_gS mw_1069 mw_1070 mw_14 mw_1071) rfl rfl rfl (by decide +kernel) ⟨Nat.le_of_ble_eq_true rfl, Nat.le_of_ble_eq_true rfl⟩) ⟨fun a U g mk q => ⟨q.1, trivial⟩, fun U hU hW => ⟨rfl, trivial⟩⟩ rfl rfl hl.1 rfl (lv_room (Nat.le_of_ble_eq_true rfl)) dX12_lacks_25 ⟨Nat.zero_le _, Nat.zero_le _⟩) hS (fun q _ h => h.elim) (fun q h => h.elim) (fun r u t H1 locs ht hvm hw hB hz1 hq1 hS => ?_)
    obtain rfl := hw.symm
    have hP := mP_kept hP hq1
    refine W.widen (k := 0) (n := 0) (Nat.le_refl _) (Nat.le_refl _) ?_
    refine lv_if_eq (tgt := 35) hx hb dX12_lacks_28 (by decide) (fun hcq6 => ?_) (fun hcq6 => ?_)
    · have h := ifp hcq6 h
      refine lv_sipush (v := (-1012)) hx hb dX12_lacks_35 (by decide) ?_
      obtain rfl := Option.some.inj h
      exact W.iret (v := (-1012)) hx hb hr (fun t ht hW => ⟨⟨_, _, rfl, ⟨rfl, rfl⟩, mPre_at h0 hS hP ht hW⟩, hS.F ht⟩) hS.2.2 dX12_lacks_38
    have h := ifn hcq6 h
    refine lv_iconst (v := 0) hx hb dX12_lacks_31 (by decide) ?_
    refine lv_goto (tgt := 38) hx hb dX12_lacks_32 (by decide) ?_
    obtain rfl := Option.some.inj h
    exact W.iret (v := 0) hx hb hr (fun t ht hW => ⟨⟨_, _, rfl, ⟨rfl, rfl⟩, mPre_at h0 hS hP ht hW⟩, hS.F ht⟩) hS.2.2 dX12_lacks_38
  have h := ifn hcq2 h
  refine lv_sipush (v := (-1011)) hx hb dX12_lacks_9 (by decide) ?_
  refine lv_goto (tgt := 38) hx hb dX12_lacks_12 (by decide) ?_
  obtain rfl := Option.some.inj h
  exact W.iret (v := (-1011)) hx hb hr (fun t ht hW => ⟨⟨_, _, rfl, ⟨rfl, rfl⟩, mPre_at h0 hS hP ht hW⟩, hS.F ht⟩) hS.2.2 dX12_lacks_38
def fX12_load (p1 : Int32) (p2 : Int32) (p3 : Int32) (σ : QMem) : Option (Int32 × QMem) :=
  (fX12_isTally p1).bind fun xq1 => (if xq1 = 0 then (some ((-1001), σ)) else ((fX12_isSlot p3).bind fun xq4 => (if xq4 = 0 then (some ((-1001), σ)) else ((fX12_lacks p1 p2 σ).bind fun xq7 => (if 0 ≤ xq7.1 then ((fX12_norm p3 xq7.2).bind fun xq10 => (if ((6 * p1) + p2 < 0 ∨ ml 27 ≤ ((6 * p1) + p2).toNatClampNeg) then none else ((fX12_norm p3 (ms xq10.2 27 ((6 * p1) + p2).toNatClampNeg xq10.1)).bind fun xq13 => (some (xq13.1, xq13.2))))) else (some (xq7.1, xq7.2)))))))
set_option maxHeartbeats 4000000 in
set_option maxRecDepth 100000 in
theorem kX12_load (l : Launch) (D : va_G) (G : xG) (σ : QMem) (p1 : Int32) (p2 : Int32) (p3 : Int32) (res : Int32 × QMem) (h : fX12_load p1 p2 p3 σ = some res) : Met l yX12_load (.code yX12_load cX12_load 5 (some .int) :: lwW) (rmD 2) (mPc D G σ [.ref (G.1 28), .int p1, .int p2, .int p3]) (mQi D G res) 0 0 (mA G) := by
  refine Met.ofW (cc := cX12_load) (maxL := 5) (ret := (some .int)) (by decide) rfl ?_
  intro p e s m args below meth c s₁ B hml hv
  obtain ⟨rfl, h0⟩ := hv
  have hx := B.exec
  have hb := B.bytes
  have hr := B.returns
  have hts := fun (w : Cond) (hw : w ∈ lwW) => atoms_spec (ws := (.code yX12_load cX12_load 5 (some .int) :: lwW)) B.pre w (List.mem_cons_of_mem _ hw)
  have hown : s.vm.findClass RX12 = some m.cls := findClass_of_methodNamed B.named
  have hlocks := B.notSynchronized
  have hP := h0.1
  have hK := h0.2.1
  have hi := h0.2.2
  have hS : va_S (mA G) s.heap s.heap [] := va_S.rf
  have hl := lv_entry ([.ref (G.1 28), .int p1, .int p2, .int p3]) (n := 5) (Nat.le_of_ble_eq_true rfl)
  rw [lg_entry_eq]
  generalize (lg_sl ([.ref (G.1 28), .int p1, .int p2, .int p3]) ++ List.replicate (5 - (lg_sl ([.ref (G.1 28), .int p1, .int p2, .int p3])).length) Slot.unset).toArray = ls at hl ⊢
  have hl : lv_has ls 5 [(0, .ref (G.1 28)), (1, .int p1), (2, .int p2), (3, .int p3)] := hl
  unfold fX12_load at h
  refine lv_iload_n hx hb dX12_load_0 rfl (lv_at hl 1 rfl) ?_
  obtain ⟨xq1, hfq2, h⟩ := obd h
  refine va_calli (va_runS (As := [.int p1]) (rest := []) ⟨hx, hb, hml, hown, hts⟩ (kX12_isTally l p1 xq1 hfq2) (va_cwS 1 hts (lwW_gS mw_1305 mw_1306 mw_14 mw_1307) rfl rfl rfl (by decide +kernel) ⟨Nat.le_of_ble_eq_true rfl, Nat.le_of_ble_eq_true rfl⟩) ⟨fun a U g mk q => ⟨q.1, trivial⟩, fun U hU hW => ⟨rfl, trivial⟩⟩ rfl rfl hl.1 rfl (lv_room (Nat.le_of_ble_eq_true rfl)) dX12_load_1 ⟨Nat.zero_le _, Nat.zero_le _⟩) hS (fun q _ h => h.elim) (fun q h => h.elim) (fun r u t H1 locs ht hvm hw hB hz1 hq1 hS => ?_)
  obtain rfl := hw.symm
  have hP := mP_kept hP hq1
  refine W.widen (k := 0) (n := 0) (Nat.le_refl _) (Nat.le_refl _) ?_
  refine lv_if_eq (tgt := 14) hx hb dX12_load_4 (by decide) (fun hcq3 => ?_) (fun hcq3 => ?_)
  · have h := ifp hcq3 h
    refine lv_sipush (v := (-1001)) hx hb dX12_load_14 (by decide) ?_
    obtain rfl := Option.some.inj h
    exact W.iret (v := (-1001)) hx hb hr (fun t ht hW => ⟨⟨_, _, rfl, ⟨rfl, rfl⟩, mPre_at h0 hS hP ht hW⟩, hS.F ht⟩) hS.2.2 dX12_load_17
  have h := ifn hcq3 h
  refine lv_iload_n hx hb dX12_load_7 rfl (lv_at hl 3 rfl) ?_
  obtain ⟨xq4, hfq5, h⟩ := obd h
  refine va_calli (va_runS (As := [.int p3]) (rest := []) ⟨hx, hb, hml, hown, hts⟩ (kX12_isSlot l p3 xq4 hfq5) (va_cwS 1 hts (lwW_gS mw_1066 mw_1067 mw_14 mw_1068) rfl rfl rfl (by decide +kernel) ⟨Nat.le_of_ble_eq_true rfl, Nat.le_of_ble_eq_true rfl⟩) ⟨fun a U g mk q => ⟨q.1, trivial⟩, fun U hU hW => ⟨rfl, trivial⟩⟩ rfl rfl hl.1 rfl (lv_room (Nat.le_of_ble_eq_true rfl)) dX12_load_8 ⟨Nat.zero_le _, Nat.zero_le _⟩) hS (fun q _ h => h.elim) (fun q h => h.elim) (fun r u t H1 locs ht hvm hw hB hz1 hq1 hS => ?_)
  obtain rfl := hw.symm
  have hP := mP_kept hP hq1
  refine W.widen (k := 0) (n := 0) (Nat.le_refl _) (Nat.le_refl _) ?_
  refine lv_if_ne (tgt := 18) hx hb dX12_load_11 (by decide) (fun hcq6 => ?_) (fun hcq6 => ?_)
  · have h := ifn hcq6 h
    refine lv_aload_n hx hb dX12_load_18 rfl (lv_at hl 0 rfl) ?_
    refine lv_iload_n hx hb dX12_load_19 rfl (lv_at hl 1 rfl) ?_
    refine lv_iload_n hx hb dX12_load_20 rfl (lv_at hl 2 rfl) ?_
    obtain ⟨xq7, hfq8, h⟩ := obd h
    refine va_calli (va_runV (As := [.int p1, .int p2]) (rest := []) ⟨hx, hb, hml, hown, hts⟩ (kX12_lacks l D G _ p1 p2 xq7 hfq8) (cwV 2 hts (lwW_gV mw_1312 mw_1314 ms_57 mw_14 mw_1315) rfl rfl rfl (by decide +kernel) ⟨Nat.le_of_ble_eq_true rfl, Nat.le_of_ble_eq_true rfl⟩) ⟨fun a U g mk q => ⟨q.1, mPre_call q.2⟩, va_recv hK hP rfl (mg_2 rfl), fun U hU hW => ⟨rfl, mPre_at h0 hS hP hU hW⟩⟩ rfl rfl hl.1 rfl (lv_room (Nat.le_of_ble_eq_true rfl)) dX12_load_21 ⟨Nat.zero_le _, Nat.zero_le _⟩) hS (fun q _ h => h) (fun q h => h) (fun r u t H1 locs ht hvm hw hB hz1 hq1 hS => ?_)
    obtain ⟨rfl, rfl⟩ := hw
    have hP := hB.1
    rw [ht] at hP
    refine W.widen (k := 0) (n := 0) (Nat.le_refl _) (Nat.le_refl _) ?_
    refine lv_istore (lv' := [(4, .int xq7.1), (0, .ref (G.1 28)), (1, .int p1), (2, .int p2), (3, .int p3)]) hx hb dX12_load_24 hl (by decide) rfl (fun ls hl => ?_)
    refine lv_iload hx hb dX12_load_26 (lv_at hl 0 rfl) ?_
    refine lv_if_ge (tgt := 34) hx hb dX12_load_28 (by decide) (fun hcq9 => ?_) (fun hcq9 => ?_)
    · have h := ifp hcq9 h
      refine lv_aload_n hx hb dX12_load_34 rfl (lv_at hl 1 rfl) ?_
      refine va_get (D := D) (ci := 12) (v := .ref (G.1 27)) (C := RX12) (T := TX12) (N := 34) hx hb hts iwX12 hown hK hP 28 (mg_2 rfl) rfl 32 (by decide) (hts _ mw_990) (fun _ h9 => h9) rfl dX12_load_35 ?_
      refine lv_bipush (v := 6) hx hb dX12_load_38 (by decide) ?_
      refine lv_iload_n hx hb dX12_load_40 rfl (lv_at hl 2 rfl) ?_
      refine lv_imul hx hb dX12_load_41 ?_
      refine lv_iload_n hx hb dX12_load_42 rfl (lv_at hl 3 rfl) ?_
      refine lv_iadd hx hb dX12_load_43 ?_
      refine lv_aload_n hx hb dX12_load_44 rfl (lv_at hl 1 rfl) ?_
      refine lv_iload_n hx hb dX12_load_45 rfl (lv_at hl 4 rfl) ?_
      obtain ⟨xq10, hfq11, h⟩ := obd h
      refine va_calli (va_runV (As := [.int p3]) (rest := [.int ((6 * p1) + p2), .ref (G.1 27)]) ⟨hx, hb, hml, hown, hts⟩ (kX12_norm l D G _ p3 xq10 hfq11) (cwV 1 hts (lwW_gV mw_1083 mw_1085 ms_31 mw_14 mw_1086) rfl rfl rfl (by decide +kernel) ⟨Nat.le_of_ble_eq_true rfl, Nat.le_of_ble_eq_true rfl⟩) ⟨fun a U g mk q => ⟨q.1, mPre_call q.2⟩, va_recv hK hP rfl (mg_2 rfl), fun U hU hW => ⟨rfl, mPre_at h0 hS hP hU hW⟩⟩ rfl rfl hl.1 rfl (lv_room (Nat.le_of_ble_eq_true rfl)) dX12_load_46 ⟨Nat.zero_le _, Nat.zero_le _⟩) hS (fun q _ h => h) (fun q h => h) (fun r u t H1 locs ht hvm hw hB hz1 hq1 hS => ?_)
      obtain ⟨rfl, rfl⟩ := hw
      have hP := hB.1
      rw [ht] at hP
      refine W.widen (k := 0) (n := 0) (Nat.le_refl _) (Nat.le_refl _) ?_
      obtain ⟨hiq12, h⟩ := nif h
      refine va_iast hx hb hK hP (mD hi) hS 27 0 (mg_0 rfl) rfl hiq12 dX12_load_49 (fun H locs hP hD hS => ?_)
      have hP : va_P D vwCl (mW G (ms xq10.2 27 ((6 * p1) + p2).toNatClampNeg xq10.1)) H := by rw [← ms_0x rfl]; exact hP
      refine lv_aload_n hx hb dX12_load_50 rfl (lv_at hl 1 rfl) ?_
      refine lv_iload_n hx hb dX12_load_51 rfl (lv_at hl 4 rfl) ?_
      obtain ⟨xq13, hfq14, h⟩ := obd h
      refine va_calli (va_runV (As := [.int p3]) (rest := []) ⟨hx, hb, hml, hown, hts⟩ (kX12_norm l D G _ p3 xq13 hfq14) (cwV 1 hts (lwW_gV mw_1083 mw_1085 ms_31 mw_14 mw_1086) rfl rfl rfl (by decide +kernel) ⟨Nat.le_of_ble_eq_true rfl, Nat.le_of_ble_eq_true rfl⟩) ⟨fun a U g mk q => ⟨q.1, mPre_call q.2⟩, va_recv hK hP rfl (mg_2 rfl), fun U hU hW => ⟨rfl, mPre_at h0 hS hP hU hW⟩⟩ rfl rfl hl.1 rfl (lv_room (Nat.le_of_ble_eq_true rfl)) dX12_load_52 ⟨Nat.zero_le _, Nat.zero_le _⟩) hS (fun q _ h => h) (fun q h => h) (fun r u t H1 locs ht hvm hw hB hz1 hq1 hS => ?_)
      obtain ⟨rfl, rfl⟩ := hw
      have hP := hB.1
      rw [ht] at hP
      refine W.widen (k := 0) (n := 0) (Nat.le_refl _) (Nat.le_refl _) ?_
      obtain rfl := Option.some.inj h
      exact W.iret (v := xq13.1) hx hb hr (fun t ht hW => ⟨⟨_, _, rfl, ⟨rfl, rfl⟩, mPre_at h0 hS hP ht hW⟩, hS.F ht⟩) hS.2.2 dX12_load_55
    have h := ifn hcq9 h
    refine lv_iload hx hb dX12_load_31 (lv_at hl 0 rfl) ?_
    obtain rfl := Option.some.inj h
    exact W.iret (v := xq7.1) hx hb hr (fun t ht hW => ⟨⟨_, _, rfl, ⟨rfl, rfl⟩, mPre_at h0 hS hP ht hW⟩, hS.F ht⟩) hS.2.2 dX12_load_33
  have h := ifp hcq6 h
  refine lv_sipush (v := (-1001)) hx hb dX12_load_14 (by decide) ?_
  obtain rfl := Option.some.inj h
  exact W.iret (v := (-1001)) hx hb hr (fun t ht hW => ⟨⟨_, _, rfl, ⟨rfl, rfl⟩, mPre_at h0 hS hP ht hW⟩, hS.F ht⟩) hS.2.2 dX12_load_17
def fX12_worked (p0 : Int32) (p1 : Int64) (p3 : Int64) : Option (Int64) :=
  if p0 = 0 then (some (p1 + p3)) else (if p0 = 1 then (some (p1 - p3)) else (if p0 = 2 then (some (p1 * p3)) else (if p0 = 3 then (if p3 = 0 then none else (some (p1 / p3))) else (if p0 = 4 then (if p3 = 0 then none else (some (p1 - p1 / p3 * p3))) else (some p3)))))
set_option maxHeartbeats 4000000 in
set_option maxRecDepth 100000 in
theorem kX12_worked (l : Launch) (p0 : Int32) (p1 : Int64) (p3 : Int64) (res : Int64) (h : fX12_worked p0 p1 p3 = some res) : Met l yX12_worked (.code yX12_worked cX12_worked 5 (some .long) :: lwW) (rmD 0) (nPc [.int p0, .long p1, .long p3]) (nQl res) 0 0 (fun _ => False) := by
  refine Met.ofW (cc := cX12_worked) (maxL := 5) (ret := (some .long)) (by decide) rfl ?_
  intro p e s m args below meth c s₁ B hml hv
  obtain ⟨rfl, h0⟩ := hv
  have hx := B.exec
  have hb := B.bytes
  have hr := B.returns
  have hts := fun (w : Cond) (hw : w ∈ lwW) => atoms_spec (ws := (.code yX12_worked cX12_worked 5 (some .long) :: lwW)) B.pre w (List.mem_cons_of_mem _ hw)
  have hown : s.vm.findClass RX12 = some m.cls := findClass_of_methodNamed B.named
  have hlocks := B.notSynchronized
  have hS : va_S (fun _ => False) s.heap s.heap [] := va_S.rf
  have hl := lv_entry ([.int p0, .long p1, .long p3]) (n := 5) (Nat.le_of_ble_eq_true rfl)
  rw [lg_entry_eq]
  generalize (lg_sl ([.int p0, .long p1, .long p3]) ++ List.replicate (5 - (lg_sl ([.int p0, .long p1, .long p3])).length) Slot.unset).toArray = ls at hl ⊢
  have hl : lv_has ls 5 [(0, .int p0), (1, .long p1), (3, .long p3)] := hl
  unfold fX12_worked at h
  refine lv_iload_n hx hb dX12_worked_0 rfl (lv_at hl 0 rfl) ?_
  by_cases hcq1 : p0 = 0
  · have h := ifp hcq1 h
    refine lv_tableIn (off := 35) (tgt := 36) hx hb dX12_worked_1 (by rw [hcq1]; decide) (by rw [hcq1]; decide) (by rw [hcq1]; rfl) (by decide) ?_
    refine lv_lload_n hx hb dX12_worked_36 rfl (lv_at hl 1 rfl) ?_
    refine lv_lload_n hx hb dX12_worked_37 rfl (lv_at hl 2 rfl) ?_
    refine lv_ladd hx hb dX12_worked_38 ?_
    obtain rfl := Option.some.inj h
    exact W.lret (v := p1 + p3) hx hb hr (fun t ht hW => ⟨⟨_, (), rfl, rfl, trivial⟩, hS.F ht⟩) hS.2.2 dX12_worked_39
  have h := ifn hcq1 h
  by_cases hcq2 : p0 = 1
  · have h := ifp hcq2 h
    refine lv_tableIn (off := 39) (tgt := 40) hx hb dX12_worked_1 (by rw [hcq2]; decide) (by rw [hcq2]; decide) (by rw [hcq2]; rfl) (by decide) ?_
    refine lv_lload_n hx hb dX12_worked_40 rfl (lv_at hl 1 rfl) ?_
    refine lv_lload_n hx hb dX12_worked_41 rfl (lv_at hl 2 rfl) ?_
    refine lv_lsub hx hb dX12_worked_42 ?_
    obtain rfl := Option.some.inj h
    exact W.lret (v := p1 - p3) hx hb hr (fun t ht hW => ⟨⟨_, (), rfl, rfl, trivial⟩, hS.F ht⟩) hS.2.2 dX12_worked_43
  have h := ifn hcq2 h
  by_cases hcq3 : p0 = 2
  · have h := ifp hcq3 h
    refine lv_tableIn (off := 43) (tgt := 44) hx hb dX12_worked_1 (by rw [hcq3]; decide) (by rw [hcq3]; decide) (by rw [hcq3]; rfl) (by decide) ?_
    refine lv_lload_n hx hb dX12_worked_44 rfl (lv_at hl 1 rfl) ?_
    refine lv_lload_n hx hb dX12_worked_45 rfl (lv_at hl 2 rfl) ?_
    refine lv_lmul hx hb dX12_worked_46 ?_
    obtain rfl := Option.some.inj h
    exact W.lret (v := p1 * p3) hx hb hr (fun t ht hW => ⟨⟨_, (), rfl, rfl, trivial⟩, hS.F ht⟩) hS.2.2 dX12_worked_47
  have h := ifn hcq3 h
  by_cases hcq4 : p0 = 3
  · have h := ifp hcq4 h
    refine lv_tableIn (off := 47) (tgt := 48) hx hb dX12_worked_1 (by rw [hcq4]; decide) (by rw [hcq4]; decide) (by rw [hcq4]; rfl) (by decide) ?_
    refine lv_lload_n hx hb dX12_worked_48 rfl (lv_at hl 1 rfl) ?_
    refine lv_lload_n hx hb dX12_worked_49 rfl (lv_at hl 2 rfl) ?_
    obtain ⟨hdq5, h⟩ := nif h
    refine lv_ldiv hx hb dX12_worked_50 hdq5 ?_
    obtain rfl := Option.some.inj h
    exact W.lret (v := p1 / p3) hx hb hr (fun t ht hW => ⟨⟨_, (), rfl, rfl, trivial⟩, hS.F ht⟩) hS.2.2 dX12_worked_51
  have h := ifn hcq4 h
  by_cases hcq6 : p0 = 4
  · have h := ifp hcq6 h
    refine lv_tableIn (off := 51) (tgt := 52) hx hb dX12_worked_1 (by rw [hcq6]; decide) (by rw [hcq6]; decide) (by rw [hcq6]; rfl) (by decide) ?_
    refine lv_lload_n hx hb dX12_worked_52 rfl (lv_at hl 1 rfl) ?_
    refine lv_lload_n hx hb dX12_worked_53 rfl (lv_at hl 2 rfl) ?_
    obtain ⟨hdq7, h⟩ := nif h
    refine lv_lrem hx hb dX12_worked_54 hdq7 ?_
    obtain rfl := Option.some.inj h
    exact W.lret (v := p1 - p1 / p3 * p3) hx hb hr (fun t ht hW => ⟨⟨_, (), rfl, rfl, trivial⟩, hS.F ht⟩) hS.2.2 dX12_worked_55
  have h := ifn hcq6 h
  refine lv_tableOut (tgt := 56) hx hb dX12_worked_1 (by have t0 := toI_ne hcq1; have t1 := toI_ne hcq2; have t2 := toI_ne hcq3; have t3 := toI_ne hcq4; have t4 := toI_ne hcq6; rw [show (0 : Int32).toInt = 0 from by decide] at t0; rw [show (1 : Int32).toInt = 1 from by decide] at t1; rw [show (2 : Int32).toInt = 2 from by decide] at t2; rw [show (3 : Int32).toInt = 3 from by decide] at t3; rw [show (4 : Int32).toInt = 4 from by decide] at t4; omega) (by decide) ?_
  refine lv_lload_n hx hb dX12_worked_56 rfl (lv_at hl 2 rfl) ?_
  obtain rfl := Option.some.inj h
  exact W.lret (v := p3) hx hb hr (fun t ht hW => ⟨⟨_, (), rfl, rfl, trivial⟩, hS.F ht⟩) hS.2.2 dX12_worked_57
def fX12_work_J91 (p1 : Int32) (p2 : Int32) (p3 : Int32) (p4 : Int32) (v6 : Int32) (τ : QMem) : Option (Int32 × QMem) :=
  if ((6 * p1) + p3 < 0 ∨ ml 27 ≤ ((6 * p1) + p3).toNatClampNeg) then none else ((fX12_worked p2 ((τ 27 ((6 * p1) + p3).toNatClampNeg).toInt64) v6.toInt64).bind fun xq2 => (if (lg_cmp xq2 xq2.toInt32.toInt64) = 0 then (if ((6 * p1) + p3 < 0 ∨ ml 27 ≤ ((6 * p1) + p3).toNatClampNeg) then none else (some (0, ms (ms τ 28 33 xq2.toInt32) 27 ((6 * p1) + p3).toNatClampNeg ((ms τ 28 33 xq2.toInt32) 28 33)))) else (some ((-1015), τ))))
def fX12_work_J49 (p1 : Int32) (p2 : Int32) (p3 : Int32) (p4 : Int32) (s0 : Int32) (τ : QMem) : Option (Int32 × QMem) :=
  if 0 ≤ s0 then (if ((6 * p1) + p4 < 0 ∨ ml 27 ≤ ((6 * p1) + p4).toNatClampNeg) then none else (if (τ 27 ((6 * p1) + p4).toNatClampNeg) = 0 then ((fX12_in p2 3 4).bind fun xq14 => (if xq14 = 0 then (fX12_work_J91 p1 p2 p3 p4 (τ 27 ((6 * p1) + p4).toNatClampNeg) τ) else (some ((-1014), τ)))) else (fX12_work_J91 p1 p2 p3 p4 (τ 27 ((6 * p1) + p4).toNatClampNeg) τ))) else (some (s0, τ))
def fX12_work (p1 : Int32) (p2 : Int32) (p3 : Int32) (p4 : Int32) (σ : QMem) : Option (Int32 × QMem) :=
  (fX12_isTally p1).bind fun xq23 => (if xq23 = 0 then (some ((-1001), σ)) else ((fX12_in p2 0 5).bind fun xq26 => (if xq26 = 0 then (some ((-1002), σ)) else ((fX12_lacks p1 p3 σ).bind fun xq29 => (if 0 ≤ xq29.1 then ((fX12_lacks p1 p4 xq29.2).bind fun xq32 => (fX12_work_J49 p1 p2 p3 p4 xq32.1 xq32.2)) else ((fX12_lacks p1 p3 xq29.2).bind fun xq34 => (fX12_work_J49 p1 p2 p3 p4 xq34.1 xq34.2)))))))
set_option maxHeartbeats 4000000 in
set_option maxRecDepth 100000 in
theorem kX12_work (l : Launch) (D : va_G) (G : xG) (σ : QMem) (p1 : Int32) (p2 : Int32) (p3 : Int32) (p4 : Int32) (res : Int32 × QMem) (h : fX12_work p1 p2 p3 p4 σ = some res) : Met l yX12_work (.code yX12_work cX12_work 9 (some .int) :: lwW) (rmD 2) (mPc D G σ [.ref (G.1 28), .int p1, .int p2, .int p3, .int p4]) (mQi D G res) 0 0 (mA G) := by
  refine Met.ofW (cc := cX12_work) (maxL := 9) (ret := (some .int)) (by decide) rfl ?_
  intro p e s m args below meth c s₁ B hml hv
  obtain ⟨rfl, h0⟩ := hv
  have hx := B.exec
  have hb := B.bytes
  have hr := B.returns
  have hts := fun (w : Cond) (hw : w ∈ lwW) => atoms_spec (ws := (.code yX12_work cX12_work 9 (some .int) :: lwW)) B.pre w (List.mem_cons_of_mem _ hw)
  have hown : s.vm.findClass RX12 = some m.cls := findClass_of_methodNamed B.named
  have hlocks := B.notSynchronized
  have hP := h0.1
  have hK := h0.2.1
  have hi := h0.2.2
  have hS : va_S (mA G) s.heap s.heap [] := va_S.rf
  have hl := lv_entry ([.ref (G.1 28), .int p1, .int p2, .int p3, .int p4]) (n := 9) (Nat.le_of_ble_eq_true rfl)
  rw [lg_entry_eq]
  generalize (lg_sl ([.ref (G.1 28), .int p1, .int p2, .int p3, .int p4]) ++ List.replicate (9 - (lg_sl ([.ref (G.1 28), .int p1, .int p2, .int p3, .int p4])).length) Slot.unset).toArray = ls at hl ⊢
  have hl : lv_has ls 9 [(0, .ref (G.1 28)), (1, .int p1), (2, .int p2), (3, .int p3), (4, .int p4)] := hl
  unfold fX12_work at h
  have J91 : ∀ (v6 : Int32) (τ : QMem) (H : Heap) (locs : List Loc) (ls : Array Slot), fX12_work_J91 p1 p2 p3 p4 v6 τ = some res → va_P D vwCl (mW G τ) H → va_S (mA G) s.heap H locs → lv_has ls 9 [(0, .ref (G.1 28)), (1, .int p1), (2, .int p2), (3, .int p3), (6, .int v6)] → W p l e (headSpec (.code yX12_work cX12_work 9 (some .int) :: lwW) (rmD 2)).room s m ([.ref (G.1 28), .int p1, .int p2, .int p3, .int p4] : List Value).toArray below meth c H locs 0 0 (MQ below (mQi D G res) ([.ref (G.1 28), .int p1, .int p2, .int p3, .int p4] : List Value).toArray s 0 0 (mA G)) (F0 m 91 ls []) := by
    intro v6 τ H locs ls h hP hS hl
    unfold fX12_work_J91 at h
    refine lv_iload_n hx hb dX12_work_91 rfl (lv_at hl 2 rfl) ?_
    refine lv_aload_n hx hb dX12_work_92 rfl (lv_at hl 0 rfl) ?_
    refine va_get (D := D) (ci := 12) (v := .ref (G.1 27)) (C := RX12) (T := TX12) (N := 34) hx hb hts iwX12 hown hK hP 28 (mg_2 rfl) rfl 32 (by decide) (hts _ mw_990) (fun _ h9 => h9) rfl dX12_work_93 ?_
    refine lv_bipush (v := 6) hx hb dX12_work_96 (by decide) ?_
    refine lv_iload_n hx hb dX12_work_98 rfl (lv_at hl 1 rfl) ?_
    refine lv_imul hx hb dX12_work_99 ?_
    refine lv_iload_n hx hb dX12_work_100 rfl (lv_at hl 3 rfl) ?_
    refine lv_iadd hx hb dX12_work_101 ?_
    obtain ⟨hiq6, h⟩ := nif h
    refine va_iald hx hb hK hP 27 0 (mg_0 rfl) rfl hiq6 dX12_work_102 ?_
    refine lv_i2l hx hb dX12_work_103 rfl ?_
    refine lv_iload hx hb dX12_work_104 (lv_at hl 4 rfl) ?_
    refine lv_i2l hx hb dX12_work_106 rfl ?_
    obtain ⟨xq7, hfq8, h⟩ := obd h
    refine va_calll (va_runS (As := [.int p2, .long ((τ 27 ((6 * p1) + p3).toNatClampNeg).toInt64), .long v6.toInt64]) (rest := []) ⟨hx, hb, hml, hown, hts⟩ (kX12_worked l p2 ((τ 27 ((6 * p1) + p3).toNatClampNeg).toInt64) v6.toInt64 xq7 hfq8) (va_cwS 3 hts (lwW_gS mw_1320 mw_1321 mw_14 mw_1322) rfl rfl rfl (by decide +kernel) ⟨Nat.le_of_ble_eq_true rfl, Nat.le_of_ble_eq_true rfl⟩) ⟨fun a U g mk q => ⟨q.1, trivial⟩, fun U hU hW => ⟨rfl, trivial⟩⟩ rfl rfl hl.1 rfl (lv_room (Nat.le_of_ble_eq_true rfl)) dX12_work_107 ⟨Nat.zero_le _, Nat.zero_le _⟩) hS (fun q _ h => h.elim) (fun q h => h.elim) (fun r u t H1 locs ht hvm hw hB hz1 hq1 hS => ?_)
    obtain rfl := hw.symm
    have hP := mP_kept hP hq1
    refine W.widen (k := 0) (n := 0) (Nat.le_refl _) (Nat.le_refl _) ?_
    refine lv_lstore (lv' := [(7, .long xq7), (0, .ref (G.1 28)), (1, .int p1), (2, .int p2), (3, .int p3), (6, .int v6)]) hx hb dX12_work_110 hl (by decide) rfl (fun ls hl => ?_)
    refine lv_lload hx hb dX12_work_112 (lv_at hl 0 rfl) ?_
    refine lv_lload hx hb dX12_work_114 (lv_at hl 0 rfl) ?_
    refine lv_l2i hx hb dX12_work_116 rfl ?_
    refine lv_i2l hx hb dX12_work_117 rfl ?_
    refine W.lcmp hx hb dX12_work_118 ?_
    refine lv_if_eq (tgt := 126) hx hb dX12_work_119 (by decide) (fun hcq9 => ?_) (fun hcq9 => ?_)
    · have h := ifp hcq9 h
      refine lv_aload_n hx hb dX12_work_126 rfl (lv_at hl 1 rfl) ?_
      refine lv_lload hx hb dX12_work_127 (lv_at hl 0 rfl) ?_
      refine lv_l2i hx hb dX12_work_129 rfl ?_
      refine va_put (D := D) (ci := 12) (v := .int xq7.toInt32) (ty := .int) (C := RX12) (T := TX12) (N := 34) hx hb hts iwX12 tyX12 tyX12_ok nmX12 hown hK hP (mD hi) hS 28 (mg_2 rfl) rfl 33 (by decide) (hts _ mw_991) (fun _ h9 => h9) rfl (by decide +kernel) rfl rfl (Nat.le_of_ble_eq_true rfl) dX12_work_130 (fun H locs hP hD hS => ?_)
      have hP : va_P D vwCl (mW G (ms τ 28 33 xq7.toInt32)) H := by rw [← ms_2_33 rfl]; exact hP
      refine lv_aload_n hx hb dX12_work_133 rfl (lv_at hl 1 rfl) ?_
      refine va_get (D := D) (ci := 12) (v := .ref (G.1 27)) (C := RX12) (T := TX12) (N := 34) hx hb hts iwX12 hown hK hP 28 (mg_2 rfl) rfl 32 (by decide) (hts _ mw_990) (fun _ h9 => h9) rfl dX12_work_134 ?_
      refine lv_bipush (v := 6) hx hb dX12_work_137 (by decide) ?_
      refine lv_iload_n hx hb dX12_work_139 rfl (lv_at hl 2 rfl) ?_
      refine lv_imul hx hb dX12_work_140 ?_
      refine lv_iload_n hx hb dX12_work_141 rfl (lv_at hl 4 rfl) ?_
      refine lv_iadd hx hb dX12_work_142 ?_
      refine lv_aload_n hx hb dX12_work_143 rfl (lv_at hl 1 rfl) ?_
      refine va_get (D := D) (ci := 12) (v := .int ((ms τ 28 33 xq7.toInt32) 28 33)) (C := RX12) (T := TX12) (N := 34) hx hb hts iwX12 hown hK hP 28 (mg_2 rfl) rfl 33 (by decide) (hts _ mw_991) (fun _ h9 => h9) rfl dX12_work_144 ?_
      obtain ⟨hiq10, h⟩ := nif h
      refine va_iast hx hb hK hP (mD hi) hS 27 0 (mg_0 rfl) rfl hiq10 dX12_work_147 (fun H locs hP hD hS => ?_)
      have hP : va_P D vwCl (mW G (ms (ms τ 28 33 xq7.toInt32) 27 ((6 * p1) + p3).toNatClampNeg ((ms τ 28 33 xq7.toInt32) 28 33))) H := by rw [← ms_0x rfl]; exact hP
      refine lv_iconst (v := 0) hx hb dX12_work_148 (by decide) ?_
      obtain rfl := Option.some.inj h
      exact W.iret (v := 0) hx hb hr (fun t ht hW => ⟨⟨_, _, rfl, ⟨rfl, rfl⟩, mPre_at h0 hS hP ht hW⟩, hS.F ht⟩) hS.2.2 dX12_work_149
    have h := ifn hcq9 h
    refine lv_sipush (v := (-1015)) hx hb dX12_work_122 (by decide) ?_
    obtain rfl := Option.some.inj h
    exact W.iret (v := (-1015)) hx hb hr (fun t ht hW => ⟨⟨_, _, rfl, ⟨rfl, rfl⟩, mPre_at h0 hS hP ht hW⟩, hS.F ht⟩) hS.2.2 dX12_work_125
  have J49 : ∀ (s0 : Int32) (τ : QMem) (H : Heap) (locs : List Loc) (ls : Array Slot), fX12_work_J49 p1 p2 p3 p4 s0 τ = some res → va_P D vwCl (mW G τ) H → va_S (mA G) s.heap H locs → lv_has ls 9 [(0, .ref (G.1 28)), (1, .int p1), (2, .int p2), (3, .int p3), (4, .int p4)] → W p l e (headSpec (.code yX12_work cX12_work 9 (some .int) :: lwW) (rmD 2)).room s m ([.ref (G.1 28), .int p1, .int p2, .int p3, .int p4] : List Value).toArray below meth c H locs 0 0 (MQ below (mQi D G res) ([.ref (G.1 28), .int p1, .int p2, .int p3, .int p4] : List Value).toArray s 0 0 (mA G)) (F0 m 49 ls [.int s0]) := by
    intro s0 τ H locs ls h hP hS hl
    unfold fX12_work_J49 at h
    refine lv_istore (lv' := [(5, .int s0), (0, .ref (G.1 28)), (1, .int p1), (2, .int p2), (3, .int p3), (4, .int p4)]) hx hb dX12_work_49 hl (by decide) rfl (fun ls hl => ?_)
    refine lv_iload hx hb dX12_work_51 (lv_at hl 0 rfl) ?_
    refine lv_if_ge (tgt := 59) hx hb dX12_work_53 (by decide) (fun hcq17 => ?_) (fun hcq17 => ?_)
    · have h := ifp hcq17 h
      refine lv_aload_n hx hb dX12_work_59 rfl (lv_at hl 1 rfl) ?_
      refine va_get (D := D) (ci := 12) (v := .ref (G.1 27)) (C := RX12) (T := TX12) (N := 34) hx hb hts iwX12 hown hK hP 28 (mg_2 rfl) rfl 32 (by decide) (hts _ mw_990) (fun _ h9 => h9) rfl dX12_work_60 ?_
      refine lv_bipush (v := 6) hx hb dX12_work_63 (by decide) ?_
      refine lv_iload_n hx hb dX12_work_65 rfl (lv_at hl 2 rfl) ?_
      refine lv_imul hx hb dX12_work_66 ?_
      refine lv_iload hx hb dX12_work_67 (lv_at hl 5 rfl) ?_
      refine lv_iadd hx hb dX12_work_69 ?_
      obtain ⟨hiq18, h⟩ := nif h
      refine va_iald hx hb hK hP 27 0 (mg_0 rfl) rfl hiq18 dX12_work_70 ?_
      refine lv_istore (lv' := [(6, .int (τ 27 ((6 * p1) + p4).toNatClampNeg)), (5, .int s0), (0, .ref (G.1 28)), (1, .int p1), (2, .int p2), (3, .int p3), (4, .int p4)]) hx hb dX12_work_71 hl (by decide) rfl (fun ls hl => ?_)
      refine lv_iload hx hb dX12_work_73 (lv_at hl 0 rfl) ?_
      refine lv_if_ne (tgt := 91) hx hb dX12_work_75 (by decide) (fun hcq19 => ?_) (fun hcq19 => ?_)
      · have h := ifn hcq19 h
        exact J91 (τ 27 ((6 * p1) + p4).toNatClampNeg) _ _ _ _ h hP hS (lv_sub hl [2, 3, 4, 5, 0] rfl)
      have h := ifp hcq19 h
      refine lv_iload_n hx hb dX12_work_78 rfl (lv_at hl 4 rfl) ?_
      refine lv_iconst (v := 3) hx hb dX12_work_79 (by decide) ?_
      refine lv_iconst (v := 4) hx hb dX12_work_80 (by decide) ?_
      obtain ⟨xq20, hfq21, h⟩ := obd h
      refine va_calli (va_runS (As := [.int p2, .int 3, .int 4]) (rest := []) ⟨hx, hb, hml, hown, hts⟩ (kX12_in l p2 3 4 xq20 hfq21) (va_cwS 3 hts (lwW_gS mw_1069 mw_1070 mw_14 mw_1071) rfl rfl rfl (by decide +kernel) ⟨Nat.le_of_ble_eq_true rfl, Nat.le_of_ble_eq_true rfl⟩) ⟨fun a U g mk q => ⟨q.1, trivial⟩, fun U hU hW => ⟨rfl, trivial⟩⟩ rfl rfl hl.1 rfl (lv_room (Nat.le_of_ble_eq_true rfl)) dX12_work_81 ⟨Nat.zero_le _, Nat.zero_le _⟩) hS (fun q _ h => h.elim) (fun q h => h.elim) (fun r u t H1 locs ht hvm hw hB hz1 hq1 hS => ?_)
      obtain rfl := hw.symm
      have hP := mP_kept hP hq1
      refine W.widen (k := 0) (n := 0) (Nat.le_refl _) (Nat.le_refl _) ?_
      refine lv_if_eq (tgt := 91) hx hb dX12_work_84 (by decide) (fun hcq22 => ?_) (fun hcq22 => ?_)
      · have h := ifp hcq22 h
        exact J91 (τ 27 ((6 * p1) + p4).toNatClampNeg) _ _ _ _ h hP hS (lv_sub hl [2, 3, 4, 5, 0] rfl)
      have h := ifn hcq22 h
      refine lv_sipush (v := (-1014)) hx hb dX12_work_87 (by decide) ?_
      obtain rfl := Option.some.inj h
      exact W.iret (v := (-1014)) hx hb hr (fun t ht hW => ⟨⟨_, _, rfl, ⟨rfl, rfl⟩, mPre_at h0 hS hP ht hW⟩, hS.F ht⟩) hS.2.2 dX12_work_90
    have h := ifn hcq17 h
    refine lv_iload hx hb dX12_work_56 (lv_at hl 0 rfl) ?_
    obtain rfl := Option.some.inj h
    exact W.iret (v := s0) hx hb hr (fun t ht hW => ⟨⟨_, _, rfl, ⟨rfl, rfl⟩, mPre_at h0 hS hP ht hW⟩, hS.F ht⟩) hS.2.2 dX12_work_58
  refine lv_iload_n hx hb dX12_work_0 rfl (lv_at hl 1 rfl) ?_
  obtain ⟨xq23, hfq24, h⟩ := obd h
  refine va_calli (va_runS (As := [.int p1]) (rest := []) ⟨hx, hb, hml, hown, hts⟩ (kX12_isTally l p1 xq23 hfq24) (va_cwS 1 hts (lwW_gS mw_1305 mw_1306 mw_14 mw_1307) rfl rfl rfl (by decide +kernel) ⟨Nat.le_of_ble_eq_true rfl, Nat.le_of_ble_eq_true rfl⟩) ⟨fun a U g mk q => ⟨q.1, trivial⟩, fun U hU hW => ⟨rfl, trivial⟩⟩ rfl rfl hl.1 rfl (lv_room (Nat.le_of_ble_eq_true rfl)) dX12_work_1 ⟨Nat.zero_le _, Nat.zero_le _⟩) hS (fun q _ h => h.elim) (fun q h => h.elim) (fun r u t H1 locs ht hvm hw hB hz1 hq1 hS => ?_)
  obtain rfl := hw.symm
  have hP := mP_kept hP hq1
  refine W.widen (k := 0) (n := 0) (Nat.le_refl _) (Nat.le_refl _) ?_
  refine lv_if_ne (tgt := 11) hx hb dX12_work_4 (by decide) (fun hcq25 => ?_) (fun hcq25 => ?_)
  · have h := ifn hcq25 h
    refine lv_iload_n hx hb dX12_work_11 rfl (lv_at hl 2 rfl) ?_
    refine lv_iconst (v := 0) hx hb dX12_work_12 (by decide) ?_
    refine lv_iconst (v := 5) hx hb dX12_work_13 (by decide) ?_
    obtain ⟨xq26, hfq27, h⟩ := obd h
    refine va_calli (va_runS (As := [.int p2, .int 0, .int 5]) (rest := []) ⟨hx, hb, hml, hown, hts⟩ (kX12_in l p2 0 5 xq26 hfq27) (va_cwS 3 hts (lwW_gS mw_1069 mw_1070 mw_14 mw_1071) rfl rfl rfl (by decide +kernel) ⟨Nat.le_of_ble_eq_true rfl, Nat.le_of_ble_eq_true rfl⟩) ⟨fun a U g mk q => ⟨q.1, trivial⟩, fun U hU hW => ⟨rfl, trivial⟩⟩ rfl rfl hl.1 rfl (lv_room (Nat.le_of_ble_eq_true rfl)) dX12_work_14 ⟨Nat.zero_le _, Nat.zero_le _⟩) hS (fun q _ h => h.elim) (fun q h => h.elim) (fun r u t H1 locs ht hvm hw hB hz1 hq1 hS => ?_)
    obtain rfl := hw.symm
    have hP := mP_kept hP hq1
    refine W.widen (k := 0) (n := 0) (Nat.le_refl _) (Nat.le_refl _) ?_
    refine lv_if_ne (tgt := 24) hx hb dX12_work_17 (by decide) (fun hcq28 => ?_) (fun hcq28 => ?_)
    · have h := ifn hcq28 h
      refine lv_aload_n hx hb dX12_work_24 rfl (lv_at hl 0 rfl) ?_
      refine lv_iload_n hx hb dX12_work_25 rfl (lv_at hl 1 rfl) ?_
      refine lv_iload_n hx hb dX12_work_26 rfl (lv_at hl 3 rfl) ?_
      obtain ⟨xq29, hfq30, h⟩ := obd h
      refine va_calli (va_runV (As := [.int p1, .int p3]) (rest := []) ⟨hx, hb, hml, hown, hts⟩ (kX12_lacks l D G _ p1 p3 xq29 hfq30) (cwV 2 hts (lwW_gV mw_1312 mw_1314 ms_57 mw_14 mw_1315) rfl rfl rfl (by decide +kernel) ⟨Nat.le_of_ble_eq_true rfl, Nat.le_of_ble_eq_true rfl⟩) ⟨fun a U g mk q => ⟨q.1, mPre_call q.2⟩, va_recv hK hP rfl (mg_2 rfl), fun U hU hW => ⟨rfl, mPre_at h0 hS hP hU hW⟩⟩ rfl rfl hl.1 rfl (lv_room (Nat.le_of_ble_eq_true rfl)) dX12_work_27 ⟨Nat.zero_le _, Nat.zero_le _⟩) hS (fun q _ h => h) (fun q h => h) (fun r u t H1 locs ht hvm hw hB hz1 hq1 hS => ?_)
      obtain ⟨rfl, rfl⟩ := hw
      have hP := hB.1
      rw [ht] at hP
      refine W.widen (k := 0) (n := 0) (Nat.le_refl _) (Nat.le_refl _) ?_
      refine lv_if_ge (tgt := 42) hx hb dX12_work_30 (by decide) (fun hcq31 => ?_) (fun hcq31 => ?_)
      · have h := ifp hcq31 h
        refine lv_aload_n hx hb dX12_work_42 rfl (lv_at hl 0 rfl) ?_
        refine lv_iload_n hx hb dX12_work_43 rfl (lv_at hl 1 rfl) ?_
        refine lv_iload hx hb dX12_work_44 (lv_at hl 4 rfl) ?_
        obtain ⟨xq32, hfq33, h⟩ := obd h
        refine va_calli (va_runV (As := [.int p1, .int p4]) (rest := []) ⟨hx, hb, hml, hown, hts⟩ (kX12_lacks l D G _ p1 p4 xq32 hfq33) (cwV 2 hts (lwW_gV mw_1312 mw_1314 ms_57 mw_14 mw_1315) rfl rfl rfl (by decide +kernel) ⟨Nat.le_of_ble_eq_true rfl, Nat.le_of_ble_eq_true rfl⟩) ⟨fun a U g mk q => ⟨q.1, mPre_call q.2⟩, va_recv hK hP rfl (mg_2 rfl), fun U hU hW => ⟨rfl, mPre_at h0 hS hP hU hW⟩⟩ rfl rfl hl.1 rfl (lv_room (Nat.le_of_ble_eq_true rfl)) dX12_work_46 ⟨Nat.zero_le _, Nat.zero_le _⟩) hS (fun q _ h => h) (fun q h => h) (fun r u t H1 locs ht hvm hw hB hz1 hq1 hS => ?_)
        obtain ⟨rfl, rfl⟩ := hw
        have hP := hB.1
        rw [ht] at hP
        refine W.widen (k := 0) (n := 0) (Nat.le_refl _) (Nat.le_refl _) ?_
        exact J49 xq32.1 _ _ _ _ h hP hS (lv_sub hl [0, 1, 2, 3, 4] rfl)
      have h := ifn hcq31 h
      refine lv_aload_n hx hb dX12_work_33 rfl (lv_at hl 0 rfl) ?_
      refine lv_iload_n hx hb dX12_work_34 rfl (lv_at hl 1 rfl) ?_
      refine lv_iload_n hx hb dX12_work_35 rfl (lv_at hl 3 rfl) ?_
      obtain ⟨xq34, hfq35, h⟩ := obd h
      refine va_calli (va_runV (As := [.int p1, .int p3]) (rest := []) ⟨hx, hb, hml, hown, hts⟩ (kX12_lacks l D G _ p1 p3 xq34 hfq35) (cwV 2 hts (lwW_gV mw_1312 mw_1314 ms_57 mw_14 mw_1315) rfl rfl rfl (by decide +kernel) ⟨Nat.le_of_ble_eq_true rfl, Nat.le_of_ble_eq_true rfl⟩) ⟨fun a U g mk q => ⟨q.1, mPre_call q.2⟩, va_recv hK hP rfl (mg_2 rfl), fun U hU hW => ⟨rfl, mPre_at h0 hS hP hU hW⟩⟩ rfl rfl hl.1 rfl (lv_room (Nat.le_of_ble_eq_true rfl)) dX12_work_36 ⟨Nat.zero_le _, Nat.zero_le _⟩) hS (fun q _ h => h) (fun q h => h) (fun r u t H1 locs ht hvm hw hB hz1 hq1 hS => ?_)
      obtain ⟨rfl, rfl⟩ := hw
      have hP := hB.1
      rw [ht] at hP
      refine W.widen (k := 0) (n := 0) (Nat.le_refl _) (Nat.le_refl _) ?_
      refine lv_goto (tgt := 49) hx hb dX12_work_39 (by decide) ?_
      exact J49 xq34.1 _ _ _ _ h hP hS (lv_sub hl [0, 1, 2, 3, 4] rfl)
    have h := ifp hcq28 h
    refine lv_sipush (v := (-1002)) hx hb dX12_work_20 (by decide) ?_
    obtain rfl := Option.some.inj h
    exact W.iret (v := (-1002)) hx hb hr (fun t ht hW => ⟨⟨_, _, rfl, ⟨rfl, rfl⟩, mPre_at h0 hS hP ht hW⟩, hS.F ht⟩) hS.2.2 dX12_work_23
  have h := ifp hcq25 h
  refine lv_sipush (v := (-1001)) hx hb dX12_work_7 (by decide) ?_
  obtain rfl := Option.some.inj h
  exact W.iret (v := (-1001)) hx hb hr (fun t ht hW => ⟨⟨_, _, rfl, ⟨rfl, rfl⟩, mPre_at h0 hS hP ht hW⟩, hS.F ht⟩) hS.2.2 dX12_work_10
def fX12_latest  (σ : QMem) : Option (Int32 × QMem) :=
  some (σ 28 33, σ)
set_option maxHeartbeats 4000000 in
set_option maxRecDepth 100000 in
theorem kX12_latest (l : Launch) (D : va_G) (G : xG) (σ : QMem) (res : Int32 × QMem) (h : fX12_latest σ = some res) : Met l yX12_latest (.code yX12_latest cX12_latest 1 (some .int) :: lwW) (rmD 0) (mPc D G σ [.ref (G.1 28)]) (mQi D G res) 0 0 (mA G) := by
  refine Met.ofW (cc := cX12_latest) (maxL := 1) (ret := (some .int)) (by decide) rfl ?_
  intro p e s m args below meth c s₁ B hml hv
  obtain ⟨rfl, h0⟩ := hv
  have hx := B.exec
  have hb := B.bytes
  have hr := B.returns
  have hts := fun (w : Cond) (hw : w ∈ lwW) => atoms_spec (ws := (.code yX12_latest cX12_latest 1 (some .int) :: lwW)) B.pre w (List.mem_cons_of_mem _ hw)
  have hown : s.vm.findClass RX12 = some m.cls := findClass_of_methodNamed B.named
  have hlocks := B.notSynchronized
  have hP := h0.1
  have hK := h0.2.1
  have hi := h0.2.2
  have hS : va_S (mA G) s.heap s.heap [] := va_S.rf
  have hl := lv_entry ([.ref (G.1 28)]) (n := 1) (Nat.le_of_ble_eq_true rfl)
  rw [lg_entry_eq]
  generalize (lg_sl ([.ref (G.1 28)]) ++ List.replicate (1 - (lg_sl ([.ref (G.1 28)])).length) Slot.unset).toArray = ls at hl ⊢
  have hl : lv_has ls 1 [(0, .ref (G.1 28))] := hl
  unfold fX12_latest at h
  refine lv_aload_n hx hb dX12_latest_0 rfl (lv_at hl 0 rfl) ?_
  refine va_get (D := D) (ci := 12) (v := .int (σ 28 33)) (C := RX12) (T := TX12) (N := 34) hx hb hts iwX12 hown hK hP 28 (mg_2 rfl) rfl 33 (by decide) (hts _ mw_991) (fun _ h9 => h9) rfl dX12_latest_1 ?_
  obtain rfl := Option.some.inj h
  exact W.iret (v := σ 28 33) hx hb hr (fun t ht hW => ⟨⟨_, _, rfl, ⟨rfl, rfl⟩, mPre_at h0 hS hP ht hW⟩, hS.F ht⟩) hS.2.2 dX12_latest_4
def fX12_drop (p1 : Int32) (σ : QMem) : Option (Int32 × QMem) :=
  (fX12_isTally p1).bind fun xq1 => (if xq1 = 0 then (some ((-1001), σ)) else (if (p1 < 0 ∨ ml 26 ≤ p1.toNatClampNeg) then none else (if 0 ≤ (σ 26 p1.toNatClampNeg) then (if (p1 < 0 ∨ ml 26 ≤ p1.toNatClampNeg) then none else (if (p1 < 0 ∨ ml 26 ≤ p1.toNatClampNeg) then none else (some (σ 26 p1.toNatClampNeg, ms σ 26 p1.toNatClampNeg (-1))))) else (some ((-1011), σ)))))
set_option maxHeartbeats 4000000 in
set_option maxRecDepth 100000 in
theorem kX12_drop (l : Launch) (D : va_G) (G : xG) (σ : QMem) (p1 : Int32) (res : Int32 × QMem) (h : fX12_drop p1 σ = some res) : Met l yX12_drop (.code yX12_drop cX12_drop 3 (some .int) :: lwW) (rmD 2) (mPc D G σ [.ref (G.1 28), .int p1]) (mQi D G res) 0 0 (mA G) := by
  refine Met.ofW (cc := cX12_drop) (maxL := 3) (ret := (some .int)) (by decide) rfl ?_
  intro p e s m args below meth c s₁ B hml hv
  obtain ⟨rfl, h0⟩ := hv
  have hx := B.exec
  have hb := B.bytes
  have hr := B.returns
  have hts := fun (w : Cond) (hw : w ∈ lwW) => atoms_spec (ws := (.code yX12_drop cX12_drop 3 (some .int) :: lwW)) B.pre w (List.mem_cons_of_mem _ hw)
  have hown : s.vm.findClass RX12 = some m.cls := findClass_of_methodNamed B.named
  have hlocks := B.notSynchronized
  have hP := h0.1
  have hK := h0.2.1
  have hi := h0.2.2
  have hS : va_S (mA G) s.heap s.heap [] := va_S.rf
  have hl := lv_entry ([.ref (G.1 28), .int p1]) (n := 3) (Nat.le_of_ble_eq_true rfl)
  rw [lg_entry_eq]
  generalize (lg_sl ([.ref (G.1 28), .int p1]) ++ List.replicate (3 - (lg_sl ([.ref (G.1 28), .int p1])).length) Slot.unset).toArray = ls at hl ⊢
  have hl : lv_has ls 3 [(0, .ref (G.1 28)), (1, .int p1)] := hl
  unfold fX12_drop at h
  refine lv_iload_n hx hb dX12_drop_0 rfl (lv_at hl 1 rfl) ?_
  obtain ⟨xq1, hfq2, h⟩ := obd h
  refine va_calli (va_runS (As := [.int p1]) (rest := []) ⟨hx, hb, hml, hown, hts⟩ (kX12_isTally l p1 xq1 hfq2) (va_cwS 1 hts (lwW_gS mw_1305 mw_1306 mw_14 mw_1307) rfl rfl rfl (by decide +kernel) ⟨Nat.le_of_ble_eq_true rfl, Nat.le_of_ble_eq_true rfl⟩) ⟨fun a U g mk q => ⟨q.1, trivial⟩, fun U hU hW => ⟨rfl, trivial⟩⟩ rfl rfl hl.1 rfl (lv_room (Nat.le_of_ble_eq_true rfl)) dX12_drop_1 ⟨Nat.zero_le _, Nat.zero_le _⟩) hS (fun q _ h => h.elim) (fun q h => h.elim) (fun r u t H1 locs ht hvm hw hB hz1 hq1 hS => ?_)
  obtain rfl := hw.symm
  have hP := mP_kept hP hq1
  refine W.widen (k := 0) (n := 0) (Nat.le_refl _) (Nat.le_refl _) ?_
  refine lv_if_ne (tgt := 11) hx hb dX12_drop_4 (by decide) (fun hcq3 => ?_) (fun hcq3 => ?_)
  · have h := ifn hcq3 h
    refine lv_aload_n hx hb dX12_drop_11 rfl (lv_at hl 0 rfl) ?_
    refine va_get (D := D) (ci := 12) (v := .ref (G.1 26)) (C := RX12) (T := TX12) (N := 34) hx hb hts iwX12 hown hK hP 28 (mg_2 rfl) rfl 31 (by decide) (hts _ mw_989) (fun _ h9 => h9) rfl dX12_drop_12 ?_
    refine lv_iload_n hx hb dX12_drop_15 rfl (lv_at hl 1 rfl) ?_
    obtain ⟨hiq4, h⟩ := nif h
    refine va_iald hx hb hK hP 26 0 (mg_0 rfl) rfl hiq4 dX12_drop_16 ?_
    refine lv_if_ge (tgt := 24) hx hb dX12_drop_17 (by decide) (fun hcq5 => ?_) (fun hcq5 => ?_)
    · have h := ifp hcq5 h
      refine lv_aload_n hx hb dX12_drop_24 rfl (lv_at hl 0 rfl) ?_
      refine va_get (D := D) (ci := 12) (v := .ref (G.1 26)) (C := RX12) (T := TX12) (N := 34) hx hb hts iwX12 hown hK hP 28 (mg_2 rfl) rfl 31 (by decide) (hts _ mw_989) (fun _ h9 => h9) rfl dX12_drop_25 ?_
      refine lv_iload_n hx hb dX12_drop_28 rfl (lv_at hl 1 rfl) ?_
      obtain ⟨hiq6, h⟩ := nif h
      refine va_iald hx hb hK hP 26 0 (mg_0 rfl) rfl hiq6 dX12_drop_29 ?_
      refine lv_istore_n (lv' := [(2, .int (σ 26 p1.toNatClampNeg)), (0, .ref (G.1 28)), (1, .int p1)]) hx hb dX12_drop_30 rfl hl (by decide) rfl (fun ls hl => ?_)
      refine lv_aload_n hx hb dX12_drop_31 rfl (lv_at hl 1 rfl) ?_
      refine va_get (D := D) (ci := 12) (v := .ref (G.1 26)) (C := RX12) (T := TX12) (N := 34) hx hb hts iwX12 hown hK hP 28 (mg_2 rfl) rfl 31 (by decide) (hts _ mw_989) (fun _ h9 => h9) rfl dX12_drop_32 ?_
      refine lv_iload_n hx hb dX12_drop_35 rfl (lv_at hl 2 rfl) ?_
      refine lv_iconst (v := (-1)) hx hb dX12_drop_36 (by decide) ?_
      obtain ⟨hiq7, h⟩ := nif h
      refine va_iast hx hb hK hP (mD hi) hS 26 0 (mg_0 rfl) rfl hiq7 dX12_drop_37 (fun H locs hP hD hS => ?_)
      have hP : va_P D vwCl (mW G (ms σ 26 p1.toNatClampNeg (-1))) H := by rw [← ms_0x rfl]; exact hP
      refine lv_iload_n hx hb dX12_drop_38 rfl (lv_at hl 0 rfl) ?_
      obtain rfl := Option.some.inj h
      exact W.iret (v := σ 26 p1.toNatClampNeg) hx hb hr (fun t ht hW => ⟨⟨_, _, rfl, ⟨rfl, rfl⟩, mPre_at h0 hS hP ht hW⟩, hS.F ht⟩) hS.2.2 dX12_drop_39
    have h := ifn hcq5 h
    refine lv_sipush (v := (-1011)) hx hb dX12_drop_20 (by decide) ?_
    obtain rfl := Option.some.inj h
    exact W.iret (v := (-1011)) hx hb hr (fun t ht hW => ⟨⟨_, _, rfl, ⟨rfl, rfl⟩, mPre_at h0 hS hP ht hW⟩, hS.F ht⟩) hS.2.2 dX12_drop_23
  have h := ifp hcq3 h
  refine lv_sipush (v := (-1001)) hx hb dX12_drop_7 (by decide) ?_
  obtain rfl := Option.some.inj h
  exact W.iret (v := (-1001)) hx hb hr (fun t ht hW => ⟨⟨_, _, rfl, ⟨rfl, rfl⟩, mPre_at h0 hS hP ht hW⟩, hS.F ht⟩) hS.2.2 dX12_drop_10
def fX12_count_J110 (p1 : Int32) (K85 : Int32 → Int32 → QMem → Option (Int32 × QMem)) (v3 : Int32) (s0 : Int32) (s1 : Int32) (τ : QMem) : Option (Int32 × QMem) :=
  K85 (s0 + s1) (v3 + 1) τ
def fX12_count_L85 (p1 : Int32) : Nat → Int32 → Int32 → QMem → Option (Int32 × QMem)
  | 0, _, _, _ => none
  | n + 1, v2, v3, τ =>
  if 3 ≤ v3 then (some (v2, τ)) else (if (v3 < 0 ∨ ml 26 ≤ v3.toNatClampNeg) then none else (if 0 ≤ (τ 26 v3.toNatClampNeg) then (if (v3 < 0 ∨ ml 26 ≤ v3.toNatClampNeg) then none else (fX12_count_J110 p1 (fX12_count_L85 p1 n) v3 v2 (τ 26 v3.toNatClampNeg) τ)) else (fX12_count_J110 p1 (fX12_count_L85 p1 n) v3 v2 0 τ)))
def fX12_count_L51 (p1 : Int32) : Nat → Int32 → Int32 → QMem → Option (Int32 × QMem)
  | 0, _, _, _ => none
  | n + 1, v2, v3, τ =>
  if 6 ≤ v3 then (some (v2, τ)) else ((fX12_norm v3 τ).bind fun xq6 => ((fX12_count_L51 p1 n) (v2 + xq6.1) (v3 + 1) xq6.2))
def fX12_count (p1 : Int32) (σ : QMem) : Option (Int32 × QMem) :=
  if p1 = 0 then ((fX12_filled σ).bind fun xq9 => (some (xq9.1, xq9.2))) else (if p1 = 1 then (fX12_count_L51 p1 FU 0 0 σ) else (if p1 = 2 then (some (σ 28 15, σ)) else (if p1 = 3 then (some (σ 28 26, σ)) else (if p1 = 4 then (fX12_count_L85 p1 FU 0 0 σ) else (if p1 = 5 then (if (p1 - 5 < 0 ∨ ml 15 ≤ (p1 - 5).toNatClampNeg) then none else (if (σ 15 (p1 - 5).toNatClampNeg) = 0 then (some (0, σ)) else (some (1, σ)))) else (if p1 = 6 then (if (p1 - 5 < 0 ∨ ml 15 ≤ (p1 - 5).toNatClampNeg) then none else (if (σ 15 (p1 - 5).toNatClampNeg) = 0 then (some (0, σ)) else (some (1, σ)))) else (some ((-1002), σ))))))))
set_option maxHeartbeats 4000000 in
set_option maxRecDepth 100000 in
theorem kX12_count (l : Launch) (D : va_G) (G : xG) (σ : QMem) (p1 : Int32) (res : Int32 × QMem) (h : fX12_count p1 σ = some res) : Met l yX12_count (.code yX12_count cX12_count 4 (some .int) :: lwW) (rmD 3) (mPc D G σ [.ref (G.1 28), .int p1]) (mQi D G res) 0 0 (mA G) := by
  refine Met.ofW (cc := cX12_count) (maxL := 4) (ret := (some .int)) (by decide) rfl ?_
  intro p e s m args below meth c s₁ B hml hv
  obtain ⟨rfl, h0⟩ := hv
  have hx := B.exec
  have hb := B.bytes
  have hr := B.returns
  have hts := fun (w : Cond) (hw : w ∈ lwW) => atoms_spec (ws := (.code yX12_count cX12_count 4 (some .int) :: lwW)) B.pre w (List.mem_cons_of_mem _ hw)
  have hown : s.vm.findClass RX12 = some m.cls := findClass_of_methodNamed B.named
  have hlocks := B.notSynchronized
  have hP := h0.1
  have hK := h0.2.1
  have hi := h0.2.2
  have hS : va_S (mA G) s.heap s.heap [] := va_S.rf
  have hl := lv_entry ([.ref (G.1 28), .int p1]) (n := 4) (Nat.le_of_ble_eq_true rfl)
  rw [lg_entry_eq]
  generalize (lg_sl ([.ref (G.1 28), .int p1]) ++ List.replicate (4 - (lg_sl ([.ref (G.1 28), .int p1])).length) Slot.unset).toArray = ls at hl ⊢
  have hl : lv_has ls 4 [(0, .ref (G.1 28)), (1, .int p1)] := hl
  unfold fX12_count at h
  have L85 : ∀ (n85 : Nat) (v2 : Int32) (v3 : Int32) (τ : QMem) (H : Heap) (locs : List Loc) (ls : Array Slot), fX12_count_L85 p1 n85 v2 v3 τ = some res → va_P D vwCl (mW G τ) H → va_S (mA G) s.heap H locs → lv_has ls 4 [(0, .ref (G.1 28)), (2, .int v2), (3, .int v3)] → W p l e (headSpec (.code yX12_count cX12_count 4 (some .int) :: lwW) (rmD 3)).room s m ([.ref (G.1 28), .int p1] : List Value).toArray below meth c H locs 0 0 (MQ below (mQi D G res) ([.ref (G.1 28), .int p1] : List Value).toArray s 0 0 (mA G)) (F0 m 85 ls []) := by
    intro n85
    induction n85 with
    | zero => intro v2 v3 τ H locs ls h; rw [fX12_count_L85] at h; cases h
    | succ n85 ih85 =>
      intro v2 v3 τ H locs ls h hP hS hl
      rw [fX12_count_L85] at h
      have J110 : ∀ (v3 : Int32) (s0 : Int32) (s1 : Int32) (τ : QMem) (H : Heap) (locs : List Loc) (ls : Array Slot), fX12_count_J110 p1 (fX12_count_L85 p1 n85) v3 s0 s1 τ = some res → va_P D vwCl (mW G τ) H → va_S (mA G) s.heap H locs → lv_has ls 4 [(0, .ref (G.1 28)), (3, .int v3)] → W p l e (headSpec (.code yX12_count cX12_count 4 (some .int) :: lwW) (rmD 3)).room s m ([.ref (G.1 28), .int p1] : List Value).toArray below meth c H locs 0 0 (MQ below (mQi D G res) ([.ref (G.1 28), .int p1] : List Value).toArray s 0 0 (mA G)) (F0 m 110 ls [.int s1, .int s0]) := by
        intro v3 s0 s1 τ H locs ls h hP hS hl
        unfold fX12_count_J110 at h
        refine lv_iadd hx hb dX12_count_110 ?_
        refine lv_istore_n (lv' := [(2, .int (s0 + s1)), (0, .ref (G.1 28)), (3, .int v3)]) hx hb dX12_count_111 rfl hl (by decide) rfl (fun ls hl => ?_)
        refine lv_iinc (v := v3 + 1) (lv' := [(3, .int (v3 + 1)), (2, .int (s0 + s1)), (0, .ref (G.1 28))]) hx hb dX12_count_112 hl (k := 2) rfl rfl (by decide) rfl (fun ls hl => ?_)
        refine lv_goto (tgt := 85) hx hb dX12_count_115 (by decide) ?_
        exact ih85 (s0 + s1) (v3 + 1) _ _ _ _ h hP hS (lv_sub hl [2, 1, 0] rfl)
      refine lv_iload_n hx hb dX12_count_85 rfl (lv_at hl 2 rfl) ?_
      refine lv_iconst (v := 3) hx hb dX12_count_86 (by decide) ?_
      refine lv_icmp_ge (tgt := 118) hx hb dX12_count_87 (by decide) (fun hcq1 => ?_) (fun hcq1 => ?_)
      · have h := ifp hcq1 h
        refine lv_iload_n hx hb dX12_count_118 rfl (lv_at hl 1 rfl) ?_
        obtain rfl := Option.some.inj h
        exact W.iret (v := v2) hx hb hr (fun t ht hW => ⟨⟨_, _, rfl, ⟨rfl, rfl⟩, mPre_at h0 hS hP ht hW⟩, hS.F ht⟩) hS.2.2 dX12_count_119
      have h := ifn hcq1 h
      refine lv_iload_n hx hb dX12_count_90 rfl (lv_at hl 1 rfl) ?_
      refine lv_aload_n hx hb dX12_count_91 rfl (lv_at hl 0 rfl) ?_
      refine va_get (D := D) (ci := 12) (v := .ref (G.1 26)) (C := RX12) (T := TX12) (N := 34) hx hb hts iwX12 hown hK hP 28 (mg_2 rfl) rfl 31 (by decide) (hts _ mw_989) (fun _ h9 => h9) rfl dX12_count_92 ?_
      refine lv_iload_n hx hb dX12_count_95 rfl (lv_at hl 2 rfl) ?_
      obtain ⟨hiq2, h⟩ := nif h
      refine va_iald hx hb hK hP 26 0 (mg_0 rfl) rfl hiq2 dX12_count_96 ?_
      refine lv_if_ge (tgt := 104) hx hb dX12_count_97 (by decide) (fun hcq3 => ?_) (fun hcq3 => ?_)
      · have h := ifp hcq3 h
        refine lv_aload_n hx hb dX12_count_104 rfl (lv_at hl 0 rfl) ?_
        refine va_get (D := D) (ci := 12) (v := .ref (G.1 26)) (C := RX12) (T := TX12) (N := 34) hx hb hts iwX12 hown hK hP 28 (mg_2 rfl) rfl 31 (by decide) (hts _ mw_989) (fun _ h9 => h9) rfl dX12_count_105 ?_
        refine lv_iload_n hx hb dX12_count_108 rfl (lv_at hl 2 rfl) ?_
        obtain ⟨hiq4, h⟩ := nif h
        refine va_iald hx hb hK hP 26 0 (mg_0 rfl) rfl hiq4 dX12_count_109 ?_
        exact J110 v3 v2 (τ 26 v3.toNatClampNeg) _ _ _ _ h hP hS (lv_sub hl [0, 2] rfl)
      have h := ifn hcq3 h
      refine lv_iconst (v := 0) hx hb dX12_count_100 (by decide) ?_
      refine lv_goto (tgt := 110) hx hb dX12_count_101 (by decide) ?_
      exact J110 v3 v2 0 _ _ _ _ h hP hS (lv_sub hl [0, 2] rfl)
  have L51 : ∀ (n51 : Nat) (v2 : Int32) (v3 : Int32) (τ : QMem) (H : Heap) (locs : List Loc) (ls : Array Slot), fX12_count_L51 p1 n51 v2 v3 τ = some res → va_P D vwCl (mW G τ) H → va_S (mA G) s.heap H locs → lv_has ls 4 [(0, .ref (G.1 28)), (2, .int v2), (3, .int v3)] → W p l e (headSpec (.code yX12_count cX12_count 4 (some .int) :: lwW) (rmD 3)).room s m ([.ref (G.1 28), .int p1] : List Value).toArray below meth c H locs 0 0 (MQ below (mQi D G res) ([.ref (G.1 28), .int p1] : List Value).toArray s 0 0 (mA G)) (F0 m 51 ls []) := by
    intro n51
    induction n51 with
    | zero => intro v2 v3 τ H locs ls h; rw [fX12_count_L51] at h; cases h
    | succ n51 ih51 =>
      intro v2 v3 τ H locs ls h hP hS hl
      rw [fX12_count_L51] at h
      refine lv_iload_n hx hb dX12_count_51 rfl (lv_at hl 2 rfl) ?_
      refine lv_bipush (v := 6) hx hb dX12_count_52 (by decide) ?_
      refine lv_icmp_ge (tgt := 71) hx hb dX12_count_54 (by decide) (fun hcq5 => ?_) (fun hcq5 => ?_)
      · have h := ifp hcq5 h
        refine lv_iload_n hx hb dX12_count_71 rfl (lv_at hl 1 rfl) ?_
        obtain rfl := Option.some.inj h
        exact W.iret (v := v2) hx hb hr (fun t ht hW => ⟨⟨_, _, rfl, ⟨rfl, rfl⟩, mPre_at h0 hS hP ht hW⟩, hS.F ht⟩) hS.2.2 dX12_count_72
      have h := ifn hcq5 h
      refine lv_iload_n hx hb dX12_count_57 rfl (lv_at hl 1 rfl) ?_
      refine lv_aload_n hx hb dX12_count_58 rfl (lv_at hl 0 rfl) ?_
      refine lv_iload_n hx hb dX12_count_59 rfl (lv_at hl 2 rfl) ?_
      obtain ⟨xq6, hfq7, h⟩ := obd h
      refine va_calli (va_runV (As := [.int v3]) (rest := [.int v2]) ⟨hx, hb, hml, hown, hts⟩ (kX12_norm l D G _ v3 xq6 hfq7) (cwV 1 hts (lwW_gV mw_1083 mw_1085 ms_31 mw_14 mw_1086) rfl rfl rfl (by decide +kernel) ⟨Nat.le_of_ble_eq_true rfl, Nat.le_of_ble_eq_true rfl⟩) ⟨fun a U g mk q => ⟨q.1, mPre_call q.2⟩, va_recv hK hP rfl (mg_2 rfl), fun U hU hW => ⟨rfl, mPre_at h0 hS hP hU hW⟩⟩ rfl rfl hl.1 rfl (lv_room (Nat.le_of_ble_eq_true rfl)) dX12_count_60 ⟨Nat.zero_le _, Nat.zero_le _⟩) hS (fun q _ h => h) (fun q h => h) (fun r u t H1 locs ht hvm hw hB hz1 hq1 hS => ?_)
      obtain ⟨rfl, rfl⟩ := hw
      have hP := hB.1
      rw [ht] at hP
      refine W.widen (k := 0) (n := 0) (Nat.le_refl _) (Nat.le_refl _) ?_
      refine lv_iadd hx hb dX12_count_63 ?_
      refine lv_istore_n (lv' := [(2, .int (v2 + xq6.1)), (0, .ref (G.1 28)), (3, .int v3)]) hx hb dX12_count_64 rfl hl (by decide) rfl (fun ls hl => ?_)
      refine lv_iinc (v := v3 + 1) (lv' := [(3, .int (v3 + 1)), (2, .int (v2 + xq6.1)), (0, .ref (G.1 28))]) hx hb dX12_count_65 hl (k := 2) rfl rfl (by decide) rfl (fun ls hl => ?_)
      refine lv_goto (tgt := 51) hx hb dX12_count_68 (by decide) ?_
      exact ih51 (v2 + xq6.1) (v3 + 1) _ _ _ _ h hP hS (lv_sub hl [2, 1, 0] rfl)
  refine lv_iconst (v := 0) hx hb dX12_count_0 (by decide) ?_
  refine lv_istore_n (lv' := [(2, .int 0), (0, .ref (G.1 28)), (1, .int p1)]) hx hb dX12_count_1 rfl hl (by decide) rfl (fun ls hl => ?_)
  refine lv_iload_n hx hb dX12_count_2 rfl (lv_at hl 2 rfl) ?_
  by_cases hcq8 : p1 = 0
  · have h := ifp hcq8 h
    refine lv_tableIn (off := 41) (tgt := 44) hx hb dX12_count_3 (by rw [hcq8]; decide) (by rw [hcq8]; decide) (by rw [hcq8]; rfl) (by decide) ?_
    refine lv_aload_n hx hb dX12_count_44 rfl (lv_at hl 1 rfl) ?_
    obtain ⟨xq9, hfq10, h⟩ := obd h
    refine va_calli (va_runV (As := []) (rest := []) ⟨hx, hb, hml, hown, hts⟩ (kX12_filled l D G _ xq9 hfq10) (cwV 0 hts (lwW_gV mw_1175 mw_1177 ms_42 mw_14 mw_1178) rfl rfl rfl (by decide +kernel) ⟨Nat.le_of_ble_eq_true rfl, Nat.le_of_ble_eq_true rfl⟩) ⟨fun a U g mk q => ⟨q.1, mPre_call q.2⟩, va_recv hK hP rfl (mg_2 rfl), fun U hU hW => ⟨rfl, mPre_at h0 hS hP hU hW⟩⟩ rfl rfl hl.1 rfl (lv_room (Nat.le_of_ble_eq_true rfl)) dX12_count_45 ⟨Nat.zero_le _, Nat.zero_le _⟩) hS (fun q _ h => h) (fun q h => h) (fun r u t H1 locs ht hvm hw hB hz1 hq1 hS => ?_)
    obtain ⟨rfl, rfl⟩ := hw
    have hP := hB.1
    rw [ht] at hP
    refine W.widen (k := 0) (n := 0) (Nat.le_refl _) (Nat.le_refl _) ?_
    obtain rfl := Option.some.inj h
    exact W.iret (v := xq9.1) hx hb hr (fun t ht hW => ⟨⟨_, _, rfl, ⟨rfl, rfl⟩, mPre_at h0 hS hP ht hW⟩, hS.F ht⟩) hS.2.2 dX12_count_48
  have h := ifn hcq8 h
  by_cases hcq11 : p1 = 1
  · have h := ifp hcq11 h
    refine lv_tableIn (off := 46) (tgt := 49) hx hb dX12_count_3 (by rw [hcq11]; decide) (by rw [hcq11]; decide) (by rw [hcq11]; rfl) (by decide) ?_
    refine lv_iconst (v := 0) hx hb dX12_count_49 (by decide) ?_
    refine lv_istore_n (lv' := [(3, .int 0), (2, .int 0), (0, .ref (G.1 28)), (1, .int p1)]) hx hb dX12_count_50 rfl hl (by decide) rfl (fun ls hl => ?_)
    exact L51 FU 0 0 _ _ _ _ h hP hS (lv_sub hl [2, 1, 0] rfl)
  have h := ifn hcq11 h
  by_cases hcq12 : p1 = 2
  · have h := ifp hcq12 h
    refine lv_tableIn (off := 70) (tgt := 73) hx hb dX12_count_3 (by rw [hcq12]; decide) (by rw [hcq12]; decide) (by rw [hcq12]; rfl) (by decide) ?_
    refine lv_aload_n hx hb dX12_count_73 rfl (lv_at hl 1 rfl) ?_
    refine va_get (D := D) (ci := 12) (v := .int (σ 28 15)) (C := RX12) (T := TX12) (N := 34) hx hb hts iwX12 hown hK hP 28 (mg_2 rfl) rfl 15 (by decide) (hts _ mw_973) (fun _ h9 => h9) rfl dX12_count_74 ?_
    obtain rfl := Option.some.inj h
    exact W.iret (v := σ 28 15) hx hb hr (fun t ht hW => ⟨⟨_, _, rfl, ⟨rfl, rfl⟩, mPre_at h0 hS hP ht hW⟩, hS.F ht⟩) hS.2.2 dX12_count_77
  have h := ifn hcq12 h
  by_cases hcq13 : p1 = 3
  · have h := ifp hcq13 h
    refine lv_tableIn (off := 75) (tgt := 78) hx hb dX12_count_3 (by rw [hcq13]; decide) (by rw [hcq13]; decide) (by rw [hcq13]; rfl) (by decide) ?_
    refine lv_aload_n hx hb dX12_count_78 rfl (lv_at hl 1 rfl) ?_
    refine va_get (D := D) (ci := 12) (v := .int (σ 28 26)) (C := RX12) (T := TX12) (N := 34) hx hb hts iwX12 hown hK hP 28 (mg_2 rfl) rfl 26 (by decide) (hts _ mw_984) (fun _ h9 => h9) rfl dX12_count_79 ?_
    obtain rfl := Option.some.inj h
    exact W.iret (v := σ 28 26) hx hb hr (fun t ht hW => ⟨⟨_, _, rfl, ⟨rfl, rfl⟩, mPre_at h0 hS hP ht hW⟩, hS.F ht⟩) hS.2.2 dX12_count_82
  have h := ifn hcq13 h
  by_cases hcq14 : p1 = 4
  · have h := ifp hcq14 h
    refine lv_tableIn (off := 80) (tgt := 83) hx hb dX12_count_3 (by rw [hcq14]; decide) (by rw [hcq14]; decide) (by rw [hcq14]; rfl) (by decide) ?_
    refine lv_iconst (v := 0) hx hb dX12_count_83 (by decide) ?_
    refine lv_istore_n (lv' := [(3, .int 0), (2, .int 0), (0, .ref (G.1 28)), (1, .int p1)]) hx hb dX12_count_84 rfl hl (by decide) rfl (fun ls hl => ?_)
    exact L85 FU 0 0 _ _ _ _ h hP hS (lv_sub hl [2, 1, 0] rfl)
  have h := ifn hcq14 h
  by_cases hcq15 : p1 = 5
  · have h := ifp hcq15 h
    refine lv_tableIn (off := 117) (tgt := 120) hx hb dX12_count_3 (by rw [hcq15]; decide) (by rw [hcq15]; decide) (by rw [hcq15]; rfl) (by decide) ?_
    refine lv_aload_n hx hb dX12_count_120 rfl (lv_at hl 1 rfl) ?_
    refine va_get (D := D) (ci := 12) (v := .ref (G.1 15)) (C := RX12) (T := TX12) (N := 34) hx hb hts iwX12 hown hK hP 28 (mg_2 rfl) rfl 17 (by decide) (hts _ mw_975) (fun _ h9 => h9) rfl dX12_count_121 ?_
    refine lv_iload_n hx hb dX12_count_124 rfl (lv_at hl 2 rfl) ?_
    refine lv_iconst (v := 5) hx hb dX12_count_125 (by decide) ?_
    refine lv_isub hx hb dX12_count_126 ?_
    obtain ⟨hiq16, h⟩ := nif h
    refine va_zald hx hb hK hP 15 1 (mg_1 rfl) rfl hiq16 dX12_count_127 ?_
    refine lv_if_eq (tgt := 135) hx hb dX12_count_128 (by decide) (fun hcq17 => ?_) (fun hcq17 => ?_)
    · have h := ifp hcq17 h
      refine lv_iconst (v := 0) hx hb dX12_count_135 (by decide) ?_
      obtain rfl := Option.some.inj h
      exact W.iret (v := 0) hx hb hr (fun t ht hW => ⟨⟨_, _, rfl, ⟨rfl, rfl⟩, mPre_at h0 hS hP ht hW⟩, hS.F ht⟩) hS.2.2 dX12_count_136
    have h := ifn hcq17 h
    refine lv_iconst (v := 1) hx hb dX12_count_131 (by decide) ?_
    refine lv_goto (tgt := 136) hx hb dX12_count_132 (by decide) ?_
    obtain rfl := Option.some.inj h
    exact W.iret (v := 1) hx hb hr (fun t ht hW => ⟨⟨_, _, rfl, ⟨rfl, rfl⟩, mPre_at h0 hS hP ht hW⟩, hS.F ht⟩) hS.2.2 dX12_count_136
  have h := ifn hcq15 h
  by_cases hcq18 : p1 = 6
  · have h := ifp hcq18 h
    refine lv_tableIn (off := 117) (tgt := 120) hx hb dX12_count_3 (by rw [hcq18]; decide) (by rw [hcq18]; decide) (by rw [hcq18]; rfl) (by decide) ?_
    refine lv_aload_n hx hb dX12_count_120 rfl (lv_at hl 1 rfl) ?_
    refine va_get (D := D) (ci := 12) (v := .ref (G.1 15)) (C := RX12) (T := TX12) (N := 34) hx hb hts iwX12 hown hK hP 28 (mg_2 rfl) rfl 17 (by decide) (hts _ mw_975) (fun _ h9 => h9) rfl dX12_count_121 ?_
    refine lv_iload_n hx hb dX12_count_124 rfl (lv_at hl 2 rfl) ?_
    refine lv_iconst (v := 5) hx hb dX12_count_125 (by decide) ?_
    refine lv_isub hx hb dX12_count_126 ?_
    obtain ⟨hiq19, h⟩ := nif h
    refine va_zald hx hb hK hP 15 1 (mg_1 rfl) rfl hiq19 dX12_count_127 ?_
    refine lv_if_eq (tgt := 135) hx hb dX12_count_128 (by decide) (fun hcq20 => ?_) (fun hcq20 => ?_)
    · have h := ifp hcq20 h
      refine lv_iconst (v := 0) hx hb dX12_count_135 (by decide) ?_
      obtain rfl := Option.some.inj h
      exact W.iret (v := 0) hx hb hr (fun t ht hW => ⟨⟨_, _, rfl, ⟨rfl, rfl⟩, mPre_at h0 hS hP ht hW⟩, hS.F ht⟩) hS.2.2 dX12_count_136
    have h := ifn hcq20 h
    refine lv_iconst (v := 1) hx hb dX12_count_131 (by decide) ?_
    refine lv_goto (tgt := 136) hx hb dX12_count_132 (by decide) ?_
    obtain rfl := Option.some.inj h
    exact W.iret (v := 1) hx hb hr (fun t ht hW => ⟨⟨_, _, rfl, ⟨rfl, rfl⟩, mPre_at h0 hS hP ht hW⟩, hS.F ht⟩) hS.2.2 dX12_count_136
  have h := ifn hcq18 h
  refine lv_tableOut (tgt := 137) hx hb dX12_count_3 (by have t0 := toI_ne hcq8; have t1 := toI_ne hcq11; have t2 := toI_ne hcq12; have t3 := toI_ne hcq13; have t4 := toI_ne hcq14; have t5 := toI_ne hcq15; have t6 := toI_ne hcq18; rw [show (0 : Int32).toInt = 0 from by decide] at t0; rw [show (1 : Int32).toInt = 1 from by decide] at t1; rw [show (2 : Int32).toInt = 2 from by decide] at t2; rw [show (3 : Int32).toInt = 3 from by decide] at t3; rw [show (4 : Int32).toInt = 4 from by decide] at t4; rw [show (5 : Int32).toInt = 5 from by decide] at t5; rw [show (6 : Int32).toInt = 6 from by decide] at t6; omega) (by decide) ?_
  refine lv_sipush (v := (-1002)) hx hb dX12_count_137 (by decide) ?_
  obtain rfl := Option.some.inj h
  exact W.iret (v := (-1002)) hx hb hr (fun t ht hW => ⟨⟨_, _, rfl, ⟨rfl, rfl⟩, mPre_at h0 hS hP ht hW⟩, hS.F ht⟩) hS.2.2 dX12_count_140
