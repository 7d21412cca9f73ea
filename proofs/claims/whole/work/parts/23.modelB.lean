def fX12_chainsOf_L91 (p1 : Int32) : Nat → Int32 → QMem → Option (Int32 × QMem)
  | 0, _, _ => none
  | n + 1, v3, τ =>
  if (τ 28 6) ≤ v3 then (if ((τ 28 6) - 1 < 0 ∨ ml 18 ≤ ((τ 28 6) - 1).toNatClampNeg) then none else (some (τ 18 ((τ 28 6) - 1).toNatClampNeg, τ))) else ((fX12_laysChain v3 τ).bind fun xq3 => ((fX12_chainsOf_L91 p1 n) (v3 + 1) xq3))
def fX12_chainsOf_L60 (p1 : Int32) (K28 : Int32 → Int32 → QMem → Option (Int32 × QMem)) : Nat → Int32 → Int32 → Int32 → QMem → Option (Int32 × QMem)
  | 0, _, _, _, _ => none
  | n + 1, v2, v3, v5, τ =>
  if (τ 28 6) ≤ v5 then (K28 v2 (v3 + 1) τ) else (if (v5 < 0 ∨ ml 17 ≤ v5.toNatClampNeg) then none else ((fX12_chainsOf_L60 p1 K28 n) v2 v3 (v5 + 1) (ms τ 17 v5.toNatClampNeg v3)))
def fX12_chainsOf_J56 (p1 : Int32) (K28 : Int32 → Int32 → QMem → Option (Int32 × QMem)) (v2 : Int32) (v3 : Int32) (v4 : Int32) (τ : QMem) : Option (Int32 × QMem) :=
  fX12_chainsOf_L60 p1 K28 FU v2 v3 v4 τ
def fX12_chainsOf_L28 (p1 : Int32) : Nat → Int32 → Int32 → QMem → Option (Int32 × QMem)
  | 0, _, _, _ => none
  | n + 1, v2, v3, τ =>
  if v2 < v3 then (fX12_chainsOf_L91 p1 FU 0 τ) else (if v3 = 0 then none else (if (v2 - v2 / v3 * v3) = 0 then ((fX12_gathers v3 0 1 1 600 τ).bind fun xq10 => (fX12_chainsOf_J56 p1 (fX12_chainsOf_L28 p1 n) v2 v3 (τ 28 6) xq10)) else (fX12_chainsOf_J56 p1 (fX12_chainsOf_L28 p1 n) v2 v3 (τ 28 6) τ)))
def fX12_chainsOf (p1 : Int32) (σ : QMem) : Option (Int32 × QMem) :=
  (fX12_copies 13 (4 * p1) 7 0 σ).bind fun xq12 => ((fX12_norm p1 (ms xq12 28 6 0)).bind fun xq14 => (fX12_chainsOf_L28 p1 FU xq14.1 1 xq14.2))
set_option maxHeartbeats 4000000 in
set_option maxRecDepth 100000 in
theorem kX12_chainsOf (l : Launch) (D : va_G) (G : xG) (σ : QMem) (p1 : Int32) (res : Int32 × QMem) (h : fX12_chainsOf p1 σ = some res) : Met l yX12_chainsOf (.code yX12_chainsOf cX12_chainsOf 6 (some .int) :: lwW) (rmD 6) (mPc D G σ [.ref (G.1 28), .int p1]) (mQi D G res) 0 0 (mA G) := by
  refine Met.ofW (cc := cX12_chainsOf) (maxL := 6) (ret := (some .int)) (by decide) rfl ?_
  intro p e s m args below meth c s₁ B hml hv
  obtain ⟨rfl, h0⟩ := hv
  have hx := B.exec
  have hb := B.bytes
  have hr := B.returns
  have hts := fun (w : Cond) (hw : w ∈ lwW) => atoms_spec (ws := (.code yX12_chainsOf cX12_chainsOf 6 (some .int) :: lwW)) B.pre w (List.mem_cons_of_mem _ hw)
  have hown : s.vm.findClass RX12 = some m.cls := findClass_of_methodNamed B.named
  have hlocks := B.notSynchronized
  have hP := h0.1
  have hK := h0.2.1
  have hi := h0.2.2
  have hS : va_S (mA G) s.heap s.heap [] := va_S.rf
  have hl := lv_entry ([.ref (G.1 28), .int p1]) (n := 6) (Nat.le_of_ble_eq_true rfl)
  rw [lg_entry_eq]
  generalize (lg_sl ([.ref (G.1 28), .int p1]) ++ List.replicate (6 - (lg_sl ([.ref (G.1 28), .int p1])).length) Slot.unset).toArray = ls at hl ⊢
  have hl : lv_has ls 6 [(0, .ref (G.1 28)), (1, .int p1)] := hl
  unfold fX12_chainsOf at h
  have L91 : ∀ (n91 : Nat) (v3 : Int32) (τ : QMem) (H : Heap) (locs : List Loc) (ls : Array Slot), fX12_chainsOf_L91 p1 n91 v3 τ = some res → va_P D vwCl (mW G τ) H → va_S (mA G) s.heap H locs → lv_has ls 6 [(0, .ref (G.1 28)), (3, .int v3)] → W p l e (headSpec (.code yX12_chainsOf cX12_chainsOf 6 (some .int) :: lwW) (rmD 6)).room s m ([.ref (G.1 28), .int p1] : List Value).toArray below meth c H locs 0 0 (MQ below (mQi D G res) ([.ref (G.1 28), .int p1] : List Value).toArray s 0 0 (mA G)) (F0 m 91 ls []) := by
    intro n91
    induction n91 with
    | zero => intro v3 τ H locs ls h; rw [fX12_chainsOf_L91] at h; cases h
    | succ n91 ih91 =>
      intro v3 τ H locs ls h hP hS hl
      rw [fX12_chainsOf_L91] at h
      refine lv_iload_n hx hb dX12_chainsOf_91 rfl (lv_at hl 1 rfl) ?_
      refine lv_aload_n hx hb dX12_chainsOf_92 rfl (lv_at hl 0 rfl) ?_
      refine va_get (D := D) (ci := 12) (v := .int (τ 28 6)) (C := RX12) (T := TX12) (N := 34) hx hb hts iwX12 hown hK hP 28 (mg_2 rfl) rfl 6 (by decide) (hts _ mw_964) (fun _ h9 => h9) rfl dX12_chainsOf_93 ?_
      refine lv_icmp_ge (tgt := 110) hx hb dX12_chainsOf_96 (by decide) (fun hcq1 => ?_) (fun hcq1 => ?_)
      · have h := ifp hcq1 h
        refine lv_aload_n hx hb dX12_chainsOf_110 rfl (lv_at hl 0 rfl) ?_
        refine va_get (D := D) (ci := 12) (v := .ref (G.1 18)) (C := RX12) (T := TX12) (N := 34) hx hb hts iwX12 hown hK hP 28 (mg_2 rfl) rfl 20 (by decide) (hts _ mw_978) (fun _ h9 => h9) rfl dX12_chainsOf_111 ?_
        refine lv_aload_n hx hb dX12_chainsOf_114 rfl (lv_at hl 0 rfl) ?_
        refine va_get (D := D) (ci := 12) (v := .int (τ 28 6)) (C := RX12) (T := TX12) (N := 34) hx hb hts iwX12 hown hK hP 28 (mg_2 rfl) rfl 6 (by decide) (hts _ mw_964) (fun _ h9 => h9) rfl dX12_chainsOf_115 ?_
        refine lv_iconst (v := 1) hx hb dX12_chainsOf_118 (by decide) ?_
        refine lv_isub hx hb dX12_chainsOf_119 ?_
        obtain ⟨hiq2, h⟩ := nif h
        refine va_iald hx hb hK hP 18 0 (mg_0 rfl) rfl hiq2 dX12_chainsOf_120 ?_
        obtain rfl := Option.some.inj h
        exact W.iret (v := τ 18 ((τ 28 6) - 1).toNatClampNeg) hx hb hr (fun t ht hW => ⟨⟨_, _, rfl, ⟨rfl, rfl⟩, mPre_at h0 hS hP ht hW⟩, hS.F ht⟩) hS.2.2 dX12_chainsOf_121
      have h := ifn hcq1 h
      refine lv_aload_n hx hb dX12_chainsOf_99 rfl (lv_at hl 0 rfl) ?_
      refine lv_iload_n hx hb dX12_chainsOf_100 rfl (lv_at hl 1 rfl) ?_
      obtain ⟨xq3, hfq4, h⟩ := obd h
      refine va_callv (va_runV (As := [.int v3]) (rest := []) ⟨hx, hb, hml, hown, hts⟩ (kX12_laysChain l D G _ v3 xq3 hfq4) (cwV 1 hts (lwW_gV mw_1103 mw_1105 ms_36 mw_14 mw_1106) rfl rfl rfl (by decide +kernel) ⟨Nat.le_of_ble_eq_true rfl, Nat.le_of_ble_eq_true rfl⟩) ⟨fun a U g mk q => ⟨q.1, mPre_call q.2⟩, va_recv hK hP rfl (mg_2 rfl), fun U hU hW => ⟨rfl, mPre_at h0 hS hP hU hW⟩⟩ rfl rfl hl.1 rfl (lv_room (Nat.le_of_ble_eq_true rfl)) dX12_chainsOf_101 ⟨Nat.zero_le _, Nat.zero_le _⟩) hS (fun q _ h => h) (fun q h => h) (fun u t H1 locs ht hvm hw hB hz1 hq1 hS => ?_)
      obtain rfl := hw.symm
      have hP := hB.1
      rw [ht] at hP
      refine W.widen (k := 0) (n := 0) (Nat.le_refl _) (Nat.le_refl _) ?_
      refine lv_iinc (v := v3 + 1) (lv' := [(3, .int (v3 + 1)), (0, .ref (G.1 28))]) hx hb dX12_chainsOf_104 hl (k := 1) rfl rfl (by decide) rfl (fun ls hl => ?_)
      refine lv_goto (tgt := 91) hx hb dX12_chainsOf_107 (by decide) ?_
      exact ih91 (v3 + 1) _ _ _ _ h hP hS (lv_sub hl [1, 0] rfl)
  have L28 : ∀ (n28 : Nat) (v2 : Int32) (v3 : Int32) (τ : QMem) (H : Heap) (locs : List Loc) (ls : Array Slot), fX12_chainsOf_L28 p1 n28 v2 v3 τ = some res → va_P D vwCl (mW G τ) H → va_S (mA G) s.heap H locs → lv_has ls 6 [(0, .ref (G.1 28)), (2, .int v2), (3, .int v3)] → W p l e (headSpec (.code yX12_chainsOf cX12_chainsOf 6 (some .int) :: lwW) (rmD 6)).room s m ([.ref (G.1 28), .int p1] : List Value).toArray below meth c H locs 0 0 (MQ below (mQi D G res) ([.ref (G.1 28), .int p1] : List Value).toArray s 0 0 (mA G)) (F0 m 28 ls []) := by
    intro n28
    induction n28 with
    | zero => intro v2 v3 τ H locs ls h; rw [fX12_chainsOf_L28] at h; cases h
    | succ n28 ih28 =>
      intro v2 v3 τ H locs ls h hP hS hl
      rw [fX12_chainsOf_L28] at h
      have L60 : ∀ (n60 : Nat) (v2 : Int32) (v3 : Int32) (v5 : Int32) (τ : QMem) (H : Heap) (locs : List Loc) (ls : Array Slot), fX12_chainsOf_L60 p1 (fX12_chainsOf_L28 p1 n28) n60 v2 v3 v5 τ = some res → va_P D vwCl (mW G τ) H → va_S (mA G) s.heap H locs → lv_has ls 6 [(0, .ref (G.1 28)), (2, .int v2), (3, .int v3), (5, .int v5)] → W p l e (headSpec (.code yX12_chainsOf cX12_chainsOf 6 (some .int) :: lwW) (rmD 6)).room s m ([.ref (G.1 28), .int p1] : List Value).toArray below meth c H locs 0 0 (MQ below (mQi D G res) ([.ref (G.1 28), .int p1] : List Value).toArray s 0 0 (mA G)) (F0 m 60 ls []) := by
        intro n60
        induction n60 with
        | zero => intro v2 v3 v5 τ H locs ls h; rw [fX12_chainsOf_L60] at h; cases h
        | succ n60 ih60 =>
          intro v2 v3 v5 τ H locs ls h hP hS hl
          rw [fX12_chainsOf_L60] at h
          refine lv_iload hx hb dX12_chainsOf_60 (lv_at hl 3 rfl) ?_
          refine lv_aload_n hx hb dX12_chainsOf_62 rfl (lv_at hl 0 rfl) ?_
          refine va_get (D := D) (ci := 12) (v := .int (τ 28 6)) (C := RX12) (T := TX12) (N := 34) hx hb hts iwX12 hown hK hP 28 (mg_2 rfl) rfl 6 (by decide) (hts _ mw_964) (fun _ h9 => h9) rfl dX12_chainsOf_63 ?_
          refine lv_icmp_ge (tgt := 83) hx hb dX12_chainsOf_66 (by decide) (fun hcq5 => ?_) (fun hcq5 => ?_)
          · have h := ifp hcq5 h
            refine lv_iinc (v := v3 + 1) (lv' := [(3, .int (v3 + 1)), (0, .ref (G.1 28)), (2, .int v2), (5, .int v5)]) hx hb dX12_chainsOf_83 hl (k := 2) rfl rfl (by decide) rfl (fun ls hl => ?_)
            refine lv_goto (tgt := 28) hx hb dX12_chainsOf_86 (by decide) ?_
            exact ih28 v2 (v3 + 1) _ _ _ _ h hP hS (lv_sub hl [1, 2, 0] rfl)
          have h := ifn hcq5 h
          refine lv_aload_n hx hb dX12_chainsOf_69 rfl (lv_at hl 0 rfl) ?_
          refine va_get (D := D) (ci := 12) (v := .ref (G.1 17)) (C := RX12) (T := TX12) (N := 34) hx hb hts iwX12 hown hK hP 28 (mg_2 rfl) rfl 19 (by decide) (hts _ mw_977) (fun _ h9 => h9) rfl dX12_chainsOf_70 ?_
          refine lv_iload hx hb dX12_chainsOf_73 (lv_at hl 3 rfl) ?_
          refine lv_iload_n hx hb dX12_chainsOf_75 rfl (lv_at hl 2 rfl) ?_
          obtain ⟨hiq6, h⟩ := nif h
          refine va_iast hx hb hK hP (mD hi) hS 17 0 (mg_0 rfl) rfl hiq6 dX12_chainsOf_76 (fun H locs hP hD hS => ?_)
          have hP : va_P D vwCl (mW G (ms τ 17 v5.toNatClampNeg v3)) H := by rw [← ms_0x rfl]; exact hP
          refine lv_iinc (v := v5 + 1) (lv' := [(5, .int (v5 + 1)), (0, .ref (G.1 28)), (2, .int v2), (3, .int v3)]) hx hb dX12_chainsOf_77 hl (k := 3) rfl rfl (by decide) rfl (fun ls hl => ?_)
          refine lv_goto (tgt := 60) hx hb dX12_chainsOf_80 (by decide) ?_
          exact ih60 v2 v3 (v5 + 1) _ _ _ _ h hP hS (lv_sub hl [1, 2, 3, 0] rfl)
      have J56 : ∀ (v2 : Int32) (v3 : Int32) (v4 : Int32) (τ : QMem) (H : Heap) (locs : List Loc) (ls : Array Slot), fX12_chainsOf_J56 p1 (fX12_chainsOf_L28 p1 n28) v2 v3 v4 τ = some res → va_P D vwCl (mW G τ) H → va_S (mA G) s.heap H locs → lv_has ls 6 [(0, .ref (G.1 28)), (2, .int v2), (3, .int v3), (4, .int v4)] → W p l e (headSpec (.code yX12_chainsOf cX12_chainsOf 6 (some .int) :: lwW) (rmD 6)).room s m ([.ref (G.1 28), .int p1] : List Value).toArray below meth c H locs 0 0 (MQ below (mQi D G res) ([.ref (G.1 28), .int p1] : List Value).toArray s 0 0 (mA G)) (F0 m 56 ls []) := by
        intro v2 v3 v4 τ H locs ls h hP hS hl
        unfold fX12_chainsOf_J56 at h
        refine lv_iload hx hb dX12_chainsOf_56 (lv_at hl 3 rfl) ?_
        refine lv_istore (lv' := [(5, .int v4), (0, .ref (G.1 28)), (2, .int v2), (3, .int v3), (4, .int v4)]) hx hb dX12_chainsOf_58 hl (by decide) rfl (fun ls hl => ?_)
        exact L60 FU v2 v3 v4 _ _ _ _ h hP hS (lv_sub hl [1, 2, 3, 0] rfl)
      refine lv_iload_n hx hb dX12_chainsOf_28 rfl (lv_at hl 2 rfl) ?_
      refine lv_iload_n hx hb dX12_chainsOf_29 rfl (lv_at hl 1 rfl) ?_
      refine lv_icmp_gt (tgt := 89) hx hb dX12_chainsOf_30 (by decide) (fun hcq7 => ?_) (fun hcq7 => ?_)
      · have h := ifp hcq7 h
        refine lv_iconst (v := 0) hx hb dX12_chainsOf_89 (by decide) ?_
        refine lv_istore_n (lv' := [(3, .int 0), (0, .ref (G.1 28)), (2, .int v2)]) hx hb dX12_chainsOf_90 rfl hl (by decide) rfl (fun ls hl => ?_)
        exact L91 FU 0 _ _ _ _ h hP hS (lv_sub hl [1, 0] rfl)
      have h := ifn hcq7 h
      refine lv_aload_n hx hb dX12_chainsOf_33 rfl (lv_at hl 0 rfl) ?_
      refine va_get (D := D) (ci := 12) (v := .int (τ 28 6)) (C := RX12) (T := TX12) (N := 34) hx hb hts iwX12 hown hK hP 28 (mg_2 rfl) rfl 6 (by decide) (hts _ mw_964) (fun _ h9 => h9) rfl dX12_chainsOf_34 ?_
      refine lv_istore (lv' := [(4, .int (τ 28 6)), (0, .ref (G.1 28)), (2, .int v2), (3, .int v3)]) hx hb dX12_chainsOf_37 hl (by decide) rfl (fun ls hl => ?_)
      refine lv_iload_n hx hb dX12_chainsOf_39 rfl (lv_at hl 2 rfl) ?_
      refine lv_iload_n hx hb dX12_chainsOf_40 rfl (lv_at hl 3 rfl) ?_
      obtain ⟨hdq8, h⟩ := nif h
      refine lv_irem hx hb dX12_chainsOf_41 hdq8 ?_
      refine lv_if_ne (tgt := 56) hx hb dX12_chainsOf_42 (by decide) (fun hcq9 => ?_) (fun hcq9 => ?_)
      · have h := ifn hcq9 h
        exact J56 v2 v3 (τ 28 6) _ _ _ _ h hP hS (lv_sub hl [1, 2, 3, 0] rfl)
      have h := ifp hcq9 h
      refine lv_aload_n hx hb dX12_chainsOf_45 rfl (lv_at hl 1 rfl) ?_
      refine lv_iload_n hx hb dX12_chainsOf_46 rfl (lv_at hl 3 rfl) ?_
      refine lv_iconst (v := 0) hx hb dX12_chainsOf_47 (by decide) ?_
      refine lv_iconst (v := 1) hx hb dX12_chainsOf_48 (by decide) ?_
      refine lv_iconst (v := 1) hx hb dX12_chainsOf_49 (by decide) ?_
      refine lv_sipush (v := 600) hx hb dX12_chainsOf_50 (by decide) ?_
      obtain ⟨xq10, hfq11, h⟩ := obd h
      refine va_callv (va_runV (As := [.int v3, .int 0, .int 1, .int 1, .int 600]) (rest := []) ⟨hx, hb, hml, hown, hts⟩ (kX12_gathers l D G _ v3 0 1 1 600 xq10 hfq11) (cwV 5 hts (lwW_gV mw_917 mw_919 ms_25 mw_14 mw_920) rfl rfl rfl (by decide +kernel) ⟨Nat.le_of_ble_eq_true rfl, Nat.le_of_ble_eq_true rfl⟩) ⟨fun a U g mk q => ⟨q.1, mPre_call q.2⟩, va_recv hK hP rfl (mg_2 rfl), fun U hU hW => ⟨rfl, mPre_at h0 hS hP hU hW⟩⟩ rfl rfl hl.1 rfl (lv_room (Nat.le_of_ble_eq_true rfl)) dX12_chainsOf_53 ⟨Nat.zero_le _, Nat.zero_le _⟩) hS (fun q _ h => h) (fun q h => h) (fun u t H1 locs ht hvm hw hB hz1 hq1 hS => ?_)
      obtain rfl := hw.symm
      have hP := hB.1
      rw [ht] at hP
      refine W.widen (k := 0) (n := 0) (Nat.le_refl _) (Nat.le_refl _) ?_
      exact J56 v2 v3 (τ 28 6) _ _ _ _ h hP hS (lv_sub hl [1, 2, 3, 0] rfl)
  refine lv_aload_n hx hb dX12_chainsOf_0 rfl (lv_at hl 0 rfl) ?_
  refine va_get (D := D) (ci := 12) (v := .ref (G.1 13)) (C := RX12) (T := TX12) (N := 34) hx hb hts iwX12 hown hK hP 28 (mg_2 rfl) rfl 14 (by decide) (hts _ mw_972) (fun _ h9 => h9) rfl dX12_chainsOf_1 ?_
  refine lv_iconst (v := 4) hx hb dX12_chainsOf_4 (by decide) ?_
  refine lv_iload_n hx hb dX12_chainsOf_5 rfl (lv_at hl 1 rfl) ?_
  refine lv_imul hx hb dX12_chainsOf_6 ?_
  refine lv_aload_n hx hb dX12_chainsOf_7 rfl (lv_at hl 0 rfl) ?_
  refine va_get (D := D) (ci := 12) (v := .ref (G.1 7)) (C := RX12) (T := TX12) (N := 34) hx hb hts iwX12 hown hK hP 28 (mg_2 rfl) rfl 8 (by decide) (hts _ mw_966) (fun _ h9 => h9) rfl dX12_chainsOf_8 ?_
  refine lv_iconst (v := 0) hx hb dX12_chainsOf_11 (by decide) ?_
  obtain ⟨xq12, hfq13, h⟩ := obd h
  refine va_callv (va_runS (As := [.ref (G.1 13), .int (4 * p1), .ref (G.1 7), .int 0]) (rest := []) ⟨hx, hb, hml, hown, hts⟩ (kX12_copies l D G _ 13 rfl (4 * p1) 7 rfl 0 xq12 hfq13) (va_cwS 4 hts (lwW_gS mw_955 mw_956 mw_14 mw_957) rfl rfl rfl (by decide +kernel) ⟨Nat.le_of_ble_eq_true rfl, Nat.le_of_ble_eq_true rfl⟩) ⟨fun a U g mk q => ⟨q.1, mPre_call q.2⟩, fun U hU hW => ⟨rfl, mPre_at h0 hS hP hU hW⟩⟩ rfl rfl hl.1 rfl (lv_room (Nat.le_of_ble_eq_true rfl)) dX12_chainsOf_12 ⟨Nat.zero_le _, Nat.zero_le _⟩) hS (fun q _ h => h) (fun q h => h) (fun u t H1 locs ht hvm hw hB hz1 hq1 hS => ?_)
  obtain rfl := hw.symm
  have hP := hB.1
  rw [ht] at hP
  refine W.widen (k := 0) (n := 0) (Nat.le_refl _) (Nat.le_refl _) ?_
  refine lv_aload_n hx hb dX12_chainsOf_15 rfl (lv_at hl 0 rfl) ?_
  refine lv_iconst (v := 0) hx hb dX12_chainsOf_16 (by decide) ?_
  refine va_put (D := D) (ci := 12) (v := .int 0) (ty := .int) (C := RX12) (T := TX12) (N := 34) hx hb hts iwX12 tyX12 tyX12_ok nmX12 hown hK hP (mD hi) hS 28 (mg_2 rfl) rfl 6 (by decide) (hts _ mw_964) (fun _ h9 => h9) rfl (by decide +kernel) rfl rfl (Nat.le_of_ble_eq_true rfl) dX12_chainsOf_17 (fun H locs hP hD hS => ?_)
  have hP : va_P D vwCl (mW G (ms xq12 28 6 0)) H := by rw [← ms_2_6 rfl]; exact hP
  refine lv_aload_n hx hb dX12_chainsOf_20 rfl (lv_at hl 0 rfl) ?_
  refine lv_iload_n hx hb dX12_chainsOf_21 rfl (lv_at hl 1 rfl) ?_
  obtain ⟨xq14, hfq15, h⟩ := obd h
  refine va_calli (va_runV (As := [.int p1]) (rest := []) ⟨hx, hb, hml, hown, hts⟩ (kX12_norm l D G _ p1 xq14 hfq15) (cwV 1 hts (lwW_gV mw_1083 mw_1085 ms_31 mw_14 mw_1086) rfl rfl rfl (by decide +kernel) ⟨Nat.le_of_ble_eq_true rfl, Nat.le_of_ble_eq_true rfl⟩) ⟨fun a U g mk q => ⟨q.1, mPre_call q.2⟩, va_recv hK hP rfl (mg_2 rfl), fun U hU hW => ⟨rfl, mPre_at h0 hS hP hU hW⟩⟩ rfl rfl hl.1 rfl (lv_room (Nat.le_of_ble_eq_true rfl)) dX12_chainsOf_22 ⟨Nat.zero_le _, Nat.zero_le _⟩) hS (fun q _ h => h) (fun q h => h) (fun r u t H1 locs ht hvm hw hB hz1 hq1 hS => ?_)
  obtain ⟨rfl, rfl⟩ := hw
  have hP := hB.1
  rw [ht] at hP
  refine W.widen (k := 0) (n := 0) (Nat.le_refl _) (Nat.le_refl _) ?_
  refine lv_istore_n (lv' := [(2, .int xq14.1), (0, .ref (G.1 28)), (1, .int p1)]) hx hb dX12_chainsOf_25 rfl hl (by decide) rfl (fun ls hl => ?_)
  refine lv_iconst (v := 1) hx hb dX12_chainsOf_26 (by decide) ?_
  refine lv_istore_n (lv' := [(3, .int 1), (2, .int xq14.1), (0, .ref (G.1 28)), (1, .int p1)]) hx hb dX12_chainsOf_27 rfl hl (by decide) rfl (fun ls hl => ?_)
  exact L28 FU xq14.1 1 _ _ _ _ h hP hS (lv_sub hl [2, 1, 0] rfl)
def fX12_of_J41 (p1 : Int32) (p2 : Int32)  (τ : QMem) : Option (Int32 × QMem) :=
  if p2 = 0 then ((fX12_norm p1 τ).bind fun xq2 => (some (xq2.1, xq2.2))) else (if p2 = 1 then ((fX12_unitOf p1 τ).bind fun xq5 => (some (xq5.1, xq5.2))) else (if p2 = 2 then (if (4 * p1 < 0 ∨ ml 13 ≤ (4 * p1).toNatClampNeg) then none else (if ((τ 13 (4 * p1).toNatClampNeg) - (τ 13 (4 * p1).toNatClampNeg) / 2 * 2) = 0 then (some (1, τ)) else (some (0, τ)))) else (if p2 = 3 then ((fX12_content p1 τ).bind fun xq11 => (some (xq11.1, xq11.2))) else (if p2 = 4 then ((fX12_norm p1 τ).bind fun xq14 => ((fX12_primesIn xq14.1 xq14.2).bind fun xq16 => (some (xq16.1, xq16.2)))) else ((fX12_chainsOf p1 τ).bind fun xq18 => (some (xq18.1, xq18.2)))))))
def fX12_of (p1 : Int32) (p2 : Int32) (σ : QMem) : Option (Int32 × QMem) :=
  (fX12_isSlot p1).bind fun xq39 => (if xq39 = 0 then (some ((-1001), σ)) else ((fX12_in p2 0 5).bind fun xq42 => (if xq42 = 0 then (some ((-1002), σ)) else (if p2 ≤ 2 then (fX12_of_J41 p1 p2 σ) else ((fX12_isEmpty p1 σ).bind fun xq46 => (if xq46.1 = 0 then (fX12_of_J41 p1 p2 xq46.2) else (some ((-1003), xq46.2))))))))
set_option maxHeartbeats 4000000 in
set_option maxRecDepth 100000 in
theorem kX12_of (l : Launch) (D : va_G) (G : xG) (σ : QMem) (p1 : Int32) (p2 : Int32) (res : Int32 × QMem) (h : fX12_of p1 p2 σ = some res) : Met l yX12_of (.code yX12_of cX12_of 3 (some .int) :: lwW) (rmD 7) (mPc D G σ [.ref (G.1 28), .int p1, .int p2]) (mQi D G res) 0 0 (mA G) := by
  refine Met.ofW (cc := cX12_of) (maxL := 3) (ret := (some .int)) (by decide) rfl ?_
  intro p e s m args below meth c s₁ B hml hv
  obtain ⟨rfl, h0⟩ := hv
  have hx := B.exec
  have hb := B.bytes
  have hr := B.returns
  have hts := fun (w : Cond) (hw : w ∈ lwW) => atoms_spec (ws := (.code yX12_of cX12_of 3 (some .int) :: lwW)) B.pre w (List.mem_cons_of_mem _ hw)
  have hown : s.vm.findClass RX12 = some m.cls := findClass_of_methodNamed B.named
  have hlocks := B.notSynchronized
  have hP := h0.1
  have hK := h0.2.1
  have hi := h0.2.2
  have hS : va_S (mA G) s.heap s.heap [] := va_S.rf
  have hl := lv_entry ([.ref (G.1 28), .int p1, .int p2]) (n := 3) (Nat.le_of_ble_eq_true rfl)
  rw [lg_entry_eq]
  generalize (lg_sl ([.ref (G.1 28), .int p1, .int p2]) ++ List.replicate (3 - (lg_sl ([.ref (G.1 28), .int p1, .int p2])).length) Slot.unset).toArray = ls at hl ⊢
  have hl : lv_has ls 3 [(0, .ref (G.1 28)), (1, .int p1), (2, .int p2)] := hl
  unfold fX12_of at h
  have J41 : ∀ (τ : QMem) (H : Heap) (locs : List Loc) (ls : Array Slot), fX12_of_J41 p1 p2 τ = some res → va_P D vwCl (mW G τ) H → va_S (mA G) s.heap H locs → lv_has ls 3 [(0, .ref (G.1 28)), (1, .int p1), (2, .int p2)] → W p l e (headSpec (.code yX12_of cX12_of 3 (some .int) :: lwW) (rmD 7)).room s m ([.ref (G.1 28), .int p1, .int p2] : List Value).toArray below meth c H locs 0 0 (MQ below (mQi D G res) ([.ref (G.1 28), .int p1, .int p2] : List Value).toArray s 0 0 (mA G)) (F0 m 41 ls []) := by
    intro τ H locs ls h hP hS hl
    unfold fX12_of_J41 at h
    refine lv_iload_n hx hb dX12_of_41 rfl (lv_at hl 2 rfl) ?_
    by_cases hcq20 : p2 = 0
    · have h := ifp hcq20 h
      refine lv_tableIn (off := 34) (tgt := 76) hx hb dX12_of_42 (by rw [hcq20]; decide) (by rw [hcq20]; decide) (by rw [hcq20]; rfl) (by decide) ?_
      refine lv_aload_n hx hb dX12_of_76 rfl (lv_at hl 0 rfl) ?_
      refine lv_iload_n hx hb dX12_of_77 rfl (lv_at hl 1 rfl) ?_
      obtain ⟨xq21, hfq22, h⟩ := obd h
      refine va_calli (va_runV (As := [.int p1]) (rest := []) ⟨hx, hb, hml, hown, hts⟩ (kX12_norm l D G _ p1 xq21 hfq22) (cwV 1 hts (lwW_gV mw_1083 mw_1085 ms_31 mw_14 mw_1086) rfl rfl rfl (by decide +kernel) ⟨Nat.le_of_ble_eq_true rfl, Nat.le_of_ble_eq_true rfl⟩) ⟨fun a U g mk q => ⟨q.1, mPre_call q.2⟩, va_recv hK hP rfl (mg_2 rfl), fun U hU hW => ⟨rfl, mPre_at h0 hS hP hU hW⟩⟩ rfl rfl hl.1 rfl (lv_room (Nat.le_of_ble_eq_true rfl)) dX12_of_78 ⟨Nat.zero_le _, Nat.zero_le _⟩) hS (fun q _ h => h) (fun q h => h) (fun r u t H1 locs ht hvm hw hB hz1 hq1 hS => ?_)
      obtain ⟨rfl, rfl⟩ := hw
      have hP := hB.1
      rw [ht] at hP
      refine W.widen (k := 0) (n := 0) (Nat.le_refl _) (Nat.le_refl _) ?_
      obtain rfl := Option.some.inj h
      exact W.iret (v := xq21.1) hx hb hr (fun t ht hW => ⟨⟨_, _, rfl, ⟨rfl, rfl⟩, mPre_at h0 hS hP ht hW⟩, hS.F ht⟩) hS.2.2 dX12_of_81
    have h := ifn hcq20 h
    by_cases hcq23 : p2 = 1
    · have h := ifp hcq23 h
      refine lv_tableIn (off := 40) (tgt := 82) hx hb dX12_of_42 (by rw [hcq23]; decide) (by rw [hcq23]; decide) (by rw [hcq23]; rfl) (by decide) ?_
      refine lv_aload_n hx hb dX12_of_82 rfl (lv_at hl 0 rfl) ?_
      refine lv_iload_n hx hb dX12_of_83 rfl (lv_at hl 1 rfl) ?_
      obtain ⟨xq24, hfq25, h⟩ := obd h
      refine va_calli (va_runV (As := [.int p1]) (rest := []) ⟨hx, hb, hml, hown, hts⟩ (kX12_unitOf l D G _ p1 xq24 hfq25) (cwV 1 hts (lwW_gV mw_1087 mw_1089 ms_32 mw_14 mw_1090) rfl rfl rfl (by decide +kernel) ⟨Nat.le_of_ble_eq_true rfl, Nat.le_of_ble_eq_true rfl⟩) ⟨fun a U g mk q => ⟨q.1, mPre_call q.2⟩, va_recv hK hP rfl (mg_2 rfl), fun U hU hW => ⟨rfl, mPre_at h0 hS hP hU hW⟩⟩ rfl rfl hl.1 rfl (lv_room (Nat.le_of_ble_eq_true rfl)) dX12_of_84 ⟨Nat.zero_le _, Nat.zero_le _⟩) hS (fun q _ h => h) (fun q h => h) (fun r u t H1 locs ht hvm hw hB hz1 hq1 hS => ?_)
      obtain ⟨rfl, rfl⟩ := hw
      have hP := hB.1
      rw [ht] at hP
      refine W.widen (k := 0) (n := 0) (Nat.le_refl _) (Nat.le_refl _) ?_
      obtain rfl := Option.some.inj h
      exact W.iret (v := xq24.1) hx hb hr (fun t ht hW => ⟨⟨_, _, rfl, ⟨rfl, rfl⟩, mPre_at h0 hS hP ht hW⟩, hS.F ht⟩) hS.2.2 dX12_of_87
    have h := ifn hcq23 h
    by_cases hcq26 : p2 = 2
    · have h := ifp hcq26 h
      refine lv_tableIn (off := 46) (tgt := 88) hx hb dX12_of_42 (by rw [hcq26]; decide) (by rw [hcq26]; decide) (by rw [hcq26]; rfl) (by decide) ?_
      refine lv_aload_n hx hb dX12_of_88 rfl (lv_at hl 0 rfl) ?_
      refine va_get (D := D) (ci := 12) (v := .ref (G.1 13)) (C := RX12) (T := TX12) (N := 34) hx hb hts iwX12 hown hK hP 28 (mg_2 rfl) rfl 14 (by decide) (hts _ mw_972) (fun _ h9 => h9) rfl dX12_of_89 ?_
      refine lv_iconst (v := 4) hx hb dX12_of_92 (by decide) ?_
      refine lv_iload_n hx hb dX12_of_93 rfl (lv_at hl 1 rfl) ?_
      refine lv_imul hx hb dX12_of_94 ?_
      obtain ⟨hiq27, h⟩ := nif h
      refine va_iald hx hb hK hP 13 0 (mg_0 rfl) rfl hiq27 dX12_of_95 ?_
      refine lv_iconst (v := 2) hx hb dX12_of_96 (by decide) ?_
      refine lv_irem hx hb dX12_of_97 (by decide) ?_
      refine lv_if_ne (tgt := 105) hx hb dX12_of_98 (by decide) (fun hcq28 => ?_) (fun hcq28 => ?_)
      · have h := ifn hcq28 h
        refine lv_iconst (v := 0) hx hb dX12_of_105 (by decide) ?_
        obtain rfl := Option.some.inj h
        exact W.iret (v := 0) hx hb hr (fun t ht hW => ⟨⟨_, _, rfl, ⟨rfl, rfl⟩, mPre_at h0 hS hP ht hW⟩, hS.F ht⟩) hS.2.2 dX12_of_106
      have h := ifp hcq28 h
      refine lv_iconst (v := 1) hx hb dX12_of_101 (by decide) ?_
      refine lv_goto (tgt := 106) hx hb dX12_of_102 (by decide) ?_
      obtain rfl := Option.some.inj h
      exact W.iret (v := 1) hx hb hr (fun t ht hW => ⟨⟨_, _, rfl, ⟨rfl, rfl⟩, mPre_at h0 hS hP ht hW⟩, hS.F ht⟩) hS.2.2 dX12_of_106
    have h := ifn hcq26 h
    by_cases hcq29 : p2 = 3
    · have h := ifp hcq29 h
      refine lv_tableIn (off := 65) (tgt := 107) hx hb dX12_of_42 (by rw [hcq29]; decide) (by rw [hcq29]; decide) (by rw [hcq29]; rfl) (by decide) ?_
      refine lv_aload_n hx hb dX12_of_107 rfl (lv_at hl 0 rfl) ?_
      refine lv_iload_n hx hb dX12_of_108 rfl (lv_at hl 1 rfl) ?_
      obtain ⟨xq30, hfq31, h⟩ := obd h
      refine va_calli (va_runV (As := [.int p1]) (rest := []) ⟨hx, hb, hml, hown, hts⟩ (kX12_content l D G _ p1 xq30 hfq31) (cwV 1 hts (lwW_gV mw_1091 mw_1093 ms_33 mw_14 mw_1094) rfl rfl rfl (by decide +kernel) ⟨Nat.le_of_ble_eq_true rfl, Nat.le_of_ble_eq_true rfl⟩) ⟨fun a U g mk q => ⟨q.1, mPre_call q.2⟩, va_recv hK hP rfl (mg_2 rfl), fun U hU hW => ⟨rfl, mPre_at h0 hS hP hU hW⟩⟩ rfl rfl hl.1 rfl (lv_room (Nat.le_of_ble_eq_true rfl)) dX12_of_109 ⟨Nat.zero_le _, Nat.zero_le _⟩) hS (fun q _ h => h) (fun q h => h) (fun r u t H1 locs ht hvm hw hB hz1 hq1 hS => ?_)
      obtain ⟨rfl, rfl⟩ := hw
      have hP := hB.1
      rw [ht] at hP
      refine W.widen (k := 0) (n := 0) (Nat.le_refl _) (Nat.le_refl _) ?_
      obtain rfl := Option.some.inj h
      exact W.iret (v := xq30.1) hx hb hr (fun t ht hW => ⟨⟨_, _, rfl, ⟨rfl, rfl⟩, mPre_at h0 hS hP ht hW⟩, hS.F ht⟩) hS.2.2 dX12_of_112
    have h := ifn hcq29 h
    by_cases hcq32 : p2 = 4
    · have h := ifp hcq32 h
      refine lv_tableIn (off := 71) (tgt := 113) hx hb dX12_of_42 (by rw [hcq32]; decide) (by rw [hcq32]; decide) (by rw [hcq32]; rfl) (by decide) ?_
      refine lv_aload_n hx hb dX12_of_113 rfl (lv_at hl 0 rfl) ?_
      refine lv_aload_n hx hb dX12_of_114 rfl (lv_at hl 0 rfl) ?_
      refine lv_iload_n hx hb dX12_of_115 rfl (lv_at hl 1 rfl) ?_
      obtain ⟨xq33, hfq34, h⟩ := obd h
      refine va_calli (va_runV (As := [.int p1]) (rest := [.ref (G.1 28)]) ⟨hx, hb, hml, hown, hts⟩ (kX12_norm l D G _ p1 xq33 hfq34) (cwV 1 hts (lwW_gV mw_1083 mw_1085 ms_31 mw_14 mw_1086) rfl rfl rfl (by decide +kernel) ⟨Nat.le_of_ble_eq_true rfl, Nat.le_of_ble_eq_true rfl⟩) ⟨fun a U g mk q => ⟨q.1, mPre_call q.2⟩, va_recv hK hP rfl (mg_2 rfl), fun U hU hW => ⟨rfl, mPre_at h0 hS hP hU hW⟩⟩ rfl rfl hl.1 rfl (lv_room (Nat.le_of_ble_eq_true rfl)) dX12_of_116 ⟨Nat.zero_le _, Nat.zero_le _⟩) hS (fun q _ h => h) (fun q h => h) (fun r u t H1 locs ht hvm hw hB hz1 hq1 hS => ?_)
      obtain ⟨rfl, rfl⟩ := hw
      have hP := hB.1
      rw [ht] at hP
      refine W.widen (k := 0) (n := 0) (Nat.le_refl _) (Nat.le_refl _) ?_
      obtain ⟨xq35, hfq36, h⟩ := obd h
      refine va_calli (va_runV (As := [.int xq33.1]) (rest := []) ⟨hx, hb, hml, hown, hts⟩ (kX12_primesIn l D G _ xq33.1 xq35 hfq36) (cwV 1 hts (lwW_gV mw_1095 mw_1097 ms_34 mw_14 mw_1098) rfl rfl rfl (by decide +kernel) ⟨Nat.le_of_ble_eq_true rfl, Nat.le_of_ble_eq_true rfl⟩) ⟨fun a U g mk q => ⟨q.1, mPre_call q.2⟩, va_recv hK hP rfl (mg_2 rfl), fun U hU hW => ⟨rfl, mPre_at h0 hS hP hU hW⟩⟩ rfl rfl hl.1 rfl (lv_room (Nat.le_of_ble_eq_true rfl)) dX12_of_119 ⟨Nat.zero_le _, Nat.zero_le _⟩) hS (fun q _ h => h) (fun q h => h) (fun r u t H1 locs ht hvm hw hB hz1 hq1 hS => ?_)
      obtain ⟨rfl, rfl⟩ := hw
      have hP := hB.1
      rw [ht] at hP
      refine W.widen (k := 0) (n := 0) (Nat.le_refl _) (Nat.le_refl _) ?_
      obtain rfl := Option.some.inj h
      exact W.iret (v := xq35.1) hx hb hr (fun t ht hW => ⟨⟨_, _, rfl, ⟨rfl, rfl⟩, mPre_at h0 hS hP ht hW⟩, hS.F ht⟩) hS.2.2 dX12_of_122
    have h := ifn hcq32 h
    refine lv_tableOut (tgt := 123) hx hb dX12_of_42 (by have t0 := toI_ne hcq20; have t1 := toI_ne hcq23; have t2 := toI_ne hcq26; have t3 := toI_ne hcq29; have t4 := toI_ne hcq32; rw [show (0 : Int32).toInt = 0 from by decide] at t0; rw [show (1 : Int32).toInt = 1 from by decide] at t1; rw [show (2 : Int32).toInt = 2 from by decide] at t2; rw [show (3 : Int32).toInt = 3 from by decide] at t3; rw [show (4 : Int32).toInt = 4 from by decide] at t4; omega) (by decide) ?_
    refine lv_aload_n hx hb dX12_of_123 rfl (lv_at hl 0 rfl) ?_
    refine lv_iload_n hx hb dX12_of_124 rfl (lv_at hl 1 rfl) ?_
    obtain ⟨xq37, hfq38, h⟩ := obd h
    refine va_calli (va_runV (As := [.int p1]) (rest := []) ⟨hx, hb, hml, hown, hts⟩ (kX12_chainsOf l D G _ p1 xq37 hfq38) (cwV 1 hts (lwW_gV mw_1099 mw_1101 ms_35 mw_14 mw_1102) rfl rfl rfl (by decide +kernel) ⟨Nat.le_of_ble_eq_true rfl, Nat.le_of_ble_eq_true rfl⟩) ⟨fun a U g mk q => ⟨q.1, mPre_call q.2⟩, va_recv hK hP rfl (mg_2 rfl), fun U hU hW => ⟨rfl, mPre_at h0 hS hP hU hW⟩⟩ rfl rfl hl.1 rfl (lv_room (Nat.le_of_ble_eq_true rfl)) dX12_of_125 ⟨Nat.zero_le _, Nat.zero_le _⟩) hS (fun q _ h => h) (fun q h => h) (fun r u t H1 locs ht hvm hw hB hz1 hq1 hS => ?_)
    obtain ⟨rfl, rfl⟩ := hw
    have hP := hB.1
    rw [ht] at hP
    refine W.widen (k := 0) (n := 0) (Nat.le_refl _) (Nat.le_refl _) ?_
    obtain rfl := Option.some.inj h
    exact W.iret (v := xq37.1) hx hb hr (fun t ht hW => ⟨⟨_, _, rfl, ⟨rfl, rfl⟩, mPre_at h0 hS hP ht hW⟩, hS.F ht⟩) hS.2.2 dX12_of_128
  refine lv_iload_n hx hb dX12_of_0 rfl (lv_at hl 1 rfl) ?_
  obtain ⟨xq39, hfq40, h⟩ := obd h
  refine va_calli (va_runS (As := [.int p1]) (rest := []) ⟨hx, hb, hml, hown, hts⟩ (kX12_isSlot l p1 xq39 hfq40) (va_cwS 1 hts (lwW_gS mw_1066 mw_1067 mw_14 mw_1068) rfl rfl rfl (by decide +kernel) ⟨Nat.le_of_ble_eq_true rfl, Nat.le_of_ble_eq_true rfl⟩) ⟨fun a U g mk q => ⟨q.1, trivial⟩, fun U hU hW => ⟨rfl, trivial⟩⟩ rfl rfl hl.1 rfl (lv_room (Nat.le_of_ble_eq_true rfl)) dX12_of_1 ⟨Nat.zero_le _, Nat.zero_le _⟩) hS (fun q _ h => h.elim) (fun q h => h.elim) (fun r u t H1 locs ht hvm hw hB hz1 hq1 hS => ?_)
  obtain rfl := hw.symm
  have hP := mP_kept hP hq1
  refine W.widen (k := 0) (n := 0) (Nat.le_refl _) (Nat.le_refl _) ?_
  refine lv_if_ne (tgt := 11) hx hb dX12_of_4 (by decide) (fun hcq41 => ?_) (fun hcq41 => ?_)
  · have h := ifn hcq41 h
    refine lv_iload_n hx hb dX12_of_11 rfl (lv_at hl 2 rfl) ?_
    refine lv_iconst (v := 0) hx hb dX12_of_12 (by decide) ?_
    refine lv_iconst (v := 5) hx hb dX12_of_13 (by decide) ?_
    obtain ⟨xq42, hfq43, h⟩ := obd h
    refine va_calli (va_runS (As := [.int p2, .int 0, .int 5]) (rest := []) ⟨hx, hb, hml, hown, hts⟩ (kX12_in l p2 0 5 xq42 hfq43) (va_cwS 3 hts (lwW_gS mw_1069 mw_1070 mw_14 mw_1071) rfl rfl rfl (by decide +kernel) ⟨Nat.le_of_ble_eq_true rfl, Nat.le_of_ble_eq_true rfl⟩) ⟨fun a U g mk q => ⟨q.1, trivial⟩, fun U hU hW => ⟨rfl, trivial⟩⟩ rfl rfl hl.1 rfl (lv_room (Nat.le_of_ble_eq_true rfl)) dX12_of_14 ⟨Nat.zero_le _, Nat.zero_le _⟩) hS (fun q _ h => h.elim) (fun q h => h.elim) (fun r u t H1 locs ht hvm hw hB hz1 hq1 hS => ?_)
    obtain rfl := hw.symm
    have hP := mP_kept hP hq1
    refine W.widen (k := 0) (n := 0) (Nat.le_refl _) (Nat.le_refl _) ?_
    refine lv_if_ne (tgt := 24) hx hb dX12_of_17 (by decide) (fun hcq44 => ?_) (fun hcq44 => ?_)
    · have h := ifn hcq44 h
      refine lv_iload_n hx hb dX12_of_24 rfl (lv_at hl 2 rfl) ?_
      refine lv_iconst (v := 2) hx hb dX12_of_25 (by decide) ?_
      refine lv_icmp_le (tgt := 41) hx hb dX12_of_26 (by decide) (fun hcq45 => ?_) (fun hcq45 => ?_)
      · have h := ifp hcq45 h
        exact J41 _ _ _ _ h hP hS (lv_sub hl [0, 1, 2] rfl)
      have h := ifn hcq45 h
      refine lv_aload_n hx hb dX12_of_29 rfl (lv_at hl 0 rfl) ?_
      refine lv_iload_n hx hb dX12_of_30 rfl (lv_at hl 1 rfl) ?_
      obtain ⟨xq46, hfq47, h⟩ := obd h
      refine va_calli (va_runV (As := [.int p1]) (rest := []) ⟨hx, hb, hml, hown, hts⟩ (kX12_isEmpty l D G _ p1 xq46 hfq47) (cwV 1 hts (lwW_gV mw_1076 mw_1078 ms_30 mw_14 mw_1079) rfl rfl rfl (by decide +kernel) ⟨Nat.le_of_ble_eq_true rfl, Nat.le_of_ble_eq_true rfl⟩) ⟨fun a U g mk q => ⟨q.1, mPre_call q.2⟩, va_recv hK hP rfl (mg_2 rfl), fun U hU hW => ⟨rfl, mPre_at h0 hS hP hU hW⟩⟩ rfl rfl hl.1 rfl (lv_room (Nat.le_of_ble_eq_true rfl)) dX12_of_31 ⟨Nat.zero_le _, Nat.zero_le _⟩) hS (fun q _ h => h) (fun q h => h) (fun r u t H1 locs ht hvm hw hB hz1 hq1 hS => ?_)
      obtain ⟨rfl, rfl⟩ := hw
      have hP := hB.1
      rw [ht] at hP
      refine W.widen (k := 0) (n := 0) (Nat.le_refl _) (Nat.le_refl _) ?_
      refine lv_if_eq (tgt := 41) hx hb dX12_of_34 (by decide) (fun hcq48 => ?_) (fun hcq48 => ?_)
      · have h := ifp hcq48 h
        exact J41 _ _ _ _ h hP hS (lv_sub hl [0, 1, 2] rfl)
      have h := ifn hcq48 h
      refine lv_sipush (v := (-1003)) hx hb dX12_of_37 (by decide) ?_
      obtain rfl := Option.some.inj h
      exact W.iret (v := (-1003)) hx hb hr (fun t ht hW => ⟨⟨_, _, rfl, ⟨rfl, rfl⟩, mPre_at h0 hS hP ht hW⟩, hS.F ht⟩) hS.2.2 dX12_of_40
    have h := ifp hcq44 h
    refine lv_sipush (v := (-1002)) hx hb dX12_of_20 (by decide) ?_
    obtain rfl := Option.some.inj h
    exact W.iret (v := (-1002)) hx hb hr (fun t ht hW => ⟨⟨_, _, rfl, ⟨rfl, rfl⟩, mPre_at h0 hS hP ht hW⟩, hS.F ht⟩) hS.2.2 dX12_of_23
  have h := ifp hcq41 h
  refine lv_sipush (v := (-1001)) hx hb dX12_of_7 (by decide) ?_
  obtain rfl := Option.some.inj h
  exact W.iret (v := (-1001)) hx hb hr (fun t ht hW => ⟨⟨_, _, rfl, ⟨rfl, rfl⟩, mPre_at h0 hS hP ht hW⟩, hS.F ht⟩) hS.2.2 dX12_of_10
def fX12_unit (p1 : Int32) (p2 : Int32) (σ : QMem) : Option (Int32 × QMem) :=
  (fX12_in p1 0 23).bind fun xq1 => (if xq1 = 0 then (some ((-1001), σ)) else ((fX12_in p2 0 3).bind fun xq4 => (if xq4 = 0 then (some ((-1002), σ)) else (if ((4 * p1) + p2 < 0 ∨ ml 1 ≤ ((4 * p1) + p2).toNatClampNeg) then none else (some (σ 1 ((4 * p1) + p2).toNatClampNeg, σ))))))
set_option maxHeartbeats 4000000 in
set_option maxRecDepth 100000 in
theorem kX12_unit (l : Launch) (D : va_G) (G : xG) (σ : QMem) (p1 : Int32) (p2 : Int32) (res : Int32 × QMem) (h : fX12_unit p1 p2 σ = some res) : Met l yX12_unit (.code yX12_unit cX12_unit 3 (some .int) :: lwW) (rmD 1) (mPc D G σ [.ref (G.1 28), .int p1, .int p2]) (mQi D G res) 0 0 (mA G) := by
  refine Met.ofW (cc := cX12_unit) (maxL := 3) (ret := (some .int)) (by decide) rfl ?_
  intro p e s m args below meth c s₁ B hml hv
  obtain ⟨rfl, h0⟩ := hv
  have hx := B.exec
  have hb := B.bytes
  have hr := B.returns
  have hts := fun (w : Cond) (hw : w ∈ lwW) => atoms_spec (ws := (.code yX12_unit cX12_unit 3 (some .int) :: lwW)) B.pre w (List.mem_cons_of_mem _ hw)
  have hown : s.vm.findClass RX12 = some m.cls := findClass_of_methodNamed B.named
  have hlocks := B.notSynchronized
  have hP := h0.1
  have hK := h0.2.1
  have hi := h0.2.2
  have hS : va_S (mA G) s.heap s.heap [] := va_S.rf
  have hl := lv_entry ([.ref (G.1 28), .int p1, .int p2]) (n := 3) (Nat.le_of_ble_eq_true rfl)
  rw [lg_entry_eq]
  generalize (lg_sl ([.ref (G.1 28), .int p1, .int p2]) ++ List.replicate (3 - (lg_sl ([.ref (G.1 28), .int p1, .int p2])).length) Slot.unset).toArray = ls at hl ⊢
  have hl : lv_has ls 3 [(0, .ref (G.1 28)), (1, .int p1), (2, .int p2)] := hl
  unfold fX12_unit at h
  refine lv_iload_n hx hb dX12_unit_0 rfl (lv_at hl 1 rfl) ?_
  refine lv_iconst (v := 0) hx hb dX12_unit_1 (by decide) ?_
  refine lv_bipush (v := 23) hx hb dX12_unit_2 (by decide) ?_
  obtain ⟨xq1, hfq2, h⟩ := obd h
  refine va_calli (va_runS (As := [.int p1, .int 0, .int 23]) (rest := []) ⟨hx, hb, hml, hown, hts⟩ (kX12_in l p1 0 23 xq1 hfq2) (va_cwS 3 hts (lwW_gS mw_1069 mw_1070 mw_14 mw_1071) rfl rfl rfl (by decide +kernel) ⟨Nat.le_of_ble_eq_true rfl, Nat.le_of_ble_eq_true rfl⟩) ⟨fun a U g mk q => ⟨q.1, trivial⟩, fun U hU hW => ⟨rfl, trivial⟩⟩ rfl rfl hl.1 rfl (lv_room (Nat.le_of_ble_eq_true rfl)) dX12_unit_4 ⟨Nat.zero_le _, Nat.zero_le _⟩) hS (fun q _ h => h.elim) (fun q h => h.elim) (fun r u t H1 locs ht hvm hw hB hz1 hq1 hS => ?_)
  obtain rfl := hw.symm
  have hP := mP_kept hP hq1
  refine W.widen (k := 0) (n := 0) (Nat.le_refl _) (Nat.le_refl _) ?_
  refine lv_if_ne (tgt := 14) hx hb dX12_unit_7 (by decide) (fun hcq3 => ?_) (fun hcq3 => ?_)
  · have h := ifn hcq3 h
    refine lv_iload_n hx hb dX12_unit_14 rfl (lv_at hl 2 rfl) ?_
    refine lv_iconst (v := 0) hx hb dX12_unit_15 (by decide) ?_
    refine lv_iconst (v := 3) hx hb dX12_unit_16 (by decide) ?_
    obtain ⟨xq4, hfq5, h⟩ := obd h
    refine va_calli (va_runS (As := [.int p2, .int 0, .int 3]) (rest := []) ⟨hx, hb, hml, hown, hts⟩ (kX12_in l p2 0 3 xq4 hfq5) (va_cwS 3 hts (lwW_gS mw_1069 mw_1070 mw_14 mw_1071) rfl rfl rfl (by decide +kernel) ⟨Nat.le_of_ble_eq_true rfl, Nat.le_of_ble_eq_true rfl⟩) ⟨fun a U g mk q => ⟨q.1, trivial⟩, fun U hU hW => ⟨rfl, trivial⟩⟩ rfl rfl hl.1 rfl (lv_room (Nat.le_of_ble_eq_true rfl)) dX12_unit_17 ⟨Nat.zero_le _, Nat.zero_le _⟩) hS (fun q _ h => h.elim) (fun q h => h.elim) (fun r u t H1 locs ht hvm hw hB hz1 hq1 hS => ?_)
    obtain rfl := hw.symm
    have hP := mP_kept hP hq1
    refine W.widen (k := 0) (n := 0) (Nat.le_refl _) (Nat.le_refl _) ?_
    refine lv_if_eq (tgt := 36) hx hb dX12_unit_20 (by decide) (fun hcq6 => ?_) (fun hcq6 => ?_)
    · have h := ifp hcq6 h
      refine lv_sipush (v := (-1002)) hx hb dX12_unit_36 (by decide) ?_
      obtain rfl := Option.some.inj h
      exact W.iret (v := (-1002)) hx hb hr (fun t ht hW => ⟨⟨_, _, rfl, ⟨rfl, rfl⟩, mPre_at h0 hS hP ht hW⟩, hS.F ht⟩) hS.2.2 dX12_unit_39
    have h := ifn hcq6 h
    refine lv_aload_n hx hb dX12_unit_23 rfl (lv_at hl 0 rfl) ?_
    refine va_get (D := D) (ci := 12) (v := .ref (G.1 1)) (C := RX12) (T := TX12) (N := 34) hx hb hts iwX12 hown hK hP 28 (mg_2 rfl) rfl 1 (by decide) (hts _ mw_959) (fun _ h9 => h9) rfl dX12_unit_24 ?_
    refine lv_iconst (v := 4) hx hb dX12_unit_27 (by decide) ?_
    refine lv_iload_n hx hb dX12_unit_28 rfl (lv_at hl 1 rfl) ?_
    refine lv_imul hx hb dX12_unit_29 ?_
    refine lv_iload_n hx hb dX12_unit_30 rfl (lv_at hl 2 rfl) ?_
    refine lv_iadd hx hb dX12_unit_31 ?_
    obtain ⟨hiq7, h⟩ := nif h
    refine va_iald hx hb hK hP 1 0 (mg_0 rfl) rfl hiq7 dX12_unit_32 ?_
    refine lv_goto (tgt := 39) hx hb dX12_unit_33 (by decide) ?_
    obtain rfl := Option.some.inj h
    exact W.iret (v := σ 1 ((4 * p1) + p2).toNatClampNeg) hx hb hr (fun t ht hW => ⟨⟨_, _, rfl, ⟨rfl, rfl⟩, mPre_at h0 hS hP ht hW⟩, hS.F ht⟩) hS.2.2 dX12_unit_39
  have h := ifp hcq3 h
  refine lv_sipush (v := (-1001)) hx hb dX12_unit_10 (by decide) ?_
  obtain rfl := Option.some.inj h
  exact W.iret (v := (-1001)) hx hb hr (fun t ht hW => ⟨⟨_, _, rfl, ⟨rfl, rfl⟩, mPre_at h0 hS hP ht hW⟩, hS.F ht⟩) hS.2.2 dX12_unit_13
def fX12_isSmall_J31 (k0 : Nat) (K4 : Int32 → Int32 → QMem → Option (Int32 × QMem)) (v2 : Int32) (s0 : Int32) (τ : QMem) : Option (Int32 × QMem) :=
  K4 s0 (v2 + 1) τ
def fX12_isSmall_J30 (k0 : Nat) (K4 : Int32 → Int32 → QMem → Option (Int32 × QMem)) (v2 : Int32) (τ : QMem) : Option (Int32 × QMem) :=
  fX12_isSmall_J31 k0 K4 v2 0 τ
def fX12_isSmall_L4 (k0 : Nat) : Nat → Int32 → Int32 → QMem → Option (Int32 × QMem)
  | 0, _, _, _ => none
  | n + 1, v1, v2, τ =>
  if 4 ≤ v2 then (if v1 = 0 then (some (0, τ)) else ((fX12_normOf k0 0 τ).bind fun xq3 => (if 150 < xq3.1 then (some (0, xq3.2)) else (some (1, xq3.2))))) else (if v1 = 0 then (fX12_isSmall_J30 k0 (fX12_isSmall_L4 k0 n) v2 τ) else (if (v2 < 0 ∨ ml k0 ≤ v2.toNatClampNeg) then none else ((fX12_in (τ k0 v2.toNatClampNeg) (-48) 48).bind fun xq8 => (if xq8 = 0 then (fX12_isSmall_J30 k0 (fX12_isSmall_L4 k0 n) v2 τ) else (fX12_isSmall_J31 k0 (fX12_isSmall_L4 k0 n) v2 1 τ)))))
def fX12_isSmall (k0 : Nat) (σ : QMem) : Option (Int32 × QMem) :=
  fX12_isSmall_L4 k0 FU 1 0 σ
set_option maxHeartbeats 4000000 in
set_option maxRecDepth 100000 in
theorem kX12_isSmall (l : Launch) (D : va_G) (G : xG) (σ : QMem) (k0 : Nat) (hk0 : mk k0 = 0) (res : Int32 × QMem) (h : fX12_isSmall k0 σ = some res) : Met l yX12_isSmall (.code yX12_isSmall cX12_isSmall 3 (some .boolean) :: lwW) (rmD 1) (mPc D G σ [.ref (G.1 k0)]) (mQi D G res) 0 0 (mA G) := by
  refine Met.ofW (cc := cX12_isSmall) (maxL := 3) (ret := (some .boolean)) (by decide) rfl ?_
  intro p e s m args below meth c s₁ B hml hv
  obtain ⟨rfl, h0⟩ := hv
  have hx := B.exec
  have hb := B.bytes
  have hr := B.returns
  have hts := fun (w : Cond) (hw : w ∈ lwW) => atoms_spec (ws := (.code yX12_isSmall cX12_isSmall 3 (some .boolean) :: lwW)) B.pre w (List.mem_cons_of_mem _ hw)
  have hown : s.vm.findClass RX12 = some m.cls := findClass_of_methodNamed B.named
  have hlocks := B.notSynchronized
  have hP := h0.1
  have hK := h0.2.1
  have hi := h0.2.2
  have hS : va_S (mA G) s.heap s.heap [] := va_S.rf
  have hl := lv_entry ([.ref (G.1 k0)]) (n := 3) (Nat.le_of_ble_eq_true rfl)
  rw [lg_entry_eq]
  generalize (lg_sl ([.ref (G.1 k0)]) ++ List.replicate (3 - (lg_sl ([.ref (G.1 k0)])).length) Slot.unset).toArray = ls at hl ⊢
  have hl : lv_has ls 3 [(0, .ref (G.1 k0))] := hl
  unfold fX12_isSmall at h
  have L4 : ∀ (n4 : Nat) (v1 : Int32) (v2 : Int32) (τ : QMem) (H : Heap) (locs : List Loc) (ls : Array Slot), fX12_isSmall_L4 k0 n4 v1 v2 τ = some res → va_P D vwCl (mW G τ) H → va_S (mA G) s.heap H locs → lv_has ls 3 [(0, .ref (G.1 k0)), (1, .int v1), (2, .int v2)] → W p l e (headSpec (.code yX12_isSmall cX12_isSmall 3 (some .boolean) :: lwW) (rmD 1)).room s m ([.ref (G.1 k0)] : List Value).toArray below meth c H locs 0 0 (MQ below (mQi D G res) ([.ref (G.1 k0)] : List Value).toArray s 0 0 (mA G)) (F0 m 4 ls []) := by
    intro n4
    induction n4 with
    | zero => intro v1 v2 τ H locs ls h; rw [fX12_isSmall_L4] at h; cases h
    | succ n4 ih4 =>
      intro v1 v2 τ H locs ls h hP hS hl
      rw [fX12_isSmall_L4] at h
      have J31 : ∀ (v2 : Int32) (s0 : Int32) (τ : QMem) (H : Heap) (locs : List Loc) (ls : Array Slot), fX12_isSmall_J31 k0 (fX12_isSmall_L4 k0 n4) v2 s0 τ = some res → va_P D vwCl (mW G τ) H → va_S (mA G) s.heap H locs → lv_has ls 3 [(0, .ref (G.1 k0)), (2, .int v2)] → W p l e (headSpec (.code yX12_isSmall cX12_isSmall 3 (some .boolean) :: lwW) (rmD 1)).room s m ([.ref (G.1 k0)] : List Value).toArray below meth c H locs 0 0 (MQ below (mQi D G res) ([.ref (G.1 k0)] : List Value).toArray s 0 0 (mA G)) (F0 m 31 ls [.int s0]) := by
        intro v2 s0 τ H locs ls h hP hS hl
        unfold fX12_isSmall_J31 at h
        refine lv_istore_n (lv' := [(1, .int s0), (0, .ref (G.1 k0)), (2, .int v2)]) hx hb dX12_isSmall_31 rfl hl (by decide) rfl (fun ls hl => ?_)
        refine lv_iinc (v := v2 + 1) (lv' := [(2, .int (v2 + 1)), (1, .int s0), (0, .ref (G.1 k0))]) hx hb dX12_isSmall_32 hl (k := 2) rfl rfl (by decide) rfl (fun ls hl => ?_)
        refine lv_goto (tgt := 4) hx hb dX12_isSmall_35 (by decide) ?_
        exact ih4 s0 (v2 + 1) _ _ _ _ h hP hS (lv_sub hl [2, 1, 0] rfl)
      have J30 : ∀ (v2 : Int32) (τ : QMem) (H : Heap) (locs : List Loc) (ls : Array Slot), fX12_isSmall_J30 k0 (fX12_isSmall_L4 k0 n4) v2 τ = some res → va_P D vwCl (mW G τ) H → va_S (mA G) s.heap H locs → lv_has ls 3 [(0, .ref (G.1 k0)), (2, .int v2)] → W p l e (headSpec (.code yX12_isSmall cX12_isSmall 3 (some .boolean) :: lwW) (rmD 1)).room s m ([.ref (G.1 k0)] : List Value).toArray below meth c H locs 0 0 (MQ below (mQi D G res) ([.ref (G.1 k0)] : List Value).toArray s 0 0 (mA G)) (F0 m 30 ls []) := by
        intro v2 τ H locs ls h hP hS hl
        unfold fX12_isSmall_J30 at h
        refine lv_iconst (v := 0) hx hb dX12_isSmall_30 (by decide) ?_
        exact J31 v2 0 _ _ _ _ h hP hS (lv_sub hl [0, 1] rfl)
      refine lv_iload_n hx hb dX12_isSmall_4 rfl (lv_at hl 2 rfl) ?_
      refine lv_iconst (v := 4) hx hb dX12_isSmall_5 (by decide) ?_
      refine lv_icmp_ge (tgt := 38) hx hb dX12_isSmall_6 (by decide) (fun hcq1 => ?_) (fun hcq1 => ?_)
      · have h := ifp hcq1 h
        refine lv_iload_n hx hb dX12_isSmall_38 rfl (lv_at hl 1 rfl) ?_
        refine lv_if_eq (tgt := 57) hx hb dX12_isSmall_39 (by decide) (fun hcq2 => ?_) (fun hcq2 => ?_)
        · have h := ifp hcq2 h
          refine lv_iconst (v := 0) hx hb dX12_isSmall_57 (by decide) ?_
          obtain rfl := Option.some.inj h
          exact W.zret hx hb hr rfl (fun t ht hW => ⟨⟨_, _, rfl, ⟨rfl, rfl⟩, mPre_at h0 hS hP ht hW⟩, hS.F ht⟩) hS.2.2 dX12_isSmall_58
        have h := ifn hcq2 h
        refine lv_aload_n hx hb dX12_isSmall_42 rfl (lv_at hl 0 rfl) ?_
        refine lv_iconst (v := 0) hx hb dX12_isSmall_43 (by decide) ?_
        obtain ⟨xq3, hfq4, h⟩ := obd h
        refine va_calli (va_runS (As := [.ref (G.1 k0), .int 0]) (rest := []) ⟨hx, hb, hml, hown, hts⟩ (kX12_normOf l D G _ k0 hk0 0 xq3 hfq4) (va_cwS 2 hts (lwW_gS mw_936 mw_937 mw_14 mw_938) rfl rfl rfl (by decide +kernel) ⟨Nat.le_of_ble_eq_true rfl, Nat.le_of_ble_eq_true rfl⟩) ⟨fun a U g mk q => ⟨q.1, mPre_call q.2⟩, fun U hU hW => ⟨rfl, mPre_at h0 hS hP hU hW⟩⟩ rfl rfl hl.1 rfl (lv_room (Nat.le_of_ble_eq_true rfl)) dX12_isSmall_44 ⟨Nat.zero_le _, Nat.zero_le _⟩) hS (fun q _ h => h) (fun q h => h) (fun r u t H1 locs ht hvm hw hB hz1 hq1 hS => ?_)
        obtain ⟨rfl, rfl⟩ := hw
        have hP := hB.1
        rw [ht] at hP
        refine W.widen (k := 0) (n := 0) (Nat.le_refl _) (Nat.le_refl _) ?_
        refine lv_sipush (v := 150) hx hb dX12_isSmall_47 (by decide) ?_
        refine lv_icmp_gt (tgt := 57) hx hb dX12_isSmall_50 (by decide) (fun hcq5 => ?_) (fun hcq5 => ?_)
        · have h := ifp hcq5 h
          refine lv_iconst (v := 0) hx hb dX12_isSmall_57 (by decide) ?_
          obtain rfl := Option.some.inj h
          exact W.zret hx hb hr rfl (fun t ht hW => ⟨⟨_, _, rfl, ⟨rfl, rfl⟩, mPre_at h0 hS hP ht hW⟩, hS.F ht⟩) hS.2.2 dX12_isSmall_58
        have h := ifn hcq5 h
        refine lv_iconst (v := 1) hx hb dX12_isSmall_53 (by decide) ?_
        refine lv_goto (tgt := 58) hx hb dX12_isSmall_54 (by decide) ?_
        obtain rfl := Option.some.inj h
        exact W.zret hx hb hr rfl (fun t ht hW => ⟨⟨_, _, rfl, ⟨rfl, rfl⟩, mPre_at h0 hS hP ht hW⟩, hS.F ht⟩) hS.2.2 dX12_isSmall_58
      have h := ifn hcq1 h
      refine lv_iload_n hx hb dX12_isSmall_9 rfl (lv_at hl 1 rfl) ?_
      refine lv_if_eq (tgt := 30) hx hb dX12_isSmall_10 (by decide) (fun hcq6 => ?_) (fun hcq6 => ?_)
      · have h := ifp hcq6 h
        exact J30 v2 _ _ _ _ h hP hS (lv_sub hl [0, 2] rfl)
      have h := ifn hcq6 h
      refine lv_aload_n hx hb dX12_isSmall_13 rfl (lv_at hl 0 rfl) ?_
      refine lv_iload_n hx hb dX12_isSmall_14 rfl (lv_at hl 2 rfl) ?_
      obtain ⟨hiq7, h⟩ := nif h
      refine va_iald hx hb hK hP k0 0 (mg_0 hk0) rfl hiq7 dX12_isSmall_15 ?_
      refine lv_bipush (v := (-48)) hx hb dX12_isSmall_16 (by decide) ?_
      refine lv_bipush (v := 48) hx hb dX12_isSmall_18 (by decide) ?_
      obtain ⟨xq8, hfq9, h⟩ := obd h
      refine va_calli (va_runS (As := [.int (τ k0 v2.toNatClampNeg), .int (-48), .int 48]) (rest := []) ⟨hx, hb, hml, hown, hts⟩ (kX12_in l (τ k0 v2.toNatClampNeg) (-48) 48 xq8 hfq9) (va_cwS 3 hts (lwW_gS mw_1069 mw_1070 mw_14 mw_1071) rfl rfl rfl (by decide +kernel) ⟨Nat.le_of_ble_eq_true rfl, Nat.le_of_ble_eq_true rfl⟩) ⟨fun a U g mk q => ⟨q.1, trivial⟩, fun U hU hW => ⟨rfl, trivial⟩⟩ rfl rfl hl.1 rfl (lv_room (Nat.le_of_ble_eq_true rfl)) dX12_isSmall_20 ⟨Nat.zero_le _, Nat.zero_le _⟩) hS (fun q _ h => h.elim) (fun q h => h.elim) (fun r u t H1 locs ht hvm hw hB hz1 hq1 hS => ?_)
      obtain rfl := hw.symm
      have hP := mP_kept hP hq1
      refine W.widen (k := 0) (n := 0) (Nat.le_refl _) (Nat.le_refl _) ?_
      refine lv_if_eq (tgt := 30) hx hb dX12_isSmall_23 (by decide) (fun hcq10 => ?_) (fun hcq10 => ?_)
      · have h := ifp hcq10 h
        exact J30 v2 _ _ _ _ h hP hS (lv_sub hl [0, 2] rfl)
      have h := ifn hcq10 h
      refine lv_iconst (v := 1) hx hb dX12_isSmall_26 (by decide) ?_
      refine lv_goto (tgt := 31) hx hb dX12_isSmall_27 (by decide) ?_
      exact J31 v2 1 _ _ _ _ h hP hS (lv_sub hl [0, 2] rfl)
  refine lv_iconst (v := 1) hx hb dX12_isSmall_0 (by decide) ?_
  refine lv_istore_n (lv' := [(1, .int 1), (0, .ref (G.1 k0))]) hx hb dX12_isSmall_1 rfl hl (by decide) rfl (fun ls hl => ?_)
  refine lv_iconst (v := 0) hx hb dX12_isSmall_2 (by decide) ?_
  refine lv_istore_n (lv' := [(2, .int 0), (1, .int 1), (0, .ref (G.1 k0))]) hx hb dX12_isSmall_3 rfl hl (by decide) rfl (fun ls hl => ?_)
  exact L4 FU 1 0 _ _ _ _ h hP hS (lv_sub hl [2, 1, 0] rfl)
def fX12_set (p1 : Int32) (p2 : Int32) (p3 : Int32) (p4 : Int32) (p5 : Int32) (σ : QMem) : Option (Int32 × QMem) :=
  (fX12_isSlot p1).bind fun xq1 => (if xq1 = 0 then (some ((-1001), σ)) else (if ((0 : Int32) < 0 ∨ ml 19 ≤ (0 : Int32).toNatClampNeg) then none else (if ((1 : Int32) < 0 ∨ ml 19 ≤ (1 : Int32).toNatClampNeg) then none else (if ((2 : Int32) < 0 ∨ ml 19 ≤ (2 : Int32).toNatClampNeg) then none else (if ((3 : Int32) < 0 ∨ ml 19 ≤ (3 : Int32).toNatClampNeg) then none else ((fX12_isSmall 19 (ms (ms (ms (ms σ 19 (0 : Int32).toNatClampNeg p2) 19 (1 : Int32).toNatClampNeg p3) 19 (2 : Int32).toNatClampNeg p4) 19 (3 : Int32).toNatClampNeg p5)).bind fun xq8 => (if xq8.1 = 0 then (some ((-1002), xq8.2)) else ((fX12_areLike p2 p3 p4 p5).bind fun xq11 => (if xq11 = 0 then (some ((-1002), xq8.2)) else ((fX12_becomes p1 19 0 xq8.2).bind fun xq14 => (some (xq14.1, xq14.2))))))))))))
set_option maxHeartbeats 4000000 in
set_option maxRecDepth 100000 in
theorem kX12_set (l : Launch) (D : va_G) (G : xG) (σ : QMem) (p1 : Int32) (p2 : Int32) (p3 : Int32) (p4 : Int32) (p5 : Int32) (res : Int32 × QMem) (h : fX12_set p1 p2 p3 p4 p5 σ = some res) : Met l yX12_set (.code yX12_set cX12_set 6 (some .int) :: lwW) (rmD 3) (mPc D G σ [.ref (G.1 28), .int p1, .int p2, .int p3, .int p4, .int p5]) (mQi D G res) 0 0 (mA G) := by
  refine Met.ofW (cc := cX12_set) (maxL := 6) (ret := (some .int)) (by decide) rfl ?_
  intro p e s m args below meth c s₁ B hml hv
  obtain ⟨rfl, h0⟩ := hv
  have hx := B.exec
  have hb := B.bytes
  have hr := B.returns
  have hts := fun (w : Cond) (hw : w ∈ lwW) => atoms_spec (ws := (.code yX12_set cX12_set 6 (some .int) :: lwW)) B.pre w (List.mem_cons_of_mem _ hw)
  have hown : s.vm.findClass RX12 = some m.cls := findClass_of_methodNamed B.named
  have hlocks := B.notSynchronized
  have hP := h0.1
  have hK := h0.2.1
  have hi := h0.2.2
  have hS : va_S (mA G) s.heap s.heap [] := va_S.rf
  have hl := lv_entry ([.ref (G.1 28), .int p1, .int p2, .int p3, .int p4, .int p5]) (n := 6) (Nat.le_of_ble_eq_true rfl)
  rw [lg_entry_eq]
  generalize (lg_sl ([.ref (G.1 28), .int p1, .int p2, .int p3, .int p4, .int p5]) ++ List.replicate (6 - (lg_sl ([.ref (G.1 28), .int p1, .int p2, .int p3, .int p4, .int p5])).length) Slot.unset).toArray = ls at hl ⊢
  have hl : lv_has ls 6 [(0, .ref (G.1 28)), (1, .int p1), (2, .int p2), (3, .int p3), (4, .int p4), (5, .int p5)] := hl
  unfold fX12_set at h
  refine lv_iload_n hx hb dX12_set_0 rfl (lv_at hl 1 rfl) ?_
  obtain ⟨xq1, hfq2, h⟩ := obd h
  refine va_calli (va_runS (As := [.int p1]) (rest := []) ⟨hx, hb, hml, hown, hts⟩ (kX12_isSlot l p1 xq1 hfq2) (va_cwS 1 hts (lwW_gS mw_1066 mw_1067 mw_14 mw_1068) rfl rfl rfl (by decide +kernel) ⟨Nat.le_of_ble_eq_true rfl, Nat.le_of_ble_eq_true rfl⟩) ⟨fun a U g mk q => ⟨q.1, trivial⟩, fun U hU hW => ⟨rfl, trivial⟩⟩ rfl rfl hl.1 rfl (lv_room (Nat.le_of_ble_eq_true rfl)) dX12_set_1 ⟨Nat.zero_le _, Nat.zero_le _⟩) hS (fun q _ h => h.elim) (fun q h => h.elim) (fun r u t H1 locs ht hvm hw hB hz1 hq1 hS => ?_)
  obtain rfl := hw.symm
  have hP := mP_kept hP hq1
  refine W.widen (k := 0) (n := 0) (Nat.le_refl _) (Nat.le_refl _) ?_
  refine lv_if_ne (tgt := 11) hx hb dX12_set_4 (by decide) (fun hcq3 => ?_) (fun hcq3 => ?_)
  · have h := ifn hcq3 h
    refine lv_aload_n hx hb dX12_set_11 rfl (lv_at hl 0 rfl) ?_
    refine va_get (D := D) (ci := 12) (v := .ref (G.1 19)) (C := RX12) (T := TX12) (N := 34) hx hb hts iwX12 hown hK hP 28 (mg_2 rfl) rfl 21 (by decide) (hts _ mw_979) (fun _ h9 => h9) rfl dX12_set_12 ?_
    refine lv_iconst (v := 0) hx hb dX12_set_15 (by decide) ?_
    refine lv_iload_n hx hb dX12_set_16 rfl (lv_at hl 2 rfl) ?_
    obtain ⟨hiq4, h⟩ := nif h
    refine va_iast hx hb hK hP (mD hi) hS 19 0 (mg_0 rfl) rfl hiq4 dX12_set_17 (fun H locs hP hD hS => ?_)
    have hP : va_P D vwCl (mW G (ms σ 19 (0 : Int32).toNatClampNeg p2)) H := by rw [← ms_0x rfl]; exact hP
    refine lv_aload_n hx hb dX12_set_18 rfl (lv_at hl 0 rfl) ?_
    refine va_get (D := D) (ci := 12) (v := .ref (G.1 19)) (C := RX12) (T := TX12) (N := 34) hx hb hts iwX12 hown hK hP 28 (mg_2 rfl) rfl 21 (by decide) (hts _ mw_979) (fun _ h9 => h9) rfl dX12_set_19 ?_
    refine lv_iconst (v := 1) hx hb dX12_set_22 (by decide) ?_
    refine lv_iload_n hx hb dX12_set_23 rfl (lv_at hl 3 rfl) ?_
    obtain ⟨hiq5, h⟩ := nif h
    refine va_iast hx hb hK hP (mD hi) hS 19 0 (mg_0 rfl) rfl hiq5 dX12_set_24 (fun H locs hP hD hS => ?_)
    have hP : va_P D vwCl (mW G (ms (ms σ 19 (0 : Int32).toNatClampNeg p2) 19 (1 : Int32).toNatClampNeg p3)) H := by rw [← ms_0x rfl]; exact hP
    refine lv_aload_n hx hb dX12_set_25 rfl (lv_at hl 0 rfl) ?_
    refine va_get (D := D) (ci := 12) (v := .ref (G.1 19)) (C := RX12) (T := TX12) (N := 34) hx hb hts iwX12 hown hK hP 28 (mg_2 rfl) rfl 21 (by decide) (hts _ mw_979) (fun _ h9 => h9) rfl dX12_set_26 ?_
    refine lv_iconst (v := 2) hx hb dX12_set_29 (by decide) ?_
    refine lv_iload hx hb dX12_set_30 (lv_at hl 4 rfl) ?_
    obtain ⟨hiq6, h⟩ := nif h
    refine va_iast hx hb hK hP (mD hi) hS 19 0 (mg_0 rfl) rfl hiq6 dX12_set_32 (fun H locs hP hD hS => ?_)
    have hP : va_P D vwCl (mW G (ms (ms (ms σ 19 (0 : Int32).toNatClampNeg p2) 19 (1 : Int32).toNatClampNeg p3) 19 (2 : Int32).toNatClampNeg p4)) H := by rw [← ms_0x rfl]; exact hP
    refine lv_aload_n hx hb dX12_set_33 rfl (lv_at hl 0 rfl) ?_
    refine va_get (D := D) (ci := 12) (v := .ref (G.1 19)) (C := RX12) (T := TX12) (N := 34) hx hb hts iwX12 hown hK hP 28 (mg_2 rfl) rfl 21 (by decide) (hts _ mw_979) (fun _ h9 => h9) rfl dX12_set_34 ?_
    refine lv_iconst (v := 3) hx hb dX12_set_37 (by decide) ?_
    refine lv_iload hx hb dX12_set_38 (lv_at hl 5 rfl) ?_
    obtain ⟨hiq7, h⟩ := nif h
    refine va_iast hx hb hK hP (mD hi) hS 19 0 (mg_0 rfl) rfl hiq7 dX12_set_40 (fun H locs hP hD hS => ?_)
    have hP : va_P D vwCl (mW G (ms (ms (ms (ms σ 19 (0 : Int32).toNatClampNeg p2) 19 (1 : Int32).toNatClampNeg p3) 19 (2 : Int32).toNatClampNeg p4) 19 (3 : Int32).toNatClampNeg p5)) H := by rw [← ms_0x rfl]; exact hP
    refine lv_aload_n hx hb dX12_set_41 rfl (lv_at hl 0 rfl) ?_
    refine va_get (D := D) (ci := 12) (v := .ref (G.1 19)) (C := RX12) (T := TX12) (N := 34) hx hb hts iwX12 hown hK hP 28 (mg_2 rfl) rfl 21 (by decide) (hts _ mw_979) (fun _ h9 => h9) rfl dX12_set_42 ?_
    obtain ⟨xq8, hfq9, h⟩ := obd h
    refine va_calli (va_runS (As := [.ref (G.1 19)]) (rest := []) ⟨hx, hb, hml, hown, hts⟩ (kX12_isSmall l D G _ 19 rfl xq8 hfq9) (va_cwS 1 hts (lwW_gS mw_1118 mw_1119 mw_14 mw_1120) rfl rfl rfl (by decide +kernel) ⟨Nat.le_of_ble_eq_true rfl, Nat.le_of_ble_eq_true rfl⟩) ⟨fun a U g mk q => ⟨q.1, mPre_call q.2⟩, fun U hU hW => ⟨rfl, mPre_at h0 hS hP hU hW⟩⟩ rfl rfl hl.1 rfl (lv_room (Nat.le_of_ble_eq_true rfl)) dX12_set_45 ⟨Nat.zero_le _, Nat.zero_le _⟩) hS (fun q _ h => h) (fun q h => h) (fun r u t H1 locs ht hvm hw hB hz1 hq1 hS => ?_)
    obtain ⟨rfl, rfl⟩ := hw
    have hP := hB.1
    rw [ht] at hP
    refine W.widen (k := 0) (n := 0) (Nat.le_refl _) (Nat.le_refl _) ?_
    refine lv_if_eq (tgt := 76) hx hb dX12_set_48 (by decide) (fun hcq10 => ?_) (fun hcq10 => ?_)
    · have h := ifp hcq10 h
      refine lv_sipush (v := (-1002)) hx hb dX12_set_76 (by decide) ?_
      obtain rfl := Option.some.inj h
      exact W.iret (v := (-1002)) hx hb hr (fun t ht hW => ⟨⟨_, _, rfl, ⟨rfl, rfl⟩, mPre_at h0 hS hP ht hW⟩, hS.F ht⟩) hS.2.2 dX12_set_79
    have h := ifn hcq10 h
    refine lv_iload_n hx hb dX12_set_51 rfl (lv_at hl 2 rfl) ?_
    refine lv_iload_n hx hb dX12_set_52 rfl (lv_at hl 3 rfl) ?_
    refine lv_iload hx hb dX12_set_53 (lv_at hl 4 rfl) ?_
    refine lv_iload hx hb dX12_set_55 (lv_at hl 5 rfl) ?_
    obtain ⟨xq11, hfq12, h⟩ := obd h
    refine va_calli (va_runS (As := [.int p2, .int p3, .int p4, .int p5]) (rest := []) ⟨hx, hb, hml, hown, hts⟩ (kX12_areLike l p2 p3 p4 p5 xq11 hfq12) (va_cwS 4 hts (lwW_gS mw_925 mw_926 mw_14 mw_927) rfl rfl rfl (by decide +kernel) ⟨Nat.le_of_ble_eq_true rfl, Nat.le_of_ble_eq_true rfl⟩) ⟨fun a U g mk q => ⟨q.1, trivial⟩, fun U hU hW => ⟨rfl, trivial⟩⟩ rfl rfl hl.1 rfl (lv_room (Nat.le_of_ble_eq_true rfl)) dX12_set_57 ⟨Nat.zero_le _, Nat.zero_le _⟩) hS (fun q _ h => h.elim) (fun q h => h.elim) (fun r u t H1 locs ht hvm hw hB hz1 hq1 hS => ?_)
    obtain rfl := hw.symm
    have hP := mP_kept hP hq1
    refine W.widen (k := 0) (n := 0) (Nat.le_refl _) (Nat.le_refl _) ?_
    refine lv_if_eq (tgt := 76) hx hb dX12_set_60 (by decide) (fun hcq13 => ?_) (fun hcq13 => ?_)
    · have h := ifp hcq13 h
      refine lv_sipush (v := (-1002)) hx hb dX12_set_76 (by decide) ?_
      obtain rfl := Option.some.inj h
      exact W.iret (v := (-1002)) hx hb hr (fun t ht hW => ⟨⟨_, _, rfl, ⟨rfl, rfl⟩, mPre_at h0 hS hP ht hW⟩, hS.F ht⟩) hS.2.2 dX12_set_79
    have h := ifn hcq13 h
    refine lv_aload_n hx hb dX12_set_63 rfl (lv_at hl 0 rfl) ?_
    refine lv_iload_n hx hb dX12_set_64 rfl (lv_at hl 1 rfl) ?_
    refine lv_aload_n hx hb dX12_set_65 rfl (lv_at hl 0 rfl) ?_
    refine va_get (D := D) (ci := 12) (v := .ref (G.1 19)) (C := RX12) (T := TX12) (N := 34) hx hb hts iwX12 hown hK hP 28 (mg_2 rfl) rfl 21 (by decide) (hts _ mw_979) (fun _ h9 => h9) rfl dX12_set_66 ?_
    refine lv_iconst (v := 0) hx hb dX12_set_69 (by decide) ?_
    obtain ⟨xq14, hfq15, h⟩ := obd h
    refine va_calli (va_runV (As := [.int p1, .ref (G.1 19), .int 0]) (rest := []) ⟨hx, hb, hml, hown, hts⟩ (kX12_becomes l D G _ p1 19 rfl 0 xq14 hfq15) (cwV 3 hts (lwW_gV mw_1121 mw_1123 ms_37 mw_14 mw_1124) rfl rfl rfl (by decide +kernel) ⟨Nat.le_of_ble_eq_true rfl, Nat.le_of_ble_eq_true rfl⟩) ⟨fun a U g mk q => ⟨q.1, mPre_call q.2⟩, va_recv hK hP rfl (mg_2 rfl), fun U hU hW => ⟨rfl, mPre_at h0 hS hP hU hW⟩⟩ rfl rfl hl.1 rfl (lv_room (Nat.le_of_ble_eq_true rfl)) dX12_set_70 ⟨Nat.zero_le _, Nat.zero_le _⟩) hS (fun q _ h => h) (fun q h => h) (fun r u t H1 locs ht hvm hw hB hz1 hq1 hS => ?_)
    obtain ⟨rfl, rfl⟩ := hw
    have hP := hB.1
    rw [ht] at hP
    refine W.widen (k := 0) (n := 0) (Nat.le_refl _) (Nat.le_refl _) ?_
    refine lv_goto (tgt := 79) hx hb dX12_set_73 (by decide) ?_
    obtain rfl := Option.some.inj h
    exact W.iret (v := xq14.1) hx hb hr (fun t ht hW => ⟨⟨_, _, rfl, ⟨rfl, rfl⟩, mPre_at h0 hS hP ht hW⟩, hS.F ht⟩) hS.2.2 dX12_set_79
  have h := ifp hcq3 h
  refine lv_sipush (v := (-1001)) hx hb dX12_set_7 (by decide) ?_
  obtain rfl := Option.some.inj h
  exact W.iret (v := (-1001)) hx hb hr (fun t ht hW => ⟨⟨_, _, rfl, ⟨rfl, rfl⟩, mPre_at h0 hS hP ht hW⟩, hS.F ht⟩) hS.2.2 dX12_set_10
def fX12_add_L20 (p1 : Int32) (p2 : Int32) : Nat → Int32 → QMem → Option (Int32 × QMem)
  | 0, _, _ => none
  | n + 1, v3, τ =>
  if 4 ≤ v3 then ((fX12_isSmall 19 τ).bind fun xq2 => (if xq2.1 = 0 then (some ((-1003), xq2.2)) else ((fX12_becomes p1 19 0 xq2.2).bind fun xq5 => (some (xq5.1, xq5.2))))) else (if ((4 * p1) + v3 < 0 ∨ ml 13 ≤ ((4 * p1) + v3).toNatClampNeg) then none else (if ((4 * p2) + v3 < 0 ∨ ml 13 ≤ ((4 * p2) + v3).toNatClampNeg) then none else (if (v3 < 0 ∨ ml 19 ≤ v3.toNatClampNeg) then none else ((fX12_add_L20 p1 p2 n) (v3 + 1) (ms τ 19 v3.toNatClampNeg ((τ 13 ((4 * p1) + v3).toNatClampNeg) + (τ 13 ((4 * p2) + v3).toNatClampNeg)))))))
def fX12_add (p1 : Int32) (p2 : Int32) (σ : QMem) : Option (Int32 × QMem) :=
  (fX12_isSlot p1).bind fun xq10 => (if xq10 = 0 then (some ((-1001), σ)) else ((fX12_isSlot p2).bind fun xq13 => (if xq13 = 0 then (some ((-1001), σ)) else (fX12_add_L20 p1 p2 FU 0 σ))))
set_option maxHeartbeats 4000000 in
set_option maxRecDepth 100000 in
theorem kX12_add (l : Launch) (D : va_G) (G : xG) (σ : QMem) (p1 : Int32) (p2 : Int32) (res : Int32 × QMem) (h : fX12_add p1 p2 σ = some res) : Met l yX12_add (.code yX12_add cX12_add 4 (some .int) :: lwW) (rmD 3) (mPc D G σ [.ref (G.1 28), .int p1, .int p2]) (mQi D G res) 0 0 (mA G) := by
  refine Met.ofW (cc := cX12_add) (maxL := 4) (ret := (some .int)) (by decide) rfl ?_
  intro p e s m args below meth c s₁ B hml hv
  obtain ⟨rfl, h0⟩ := hv
  have hx := B.exec
  have hb := B.bytes
  have hr := B.returns
  have hts := fun (w : Cond) (hw : w ∈ lwW) => atoms_spec (ws := (.code yX12_add cX12_add 4 (some .int) :: lwW)) B.pre w (List.mem_cons_of_mem _ hw)
  have hown : s.vm.findClass RX12 = some m.cls := findClass_of_methodNamed B.named
  have hlocks := B.notSynchronized
  have hP := h0.1
  have hK := h0.2.1
  have hi := h0.2.2
  have hS : va_S (mA G) s.heap s.heap [] := va_S.rf
  have hl := lv_entry ([.ref (G.1 28), .int p1, .int p2]) (n := 4) (Nat.le_of_ble_eq_true rfl)
  rw [lg_entry_eq]
  generalize (lg_sl ([.ref (G.1 28), .int p1, .int p2]) ++ List.replicate (4 - (lg_sl ([.ref (G.1 28), .int p1, .int p2])).length) Slot.unset).toArray = ls at hl ⊢
  have hl : lv_has ls 4 [(0, .ref (G.1 28)), (1, .int p1), (2, .int p2)] := hl
  unfold fX12_add at h
  have L20 : ∀ (n20 : Nat) (v3 : Int32) (τ : QMem) (H : Heap) (locs : List Loc) (ls : Array Slot), fX12_add_L20 p1 p2 n20 v3 τ = some res → va_P D vwCl (mW G τ) H → va_S (mA G) s.heap H locs → lv_has ls 4 [(0, .ref (G.1 28)), (1, .int p1), (2, .int p2), (3, .int v3)] → W p l e (headSpec (.code yX12_add cX12_add 4 (some .int) :: lwW) (rmD 3)).room s m ([.ref (G.1 28), .int p1, .int p2] : List Value).toArray below meth c H locs 0 0 (MQ below (mQi D G res) ([.ref (G.1 28), .int p1, .int p2] : List Value).toArray s 0 0 (mA G)) (F0 m 20 ls []) := by
    intro n20
    induction n20 with
    | zero => intro v3 τ H locs ls h; rw [fX12_add_L20] at h; cases h
    | succ n20 ih20 =>
      intro v3 τ H locs ls h hP hS hl
      rw [fX12_add_L20] at h
      refine lv_iload_n hx hb dX12_add_20 rfl (lv_at hl 3 rfl) ?_
      refine lv_iconst (v := 4) hx hb dX12_add_21 (by decide) ?_
      refine lv_icmp_ge (tgt := 58) hx hb dX12_add_22 (by decide) (fun hcq1 => ?_) (fun hcq1 => ?_)
      · have h := ifp hcq1 h
        refine lv_aload_n hx hb dX12_add_58 rfl (lv_at hl 0 rfl) ?_
        refine va_get (D := D) (ci := 12) (v := .ref (G.1 19)) (C := RX12) (T := TX12) (N := 34) hx hb hts iwX12 hown hK hP 28 (mg_2 rfl) rfl 21 (by decide) (hts _ mw_979) (fun _ h9 => h9) rfl dX12_add_59 ?_
        obtain ⟨xq2, hfq3, h⟩ := obd h
        refine va_calli (va_runS (As := [.ref (G.1 19)]) (rest := []) ⟨hx, hb, hml, hown, hts⟩ (kX12_isSmall l D G _ 19 rfl xq2 hfq3) (va_cwS 1 hts (lwW_gS mw_1118 mw_1119 mw_14 mw_1120) rfl rfl rfl (by decide +kernel) ⟨Nat.le_of_ble_eq_true rfl, Nat.le_of_ble_eq_true rfl⟩) ⟨fun a U g mk q => ⟨q.1, mPre_call q.2⟩, fun U hU hW => ⟨rfl, mPre_at h0 hS hP hU hW⟩⟩ rfl rfl hl.1 rfl (lv_room (Nat.le_of_ble_eq_true rfl)) dX12_add_62 ⟨Nat.zero_le _, Nat.zero_le _⟩) hS (fun q _ h => h) (fun q h => h) (fun r u t H1 locs ht hvm hw hB hz1 hq1 hS => ?_)
        obtain ⟨rfl, rfl⟩ := hw
        have hP := hB.1
        rw [ht] at hP
        refine W.widen (k := 0) (n := 0) (Nat.le_refl _) (Nat.le_refl _) ?_
        refine lv_if_eq (tgt := 81) hx hb dX12_add_65 (by decide) (fun hcq4 => ?_) (fun hcq4 => ?_)
        · have h := ifp hcq4 h
          refine lv_sipush (v := (-1003)) hx hb dX12_add_81 (by decide) ?_
          obtain rfl := Option.some.inj h
          exact W.iret (v := (-1003)) hx hb hr (fun t ht hW => ⟨⟨_, _, rfl, ⟨rfl, rfl⟩, mPre_at h0 hS hP ht hW⟩, hS.F ht⟩) hS.2.2 dX12_add_84
        have h := ifn hcq4 h
        refine lv_aload_n hx hb dX12_add_68 rfl (lv_at hl 0 rfl) ?_
        refine lv_iload_n hx hb dX12_add_69 rfl (lv_at hl 1 rfl) ?_
        refine lv_aload_n hx hb dX12_add_70 rfl (lv_at hl 0 rfl) ?_
        refine va_get (D := D) (ci := 12) (v := .ref (G.1 19)) (C := RX12) (T := TX12) (N := 34) hx hb hts iwX12 hown hK hP 28 (mg_2 rfl) rfl 21 (by decide) (hts _ mw_979) (fun _ h9 => h9) rfl dX12_add_71 ?_
        refine lv_iconst (v := 0) hx hb dX12_add_74 (by decide) ?_
        obtain ⟨xq5, hfq6, h⟩ := obd h
        refine va_calli (va_runV (As := [.int p1, .ref (G.1 19), .int 0]) (rest := []) ⟨hx, hb, hml, hown, hts⟩ (kX12_becomes l D G _ p1 19 rfl 0 xq5 hfq6) (cwV 3 hts (lwW_gV mw_1121 mw_1123 ms_37 mw_14 mw_1124) rfl rfl rfl (by decide +kernel) ⟨Nat.le_of_ble_eq_true rfl, Nat.le_of_ble_eq_true rfl⟩) ⟨fun a U g mk q => ⟨q.1, mPre_call q.2⟩, va_recv hK hP rfl (mg_2 rfl), fun U hU hW => ⟨rfl, mPre_at h0 hS hP hU hW⟩⟩ rfl rfl hl.1 rfl (lv_room (Nat.le_of_ble_eq_true rfl)) dX12_add_75 ⟨Nat.zero_le _, Nat.zero_le _⟩) hS (fun q _ h => h) (fun q h => h) (fun r u t H1 locs ht hvm hw hB hz1 hq1 hS => ?_)
        obtain ⟨rfl, rfl⟩ := hw
        have hP := hB.1
        rw [ht] at hP
        refine W.widen (k := 0) (n := 0) (Nat.le_refl _) (Nat.le_refl _) ?_
        refine lv_goto (tgt := 84) hx hb dX12_add_78 (by decide) ?_
        obtain rfl := Option.some.inj h
        exact W.iret (v := xq5.1) hx hb hr (fun t ht hW => ⟨⟨_, _, rfl, ⟨rfl, rfl⟩, mPre_at h0 hS hP ht hW⟩, hS.F ht⟩) hS.2.2 dX12_add_84
      have h := ifn hcq1 h
      refine lv_aload_n hx hb dX12_add_25 rfl (lv_at hl 0 rfl) ?_
      refine va_get (D := D) (ci := 12) (v := .ref (G.1 19)) (C := RX12) (T := TX12) (N := 34) hx hb hts iwX12 hown hK hP 28 (mg_2 rfl) rfl 21 (by decide) (hts _ mw_979) (fun _ h9 => h9) rfl dX12_add_26 ?_
      refine lv_iload_n hx hb dX12_add_29 rfl (lv_at hl 3 rfl) ?_
      refine lv_aload_n hx hb dX12_add_30 rfl (lv_at hl 0 rfl) ?_
      refine va_get (D := D) (ci := 12) (v := .ref (G.1 13)) (C := RX12) (T := TX12) (N := 34) hx hb hts iwX12 hown hK hP 28 (mg_2 rfl) rfl 14 (by decide) (hts _ mw_972) (fun _ h9 => h9) rfl dX12_add_31 ?_
      refine lv_iconst (v := 4) hx hb dX12_add_34 (by decide) ?_
      refine lv_iload_n hx hb dX12_add_35 rfl (lv_at hl 1 rfl) ?_
      refine lv_imul hx hb dX12_add_36 ?_
      refine lv_iload_n hx hb dX12_add_37 rfl (lv_at hl 3 rfl) ?_
      refine lv_iadd hx hb dX12_add_38 ?_
      obtain ⟨hiq7, h⟩ := nif h
      refine va_iald hx hb hK hP 13 0 (mg_0 rfl) rfl hiq7 dX12_add_39 ?_
      refine lv_aload_n hx hb dX12_add_40 rfl (lv_at hl 0 rfl) ?_
      refine va_get (D := D) (ci := 12) (v := .ref (G.1 13)) (C := RX12) (T := TX12) (N := 34) hx hb hts iwX12 hown hK hP 28 (mg_2 rfl) rfl 14 (by decide) (hts _ mw_972) (fun _ h9 => h9) rfl dX12_add_41 ?_
      refine lv_iconst (v := 4) hx hb dX12_add_44 (by decide) ?_
      refine lv_iload_n hx hb dX12_add_45 rfl (lv_at hl 2 rfl) ?_
      refine lv_imul hx hb dX12_add_46 ?_
      refine lv_iload_n hx hb dX12_add_47 rfl (lv_at hl 3 rfl) ?_
      refine lv_iadd hx hb dX12_add_48 ?_
      obtain ⟨hiq8, h⟩ := nif h
      refine va_iald hx hb hK hP 13 0 (mg_0 rfl) rfl hiq8 dX12_add_49 ?_
      refine lv_iadd hx hb dX12_add_50 ?_
      obtain ⟨hiq9, h⟩ := nif h
      refine va_iast hx hb hK hP (mD hi) hS 19 0 (mg_0 rfl) rfl hiq9 dX12_add_51 (fun H locs hP hD hS => ?_)
      have hP : va_P D vwCl (mW G (ms τ 19 v3.toNatClampNeg ((τ 13 ((4 * p1) + v3).toNatClampNeg) + (τ 13 ((4 * p2) + v3).toNatClampNeg)))) H := by rw [← ms_0x rfl]; exact hP
      refine lv_iinc (v := v3 + 1) (lv' := [(3, .int (v3 + 1)), (0, .ref (G.1 28)), (1, .int p1), (2, .int p2)]) hx hb dX12_add_52 hl (k := 3) rfl rfl (by decide) rfl (fun ls hl => ?_)
      refine lv_goto (tgt := 20) hx hb dX12_add_55 (by decide) ?_
      exact ih20 (v3 + 1) _ _ _ _ h hP hS (lv_sub hl [1, 2, 3, 0] rfl)
  refine lv_iload_n hx hb dX12_add_0 rfl (lv_at hl 1 rfl) ?_
  obtain ⟨xq10, hfq11, h⟩ := obd h
  refine va_calli (va_runS (As := [.int p1]) (rest := []) ⟨hx, hb, hml, hown, hts⟩ (kX12_isSlot l p1 xq10 hfq11) (va_cwS 1 hts (lwW_gS mw_1066 mw_1067 mw_14 mw_1068) rfl rfl rfl (by decide +kernel) ⟨Nat.le_of_ble_eq_true rfl, Nat.le_of_ble_eq_true rfl⟩) ⟨fun a U g mk q => ⟨q.1, trivial⟩, fun U hU hW => ⟨rfl, trivial⟩⟩ rfl rfl hl.1 rfl (lv_room (Nat.le_of_ble_eq_true rfl)) dX12_add_1 ⟨Nat.zero_le _, Nat.zero_le _⟩) hS (fun q _ h => h.elim) (fun q h => h.elim) (fun r u t H1 locs ht hvm hw hB hz1 hq1 hS => ?_)
  obtain rfl := hw.symm
  have hP := mP_kept hP hq1
  refine W.widen (k := 0) (n := 0) (Nat.le_refl _) (Nat.le_refl _) ?_
  refine lv_if_eq (tgt := 14) hx hb dX12_add_4 (by decide) (fun hcq12 => ?_) (fun hcq12 => ?_)
  · have h := ifp hcq12 h
    refine lv_sipush (v := (-1001)) hx hb dX12_add_14 (by decide) ?_
    obtain rfl := Option.some.inj h
    exact W.iret (v := (-1001)) hx hb hr (fun t ht hW => ⟨⟨_, _, rfl, ⟨rfl, rfl⟩, mPre_at h0 hS hP ht hW⟩, hS.F ht⟩) hS.2.2 dX12_add_17
  have h := ifn hcq12 h
  refine lv_iload_n hx hb dX12_add_7 rfl (lv_at hl 2 rfl) ?_
  obtain ⟨xq13, hfq14, h⟩ := obd h
  refine va_calli (va_runS (As := [.int p2]) (rest := []) ⟨hx, hb, hml, hown, hts⟩ (kX12_isSlot l p2 xq13 hfq14) (va_cwS 1 hts (lwW_gS mw_1066 mw_1067 mw_14 mw_1068) rfl rfl rfl (by decide +kernel) ⟨Nat.le_of_ble_eq_true rfl, Nat.le_of_ble_eq_true rfl⟩) ⟨fun a U g mk q => ⟨q.1, trivial⟩, fun U hU hW => ⟨rfl, trivial⟩⟩ rfl rfl hl.1 rfl (lv_room (Nat.le_of_ble_eq_true rfl)) dX12_add_8 ⟨Nat.zero_le _, Nat.zero_le _⟩) hS (fun q _ h => h.elim) (fun q h => h.elim) (fun r u t H1 locs ht hvm hw hB hz1 hq1 hS => ?_)
  obtain rfl := hw.symm
  have hP := mP_kept hP hq1
  refine W.widen (k := 0) (n := 0) (Nat.le_refl _) (Nat.le_refl _) ?_
  refine lv_if_ne (tgt := 18) hx hb dX12_add_11 (by decide) (fun hcq15 => ?_) (fun hcq15 => ?_)
  · have h := ifn hcq15 h
    refine lv_iconst (v := 0) hx hb dX12_add_18 (by decide) ?_
    refine lv_istore_n (lv' := [(3, .int 0), (0, .ref (G.1 28)), (1, .int p1), (2, .int p2)]) hx hb dX12_add_19 rfl hl (by decide) rfl (fun ls hl => ?_)
    exact L20 FU 0 _ _ _ _ h hP hS (lv_sub hl [1, 2, 3, 0] rfl)
  have h := ifp hcq15 h
  refine lv_sipush (v := (-1001)) hx hb dX12_add_14 (by decide) ?_
  obtain rfl := Option.some.inj h
  exact W.iret (v := (-1001)) hx hb hr (fun t ht hW => ⟨⟨_, _, rfl, ⟨rfl, rfl⟩, mPre_at h0 hS hP ht hW⟩, hS.F ht⟩) hS.2.2 dX12_add_17
def fX12_isSide (p0 : Int32) : Option (Int32) :=
  (fX12_in p0 0 1).bind fun xq1 => (if ¬ (xq1 = 0 ∨ xq1 = 1) then none else (some xq1))
set_option maxHeartbeats 4000000 in
set_option maxRecDepth 100000 in
theorem kX12_isSide (l : Launch) (p0 : Int32) (res : Int32) (h : fX12_isSide p0 = some res) : Met l yX12_isSide (.code yX12_isSide cX12_isSide 1 (some .boolean) :: lwW) (rmD 1) (nPc [.int p0]) (nQi res) 0 0 (fun _ => False) := by
  refine Met.ofW (cc := cX12_isSide) (maxL := 1) (ret := (some .boolean)) (by decide) rfl ?_
  intro p e s m args below meth c s₁ B hml hv
  obtain ⟨rfl, h0⟩ := hv
  have hx := B.exec
  have hb := B.bytes
  have hr := B.returns
  have hts := fun (w : Cond) (hw : w ∈ lwW) => atoms_spec (ws := (.code yX12_isSide cX12_isSide 1 (some .boolean) :: lwW)) B.pre w (List.mem_cons_of_mem _ hw)
  have hown : s.vm.findClass RX12 = some m.cls := findClass_of_methodNamed B.named
  have hlocks := B.notSynchronized
  have hS : va_S (fun _ => False) s.heap s.heap [] := va_S.rf
  have hl := lv_entry ([.int p0]) (n := 1) (Nat.le_of_ble_eq_true rfl)
  rw [lg_entry_eq]
  generalize (lg_sl ([.int p0]) ++ List.replicate (1 - (lg_sl ([.int p0])).length) Slot.unset).toArray = ls at hl ⊢
  have hl : lv_has ls 1 [(0, .int p0)] := hl
  unfold fX12_isSide at h
  refine lv_iload_n hx hb dX12_isSide_0 rfl (lv_at hl 0 rfl) ?_
  refine lv_iconst (v := 0) hx hb dX12_isSide_1 (by decide) ?_
  refine lv_iconst (v := 1) hx hb dX12_isSide_2 (by decide) ?_
  obtain ⟨xq1, hfq2, h⟩ := obd h
  refine va_calli (va_runS (As := [.int p0, .int 0, .int 1]) (rest := []) ⟨hx, hb, hml, hown, hts⟩ (kX12_in l p0 0 1 xq1 hfq2) (va_cwS 3 hts (lwW_gS mw_1069 mw_1070 mw_14 mw_1071) rfl rfl rfl (by decide +kernel) ⟨Nat.le_of_ble_eq_true rfl, Nat.le_of_ble_eq_true rfl⟩) ⟨fun a U g mk q => ⟨q.1, trivial⟩, fun U hU hW => ⟨rfl, trivial⟩⟩ rfl rfl hl.1 rfl (lv_room (Nat.le_of_ble_eq_true rfl)) dX12_isSide_3 ⟨Nat.zero_le _, Nat.zero_le _⟩) hS (fun q _ h => h.elim) (fun q h => h.elim) (fun r u t H1 locs ht hvm hw hB hz1 hq1 hS => ?_)
  obtain rfl := hw.symm
  refine W.widen (k := 0) (n := 0) (Nat.le_refl _) (Nat.le_refl _) ?_
  obtain ⟨hzq3, h⟩ := nif h
  have hzq3 := Decidable.not_not.mp hzq3
  obtain rfl := Option.some.inj h
  exact W.zret hx hb hr (nar01 hzq3) (fun t ht hW => ⟨⟨_, (), rfl, rfl, trivial⟩, hS.F ht⟩) hS.2.2 dX12_isSide_6
def fX12_times (p1 : Int32) (p2 : Int32) (p3 : Int32) (σ : QMem) : Option (Int32 × QMem) :=
  (fX12_isSlot p1).bind fun xq1 => (if xq1 = 0 then (some ((-1001), σ)) else ((fX12_isSlot p2).bind fun xq4 => (if xq4 = 0 then (some ((-1001), σ)) else ((fX12_isSide p3).bind fun xq7 => (if xq7 = 0 then (some ((-1002), σ)) else ((fX12_makes 13 (4 * p1) 13 (4 * p2) p3 19 σ).bind fun xq10 => ((fX12_norm p1 xq10).bind fun xq12 => ((fX12_norm p2 xq12.2).bind fun xq14 => (if 150 < (xq12.1 * xq14.1) then (some ((-1003), xq14.2)) else ((fX12_becomes p1 19 0 xq14.2).bind fun xq17 => (some (xq17.1, xq17.2))))))))))))
set_option maxHeartbeats 4000000 in
set_option maxRecDepth 100000 in
theorem kX12_times (l : Launch) (D : va_G) (G : xG) (σ : QMem) (p1 : Int32) (p2 : Int32) (p3 : Int32) (res : Int32 × QMem) (h : fX12_times p1 p2 p3 σ = some res) : Met l yX12_times (.code yX12_times cX12_times 4 (some .int) :: lwW) (rmD 3) (mPc D G σ [.ref (G.1 28), .int p1, .int p2, .int p3]) (mQi D G res) 0 0 (mA G) := by
  refine Met.ofW (cc := cX12_times) (maxL := 4) (ret := (some .int)) (by decide) rfl ?_
  intro p e s m args below meth c s₁ B hml hv
  obtain ⟨rfl, h0⟩ := hv
  have hx := B.exec
  have hb := B.bytes
  have hr := B.returns
  have hts := fun (w : Cond) (hw : w ∈ lwW) => atoms_spec (ws := (.code yX12_times cX12_times 4 (some .int) :: lwW)) B.pre w (List.mem_cons_of_mem _ hw)
  have hown : s.vm.findClass RX12 = some m.cls := findClass_of_methodNamed B.named
  have hlocks := B.notSynchronized
  have hP := h0.1
  have hK := h0.2.1
  have hi := h0.2.2
  have hS : va_S (mA G) s.heap s.heap [] := va_S.rf
  have hl := lv_entry ([.ref (G.1 28), .int p1, .int p2, .int p3]) (n := 4) (Nat.le_of_ble_eq_true rfl)
  rw [lg_entry_eq]
  generalize (lg_sl ([.ref (G.1 28), .int p1, .int p2, .int p3]) ++ List.replicate (4 - (lg_sl ([.ref (G.1 28), .int p1, .int p2, .int p3])).length) Slot.unset).toArray = ls at hl ⊢
  have hl : lv_has ls 4 [(0, .ref (G.1 28)), (1, .int p1), (2, .int p2), (3, .int p3)] := hl
  unfold fX12_times at h
  refine lv_iload_n hx hb dX12_times_0 rfl (lv_at hl 1 rfl) ?_
  obtain ⟨xq1, hfq2, h⟩ := obd h
  refine va_calli (va_runS (As := [.int p1]) (rest := []) ⟨hx, hb, hml, hown, hts⟩ (kX12_isSlot l p1 xq1 hfq2) (va_cwS 1 hts (lwW_gS mw_1066 mw_1067 mw_14 mw_1068) rfl rfl rfl (by decide +kernel) ⟨Nat.le_of_ble_eq_true rfl, Nat.le_of_ble_eq_true rfl⟩) ⟨fun a U g mk q => ⟨q.1, trivial⟩, fun U hU hW => ⟨rfl, trivial⟩⟩ rfl rfl hl.1 rfl (lv_room (Nat.le_of_ble_eq_true rfl)) dX12_times_1 ⟨Nat.zero_le _, Nat.zero_le _⟩) hS (fun q _ h => h.elim) (fun q h => h.elim) (fun r u t H1 locs ht hvm hw hB hz1 hq1 hS => ?_)
  obtain rfl := hw.symm
  have hP := mP_kept hP hq1
  refine W.widen (k := 0) (n := 0) (Nat.le_refl _) (Nat.le_refl _) ?_
  refine lv_if_eq (tgt := 14) hx hb dX12_times_4 (by decide) (fun hcq3 => ?_) (fun hcq3 => ?_)
  · have h := ifp hcq3 h
    refine lv_sipush (v := (-1001)) hx hb dX12_times_14 (by decide) ?_
    obtain rfl := Option.some.inj h
    exact W.iret (v := (-1001)) hx hb hr (fun t ht hW => ⟨⟨_, _, rfl, ⟨rfl, rfl⟩, mPre_at h0 hS hP ht hW⟩, hS.F ht⟩) hS.2.2 dX12_times_17
  have h := ifn hcq3 h
  refine lv_iload_n hx hb dX12_times_7 rfl (lv_at hl 2 rfl) ?_
  obtain ⟨xq4, hfq5, h⟩ := obd h
  refine va_calli (va_runS (As := [.int p2]) (rest := []) ⟨hx, hb, hml, hown, hts⟩ (kX12_isSlot l p2 xq4 hfq5) (va_cwS 1 hts (lwW_gS mw_1066 mw_1067 mw_14 mw_1068) rfl rfl rfl (by decide +kernel) ⟨Nat.le_of_ble_eq_true rfl, Nat.le_of_ble_eq_true rfl⟩) ⟨fun a U g mk q => ⟨q.1, trivial⟩, fun U hU hW => ⟨rfl, trivial⟩⟩ rfl rfl hl.1 rfl (lv_room (Nat.le_of_ble_eq_true rfl)) dX12_times_8 ⟨Nat.zero_le _, Nat.zero_le _⟩) hS (fun q _ h => h.elim) (fun q h => h.elim) (fun r u t H1 locs ht hvm hw hB hz1 hq1 hS => ?_)
  obtain rfl := hw.symm
  have hP := mP_kept hP hq1
  refine W.widen (k := 0) (n := 0) (Nat.le_refl _) (Nat.le_refl _) ?_
  refine lv_if_ne (tgt := 18) hx hb dX12_times_11 (by decide) (fun hcq6 => ?_) (fun hcq6 => ?_)
  · have h := ifn hcq6 h
    refine lv_iload_n hx hb dX12_times_18 rfl (lv_at hl 3 rfl) ?_
    obtain ⟨xq7, hfq8, h⟩ := obd h
    refine va_calli (va_runS (As := [.int p3]) (rest := []) ⟨hx, hb, hml, hown, hts⟩ (kX12_isSide l p3 xq7 hfq8) (va_cwS 1 hts (lwW_gS mw_1137 mw_1138 mw_14 mw_1139) rfl rfl rfl (by decide +kernel) ⟨Nat.le_of_ble_eq_true rfl, Nat.le_of_ble_eq_true rfl⟩) ⟨fun a U g mk q => ⟨q.1, trivial⟩, fun U hU hW => ⟨rfl, trivial⟩⟩ rfl rfl hl.1 rfl (lv_room (Nat.le_of_ble_eq_true rfl)) dX12_times_19 ⟨Nat.zero_le _, Nat.zero_le _⟩) hS (fun q _ h => h.elim) (fun q h => h.elim) (fun r u t H1 locs ht hvm hw hB hz1 hq1 hS => ?_)
    obtain rfl := hw.symm
    have hP := mP_kept hP hq1
    refine W.widen (k := 0) (n := 0) (Nat.le_refl _) (Nat.le_refl _) ?_
    refine lv_if_ne (tgt := 29) hx hb dX12_times_22 (by decide) (fun hcq9 => ?_) (fun hcq9 => ?_)
    · have h := ifn hcq9 h
      refine lv_aload_n hx hb dX12_times_29 rfl (lv_at hl 0 rfl) ?_
      refine va_get (D := D) (ci := 12) (v := .ref (G.1 13)) (C := RX12) (T := TX12) (N := 34) hx hb hts iwX12 hown hK hP 28 (mg_2 rfl) rfl 14 (by decide) (hts _ mw_972) (fun _ h9 => h9) rfl dX12_times_30 ?_
      refine lv_iconst (v := 4) hx hb dX12_times_33 (by decide) ?_
      refine lv_iload_n hx hb dX12_times_34 rfl (lv_at hl 1 rfl) ?_
      refine lv_imul hx hb dX12_times_35 ?_
      refine lv_aload_n hx hb dX12_times_36 rfl (lv_at hl 0 rfl) ?_
      refine va_get (D := D) (ci := 12) (v := .ref (G.1 13)) (C := RX12) (T := TX12) (N := 34) hx hb hts iwX12 hown hK hP 28 (mg_2 rfl) rfl 14 (by decide) (hts _ mw_972) (fun _ h9 => h9) rfl dX12_times_37 ?_
      refine lv_iconst (v := 4) hx hb dX12_times_40 (by decide) ?_
      refine lv_iload_n hx hb dX12_times_41 rfl (lv_at hl 2 rfl) ?_
      refine lv_imul hx hb dX12_times_42 ?_
      refine lv_iload_n hx hb dX12_times_43 rfl (lv_at hl 3 rfl) ?_
      refine lv_aload_n hx hb dX12_times_44 rfl (lv_at hl 0 rfl) ?_
      refine va_get (D := D) (ci := 12) (v := .ref (G.1 19)) (C := RX12) (T := TX12) (N := 34) hx hb hts iwX12 hown hK hP 28 (mg_2 rfl) rfl 21 (by decide) (hts _ mw_979) (fun _ h9 => h9) rfl dX12_times_45 ?_
      obtain ⟨xq10, hfq11, h⟩ := obd h
      refine va_callv (va_runS (As := [.ref (G.1 13), .int (4 * p1), .ref (G.1 13), .int (4 * p2), .int p3, .ref (G.1 19)]) (rest := []) ⟨hx, hb, hml, hown, hts⟩ (kX12_makes l D G _ 13 rfl (4 * p1) 13 rfl (4 * p2) p3 19 rfl xq10 hfq11) (va_cwS 6 hts (lwW_gS mw_942 mw_943 mw_14 mw_944) rfl rfl rfl (by decide +kernel) ⟨Nat.le_of_ble_eq_true rfl, Nat.le_of_ble_eq_true rfl⟩) ⟨fun a U g mk q => ⟨q.1, mPre_call q.2⟩, fun U hU hW => ⟨rfl, mPre_at h0 hS hP hU hW⟩⟩ rfl rfl hl.1 rfl (lv_room (Nat.le_of_ble_eq_true rfl)) dX12_times_48 ⟨Nat.zero_le _, Nat.zero_le _⟩) hS (fun q _ h => h) (fun q h => h) (fun u t H1 locs ht hvm hw hB hz1 hq1 hS => ?_)
      obtain rfl := hw.symm
      have hP := hB.1
      rw [ht] at hP
      refine W.widen (k := 0) (n := 0) (Nat.le_refl _) (Nat.le_refl _) ?_
      refine lv_aload_n hx hb dX12_times_51 rfl (lv_at hl 0 rfl) ?_
      refine lv_iload_n hx hb dX12_times_52 rfl (lv_at hl 1 rfl) ?_
      obtain ⟨xq12, hfq13, h⟩ := obd h
      refine va_calli (va_runV (As := [.int p1]) (rest := []) ⟨hx, hb, hml, hown, hts⟩ (kX12_norm l D G _ p1 xq12 hfq13) (cwV 1 hts (lwW_gV mw_1083 mw_1085 ms_31 mw_14 mw_1086) rfl rfl rfl (by decide +kernel) ⟨Nat.le_of_ble_eq_true rfl, Nat.le_of_ble_eq_true rfl⟩) ⟨fun a U g mk q => ⟨q.1, mPre_call q.2⟩, va_recv hK hP rfl (mg_2 rfl), fun U hU hW => ⟨rfl, mPre_at h0 hS hP hU hW⟩⟩ rfl rfl hl.1 rfl (lv_room (Nat.le_of_ble_eq_true rfl)) dX12_times_53 ⟨Nat.zero_le _, Nat.zero_le _⟩) hS (fun q _ h => h) (fun q h => h) (fun r u t H1 locs ht hvm hw hB hz1 hq1 hS => ?_)
      obtain ⟨rfl, rfl⟩ := hw
      have hP := hB.1
      rw [ht] at hP
      refine W.widen (k := 0) (n := 0) (Nat.le_refl _) (Nat.le_refl _) ?_
      refine lv_aload_n hx hb dX12_times_56 rfl (lv_at hl 0 rfl) ?_
      refine lv_iload_n hx hb dX12_times_57 rfl (lv_at hl 2 rfl) ?_
      obtain ⟨xq14, hfq15, h⟩ := obd h
      refine va_calli (va_runV (As := [.int p2]) (rest := [.int xq12.1]) ⟨hx, hb, hml, hown, hts⟩ (kX12_norm l D G _ p2 xq14 hfq15) (cwV 1 hts (lwW_gV mw_1083 mw_1085 ms_31 mw_14 mw_1086) rfl rfl rfl (by decide +kernel) ⟨Nat.le_of_ble_eq_true rfl, Nat.le_of_ble_eq_true rfl⟩) ⟨fun a U g mk q => ⟨q.1, mPre_call q.2⟩, va_recv hK hP rfl (mg_2 rfl), fun U hU hW => ⟨rfl, mPre_at h0 hS hP hU hW⟩⟩ rfl rfl hl.1 rfl (lv_room (Nat.le_of_ble_eq_true rfl)) dX12_times_58 ⟨Nat.zero_le _, Nat.zero_le _⟩) hS (fun q _ h => h) (fun q h => h) (fun r u t H1 locs ht hvm hw hB hz1 hq1 hS => ?_)
      obtain ⟨rfl, rfl⟩ := hw
      have hP := hB.1
      rw [ht] at hP
      refine W.widen (k := 0) (n := 0) (Nat.le_refl _) (Nat.le_refl _) ?_
      refine lv_imul hx hb dX12_times_61 ?_
      refine lv_sipush (v := 150) hx hb dX12_times_62 (by decide) ?_
      refine lv_icmp_gt (tgt := 81) hx hb dX12_times_65 (by decide) (fun hcq16 => ?_) (fun hcq16 => ?_)
      · have h := ifp hcq16 h
        refine lv_sipush (v := (-1003)) hx hb dX12_times_81 (by decide) ?_
        obtain rfl := Option.some.inj h
        exact W.iret (v := (-1003)) hx hb hr (fun t ht hW => ⟨⟨_, _, rfl, ⟨rfl, rfl⟩, mPre_at h0 hS hP ht hW⟩, hS.F ht⟩) hS.2.2 dX12_times_84
      have h := ifn hcq16 h
      refine lv_aload_n hx hb dX12_times_68 rfl (lv_at hl 0 rfl) ?_
      refine lv_iload_n hx hb dX12_times_69 rfl (lv_at hl 1 rfl) ?_
      refine lv_aload_n hx hb dX12_times_70 rfl (lv_at hl 0 rfl) ?_
      refine va_get (D := D) (ci := 12) (v := .ref (G.1 19)) (C := RX12) (T := TX12) (N := 34) hx hb hts iwX12 hown hK hP 28 (mg_2 rfl) rfl 21 (by decide) (hts _ mw_979) (fun _ h9 => h9) rfl dX12_times_71 ?_
      refine lv_iconst (v := 0) hx hb dX12_times_74 (by decide) ?_
      obtain ⟨xq17, hfq18, h⟩ := obd h
      refine va_calli (va_runV (As := [.int p1, .ref (G.1 19), .int 0]) (rest := []) ⟨hx, hb, hml, hown, hts⟩ (kX12_becomes l D G _ p1 19 rfl 0 xq17 hfq18) (cwV 3 hts (lwW_gV mw_1121 mw_1123 ms_37 mw_14 mw_1124) rfl rfl rfl (by decide +kernel) ⟨Nat.le_of_ble_eq_true rfl, Nat.le_of_ble_eq_true rfl⟩) ⟨fun a U g mk q => ⟨q.1, mPre_call q.2⟩, va_recv hK hP rfl (mg_2 rfl), fun U hU hW => ⟨rfl, mPre_at h0 hS hP hU hW⟩⟩ rfl rfl hl.1 rfl (lv_room (Nat.le_of_ble_eq_true rfl)) dX12_times_75 ⟨Nat.zero_le _, Nat.zero_le _⟩) hS (fun q _ h => h) (fun q h => h) (fun r u t H1 locs ht hvm hw hB hz1 hq1 hS => ?_)
      obtain ⟨rfl, rfl⟩ := hw
      have hP := hB.1
      rw [ht] at hP
      refine W.widen (k := 0) (n := 0) (Nat.le_refl _) (Nat.le_refl _) ?_
      refine lv_goto (tgt := 84) hx hb dX12_times_78 (by decide) ?_
      obtain rfl := Option.some.inj h
      exact W.iret (v := xq17.1) hx hb hr (fun t ht hW => ⟨⟨_, _, rfl, ⟨rfl, rfl⟩, mPre_at h0 hS hP ht hW⟩, hS.F ht⟩) hS.2.2 dX12_times_84
    have h := ifp hcq9 h
    refine lv_sipush (v := (-1002)) hx hb dX12_times_25 (by decide) ?_
    obtain rfl := Option.some.inj h
    exact W.iret (v := (-1002)) hx hb hr (fun t ht hW => ⟨⟨_, _, rfl, ⟨rfl, rfl⟩, mPre_at h0 hS hP ht hW⟩, hS.F ht⟩) hS.2.2 dX12_times_28
  have h := ifp hcq6 h
  refine lv_sipush (v := (-1001)) hx hb dX12_times_14 (by decide) ?_
  obtain rfl := Option.some.inj h
  exact W.iret (v := (-1001)) hx hb hr (fun t ht hW => ⟨⟨_, _, rfl, ⟨rfl, rfl⟩, mPre_at h0 hS hP ht hW⟩, hS.F ht⟩) hS.2.2 dX12_times_17
def fX12_heads_J74 (p1 : Int32) (p2 : Int32) (K17 : Int32 → QMem → Option (QMem)) (v3 : Int32) (τ : QMem) : Option (QMem) :=
  K17 (v3 + 1) τ
def fX12_heads_L17 (p1 : Int32) (p2 : Int32) : Nat → Int32 → QMem → Option (QMem)
  | 0, _, _ => none
  | n + 1, v3, τ =>
  if 24 ≤ v3 then (some τ) else ((fX12_makes 13 (4 * p1) 1 (4 * v3) p2 4 τ).bind fun xq2 => ((fX12_isGreater 4 0 19 0 xq2).bind fun xq4 => (if xq4.1 = 0 then (fX12_heads_J74 p1 p2 (fX12_heads_L17 p1 p2 n) v3 xq4.2) else ((fX12_copies 4 0 19 0 xq4.2).bind fun xq7 => (fX12_heads_J74 p1 p2 (fX12_heads_L17 p1 p2 n) v3 xq7)))))
def fX12_heads (p1 : Int32) (p2 : Int32) (σ : QMem) : Option (QMem) :=
  (fX12_copies 13 (4 * p1) 19 0 σ).bind fun xq9 => (fX12_heads_L17 p1 p2 FU 0 xq9)
set_option maxHeartbeats 4000000 in
set_option maxRecDepth 100000 in
theorem kX12_heads (l : Launch) (D : va_G) (G : xG) (σ : QMem) (p1 : Int32) (p2 : Int32) (res : QMem) (h : fX12_heads p1 p2 σ = some res) : Met l yX12_heads (.code yX12_heads cX12_heads 4 none :: lwW) (rmD 2) (mPc D G σ [.ref (G.1 28), .int p1, .int p2]) (mQv D G res) 0 0 (mA G) := by
  refine Met.ofW (cc := cX12_heads) (maxL := 4) (ret := none) (by decide) rfl ?_
  intro p e s m args below meth c s₁ B hml hv
  obtain ⟨rfl, h0⟩ := hv
  have hx := B.exec
  have hb := B.bytes
  have hr := B.returns
  have hts := fun (w : Cond) (hw : w ∈ lwW) => atoms_spec (ws := (.code yX12_heads cX12_heads 4 none :: lwW)) B.pre w (List.mem_cons_of_mem _ hw)
  have hown : s.vm.findClass RX12 = some m.cls := findClass_of_methodNamed B.named
  have hlocks := B.notSynchronized
  have hP := h0.1
  have hK := h0.2.1
  have hi := h0.2.2
  have hS : va_S (mA G) s.heap s.heap [] := va_S.rf
  have hl := lv_entry ([.ref (G.1 28), .int p1, .int p2]) (n := 4) (Nat.le_of_ble_eq_true rfl)
  rw [lg_entry_eq]
  generalize (lg_sl ([.ref (G.1 28), .int p1, .int p2]) ++ List.replicate (4 - (lg_sl ([.ref (G.1 28), .int p1, .int p2])).length) Slot.unset).toArray = ls at hl ⊢
  have hl : lv_has ls 4 [(0, .ref (G.1 28)), (1, .int p1), (2, .int p2)] := hl
  unfold fX12_heads at h
  have L17 : ∀ (n17 : Nat) (v3 : Int32) (τ : QMem) (H : Heap) (locs : List Loc) (ls : Array Slot), fX12_heads_L17 p1 p2 n17 v3 τ = some res → va_P D vwCl (mW G τ) H → va_S (mA G) s.heap H locs → lv_has ls 4 [(0, .ref (G.1 28)), (1, .int p1), (2, .int p2), (3, .int v3)] → W p l e (headSpec (.code yX12_heads cX12_heads 4 none :: lwW) (rmD 2)).room s m ([.ref (G.1 28), .int p1, .int p2] : List Value).toArray below meth c H locs 0 0 (MQ below (mQv D G res) ([.ref (G.1 28), .int p1, .int p2] : List Value).toArray s 0 0 (mA G)) (F0 m 17 ls []) := by
    intro n17
    induction n17 with
    | zero => intro v3 τ H locs ls h; rw [fX12_heads_L17] at h; cases h
    | succ n17 ih17 =>
      intro v3 τ H locs ls h hP hS hl
      rw [fX12_heads_L17] at h
      have J74 : ∀ (v3 : Int32) (τ : QMem) (H : Heap) (locs : List Loc) (ls : Array Slot), fX12_heads_J74 p1 p2 (fX12_heads_L17 p1 p2 n17) v3 τ = some res → va_P D vwCl (mW G τ) H → va_S (mA G) s.heap H locs → lv_has ls 4 [(0, .ref (G.1 28)), (1, .int p1), (2, .int p2), (3, .int v3)] → W p l e (headSpec (.code yX12_heads cX12_heads 4 none :: lwW) (rmD 2)).room s m ([.ref (G.1 28), .int p1, .int p2] : List Value).toArray below meth c H locs 0 0 (MQ below (mQv D G res) ([.ref (G.1 28), .int p1, .int p2] : List Value).toArray s 0 0 (mA G)) (F0 m 74 ls []) := by
        intro v3 τ H locs ls h hP hS hl
        unfold fX12_heads_J74 at h
        refine lv_iinc (v := v3 + 1) (lv' := [(3, .int (v3 + 1)), (0, .ref (G.1 28)), (1, .int p1), (2, .int p2)]) hx hb dX12_heads_74 hl (k := 3) rfl rfl (by decide) rfl (fun ls hl => ?_)
        refine lv_goto (tgt := 17) hx hb dX12_heads_77 (by decide) ?_
        exact ih17 (v3 + 1) _ _ _ _ h hP hS (lv_sub hl [1, 2, 3, 0] rfl)
      refine lv_iload_n hx hb dX12_heads_17 rfl (lv_at hl 3 rfl) ?_
      refine lv_bipush (v := 24) hx hb dX12_heads_18 (by decide) ?_
      refine lv_icmp_ge (tgt := 80) hx hb dX12_heads_20 (by decide) (fun hcq1 => ?_) (fun hcq1 => ?_)
      · have h := ifp hcq1 h
        obtain rfl := Option.some.inj h
        exact W.vret hx hb hr (fun t ht hW => ⟨⟨_, rfl, rfl, mPre_at h0 hS hP ht hW⟩, hS.F ht⟩) hS.2.2 dX12_heads_80
      have h := ifn hcq1 h
      refine lv_aload_n hx hb dX12_heads_23 rfl (lv_at hl 0 rfl) ?_
      refine va_get (D := D) (ci := 12) (v := .ref (G.1 13)) (C := RX12) (T := TX12) (N := 34) hx hb hts iwX12 hown hK hP 28 (mg_2 rfl) rfl 14 (by decide) (hts _ mw_972) (fun _ h9 => h9) rfl dX12_heads_24 ?_
      refine lv_iconst (v := 4) hx hb dX12_heads_27 (by decide) ?_
      refine lv_iload_n hx hb dX12_heads_28 rfl (lv_at hl 1 rfl) ?_
      refine lv_imul hx hb dX12_heads_29 ?_
      refine lv_aload_n hx hb dX12_heads_30 rfl (lv_at hl 0 rfl) ?_
      refine va_get (D := D) (ci := 12) (v := .ref (G.1 1)) (C := RX12) (T := TX12) (N := 34) hx hb hts iwX12 hown hK hP 28 (mg_2 rfl) rfl 1 (by decide) (hts _ mw_959) (fun _ h9 => h9) rfl dX12_heads_31 ?_
      refine lv_iconst (v := 4) hx hb dX12_heads_34 (by decide) ?_
      refine lv_iload_n hx hb dX12_heads_35 rfl (lv_at hl 3 rfl) ?_
      refine lv_imul hx hb dX12_heads_36 ?_
      refine lv_iload_n hx hb dX12_heads_37 rfl (lv_at hl 2 rfl) ?_
      refine lv_aload_n hx hb dX12_heads_38 rfl (lv_at hl 0 rfl) ?_
      refine va_get (D := D) (ci := 12) (v := .ref (G.1 4)) (C := RX12) (T := TX12) (N := 34) hx hb hts iwX12 hown hK hP 28 (mg_2 rfl) rfl 4 (by decide) (hts _ mw_962) (fun _ h9 => h9) rfl dX12_heads_39 ?_
      obtain ⟨xq2, hfq3, h⟩ := obd h
      refine va_callv (va_runS (As := [.ref (G.1 13), .int (4 * p1), .ref (G.1 1), .int (4 * v3), .int p2, .ref (G.1 4)]) (rest := []) ⟨hx, hb, hml, hown, hts⟩ (kX12_makes l D G _ 13 rfl (4 * p1) 1 rfl (4 * v3) p2 4 rfl xq2 hfq3) (va_cwS 6 hts (lwW_gS mw_942 mw_943 mw_14 mw_944) rfl rfl rfl (by decide +kernel) ⟨Nat.le_of_ble_eq_true rfl, Nat.le_of_ble_eq_true rfl⟩) ⟨fun a U g mk q => ⟨q.1, mPre_call q.2⟩, fun U hU hW => ⟨rfl, mPre_at h0 hS hP hU hW⟩⟩ rfl rfl hl.1 rfl (lv_room (Nat.le_of_ble_eq_true rfl)) dX12_heads_42 ⟨Nat.zero_le _, Nat.zero_le _⟩) hS (fun q _ h => h) (fun q h => h) (fun u t H1 locs ht hvm hw hB hz1 hq1 hS => ?_)
      obtain rfl := hw.symm
      have hP := hB.1
      rw [ht] at hP
      refine W.widen (k := 0) (n := 0) (Nat.le_refl _) (Nat.le_refl _) ?_
      refine lv_aload_n hx hb dX12_heads_45 rfl (lv_at hl 0 rfl) ?_
      refine va_get (D := D) (ci := 12) (v := .ref (G.1 4)) (C := RX12) (T := TX12) (N := 34) hx hb hts iwX12 hown hK hP 28 (mg_2 rfl) rfl 4 (by decide) (hts _ mw_962) (fun _ h9 => h9) rfl dX12_heads_46 ?_
      refine lv_iconst (v := 0) hx hb dX12_heads_49 (by decide) ?_
      refine lv_aload_n hx hb dX12_heads_50 rfl (lv_at hl 0 rfl) ?_
      refine va_get (D := D) (ci := 12) (v := .ref (G.1 19)) (C := RX12) (T := TX12) (N := 34) hx hb hts iwX12 hown hK hP 28 (mg_2 rfl) rfl 21 (by decide) (hts _ mw_979) (fun _ h9 => h9) rfl dX12_heads_51 ?_
      refine lv_iconst (v := 0) hx hb dX12_heads_54 (by decide) ?_
      obtain ⟨xq4, hfq5, h⟩ := obd h
      refine va_calli (va_runS (As := [.ref (G.1 4), .int 0, .ref (G.1 19), .int 0]) (rest := []) ⟨hx, hb, hml, hown, hts⟩ (kX12_isGreater l D G _ 4 rfl 0 19 rfl 0 xq4 hfq5) (va_cwS 4 hts (lwW_gS mw_952 mw_953 mw_14 mw_954) rfl rfl rfl (by decide +kernel) ⟨Nat.le_of_ble_eq_true rfl, Nat.le_of_ble_eq_true rfl⟩) ⟨fun a U g mk q => ⟨q.1, mPre_call q.2⟩, fun U hU hW => ⟨rfl, mPre_at h0 hS hP hU hW⟩⟩ rfl rfl hl.1 rfl (lv_room (Nat.le_of_ble_eq_true rfl)) dX12_heads_55 ⟨Nat.zero_le _, Nat.zero_le _⟩) hS (fun q _ h => h) (fun q h => h) (fun r u t H1 locs ht hvm hw hB hz1 hq1 hS => ?_)
      obtain ⟨rfl, rfl⟩ := hw
      have hP := hB.1
      rw [ht] at hP
      refine W.widen (k := 0) (n := 0) (Nat.le_refl _) (Nat.le_refl _) ?_
      refine lv_if_eq (tgt := 74) hx hb dX12_heads_58 (by decide) (fun hcq6 => ?_) (fun hcq6 => ?_)
      · have h := ifp hcq6 h
        exact J74 v3 _ _ _ _ h hP hS (lv_sub hl [0, 1, 2, 3] rfl)
      have h := ifn hcq6 h
      refine lv_aload_n hx hb dX12_heads_61 rfl (lv_at hl 0 rfl) ?_
      refine va_get (D := D) (ci := 12) (v := .ref (G.1 4)) (C := RX12) (T := TX12) (N := 34) hx hb hts iwX12 hown hK hP 28 (mg_2 rfl) rfl 4 (by decide) (hts _ mw_962) (fun _ h9 => h9) rfl dX12_heads_62 ?_
      refine lv_iconst (v := 0) hx hb dX12_heads_65 (by decide) ?_
      refine lv_aload_n hx hb dX12_heads_66 rfl (lv_at hl 0 rfl) ?_
      refine va_get (D := D) (ci := 12) (v := .ref (G.1 19)) (C := RX12) (T := TX12) (N := 34) hx hb hts iwX12 hown hK hP 28 (mg_2 rfl) rfl 21 (by decide) (hts _ mw_979) (fun _ h9 => h9) rfl dX12_heads_67 ?_
      refine lv_iconst (v := 0) hx hb dX12_heads_70 (by decide) ?_
      obtain ⟨xq7, hfq8, h⟩ := obd h
      refine va_callv (va_runS (As := [.ref (G.1 4), .int 0, .ref (G.1 19), .int 0]) (rest := []) ⟨hx, hb, hml, hown, hts⟩ (kX12_copies l D G _ 4 rfl 0 19 rfl 0 xq7 hfq8) (va_cwS 4 hts (lwW_gS mw_955 mw_956 mw_14 mw_957) rfl rfl rfl (by decide +kernel) ⟨Nat.le_of_ble_eq_true rfl, Nat.le_of_ble_eq_true rfl⟩) ⟨fun a U g mk q => ⟨q.1, mPre_call q.2⟩, fun U hU hW => ⟨rfl, mPre_at h0 hS hP hU hW⟩⟩ rfl rfl hl.1 rfl (lv_room (Nat.le_of_ble_eq_true rfl)) dX12_heads_71 ⟨Nat.zero_le _, Nat.zero_le _⟩) hS (fun q _ h => h) (fun q h => h) (fun u t H1 locs ht hvm hw hB hz1 hq1 hS => ?_)
      obtain rfl := hw.symm
      have hP := hB.1
      rw [ht] at hP
      refine W.widen (k := 0) (n := 0) (Nat.le_refl _) (Nat.le_refl _) ?_
      exact J74 v3 _ _ _ _ h hP hS (lv_sub hl [0, 1, 2, 3] rfl)
  refine lv_aload_n hx hb dX12_heads_0 rfl (lv_at hl 0 rfl) ?_
  refine va_get (D := D) (ci := 12) (v := .ref (G.1 13)) (C := RX12) (T := TX12) (N := 34) hx hb hts iwX12 hown hK hP 28 (mg_2 rfl) rfl 14 (by decide) (hts _ mw_972) (fun _ h9 => h9) rfl dX12_heads_1 ?_
  refine lv_iconst (v := 4) hx hb dX12_heads_4 (by decide) ?_
  refine lv_iload_n hx hb dX12_heads_5 rfl (lv_at hl 1 rfl) ?_
  refine lv_imul hx hb dX12_heads_6 ?_
  refine lv_aload_n hx hb dX12_heads_7 rfl (lv_at hl 0 rfl) ?_
  refine va_get (D := D) (ci := 12) (v := .ref (G.1 19)) (C := RX12) (T := TX12) (N := 34) hx hb hts iwX12 hown hK hP 28 (mg_2 rfl) rfl 21 (by decide) (hts _ mw_979) (fun _ h9 => h9) rfl dX12_heads_8 ?_
  refine lv_iconst (v := 0) hx hb dX12_heads_11 (by decide) ?_
  obtain ⟨xq9, hfq10, h⟩ := obd h
  refine va_callv (va_runS (As := [.ref (G.1 13), .int (4 * p1), .ref (G.1 19), .int 0]) (rest := []) ⟨hx, hb, hml, hown, hts⟩ (kX12_copies l D G _ 13 rfl (4 * p1) 19 rfl 0 xq9 hfq10) (va_cwS 4 hts (lwW_gS mw_955 mw_956 mw_14 mw_957) rfl rfl rfl (by decide +kernel) ⟨Nat.le_of_ble_eq_true rfl, Nat.le_of_ble_eq_true rfl⟩) ⟨fun a U g mk q => ⟨q.1, mPre_call q.2⟩, fun U hU hW => ⟨rfl, mPre_at h0 hS hP hU hW⟩⟩ rfl rfl hl.1 rfl (lv_room (Nat.le_of_ble_eq_true rfl)) dX12_heads_12 ⟨Nat.zero_le _, Nat.zero_le _⟩) hS (fun q _ h => h) (fun q h => h) (fun u t H1 locs ht hvm hw hB hz1 hq1 hS => ?_)
  obtain rfl := hw.symm
  have hP := hB.1
  rw [ht] at hP
  refine W.widen (k := 0) (n := 0) (Nat.le_refl _) (Nat.le_refl _) ?_
  refine lv_iconst (v := 0) hx hb dX12_heads_15 (by decide) ?_
  refine lv_istore_n (lv' := [(3, .int 0), (0, .ref (G.1 28)), (1, .int p1), (2, .int p2)]) hx hb dX12_heads_16 rfl hl (by decide) rfl (fun ls hl => ?_)
  exact L17 FU 0 _ _ _ _ h hP hS (lv_sub hl [1, 2, 3, 0] rfl)
def fX12_turn_J109 (p1 : Int32) (p2 : Int32)  (τ : QMem) : Option (Int32 × QMem) :=
  (fX12_becomes p1 19 0 τ).bind fun xq1 => (some (xq1.1, xq1.2))
def fX12_turn_L74 (p1 : Int32) (p2 : Int32) : Nat → Int32 → QMem → Option (Int32 × QMem)
  | 0, _, _ => none
  | n + 1, v3, τ =>
  if 4 ≤ v3 then (fX12_turn_J109 p1 p2 τ) else (if ((4 * p1) + v3 < 0 ∨ ml 13 ≤ ((4 * p1) + v3).toNatClampNeg) then none else (if (v3 < 0 ∨ ml 19 ≤ v3.toNatClampNeg) then none else ((fX12_turn_L74 p1 p2 n) (v3 + 1) (ms τ 19 v3.toNatClampNeg (-(τ 13 ((4 * p1) + v3).toNatClampNeg))))))
def fX12_turn (p1 : Int32) (p2 : Int32) (σ : QMem) : Option (Int32 × QMem) :=
  (fX12_isSlot p1).bind fun xq8 => (if xq8 = 0 then (some ((-1001), σ)) else (if p2 = 0 then ((fX12_conjugates 13 (4 * p1) 19 σ).bind fun xq12 => (fX12_turn_J109 p1 p2 xq12)) else (if p2 = 1 then ((fX12_heads p1 (p2 - 1) σ).bind fun xq15 => (fX12_turn_J109 p1 p2 xq15)) else (if p2 = 2 then ((fX12_heads p1 (p2 - 1) σ).bind fun xq18 => (fX12_turn_J109 p1 p2 xq18)) else (if p2 = 3 then (fX12_turn_L74 p1 p2 FU 0 σ) else (some ((-1002), σ)))))))
set_option maxHeartbeats 4000000 in
set_option maxRecDepth 100000 in
theorem kX12_turn (l : Launch) (D : va_G) (G : xG) (σ : QMem) (p1 : Int32) (p2 : Int32) (res : Int32 × QMem) (h : fX12_turn p1 p2 σ = some res) : Met l yX12_turn (.code yX12_turn cX12_turn 4 (some .int) :: lwW) (rmD 3) (mPc D G σ [.ref (G.1 28), .int p1, .int p2]) (mQi D G res) 0 0 (mA G) := by
  refine Met.ofW (cc := cX12_turn) (maxL := 4) (ret := (some .int)) (by decide) rfl ?_
  intro p e s m args below meth c s₁ B hml hv
  obtain ⟨rfl, h0⟩ := hv
  have hx := B.exec
  have hb := B.bytes
  have hr := B.returns
  have hts := fun (w : Cond) (hw : w ∈ lwW) => atoms_spec (ws := (.code yX12_turn cX12_turn 4 (some .int) :: lwW)) B.pre w (List.mem_cons_of_mem _ hw)
  have hown : s.vm.findClass RX12 = some m.cls := findClass_of_methodNamed B.named
  have hlocks := B.notSynchronized
  have hP := h0.1
  have hK := h0.2.1
  have hi := h0.2.2
  have hS : va_S (mA G) s.heap s.heap [] := va_S.rf
  have hl := lv_entry ([.ref (G.1 28), .int p1, .int p2]) (n := 4) (Nat.le_of_ble_eq_true rfl)
  rw [lg_entry_eq]
  generalize (lg_sl ([.ref (G.1 28), .int p1, .int p2]) ++ List.replicate (4 - (lg_sl ([.ref (G.1 28), .int p1, .int p2])).length) Slot.unset).toArray = ls at hl ⊢
  have hl : lv_has ls 4 [(0, .ref (G.1 28)), (1, .int p1), (2, .int p2)] := hl
  unfold fX12_turn at h
  have J109 : ∀ (τ : QMem) (H : Heap) (locs : List Loc) (ls : Array Slot), fX12_turn_J109 p1 p2 τ = some res → va_P D vwCl (mW G τ) H → va_S (mA G) s.heap H locs → lv_has ls 4 [(0, .ref (G.1 28)), (1, .int p1)] → W p l e (headSpec (.code yX12_turn cX12_turn 4 (some .int) :: lwW) (rmD 3)).room s m ([.ref (G.1 28), .int p1, .int p2] : List Value).toArray below meth c H locs 0 0 (MQ below (mQi D G res) ([.ref (G.1 28), .int p1, .int p2] : List Value).toArray s 0 0 (mA G)) (F0 m 109 ls []) := by
    intro τ H locs ls h hP hS hl
    unfold fX12_turn_J109 at h
    refine lv_aload_n hx hb dX12_turn_109 rfl (lv_at hl 0 rfl) ?_
    refine lv_iload_n hx hb dX12_turn_110 rfl (lv_at hl 1 rfl) ?_
    refine lv_aload_n hx hb dX12_turn_111 rfl (lv_at hl 0 rfl) ?_
    refine va_get (D := D) (ci := 12) (v := .ref (G.1 19)) (C := RX12) (T := TX12) (N := 34) hx hb hts iwX12 hown hK hP 28 (mg_2 rfl) rfl 21 (by decide) (hts _ mw_979) (fun _ h9 => h9) rfl dX12_turn_112 ?_
    refine lv_iconst (v := 0) hx hb dX12_turn_115 (by decide) ?_
    obtain ⟨xq3, hfq4, h⟩ := obd h
    refine va_calli (va_runV (As := [.int p1, .ref (G.1 19), .int 0]) (rest := []) ⟨hx, hb, hml, hown, hts⟩ (kX12_becomes l D G _ p1 19 rfl 0 xq3 hfq4) (cwV 3 hts (lwW_gV mw_1121 mw_1123 ms_37 mw_14 mw_1124) rfl rfl rfl (by decide +kernel) ⟨Nat.le_of_ble_eq_true rfl, Nat.le_of_ble_eq_true rfl⟩) ⟨fun a U g mk q => ⟨q.1, mPre_call q.2⟩, va_recv hK hP rfl (mg_2 rfl), fun U hU hW => ⟨rfl, mPre_at h0 hS hP hU hW⟩⟩ rfl rfl hl.1 rfl (lv_room (Nat.le_of_ble_eq_true rfl)) dX12_turn_116 ⟨Nat.zero_le _, Nat.zero_le _⟩) hS (fun q _ h => h) (fun q h => h) (fun r u t H1 locs ht hvm hw hB hz1 hq1 hS => ?_)
    obtain ⟨rfl, rfl⟩ := hw
    have hP := hB.1
    rw [ht] at hP
    refine W.widen (k := 0) (n := 0) (Nat.le_refl _) (Nat.le_refl _) ?_
    obtain rfl := Option.some.inj h
    exact W.iret (v := xq3.1) hx hb hr (fun t ht hW => ⟨⟨_, _, rfl, ⟨rfl, rfl⟩, mPre_at h0 hS hP ht hW⟩, hS.F ht⟩) hS.2.2 dX12_turn_119
  have L74 : ∀ (n74 : Nat) (v3 : Int32) (τ : QMem) (H : Heap) (locs : List Loc) (ls : Array Slot), fX12_turn_L74 p1 p2 n74 v3 τ = some res → va_P D vwCl (mW G τ) H → va_S (mA G) s.heap H locs → lv_has ls 4 [(0, .ref (G.1 28)), (1, .int p1), (3, .int v3)] → W p l e (headSpec (.code yX12_turn cX12_turn 4 (some .int) :: lwW) (rmD 3)).room s m ([.ref (G.1 28), .int p1, .int p2] : List Value).toArray below meth c H locs 0 0 (MQ below (mQi D G res) ([.ref (G.1 28), .int p1, .int p2] : List Value).toArray s 0 0 (mA G)) (F0 m 74 ls []) := by
    intro n74
    induction n74 with
    | zero => intro v3 τ H locs ls h; rw [fX12_turn_L74] at h; cases h
    | succ n74 ih74 =>
      intro v3 τ H locs ls h hP hS hl
      rw [fX12_turn_L74] at h
      refine lv_iload_n hx hb dX12_turn_74 rfl (lv_at hl 2 rfl) ?_
      refine lv_iconst (v := 4) hx hb dX12_turn_75 (by decide) ?_
      refine lv_icmp_ge (tgt := 102) hx hb dX12_turn_76 (by decide) (fun hcq5 => ?_) (fun hcq5 => ?_)
      · have h := ifp hcq5 h
        refine lv_goto (tgt := 109) hx hb dX12_turn_102 (by decide) ?_
        exact J109 _ _ _ _ h hP hS (lv_sub hl [0, 1] rfl)
      have h := ifn hcq5 h
      refine lv_aload_n hx hb dX12_turn_79 rfl (lv_at hl 0 rfl) ?_
      refine va_get (D := D) (ci := 12) (v := .ref (G.1 19)) (C := RX12) (T := TX12) (N := 34) hx hb hts iwX12 hown hK hP 28 (mg_2 rfl) rfl 21 (by decide) (hts _ mw_979) (fun _ h9 => h9) rfl dX12_turn_80 ?_
      refine lv_iload_n hx hb dX12_turn_83 rfl (lv_at hl 2 rfl) ?_
      refine lv_aload_n hx hb dX12_turn_84 rfl (lv_at hl 0 rfl) ?_
      refine va_get (D := D) (ci := 12) (v := .ref (G.1 13)) (C := RX12) (T := TX12) (N := 34) hx hb hts iwX12 hown hK hP 28 (mg_2 rfl) rfl 14 (by decide) (hts _ mw_972) (fun _ h9 => h9) rfl dX12_turn_85 ?_
      refine lv_iconst (v := 4) hx hb dX12_turn_88 (by decide) ?_
      refine lv_iload_n hx hb dX12_turn_89 rfl (lv_at hl 1 rfl) ?_
      refine lv_imul hx hb dX12_turn_90 ?_
      refine lv_iload_n hx hb dX12_turn_91 rfl (lv_at hl 2 rfl) ?_
      refine lv_iadd hx hb dX12_turn_92 ?_
      obtain ⟨hiq6, h⟩ := nif h
      refine va_iald hx hb hK hP 13 0 (mg_0 rfl) rfl hiq6 dX12_turn_93 ?_
      refine lv_ineg hx hb dX12_turn_94 ?_
      obtain ⟨hiq7, h⟩ := nif h
      refine va_iast hx hb hK hP (mD hi) hS 19 0 (mg_0 rfl) rfl hiq7 dX12_turn_95 (fun H locs hP hD hS => ?_)
      have hP : va_P D vwCl (mW G (ms τ 19 v3.toNatClampNeg (-(τ 13 ((4 * p1) + v3).toNatClampNeg)))) H := by rw [← ms_0x rfl]; exact hP
      refine lv_iinc (v := v3 + 1) (lv' := [(3, .int (v3 + 1)), (0, .ref (G.1 28)), (1, .int p1)]) hx hb dX12_turn_96 hl (k := 2) rfl rfl (by decide) rfl (fun ls hl => ?_)
      refine lv_goto (tgt := 74) hx hb dX12_turn_99 (by decide) ?_
      exact ih74 (v3 + 1) _ _ _ _ h hP hS (lv_sub hl [1, 2, 0] rfl)
  refine lv_iload_n hx hb dX12_turn_0 rfl (lv_at hl 1 rfl) ?_
  obtain ⟨xq8, hfq9, h⟩ := obd h
  refine va_calli (va_runS (As := [.int p1]) (rest := []) ⟨hx, hb, hml, hown, hts⟩ (kX12_isSlot l p1 xq8 hfq9) (va_cwS 1 hts (lwW_gS mw_1066 mw_1067 mw_14 mw_1068) rfl rfl rfl (by decide +kernel) ⟨Nat.le_of_ble_eq_true rfl, Nat.le_of_ble_eq_true rfl⟩) ⟨fun a U g mk q => ⟨q.1, trivial⟩, fun U hU hW => ⟨rfl, trivial⟩⟩ rfl rfl hl.1 rfl (lv_room (Nat.le_of_ble_eq_true rfl)) dX12_turn_1 ⟨Nat.zero_le _, Nat.zero_le _⟩) hS (fun q _ h => h.elim) (fun q h => h.elim) (fun r u t H1 locs ht hvm hw hB hz1 hq1 hS => ?_)
  obtain rfl := hw.symm
  have hP := mP_kept hP hq1
  refine W.widen (k := 0) (n := 0) (Nat.le_refl _) (Nat.le_refl _) ?_
  refine lv_if_ne (tgt := 11) hx hb dX12_turn_4 (by decide) (fun hcq10 => ?_) (fun hcq10 => ?_)
  · have h := ifn hcq10 h
    refine lv_iload_n hx hb dX12_turn_11 rfl (lv_at hl 2 rfl) ?_
    by_cases hcq11 : p2 = 0
    · have h := ifp hcq11 h
      refine lv_tableIn (off := 32) (tgt := 44) hx hb dX12_turn_12 (by rw [hcq11]; decide) (by rw [hcq11]; decide) (by rw [hcq11]; rfl) (by decide) ?_
      refine lv_aload_n hx hb dX12_turn_44 rfl (lv_at hl 0 rfl) ?_
      refine va_get (D := D) (ci := 12) (v := .ref (G.1 13)) (C := RX12) (T := TX12) (N := 34) hx hb hts iwX12 hown hK hP 28 (mg_2 rfl) rfl 14 (by decide) (hts _ mw_972) (fun _ h9 => h9) rfl dX12_turn_45 ?_
      refine lv_iconst (v := 4) hx hb dX12_turn_48 (by decide) ?_
      refine lv_iload_n hx hb dX12_turn_49 rfl (lv_at hl 1 rfl) ?_
      refine lv_imul hx hb dX12_turn_50 ?_
      refine lv_aload_n hx hb dX12_turn_51 rfl (lv_at hl 0 rfl) ?_
      refine va_get (D := D) (ci := 12) (v := .ref (G.1 19)) (C := RX12) (T := TX12) (N := 34) hx hb hts iwX12 hown hK hP 28 (mg_2 rfl) rfl 21 (by decide) (hts _ mw_979) (fun _ h9 => h9) rfl dX12_turn_52 ?_
      obtain ⟨xq12, hfq13, h⟩ := obd h
      refine va_callv (va_runS (As := [.ref (G.1 13), .int (4 * p1), .ref (G.1 19)]) (rest := []) ⟨hx, hb, hml, hown, hts⟩ (kX12_conjugates l D G _ 13 rfl (4 * p1) 19 rfl xq12 hfq13) (va_cwS 3 hts (lwW_gS mw_939 mw_940 mw_14 mw_941) rfl rfl rfl (by decide +kernel) ⟨Nat.le_of_ble_eq_true rfl, Nat.le_of_ble_eq_true rfl⟩) ⟨fun a U g mk q => ⟨q.1, mPre_call q.2⟩, fun U hU hW => ⟨rfl, mPre_at h0 hS hP hU hW⟩⟩ rfl rfl hl.1 rfl (lv_room (Nat.le_of_ble_eq_true rfl)) dX12_turn_55 ⟨Nat.zero_le _, Nat.zero_le _⟩) hS (fun q _ h => h) (fun q h => h) (fun u t H1 locs ht hvm hw hB hz1 hq1 hS => ?_)
      obtain rfl := hw.symm
      have hP := hB.1
      rw [ht] at hP
      refine W.widen (k := 0) (n := 0) (Nat.le_refl _) (Nat.le_refl _) ?_
      refine lv_goto (tgt := 109) hx hb dX12_turn_58 (by decide) ?_
      exact J109 _ _ _ _ h hP hS (lv_sub hl [0, 1] rfl)
    have h := ifn hcq11 h
    by_cases hcq14 : p2 = 1
    · have h := ifp hcq14 h
      refine lv_tableIn (off := 49) (tgt := 61) hx hb dX12_turn_12 (by rw [hcq14]; decide) (by rw [hcq14]; decide) (by rw [hcq14]; rfl) (by decide) ?_
      refine lv_aload_n hx hb dX12_turn_61 rfl (lv_at hl 0 rfl) ?_
      refine lv_iload_n hx hb dX12_turn_62 rfl (lv_at hl 1 rfl) ?_
      refine lv_iload_n hx hb dX12_turn_63 rfl (lv_at hl 2 rfl) ?_
      refine lv_iconst (v := 1) hx hb dX12_turn_64 (by decide) ?_
      refine lv_isub hx hb dX12_turn_65 ?_
      obtain ⟨xq15, hfq16, h⟩ := obd h
      refine va_callv (va_runV (As := [.int p1, .int (p2 - 1)]) (rest := []) ⟨hx, hb, hml, hown, hts⟩ (kX12_heads l D G _ p1 (p2 - 1) xq15 hfq16) (cwV 2 hts (lwW_gV mw_1144 mw_1146 ms_39 mw_14 mw_1147) rfl rfl rfl (by decide +kernel) ⟨Nat.le_of_ble_eq_true rfl, Nat.le_of_ble_eq_true rfl⟩) ⟨fun a U g mk q => ⟨q.1, mPre_call q.2⟩, va_recv hK hP rfl (mg_2 rfl), fun U hU hW => ⟨rfl, mPre_at h0 hS hP hU hW⟩⟩ rfl rfl hl.1 rfl (lv_room (Nat.le_of_ble_eq_true rfl)) dX12_turn_66 ⟨Nat.zero_le _, Nat.zero_le _⟩) hS (fun q _ h => h) (fun q h => h) (fun u t H1 locs ht hvm hw hB hz1 hq1 hS => ?_)
      obtain rfl := hw.symm
      have hP := hB.1
      rw [ht] at hP
      refine W.widen (k := 0) (n := 0) (Nat.le_refl _) (Nat.le_refl _) ?_
      refine lv_goto (tgt := 109) hx hb dX12_turn_69 (by decide) ?_
      exact J109 _ _ _ _ h hP hS (lv_sub hl [0, 1] rfl)
    have h := ifn hcq14 h
    by_cases hcq17 : p2 = 2
    · have h := ifp hcq17 h
      refine lv_tableIn (off := 49) (tgt := 61) hx hb dX12_turn_12 (by rw [hcq17]; decide) (by rw [hcq17]; decide) (by rw [hcq17]; rfl) (by decide) ?_
      refine lv_aload_n hx hb dX12_turn_61 rfl (lv_at hl 0 rfl) ?_
      refine lv_iload_n hx hb dX12_turn_62 rfl (lv_at hl 1 rfl) ?_
      refine lv_iload_n hx hb dX12_turn_63 rfl (lv_at hl 2 rfl) ?_
      refine lv_iconst (v := 1) hx hb dX12_turn_64 (by decide) ?_
      refine lv_isub hx hb dX12_turn_65 ?_
      obtain ⟨xq18, hfq19, h⟩ := obd h
      refine va_callv (va_runV (As := [.int p1, .int (p2 - 1)]) (rest := []) ⟨hx, hb, hml, hown, hts⟩ (kX12_heads l D G _ p1 (p2 - 1) xq18 hfq19) (cwV 2 hts (lwW_gV mw_1144 mw_1146 ms_39 mw_14 mw_1147) rfl rfl rfl (by decide +kernel) ⟨Nat.le_of_ble_eq_true rfl, Nat.le_of_ble_eq_true rfl⟩) ⟨fun a U g mk q => ⟨q.1, mPre_call q.2⟩, va_recv hK hP rfl (mg_2 rfl), fun U hU hW => ⟨rfl, mPre_at h0 hS hP hU hW⟩⟩ rfl rfl hl.1 rfl (lv_room (Nat.le_of_ble_eq_true rfl)) dX12_turn_66 ⟨Nat.zero_le _, Nat.zero_le _⟩) hS (fun q _ h => h) (fun q h => h) (fun u t H1 locs ht hvm hw hB hz1 hq1 hS => ?_)
      obtain rfl := hw.symm
      have hP := hB.1
      rw [ht] at hP
      refine W.widen (k := 0) (n := 0) (Nat.le_refl _) (Nat.le_refl _) ?_
      refine lv_goto (tgt := 109) hx hb dX12_turn_69 (by decide) ?_
      exact J109 _ _ _ _ h hP hS (lv_sub hl [0, 1] rfl)
    have h := ifn hcq17 h
    by_cases hcq20 : p2 = 3
    · have h := ifp hcq20 h
      refine lv_tableIn (off := 60) (tgt := 72) hx hb dX12_turn_12 (by rw [hcq20]; decide) (by rw [hcq20]; decide) (by rw [hcq20]; rfl) (by decide) ?_
      refine lv_iconst (v := 0) hx hb dX12_turn_72 (by decide) ?_
      refine lv_istore_n (lv' := [(3, .int 0), (0, .ref (G.1 28)), (1, .int p1), (2, .int p2)]) hx hb dX12_turn_73 rfl hl (by decide) rfl (fun ls hl => ?_)
      exact L74 FU 0 _ _ _ _ h hP hS (lv_sub hl [1, 2, 0] rfl)
    have h := ifn hcq20 h
    refine lv_tableOut (tgt := 105) hx hb dX12_turn_12 (by have t0 := toI_ne hcq11; have t1 := toI_ne hcq14; have t2 := toI_ne hcq17; have t3 := toI_ne hcq20; rw [show (0 : Int32).toInt = 0 from by decide] at t0; rw [show (1 : Int32).toInt = 1 from by decide] at t1; rw [show (2 : Int32).toInt = 2 from by decide] at t2; rw [show (3 : Int32).toInt = 3 from by decide] at t3; omega) (by decide) ?_
    refine lv_sipush (v := (-1002)) hx hb dX12_turn_105 (by decide) ?_
    obtain rfl := Option.some.inj h
    exact W.iret (v := (-1002)) hx hb hr (fun t ht hW => ⟨⟨_, _, rfl, ⟨rfl, rfl⟩, mPre_at h0 hS hP ht hW⟩, hS.F ht⟩) hS.2.2 dX12_turn_108
  have h := ifp hcq10 h
  refine lv_sipush (v := (-1001)) hx hb dX12_turn_7 (by decide) ?_
  obtain rfl := Option.some.inj h
  exact W.iret (v := (-1001)) hx hb hr (fun t ht hW => ⟨⟨_, _, rfl, ⟨rfl, rfl⟩, mPre_at h0 hS hP ht hW⟩, hS.F ht⟩) hS.2.2 dX12_turn_10
def fX12_divide (p1 : Int32) (p2 : Int32) (p3 : Int32) (p4 : Int32) (σ : QMem) : Option (Int32 × QMem) :=
  (fX12_isSlot p1).bind fun xq1 => (if xq1 = 0 then (some ((-1001), σ)) else ((fX12_isSlot p2).bind fun xq4 => (if xq4 = 0 then (some ((-1001), σ)) else ((fX12_in p3 0 1).bind fun xq7 => (if xq7 = 0 then (some ((-1002), σ)) else ((fX12_isSide p4).bind fun xq10 => (if xq10 = 0 then (some ((-1002), σ)) else ((fX12_isEmpty p2 σ).bind fun xq13 => (if xq13.1 = 0 then ((fX12_laysNearest 13 (4 * p1) 13 (4 * p2) p4 xq13.2).bind fun xq16 => (if p3 = 0 then ((fX12_becomes p1 8 0 xq16).bind fun xq21 => (some (xq21.1, xq21.2))) else ((fX12_becomes p1 9 0 xq16).bind fun xq19 => (some (xq19.1, xq19.2))))) else (some ((-1003), xq13.2)))))))))))
set_option maxHeartbeats 4000000 in
set_option maxRecDepth 100000 in
theorem kX12_divide (l : Launch) (D : va_G) (G : xG) (σ : QMem) (p1 : Int32) (p2 : Int32) (p3 : Int32) (p4 : Int32) (res : Int32 × QMem) (h : fX12_divide p1 p2 p3 p4 σ = some res) : Met l yX12_divide (.code yX12_divide cX12_divide 5 (some .int) :: lwW) (rmD 4) (mPc D G σ [.ref (G.1 28), .int p1, .int p2, .int p3, .int p4]) (mQi D G res) 0 0 (mA G) := by
  refine Met.ofW (cc := cX12_divide) (maxL := 5) (ret := (some .int)) (by decide) rfl ?_
  intro p e s m args below meth c s₁ B hml hv
  obtain ⟨rfl, h0⟩ := hv
  have hx := B.exec
  have hb := B.bytes
  have hr := B.returns
  have hts := fun (w : Cond) (hw : w ∈ lwW) => atoms_spec (ws := (.code yX12_divide cX12_divide 5 (some .int) :: lwW)) B.pre w (List.mem_cons_of_mem _ hw)
  have hown : s.vm.findClass RX12 = some m.cls := findClass_of_methodNamed B.named
  have hlocks := B.notSynchronized
  have hP := h0.1
  have hK := h0.2.1
  have hi := h0.2.2
  have hS : va_S (mA G) s.heap s.heap [] := va_S.rf
  have hl := lv_entry ([.ref (G.1 28), .int p1, .int p2, .int p3, .int p4]) (n := 5) (Nat.le_of_ble_eq_true rfl)
  rw [lg_entry_eq]
  generalize (lg_sl ([.ref (G.1 28), .int p1, .int p2, .int p3, .int p4]) ++ List.replicate (5 - (lg_sl ([.ref (G.1 28), .int p1, .int p2, .int p3, .int p4])).length) Slot.unset).toArray = ls at hl ⊢
  have hl : lv_has ls 5 [(0, .ref (G.1 28)), (1, .int p1), (2, .int p2), (3, .int p3), (4, .int p4)] := hl
  unfold fX12_divide at h
  refine lv_iload_n hx hb dX12_divide_0 rfl (lv_at hl 1 rfl) ?_
  obtain ⟨xq1, hfq2, h⟩ := obd h
  refine va_calli (va_runS (As := [.int p1]) (rest := []) ⟨hx, hb, hml, hown, hts⟩ (kX12_isSlot l p1 xq1 hfq2) (va_cwS 1 hts (lwW_gS mw_1066 mw_1067 mw_14 mw_1068) rfl rfl rfl (by decide +kernel) ⟨Nat.le_of_ble_eq_true rfl, Nat.le_of_ble_eq_true rfl⟩) ⟨fun a U g mk q => ⟨q.1, trivial⟩, fun U hU hW => ⟨rfl, trivial⟩⟩ rfl rfl hl.1 rfl (lv_room (Nat.le_of_ble_eq_true rfl)) dX12_divide_1 ⟨Nat.zero_le _, Nat.zero_le _⟩) hS (fun q _ h => h.elim) (fun q h => h.elim) (fun r u t H1 locs ht hvm hw hB hz1 hq1 hS => ?_)
  obtain rfl := hw.symm
  have hP := mP_kept hP hq1
  refine W.widen (k := 0) (n := 0) (Nat.le_refl _) (Nat.le_refl _) ?_
  refine lv_if_eq (tgt := 14) hx hb dX12_divide_4 (by decide) (fun hcq3 => ?_) (fun hcq3 => ?_)
  · have h := ifp hcq3 h
    refine lv_sipush (v := (-1001)) hx hb dX12_divide_14 (by decide) ?_
    obtain rfl := Option.some.inj h
    exact W.iret (v := (-1001)) hx hb hr (fun t ht hW => ⟨⟨_, _, rfl, ⟨rfl, rfl⟩, mPre_at h0 hS hP ht hW⟩, hS.F ht⟩) hS.2.2 dX12_divide_17
  have h := ifn hcq3 h
  refine lv_iload_n hx hb dX12_divide_7 rfl (lv_at hl 2 rfl) ?_
  obtain ⟨xq4, hfq5, h⟩ := obd h
  refine va_calli (va_runS (As := [.int p2]) (rest := []) ⟨hx, hb, hml, hown, hts⟩ (kX12_isSlot l p2 xq4 hfq5) (va_cwS 1 hts (lwW_gS mw_1066 mw_1067 mw_14 mw_1068) rfl rfl rfl (by decide +kernel) ⟨Nat.le_of_ble_eq_true rfl, Nat.le_of_ble_eq_true rfl⟩) ⟨fun a U g mk q => ⟨q.1, trivial⟩, fun U hU hW => ⟨rfl, trivial⟩⟩ rfl rfl hl.1 rfl (lv_room (Nat.le_of_ble_eq_true rfl)) dX12_divide_8 ⟨Nat.zero_le _, Nat.zero_le _⟩) hS (fun q _ h => h.elim) (fun q h => h.elim) (fun r u t H1 locs ht hvm hw hB hz1 hq1 hS => ?_)
  obtain rfl := hw.symm
  have hP := mP_kept hP hq1
  refine W.widen (k := 0) (n := 0) (Nat.le_refl _) (Nat.le_refl _) ?_
  refine lv_if_ne (tgt := 18) hx hb dX12_divide_11 (by decide) (fun hcq6 => ?_) (fun hcq6 => ?_)
  · have h := ifn hcq6 h
    refine lv_iload_n hx hb dX12_divide_18 rfl (lv_at hl 3 rfl) ?_
    refine lv_iconst (v := 0) hx hb dX12_divide_19 (by decide) ?_
    refine lv_iconst (v := 1) hx hb dX12_divide_20 (by decide) ?_
    obtain ⟨xq7, hfq8, h⟩ := obd h
    refine va_calli (va_runS (As := [.int p3, .int 0, .int 1]) (rest := []) ⟨hx, hb, hml, hown, hts⟩ (kX12_in l p3 0 1 xq7 hfq8) (va_cwS 3 hts (lwW_gS mw_1069 mw_1070 mw_14 mw_1071) rfl rfl rfl (by decide +kernel) ⟨Nat.le_of_ble_eq_true rfl, Nat.le_of_ble_eq_true rfl⟩) ⟨fun a U g mk q => ⟨q.1, trivial⟩, fun U hU hW => ⟨rfl, trivial⟩⟩ rfl rfl hl.1 rfl (lv_room (Nat.le_of_ble_eq_true rfl)) dX12_divide_21 ⟨Nat.zero_le _, Nat.zero_le _⟩) hS (fun q _ h => h.elim) (fun q h => h.elim) (fun r u t H1 locs ht hvm hw hB hz1 hq1 hS => ?_)
    obtain rfl := hw.symm
    have hP := mP_kept hP hq1
    refine W.widen (k := 0) (n := 0) (Nat.le_refl _) (Nat.le_refl _) ?_
    refine lv_if_eq (tgt := 35) hx hb dX12_divide_24 (by decide) (fun hcq9 => ?_) (fun hcq9 => ?_)
    · have h := ifp hcq9 h
      refine lv_sipush (v := (-1002)) hx hb dX12_divide_35 (by decide) ?_
      obtain rfl := Option.some.inj h
      exact W.iret (v := (-1002)) hx hb hr (fun t ht hW => ⟨⟨_, _, rfl, ⟨rfl, rfl⟩, mPre_at h0 hS hP ht hW⟩, hS.F ht⟩) hS.2.2 dX12_divide_38
    have h := ifn hcq9 h
    refine lv_iload hx hb dX12_divide_27 (lv_at hl 4 rfl) ?_
    obtain ⟨xq10, hfq11, h⟩ := obd h
    refine va_calli (va_runS (As := [.int p4]) (rest := []) ⟨hx, hb, hml, hown, hts⟩ (kX12_isSide l p4 xq10 hfq11) (va_cwS 1 hts (lwW_gS mw_1137 mw_1138 mw_14 mw_1139) rfl rfl rfl (by decide +kernel) ⟨Nat.le_of_ble_eq_true rfl, Nat.le_of_ble_eq_true rfl⟩) ⟨fun a U g mk q => ⟨q.1, trivial⟩, fun U hU hW => ⟨rfl, trivial⟩⟩ rfl rfl hl.1 rfl (lv_room (Nat.le_of_ble_eq_true rfl)) dX12_divide_29 ⟨Nat.zero_le _, Nat.zero_le _⟩) hS (fun q _ h => h.elim) (fun q h => h.elim) (fun r u t H1 locs ht hvm hw hB hz1 hq1 hS => ?_)
    obtain rfl := hw.symm
    have hP := mP_kept hP hq1
    refine W.widen (k := 0) (n := 0) (Nat.le_refl _) (Nat.le_refl _) ?_
    refine lv_if_ne (tgt := 39) hx hb dX12_divide_32 (by decide) (fun hcq12 => ?_) (fun hcq12 => ?_)
    · have h := ifn hcq12 h
      refine lv_aload_n hx hb dX12_divide_39 rfl (lv_at hl 0 rfl) ?_
      refine lv_iload_n hx hb dX12_divide_40 rfl (lv_at hl 2 rfl) ?_
      obtain ⟨xq13, hfq14, h⟩ := obd h
      refine va_calli (va_runV (As := [.int p2]) (rest := []) ⟨hx, hb, hml, hown, hts⟩ (kX12_isEmpty l D G _ p2 xq13 hfq14) (cwV 1 hts (lwW_gV mw_1076 mw_1078 ms_30 mw_14 mw_1079) rfl rfl rfl (by decide +kernel) ⟨Nat.le_of_ble_eq_true rfl, Nat.le_of_ble_eq_true rfl⟩) ⟨fun a U g mk q => ⟨q.1, mPre_call q.2⟩, va_recv hK hP rfl (mg_2 rfl), fun U hU hW => ⟨rfl, mPre_at h0 hS hP hU hW⟩⟩ rfl rfl hl.1 rfl (lv_room (Nat.le_of_ble_eq_true rfl)) dX12_divide_41 ⟨Nat.zero_le _, Nat.zero_le _⟩) hS (fun q _ h => h) (fun q h => h) (fun r u t H1 locs ht hvm hw hB hz1 hq1 hS => ?_)
      obtain ⟨rfl, rfl⟩ := hw
      have hP := hB.1
      rw [ht] at hP
      refine W.widen (k := 0) (n := 0) (Nat.le_refl _) (Nat.le_refl _) ?_
      refine lv_if_eq (tgt := 51) hx hb dX12_divide_44 (by decide) (fun hcq15 => ?_) (fun hcq15 => ?_)
      · have h := ifp hcq15 h
        refine lv_aload_n hx hb dX12_divide_51 rfl (lv_at hl 0 rfl) ?_
        refine lv_aload_n hx hb dX12_divide_52 rfl (lv_at hl 0 rfl) ?_
        refine va_get (D := D) (ci := 12) (v := .ref (G.1 13)) (C := RX12) (T := TX12) (N := 34) hx hb hts iwX12 hown hK hP 28 (mg_2 rfl) rfl 14 (by decide) (hts _ mw_972) (fun _ h9 => h9) rfl dX12_divide_53 ?_
        refine lv_iconst (v := 4) hx hb dX12_divide_56 (by decide) ?_
        refine lv_iload_n hx hb dX12_divide_57 rfl (lv_at hl 1 rfl) ?_
        refine lv_imul hx hb dX12_divide_58 ?_
        refine lv_aload_n hx hb dX12_divide_59 rfl (lv_at hl 0 rfl) ?_
        refine va_get (D := D) (ci := 12) (v := .ref (G.1 13)) (C := RX12) (T := TX12) (N := 34) hx hb hts iwX12 hown hK hP 28 (mg_2 rfl) rfl 14 (by decide) (hts _ mw_972) (fun _ h9 => h9) rfl dX12_divide_60 ?_
        refine lv_iconst (v := 4) hx hb dX12_divide_63 (by decide) ?_
        refine lv_iload_n hx hb dX12_divide_64 rfl (lv_at hl 2 rfl) ?_
        refine lv_imul hx hb dX12_divide_65 ?_
        refine lv_iload hx hb dX12_divide_66 (lv_at hl 4 rfl) ?_
        obtain ⟨xq16, hfq17, h⟩ := obd h
        refine va_callv (va_runV (As := [.ref (G.1 13), .int (4 * p1), .ref (G.1 13), .int (4 * p2), .int p4]) (rest := []) ⟨hx, hb, hml, hown, hts⟩ (kX12_laysNearest l D G _ 13 rfl (4 * p1) 13 rfl (4 * p2) p4 xq16 hfq17) (cwV 5 hts (lwW_gV mw_1152 mw_1154 ms_40 mw_14 mw_1155) rfl rfl rfl (by decide +kernel) ⟨Nat.le_of_ble_eq_true rfl, Nat.le_of_ble_eq_true rfl⟩) ⟨fun a U g mk q => ⟨q.1, mPre_call q.2⟩, va_recv hK hP rfl (mg_2 rfl), fun U hU hW => ⟨rfl, mPre_at h0 hS hP hU hW⟩⟩ rfl rfl hl.1 rfl (lv_room (Nat.le_of_ble_eq_true rfl)) dX12_divide_68 ⟨Nat.zero_le _, Nat.zero_le _⟩) hS (fun q _ h => h) (fun q h => h) (fun u t H1 locs ht hvm hw hB hz1 hq1 hS => ?_)
        obtain rfl := hw.symm
        have hP := hB.1
        rw [ht] at hP
        refine W.widen (k := 0) (n := 0) (Nat.le_refl _) (Nat.le_refl _) ?_
        refine lv_iload_n hx hb dX12_divide_71 rfl (lv_at hl 3 rfl) ?_
        refine lv_if_ne (tgt := 88) hx hb dX12_divide_72 (by decide) (fun hcq18 => ?_) (fun hcq18 => ?_)
        · have h := ifn hcq18 h
          refine lv_aload_n hx hb dX12_divide_88 rfl (lv_at hl 0 rfl) ?_
          refine lv_iload_n hx hb dX12_divide_89 rfl (lv_at hl 1 rfl) ?_
          refine lv_aload_n hx hb dX12_divide_90 rfl (lv_at hl 0 rfl) ?_
          refine va_get (D := D) (ci := 12) (v := .ref (G.1 9)) (C := RX12) (T := TX12) (N := 34) hx hb hts iwX12 hown hK hP 28 (mg_2 rfl) rfl 10 (by decide) (hts _ mw_968) (fun _ h9 => h9) rfl dX12_divide_91 ?_
          refine lv_iconst (v := 0) hx hb dX12_divide_94 (by decide) ?_
          obtain ⟨xq19, hfq20, h⟩ := obd h
          refine va_calli (va_runV (As := [.int p1, .ref (G.1 9), .int 0]) (rest := []) ⟨hx, hb, hml, hown, hts⟩ (kX12_becomes l D G _ p1 9 rfl 0 xq19 hfq20) (cwV 3 hts (lwW_gV mw_1121 mw_1123 ms_37 mw_14 mw_1124) rfl rfl rfl (by decide +kernel) ⟨Nat.le_of_ble_eq_true rfl, Nat.le_of_ble_eq_true rfl⟩) ⟨fun a U g mk q => ⟨q.1, mPre_call q.2⟩, va_recv hK hP rfl (mg_2 rfl), fun U hU hW => ⟨rfl, mPre_at h0 hS hP hU hW⟩⟩ rfl rfl hl.1 rfl (lv_room (Nat.le_of_ble_eq_true rfl)) dX12_divide_95 ⟨Nat.zero_le _, Nat.zero_le _⟩) hS (fun q _ h => h) (fun q h => h) (fun r u t H1 locs ht hvm hw hB hz1 hq1 hS => ?_)
          obtain ⟨rfl, rfl⟩ := hw
          have hP := hB.1
          rw [ht] at hP
          refine W.widen (k := 0) (n := 0) (Nat.le_refl _) (Nat.le_refl _) ?_
          obtain rfl := Option.some.inj h
          exact W.iret (v := xq19.1) hx hb hr (fun t ht hW => ⟨⟨_, _, rfl, ⟨rfl, rfl⟩, mPre_at h0 hS hP ht hW⟩, hS.F ht⟩) hS.2.2 dX12_divide_98
        have h := ifp hcq18 h
        refine lv_aload_n hx hb dX12_divide_75 rfl (lv_at hl 0 rfl) ?_
        refine lv_iload_n hx hb dX12_divide_76 rfl (lv_at hl 1 rfl) ?_
        refine lv_aload_n hx hb dX12_divide_77 rfl (lv_at hl 0 rfl) ?_
        refine va_get (D := D) (ci := 12) (v := .ref (G.1 8)) (C := RX12) (T := TX12) (N := 34) hx hb hts iwX12 hown hK hP 28 (mg_2 rfl) rfl 9 (by decide) (hts _ mw_967) (fun _ h9 => h9) rfl dX12_divide_78 ?_
        refine lv_iconst (v := 0) hx hb dX12_divide_81 (by decide) ?_
        obtain ⟨xq21, hfq22, h⟩ := obd h
        refine va_calli (va_runV (As := [.int p1, .ref (G.1 8), .int 0]) (rest := []) ⟨hx, hb, hml, hown, hts⟩ (kX12_becomes l D G _ p1 8 rfl 0 xq21 hfq22) (cwV 3 hts (lwW_gV mw_1121 mw_1123 ms_37 mw_14 mw_1124) rfl rfl rfl (by decide +kernel) ⟨Nat.le_of_ble_eq_true rfl, Nat.le_of_ble_eq_true rfl⟩) ⟨fun a U g mk q => ⟨q.1, mPre_call q.2⟩, va_recv hK hP rfl (mg_2 rfl), fun U hU hW => ⟨rfl, mPre_at h0 hS hP hU hW⟩⟩ rfl rfl hl.1 rfl (lv_room (Nat.le_of_ble_eq_true rfl)) dX12_divide_82 ⟨Nat.zero_le _, Nat.zero_le _⟩) hS (fun q _ h => h) (fun q h => h) (fun r u t H1 locs ht hvm hw hB hz1 hq1 hS => ?_)
        obtain ⟨rfl, rfl⟩ := hw
        have hP := hB.1
        rw [ht] at hP
        refine W.widen (k := 0) (n := 0) (Nat.le_refl _) (Nat.le_refl _) ?_
        refine lv_goto (tgt := 98) hx hb dX12_divide_85 (by decide) ?_
        obtain rfl := Option.some.inj h
        exact W.iret (v := xq21.1) hx hb hr (fun t ht hW => ⟨⟨_, _, rfl, ⟨rfl, rfl⟩, mPre_at h0 hS hP ht hW⟩, hS.F ht⟩) hS.2.2 dX12_divide_98
      have h := ifn hcq15 h
      refine lv_sipush (v := (-1003)) hx hb dX12_divide_47 (by decide) ?_
      obtain rfl := Option.some.inj h
      exact W.iret (v := (-1003)) hx hb hr (fun t ht hW => ⟨⟨_, _, rfl, ⟨rfl, rfl⟩, mPre_at h0 hS hP ht hW⟩, hS.F ht⟩) hS.2.2 dX12_divide_50
    have h := ifp hcq12 h
    refine lv_sipush (v := (-1002)) hx hb dX12_divide_35 (by decide) ?_
    obtain rfl := Option.some.inj h
    exact W.iret (v := (-1002)) hx hb hr (fun t ht hW => ⟨⟨_, _, rfl, ⟨rfl, rfl⟩, mPre_at h0 hS hP ht hW⟩, hS.F ht⟩) hS.2.2 dX12_divide_38
  have h := ifp hcq6 h
  refine lv_sipush (v := (-1001)) hx hb dX12_divide_14 (by decide) ?_
  obtain rfl := Option.some.inj h
  exact W.iret (v := (-1001)) hx hb hr (fun t ht hW => ⟨⟨_, _, rfl, ⟨rfl, rfl⟩, mPre_at h0 hS hP ht hW⟩, hS.F ht⟩) hS.2.2 dX12_divide_17
def fX12_common_J140 (p1 : Int32) (p2 : Int32) (p3 : Int32)  (τ : QMem) : Option (Int32 × QMem) :=
  (fX12_becomes p1 5 0 τ).bind fun xq1 => (some (xq1.1, xq1.2))
def fX12_common_J134 (p1 : Int32) (p2 : Int32) (p3 : Int32) (K89 : Int32 → QMem → Option (Int32 × QMem)) (v4 : Int32) (τ : QMem) : Option (Int32 × QMem) :=
  K89 (v4 + (-1)) τ
def fX12_common_L89 (p1 : Int32) (p2 : Int32) (p3 : Int32) : Nat → Int32 → QMem → Option (Int32 × QMem)
  | 0, _, _ => none
  | n + 1, v4, τ =>
  if v4 < 1 then (fX12_common_J140 p1 p2 p3 τ) else (if (τ 28 6) = 0 then ((fX12_norm p1 τ).bind fun xq7 => (if v4 = 0 then none else (if (xq7.1 - xq7.1 / v4 * v4) = 0 then ((fX12_norm p2 xq7.2).bind fun xq11 => (if v4 = 0 then none else (if (xq11.1 - xq11.1 / v4 * v4) = 0 then ((fX12_gathers v4 p3 0 2 1 xq11.2).bind fun xq15 => (fX12_common_J134 p1 p2 p3 (fX12_common_L89 p1 p2 p3 n) v4 xq15)) else (fX12_common_J134 p1 p2 p3 (fX12_common_L89 p1 p2 p3 n) v4 xq11.2)))) else (fX12_common_J134 p1 p2 p3 (fX12_common_L89 p1 p2 p3 n) v4 xq7.2)))) else (fX12_common_J140 p1 p2 p3 τ))
def fX12_common_J49 (p1 : Int32) (p2 : Int32) (p3 : Int32)  (τ : QMem) : Option (Int32 × QMem) :=
  (fX12_copies 13 (4 * p1) 7 0 τ).bind fun xq17 => ((fX12_copies 13 (4 * p2) 7 4 xq17).bind fun xq19 => (fX12_common_L89 p1 p2 p3 FU 150 (ms xq19 28 6 0)))
def fX12_common (p1 : Int32) (p2 : Int32) (p3 : Int32) (σ : QMem) : Option (Int32 × QMem) :=
  (fX12_isSlot p1).bind fun xq25 => (if xq25 = 0 then (some ((-1001), σ)) else ((fX12_isSlot p2).bind fun xq28 => (if xq28 = 0 then (some ((-1001), σ)) else ((fX12_isSide p3).bind fun xq31 => (if xq31 = 0 then (some ((-1002), σ)) else ((fX12_isEmpty p1 σ).bind fun xq34 => (if xq34.1 = 0 then (fX12_common_J49 p1 p2 p3 xq34.2) else ((fX12_isEmpty p2 xq34.2).bind fun xq37 => (if xq37.1 = 0 then (fX12_common_J49 p1 p2 p3 xq37.2) else (some ((-1003), xq37.2)))))))))))
set_option maxHeartbeats 4000000 in
set_option maxRecDepth 100000 in
theorem kX12_common (l : Launch) (D : va_G) (G : xG) (σ : QMem) (p1 : Int32) (p2 : Int32) (p3 : Int32) (res : Int32 × QMem) (h : fX12_common p1 p2 p3 σ = some res) : Met l yX12_common (.code yX12_common cX12_common 5 (some .int) :: lwW) (rmD 6) (mPc D G σ [.ref (G.1 28), .int p1, .int p2, .int p3]) (mQi D G res) 0 0 (mA G) := by
  refine Met.ofW (cc := cX12_common) (maxL := 5) (ret := (some .int)) (by decide) rfl ?_
  intro p e s m args below meth c s₁ B hml hv
  obtain ⟨rfl, h0⟩ := hv
  have hx := B.exec
  have hb := B.bytes
  have hr := B.returns
  have hts := fun (w : Cond) (hw : w ∈ lwW) => atoms_spec (ws := (.code yX12_common cX12_common 5 (some .int) :: lwW)) B.pre w (List.mem_cons_of_mem _ hw)
  have hown : s.vm.findClass RX12 = some m.cls := findClass_of_methodNamed B.named
  have hlocks := B.notSynchronized
  have hP := h0.1
  have hK := h0.2.1
  have hi := h0.2.2
  have hS : va_S (mA G) s.heap s.heap [] := va_S.rf
  have hl := lv_entry ([.ref (G.1 28), .int p1, .int p2, .int p3]) (n := 5) (Nat.le_of_ble_eq_true rfl)
  rw [lg_entry_eq]
  generalize (lg_sl ([.ref (G.1 28), .int p1, .int p2, .int p3]) ++ List.replicate (5 - (lg_sl ([.ref (G.1 28), .int p1, .int p2, .int p3])).length) Slot.unset).toArray = ls at hl ⊢
  have hl : lv_has ls 5 [(0, .ref (G.1 28)), (1, .int p1), (2, .int p2), (3, .int p3)] := hl
  unfold fX12_common at h
  have J140 : ∀ (τ : QMem) (H : Heap) (locs : List Loc) (ls : Array Slot), fX12_common_J140 p1 p2 p3 τ = some res → va_P D vwCl (mW G τ) H → va_S (mA G) s.heap H locs → lv_has ls 5 [(0, .ref (G.1 28)), (1, .int p1)] → W p l e (headSpec (.code yX12_common cX12_common 5 (some .int) :: lwW) (rmD 6)).room s m ([.ref (G.1 28), .int p1, .int p2, .int p3] : List Value).toArray below meth c H locs 0 0 (MQ below (mQi D G res) ([.ref (G.1 28), .int p1, .int p2, .int p3] : List Value).toArray s 0 0 (mA G)) (F0 m 140 ls []) := by
    intro τ H locs ls h hP hS hl
    unfold fX12_common_J140 at h
    refine lv_aload_n hx hb dX12_common_140 rfl (lv_at hl 0 rfl) ?_
    refine lv_iload_n hx hb dX12_common_141 rfl (lv_at hl 1 rfl) ?_
    refine lv_aload_n hx hb dX12_common_142 rfl (lv_at hl 0 rfl) ?_
    refine va_get (D := D) (ci := 12) (v := .ref (G.1 5)) (C := RX12) (T := TX12) (N := 34) hx hb hts iwX12 hown hK hP 28 (mg_2 rfl) rfl 5 (by decide) (hts _ mw_963) (fun _ h9 => h9) rfl dX12_common_143 ?_
    refine lv_iconst (v := 0) hx hb dX12_common_146 (by decide) ?_
    obtain ⟨xq3, hfq4, h⟩ := obd h
    refine va_calli (va_runV (As := [.int p1, .ref (G.1 5), .int 0]) (rest := []) ⟨hx, hb, hml, hown, hts⟩ (kX12_becomes l D G _ p1 5 rfl 0 xq3 hfq4) (cwV 3 hts (lwW_gV mw_1121 mw_1123 ms_37 mw_14 mw_1124) rfl rfl rfl (by decide +kernel) ⟨Nat.le_of_ble_eq_true rfl, Nat.le_of_ble_eq_true rfl⟩) ⟨fun a U g mk q => ⟨q.1, mPre_call q.2⟩, va_recv hK hP rfl (mg_2 rfl), fun U hU hW => ⟨rfl, mPre_at h0 hS hP hU hW⟩⟩ rfl rfl hl.1 rfl (lv_room (Nat.le_of_ble_eq_true rfl)) dX12_common_147 ⟨Nat.zero_le _, Nat.zero_le _⟩) hS (fun q _ h => h) (fun q h => h) (fun r u t H1 locs ht hvm hw hB hz1 hq1 hS => ?_)
    obtain ⟨rfl, rfl⟩ := hw
    have hP := hB.1
    rw [ht] at hP
    refine W.widen (k := 0) (n := 0) (Nat.le_refl _) (Nat.le_refl _) ?_
    obtain rfl := Option.some.inj h
    exact W.iret (v := xq3.1) hx hb hr (fun t ht hW => ⟨⟨_, _, rfl, ⟨rfl, rfl⟩, mPre_at h0 hS hP ht hW⟩, hS.F ht⟩) hS.2.2 dX12_common_150
  have L89 : ∀ (n89 : Nat) (v4 : Int32) (τ : QMem) (H : Heap) (locs : List Loc) (ls : Array Slot), fX12_common_L89 p1 p2 p3 n89 v4 τ = some res → va_P D vwCl (mW G τ) H → va_S (mA G) s.heap H locs → lv_has ls 5 [(0, .ref (G.1 28)), (1, .int p1), (2, .int p2), (3, .int p3), (4, .int v4)] → W p l e (headSpec (.code yX12_common cX12_common 5 (some .int) :: lwW) (rmD 6)).room s m ([.ref (G.1 28), .int p1, .int p2, .int p3] : List Value).toArray below meth c H locs 0 0 (MQ below (mQi D G res) ([.ref (G.1 28), .int p1, .int p2, .int p3] : List Value).toArray s 0 0 (mA G)) (F0 m 89 ls []) := by
    intro n89
    induction n89 with
    | zero => intro v4 τ H locs ls h; rw [fX12_common_L89] at h; cases h
    | succ n89 ih89 =>
      intro v4 τ H locs ls h hP hS hl
      rw [fX12_common_L89] at h
      have J134 : ∀ (v4 : Int32) (τ : QMem) (H : Heap) (locs : List Loc) (ls : Array Slot), fX12_common_J134 p1 p2 p3 (fX12_common_L89 p1 p2 p3 n89) v4 τ = some res → va_P D vwCl (mW G τ) H → va_S (mA G) s.heap H locs → lv_has ls 5 [(0, .ref (G.1 28)), (1, .int p1), (2, .int p2), (3, .int p3), (4, .int v4)] → W p l e (headSpec (.code yX12_common cX12_common 5 (some .int) :: lwW) (rmD 6)).room s m ([.ref (G.1 28), .int p1, .int p2, .int p3] : List Value).toArray below meth c H locs 0 0 (MQ below (mQi D G res) ([.ref (G.1 28), .int p1, .int p2, .int p3] : List Value).toArray s 0 0 (mA G)) (F0 m 134 ls []) := by
        intro v4 τ H locs ls h hP hS hl
        unfold fX12_common_J134 at h
        refine lv_iinc (v := v4 + (-1)) (lv' := [(4, .int (v4 + (-1))), (0, .ref (G.1 28)), (1, .int p1), (2, .int p2), (3, .int p3)]) hx hb dX12_common_134 hl (k := 4) rfl rfl (by decide) rfl (fun ls hl => ?_)
        refine lv_goto (tgt := 89) hx hb dX12_common_137 (by decide) ?_
        exact ih89 (v4 + (-1)) _ _ _ _ h hP hS (lv_sub hl [1, 2, 3, 4, 0] rfl)
      refine lv_iload hx hb dX12_common_89 (lv_at hl 4 rfl) ?_
      refine lv_iconst (v := 1) hx hb dX12_common_91 (by decide) ?_
      refine lv_icmp_lt (tgt := 140) hx hb dX12_common_92 (by decide) (fun hcq5 => ?_) (fun hcq5 => ?_)
      · have h := ifp hcq5 h
        exact J140 _ _ _ _ h hP hS (lv_sub hl [0, 1] rfl)
      have h := ifn hcq5 h
      refine lv_aload_n hx hb dX12_common_95 rfl (lv_at hl 0 rfl) ?_
      refine va_get (D := D) (ci := 12) (v := .int (τ 28 6)) (C := RX12) (T := TX12) (N := 34) hx hb hts iwX12 hown hK hP 28 (mg_2 rfl) rfl 6 (by decide) (hts _ mw_964) (fun _ h9 => h9) rfl dX12_common_96 ?_
      refine lv_if_ne (tgt := 140) hx hb dX12_common_99 (by decide) (fun hcq6 => ?_) (fun hcq6 => ?_)
      · have h := ifn hcq6 h
        exact J140 _ _ _ _ h hP hS (lv_sub hl [0, 1] rfl)
      have h := ifp hcq6 h
      refine lv_aload_n hx hb dX12_common_102 rfl (lv_at hl 0 rfl) ?_
      refine lv_iload_n hx hb dX12_common_103 rfl (lv_at hl 1 rfl) ?_
      obtain ⟨xq7, hfq8, h⟩ := obd h
      refine va_calli (va_runV (As := [.int p1]) (rest := []) ⟨hx, hb, hml, hown, hts⟩ (kX12_norm l D G _ p1 xq7 hfq8) (cwV 1 hts (lwW_gV mw_1083 mw_1085 ms_31 mw_14 mw_1086) rfl rfl rfl (by decide +kernel) ⟨Nat.le_of_ble_eq_true rfl, Nat.le_of_ble_eq_true rfl⟩) ⟨fun a U g mk q => ⟨q.1, mPre_call q.2⟩, va_recv hK hP rfl (mg_2 rfl), fun U hU hW => ⟨rfl, mPre_at h0 hS hP hU hW⟩⟩ rfl rfl hl.1 rfl (lv_room (Nat.le_of_ble_eq_true rfl)) dX12_common_104 ⟨Nat.zero_le _, Nat.zero_le _⟩) hS (fun q _ h => h) (fun q h => h) (fun r u t H1 locs ht hvm hw hB hz1 hq1 hS => ?_)
      obtain ⟨rfl, rfl⟩ := hw
      have hP := hB.1
      rw [ht] at hP
      refine W.widen (k := 0) (n := 0) (Nat.le_refl _) (Nat.le_refl _) ?_
      refine lv_iload hx hb dX12_common_107 (lv_at hl 4 rfl) ?_
      obtain ⟨hdq9, h⟩ := nif h
      refine lv_irem hx hb dX12_common_109 hdq9 ?_
      refine lv_if_ne (tgt := 134) hx hb dX12_common_110 (by decide) (fun hcq10 => ?_) (fun hcq10 => ?_)
      · have h := ifn hcq10 h
        exact J134 v4 _ _ _ _ h hP hS (lv_sub hl [0, 1, 2, 3, 4] rfl)
      have h := ifp hcq10 h
      refine lv_aload_n hx hb dX12_common_113 rfl (lv_at hl 0 rfl) ?_
      refine lv_iload_n hx hb dX12_common_114 rfl (lv_at hl 2 rfl) ?_
      obtain ⟨xq11, hfq12, h⟩ := obd h
      refine va_calli (va_runV (As := [.int p2]) (rest := []) ⟨hx, hb, hml, hown, hts⟩ (kX12_norm l D G _ p2 xq11 hfq12) (cwV 1 hts (lwW_gV mw_1083 mw_1085 ms_31 mw_14 mw_1086) rfl rfl rfl (by decide +kernel) ⟨Nat.le_of_ble_eq_true rfl, Nat.le_of_ble_eq_true rfl⟩) ⟨fun a U g mk q => ⟨q.1, mPre_call q.2⟩, va_recv hK hP rfl (mg_2 rfl), fun U hU hW => ⟨rfl, mPre_at h0 hS hP hU hW⟩⟩ rfl rfl hl.1 rfl (lv_room (Nat.le_of_ble_eq_true rfl)) dX12_common_115 ⟨Nat.zero_le _, Nat.zero_le _⟩) hS (fun q _ h => h) (fun q h => h) (fun r u t H1 locs ht hvm hw hB hz1 hq1 hS => ?_)
      obtain ⟨rfl, rfl⟩ := hw
      have hP := hB.1
      rw [ht] at hP
      refine W.widen (k := 0) (n := 0) (Nat.le_refl _) (Nat.le_refl _) ?_
      refine lv_iload hx hb dX12_common_118 (lv_at hl 4 rfl) ?_
      obtain ⟨hdq13, h⟩ := nif h
      refine lv_irem hx hb dX12_common_120 hdq13 ?_
      refine lv_if_ne (tgt := 134) hx hb dX12_common_121 (by decide) (fun hcq14 => ?_) (fun hcq14 => ?_)
      · have h := ifn hcq14 h
        exact J134 v4 _ _ _ _ h hP hS (lv_sub hl [0, 1, 2, 3, 4] rfl)
      have h := ifp hcq14 h
      refine lv_aload_n hx hb dX12_common_124 rfl (lv_at hl 0 rfl) ?_
      refine lv_iload hx hb dX12_common_125 (lv_at hl 4 rfl) ?_
      refine lv_iload_n hx hb dX12_common_127 rfl (lv_at hl 3 rfl) ?_
      refine lv_iconst (v := 0) hx hb dX12_common_128 (by decide) ?_
      refine lv_iconst (v := 2) hx hb dX12_common_129 (by decide) ?_
      refine lv_iconst (v := 1) hx hb dX12_common_130 (by decide) ?_
      obtain ⟨xq15, hfq16, h⟩ := obd h
      refine va_callv (va_runV (As := [.int v4, .int p3, .int 0, .int 2, .int 1]) (rest := []) ⟨hx, hb, hml, hown, hts⟩ (kX12_gathers l D G _ v4 p3 0 2 1 xq15 hfq16) (cwV 5 hts (lwW_gV mw_917 mw_919 ms_25 mw_14 mw_920) rfl rfl rfl (by decide +kernel) ⟨Nat.le_of_ble_eq_true rfl, Nat.le_of_ble_eq_true rfl⟩) ⟨fun a U g mk q => ⟨q.1, mPre_call q.2⟩, va_recv hK hP rfl (mg_2 rfl), fun U hU hW => ⟨rfl, mPre_at h0 hS hP hU hW⟩⟩ rfl rfl hl.1 rfl (lv_room (Nat.le_of_ble_eq_true rfl)) dX12_common_131 ⟨Nat.zero_le _, Nat.zero_le _⟩) hS (fun q _ h => h) (fun q h => h) (fun u t H1 locs ht hvm hw hB hz1 hq1 hS => ?_)
      obtain rfl := hw.symm
      have hP := hB.1
      rw [ht] at hP
      refine W.widen (k := 0) (n := 0) (Nat.le_refl _) (Nat.le_refl _) ?_
      exact J134 v4 _ _ _ _ h hP hS (lv_sub hl [0, 1, 2, 3, 4] rfl)
  have J49 : ∀ (τ : QMem) (H : Heap) (locs : List Loc) (ls : Array Slot), fX12_common_J49 p1 p2 p3 τ = some res → va_P D vwCl (mW G τ) H → va_S (mA G) s.heap H locs → lv_has ls 5 [(0, .ref (G.1 28)), (1, .int p1), (2, .int p2), (3, .int p3)] → W p l e (headSpec (.code yX12_common cX12_common 5 (some .int) :: lwW) (rmD 6)).room s m ([.ref (G.1 28), .int p1, .int p2, .int p3] : List Value).toArray below meth c H locs 0 0 (MQ below (mQi D G res) ([.ref (G.1 28), .int p1, .int p2, .int p3] : List Value).toArray s 0 0 (mA G)) (F0 m 49 ls []) := by
    intro τ H locs ls h hP hS hl
    unfold fX12_common_J49 at h
    refine lv_aload_n hx hb dX12_common_49 rfl (lv_at hl 0 rfl) ?_
    refine va_get (D := D) (ci := 12) (v := .ref (G.1 13)) (C := RX12) (T := TX12) (N := 34) hx hb hts iwX12 hown hK hP 28 (mg_2 rfl) rfl 14 (by decide) (hts _ mw_972) (fun _ h9 => h9) rfl dX12_common_50 ?_
    refine lv_iconst (v := 4) hx hb dX12_common_53 (by decide) ?_
    refine lv_iload_n hx hb dX12_common_54 rfl (lv_at hl 1 rfl) ?_
    refine lv_imul hx hb dX12_common_55 ?_
    refine lv_aload_n hx hb dX12_common_56 rfl (lv_at hl 0 rfl) ?_
    refine va_get (D := D) (ci := 12) (v := .ref (G.1 7)) (C := RX12) (T := TX12) (N := 34) hx hb hts iwX12 hown hK hP 28 (mg_2 rfl) rfl 8 (by decide) (hts _ mw_966) (fun _ h9 => h9) rfl dX12_common_57 ?_
    refine lv_iconst (v := 0) hx hb dX12_common_60 (by decide) ?_
    obtain ⟨xq21, hfq22, h⟩ := obd h
    refine va_callv (va_runS (As := [.ref (G.1 13), .int (4 * p1), .ref (G.1 7), .int 0]) (rest := []) ⟨hx, hb, hml, hown, hts⟩ (kX12_copies l D G _ 13 rfl (4 * p1) 7 rfl 0 xq21 hfq22) (va_cwS 4 hts (lwW_gS mw_955 mw_956 mw_14 mw_957) rfl rfl rfl (by decide +kernel) ⟨Nat.le_of_ble_eq_true rfl, Nat.le_of_ble_eq_true rfl⟩) ⟨fun a U g mk q => ⟨q.1, mPre_call q.2⟩, fun U hU hW => ⟨rfl, mPre_at h0 hS hP hU hW⟩⟩ rfl rfl hl.1 rfl (lv_room (Nat.le_of_ble_eq_true rfl)) dX12_common_61 ⟨Nat.zero_le _, Nat.zero_le _⟩) hS (fun q _ h => h) (fun q h => h) (fun u t H1 locs ht hvm hw hB hz1 hq1 hS => ?_)
    obtain rfl := hw.symm
    have hP := hB.1
    rw [ht] at hP
    refine W.widen (k := 0) (n := 0) (Nat.le_refl _) (Nat.le_refl _) ?_
    refine lv_aload_n hx hb dX12_common_64 rfl (lv_at hl 0 rfl) ?_
    refine va_get (D := D) (ci := 12) (v := .ref (G.1 13)) (C := RX12) (T := TX12) (N := 34) hx hb hts iwX12 hown hK hP 28 (mg_2 rfl) rfl 14 (by decide) (hts _ mw_972) (fun _ h9 => h9) rfl dX12_common_65 ?_
    refine lv_iconst (v := 4) hx hb dX12_common_68 (by decide) ?_
    refine lv_iload_n hx hb dX12_common_69 rfl (lv_at hl 2 rfl) ?_
    refine lv_imul hx hb dX12_common_70 ?_
    refine lv_aload_n hx hb dX12_common_71 rfl (lv_at hl 0 rfl) ?_
    refine va_get (D := D) (ci := 12) (v := .ref (G.1 7)) (C := RX12) (T := TX12) (N := 34) hx hb hts iwX12 hown hK hP 28 (mg_2 rfl) rfl 8 (by decide) (hts _ mw_966) (fun _ h9 => h9) rfl dX12_common_72 ?_
    refine lv_iconst (v := 4) hx hb dX12_common_75 (by decide) ?_
    obtain ⟨xq23, hfq24, h⟩ := obd h
    refine va_callv (va_runS (As := [.ref (G.1 13), .int (4 * p2), .ref (G.1 7), .int 4]) (rest := []) ⟨hx, hb, hml, hown, hts⟩ (kX12_copies l D G _ 13 rfl (4 * p2) 7 rfl 4 xq23 hfq24) (va_cwS 4 hts (lwW_gS mw_955 mw_956 mw_14 mw_957) rfl rfl rfl (by decide +kernel) ⟨Nat.le_of_ble_eq_true rfl, Nat.le_of_ble_eq_true rfl⟩) ⟨fun a U g mk q => ⟨q.1, mPre_call q.2⟩, fun U hU hW => ⟨rfl, mPre_at h0 hS hP hU hW⟩⟩ rfl rfl hl.1 rfl (lv_room (Nat.le_of_ble_eq_true rfl)) dX12_common_76 ⟨Nat.zero_le _, Nat.zero_le _⟩) hS (fun q _ h => h) (fun q h => h) (fun u t H1 locs ht hvm hw hB hz1 hq1 hS => ?_)
    obtain rfl := hw.symm
    have hP := hB.1
    rw [ht] at hP
    refine W.widen (k := 0) (n := 0) (Nat.le_refl _) (Nat.le_refl _) ?_
    refine lv_aload_n hx hb dX12_common_79 rfl (lv_at hl 0 rfl) ?_
    refine lv_iconst (v := 0) hx hb dX12_common_80 (by decide) ?_
    refine va_put (D := D) (ci := 12) (v := .int 0) (ty := .int) (C := RX12) (T := TX12) (N := 34) hx hb hts iwX12 tyX12 tyX12_ok nmX12 hown hK hP (mD hi) hS 28 (mg_2 rfl) rfl 6 (by decide) (hts _ mw_964) (fun _ h9 => h9) rfl (by decide +kernel) rfl rfl (Nat.le_of_ble_eq_true rfl) dX12_common_81 (fun H locs hP hD hS => ?_)
    have hP : va_P D vwCl (mW G (ms xq23 28 6 0)) H := by rw [← ms_2_6 rfl]; exact hP
    refine lv_sipush (v := 150) hx hb dX12_common_84 (by decide) ?_
    refine lv_istore (lv' := [(4, .int 150), (0, .ref (G.1 28)), (1, .int p1), (2, .int p2), (3, .int p3)]) hx hb dX12_common_87 hl (by decide) rfl (fun ls hl => ?_)
    exact L89 FU 150 _ _ _ _ h hP hS (lv_sub hl [1, 2, 3, 4, 0] rfl)
  refine lv_iload_n hx hb dX12_common_0 rfl (lv_at hl 1 rfl) ?_
  obtain ⟨xq25, hfq26, h⟩ := obd h
  refine va_calli (va_runS (As := [.int p1]) (rest := []) ⟨hx, hb, hml, hown, hts⟩ (kX12_isSlot l p1 xq25 hfq26) (va_cwS 1 hts (lwW_gS mw_1066 mw_1067 mw_14 mw_1068) rfl rfl rfl (by decide +kernel) ⟨Nat.le_of_ble_eq_true rfl, Nat.le_of_ble_eq_true rfl⟩) ⟨fun a U g mk q => ⟨q.1, trivial⟩, fun U hU hW => ⟨rfl, trivial⟩⟩ rfl rfl hl.1 rfl (lv_room (Nat.le_of_ble_eq_true rfl)) dX12_common_1 ⟨Nat.zero_le _, Nat.zero_le _⟩) hS (fun q _ h => h.elim) (fun q h => h.elim) (fun r u t H1 locs ht hvm hw hB hz1 hq1 hS => ?_)
  obtain rfl := hw.symm
  have hP := mP_kept hP hq1
  refine W.widen (k := 0) (n := 0) (Nat.le_refl _) (Nat.le_refl _) ?_
  refine lv_if_eq (tgt := 14) hx hb dX12_common_4 (by decide) (fun hcq27 => ?_) (fun hcq27 => ?_)
  · have h := ifp hcq27 h
    refine lv_sipush (v := (-1001)) hx hb dX12_common_14 (by decide) ?_
    obtain rfl := Option.some.inj h
    exact W.iret (v := (-1001)) hx hb hr (fun t ht hW => ⟨⟨_, _, rfl, ⟨rfl, rfl⟩, mPre_at h0 hS hP ht hW⟩, hS.F ht⟩) hS.2.2 dX12_common_17
  have h := ifn hcq27 h
  refine lv_iload_n hx hb dX12_common_7 rfl (lv_at hl 2 rfl) ?_
  obtain ⟨xq28, hfq29, h⟩ := obd h
  refine va_calli (va_runS (As := [.int p2]) (rest := []) ⟨hx, hb, hml, hown, hts⟩ (kX12_isSlot l p2 xq28 hfq29) (va_cwS 1 hts (lwW_gS mw_1066 mw_1067 mw_14 mw_1068) rfl rfl rfl (by decide +kernel) ⟨Nat.le_of_ble_eq_true rfl, Nat.le_of_ble_eq_true rfl⟩) ⟨fun a U g mk q => ⟨q.1, trivial⟩, fun U hU hW => ⟨rfl, trivial⟩⟩ rfl rfl hl.1 rfl (lv_room (Nat.le_of_ble_eq_true rfl)) dX12_common_8 ⟨Nat.zero_le _, Nat.zero_le _⟩) hS (fun q _ h => h.elim) (fun q h => h.elim) (fun r u t H1 locs ht hvm hw hB hz1 hq1 hS => ?_)
  obtain rfl := hw.symm
  have hP := mP_kept hP hq1
  refine W.widen (k := 0) (n := 0) (Nat.le_refl _) (Nat.le_refl _) ?_
  refine lv_if_ne (tgt := 18) hx hb dX12_common_11 (by decide) (fun hcq30 => ?_) (fun hcq30 => ?_)
  · have h := ifn hcq30 h
    refine lv_iload_n hx hb dX12_common_18 rfl (lv_at hl 3 rfl) ?_
    obtain ⟨xq31, hfq32, h⟩ := obd h
    refine va_calli (va_runS (As := [.int p3]) (rest := []) ⟨hx, hb, hml, hown, hts⟩ (kX12_isSide l p3 xq31 hfq32) (va_cwS 1 hts (lwW_gS mw_1137 mw_1138 mw_14 mw_1139) rfl rfl rfl (by decide +kernel) ⟨Nat.le_of_ble_eq_true rfl, Nat.le_of_ble_eq_true rfl⟩) ⟨fun a U g mk q => ⟨q.1, trivial⟩, fun U hU hW => ⟨rfl, trivial⟩⟩ rfl rfl hl.1 rfl (lv_room (Nat.le_of_ble_eq_true rfl)) dX12_common_19 ⟨Nat.zero_le _, Nat.zero_le _⟩) hS (fun q _ h => h.elim) (fun q h => h.elim) (fun r u t H1 locs ht hvm hw hB hz1 hq1 hS => ?_)
    obtain rfl := hw.symm
    have hP := mP_kept hP hq1
    refine W.widen (k := 0) (n := 0) (Nat.le_refl _) (Nat.le_refl _) ?_
    refine lv_if_ne (tgt := 29) hx hb dX12_common_22 (by decide) (fun hcq33 => ?_) (fun hcq33 => ?_)
    · have h := ifn hcq33 h
      refine lv_aload_n hx hb dX12_common_29 rfl (lv_at hl 0 rfl) ?_
      refine lv_iload_n hx hb dX12_common_30 rfl (lv_at hl 1 rfl) ?_
      obtain ⟨xq34, hfq35, h⟩ := obd h
      refine va_calli (va_runV (As := [.int p1]) (rest := []) ⟨hx, hb, hml, hown, hts⟩ (kX12_isEmpty l D G _ p1 xq34 hfq35) (cwV 1 hts (lwW_gV mw_1076 mw_1078 ms_30 mw_14 mw_1079) rfl rfl rfl (by decide +kernel) ⟨Nat.le_of_ble_eq_true rfl, Nat.le_of_ble_eq_true rfl⟩) ⟨fun a U g mk q => ⟨q.1, mPre_call q.2⟩, va_recv hK hP rfl (mg_2 rfl), fun U hU hW => ⟨rfl, mPre_at h0 hS hP hU hW⟩⟩ rfl rfl hl.1 rfl (lv_room (Nat.le_of_ble_eq_true rfl)) dX12_common_31 ⟨Nat.zero_le _, Nat.zero_le _⟩) hS (fun q _ h => h) (fun q h => h) (fun r u t H1 locs ht hvm hw hB hz1 hq1 hS => ?_)
      obtain ⟨rfl, rfl⟩ := hw
      have hP := hB.1
      rw [ht] at hP
      refine W.widen (k := 0) (n := 0) (Nat.le_refl _) (Nat.le_refl _) ?_
      refine lv_if_eq (tgt := 49) hx hb dX12_common_34 (by decide) (fun hcq36 => ?_) (fun hcq36 => ?_)
      · have h := ifp hcq36 h
        exact J49 _ _ _ _ h hP hS (lv_sub hl [0, 1, 2, 3] rfl)
      have h := ifn hcq36 h
      refine lv_aload_n hx hb dX12_common_37 rfl (lv_at hl 0 rfl) ?_
      refine lv_iload_n hx hb dX12_common_38 rfl (lv_at hl 2 rfl) ?_
      obtain ⟨xq37, hfq38, h⟩ := obd h
      refine va_calli (va_runV (As := [.int p2]) (rest := []) ⟨hx, hb, hml, hown, hts⟩ (kX12_isEmpty l D G _ p2 xq37 hfq38) (cwV 1 hts (lwW_gV mw_1076 mw_1078 ms_30 mw_14 mw_1079) rfl rfl rfl (by decide +kernel) ⟨Nat.le_of_ble_eq_true rfl, Nat.le_of_ble_eq_true rfl⟩) ⟨fun a U g mk q => ⟨q.1, mPre_call q.2⟩, va_recv hK hP rfl (mg_2 rfl), fun U hU hW => ⟨rfl, mPre_at h0 hS hP hU hW⟩⟩ rfl rfl hl.1 rfl (lv_room (Nat.le_of_ble_eq_true rfl)) dX12_common_39 ⟨Nat.zero_le _, Nat.zero_le _⟩) hS (fun q _ h => h) (fun q h => h) (fun r u t H1 locs ht hvm hw hB hz1 hq1 hS => ?_)
      obtain ⟨rfl, rfl⟩ := hw
      have hP := hB.1
      rw [ht] at hP
      refine W.widen (k := 0) (n := 0) (Nat.le_refl _) (Nat.le_refl _) ?_
      refine lv_if_eq (tgt := 49) hx hb dX12_common_42 (by decide) (fun hcq39 => ?_) (fun hcq39 => ?_)
      · have h := ifp hcq39 h
        exact J49 _ _ _ _ h hP hS (lv_sub hl [0, 1, 2, 3] rfl)
      have h := ifn hcq39 h
      refine lv_sipush (v := (-1003)) hx hb dX12_common_45 (by decide) ?_
      obtain rfl := Option.some.inj h
      exact W.iret (v := (-1003)) hx hb hr (fun t ht hW => ⟨⟨_, _, rfl, ⟨rfl, rfl⟩, mPre_at h0 hS hP ht hW⟩, hS.F ht⟩) hS.2.2 dX12_common_48
    have h := ifp hcq33 h
    refine lv_sipush (v := (-1002)) hx hb dX12_common_25 (by decide) ?_
    obtain rfl := Option.some.inj h
    exact W.iret (v := (-1002)) hx hb hr (fun t ht hW => ⟨⟨_, _, rfl, ⟨rfl, rfl⟩, mPre_at h0 hS hP ht hW⟩, hS.F ht⟩) hS.2.2 dX12_common_28
  have h := ifp hcq30 h
  refine lv_sipush (v := (-1001)) hx hb dX12_common_14 (by decide) ?_
  obtain rfl := Option.some.inj h
  exact W.iret (v := (-1001)) hx hb hr (fun t ht hW => ⟨⟨_, _, rfl, ⟨rfl, rfl⟩, mPre_at h0 hS hP ht hW⟩, hS.F ht⟩) hS.2.2 dX12_common_17
def fX12_undo_L23  : Nat → Int32 → QMem → Option (Int32 × QMem)
  | 0, _, _ => none
  | n + 1, v1, τ =>
  if 24 ≤ v1 then (some (τ 28 15, τ)) else (if ((24 * (τ 28 15)) + v1 < 0 ∨ ml 14 ≤ ((24 * (τ 28 15)) + v1).toNatClampNeg) then none else (if (v1 < 0 ∨ ml 13 ≤ v1.toNatClampNeg) then none else ((fX12_undo_L23 n) (v1 + 1) (ms τ 13 v1.toNatClampNeg (τ 14 ((24 * (τ 28 15)) + v1).toNatClampNeg)))))
def fX12_undo  (σ : QMem) : Option (Int32 × QMem) :=
  if (σ 28 15) = 0 then (some ((-1003), σ)) else (fX12_undo_L23 FU 0 (ms σ 28 15 ((σ 28 15) - 1)))
set_option maxHeartbeats 4000000 in
set_option maxRecDepth 100000 in
theorem kX12_undo (l : Launch) (D : va_G) (G : xG) (σ : QMem) (res : Int32 × QMem) (h : fX12_undo σ = some res) : Met l yX12_undo (.code yX12_undo cX12_undo 2 (some .int) :: lwW) (rmD 0) (mPc D G σ [.ref (G.1 28)]) (mQi D G res) 0 0 (mA G) := by
  refine Met.ofW (cc := cX12_undo) (maxL := 2) (ret := (some .int)) (by decide) rfl ?_
  intro p e s m args below meth c s₁ B hml hv
  obtain ⟨rfl, h0⟩ := hv
  have hx := B.exec
  have hb := B.bytes
  have hr := B.returns
  have hts := fun (w : Cond) (hw : w ∈ lwW) => atoms_spec (ws := (.code yX12_undo cX12_undo 2 (some .int) :: lwW)) B.pre w (List.mem_cons_of_mem _ hw)
  have hown : s.vm.findClass RX12 = some m.cls := findClass_of_methodNamed B.named
  have hlocks := B.notSynchronized
  have hP := h0.1
  have hK := h0.2.1
  have hi := h0.2.2
  have hS : va_S (mA G) s.heap s.heap [] := va_S.rf
  have hl := lv_entry ([.ref (G.1 28)]) (n := 2) (Nat.le_of_ble_eq_true rfl)
  rw [lg_entry_eq]
  generalize (lg_sl ([.ref (G.1 28)]) ++ List.replicate (2 - (lg_sl ([.ref (G.1 28)])).length) Slot.unset).toArray = ls at hl ⊢
  have hl : lv_has ls 2 [(0, .ref (G.1 28))] := hl
  unfold fX12_undo at h
  have L23 : ∀ (n23 : Nat) (v1 : Int32) (τ : QMem) (H : Heap) (locs : List Loc) (ls : Array Slot), fX12_undo_L23 n23 v1 τ = some res → va_P D vwCl (mW G τ) H → va_S (mA G) s.heap H locs → lv_has ls 2 [(0, .ref (G.1 28)), (1, .int v1)] → W p l e (headSpec (.code yX12_undo cX12_undo 2 (some .int) :: lwW) (rmD 0)).room s m ([.ref (G.1 28)] : List Value).toArray below meth c H locs 0 0 (MQ below (mQi D G res) ([.ref (G.1 28)] : List Value).toArray s 0 0 (mA G)) (F0 m 23 ls []) := by
    intro n23
    induction n23 with
    | zero => intro v1 τ H locs ls h; rw [fX12_undo_L23] at h; cases h
    | succ n23 ih23 =>
      intro v1 τ H locs ls h hP hS hl
      rw [fX12_undo_L23] at h
      refine lv_iload_n hx hb dX12_undo_23 rfl (lv_at hl 1 rfl) ?_
      refine lv_bipush (v := 24) hx hb dX12_undo_24 (by decide) ?_
      refine lv_icmp_ge (tgt := 55) hx hb dX12_undo_26 (by decide) (fun hcq1 => ?_) (fun hcq1 => ?_)
      · have h := ifp hcq1 h
        refine lv_aload_n hx hb dX12_undo_55 rfl (lv_at hl 0 rfl) ?_
        refine va_get (D := D) (ci := 12) (v := .int (τ 28 15)) (C := RX12) (T := TX12) (N := 34) hx hb hts iwX12 hown hK hP 28 (mg_2 rfl) rfl 15 (by decide) (hts _ mw_973) (fun _ h9 => h9) rfl dX12_undo_56 ?_
        obtain rfl := Option.some.inj h
        exact W.iret (v := τ 28 15) hx hb hr (fun t ht hW => ⟨⟨_, _, rfl, ⟨rfl, rfl⟩, mPre_at h0 hS hP ht hW⟩, hS.F ht⟩) hS.2.2 dX12_undo_59
      have h := ifn hcq1 h
      refine lv_aload_n hx hb dX12_undo_29 rfl (lv_at hl 0 rfl) ?_
      refine va_get (D := D) (ci := 12) (v := .ref (G.1 13)) (C := RX12) (T := TX12) (N := 34) hx hb hts iwX12 hown hK hP 28 (mg_2 rfl) rfl 14 (by decide) (hts _ mw_972) (fun _ h9 => h9) rfl dX12_undo_30 ?_
      refine lv_iload_n hx hb dX12_undo_33 rfl (lv_at hl 1 rfl) ?_
      refine lv_aload_n hx hb dX12_undo_34 rfl (lv_at hl 0 rfl) ?_
      refine va_get (D := D) (ci := 12) (v := .ref (G.1 14)) (C := RX12) (T := TX12) (N := 34) hx hb hts iwX12 hown hK hP 28 (mg_2 rfl) rfl 16 (by decide) (hts _ mw_974) (fun _ h9 => h9) rfl dX12_undo_35 ?_
      refine lv_bipush (v := 24) hx hb dX12_undo_38 (by decide) ?_
      refine lv_aload_n hx hb dX12_undo_40 rfl (lv_at hl 0 rfl) ?_
      refine va_get (D := D) (ci := 12) (v := .int (τ 28 15)) (C := RX12) (T := TX12) (N := 34) hx hb hts iwX12 hown hK hP 28 (mg_2 rfl) rfl 15 (by decide) (hts _ mw_973) (fun _ h9 => h9) rfl dX12_undo_41 ?_
      refine lv_imul hx hb dX12_undo_44 ?_
      refine lv_iload_n hx hb dX12_undo_45 rfl (lv_at hl 1 rfl) ?_
      refine lv_iadd hx hb dX12_undo_46 ?_
      obtain ⟨hiq2, h⟩ := nif h
      refine va_iald hx hb hK hP 14 0 (mg_0 rfl) rfl hiq2 dX12_undo_47 ?_
      obtain ⟨hiq3, h⟩ := nif h
      refine va_iast hx hb hK hP (mD hi) hS 13 0 (mg_0 rfl) rfl hiq3 dX12_undo_48 (fun H locs hP hD hS => ?_)
      have hP : va_P D vwCl (mW G (ms τ 13 v1.toNatClampNeg (τ 14 ((24 * (τ 28 15)) + v1).toNatClampNeg))) H := by rw [← ms_0x rfl]; exact hP
      refine lv_iinc (v := v1 + 1) (lv' := [(1, .int (v1 + 1)), (0, .ref (G.1 28))]) hx hb dX12_undo_49 hl (k := 1) rfl rfl (by decide) rfl (fun ls hl => ?_)
      refine lv_goto (tgt := 23) hx hb dX12_undo_52 (by decide) ?_
      exact ih23 (v1 + 1) _ _ _ _ h hP hS (lv_sub hl [1, 0] rfl)
  refine lv_aload_n hx hb dX12_undo_0 rfl (lv_at hl 0 rfl) ?_
  refine va_get (D := D) (ci := 12) (v := .int (σ 28 15)) (C := RX12) (T := TX12) (N := 34) hx hb hts iwX12 hown hK hP 28 (mg_2 rfl) rfl 15 (by decide) (hts _ mw_973) (fun _ h9 => h9) rfl dX12_undo_1 ?_
  refine lv_if_ne (tgt := 11) hx hb dX12_undo_4 (by decide) (fun hcq4 => ?_) (fun hcq4 => ?_)
  · have h := ifn hcq4 h
    refine lv_aload_n hx hb dX12_undo_11 rfl (lv_at hl 0 rfl) ?_
    refine lv_dup hx hb dX12_undo_12 rfl ?_
    refine va_get (D := D) (ci := 12) (v := .int (σ 28 15)) (C := RX12) (T := TX12) (N := 34) hx hb hts iwX12 hown hK hP 28 (mg_2 rfl) rfl 15 (by decide) (hts _ mw_973) (fun _ h9 => h9) rfl dX12_undo_13 ?_
    refine lv_iconst (v := 1) hx hb dX12_undo_16 (by decide) ?_
    refine lv_isub hx hb dX12_undo_17 ?_
    refine va_put (D := D) (ci := 12) (v := .int ((σ 28 15) - 1)) (ty := .int) (C := RX12) (T := TX12) (N := 34) hx hb hts iwX12 tyX12 tyX12_ok nmX12 hown hK hP (mD hi) hS 28 (mg_2 rfl) rfl 15 (by decide) (hts _ mw_973) (fun _ h9 => h9) rfl (by decide +kernel) rfl rfl (Nat.le_of_ble_eq_true rfl) dX12_undo_18 (fun H locs hP hD hS => ?_)
    have hP : va_P D vwCl (mW G (ms σ 28 15 ((σ 28 15) - 1))) H := by rw [← ms_2_15 rfl]; exact hP
    refine lv_iconst (v := 0) hx hb dX12_undo_21 (by decide) ?_
    refine lv_istore_n (lv' := [(1, .int 0), (0, .ref (G.1 28))]) hx hb dX12_undo_22 rfl hl (by decide) rfl (fun ls hl => ?_)
    exact L23 FU 0 _ _ _ _ h hP hS (lv_sub hl [1, 0] rfl)
  have h := ifp hcq4 h
  refine lv_sipush (v := (-1003)) hx hb dX12_undo_7 (by decide) ?_
  obtain rfl := Option.some.inj h
  exact W.iret (v := (-1003)) hx hb hr (fun t ht hW => ⟨⟨_, _, rfl, ⟨rfl, rfl⟩, mPre_at h0 hS hP ht hW⟩, hS.F ht⟩) hS.2.2 dX12_undo_10
def fX12_keep_L22 (p1 : Int32) : Nat → Int32 → QMem → Option (Int32 × QMem)
  | 0, _, _ => none
  | n + 1, v2, τ =>
  if 24 ≤ v2 then ((fX12_filled τ).bind fun xq2 => (some (xq2.1, xq2.2))) else (if (v2 < 0 ∨ ml 13 ≤ v2.toNatClampNeg) then none else (if ((24 * p1) + v2 < 0 ∨ ml 16 ≤ ((24 * p1) + v2).toNatClampNeg) then none else ((fX12_keep_L22 p1 n) (v2 + 1) (ms τ 16 ((24 * p1) + v2).toNatClampNeg (τ 13 v2.toNatClampNeg)))))
def fX12_keep (p1 : Int32) (σ : QMem) : Option (Int32 × QMem) :=
  (fX12_in p1 0 1).bind fun xq6 => (if xq6 = 0 then (some ((-1002), σ)) else (if (p1 < 0 ∨ ml 15 ≤ p1.toNatClampNeg) then none else (fX12_keep_L22 p1 FU 0 (ms σ 15 p1.toNatClampNeg 1))))
set_option maxHeartbeats 4000000 in
set_option maxRecDepth 100000 in
theorem kX12_keep (l : Launch) (D : va_G) (G : xG) (σ : QMem) (p1 : Int32) (res : Int32 × QMem) (h : fX12_keep p1 σ = some res) : Met l yX12_keep (.code yX12_keep cX12_keep 3 (some .int) :: lwW) (rmD 3) (mPc D G σ [.ref (G.1 28), .int p1]) (mQi D G res) 0 0 (mA G) := by
  refine Met.ofW (cc := cX12_keep) (maxL := 3) (ret := (some .int)) (by decide) rfl ?_
  intro p e s m args below meth c s₁ B hml hv
  obtain ⟨rfl, h0⟩ := hv
  have hx := B.exec
  have hb := B.bytes
  have hr := B.returns
  have hts := fun (w : Cond) (hw : w ∈ lwW) => atoms_spec (ws := (.code yX12_keep cX12_keep 3 (some .int) :: lwW)) B.pre w (List.mem_cons_of_mem _ hw)
  have hown : s.vm.findClass RX12 = some m.cls := findClass_of_methodNamed B.named
  have hlocks := B.notSynchronized
  have hP := h0.1
  have hK := h0.2.1
  have hi := h0.2.2
  have hS : va_S (mA G) s.heap s.heap [] := va_S.rf
  have hl := lv_entry ([.ref (G.1 28), .int p1]) (n := 3) (Nat.le_of_ble_eq_true rfl)
  rw [lg_entry_eq]
  generalize (lg_sl ([.ref (G.1 28), .int p1]) ++ List.replicate (3 - (lg_sl ([.ref (G.1 28), .int p1])).length) Slot.unset).toArray = ls at hl ⊢
  have hl : lv_has ls 3 [(0, .ref (G.1 28)), (1, .int p1)] := hl
  unfold fX12_keep at h
  have L22 : ∀ (n22 : Nat) (v2 : Int32) (τ : QMem) (H : Heap) (locs : List Loc) (ls : Array Slot), fX12_keep_L22 p1 n22 v2 τ = some res → va_P D vwCl (mW G τ) H → va_S (mA G) s.heap H locs → lv_has ls 3 [(0, .ref (G.1 28)), (1, .int p1), (2, .int v2)] → W p l e (headSpec (.code yX12_keep cX12_keep 3 (some .int) :: lwW) (rmD 3)).room s m ([.ref (G.1 28), .int p1] : List Value).toArray below meth c H locs 0 0 (MQ below (mQi D G res) ([.ref (G.1 28), .int p1] : List Value).toArray s 0 0 (mA G)) (F0 m 22 ls []) := by
    intro n22
    induction n22 with
    | zero => intro v2 τ H locs ls h; rw [fX12_keep_L22] at h; cases h
    | succ n22 ih22 =>
      intro v2 τ H locs ls h hP hS hl
      rw [fX12_keep_L22] at h
      refine lv_iload_n hx hb dX12_keep_22 rfl (lv_at hl 2 rfl) ?_
      refine lv_bipush (v := 24) hx hb dX12_keep_23 (by decide) ?_
      refine lv_icmp_ge (tgt := 51) hx hb dX12_keep_25 (by decide) (fun hcq1 => ?_) (fun hcq1 => ?_)
      · have h := ifp hcq1 h
        refine lv_aload_n hx hb dX12_keep_51 rfl (lv_at hl 0 rfl) ?_
        obtain ⟨xq2, hfq3, h⟩ := obd h
        refine va_calli (va_runV (As := []) (rest := []) ⟨hx, hb, hml, hown, hts⟩ (kX12_filled l D G _ xq2 hfq3) (cwV 0 hts (lwW_gV mw_1175 mw_1177 ms_42 mw_14 mw_1178) rfl rfl rfl (by decide +kernel) ⟨Nat.le_of_ble_eq_true rfl, Nat.le_of_ble_eq_true rfl⟩) ⟨fun a U g mk q => ⟨q.1, mPre_call q.2⟩, va_recv hK hP rfl (mg_2 rfl), fun U hU hW => ⟨rfl, mPre_at h0 hS hP hU hW⟩⟩ rfl rfl hl.1 rfl (lv_room (Nat.le_of_ble_eq_true rfl)) dX12_keep_52 ⟨Nat.zero_le _, Nat.zero_le _⟩) hS (fun q _ h => h) (fun q h => h) (fun r u t H1 locs ht hvm hw hB hz1 hq1 hS => ?_)
        obtain ⟨rfl, rfl⟩ := hw
        have hP := hB.1
        rw [ht] at hP
        refine W.widen (k := 0) (n := 0) (Nat.le_refl _) (Nat.le_refl _) ?_
        obtain rfl := Option.some.inj h
        exact W.iret (v := xq2.1) hx hb hr (fun t ht hW => ⟨⟨_, _, rfl, ⟨rfl, rfl⟩, mPre_at h0 hS hP ht hW⟩, hS.F ht⟩) hS.2.2 dX12_keep_55
      have h := ifn hcq1 h
      refine lv_aload_n hx hb dX12_keep_28 rfl (lv_at hl 0 rfl) ?_
      refine va_get (D := D) (ci := 12) (v := .ref (G.1 16)) (C := RX12) (T := TX12) (N := 34) hx hb hts iwX12 hown hK hP 28 (mg_2 rfl) rfl 18 (by decide) (hts _ mw_976) (fun _ h9 => h9) rfl dX12_keep_29 ?_
      refine lv_bipush (v := 24) hx hb dX12_keep_32 (by decide) ?_
      refine lv_iload_n hx hb dX12_keep_34 rfl (lv_at hl 1 rfl) ?_
      refine lv_imul hx hb dX12_keep_35 ?_
      refine lv_iload_n hx hb dX12_keep_36 rfl (lv_at hl 2 rfl) ?_
      refine lv_iadd hx hb dX12_keep_37 ?_
      refine lv_aload_n hx hb dX12_keep_38 rfl (lv_at hl 0 rfl) ?_
      refine va_get (D := D) (ci := 12) (v := .ref (G.1 13)) (C := RX12) (T := TX12) (N := 34) hx hb hts iwX12 hown hK hP 28 (mg_2 rfl) rfl 14 (by decide) (hts _ mw_972) (fun _ h9 => h9) rfl dX12_keep_39 ?_
      refine lv_iload_n hx hb dX12_keep_42 rfl (lv_at hl 2 rfl) ?_
      obtain ⟨hiq4, h⟩ := nif h
      refine va_iald hx hb hK hP 13 0 (mg_0 rfl) rfl hiq4 dX12_keep_43 ?_
      obtain ⟨hiq5, h⟩ := nif h
      refine va_iast hx hb hK hP (mD hi) hS 16 0 (mg_0 rfl) rfl hiq5 dX12_keep_44 (fun H locs hP hD hS => ?_)
      have hP : va_P D vwCl (mW G (ms τ 16 ((24 * p1) + v2).toNatClampNeg (τ 13 v2.toNatClampNeg))) H := by rw [← ms_0x rfl]; exact hP
      refine lv_iinc (v := v2 + 1) (lv' := [(2, .int (v2 + 1)), (0, .ref (G.1 28)), (1, .int p1)]) hx hb dX12_keep_45 hl (k := 2) rfl rfl (by decide) rfl (fun ls hl => ?_)
      refine lv_goto (tgt := 22) hx hb dX12_keep_48 (by decide) ?_
      exact ih22 (v2 + 1) _ _ _ _ h hP hS (lv_sub hl [1, 2, 0] rfl)
  refine lv_iload_n hx hb dX12_keep_0 rfl (lv_at hl 1 rfl) ?_
  refine lv_iconst (v := 0) hx hb dX12_keep_1 (by decide) ?_
  refine lv_iconst (v := 1) hx hb dX12_keep_2 (by decide) ?_
  obtain ⟨xq6, hfq7, h⟩ := obd h
  refine va_calli (va_runS (As := [.int p1, .int 0, .int 1]) (rest := []) ⟨hx, hb, hml, hown, hts⟩ (kX12_in l p1 0 1 xq6 hfq7) (va_cwS 3 hts (lwW_gS mw_1069 mw_1070 mw_14 mw_1071) rfl rfl rfl (by decide +kernel) ⟨Nat.le_of_ble_eq_true rfl, Nat.le_of_ble_eq_true rfl⟩) ⟨fun a U g mk q => ⟨q.1, trivial⟩, fun U hU hW => ⟨rfl, trivial⟩⟩ rfl rfl hl.1 rfl (lv_room (Nat.le_of_ble_eq_true rfl)) dX12_keep_3 ⟨Nat.zero_le _, Nat.zero_le _⟩) hS (fun q _ h => h.elim) (fun q h => h.elim) (fun r u t H1 locs ht hvm hw hB hz1 hq1 hS => ?_)
  obtain rfl := hw.symm
  have hP := mP_kept hP hq1
  refine W.widen (k := 0) (n := 0) (Nat.le_refl _) (Nat.le_refl _) ?_
  refine lv_if_ne (tgt := 13) hx hb dX12_keep_6 (by decide) (fun hcq8 => ?_) (fun hcq8 => ?_)
  · have h := ifn hcq8 h
    refine lv_aload_n hx hb dX12_keep_13 rfl (lv_at hl 0 rfl) ?_
    refine va_get (D := D) (ci := 12) (v := .ref (G.1 15)) (C := RX12) (T := TX12) (N := 34) hx hb hts iwX12 hown hK hP 28 (mg_2 rfl) rfl 17 (by decide) (hts _ mw_975) (fun _ h9 => h9) rfl dX12_keep_14 ?_
    refine lv_iload_n hx hb dX12_keep_17 rfl (lv_at hl 1 rfl) ?_
    refine lv_iconst (v := 1) hx hb dX12_keep_18 (by decide) ?_
    obtain ⟨hiq9, h⟩ := nif h
    refine va_zast hx hb hK hP (mD hi) hS 15 1 (mg_1 rfl) rfl hiq9 dX12_keep_19 (fun H locs hP hD hS => ?_)
    have hP : va_P D vwCl (mW G (ms σ 15 p1.toNatClampNeg 1)) H := by rw [← ms_1x rfl]; exact hP
    refine lv_iconst (v := 0) hx hb dX12_keep_20 (by decide) ?_
    refine lv_istore_n (lv' := [(2, .int 0), (0, .ref (G.1 28)), (1, .int p1)]) hx hb dX12_keep_21 rfl hl (by decide) rfl (fun ls hl => ?_)
    exact L22 FU 0 _ _ _ _ h hP hS (lv_sub hl [1, 2, 0] rfl)
  have h := ifp hcq8 h
  refine lv_sipush (v := (-1002)) hx hb dX12_keep_9 (by decide) ?_
  obtain rfl := Option.some.inj h
  exact W.iret (v := (-1002)) hx hb hr (fun t ht hW => ⟨⟨_, _, rfl, ⟨rfl, rfl⟩, mPre_at h0 hS hP ht hW⟩, hS.F ht⟩) hS.2.2 dX12_keep_12
def fX12_back_L28 (p1 : Int32) : Nat → Int32 → QMem → Option (Int32 × QMem)
  | 0, _, _ => none
  | n + 1, v2, τ =>
  if 24 ≤ v2 then ((fX12_filled (ms τ 28 15 0)).bind fun xq2 => (some (xq2.1, xq2.2))) else (if ((24 * p1) + v2 < 0 ∨ ml 16 ≤ ((24 * p1) + v2).toNatClampNeg) then none else (if (v2 < 0 ∨ ml 13 ≤ v2.toNatClampNeg) then none else ((fX12_back_L28 p1 n) (v2 + 1) (ms τ 13 v2.toNatClampNeg (τ 16 ((24 * p1) + v2).toNatClampNeg)))))
def fX12_back (p1 : Int32) (σ : QMem) : Option (Int32 × QMem) :=
  (fX12_in p1 0 1).bind fun xq6 => (if xq6 = 0 then (some ((-1002), σ)) else (if (p1 < 0 ∨ ml 15 ≤ p1.toNatClampNeg) then none else (if (σ 15 p1.toNatClampNeg) = 0 then (some ((-1003), σ)) else (fX12_back_L28 p1 FU 0 σ))))
set_option maxHeartbeats 4000000 in
set_option maxRecDepth 100000 in
theorem kX12_back (l : Launch) (D : va_G) (G : xG) (σ : QMem) (p1 : Int32) (res : Int32 × QMem) (h : fX12_back p1 σ = some res) : Met l yX12_back (.code yX12_back cX12_back 3 (some .int) :: lwW) (rmD 3) (mPc D G σ [.ref (G.1 28), .int p1]) (mQi D G res) 0 0 (mA G) := by
  refine Met.ofW (cc := cX12_back) (maxL := 3) (ret := (some .int)) (by decide) rfl ?_
  intro p e s m args below meth c s₁ B hml hv
  obtain ⟨rfl, h0⟩ := hv
  have hx := B.exec
  have hb := B.bytes
  have hr := B.returns
  have hts := fun (w : Cond) (hw : w ∈ lwW) => atoms_spec (ws := (.code yX12_back cX12_back 3 (some .int) :: lwW)) B.pre w (List.mem_cons_of_mem _ hw)
  have hown : s.vm.findClass RX12 = some m.cls := findClass_of_methodNamed B.named
  have hlocks := B.notSynchronized
  have hP := h0.1
  have hK := h0.2.1
  have hi := h0.2.2
  have hS : va_S (mA G) s.heap s.heap [] := va_S.rf
  have hl := lv_entry ([.ref (G.1 28), .int p1]) (n := 3) (Nat.le_of_ble_eq_true rfl)
  rw [lg_entry_eq]
  generalize (lg_sl ([.ref (G.1 28), .int p1]) ++ List.replicate (3 - (lg_sl ([.ref (G.1 28), .int p1])).length) Slot.unset).toArray = ls at hl ⊢
  have hl : lv_has ls 3 [(0, .ref (G.1 28)), (1, .int p1)] := hl
  unfold fX12_back at h
  have L28 : ∀ (n28 : Nat) (v2 : Int32) (τ : QMem) (H : Heap) (locs : List Loc) (ls : Array Slot), fX12_back_L28 p1 n28 v2 τ = some res → va_P D vwCl (mW G τ) H → va_S (mA G) s.heap H locs → lv_has ls 3 [(0, .ref (G.1 28)), (1, .int p1), (2, .int v2)] → W p l e (headSpec (.code yX12_back cX12_back 3 (some .int) :: lwW) (rmD 3)).room s m ([.ref (G.1 28), .int p1] : List Value).toArray below meth c H locs 0 0 (MQ below (mQi D G res) ([.ref (G.1 28), .int p1] : List Value).toArray s 0 0 (mA G)) (F0 m 28 ls []) := by
    intro n28
    induction n28 with
    | zero => intro v2 τ H locs ls h; rw [fX12_back_L28] at h; cases h
    | succ n28 ih28 =>
      intro v2 τ H locs ls h hP hS hl
      rw [fX12_back_L28] at h
      refine lv_iload_n hx hb dX12_back_28 rfl (lv_at hl 2 rfl) ?_
      refine lv_bipush (v := 24) hx hb dX12_back_29 (by decide) ?_
      refine lv_icmp_ge (tgt := 57) hx hb dX12_back_31 (by decide) (fun hcq1 => ?_) (fun hcq1 => ?_)
      · have h := ifp hcq1 h
        refine lv_aload_n hx hb dX12_back_57 rfl (lv_at hl 0 rfl) ?_
        refine lv_iconst (v := 0) hx hb dX12_back_58 (by decide) ?_
        refine va_put (D := D) (ci := 12) (v := .int 0) (ty := .int) (C := RX12) (T := TX12) (N := 34) hx hb hts iwX12 tyX12 tyX12_ok nmX12 hown hK hP (mD hi) hS 28 (mg_2 rfl) rfl 15 (by decide) (hts _ mw_973) (fun _ h9 => h9) rfl (by decide +kernel) rfl rfl (Nat.le_of_ble_eq_true rfl) dX12_back_59 (fun H locs hP hD hS => ?_)
        have hP : va_P D vwCl (mW G (ms τ 28 15 0)) H := by rw [← ms_2_15 rfl]; exact hP
        refine lv_aload_n hx hb dX12_back_62 rfl (lv_at hl 0 rfl) ?_
        obtain ⟨xq2, hfq3, h⟩ := obd h
        refine va_calli (va_runV (As := []) (rest := []) ⟨hx, hb, hml, hown, hts⟩ (kX12_filled l D G _ xq2 hfq3) (cwV 0 hts (lwW_gV mw_1175 mw_1177 ms_42 mw_14 mw_1178) rfl rfl rfl (by decide +kernel) ⟨Nat.le_of_ble_eq_true rfl, Nat.le_of_ble_eq_true rfl⟩) ⟨fun a U g mk q => ⟨q.1, mPre_call q.2⟩, va_recv hK hP rfl (mg_2 rfl), fun U hU hW => ⟨rfl, mPre_at h0 hS hP hU hW⟩⟩ rfl rfl hl.1 rfl (lv_room (Nat.le_of_ble_eq_true rfl)) dX12_back_63 ⟨Nat.zero_le _, Nat.zero_le _⟩) hS (fun q _ h => h) (fun q h => h) (fun r u t H1 locs ht hvm hw hB hz1 hq1 hS => ?_)
        obtain ⟨rfl, rfl⟩ := hw
        have hP := hB.1
        rw [ht] at hP
        refine W.widen (k := 0) (n := 0) (Nat.le_refl _) (Nat.le_refl _) ?_
        obtain rfl := Option.some.inj h
        exact W.iret (v := xq2.1) hx hb hr (fun t ht hW => ⟨⟨_, _, rfl, ⟨rfl, rfl⟩, mPre_at h0 hS hP ht hW⟩, hS.F ht⟩) hS.2.2 dX12_back_66
      have h := ifn hcq1 h
      refine lv_aload_n hx hb dX12_back_34 rfl (lv_at hl 0 rfl) ?_
      refine va_get (D := D) (ci := 12) (v := .ref (G.1 13)) (C := RX12) (T := TX12) (N := 34) hx hb hts iwX12 hown hK hP 28 (mg_2 rfl) rfl 14 (by decide) (hts _ mw_972) (fun _ h9 => h9) rfl dX12_back_35 ?_
      refine lv_iload_n hx hb dX12_back_38 rfl (lv_at hl 2 rfl) ?_
      refine lv_aload_n hx hb dX12_back_39 rfl (lv_at hl 0 rfl) ?_
      refine va_get (D := D) (ci := 12) (v := .ref (G.1 16)) (C := RX12) (T := TX12) (N := 34) hx hb hts iwX12 hown hK hP 28 (mg_2 rfl) rfl 18 (by decide) (hts _ mw_976) (fun _ h9 => h9) rfl dX12_back_40 ?_
      refine lv_bipush (v := 24) hx hb dX12_back_43 (by decide) ?_
      refine lv_iload_n hx hb dX12_back_45 rfl (lv_at hl 1 rfl) ?_
      refine lv_imul hx hb dX12_back_46 ?_
      refine lv_iload_n hx hb dX12_back_47 rfl (lv_at hl 2 rfl) ?_
      refine lv_iadd hx hb dX12_back_48 ?_
      obtain ⟨hiq4, h⟩ := nif h
      refine va_iald hx hb hK hP 16 0 (mg_0 rfl) rfl hiq4 dX12_back_49 ?_
      obtain ⟨hiq5, h⟩ := nif h
      refine va_iast hx hb hK hP (mD hi) hS 13 0 (mg_0 rfl) rfl hiq5 dX12_back_50 (fun H locs hP hD hS => ?_)
      have hP : va_P D vwCl (mW G (ms τ 13 v2.toNatClampNeg (τ 16 ((24 * p1) + v2).toNatClampNeg))) H := by rw [← ms_0x rfl]; exact hP
      refine lv_iinc (v := v2 + 1) (lv' := [(2, .int (v2 + 1)), (0, .ref (G.1 28)), (1, .int p1)]) hx hb dX12_back_51 hl (k := 2) rfl rfl (by decide) rfl (fun ls hl => ?_)
      refine lv_goto (tgt := 28) hx hb dX12_back_54 (by decide) ?_
      exact ih28 (v2 + 1) _ _ _ _ h hP hS (lv_sub hl [1, 2, 0] rfl)
  refine lv_iload_n hx hb dX12_back_0 rfl (lv_at hl 1 rfl) ?_
  refine lv_iconst (v := 0) hx hb dX12_back_1 (by decide) ?_
  refine lv_iconst (v := 1) hx hb dX12_back_2 (by decide) ?_
  obtain ⟨xq6, hfq7, h⟩ := obd h
  refine va_calli (va_runS (As := [.int p1, .int 0, .int 1]) (rest := []) ⟨hx, hb, hml, hown, hts⟩ (kX12_in l p1 0 1 xq6 hfq7) (va_cwS 3 hts (lwW_gS mw_1069 mw_1070 mw_14 mw_1071) rfl rfl rfl (by decide +kernel) ⟨Nat.le_of_ble_eq_true rfl, Nat.le_of_ble_eq_true rfl⟩) ⟨fun a U g mk q => ⟨q.1, trivial⟩, fun U hU hW => ⟨rfl, trivial⟩⟩ rfl rfl hl.1 rfl (lv_room (Nat.le_of_ble_eq_true rfl)) dX12_back_3 ⟨Nat.zero_le _, Nat.zero_le _⟩) hS (fun q _ h => h.elim) (fun q h => h.elim) (fun r u t H1 locs ht hvm hw hB hz1 hq1 hS => ?_)
  obtain rfl := hw.symm
  have hP := mP_kept hP hq1
  refine W.widen (k := 0) (n := 0) (Nat.le_refl _) (Nat.le_refl _) ?_
  refine lv_if_ne (tgt := 13) hx hb dX12_back_6 (by decide) (fun hcq8 => ?_) (fun hcq8 => ?_)
  · have h := ifn hcq8 h
    refine lv_aload_n hx hb dX12_back_13 rfl (lv_at hl 0 rfl) ?_
    refine va_get (D := D) (ci := 12) (v := .ref (G.1 15)) (C := RX12) (T := TX12) (N := 34) hx hb hts iwX12 hown hK hP 28 (mg_2 rfl) rfl 17 (by decide) (hts _ mw_975) (fun _ h9 => h9) rfl dX12_back_14 ?_
    refine lv_iload_n hx hb dX12_back_17 rfl (lv_at hl 1 rfl) ?_
    obtain ⟨hiq9, h⟩ := nif h
    refine va_zald hx hb hK hP 15 1 (mg_1 rfl) rfl hiq9 dX12_back_18 ?_
    refine lv_if_ne (tgt := 26) hx hb dX12_back_19 (by decide) (fun hcq10 => ?_) (fun hcq10 => ?_)
    · have h := ifn hcq10 h
      refine lv_iconst (v := 0) hx hb dX12_back_26 (by decide) ?_
      refine lv_istore_n (lv' := [(2, .int 0), (0, .ref (G.1 28)), (1, .int p1)]) hx hb dX12_back_27 rfl hl (by decide) rfl (fun ls hl => ?_)
      exact L28 FU 0 _ _ _ _ h hP hS (lv_sub hl [1, 2, 0] rfl)
    have h := ifp hcq10 h
    refine lv_sipush (v := (-1003)) hx hb dX12_back_22 (by decide) ?_
    obtain rfl := Option.some.inj h
    exact W.iret (v := (-1003)) hx hb hr (fun t ht hW => ⟨⟨_, _, rfl, ⟨rfl, rfl⟩, mPre_at h0 hS hP ht hW⟩, hS.F ht⟩) hS.2.2 dX12_back_25
  have h := ifp hcq8 h
  refine lv_sipush (v := (-1002)) hx hb dX12_back_9 (by decide) ?_
  obtain rfl := Option.some.inj h
  exact W.iret (v := (-1002)) hx hb hr (fun t ht hW => ⟨⟨_, _, rfl, ⟨rfl, rfl⟩, mPre_at h0 hS hP ht hW⟩, hS.F ht⟩) hS.2.2 dX12_back_12
def fX12_divides (p1 : Int32) (p2 : Int32) (p3 : Int32) (σ : QMem) : Option (Int32 × QMem) :=
  (fX12_isSlot p1).bind fun xq1 => (if xq1 = 0 then (some ((-1001), σ)) else ((fX12_isSlot p2).bind fun xq4 => (if xq4 = 0 then (some ((-1001), σ)) else ((fX12_isSide p3).bind fun xq7 => (if xq7 = 0 then (some ((-1002), σ)) else ((fX12_isEmpty p1 σ).bind fun xq10 => (if xq10.1 = 0 then ((fX12_isDivisor 13 (4 * p1) 13 (4 * p2) p3 xq10.2).bind fun xq13 => (if xq13.1 = 0 then (some (0, xq13.2)) else (some (1, xq13.2)))) else ((fX12_isEmpty p2 xq10.2).bind fun xq16 => (if xq16.1 = 0 then (some (0, xq16.2)) else (some (1, xq16.2)))))))))))
set_option maxHeartbeats 4000000 in
set_option maxRecDepth 100000 in
theorem kX12_divides (l : Launch) (D : va_G) (G : xG) (σ : QMem) (p1 : Int32) (p2 : Int32) (p3 : Int32) (res : Int32 × QMem) (h : fX12_divides p1 p2 p3 σ = some res) : Met l yX12_divides (.code yX12_divides cX12_divides 4 (some .int) :: lwW) (rmD 3) (mPc D G σ [.ref (G.1 28), .int p1, .int p2, .int p3]) (mQi D G res) 0 0 (mA G) := by
  refine Met.ofW (cc := cX12_divides) (maxL := 4) (ret := (some .int)) (by decide) rfl ?_
  intro p e s m args below meth c s₁ B hml hv
  obtain ⟨rfl, h0⟩ := hv
  have hx := B.exec
  have hb := B.bytes
  have hr := B.returns
  have hts := fun (w : Cond) (hw : w ∈ lwW) => atoms_spec (ws := (.code yX12_divides cX12_divides 4 (some .int) :: lwW)) B.pre w (List.mem_cons_of_mem _ hw)
  have hown : s.vm.findClass RX12 = some m.cls := findClass_of_methodNamed B.named
  have hlocks := B.notSynchronized
  have hP := h0.1
  have hK := h0.2.1
  have hi := h0.2.2
  have hS : va_S (mA G) s.heap s.heap [] := va_S.rf
  have hl := lv_entry ([.ref (G.1 28), .int p1, .int p2, .int p3]) (n := 4) (Nat.le_of_ble_eq_true rfl)
  rw [lg_entry_eq]
  generalize (lg_sl ([.ref (G.1 28), .int p1, .int p2, .int p3]) ++ List.replicate (4 - (lg_sl ([.ref (G.1 28), .int p1, .int p2, .int p3])).length) Slot.unset).toArray = ls at hl ⊢
  have hl : lv_has ls 4 [(0, .ref (G.1 28)), (1, .int p1), (2, .int p2), (3, .int p3)] := hl
  unfold fX12_divides at h
  refine lv_iload_n hx hb dX12_divides_0 rfl (lv_at hl 1 rfl) ?_
  obtain ⟨xq1, hfq2, h⟩ := obd h
  refine va_calli (va_runS (As := [.int p1]) (rest := []) ⟨hx, hb, hml, hown, hts⟩ (kX12_isSlot l p1 xq1 hfq2) (va_cwS 1 hts (lwW_gS mw_1066 mw_1067 mw_14 mw_1068) rfl rfl rfl (by decide +kernel) ⟨Nat.le_of_ble_eq_true rfl, Nat.le_of_ble_eq_true rfl⟩) ⟨fun a U g mk q => ⟨q.1, trivial⟩, fun U hU hW => ⟨rfl, trivial⟩⟩ rfl rfl hl.1 rfl (lv_room (Nat.le_of_ble_eq_true rfl)) dX12_divides_1 ⟨Nat.zero_le _, Nat.zero_le _⟩) hS (fun q _ h => h.elim) (fun q h => h.elim) (fun r u t H1 locs ht hvm hw hB hz1 hq1 hS => ?_)
  obtain rfl := hw.symm
  have hP := mP_kept hP hq1
  refine W.widen (k := 0) (n := 0) (Nat.le_refl _) (Nat.le_refl _) ?_
  refine lv_if_eq (tgt := 14) hx hb dX12_divides_4 (by decide) (fun hcq3 => ?_) (fun hcq3 => ?_)
  · have h := ifp hcq3 h
    refine lv_sipush (v := (-1001)) hx hb dX12_divides_14 (by decide) ?_
    obtain rfl := Option.some.inj h
    exact W.iret (v := (-1001)) hx hb hr (fun t ht hW => ⟨⟨_, _, rfl, ⟨rfl, rfl⟩, mPre_at h0 hS hP ht hW⟩, hS.F ht⟩) hS.2.2 dX12_divides_17
  have h := ifn hcq3 h
  refine lv_iload_n hx hb dX12_divides_7 rfl (lv_at hl 2 rfl) ?_
  obtain ⟨xq4, hfq5, h⟩ := obd h
  refine va_calli (va_runS (As := [.int p2]) (rest := []) ⟨hx, hb, hml, hown, hts⟩ (kX12_isSlot l p2 xq4 hfq5) (va_cwS 1 hts (lwW_gS mw_1066 mw_1067 mw_14 mw_1068) rfl rfl rfl (by decide +kernel) ⟨Nat.le_of_ble_eq_true rfl, Nat.le_of_ble_eq_true rfl⟩) ⟨fun a U g mk q => ⟨q.1, trivial⟩, fun U hU hW => ⟨rfl, trivial⟩⟩ rfl rfl hl.1 rfl (lv_room (Nat.le_of_ble_eq_true rfl)) dX12_divides_8 ⟨Nat.zero_le _, Nat.zero_le _⟩) hS (fun q _ h => h.elim) (fun q h => h.elim) (fun r u t H1 locs ht hvm hw hB hz1 hq1 hS => ?_)
  obtain rfl := hw.symm
  have hP := mP_kept hP hq1
  refine W.widen (k := 0) (n := 0) (Nat.le_refl _) (Nat.le_refl _) ?_
  refine lv_if_ne (tgt := 18) hx hb dX12_divides_11 (by decide) (fun hcq6 => ?_) (fun hcq6 => ?_)
  · have h := ifn hcq6 h
    refine lv_iload_n hx hb dX12_divides_18 rfl (lv_at hl 3 rfl) ?_
    obtain ⟨xq7, hfq8, h⟩ := obd h
    refine va_calli (va_runS (As := [.int p3]) (rest := []) ⟨hx, hb, hml, hown, hts⟩ (kX12_isSide l p3 xq7 hfq8) (va_cwS 1 hts (lwW_gS mw_1137 mw_1138 mw_14 mw_1139) rfl rfl rfl (by decide +kernel) ⟨Nat.le_of_ble_eq_true rfl, Nat.le_of_ble_eq_true rfl⟩) ⟨fun a U g mk q => ⟨q.1, trivial⟩, fun U hU hW => ⟨rfl, trivial⟩⟩ rfl rfl hl.1 rfl (lv_room (Nat.le_of_ble_eq_true rfl)) dX12_divides_19 ⟨Nat.zero_le _, Nat.zero_le _⟩) hS (fun q _ h => h.elim) (fun q h => h.elim) (fun r u t H1 locs ht hvm hw hB hz1 hq1 hS => ?_)
    obtain rfl := hw.symm
    have hP := mP_kept hP hq1
    refine W.widen (k := 0) (n := 0) (Nat.le_refl _) (Nat.le_refl _) ?_
    refine lv_if_ne (tgt := 29) hx hb dX12_divides_22 (by decide) (fun hcq9 => ?_) (fun hcq9 => ?_)
    · have h := ifn hcq9 h
      refine lv_aload_n hx hb dX12_divides_29 rfl (lv_at hl 0 rfl) ?_
      refine lv_iload_n hx hb dX12_divides_30 rfl (lv_at hl 1 rfl) ?_
      obtain ⟨xq10, hfq11, h⟩ := obd h
      refine va_calli (va_runV (As := [.int p1]) (rest := []) ⟨hx, hb, hml, hown, hts⟩ (kX12_isEmpty l D G _ p1 xq10 hfq11) (cwV 1 hts (lwW_gV mw_1076 mw_1078 ms_30 mw_14 mw_1079) rfl rfl rfl (by decide +kernel) ⟨Nat.le_of_ble_eq_true rfl, Nat.le_of_ble_eq_true rfl⟩) ⟨fun a U g mk q => ⟨q.1, mPre_call q.2⟩, va_recv hK hP rfl (mg_2 rfl), fun U hU hW => ⟨rfl, mPre_at h0 hS hP hU hW⟩⟩ rfl rfl hl.1 rfl (lv_room (Nat.le_of_ble_eq_true rfl)) dX12_divides_31 ⟨Nat.zero_le _, Nat.zero_le _⟩) hS (fun q _ h => h) (fun q h => h) (fun r u t H1 locs ht hvm hw hB hz1 hq1 hS => ?_)
      obtain ⟨rfl, rfl⟩ := hw
      have hP := hB.1
      rw [ht] at hP
      refine W.widen (k := 0) (n := 0) (Nat.le_refl _) (Nat.le_refl _) ?_
      refine lv_if_eq (tgt := 51) hx hb dX12_divides_34 (by decide) (fun hcq12 => ?_) (fun hcq12 => ?_)
      · have h := ifp hcq12 h
        refine lv_aload_n hx hb dX12_divides_51 rfl (lv_at hl 0 rfl) ?_
        refine lv_aload_n hx hb dX12_divides_52 rfl (lv_at hl 0 rfl) ?_
        refine va_get (D := D) (ci := 12) (v := .ref (G.1 13)) (C := RX12) (T := TX12) (N := 34) hx hb hts iwX12 hown hK hP 28 (mg_2 rfl) rfl 14 (by decide) (hts _ mw_972) (fun _ h9 => h9) rfl dX12_divides_53 ?_
        refine lv_iconst (v := 4) hx hb dX12_divides_56 (by decide) ?_
        refine lv_iload_n hx hb dX12_divides_57 rfl (lv_at hl 1 rfl) ?_
        refine lv_imul hx hb dX12_divides_58 ?_
        refine lv_aload_n hx hb dX12_divides_59 rfl (lv_at hl 0 rfl) ?_
        refine va_get (D := D) (ci := 12) (v := .ref (G.1 13)) (C := RX12) (T := TX12) (N := 34) hx hb hts iwX12 hown hK hP 28 (mg_2 rfl) rfl 14 (by decide) (hts _ mw_972) (fun _ h9 => h9) rfl dX12_divides_60 ?_
        refine lv_iconst (v := 4) hx hb dX12_divides_63 (by decide) ?_
        refine lv_iload_n hx hb dX12_divides_64 rfl (lv_at hl 2 rfl) ?_
        refine lv_imul hx hb dX12_divides_65 ?_
        refine lv_iload_n hx hb dX12_divides_66 rfl (lv_at hl 3 rfl) ?_
        obtain ⟨xq13, hfq14, h⟩ := obd h
        refine va_calli (va_runV (As := [.ref (G.1 13), .int (4 * p1), .ref (G.1 13), .int (4 * p2), .int p3]) (rest := []) ⟨hx, hb, hml, hown, hts⟩ (kX12_isDivisor l D G _ 13 rfl (4 * p1) 13 rfl (4 * p2) p3 xq13 hfq14) (cwV 5 hts (lwW_gV mw_932 mw_934 ms_28 mw_14 mw_935) rfl rfl rfl (by decide +kernel) ⟨Nat.le_of_ble_eq_true rfl, Nat.le_of_ble_eq_true rfl⟩) ⟨fun a U g mk q => ⟨q.1, mPre_call q.2⟩, va_recv hK hP rfl (mg_2 rfl), fun U hU hW => ⟨rfl, mPre_at h0 hS hP hU hW⟩⟩ rfl rfl hl.1 rfl (lv_room (Nat.le_of_ble_eq_true rfl)) dX12_divides_67 ⟨Nat.zero_le _, Nat.zero_le _⟩) hS (fun q _ h => h) (fun q h => h) (fun r u t H1 locs ht hvm hw hB hz1 hq1 hS => ?_)
        obtain ⟨rfl, rfl⟩ := hw
        have hP := hB.1
        rw [ht] at hP
        refine W.widen (k := 0) (n := 0) (Nat.le_refl _) (Nat.le_refl _) ?_
        refine lv_if_eq (tgt := 77) hx hb dX12_divides_70 (by decide) (fun hcq15 => ?_) (fun hcq15 => ?_)
        · have h := ifp hcq15 h
          refine lv_iconst (v := 0) hx hb dX12_divides_77 (by decide) ?_
          obtain rfl := Option.some.inj h
          exact W.iret (v := 0) hx hb hr (fun t ht hW => ⟨⟨_, _, rfl, ⟨rfl, rfl⟩, mPre_at h0 hS hP ht hW⟩, hS.F ht⟩) hS.2.2 dX12_divides_78
        have h := ifn hcq15 h
        refine lv_iconst (v := 1) hx hb dX12_divides_73 (by decide) ?_
        refine lv_goto (tgt := 78) hx hb dX12_divides_74 (by decide) ?_
        obtain rfl := Option.some.inj h
        exact W.iret (v := 1) hx hb hr (fun t ht hW => ⟨⟨_, _, rfl, ⟨rfl, rfl⟩, mPre_at h0 hS hP ht hW⟩, hS.F ht⟩) hS.2.2 dX12_divides_78
      have h := ifn hcq12 h
      refine lv_aload_n hx hb dX12_divides_37 rfl (lv_at hl 0 rfl) ?_
      refine lv_iload_n hx hb dX12_divides_38 rfl (lv_at hl 2 rfl) ?_
      obtain ⟨xq16, hfq17, h⟩ := obd h
      refine va_calli (va_runV (As := [.int p2]) (rest := []) ⟨hx, hb, hml, hown, hts⟩ (kX12_isEmpty l D G _ p2 xq16 hfq17) (cwV 1 hts (lwW_gV mw_1076 mw_1078 ms_30 mw_14 mw_1079) rfl rfl rfl (by decide +kernel) ⟨Nat.le_of_ble_eq_true rfl, Nat.le_of_ble_eq_true rfl⟩) ⟨fun a U g mk q => ⟨q.1, mPre_call q.2⟩, va_recv hK hP rfl (mg_2 rfl), fun U hU hW => ⟨rfl, mPre_at h0 hS hP hU hW⟩⟩ rfl rfl hl.1 rfl (lv_room (Nat.le_of_ble_eq_true rfl)) dX12_divides_39 ⟨Nat.zero_le _, Nat.zero_le _⟩) hS (fun q _ h => h) (fun q h => h) (fun r u t H1 locs ht hvm hw hB hz1 hq1 hS => ?_)
      obtain ⟨rfl, rfl⟩ := hw
      have hP := hB.1
      rw [ht] at hP
      refine W.widen (k := 0) (n := 0) (Nat.le_refl _) (Nat.le_refl _) ?_
      refine lv_if_eq (tgt := 49) hx hb dX12_divides_42 (by decide) (fun hcq18 => ?_) (fun hcq18 => ?_)
      · have h := ifp hcq18 h
        refine lv_iconst (v := 0) hx hb dX12_divides_49 (by decide) ?_
        obtain rfl := Option.some.inj h
        exact W.iret (v := 0) hx hb hr (fun t ht hW => ⟨⟨_, _, rfl, ⟨rfl, rfl⟩, mPre_at h0 hS hP ht hW⟩, hS.F ht⟩) hS.2.2 dX12_divides_50
      have h := ifn hcq18 h
      refine lv_iconst (v := 1) hx hb dX12_divides_45 (by decide) ?_
      refine lv_goto (tgt := 50) hx hb dX12_divides_46 (by decide) ?_
      obtain rfl := Option.some.inj h
      exact W.iret (v := 1) hx hb hr (fun t ht hW => ⟨⟨_, _, rfl, ⟨rfl, rfl⟩, mPre_at h0 hS hP ht hW⟩, hS.F ht⟩) hS.2.2 dX12_divides_50
    have h := ifp hcq9 h
    refine lv_sipush (v := (-1002)) hx hb dX12_divides_25 (by decide) ?_
    obtain rfl := Option.some.inj h
    exact W.iret (v := (-1002)) hx hb hr (fun t ht hW => ⟨⟨_, _, rfl, ⟨rfl, rfl⟩, mPre_at h0 hS hP ht hW⟩, hS.F ht⟩) hS.2.2 dX12_divides_28
  have h := ifp hcq6 h
  refine lv_sipush (v := (-1001)) hx hb dX12_divides_14 (by decide) ?_
  obtain rfl := Option.some.inj h
  exact W.iret (v := (-1001)) hx hb hr (fun t ht hW => ⟨⟨_, _, rfl, ⟨rfl, rfl⟩, mPre_at h0 hS hP ht hW⟩, hS.F ht⟩) hS.2.2 dX12_divides_17
def fX12_nearest (p1 : Int32) (p2 : Int32) (p3 : Int32) (p4 : Int32) (σ : QMem) : Option (Int32 × QMem) :=
  (fX12_isSlot p1).bind fun xq1 => (if xq1 = 0 then (some ((-1001), σ)) else ((fX12_isSlot p2).bind fun xq4 => (if xq4 = 0 then (some ((-1001), σ)) else ((fX12_isSide p3).bind fun xq7 => (if xq7 = 0 then (some ((-1002), σ)) else ((fX12_in p4 0 8).bind fun xq10 => (if xq10 = 0 then (some ((-1002), σ)) else ((fX12_isEmpty p2 σ).bind fun xq13 => (if xq13.1 = 0 then ((fX12_laysNearest 13 (4 * p1) 13 (4 * p2) p3 xq13.2).bind fun xq16 => (if 4 ≤ p4 then (if 8 ≤ p4 then ((fX12_normOf 9 0 xq16).bind fun xq20 => (some (xq20.1, xq20.2))) else (if (p4 - 4 < 0 ∨ ml 9 ≤ (p4 - 4).toNatClampNeg) then none else (some (xq16 9 (p4 - 4).toNatClampNeg, xq16)))) else (if (p4 < 0 ∨ ml 8 ≤ p4.toNatClampNeg) then none else (some (xq16 8 p4.toNatClampNeg, xq16))))) else (some ((-1003), xq13.2)))))))))))
set_option maxHeartbeats 4000000 in
set_option maxRecDepth 100000 in
theorem kX12_nearest (l : Launch) (D : va_G) (G : xG) (σ : QMem) (p1 : Int32) (p2 : Int32) (p3 : Int32) (p4 : Int32) (res : Int32 × QMem) (h : fX12_nearest p1 p2 p3 p4 σ = some res) : Met l yX12_nearest (.code yX12_nearest cX12_nearest 5 (some .int) :: lwW) (rmD 4) (mPc D G σ [.ref (G.1 28), .int p1, .int p2, .int p3, .int p4]) (mQi D G res) 0 0 (mA G) := by
  refine Met.ofW (cc := cX12_nearest) (maxL := 5) (ret := (some .int)) (by decide) rfl ?_
  intro p e s m args below meth c s₁ B hml hv
  obtain ⟨rfl, h0⟩ := hv
  have hx := B.exec
  have hb := B.bytes
  have hr := B.returns
  have hts := fun (w : Cond) (hw : w ∈ lwW) => atoms_spec (ws := (.code yX12_nearest cX12_nearest 5 (some .int) :: lwW)) B.pre w (List.mem_cons_of_mem _ hw)
  have hown : s.vm.findClass RX12 = some m.cls := findClass_of_methodNamed B.named
  have hlocks := B.notSynchronized
  have hP := h0.1
  have hK := h0.2.1
  have hi := h0.2.2
  have hS : va_S (mA G) s.heap s.heap [] := va_S.rf
  have hl := lv_entry ([.ref (G.1 28), .int p1, .int p2, .int p3, .int p4]) (n := 5) (Nat.le_of_ble_eq_true rfl)
  rw [lg_entry_eq]
  generalize (lg_sl ([.ref (G.1 28), .int p1, .int p2, .int p3, .int p4]) ++ List.replicate (5 - (lg_sl ([.ref (G.1 28), .int p1, .int p2, .int p3, .int p4])).length) Slot.unset).toArray = ls at hl ⊢
  have hl : lv_has ls 5 [(0, .ref (G.1 28)), (1, .int p1), (2, .int p2), (3, .int p3), (4, .int p4)] := hl
  unfold fX12_nearest at h
  refine lv_iload_n hx hb dX12_nearest_0 rfl (lv_at hl 1 rfl) ?_
  obtain ⟨xq1, hfq2, h⟩ := obd h
  refine va_calli (va_runS (As := [.int p1]) (rest := []) ⟨hx, hb, hml, hown, hts⟩ (kX12_isSlot l p1 xq1 hfq2) (va_cwS 1 hts (lwW_gS mw_1066 mw_1067 mw_14 mw_1068) rfl rfl rfl (by decide +kernel) ⟨Nat.le_of_ble_eq_true rfl, Nat.le_of_ble_eq_true rfl⟩) ⟨fun a U g mk q => ⟨q.1, trivial⟩, fun U hU hW => ⟨rfl, trivial⟩⟩ rfl rfl hl.1 rfl (lv_room (Nat.le_of_ble_eq_true rfl)) dX12_nearest_1 ⟨Nat.zero_le _, Nat.zero_le _⟩) hS (fun q _ h => h.elim) (fun q h => h.elim) (fun r u t H1 locs ht hvm hw hB hz1 hq1 hS => ?_)
  obtain rfl := hw.symm
  have hP := mP_kept hP hq1
  refine W.widen (k := 0) (n := 0) (Nat.le_refl _) (Nat.le_refl _) ?_
  refine lv_if_eq (tgt := 14) hx hb dX12_nearest_4 (by decide) (fun hcq3 => ?_) (fun hcq3 => ?_)
  · have h := ifp hcq3 h
    refine lv_sipush (v := (-1001)) hx hb dX12_nearest_14 (by decide) ?_
    obtain rfl := Option.some.inj h
    exact W.iret (v := (-1001)) hx hb hr (fun t ht hW => ⟨⟨_, _, rfl, ⟨rfl, rfl⟩, mPre_at h0 hS hP ht hW⟩, hS.F ht⟩) hS.2.2 dX12_nearest_17
  have h := ifn hcq3 h
  refine lv_iload_n hx hb dX12_nearest_7 rfl (lv_at hl 2 rfl) ?_
  obtain ⟨xq4, hfq5, h⟩ := obd h
  refine va_calli (va_runS (As := [.int p2]) (rest := []) ⟨hx, hb, hml, hown, hts⟩ (kX12_isSlot l p2 xq4 hfq5) (va_cwS 1 hts (lwW_gS mw_1066 mw_1067 mw_14 mw_1068) rfl rfl rfl (by decide +kernel) ⟨Nat.le_of_ble_eq_true rfl, Nat.le_of_ble_eq_true rfl⟩) ⟨fun a U g mk q => ⟨q.1, trivial⟩, fun U hU hW => ⟨rfl, trivial⟩⟩ rfl rfl hl.1 rfl (lv_room (Nat.le_of_ble_eq_true rfl)) dX12_nearest_8 ⟨Nat.zero_le _, Nat.zero_le _⟩) hS (fun q _ h => h.elim) (fun q h => h.elim) (fun r u t H1 locs ht hvm hw hB hz1 hq1 hS => ?_)
  obtain rfl := hw.symm
  have hP := mP_kept hP hq1
  refine W.widen (k := 0) (n := 0) (Nat.le_refl _) (Nat.le_refl _) ?_
  refine lv_if_ne (tgt := 18) hx hb dX12_nearest_11 (by decide) (fun hcq6 => ?_) (fun hcq6 => ?_)
  · have h := ifn hcq6 h
    refine lv_iload_n hx hb dX12_nearest_18 rfl (lv_at hl 3 rfl) ?_
    obtain ⟨xq7, hfq8, h⟩ := obd h
    refine va_calli (va_runS (As := [.int p3]) (rest := []) ⟨hx, hb, hml, hown, hts⟩ (kX12_isSide l p3 xq7 hfq8) (va_cwS 1 hts (lwW_gS mw_1137 mw_1138 mw_14 mw_1139) rfl rfl rfl (by decide +kernel) ⟨Nat.le_of_ble_eq_true rfl, Nat.le_of_ble_eq_true rfl⟩) ⟨fun a U g mk q => ⟨q.1, trivial⟩, fun U hU hW => ⟨rfl, trivial⟩⟩ rfl rfl hl.1 rfl (lv_room (Nat.le_of_ble_eq_true rfl)) dX12_nearest_19 ⟨Nat.zero_le _, Nat.zero_le _⟩) hS (fun q _ h => h.elim) (fun q h => h.elim) (fun r u t H1 locs ht hvm hw hB hz1 hq1 hS => ?_)
    obtain rfl := hw.symm
    have hP := mP_kept hP hq1
    refine W.widen (k := 0) (n := 0) (Nat.le_refl _) (Nat.le_refl _) ?_
    refine lv_if_eq (tgt := 36) hx hb dX12_nearest_22 (by decide) (fun hcq9 => ?_) (fun hcq9 => ?_)
    · have h := ifp hcq9 h
      refine lv_sipush (v := (-1002)) hx hb dX12_nearest_36 (by decide) ?_
      obtain rfl := Option.some.inj h
      exact W.iret (v := (-1002)) hx hb hr (fun t ht hW => ⟨⟨_, _, rfl, ⟨rfl, rfl⟩, mPre_at h0 hS hP ht hW⟩, hS.F ht⟩) hS.2.2 dX12_nearest_39
    have h := ifn hcq9 h
    refine lv_iload hx hb dX12_nearest_25 (lv_at hl 4 rfl) ?_
    refine lv_iconst (v := 0) hx hb dX12_nearest_27 (by decide) ?_
    refine lv_bipush (v := 8) hx hb dX12_nearest_28 (by decide) ?_
    obtain ⟨xq10, hfq11, h⟩ := obd h
    refine va_calli (va_runS (As := [.int p4, .int 0, .int 8]) (rest := []) ⟨hx, hb, hml, hown, hts⟩ (kX12_in l p4 0 8 xq10 hfq11) (va_cwS 3 hts (lwW_gS mw_1069 mw_1070 mw_14 mw_1071) rfl rfl rfl (by decide +kernel) ⟨Nat.le_of_ble_eq_true rfl, Nat.le_of_ble_eq_true rfl⟩) ⟨fun a U g mk q => ⟨q.1, trivial⟩, fun U hU hW => ⟨rfl, trivial⟩⟩ rfl rfl hl.1 rfl (lv_room (Nat.le_of_ble_eq_true rfl)) dX12_nearest_30 ⟨Nat.zero_le _, Nat.zero_le _⟩) hS (fun q _ h => h.elim) (fun q h => h.elim) (fun r u t H1 locs ht hvm hw hB hz1 hq1 hS => ?_)
    obtain rfl := hw.symm
    have hP := mP_kept hP hq1
    refine W.widen (k := 0) (n := 0) (Nat.le_refl _) (Nat.le_refl _) ?_
    refine lv_if_ne (tgt := 40) hx hb dX12_nearest_33 (by decide) (fun hcq12 => ?_) (fun hcq12 => ?_)
    · have h := ifn hcq12 h
      refine lv_aload_n hx hb dX12_nearest_40 rfl (lv_at hl 0 rfl) ?_
      refine lv_iload_n hx hb dX12_nearest_41 rfl (lv_at hl 2 rfl) ?_
      obtain ⟨xq13, hfq14, h⟩ := obd h
      refine va_calli (va_runV (As := [.int p2]) (rest := []) ⟨hx, hb, hml, hown, hts⟩ (kX12_isEmpty l D G _ p2 xq13 hfq14) (cwV 1 hts (lwW_gV mw_1076 mw_1078 ms_30 mw_14 mw_1079) rfl rfl rfl (by decide +kernel) ⟨Nat.le_of_ble_eq_true rfl, Nat.le_of_ble_eq_true rfl⟩) ⟨fun a U g mk q => ⟨q.1, mPre_call q.2⟩, va_recv hK hP rfl (mg_2 rfl), fun U hU hW => ⟨rfl, mPre_at h0 hS hP hU hW⟩⟩ rfl rfl hl.1 rfl (lv_room (Nat.le_of_ble_eq_true rfl)) dX12_nearest_42 ⟨Nat.zero_le _, Nat.zero_le _⟩) hS (fun q _ h => h) (fun q h => h) (fun r u t H1 locs ht hvm hw hB hz1 hq1 hS => ?_)
      obtain ⟨rfl, rfl⟩ := hw
      have hP := hB.1
      rw [ht] at hP
      refine W.widen (k := 0) (n := 0) (Nat.le_refl _) (Nat.le_refl _) ?_
      refine lv_if_eq (tgt := 52) hx hb dX12_nearest_45 (by decide) (fun hcq15 => ?_) (fun hcq15 => ?_)
      · have h := ifp hcq15 h
        refine lv_aload_n hx hb dX12_nearest_52 rfl (lv_at hl 0 rfl) ?_
        refine lv_aload_n hx hb dX12_nearest_53 rfl (lv_at hl 0 rfl) ?_
        refine va_get (D := D) (ci := 12) (v := .ref (G.1 13)) (C := RX12) (T := TX12) (N := 34) hx hb hts iwX12 hown hK hP 28 (mg_2 rfl) rfl 14 (by decide) (hts _ mw_972) (fun _ h9 => h9) rfl dX12_nearest_54 ?_
        refine lv_iconst (v := 4) hx hb dX12_nearest_57 (by decide) ?_
        refine lv_iload_n hx hb dX12_nearest_58 rfl (lv_at hl 1 rfl) ?_
        refine lv_imul hx hb dX12_nearest_59 ?_
        refine lv_aload_n hx hb dX12_nearest_60 rfl (lv_at hl 0 rfl) ?_
        refine va_get (D := D) (ci := 12) (v := .ref (G.1 13)) (C := RX12) (T := TX12) (N := 34) hx hb hts iwX12 hown hK hP 28 (mg_2 rfl) rfl 14 (by decide) (hts _ mw_972) (fun _ h9 => h9) rfl dX12_nearest_61 ?_
        refine lv_iconst (v := 4) hx hb dX12_nearest_64 (by decide) ?_
        refine lv_iload_n hx hb dX12_nearest_65 rfl (lv_at hl 2 rfl) ?_
        refine lv_imul hx hb dX12_nearest_66 ?_
        refine lv_iload_n hx hb dX12_nearest_67 rfl (lv_at hl 3 rfl) ?_
        obtain ⟨xq16, hfq17, h⟩ := obd h
        refine va_callv (va_runV (As := [.ref (G.1 13), .int (4 * p1), .ref (G.1 13), .int (4 * p2), .int p3]) (rest := []) ⟨hx, hb, hml, hown, hts⟩ (kX12_laysNearest l D G _ 13 rfl (4 * p1) 13 rfl (4 * p2) p3 xq16 hfq17) (cwV 5 hts (lwW_gV mw_1152 mw_1154 ms_40 mw_14 mw_1155) rfl rfl rfl (by decide +kernel) ⟨Nat.le_of_ble_eq_true rfl, Nat.le_of_ble_eq_true rfl⟩) ⟨fun a U g mk q => ⟨q.1, mPre_call q.2⟩, va_recv hK hP rfl (mg_2 rfl), fun U hU hW => ⟨rfl, mPre_at h0 hS hP hU hW⟩⟩ rfl rfl hl.1 rfl (lv_room (Nat.le_of_ble_eq_true rfl)) dX12_nearest_68 ⟨Nat.zero_le _, Nat.zero_le _⟩) hS (fun q _ h => h) (fun q h => h) (fun u t H1 locs ht hvm hw hB hz1 hq1 hS => ?_)
        obtain rfl := hw.symm
        have hP := hB.1
        rw [ht] at hP
        refine W.widen (k := 0) (n := 0) (Nat.le_refl _) (Nat.le_refl _) ?_
        refine lv_iload hx hb dX12_nearest_71 (lv_at hl 4 rfl) ?_
        refine lv_iconst (v := 4) hx hb dX12_nearest_73 (by decide) ?_
        refine lv_icmp_ge (tgt := 87) hx hb dX12_nearest_74 (by decide) (fun hcq18 => ?_) (fun hcq18 => ?_)
        · have h := ifp hcq18 h
          refine lv_iload hx hb dX12_nearest_87 (lv_at hl 4 rfl) ?_
          refine lv_bipush (v := 8) hx hb dX12_nearest_89 (by decide) ?_
          refine lv_icmp_ge (tgt := 106) hx hb dX12_nearest_91 (by decide) (fun hcq19 => ?_) (fun hcq19 => ?_)
          · have h := ifp hcq19 h
            refine lv_aload_n hx hb dX12_nearest_106 rfl (lv_at hl 0 rfl) ?_
            refine va_get (D := D) (ci := 12) (v := .ref (G.1 9)) (C := RX12) (T := TX12) (N := 34) hx hb hts iwX12 hown hK hP 28 (mg_2 rfl) rfl 10 (by decide) (hts _ mw_968) (fun _ h9 => h9) rfl dX12_nearest_107 ?_
            refine lv_iconst (v := 0) hx hb dX12_nearest_110 (by decide) ?_
            obtain ⟨xq20, hfq21, h⟩ := obd h
            refine va_calli (va_runS (As := [.ref (G.1 9), .int 0]) (rest := []) ⟨hx, hb, hml, hown, hts⟩ (kX12_normOf l D G _ 9 rfl 0 xq20 hfq21) (va_cwS 2 hts (lwW_gS mw_936 mw_937 mw_14 mw_938) rfl rfl rfl (by decide +kernel) ⟨Nat.le_of_ble_eq_true rfl, Nat.le_of_ble_eq_true rfl⟩) ⟨fun a U g mk q => ⟨q.1, mPre_call q.2⟩, fun U hU hW => ⟨rfl, mPre_at h0 hS hP hU hW⟩⟩ rfl rfl hl.1 rfl (lv_room (Nat.le_of_ble_eq_true rfl)) dX12_nearest_111 ⟨Nat.zero_le _, Nat.zero_le _⟩) hS (fun q _ h => h) (fun q h => h) (fun r u t H1 locs ht hvm hw hB hz1 hq1 hS => ?_)
            obtain ⟨rfl, rfl⟩ := hw
            have hP := hB.1
            rw [ht] at hP
            refine W.widen (k := 0) (n := 0) (Nat.le_refl _) (Nat.le_refl _) ?_
            obtain rfl := Option.some.inj h
            exact W.iret (v := xq20.1) hx hb hr (fun t ht hW => ⟨⟨_, _, rfl, ⟨rfl, rfl⟩, mPre_at h0 hS hP ht hW⟩, hS.F ht⟩) hS.2.2 dX12_nearest_114
          have h := ifn hcq19 h
          refine lv_aload_n hx hb dX12_nearest_94 rfl (lv_at hl 0 rfl) ?_
          refine va_get (D := D) (ci := 12) (v := .ref (G.1 9)) (C := RX12) (T := TX12) (N := 34) hx hb hts iwX12 hown hK hP 28 (mg_2 rfl) rfl 10 (by decide) (hts _ mw_968) (fun _ h9 => h9) rfl dX12_nearest_95 ?_
          refine lv_iload hx hb dX12_nearest_98 (lv_at hl 4 rfl) ?_
          refine lv_iconst (v := 4) hx hb dX12_nearest_100 (by decide) ?_
          refine lv_isub hx hb dX12_nearest_101 ?_
          obtain ⟨hiq22, h⟩ := nif h
          refine va_iald hx hb hK hP 9 0 (mg_0 rfl) rfl hiq22 dX12_nearest_102 ?_
          refine lv_goto (tgt := 114) hx hb dX12_nearest_103 (by decide) ?_
          obtain rfl := Option.some.inj h
          exact W.iret (v := xq16 9 (p4 - 4).toNatClampNeg) hx hb hr (fun t ht hW => ⟨⟨_, _, rfl, ⟨rfl, rfl⟩, mPre_at h0 hS hP ht hW⟩, hS.F ht⟩) hS.2.2 dX12_nearest_114
        have h := ifn hcq18 h
        refine lv_aload_n hx hb dX12_nearest_77 rfl (lv_at hl 0 rfl) ?_
        refine va_get (D := D) (ci := 12) (v := .ref (G.1 8)) (C := RX12) (T := TX12) (N := 34) hx hb hts iwX12 hown hK hP 28 (mg_2 rfl) rfl 9 (by decide) (hts _ mw_967) (fun _ h9 => h9) rfl dX12_nearest_78 ?_
        refine lv_iload hx hb dX12_nearest_81 (lv_at hl 4 rfl) ?_
        obtain ⟨hiq23, h⟩ := nif h
        refine va_iald hx hb hK hP 8 0 (mg_0 rfl) rfl hiq23 dX12_nearest_83 ?_
        refine lv_goto (tgt := 114) hx hb dX12_nearest_84 (by decide) ?_
        obtain rfl := Option.some.inj h
        exact W.iret (v := xq16 8 p4.toNatClampNeg) hx hb hr (fun t ht hW => ⟨⟨_, _, rfl, ⟨rfl, rfl⟩, mPre_at h0 hS hP ht hW⟩, hS.F ht⟩) hS.2.2 dX12_nearest_114
      have h := ifn hcq15 h
      refine lv_sipush (v := (-1003)) hx hb dX12_nearest_48 (by decide) ?_
      obtain rfl := Option.some.inj h
      exact W.iret (v := (-1003)) hx hb hr (fun t ht hW => ⟨⟨_, _, rfl, ⟨rfl, rfl⟩, mPre_at h0 hS hP ht hW⟩, hS.F ht⟩) hS.2.2 dX12_nearest_51
    have h := ifp hcq12 h
    refine lv_sipush (v := (-1002)) hx hb dX12_nearest_36 (by decide) ?_
    obtain rfl := Option.some.inj h
    exact W.iret (v := (-1002)) hx hb hr (fun t ht hW => ⟨⟨_, _, rfl, ⟨rfl, rfl⟩, mPre_at h0 hS hP ht hW⟩, hS.F ht⟩) hS.2.2 dX12_nearest_39
  have h := ifp hcq6 h
  refine lv_sipush (v := (-1001)) hx hb dX12_nearest_14 (by decide) ?_
  obtain rfl := Option.some.inj h
  exact W.iret (v := (-1001)) hx hb hr (fun t ht hW => ⟨⟨_, _, rfl, ⟨rfl, rfl⟩, mPre_at h0 hS hP ht hW⟩, hS.F ht⟩) hS.2.2 dX12_nearest_17
def fX12_steps_L62 (p1 : Int32) (p2 : Int32) (p3 : Int32) : Nat → Int32 → QMem → Option (Int32 × QMem)
  | 0, _, _ => none
  | n + 1, v4, τ =>
  (fX12_isNought 22 0 τ).bind fun xq1 => (if xq1.1 = 0 then ((fX12_laysNearest 21 0 22 0 p3 xq1.2).bind fun xq4 => ((fX12_copies 22 0 21 0 xq4).bind fun xq6 => ((fX12_copies 9 0 22 0 xq6).bind fun xq8 => ((fX12_steps_L62 p1 p2 p3 n) (v4 + 1) xq8)))) else (some (v4, xq1.2)))
def fX12_steps (p1 : Int32) (p2 : Int32) (p3 : Int32) (σ : QMem) : Option (Int32 × QMem) :=
  (fX12_isSlot p1).bind fun xq10 => (if xq10 = 0 then (some ((-1001), σ)) else ((fX12_isSlot p2).bind fun xq13 => (if xq13 = 0 then (some ((-1001), σ)) else ((fX12_isSide p3).bind fun xq16 => (if xq16 = 0 then (some ((-1002), σ)) else ((fX12_copies 13 (4 * p1) 21 0 σ).bind fun xq19 => ((fX12_copies 13 (4 * p2) 22 0 xq19).bind fun xq21 => (fX12_steps_L62 p1 p2 p3 FU 0 xq21))))))))
set_option maxHeartbeats 4000000 in
set_option maxRecDepth 100000 in
theorem kX12_steps (l : Launch) (D : va_G) (G : xG) (σ : QMem) (p1 : Int32) (p2 : Int32) (p3 : Int32) (res : Int32 × QMem) (h : fX12_steps p1 p2 p3 σ = some res) : Met l yX12_steps (.code yX12_steps cX12_steps 5 (some .int) :: lwW) (rmD 4) (mPc D G σ [.ref (G.1 28), .int p1, .int p2, .int p3]) (mQi D G res) 0 0 (mA G) := by
  refine Met.ofW (cc := cX12_steps) (maxL := 5) (ret := (some .int)) (by decide) rfl ?_
  intro p e s m args below meth c s₁ B hml hv
  obtain ⟨rfl, h0⟩ := hv
  have hx := B.exec
  have hb := B.bytes
  have hr := B.returns
  have hts := fun (w : Cond) (hw : w ∈ lwW) => atoms_spec (ws := (.code yX12_steps cX12_steps 5 (some .int) :: lwW)) B.pre w (List.mem_cons_of_mem _ hw)
  have hown : s.vm.findClass RX12 = some m.cls := findClass_of_methodNamed B.named
  have hlocks := B.notSynchronized
  have hP := h0.1
  have hK := h0.2.1
  have hi := h0.2.2
  have hS : va_S (mA G) s.heap s.heap [] := va_S.rf
  have hl := lv_entry ([.ref (G.1 28), .int p1, .int p2, .int p3]) (n := 5) (Nat.le_of_ble_eq_true rfl)
  rw [lg_entry_eq]
  generalize (lg_sl ([.ref (G.1 28), .int p1, .int p2, .int p3]) ++ List.replicate (5 - (lg_sl ([.ref (G.1 28), .int p1, .int p2, .int p3])).length) Slot.unset).toArray = ls at hl ⊢
  have hl : lv_has ls 5 [(0, .ref (G.1 28)), (1, .int p1), (2, .int p2), (3, .int p3)] := hl
  unfold fX12_steps at h
  have L62 : ∀ (n62 : Nat) (v4 : Int32) (τ : QMem) (H : Heap) (locs : List Loc) (ls : Array Slot), fX12_steps_L62 p1 p2 p3 n62 v4 τ = some res → va_P D vwCl (mW G τ) H → va_S (mA G) s.heap H locs → lv_has ls 5 [(0, .ref (G.1 28)), (3, .int p3), (4, .int v4)] → W p l e (headSpec (.code yX12_steps cX12_steps 5 (some .int) :: lwW) (rmD 4)).room s m ([.ref (G.1 28), .int p1, .int p2, .int p3] : List Value).toArray below meth c H locs 0 0 (MQ below (mQi D G res) ([.ref (G.1 28), .int p1, .int p2, .int p3] : List Value).toArray s 0 0 (mA G)) (F0 m 62 ls []) := by
    intro n62
    induction n62 with
    | zero => intro v4 τ H locs ls h; rw [fX12_steps_L62] at h; cases h
    | succ n62 ih62 =>
      intro v4 τ H locs ls h hP hS hl
      rw [fX12_steps_L62] at h
      refine lv_aload_n hx hb dX12_steps_62 rfl (lv_at hl 0 rfl) ?_
      refine va_get (D := D) (ci := 12) (v := .ref (G.1 22)) (C := RX12) (T := TX12) (N := 34) hx hb hts iwX12 hown hK hP 28 (mg_2 rfl) rfl 24 (by decide) (hts _ mw_982) (fun _ h9 => h9) rfl dX12_steps_63 ?_
      refine lv_iconst (v := 0) hx hb dX12_steps_66 (by decide) ?_
      obtain ⟨xq1, hfq2, h⟩ := obd h
      refine va_calli (va_runS (As := [.ref (G.1 22), .int 0]) (rest := []) ⟨hx, hb, hml, hown, hts⟩ (kX12_isNought l D G _ 22 rfl 0 xq1 hfq2) (va_cwS 2 hts (lwW_gS mw_1080 mw_1081 mw_14 mw_1082) rfl rfl rfl (by decide +kernel) ⟨Nat.le_of_ble_eq_true rfl, Nat.le_of_ble_eq_true rfl⟩) ⟨fun a U g mk q => ⟨q.1, mPre_call q.2⟩, fun U hU hW => ⟨rfl, mPre_at h0 hS hP hU hW⟩⟩ rfl rfl hl.1 rfl (lv_room (Nat.le_of_ble_eq_true rfl)) dX12_steps_67 ⟨Nat.zero_le _, Nat.zero_le _⟩) hS (fun q _ h => h) (fun q h => h) (fun r u t H1 locs ht hvm hw hB hz1 hq1 hS => ?_)
      obtain ⟨rfl, rfl⟩ := hw
      have hP := hB.1
      rw [ht] at hP
      refine W.widen (k := 0) (n := 0) (Nat.le_refl _) (Nat.le_refl _) ?_
      refine lv_if_ne (tgt := 120) hx hb dX12_steps_70 (by decide) (fun hcq3 => ?_) (fun hcq3 => ?_)
      · have h := ifn hcq3 h
        refine lv_iload hx hb dX12_steps_120 (lv_at hl 2 rfl) ?_
        obtain rfl := Option.some.inj h
        exact W.iret (v := v4) hx hb hr (fun t ht hW => ⟨⟨_, _, rfl, ⟨rfl, rfl⟩, mPre_at h0 hS hP ht hW⟩, hS.F ht⟩) hS.2.2 dX12_steps_122
      have h := ifp hcq3 h
      refine lv_aload_n hx hb dX12_steps_73 rfl (lv_at hl 0 rfl) ?_
      refine lv_aload_n hx hb dX12_steps_74 rfl (lv_at hl 0 rfl) ?_
      refine va_get (D := D) (ci := 12) (v := .ref (G.1 21)) (C := RX12) (T := TX12) (N := 34) hx hb hts iwX12 hown hK hP 28 (mg_2 rfl) rfl 23 (by decide) (hts _ mw_981) (fun _ h9 => h9) rfl dX12_steps_75 ?_
      refine lv_iconst (v := 0) hx hb dX12_steps_78 (by decide) ?_
      refine lv_aload_n hx hb dX12_steps_79 rfl (lv_at hl 0 rfl) ?_
      refine va_get (D := D) (ci := 12) (v := .ref (G.1 22)) (C := RX12) (T := TX12) (N := 34) hx hb hts iwX12 hown hK hP 28 (mg_2 rfl) rfl 24 (by decide) (hts _ mw_982) (fun _ h9 => h9) rfl dX12_steps_80 ?_
      refine lv_iconst (v := 0) hx hb dX12_steps_83 (by decide) ?_
      refine lv_iload_n hx hb dX12_steps_84 rfl (lv_at hl 1 rfl) ?_
      obtain ⟨xq4, hfq5, h⟩ := obd h
      refine va_callv (va_runV (As := [.ref (G.1 21), .int 0, .ref (G.1 22), .int 0, .int p3]) (rest := []) ⟨hx, hb, hml, hown, hts⟩ (kX12_laysNearest l D G _ 21 rfl 0 22 rfl 0 p3 xq4 hfq5) (cwV 5 hts (lwW_gV mw_1152 mw_1154 ms_40 mw_14 mw_1155) rfl rfl rfl (by decide +kernel) ⟨Nat.le_of_ble_eq_true rfl, Nat.le_of_ble_eq_true rfl⟩) ⟨fun a U g mk q => ⟨q.1, mPre_call q.2⟩, va_recv hK hP rfl (mg_2 rfl), fun U hU hW => ⟨rfl, mPre_at h0 hS hP hU hW⟩⟩ rfl rfl hl.1 rfl (lv_room (Nat.le_of_ble_eq_true rfl)) dX12_steps_85 ⟨Nat.zero_le _, Nat.zero_le _⟩) hS (fun q _ h => h) (fun q h => h) (fun u t H1 locs ht hvm hw hB hz1 hq1 hS => ?_)
      obtain rfl := hw.symm
      have hP := hB.1
      rw [ht] at hP
      refine W.widen (k := 0) (n := 0) (Nat.le_refl _) (Nat.le_refl _) ?_
      refine lv_aload_n hx hb dX12_steps_88 rfl (lv_at hl 0 rfl) ?_
      refine va_get (D := D) (ci := 12) (v := .ref (G.1 22)) (C := RX12) (T := TX12) (N := 34) hx hb hts iwX12 hown hK hP 28 (mg_2 rfl) rfl 24 (by decide) (hts _ mw_982) (fun _ h9 => h9) rfl dX12_steps_89 ?_
      refine lv_iconst (v := 0) hx hb dX12_steps_92 (by decide) ?_
      refine lv_aload_n hx hb dX12_steps_93 rfl (lv_at hl 0 rfl) ?_
      refine va_get (D := D) (ci := 12) (v := .ref (G.1 21)) (C := RX12) (T := TX12) (N := 34) hx hb hts iwX12 hown hK hP 28 (mg_2 rfl) rfl 23 (by decide) (hts _ mw_981) (fun _ h9 => h9) rfl dX12_steps_94 ?_
      refine lv_iconst (v := 0) hx hb dX12_steps_97 (by decide) ?_
      obtain ⟨xq6, hfq7, h⟩ := obd h
      refine va_callv (va_runS (As := [.ref (G.1 22), .int 0, .ref (G.1 21), .int 0]) (rest := []) ⟨hx, hb, hml, hown, hts⟩ (kX12_copies l D G _ 22 rfl 0 21 rfl 0 xq6 hfq7) (va_cwS 4 hts (lwW_gS mw_955 mw_956 mw_14 mw_957) rfl rfl rfl (by decide +kernel) ⟨Nat.le_of_ble_eq_true rfl, Nat.le_of_ble_eq_true rfl⟩) ⟨fun a U g mk q => ⟨q.1, mPre_call q.2⟩, fun U hU hW => ⟨rfl, mPre_at h0 hS hP hU hW⟩⟩ rfl rfl hl.1 rfl (lv_room (Nat.le_of_ble_eq_true rfl)) dX12_steps_98 ⟨Nat.zero_le _, Nat.zero_le _⟩) hS (fun q _ h => h) (fun q h => h) (fun u t H1 locs ht hvm hw hB hz1 hq1 hS => ?_)
      obtain rfl := hw.symm
      have hP := hB.1
      rw [ht] at hP
      refine W.widen (k := 0) (n := 0) (Nat.le_refl _) (Nat.le_refl _) ?_
      refine lv_aload_n hx hb dX12_steps_101 rfl (lv_at hl 0 rfl) ?_
      refine va_get (D := D) (ci := 12) (v := .ref (G.1 9)) (C := RX12) (T := TX12) (N := 34) hx hb hts iwX12 hown hK hP 28 (mg_2 rfl) rfl 10 (by decide) (hts _ mw_968) (fun _ h9 => h9) rfl dX12_steps_102 ?_
      refine lv_iconst (v := 0) hx hb dX12_steps_105 (by decide) ?_
      refine lv_aload_n hx hb dX12_steps_106 rfl (lv_at hl 0 rfl) ?_
      refine va_get (D := D) (ci := 12) (v := .ref (G.1 22)) (C := RX12) (T := TX12) (N := 34) hx hb hts iwX12 hown hK hP 28 (mg_2 rfl) rfl 24 (by decide) (hts _ mw_982) (fun _ h9 => h9) rfl dX12_steps_107 ?_
      refine lv_iconst (v := 0) hx hb dX12_steps_110 (by decide) ?_
      obtain ⟨xq8, hfq9, h⟩ := obd h
      refine va_callv (va_runS (As := [.ref (G.1 9), .int 0, .ref (G.1 22), .int 0]) (rest := []) ⟨hx, hb, hml, hown, hts⟩ (kX12_copies l D G _ 9 rfl 0 22 rfl 0 xq8 hfq9) (va_cwS 4 hts (lwW_gS mw_955 mw_956 mw_14 mw_957) rfl rfl rfl (by decide +kernel) ⟨Nat.le_of_ble_eq_true rfl, Nat.le_of_ble_eq_true rfl⟩) ⟨fun a U g mk q => ⟨q.1, mPre_call q.2⟩, fun U hU hW => ⟨rfl, mPre_at h0 hS hP hU hW⟩⟩ rfl rfl hl.1 rfl (lv_room (Nat.le_of_ble_eq_true rfl)) dX12_steps_111 ⟨Nat.zero_le _, Nat.zero_le _⟩) hS (fun q _ h => h) (fun q h => h) (fun u t H1 locs ht hvm hw hB hz1 hq1 hS => ?_)
      obtain rfl := hw.symm
      have hP := hB.1
      rw [ht] at hP
      refine W.widen (k := 0) (n := 0) (Nat.le_refl _) (Nat.le_refl _) ?_
      refine lv_iinc (v := v4 + 1) (lv' := [(4, .int (v4 + 1)), (0, .ref (G.1 28)), (3, .int p3)]) hx hb dX12_steps_114 hl (k := 2) rfl rfl (by decide) rfl (fun ls hl => ?_)
      refine lv_goto (tgt := 62) hx hb dX12_steps_117 (by decide) ?_
      exact ih62 (v4 + 1) _ _ _ _ h hP hS (lv_sub hl [1, 2, 0] rfl)
  refine lv_iload_n hx hb dX12_steps_0 rfl (lv_at hl 1 rfl) ?_
  obtain ⟨xq10, hfq11, h⟩ := obd h
  refine va_calli (va_runS (As := [.int p1]) (rest := []) ⟨hx, hb, hml, hown, hts⟩ (kX12_isSlot l p1 xq10 hfq11) (va_cwS 1 hts (lwW_gS mw_1066 mw_1067 mw_14 mw_1068) rfl rfl rfl (by decide +kernel) ⟨Nat.le_of_ble_eq_true rfl, Nat.le_of_ble_eq_true rfl⟩) ⟨fun a U g mk q => ⟨q.1, trivial⟩, fun U hU hW => ⟨rfl, trivial⟩⟩ rfl rfl hl.1 rfl (lv_room (Nat.le_of_ble_eq_true rfl)) dX12_steps_1 ⟨Nat.zero_le _, Nat.zero_le _⟩) hS (fun q _ h => h.elim) (fun q h => h.elim) (fun r u t H1 locs ht hvm hw hB hz1 hq1 hS => ?_)
  obtain rfl := hw.symm
  have hP := mP_kept hP hq1
  refine W.widen (k := 0) (n := 0) (Nat.le_refl _) (Nat.le_refl _) ?_
  refine lv_if_eq (tgt := 14) hx hb dX12_steps_4 (by decide) (fun hcq12 => ?_) (fun hcq12 => ?_)
  · have h := ifp hcq12 h
    refine lv_sipush (v := (-1001)) hx hb dX12_steps_14 (by decide) ?_
    obtain rfl := Option.some.inj h
    exact W.iret (v := (-1001)) hx hb hr (fun t ht hW => ⟨⟨_, _, rfl, ⟨rfl, rfl⟩, mPre_at h0 hS hP ht hW⟩, hS.F ht⟩) hS.2.2 dX12_steps_17
  have h := ifn hcq12 h
  refine lv_iload_n hx hb dX12_steps_7 rfl (lv_at hl 2 rfl) ?_
  obtain ⟨xq13, hfq14, h⟩ := obd h
  refine va_calli (va_runS (As := [.int p2]) (rest := []) ⟨hx, hb, hml, hown, hts⟩ (kX12_isSlot l p2 xq13 hfq14) (va_cwS 1 hts (lwW_gS mw_1066 mw_1067 mw_14 mw_1068) rfl rfl rfl (by decide +kernel) ⟨Nat.le_of_ble_eq_true rfl, Nat.le_of_ble_eq_true rfl⟩) ⟨fun a U g mk q => ⟨q.1, trivial⟩, fun U hU hW => ⟨rfl, trivial⟩⟩ rfl rfl hl.1 rfl (lv_room (Nat.le_of_ble_eq_true rfl)) dX12_steps_8 ⟨Nat.zero_le _, Nat.zero_le _⟩) hS (fun q _ h => h.elim) (fun q h => h.elim) (fun r u t H1 locs ht hvm hw hB hz1 hq1 hS => ?_)
  obtain rfl := hw.symm
  have hP := mP_kept hP hq1
  refine W.widen (k := 0) (n := 0) (Nat.le_refl _) (Nat.le_refl _) ?_
  refine lv_if_ne (tgt := 18) hx hb dX12_steps_11 (by decide) (fun hcq15 => ?_) (fun hcq15 => ?_)
  · have h := ifn hcq15 h
    refine lv_iload_n hx hb dX12_steps_18 rfl (lv_at hl 3 rfl) ?_
    obtain ⟨xq16, hfq17, h⟩ := obd h
    refine va_calli (va_runS (As := [.int p3]) (rest := []) ⟨hx, hb, hml, hown, hts⟩ (kX12_isSide l p3 xq16 hfq17) (va_cwS 1 hts (lwW_gS mw_1137 mw_1138 mw_14 mw_1139) rfl rfl rfl (by decide +kernel) ⟨Nat.le_of_ble_eq_true rfl, Nat.le_of_ble_eq_true rfl⟩) ⟨fun a U g mk q => ⟨q.1, trivial⟩, fun U hU hW => ⟨rfl, trivial⟩⟩ rfl rfl hl.1 rfl (lv_room (Nat.le_of_ble_eq_true rfl)) dX12_steps_19 ⟨Nat.zero_le _, Nat.zero_le _⟩) hS (fun q _ h => h.elim) (fun q h => h.elim) (fun r u t H1 locs ht hvm hw hB hz1 hq1 hS => ?_)
    obtain rfl := hw.symm
    have hP := mP_kept hP hq1
    refine W.widen (k := 0) (n := 0) (Nat.le_refl _) (Nat.le_refl _) ?_
    refine lv_if_ne (tgt := 29) hx hb dX12_steps_22 (by decide) (fun hcq18 => ?_) (fun hcq18 => ?_)
    · have h := ifn hcq18 h
      refine lv_aload_n hx hb dX12_steps_29 rfl (lv_at hl 0 rfl) ?_
      refine va_get (D := D) (ci := 12) (v := .ref (G.1 13)) (C := RX12) (T := TX12) (N := 34) hx hb hts iwX12 hown hK hP 28 (mg_2 rfl) rfl 14 (by decide) (hts _ mw_972) (fun _ h9 => h9) rfl dX12_steps_30 ?_
      refine lv_iconst (v := 4) hx hb dX12_steps_33 (by decide) ?_
      refine lv_iload_n hx hb dX12_steps_34 rfl (lv_at hl 1 rfl) ?_
      refine lv_imul hx hb dX12_steps_35 ?_
      refine lv_aload_n hx hb dX12_steps_36 rfl (lv_at hl 0 rfl) ?_
      refine va_get (D := D) (ci := 12) (v := .ref (G.1 21)) (C := RX12) (T := TX12) (N := 34) hx hb hts iwX12 hown hK hP 28 (mg_2 rfl) rfl 23 (by decide) (hts _ mw_981) (fun _ h9 => h9) rfl dX12_steps_37 ?_
      refine lv_iconst (v := 0) hx hb dX12_steps_40 (by decide) ?_
      obtain ⟨xq19, hfq20, h⟩ := obd h
      refine va_callv (va_runS (As := [.ref (G.1 13), .int (4 * p1), .ref (G.1 21), .int 0]) (rest := []) ⟨hx, hb, hml, hown, hts⟩ (kX12_copies l D G _ 13 rfl (4 * p1) 21 rfl 0 xq19 hfq20) (va_cwS 4 hts (lwW_gS mw_955 mw_956 mw_14 mw_957) rfl rfl rfl (by decide +kernel) ⟨Nat.le_of_ble_eq_true rfl, Nat.le_of_ble_eq_true rfl⟩) ⟨fun a U g mk q => ⟨q.1, mPre_call q.2⟩, fun U hU hW => ⟨rfl, mPre_at h0 hS hP hU hW⟩⟩ rfl rfl hl.1 rfl (lv_room (Nat.le_of_ble_eq_true rfl)) dX12_steps_41 ⟨Nat.zero_le _, Nat.zero_le _⟩) hS (fun q _ h => h) (fun q h => h) (fun u t H1 locs ht hvm hw hB hz1 hq1 hS => ?_)
      obtain rfl := hw.symm
      have hP := hB.1
      rw [ht] at hP
      refine W.widen (k := 0) (n := 0) (Nat.le_refl _) (Nat.le_refl _) ?_
      refine lv_aload_n hx hb dX12_steps_44 rfl (lv_at hl 0 rfl) ?_
      refine va_get (D := D) (ci := 12) (v := .ref (G.1 13)) (C := RX12) (T := TX12) (N := 34) hx hb hts iwX12 hown hK hP 28 (mg_2 rfl) rfl 14 (by decide) (hts _ mw_972) (fun _ h9 => h9) rfl dX12_steps_45 ?_
      refine lv_iconst (v := 4) hx hb dX12_steps_48 (by decide) ?_
      refine lv_iload_n hx hb dX12_steps_49 rfl (lv_at hl 2 rfl) ?_
      refine lv_imul hx hb dX12_steps_50 ?_
      refine lv_aload_n hx hb dX12_steps_51 rfl (lv_at hl 0 rfl) ?_
      refine va_get (D := D) (ci := 12) (v := .ref (G.1 22)) (C := RX12) (T := TX12) (N := 34) hx hb hts iwX12 hown hK hP 28 (mg_2 rfl) rfl 24 (by decide) (hts _ mw_982) (fun _ h9 => h9) rfl dX12_steps_52 ?_
      refine lv_iconst (v := 0) hx hb dX12_steps_55 (by decide) ?_
      obtain ⟨xq21, hfq22, h⟩ := obd h
      refine va_callv (va_runS (As := [.ref (G.1 13), .int (4 * p2), .ref (G.1 22), .int 0]) (rest := []) ⟨hx, hb, hml, hown, hts⟩ (kX12_copies l D G _ 13 rfl (4 * p2) 22 rfl 0 xq21 hfq22) (va_cwS 4 hts (lwW_gS mw_955 mw_956 mw_14 mw_957) rfl rfl rfl (by decide +kernel) ⟨Nat.le_of_ble_eq_true rfl, Nat.le_of_ble_eq_true rfl⟩) ⟨fun a U g mk q => ⟨q.1, mPre_call q.2⟩, fun U hU hW => ⟨rfl, mPre_at h0 hS hP hU hW⟩⟩ rfl rfl hl.1 rfl (lv_room (Nat.le_of_ble_eq_true rfl)) dX12_steps_56 ⟨Nat.zero_le _, Nat.zero_le _⟩) hS (fun q _ h => h) (fun q h => h) (fun u t H1 locs ht hvm hw hB hz1 hq1 hS => ?_)
      obtain rfl := hw.symm
      have hP := hB.1
      rw [ht] at hP
      refine W.widen (k := 0) (n := 0) (Nat.le_refl _) (Nat.le_refl _) ?_
      refine lv_iconst (v := 0) hx hb dX12_steps_59 (by decide) ?_
      refine lv_istore (lv' := [(4, .int 0), (0, .ref (G.1 28)), (1, .int p1), (2, .int p2), (3, .int p3)]) hx hb dX12_steps_60 hl (by decide) rfl (fun ls hl => ?_)
      exact L62 FU 0 _ _ _ _ h hP hS (lv_sub hl [1, 4, 0] rfl)
    have h := ifp hcq18 h
    refine lv_sipush (v := (-1002)) hx hb dX12_steps_25 (by decide) ?_
    obtain rfl := Option.some.inj h
    exact W.iret (v := (-1002)) hx hb hr (fun t ht hW => ⟨⟨_, _, rfl, ⟨rfl, rfl⟩, mPre_at h0 hS hP ht hW⟩, hS.F ht⟩) hS.2.2 dX12_steps_28
  have h := ifp hcq15 h
  refine lv_sipush (v := (-1001)) hx hb dX12_steps_14 (by decide) ?_
  obtain rfl := Option.some.inj h
  exact W.iret (v := (-1001)) hx hb hr (fun t ht hW => ⟨⟨_, _, rfl, ⟨rfl, rfl⟩, mPre_at h0 hS hP ht hW⟩, hS.F ht⟩) hS.2.2 dX12_steps_17
def fX12_mate (p1 : Int32) (p2 : Int32) (p3 : Int32) (p4 : Int32) (σ : QMem) : Option (Int32 × QMem) :=
  (fX12_isSlot p1).bind fun xq1 => (if xq1 = 0 then (some ((-1001), σ)) else ((fX12_isSide p2).bind fun xq4 => (if xq4 = 0 then (some ((-1002), σ)) else ((fX12_in p3 0 23).bind fun xq7 => (if xq7 = 0 then (some ((-1002), σ)) else ((fX12_in p4 0 3).bind fun xq10 => (if xq10 = 0 then (some ((-1002), σ)) else ((fX12_makes 13 (4 * p1) 1 (4 * p3) p2 4 σ).bind fun xq13 => (if (p4 < 0 ∨ ml 4 ≤ p4.toNatClampNeg) then none else (some (xq13 4 p4.toNatClampNeg, xq13)))))))))))
set_option maxHeartbeats 4000000 in
set_option maxRecDepth 100000 in
theorem kX12_mate (l : Launch) (D : va_G) (G : xG) (σ : QMem) (p1 : Int32) (p2 : Int32) (p3 : Int32) (p4 : Int32) (res : Int32 × QMem) (h : fX12_mate p1 p2 p3 p4 σ = some res) : Met l yX12_mate (.code yX12_mate cX12_mate 5 (some .int) :: lwW) (rmD 2) (mPc D G σ [.ref (G.1 28), .int p1, .int p2, .int p3, .int p4]) (mQi D G res) 0 0 (mA G) := by
  refine Met.ofW (cc := cX12_mate) (maxL := 5) (ret := (some .int)) (by decide) rfl ?_
  intro p e s m args below meth c s₁ B hml hv
  obtain ⟨rfl, h0⟩ := hv
  have hx := B.exec
  have hb := B.bytes
  have hr := B.returns
  have hts := fun (w : Cond) (hw : w ∈ lwW) => atoms_spec (ws := (.code yX12_mate cX12_mate 5 (some .int) :: lwW)) B.pre w (List.mem_cons_of_mem _ hw)
  have hown : s.vm.findClass RX12 = some m.cls := findClass_of_methodNamed B.named
  have hlocks := B.notSynchronized
  have hP := h0.1
  have hK := h0.2.1
  have hi := h0.2.2
  have hS : va_S (mA G) s.heap s.heap [] := va_S.rf
  have hl := lv_entry ([.ref (G.1 28), .int p1, .int p2, .int p3, .int p4]) (n := 5) (Nat.le_of_ble_eq_true rfl)
  rw [lg_entry_eq]
  generalize (lg_sl ([.ref (G.1 28), .int p1, .int p2, .int p3, .int p4]) ++ List.replicate (5 - (lg_sl ([.ref (G.1 28), .int p1, .int p2, .int p3, .int p4])).length) Slot.unset).toArray = ls at hl ⊢
  have hl : lv_has ls 5 [(0, .ref (G.1 28)), (1, .int p1), (2, .int p2), (3, .int p3), (4, .int p4)] := hl
  unfold fX12_mate at h
  refine lv_iload_n hx hb dX12_mate_0 rfl (lv_at hl 1 rfl) ?_
  obtain ⟨xq1, hfq2, h⟩ := obd h
  refine va_calli (va_runS (As := [.int p1]) (rest := []) ⟨hx, hb, hml, hown, hts⟩ (kX12_isSlot l p1 xq1 hfq2) (va_cwS 1 hts (lwW_gS mw_1066 mw_1067 mw_14 mw_1068) rfl rfl rfl (by decide +kernel) ⟨Nat.le_of_ble_eq_true rfl, Nat.le_of_ble_eq_true rfl⟩) ⟨fun a U g mk q => ⟨q.1, trivial⟩, fun U hU hW => ⟨rfl, trivial⟩⟩ rfl rfl hl.1 rfl (lv_room (Nat.le_of_ble_eq_true rfl)) dX12_mate_1 ⟨Nat.zero_le _, Nat.zero_le _⟩) hS (fun q _ h => h.elim) (fun q h => h.elim) (fun r u t H1 locs ht hvm hw hB hz1 hq1 hS => ?_)
  obtain rfl := hw.symm
  have hP := mP_kept hP hq1
  refine W.widen (k := 0) (n := 0) (Nat.le_refl _) (Nat.le_refl _) ?_
  refine lv_if_ne (tgt := 11) hx hb dX12_mate_4 (by decide) (fun hcq3 => ?_) (fun hcq3 => ?_)
  · have h := ifn hcq3 h
    refine lv_iload_n hx hb dX12_mate_11 rfl (lv_at hl 2 rfl) ?_
    obtain ⟨xq4, hfq5, h⟩ := obd h
    refine va_calli (va_runS (As := [.int p2]) (rest := []) ⟨hx, hb, hml, hown, hts⟩ (kX12_isSide l p2 xq4 hfq5) (va_cwS 1 hts (lwW_gS mw_1137 mw_1138 mw_14 mw_1139) rfl rfl rfl (by decide +kernel) ⟨Nat.le_of_ble_eq_true rfl, Nat.le_of_ble_eq_true rfl⟩) ⟨fun a U g mk q => ⟨q.1, trivial⟩, fun U hU hW => ⟨rfl, trivial⟩⟩ rfl rfl hl.1 rfl (lv_room (Nat.le_of_ble_eq_true rfl)) dX12_mate_12 ⟨Nat.zero_le _, Nat.zero_le _⟩) hS (fun q _ h => h.elim) (fun q h => h.elim) (fun r u t H1 locs ht hvm hw hB hz1 hq1 hS => ?_)
    obtain rfl := hw.symm
    have hP := mP_kept hP hq1
    refine W.widen (k := 0) (n := 0) (Nat.le_refl _) (Nat.le_refl _) ?_
    refine lv_if_eq (tgt := 38) hx hb dX12_mate_15 (by decide) (fun hcq6 => ?_) (fun hcq6 => ?_)
    · have h := ifp hcq6 h
      refine lv_sipush (v := (-1002)) hx hb dX12_mate_38 (by decide) ?_
      obtain rfl := Option.some.inj h
      exact W.iret (v := (-1002)) hx hb hr (fun t ht hW => ⟨⟨_, _, rfl, ⟨rfl, rfl⟩, mPre_at h0 hS hP ht hW⟩, hS.F ht⟩) hS.2.2 dX12_mate_41
    have h := ifn hcq6 h
    refine lv_iload_n hx hb dX12_mate_18 rfl (lv_at hl 3 rfl) ?_
    refine lv_iconst (v := 0) hx hb dX12_mate_19 (by decide) ?_
    refine lv_bipush (v := 23) hx hb dX12_mate_20 (by decide) ?_
    obtain ⟨xq7, hfq8, h⟩ := obd h
    refine va_calli (va_runS (As := [.int p3, .int 0, .int 23]) (rest := []) ⟨hx, hb, hml, hown, hts⟩ (kX12_in l p3 0 23 xq7 hfq8) (va_cwS 3 hts (lwW_gS mw_1069 mw_1070 mw_14 mw_1071) rfl rfl rfl (by decide +kernel) ⟨Nat.le_of_ble_eq_true rfl, Nat.le_of_ble_eq_true rfl⟩) ⟨fun a U g mk q => ⟨q.1, trivial⟩, fun U hU hW => ⟨rfl, trivial⟩⟩ rfl rfl hl.1 rfl (lv_room (Nat.le_of_ble_eq_true rfl)) dX12_mate_22 ⟨Nat.zero_le _, Nat.zero_le _⟩) hS (fun q _ h => h.elim) (fun q h => h.elim) (fun r u t H1 locs ht hvm hw hB hz1 hq1 hS => ?_)
    obtain rfl := hw.symm
    have hP := mP_kept hP hq1
    refine W.widen (k := 0) (n := 0) (Nat.le_refl _) (Nat.le_refl _) ?_
    refine lv_if_eq (tgt := 38) hx hb dX12_mate_25 (by decide) (fun hcq9 => ?_) (fun hcq9 => ?_)
    · have h := ifp hcq9 h
      refine lv_sipush (v := (-1002)) hx hb dX12_mate_38 (by decide) ?_
      obtain rfl := Option.some.inj h
      exact W.iret (v := (-1002)) hx hb hr (fun t ht hW => ⟨⟨_, _, rfl, ⟨rfl, rfl⟩, mPre_at h0 hS hP ht hW⟩, hS.F ht⟩) hS.2.2 dX12_mate_41
    have h := ifn hcq9 h
    refine lv_iload hx hb dX12_mate_28 (lv_at hl 4 rfl) ?_
    refine lv_iconst (v := 0) hx hb dX12_mate_30 (by decide) ?_
    refine lv_iconst (v := 3) hx hb dX12_mate_31 (by decide) ?_
    obtain ⟨xq10, hfq11, h⟩ := obd h
    refine va_calli (va_runS (As := [.int p4, .int 0, .int 3]) (rest := []) ⟨hx, hb, hml, hown, hts⟩ (kX12_in l p4 0 3 xq10 hfq11) (va_cwS 3 hts (lwW_gS mw_1069 mw_1070 mw_14 mw_1071) rfl rfl rfl (by decide +kernel) ⟨Nat.le_of_ble_eq_true rfl, Nat.le_of_ble_eq_true rfl⟩) ⟨fun a U g mk q => ⟨q.1, trivial⟩, fun U hU hW => ⟨rfl, trivial⟩⟩ rfl rfl hl.1 rfl (lv_room (Nat.le_of_ble_eq_true rfl)) dX12_mate_32 ⟨Nat.zero_le _, Nat.zero_le _⟩) hS (fun q _ h => h.elim) (fun q h => h.elim) (fun r u t H1 locs ht hvm hw hB hz1 hq1 hS => ?_)
    obtain rfl := hw.symm
    have hP := mP_kept hP hq1
    refine W.widen (k := 0) (n := 0) (Nat.le_refl _) (Nat.le_refl _) ?_
    refine lv_if_ne (tgt := 42) hx hb dX12_mate_35 (by decide) (fun hcq12 => ?_) (fun hcq12 => ?_)
    · have h := ifn hcq12 h
      refine lv_aload_n hx hb dX12_mate_42 rfl (lv_at hl 0 rfl) ?_
      refine va_get (D := D) (ci := 12) (v := .ref (G.1 13)) (C := RX12) (T := TX12) (N := 34) hx hb hts iwX12 hown hK hP 28 (mg_2 rfl) rfl 14 (by decide) (hts _ mw_972) (fun _ h9 => h9) rfl dX12_mate_43 ?_
      refine lv_iconst (v := 4) hx hb dX12_mate_46 (by decide) ?_
      refine lv_iload_n hx hb dX12_mate_47 rfl (lv_at hl 1 rfl) ?_
      refine lv_imul hx hb dX12_mate_48 ?_
      refine lv_aload_n hx hb dX12_mate_49 rfl (lv_at hl 0 rfl) ?_
      refine va_get (D := D) (ci := 12) (v := .ref (G.1 1)) (C := RX12) (T := TX12) (N := 34) hx hb hts iwX12 hown hK hP 28 (mg_2 rfl) rfl 1 (by decide) (hts _ mw_959) (fun _ h9 => h9) rfl dX12_mate_50 ?_
      refine lv_iconst (v := 4) hx hb dX12_mate_53 (by decide) ?_
      refine lv_iload_n hx hb dX12_mate_54 rfl (lv_at hl 3 rfl) ?_
      refine lv_imul hx hb dX12_mate_55 ?_
      refine lv_iload_n hx hb dX12_mate_56 rfl (lv_at hl 2 rfl) ?_
      refine lv_aload_n hx hb dX12_mate_57 rfl (lv_at hl 0 rfl) ?_
      refine va_get (D := D) (ci := 12) (v := .ref (G.1 4)) (C := RX12) (T := TX12) (N := 34) hx hb hts iwX12 hown hK hP 28 (mg_2 rfl) rfl 4 (by decide) (hts _ mw_962) (fun _ h9 => h9) rfl dX12_mate_58 ?_
      obtain ⟨xq13, hfq14, h⟩ := obd h
      refine va_callv (va_runS (As := [.ref (G.1 13), .int (4 * p1), .ref (G.1 1), .int (4 * p3), .int p2, .ref (G.1 4)]) (rest := []) ⟨hx, hb, hml, hown, hts⟩ (kX12_makes l D G _ 13 rfl (4 * p1) 1 rfl (4 * p3) p2 4 rfl xq13 hfq14) (va_cwS 6 hts (lwW_gS mw_942 mw_943 mw_14 mw_944) rfl rfl rfl (by decide +kernel) ⟨Nat.le_of_ble_eq_true rfl, Nat.le_of_ble_eq_true rfl⟩) ⟨fun a U g mk q => ⟨q.1, mPre_call q.2⟩, fun U hU hW => ⟨rfl, mPre_at h0 hS hP hU hW⟩⟩ rfl rfl hl.1 rfl (lv_room (Nat.le_of_ble_eq_true rfl)) dX12_mate_61 ⟨Nat.zero_le _, Nat.zero_le _⟩) hS (fun q _ h => h) (fun q h => h) (fun u t H1 locs ht hvm hw hB hz1 hq1 hS => ?_)
      obtain rfl := hw.symm
      have hP := hB.1
      rw [ht] at hP
      refine W.widen (k := 0) (n := 0) (Nat.le_refl _) (Nat.le_refl _) ?_
      refine lv_aload_n hx hb dX12_mate_64 rfl (lv_at hl 0 rfl) ?_
      refine va_get (D := D) (ci := 12) (v := .ref (G.1 4)) (C := RX12) (T := TX12) (N := 34) hx hb hts iwX12 hown hK hP 28 (mg_2 rfl) rfl 4 (by decide) (hts _ mw_962) (fun _ h9 => h9) rfl dX12_mate_65 ?_
      refine lv_iload hx hb dX12_mate_68 (lv_at hl 4 rfl) ?_
      obtain ⟨hiq15, h⟩ := nif h
      refine va_iald hx hb hK hP 4 0 (mg_0 rfl) rfl hiq15 dX12_mate_70 ?_
      obtain rfl := Option.some.inj h
      exact W.iret (v := xq13 4 p4.toNatClampNeg) hx hb hr (fun t ht hW => ⟨⟨_, _, rfl, ⟨rfl, rfl⟩, mPre_at h0 hS hP ht hW⟩, hS.F ht⟩) hS.2.2 dX12_mate_71
    have h := ifp hcq12 h
    refine lv_sipush (v := (-1002)) hx hb dX12_mate_38 (by decide) ?_
    obtain rfl := Option.some.inj h
    exact W.iret (v := (-1002)) hx hb hr (fun t ht hW => ⟨⟨_, _, rfl, ⟨rfl, rfl⟩, mPre_at h0 hS hP ht hW⟩, hS.F ht⟩) hS.2.2 dX12_mate_41
  have h := ifp hcq3 h
  refine lv_sipush (v := (-1001)) hx hb dX12_mate_7 (by decide) ?_
  obtain rfl := Option.some.inj h
  exact W.iret (v := (-1001)) hx hb hr (fun t ht hW => ⟨⟨_, _, rfl, ⟨rfl, rfl⟩, mPre_at h0 hS hP ht hW⟩, hS.F ht⟩) hS.2.2 dX12_mate_10
def fX12_leastPrime_L2 (p0 : Int32) : Nat → Int32 → Option (Int32)
  | 0, _ => none
  | n + 1, v1 =>
  if v1 = 0 then none else (if (p0 - p0 / v1 * v1) = 0 then (some v1) else ((fX12_leastPrime_L2 p0 n) (v1 + 1)))
def fX12_leastPrime (p0 : Int32) : Option (Int32) :=
  fX12_leastPrime_L2 p0 FU 2
set_option maxHeartbeats 4000000 in
set_option maxRecDepth 100000 in
theorem kX12_leastPrime (l : Launch) (p0 : Int32) (res : Int32) (h : fX12_leastPrime p0 = some res) : Met l yX12_leastPrime (.code yX12_leastPrime cX12_leastPrime 2 (some .int) :: lwW) (rmD 0) (nPc [.int p0]) (nQi res) 0 0 (fun _ => False) := by
  refine Met.ofW (cc := cX12_leastPrime) (maxL := 2) (ret := (some .int)) (by decide) rfl ?_
  intro p e s m args below meth c s₁ B hml hv
  obtain ⟨rfl, h0⟩ := hv
  have hx := B.exec
  have hb := B.bytes
  have hr := B.returns
  have hts := fun (w : Cond) (hw : w ∈ lwW) => atoms_spec (ws := (.code yX12_leastPrime cX12_leastPrime 2 (some .int) :: lwW)) B.pre w (List.mem_cons_of_mem _ hw)
  have hown : s.vm.findClass RX12 = some m.cls := findClass_of_methodNamed B.named
  have hlocks := B.notSynchronized
  have hS : va_S (fun _ => False) s.heap s.heap [] := va_S.rf
  have hl := lv_entry ([.int p0]) (n := 2) (Nat.le_of_ble_eq_true rfl)
  rw [lg_entry_eq]
  generalize (lg_sl ([.int p0]) ++ List.replicate (2 - (lg_sl ([.int p0])).length) Slot.unset).toArray = ls at hl ⊢
  have hl : lv_has ls 2 [(0, .int p0)] := hl
  unfold fX12_leastPrime at h
  have L2 : ∀ (n2 : Nat) (v1 : Int32) (H : Heap) (locs : List Loc) (ls : Array Slot), fX12_leastPrime_L2 p0 n2 v1 = some res → va_S (fun _ => False) s.heap H locs → lv_has ls 2 [(0, .int p0), (1, .int v1)] → W p l e (headSpec (.code yX12_leastPrime cX12_leastPrime 2 (some .int) :: lwW) (rmD 0)).room s m ([.int p0] : List Value).toArray below meth c H locs 0 0 (MQ below (nQi res) ([.int p0] : List Value).toArray s 0 0 (fun _ => False)) (F0 m 2 ls []) := by
    intro n2
    induction n2 with
    | zero => intro v1 H locs ls h; rw [fX12_leastPrime_L2] at h; cases h
    | succ n2 ih2 =>
      intro v1 H locs ls h hS hl
      rw [fX12_leastPrime_L2] at h
      refine lv_iload_n hx hb dX12_leastPrime_2 rfl (lv_at hl 0 rfl) ?_
      refine lv_iload_n hx hb dX12_leastPrime_3 rfl (lv_at hl 1 rfl) ?_
      obtain ⟨hdq1, h⟩ := nif h
      refine lv_irem hx hb dX12_leastPrime_4 hdq1 ?_
      refine lv_if_eq (tgt := 14) hx hb dX12_leastPrime_5 (by decide) (fun hcq2 => ?_) (fun hcq2 => ?_)
      · have h := ifp hcq2 h
        refine lv_iload_n hx hb dX12_leastPrime_14 rfl (lv_at hl 1 rfl) ?_
        obtain rfl := Option.some.inj h
        exact W.iret (v := v1) hx hb hr (fun t ht hW => ⟨⟨_, (), rfl, rfl, trivial⟩, hS.F ht⟩) hS.2.2 dX12_leastPrime_15
      have h := ifn hcq2 h
      refine lv_iinc (v := v1 + 1) (lv' := [(1, .int (v1 + 1)), (0, .int p0)]) hx hb dX12_leastPrime_8 hl (k := 1) rfl rfl (by decide) rfl (fun ls hl => ?_)
      refine lv_goto (tgt := 2) hx hb dX12_leastPrime_11 (by decide) ?_
      exact ih2 (v1 + 1) _ _ _ h hS (lv_sub hl [1, 0] rfl)
  refine lv_iconst (v := 2) hx hb dX12_leastPrime_0 (by decide) ?_
  refine lv_istore_n (lv' := [(1, .int 2), (0, .int p0)]) hx hb dX12_leastPrime_1 rfl hl (by decide) rfl (fun ls hl => ?_)
  exact L2 FU 2 _ _ _ h hS (lv_sub hl [1, 0] rfl)
def fX12_factor_L71 (p1 : Int32) (p2 : Int32) (p3 : Int32) : Nat → Int32 → QMem → Option (Int32 × QMem)
  | 0, _, _ => none
  | n + 1, v4, τ =>
  if p2 < v4 then (if (p3 < 0 ∨ ml 21 ≤ p3.toNatClampNeg) then none else (some (τ 21 p3.toNatClampNeg, τ))) else ((fX12_normOf 7 0 τ).bind fun xq3 => (if xq3.1 = 1 then (if (p3 < 0 ∨ ml 7 ≤ p3.toNatClampNeg) then none else (some (xq3.2 7 p3.toNatClampNeg, xq3.2))) else ((fX12_leastPrime xq3.1).bind fun xq6 => ((fX12_gathers xq6 0 0 1 1 (ms xq3.2 28 6 0)).bind fun xq8 => ((fX12_copies 5 0 21 0 xq8).bind fun xq10 => ((fX12_isDivisor 21 0 7 0 0 xq10).bind fun xq12 => ((fX12_copies 3 0 7 0 xq12.2).bind fun xq14 => ((fX12_factor_L71 p1 p2 p3 n) (v4 + 1) xq14))))))))
def fX12_factor (p1 : Int32) (p2 : Int32) (p3 : Int32) (σ : QMem) : Option (Int32 × QMem) :=
  (fX12_isSlot p1).bind fun xq17 => (if xq17 = 0 then (some ((-1001), σ)) else ((fX12_in p3 0 3).bind fun xq20 => (if xq20 = 0 then (some ((-1002), σ)) else (if 0 ≤ p2 then ((fX12_isEmpty p1 σ).bind fun xq24 => (if xq24.1 = 0 then ((fX12_norm p1 xq24.2).bind fun xq27 => ((fX12_primesIn xq27.1 xq27.2).bind fun xq29 => (if p2 ≤ xq29.1 then ((fX12_copies 13 (4 * p1) 7 0 xq29.2).bind fun xq32 => (fX12_factor_L71 p1 p2 p3 FU 0 xq32)) else (some ((-1003), xq29.2))))) else (some ((-1003), xq24.2)))) else (some ((-1002), σ))))))
set_option maxHeartbeats 4000000 in
set_option maxRecDepth 100000 in
theorem kX12_factor (l : Launch) (D : va_G) (G : xG) (σ : QMem) (p1 : Int32) (p2 : Int32) (p3 : Int32) (res : Int32 × QMem) (h : fX12_factor p1 p2 p3 σ = some res) : Met l yX12_factor (.code yX12_factor cX12_factor 6 (some .int) :: lwW) (rmD 6) (mPc D G σ [.ref (G.1 28), .int p1, .int p2, .int p3]) (mQi D G res) 0 0 (mA G) := by
  refine Met.ofW (cc := cX12_factor) (maxL := 6) (ret := (some .int)) (by decide) rfl ?_
  intro p e s m args below meth c s₁ B hml hv
  obtain ⟨rfl, h0⟩ := hv
  have hx := B.exec
  have hb := B.bytes
  have hr := B.returns
  have hts := fun (w : Cond) (hw : w ∈ lwW) => atoms_spec (ws := (.code yX12_factor cX12_factor 6 (some .int) :: lwW)) B.pre w (List.mem_cons_of_mem _ hw)
  have hown : s.vm.findClass RX12 = some m.cls := findClass_of_methodNamed B.named
  have hlocks := B.notSynchronized
  have hP := h0.1
  have hK := h0.2.1
  have hi := h0.2.2
  have hS : va_S (mA G) s.heap s.heap [] := va_S.rf
  have hl := lv_entry ([.ref (G.1 28), .int p1, .int p2, .int p3]) (n := 6) (Nat.le_of_ble_eq_true rfl)
  rw [lg_entry_eq]
  generalize (lg_sl ([.ref (G.1 28), .int p1, .int p2, .int p3]) ++ List.replicate (6 - (lg_sl ([.ref (G.1 28), .int p1, .int p2, .int p3])).length) Slot.unset).toArray = ls at hl ⊢
  have hl : lv_has ls 6 [(0, .ref (G.1 28)), (1, .int p1), (2, .int p2), (3, .int p3)] := hl
  unfold fX12_factor at h
  have L71 : ∀ (n71 : Nat) (v4 : Int32) (τ : QMem) (H : Heap) (locs : List Loc) (ls : Array Slot), fX12_factor_L71 p1 p2 p3 n71 v4 τ = some res → va_P D vwCl (mW G τ) H → va_S (mA G) s.heap H locs → lv_has ls 6 [(0, .ref (G.1 28)), (2, .int p2), (3, .int p3), (4, .int v4)] → W p l e (headSpec (.code yX12_factor cX12_factor 6 (some .int) :: lwW) (rmD 6)).room s m ([.ref (G.1 28), .int p1, .int p2, .int p3] : List Value).toArray below meth c H locs 0 0 (MQ below (mQi D G res) ([.ref (G.1 28), .int p1, .int p2, .int p3] : List Value).toArray s 0 0 (mA G)) (F0 m 71 ls []) := by
    intro n71
    induction n71 with
    | zero => intro v4 τ H locs ls h; rw [fX12_factor_L71] at h; cases h
    | succ n71 ih71 =>
      intro v4 τ H locs ls h hP hS hl
      rw [fX12_factor_L71] at h
      refine lv_iload hx hb dX12_factor_71 (lv_at hl 3 rfl) ?_
      refine lv_iload_n hx hb dX12_factor_73 rfl (lv_at hl 1 rfl) ?_
      refine lv_icmp_gt (tgt := 166) hx hb dX12_factor_74 (by decide) (fun hcq1 => ?_) (fun hcq1 => ?_)
      · have h := ifp hcq1 h
        refine lv_aload_n hx hb dX12_factor_166 rfl (lv_at hl 0 rfl) ?_
        refine va_get (D := D) (ci := 12) (v := .ref (G.1 21)) (C := RX12) (T := TX12) (N := 34) hx hb hts iwX12 hown hK hP 28 (mg_2 rfl) rfl 23 (by decide) (hts _ mw_981) (fun _ h9 => h9) rfl dX12_factor_167 ?_
        refine lv_iload_n hx hb dX12_factor_170 rfl (lv_at hl 2 rfl) ?_
        obtain ⟨hiq2, h⟩ := nif h
        refine va_iald hx hb hK hP 21 0 (mg_0 rfl) rfl hiq2 dX12_factor_171 ?_
        obtain rfl := Option.some.inj h
        exact W.iret (v := τ 21 p3.toNatClampNeg) hx hb hr (fun t ht hW => ⟨⟨_, _, rfl, ⟨rfl, rfl⟩, mPre_at h0 hS hP ht hW⟩, hS.F ht⟩) hS.2.2 dX12_factor_172
      have h := ifn hcq1 h
      refine lv_aload_n hx hb dX12_factor_77 rfl (lv_at hl 0 rfl) ?_
      refine va_get (D := D) (ci := 12) (v := .ref (G.1 7)) (C := RX12) (T := TX12) (N := 34) hx hb hts iwX12 hown hK hP 28 (mg_2 rfl) rfl 8 (by decide) (hts _ mw_966) (fun _ h9 => h9) rfl dX12_factor_78 ?_
      refine lv_iconst (v := 0) hx hb dX12_factor_81 (by decide) ?_
      obtain ⟨xq3, hfq4, h⟩ := obd h
      refine va_calli (va_runS (As := [.ref (G.1 7), .int 0]) (rest := []) ⟨hx, hb, hml, hown, hts⟩ (kX12_normOf l D G _ 7 rfl 0 xq3 hfq4) (va_cwS 2 hts (lwW_gS mw_936 mw_937 mw_14 mw_938) rfl rfl rfl (by decide +kernel) ⟨Nat.le_of_ble_eq_true rfl, Nat.le_of_ble_eq_true rfl⟩) ⟨fun a U g mk q => ⟨q.1, mPre_call q.2⟩, fun U hU hW => ⟨rfl, mPre_at h0 hS hP hU hW⟩⟩ rfl rfl hl.1 rfl (lv_room (Nat.le_of_ble_eq_true rfl)) dX12_factor_82 ⟨Nat.zero_le _, Nat.zero_le _⟩) hS (fun q _ h => h) (fun q h => h) (fun r u t H1 locs ht hvm hw hB hz1 hq1 hS => ?_)
      obtain ⟨rfl, rfl⟩ := hw
      have hP := hB.1
      rw [ht] at hP
      refine W.widen (k := 0) (n := 0) (Nat.le_refl _) (Nat.le_refl _) ?_
      refine lv_istore (lv' := [(5, .int xq3.1), (0, .ref (G.1 28)), (2, .int p2), (3, .int p3), (4, .int v4)]) hx hb dX12_factor_85 hl (by decide) rfl (fun ls hl => ?_)
      refine lv_iload hx hb dX12_factor_87 (lv_at hl 0 rfl) ?_
      refine lv_iconst (v := 1) hx hb dX12_factor_89 (by decide) ?_
      refine lv_icmp_ne (tgt := 100) hx hb dX12_factor_90 (by decide) (fun hcq5 => ?_) (fun hcq5 => ?_)
      · have h := ifn hcq5 h
        refine lv_aload_n hx hb dX12_factor_100 rfl (lv_at hl 1 rfl) ?_
        refine lv_iconst (v := 0) hx hb dX12_factor_101 (by decide) ?_
        refine va_put (D := D) (ci := 12) (v := .int 0) (ty := .int) (C := RX12) (T := TX12) (N := 34) hx hb hts iwX12 tyX12 tyX12_ok nmX12 hown hK hP (mD hi) hS 28 (mg_2 rfl) rfl 6 (by decide) (hts _ mw_964) (fun _ h9 => h9) rfl (by decide +kernel) rfl rfl (Nat.le_of_ble_eq_true rfl) dX12_factor_102 (fun H locs hP hD hS => ?_)
        have hP : va_P D vwCl (mW G (ms xq3.2 28 6 0)) H := by rw [← ms_2_6 rfl]; exact hP
        refine lv_aload_n hx hb dX12_factor_105 rfl (lv_at hl 1 rfl) ?_
        refine lv_iload hx hb dX12_factor_106 (lv_at hl 0 rfl) ?_
        obtain ⟨xq6, hfq7, h⟩ := obd h
        refine va_calli (va_runS (As := [.int xq3.1]) (rest := [.ref (G.1 28)]) ⟨hx, hb, hml, hown, hts⟩ (kX12_leastPrime l xq3.1 xq6 hfq7) (va_cwS 1 hts (lwW_gS mw_1203 mw_1204 mw_14 mw_1205) rfl rfl rfl (by decide +kernel) ⟨Nat.le_of_ble_eq_true rfl, Nat.le_of_ble_eq_true rfl⟩) ⟨fun a U g mk q => ⟨q.1, trivial⟩, fun U hU hW => ⟨rfl, trivial⟩⟩ rfl rfl hl.1 rfl (lv_room (Nat.le_of_ble_eq_true rfl)) dX12_factor_108 ⟨Nat.zero_le _, Nat.zero_le _⟩) hS (fun q _ h => h.elim) (fun q h => h.elim) (fun r u t H1 locs ht hvm hw hB hz1 hq1 hS => ?_)
        obtain rfl := hw.symm
        have hP := mP_kept hP hq1
        refine W.widen (k := 0) (n := 0) (Nat.le_refl _) (Nat.le_refl _) ?_
        refine lv_iconst (v := 0) hx hb dX12_factor_111 (by decide) ?_
        refine lv_iconst (v := 0) hx hb dX12_factor_112 (by decide) ?_
        refine lv_iconst (v := 1) hx hb dX12_factor_113 (by decide) ?_
        refine lv_iconst (v := 1) hx hb dX12_factor_114 (by decide) ?_
        obtain ⟨xq8, hfq9, h⟩ := obd h
        refine va_callv (va_runV (As := [.int xq6, .int 0, .int 0, .int 1, .int 1]) (rest := []) ⟨hx, hb, hml, hown, hts⟩ (kX12_gathers l D G _ xq6 0 0 1 1 xq8 hfq9) (cwV 5 hts (lwW_gV mw_917 mw_919 ms_25 mw_14 mw_920) rfl rfl rfl (by decide +kernel) ⟨Nat.le_of_ble_eq_true rfl, Nat.le_of_ble_eq_true rfl⟩) ⟨fun a U g mk q => ⟨q.1, mPre_call q.2⟩, va_recv hK hP rfl (mg_2 rfl), fun U hU hW => ⟨rfl, mPre_at h0 hS hP hU hW⟩⟩ rfl rfl hl.1 rfl (lv_room (Nat.le_of_ble_eq_true rfl)) dX12_factor_115 ⟨Nat.zero_le _, Nat.zero_le _⟩) hS (fun q _ h => h) (fun q h => h) (fun u t H1 locs ht hvm hw hB hz1 hq1 hS => ?_)
        obtain rfl := hw.symm
        have hP := hB.1
        rw [ht] at hP
        refine W.widen (k := 0) (n := 0) (Nat.le_refl _) (Nat.le_refl _) ?_
        refine lv_aload_n hx hb dX12_factor_118 rfl (lv_at hl 1 rfl) ?_
        refine va_get (D := D) (ci := 12) (v := .ref (G.1 5)) (C := RX12) (T := TX12) (N := 34) hx hb hts iwX12 hown hK hP 28 (mg_2 rfl) rfl 5 (by decide) (hts _ mw_963) (fun _ h9 => h9) rfl dX12_factor_119 ?_
        refine lv_iconst (v := 0) hx hb dX12_factor_122 (by decide) ?_
        refine lv_aload_n hx hb dX12_factor_123 rfl (lv_at hl 1 rfl) ?_
        refine va_get (D := D) (ci := 12) (v := .ref (G.1 21)) (C := RX12) (T := TX12) (N := 34) hx hb hts iwX12 hown hK hP 28 (mg_2 rfl) rfl 23 (by decide) (hts _ mw_981) (fun _ h9 => h9) rfl dX12_factor_124 ?_
        refine lv_iconst (v := 0) hx hb dX12_factor_127 (by decide) ?_
        obtain ⟨xq10, hfq11, h⟩ := obd h
        refine va_callv (va_runS (As := [.ref (G.1 5), .int 0, .ref (G.1 21), .int 0]) (rest := []) ⟨hx, hb, hml, hown, hts⟩ (kX12_copies l D G _ 5 rfl 0 21 rfl 0 xq10 hfq11) (va_cwS 4 hts (lwW_gS mw_955 mw_956 mw_14 mw_957) rfl rfl rfl (by decide +kernel) ⟨Nat.le_of_ble_eq_true rfl, Nat.le_of_ble_eq_true rfl⟩) ⟨fun a U g mk q => ⟨q.1, mPre_call q.2⟩, fun U hU hW => ⟨rfl, mPre_at h0 hS hP hU hW⟩⟩ rfl rfl hl.1 rfl (lv_room (Nat.le_of_ble_eq_true rfl)) dX12_factor_128 ⟨Nat.zero_le _, Nat.zero_le _⟩) hS (fun q _ h => h) (fun q h => h) (fun u t H1 locs ht hvm hw hB hz1 hq1 hS => ?_)
        obtain rfl := hw.symm
        have hP := hB.1
        rw [ht] at hP
        refine W.widen (k := 0) (n := 0) (Nat.le_refl _) (Nat.le_refl _) ?_
        refine lv_aload_n hx hb dX12_factor_131 rfl (lv_at hl 1 rfl) ?_
        refine lv_aload_n hx hb dX12_factor_132 rfl (lv_at hl 1 rfl) ?_
        refine va_get (D := D) (ci := 12) (v := .ref (G.1 21)) (C := RX12) (T := TX12) (N := 34) hx hb hts iwX12 hown hK hP 28 (mg_2 rfl) rfl 23 (by decide) (hts _ mw_981) (fun _ h9 => h9) rfl dX12_factor_133 ?_
        refine lv_iconst (v := 0) hx hb dX12_factor_136 (by decide) ?_
        refine lv_aload_n hx hb dX12_factor_137 rfl (lv_at hl 1 rfl) ?_
        refine va_get (D := D) (ci := 12) (v := .ref (G.1 7)) (C := RX12) (T := TX12) (N := 34) hx hb hts iwX12 hown hK hP 28 (mg_2 rfl) rfl 8 (by decide) (hts _ mw_966) (fun _ h9 => h9) rfl dX12_factor_138 ?_
        refine lv_iconst (v := 0) hx hb dX12_factor_141 (by decide) ?_
        refine lv_iconst (v := 0) hx hb dX12_factor_142 (by decide) ?_
        obtain ⟨xq12, hfq13, h⟩ := obd h
        refine va_calli (va_runV (As := [.ref (G.1 21), .int 0, .ref (G.1 7), .int 0, .int 0]) (rest := []) ⟨hx, hb, hml, hown, hts⟩ (kX12_isDivisor l D G _ 21 rfl 0 7 rfl 0 0 xq12 hfq13) (cwV 5 hts (lwW_gV mw_932 mw_934 ms_28 mw_14 mw_935) rfl rfl rfl (by decide +kernel) ⟨Nat.le_of_ble_eq_true rfl, Nat.le_of_ble_eq_true rfl⟩) ⟨fun a U g mk q => ⟨q.1, mPre_call q.2⟩, va_recv hK hP rfl (mg_2 rfl), fun U hU hW => ⟨rfl, mPre_at h0 hS hP hU hW⟩⟩ rfl rfl hl.1 rfl (lv_room (Nat.le_of_ble_eq_true rfl)) dX12_factor_143 ⟨Nat.zero_le _, Nat.zero_le _⟩) hS (fun q _ h => h) (fun q h => h) (fun r u t H1 locs ht hvm hw hB hz1 hq1 hS => ?_)
        obtain ⟨rfl, rfl⟩ := hw
        have hP := hB.1
        rw [ht] at hP
        refine W.widen (k := 0) (n := 0) (Nat.le_refl _) (Nat.le_refl _) ?_
        refine lv_pop hx hb dX12_factor_146 rfl ?_
        refine lv_aload_n hx hb dX12_factor_147 rfl (lv_at hl 1 rfl) ?_
        refine va_get (D := D) (ci := 12) (v := .ref (G.1 3)) (C := RX12) (T := TX12) (N := 34) hx hb hts iwX12 hown hK hP 28 (mg_2 rfl) rfl 3 (by decide) (hts _ mw_961) (fun _ h9 => h9) rfl dX12_factor_148 ?_
        refine lv_iconst (v := 0) hx hb dX12_factor_151 (by decide) ?_
        refine lv_aload_n hx hb dX12_factor_152 rfl (lv_at hl 1 rfl) ?_
        refine va_get (D := D) (ci := 12) (v := .ref (G.1 7)) (C := RX12) (T := TX12) (N := 34) hx hb hts iwX12 hown hK hP 28 (mg_2 rfl) rfl 8 (by decide) (hts _ mw_966) (fun _ h9 => h9) rfl dX12_factor_153 ?_
        refine lv_iconst (v := 0) hx hb dX12_factor_156 (by decide) ?_
        obtain ⟨xq14, hfq15, h⟩ := obd h
        refine va_callv (va_runS (As := [.ref (G.1 3), .int 0, .ref (G.1 7), .int 0]) (rest := []) ⟨hx, hb, hml, hown, hts⟩ (kX12_copies l D G _ 3 rfl 0 7 rfl 0 xq14 hfq15) (va_cwS 4 hts (lwW_gS mw_955 mw_956 mw_14 mw_957) rfl rfl rfl (by decide +kernel) ⟨Nat.le_of_ble_eq_true rfl, Nat.le_of_ble_eq_true rfl⟩) ⟨fun a U g mk q => ⟨q.1, mPre_call q.2⟩, fun U hU hW => ⟨rfl, mPre_at h0 hS hP hU hW⟩⟩ rfl rfl hl.1 rfl (lv_room (Nat.le_of_ble_eq_true rfl)) dX12_factor_157 ⟨Nat.zero_le _, Nat.zero_le _⟩) hS (fun q _ h => h) (fun q h => h) (fun u t H1 locs ht hvm hw hB hz1 hq1 hS => ?_)
        obtain rfl := hw.symm
        have hP := hB.1
        rw [ht] at hP
        refine W.widen (k := 0) (n := 0) (Nat.le_refl _) (Nat.le_refl _) ?_
        refine lv_iinc (v := v4 + 1) (lv' := [(4, .int (v4 + 1)), (5, .int xq3.1), (0, .ref (G.1 28)), (2, .int p2), (3, .int p3)]) hx hb dX12_factor_160 hl (k := 4) rfl rfl (by decide) rfl (fun ls hl => ?_)
        refine lv_goto (tgt := 71) hx hb dX12_factor_163 (by decide) ?_
        exact ih71 (v4 + 1) _ _ _ _ h hP hS (lv_sub hl [2, 3, 4, 0] rfl)
      have h := ifp hcq5 h
      refine lv_aload_n hx hb dX12_factor_93 rfl (lv_at hl 1 rfl) ?_
      refine va_get (D := D) (ci := 12) (v := .ref (G.1 7)) (C := RX12) (T := TX12) (N := 34) hx hb hts iwX12 hown hK hP 28 (mg_2 rfl) rfl 8 (by decide) (hts _ mw_966) (fun _ h9 => h9) rfl dX12_factor_94 ?_
      refine lv_iload_n hx hb dX12_factor_97 rfl (lv_at hl 3 rfl) ?_
      obtain ⟨hiq16, h⟩ := nif h
      refine va_iald hx hb hK hP 7 0 (mg_0 rfl) rfl hiq16 dX12_factor_98 ?_
      obtain rfl := Option.some.inj h
      exact W.iret (v := xq3.2 7 p3.toNatClampNeg) hx hb hr (fun t ht hW => ⟨⟨_, _, rfl, ⟨rfl, rfl⟩, mPre_at h0 hS hP ht hW⟩, hS.F ht⟩) hS.2.2 dX12_factor_99
  refine lv_iload_n hx hb dX12_factor_0 rfl (lv_at hl 1 rfl) ?_
  obtain ⟨xq17, hfq18, h⟩ := obd h
  refine va_calli (va_runS (As := [.int p1]) (rest := []) ⟨hx, hb, hml, hown, hts⟩ (kX12_isSlot l p1 xq17 hfq18) (va_cwS 1 hts (lwW_gS mw_1066 mw_1067 mw_14 mw_1068) rfl rfl rfl (by decide +kernel) ⟨Nat.le_of_ble_eq_true rfl, Nat.le_of_ble_eq_true rfl⟩) ⟨fun a U g mk q => ⟨q.1, trivial⟩, fun U hU hW => ⟨rfl, trivial⟩⟩ rfl rfl hl.1 rfl (lv_room (Nat.le_of_ble_eq_true rfl)) dX12_factor_1 ⟨Nat.zero_le _, Nat.zero_le _⟩) hS (fun q _ h => h.elim) (fun q h => h.elim) (fun r u t H1 locs ht hvm hw hB hz1 hq1 hS => ?_)
  obtain rfl := hw.symm
  have hP := mP_kept hP hq1
  refine W.widen (k := 0) (n := 0) (Nat.le_refl _) (Nat.le_refl _) ?_
  refine lv_if_ne (tgt := 11) hx hb dX12_factor_4 (by decide) (fun hcq19 => ?_) (fun hcq19 => ?_)
  · have h := ifn hcq19 h
    refine lv_iload_n hx hb dX12_factor_11 rfl (lv_at hl 3 rfl) ?_
    refine lv_iconst (v := 0) hx hb dX12_factor_12 (by decide) ?_
    refine lv_iconst (v := 3) hx hb dX12_factor_13 (by decide) ?_
    obtain ⟨xq20, hfq21, h⟩ := obd h
    refine va_calli (va_runS (As := [.int p3, .int 0, .int 3]) (rest := []) ⟨hx, hb, hml, hown, hts⟩ (kX12_in l p3 0 3 xq20 hfq21) (va_cwS 3 hts (lwW_gS mw_1069 mw_1070 mw_14 mw_1071) rfl rfl rfl (by decide +kernel) ⟨Nat.le_of_ble_eq_true rfl, Nat.le_of_ble_eq_true rfl⟩) ⟨fun a U g mk q => ⟨q.1, trivial⟩, fun U hU hW => ⟨rfl, trivial⟩⟩ rfl rfl hl.1 rfl (lv_room (Nat.le_of_ble_eq_true rfl)) dX12_factor_14 ⟨Nat.zero_le _, Nat.zero_le _⟩) hS (fun q _ h => h.elim) (fun q h => h.elim) (fun r u t H1 locs ht hvm hw hB hz1 hq1 hS => ?_)
    obtain rfl := hw.symm
    have hP := mP_kept hP hq1
    refine W.widen (k := 0) (n := 0) (Nat.le_refl _) (Nat.le_refl _) ?_
    refine lv_if_eq (tgt := 24) hx hb dX12_factor_17 (by decide) (fun hcq22 => ?_) (fun hcq22 => ?_)
    · have h := ifp hcq22 h
      refine lv_sipush (v := (-1002)) hx hb dX12_factor_24 (by decide) ?_
      obtain rfl := Option.some.inj h
      exact W.iret (v := (-1002)) hx hb hr (fun t ht hW => ⟨⟨_, _, rfl, ⟨rfl, rfl⟩, mPre_at h0 hS hP ht hW⟩, hS.F ht⟩) hS.2.2 dX12_factor_27
    have h := ifn hcq22 h
    refine lv_iload_n hx hb dX12_factor_20 rfl (lv_at hl 2 rfl) ?_
    refine lv_if_ge (tgt := 28) hx hb dX12_factor_21 (by decide) (fun hcq23 => ?_) (fun hcq23 => ?_)
    · have h := ifp hcq23 h
      refine lv_aload_n hx hb dX12_factor_28 rfl (lv_at hl 0 rfl) ?_
      refine lv_iload_n hx hb dX12_factor_29 rfl (lv_at hl 1 rfl) ?_
      obtain ⟨xq24, hfq25, h⟩ := obd h
      refine va_calli (va_runV (As := [.int p1]) (rest := []) ⟨hx, hb, hml, hown, hts⟩ (kX12_isEmpty l D G _ p1 xq24 hfq25) (cwV 1 hts (lwW_gV mw_1076 mw_1078 ms_30 mw_14 mw_1079) rfl rfl rfl (by decide +kernel) ⟨Nat.le_of_ble_eq_true rfl, Nat.le_of_ble_eq_true rfl⟩) ⟨fun a U g mk q => ⟨q.1, mPre_call q.2⟩, va_recv hK hP rfl (mg_2 rfl), fun U hU hW => ⟨rfl, mPre_at h0 hS hP hU hW⟩⟩ rfl rfl hl.1 rfl (lv_room (Nat.le_of_ble_eq_true rfl)) dX12_factor_30 ⟨Nat.zero_le _, Nat.zero_le _⟩) hS (fun q _ h => h) (fun q h => h) (fun r u t H1 locs ht hvm hw hB hz1 hq1 hS => ?_)
      obtain ⟨rfl, rfl⟩ := hw
      have hP := hB.1
      rw [ht] at hP
      refine W.widen (k := 0) (n := 0) (Nat.le_refl _) (Nat.le_refl _) ?_
      refine lv_if_ne (tgt := 49) hx hb dX12_factor_33 (by decide) (fun hcq26 => ?_) (fun hcq26 => ?_)
      · have h := ifn hcq26 h
        refine lv_sipush (v := (-1003)) hx hb dX12_factor_49 (by decide) ?_
        obtain rfl := Option.some.inj h
        exact W.iret (v := (-1003)) hx hb hr (fun t ht hW => ⟨⟨_, _, rfl, ⟨rfl, rfl⟩, mPre_at h0 hS hP ht hW⟩, hS.F ht⟩) hS.2.2 dX12_factor_52
      have h := ifp hcq26 h
      refine lv_iload_n hx hb dX12_factor_36 rfl (lv_at hl 2 rfl) ?_
      refine lv_aload_n hx hb dX12_factor_37 rfl (lv_at hl 0 rfl) ?_
      refine lv_aload_n hx hb dX12_factor_38 rfl (lv_at hl 0 rfl) ?_
      refine lv_iload_n hx hb dX12_factor_39 rfl (lv_at hl 1 rfl) ?_
      obtain ⟨xq27, hfq28, h⟩ := obd h
      refine va_calli (va_runV (As := [.int p1]) (rest := [.ref (G.1 28), .int p2]) ⟨hx, hb, hml, hown, hts⟩ (kX12_norm l D G _ p1 xq27 hfq28) (cwV 1 hts (lwW_gV mw_1083 mw_1085 ms_31 mw_14 mw_1086) rfl rfl rfl (by decide +kernel) ⟨Nat.le_of_ble_eq_true rfl, Nat.le_of_ble_eq_true rfl⟩) ⟨fun a U g mk q => ⟨q.1, mPre_call q.2⟩, va_recv hK hP rfl (mg_2 rfl), fun U hU hW => ⟨rfl, mPre_at h0 hS hP hU hW⟩⟩ rfl rfl hl.1 rfl (lv_room (Nat.le_of_ble_eq_true rfl)) dX12_factor_40 ⟨Nat.zero_le _, Nat.zero_le _⟩) hS (fun q _ h => h) (fun q h => h) (fun r u t H1 locs ht hvm hw hB hz1 hq1 hS => ?_)
      obtain ⟨rfl, rfl⟩ := hw
      have hP := hB.1
      rw [ht] at hP
      refine W.widen (k := 0) (n := 0) (Nat.le_refl _) (Nat.le_refl _) ?_
      obtain ⟨xq29, hfq30, h⟩ := obd h
      refine va_calli (va_runV (As := [.int xq27.1]) (rest := [.int p2]) ⟨hx, hb, hml, hown, hts⟩ (kX12_primesIn l D G _ xq27.1 xq29 hfq30) (cwV 1 hts (lwW_gV mw_1095 mw_1097 ms_34 mw_14 mw_1098) rfl rfl rfl (by decide +kernel) ⟨Nat.le_of_ble_eq_true rfl, Nat.le_of_ble_eq_true rfl⟩) ⟨fun a U g mk q => ⟨q.1, mPre_call q.2⟩, va_recv hK hP rfl (mg_2 rfl), fun U hU hW => ⟨rfl, mPre_at h0 hS hP hU hW⟩⟩ rfl rfl hl.1 rfl (lv_room (Nat.le_of_ble_eq_true rfl)) dX12_factor_43 ⟨Nat.zero_le _, Nat.zero_le _⟩) hS (fun q _ h => h) (fun q h => h) (fun r u t H1 locs ht hvm hw hB hz1 hq1 hS => ?_)
      obtain ⟨rfl, rfl⟩ := hw
      have hP := hB.1
      rw [ht] at hP
      refine W.widen (k := 0) (n := 0) (Nat.le_refl _) (Nat.le_refl _) ?_
      refine lv_icmp_le (tgt := 53) hx hb dX12_factor_46 (by decide) (fun hcq31 => ?_) (fun hcq31 => ?_)
      · have h := ifp hcq31 h
        refine lv_aload_n hx hb dX12_factor_53 rfl (lv_at hl 0 rfl) ?_
        refine va_get (D := D) (ci := 12) (v := .ref (G.1 13)) (C := RX12) (T := TX12) (N := 34) hx hb hts iwX12 hown hK hP 28 (mg_2 rfl) rfl 14 (by decide) (hts _ mw_972) (fun _ h9 => h9) rfl dX12_factor_54 ?_
        refine lv_iconst (v := 4) hx hb dX12_factor_57 (by decide) ?_
        refine lv_iload_n hx hb dX12_factor_58 rfl (lv_at hl 1 rfl) ?_
        refine lv_imul hx hb dX12_factor_59 ?_
        refine lv_aload_n hx hb dX12_factor_60 rfl (lv_at hl 0 rfl) ?_
        refine va_get (D := D) (ci := 12) (v := .ref (G.1 7)) (C := RX12) (T := TX12) (N := 34) hx hb hts iwX12 hown hK hP 28 (mg_2 rfl) rfl 8 (by decide) (hts _ mw_966) (fun _ h9 => h9) rfl dX12_factor_61 ?_
        refine lv_iconst (v := 0) hx hb dX12_factor_64 (by decide) ?_
        obtain ⟨xq32, hfq33, h⟩ := obd h
        refine va_callv (va_runS (As := [.ref (G.1 13), .int (4 * p1), .ref (G.1 7), .int 0]) (rest := []) ⟨hx, hb, hml, hown, hts⟩ (kX12_copies l D G _ 13 rfl (4 * p1) 7 rfl 0 xq32 hfq33) (va_cwS 4 hts (lwW_gS mw_955 mw_956 mw_14 mw_957) rfl rfl rfl (by decide +kernel) ⟨Nat.le_of_ble_eq_true rfl, Nat.le_of_ble_eq_true rfl⟩) ⟨fun a U g mk q => ⟨q.1, mPre_call q.2⟩, fun U hU hW => ⟨rfl, mPre_at h0 hS hP hU hW⟩⟩ rfl rfl hl.1 rfl (lv_room (Nat.le_of_ble_eq_true rfl)) dX12_factor_65 ⟨Nat.zero_le _, Nat.zero_le _⟩) hS (fun q _ h => h) (fun q h => h) (fun u t H1 locs ht hvm hw hB hz1 hq1 hS => ?_)
        obtain rfl := hw.symm
        have hP := hB.1
        rw [ht] at hP
        refine W.widen (k := 0) (n := 0) (Nat.le_refl _) (Nat.le_refl _) ?_
        refine lv_iconst (v := 0) hx hb dX12_factor_68 (by decide) ?_
        refine lv_istore (lv' := [(4, .int 0), (0, .ref (G.1 28)), (1, .int p1), (2, .int p2), (3, .int p3)]) hx hb dX12_factor_69 hl (by decide) rfl (fun ls hl => ?_)
        exact L71 FU 0 _ _ _ _ h hP hS (lv_sub hl [1, 3, 4, 0] rfl)
      have h := ifn hcq31 h
      refine lv_sipush (v := (-1003)) hx hb dX12_factor_49 (by decide) ?_
      obtain rfl := Option.some.inj h
      exact W.iret (v := (-1003)) hx hb hr (fun t ht hW => ⟨⟨_, _, rfl, ⟨rfl, rfl⟩, mPre_at h0 hS hP ht hW⟩, hS.F ht⟩) hS.2.2 dX12_factor_52
    have h := ifn hcq23 h
    refine lv_sipush (v := (-1002)) hx hb dX12_factor_24 (by decide) ?_
    obtain rfl := Option.some.inj h
    exact W.iret (v := (-1002)) hx hb hr (fun t ht hW => ⟨⟨_, _, rfl, ⟨rfl, rfl⟩, mPre_at h0 hS hP ht hW⟩, hS.F ht⟩) hS.2.2 dX12_factor_27
  have h := ifp hcq19 h
  refine lv_sipush (v := (-1001)) hx hb dX12_factor_7 (by decide) ?_
  obtain rfl := Option.some.inj h
  exact W.iret (v := (-1001)) hx hb hr (fun t ht hW => ⟨⟨_, _, rfl, ⟨rfl, rfl⟩, mPre_at h0 hS hP ht hW⟩, hS.F ht⟩) hS.2.2 dX12_factor_10
def fX12_tells (p1 : Int32) (p2 : Int32) (σ : QMem) : Option (Int32 × QMem) :=
  if 0 ≤ p1 then (if (σ 28 6) ≤ p1 then (some ((-1003), σ)) else (if ((4 * p1) + p2 < 0 ∨ ml 5 ≤ ((4 * p1) + p2).toNatClampNeg) then none else (some (σ 5 ((4 * p1) + p2).toNatClampNeg, σ)))) else (some (σ 28 6, σ))
set_option maxHeartbeats 4000000 in
set_option maxRecDepth 100000 in
theorem kX12_tells (l : Launch) (D : va_G) (G : xG) (σ : QMem) (p1 : Int32) (p2 : Int32) (res : Int32 × QMem) (h : fX12_tells p1 p2 σ = some res) : Met l yX12_tells (.code yX12_tells cX12_tells 3 (some .int) :: lwW) (rmD 0) (mPc D G σ [.ref (G.1 28), .int p1, .int p2]) (mQi D G res) 0 0 (mA G) := by
  refine Met.ofW (cc := cX12_tells) (maxL := 3) (ret := (some .int)) (by decide) rfl ?_
  intro p e s m args below meth c s₁ B hml hv
  obtain ⟨rfl, h0⟩ := hv
  have hx := B.exec
  have hb := B.bytes
  have hr := B.returns
  have hts := fun (w : Cond) (hw : w ∈ lwW) => atoms_spec (ws := (.code yX12_tells cX12_tells 3 (some .int) :: lwW)) B.pre w (List.mem_cons_of_mem _ hw)
  have hown : s.vm.findClass RX12 = some m.cls := findClass_of_methodNamed B.named
  have hlocks := B.notSynchronized
  have hP := h0.1
  have hK := h0.2.1
  have hi := h0.2.2
  have hS : va_S (mA G) s.heap s.heap [] := va_S.rf
  have hl := lv_entry ([.ref (G.1 28), .int p1, .int p2]) (n := 3) (Nat.le_of_ble_eq_true rfl)
  rw [lg_entry_eq]
  generalize (lg_sl ([.ref (G.1 28), .int p1, .int p2]) ++ List.replicate (3 - (lg_sl ([.ref (G.1 28), .int p1, .int p2])).length) Slot.unset).toArray = ls at hl ⊢
  have hl : lv_has ls 3 [(0, .ref (G.1 28)), (1, .int p1), (2, .int p2)] := hl
  unfold fX12_tells at h
  refine lv_iload_n hx hb dX12_tells_0 rfl (lv_at hl 1 rfl) ?_
  refine lv_if_ge (tgt := 11) hx hb dX12_tells_1 (by decide) (fun hcq1 => ?_) (fun hcq1 => ?_)
  · have h := ifp hcq1 h
    refine lv_iload_n hx hb dX12_tells_11 rfl (lv_at hl 1 rfl) ?_
    refine lv_aload_n hx hb dX12_tells_12 rfl (lv_at hl 0 rfl) ?_
    refine va_get (D := D) (ci := 12) (v := .int (σ 28 6)) (C := RX12) (T := TX12) (N := 34) hx hb hts iwX12 hown hK hP 28 (mg_2 rfl) rfl 6 (by decide) (hts _ mw_964) (fun _ h9 => h9) rfl dX12_tells_13 ?_
    refine lv_icmp_ge (tgt := 32) hx hb dX12_tells_16 (by decide) (fun hcq2 => ?_) (fun hcq2 => ?_)
    · have h := ifp hcq2 h
      refine lv_sipush (v := (-1003)) hx hb dX12_tells_32 (by decide) ?_
      obtain rfl := Option.some.inj h
      exact W.iret (v := (-1003)) hx hb hr (fun t ht hW => ⟨⟨_, _, rfl, ⟨rfl, rfl⟩, mPre_at h0 hS hP ht hW⟩, hS.F ht⟩) hS.2.2 dX12_tells_35
    have h := ifn hcq2 h
    refine lv_aload_n hx hb dX12_tells_19 rfl (lv_at hl 0 rfl) ?_
    refine va_get (D := D) (ci := 12) (v := .ref (G.1 5)) (C := RX12) (T := TX12) (N := 34) hx hb hts iwX12 hown hK hP 28 (mg_2 rfl) rfl 5 (by decide) (hts _ mw_963) (fun _ h9 => h9) rfl dX12_tells_20 ?_
    refine lv_iconst (v := 4) hx hb dX12_tells_23 (by decide) ?_
    refine lv_iload_n hx hb dX12_tells_24 rfl (lv_at hl 1 rfl) ?_
    refine lv_imul hx hb dX12_tells_25 ?_
    refine lv_iload_n hx hb dX12_tells_26 rfl (lv_at hl 2 rfl) ?_
    refine lv_iadd hx hb dX12_tells_27 ?_
    obtain ⟨hiq3, h⟩ := nif h
    refine va_iald hx hb hK hP 5 0 (mg_0 rfl) rfl hiq3 dX12_tells_28 ?_
    refine lv_goto (tgt := 35) hx hb dX12_tells_29 (by decide) ?_
    obtain rfl := Option.some.inj h
    exact W.iret (v := σ 5 ((4 * p1) + p2).toNatClampNeg) hx hb hr (fun t ht hW => ⟨⟨_, _, rfl, ⟨rfl, rfl⟩, mPre_at h0 hS hP ht hW⟩, hS.F ht⟩) hS.2.2 dX12_tells_35
  have h := ifn hcq1 h
  refine lv_aload_n hx hb dX12_tells_4 rfl (lv_at hl 0 rfl) ?_
  refine va_get (D := D) (ci := 12) (v := .int (σ 28 6)) (C := RX12) (T := TX12) (N := 34) hx hb hts iwX12 hown hK hP 28 (mg_2 rfl) rfl 6 (by decide) (hts _ mw_964) (fun _ h9 => h9) rfl dX12_tells_5 ?_
  refine lv_goto (tgt := 35) hx hb dX12_tells_8 (by decide) ?_
  obtain rfl := Option.some.inj h
  exact W.iret (v := σ 28 6) hx hb hr (fun t ht hW => ⟨⟨_, _, rfl, ⟨rfl, rfl⟩, mPre_at h0 hS hP ht hW⟩, hS.F ht⟩) hS.2.2 dX12_tells_35
def fX12_prime_J117 (p1 : Int32) (p2 : Int32) (p3 : Int32) (p4 : Int32) (K76 : Int32 → QMem → Option (Int32 × QMem)) (v5 : Int32) (τ : QMem) : Option (Int32 × QMem) :=
  K76 (v5 + 1) τ
def fX12_prime_L76 (p1 : Int32) (p2 : Int32) (p3 : Int32) (p4 : Int32) : Nat → Int32 → QMem → Option (Int32 × QMem)
  | 0, _, _ => none
  | n + 1, v5, τ =>
  (fX12_norm p1 τ).bind fun xq1 => (if xq1.1 < v5 then ((fX12_tells p3 p4 xq1.2).bind fun xq4 => (some (xq4.1, xq4.2))) else ((fX12_norm p1 xq1.2).bind fun xq6 => (if v5 = 0 then none else (if (xq6.1 - xq6.1 / v5 * v5) = 0 then ((fX12_isPrime v5).bind fun xq10 => (if xq10 = 0 then (fX12_prime_J117 p1 p2 p3 p4 (fX12_prime_L76 p1 p2 p3 p4 n) v5 xq6.2) else ((fX12_gathers v5 p2 1 1 600 xq6.2).bind fun xq13 => (fX12_prime_J117 p1 p2 p3 p4 (fX12_prime_L76 p1 p2 p3 p4 n) v5 xq13)))) else (fX12_prime_J117 p1 p2 p3 p4 (fX12_prime_L76 p1 p2 p3 p4 n) v5 xq6.2)))))
def fX12_prime_J41 (p1 : Int32) (p2 : Int32) (p3 : Int32) (p4 : Int32)  (τ : QMem) : Option (Int32 × QMem) :=
  (fX12_isEmpty p1 τ).bind fun xq15 => (if xq15.1 = 0 then ((fX12_copies 13 (4 * p1) 7 0 xq15.2).bind fun xq18 => (fX12_prime_L76 p1 p2 p3 p4 FU 2 (ms xq18 28 6 0))) else (some ((-1003), xq15.2)))
def fX12_prime (p1 : Int32) (p2 : Int32) (p3 : Int32) (p4 : Int32) (σ : QMem) : Option (Int32 × QMem) :=
  (fX12_isSlot p1).bind fun xq25 => (if xq25 = 0 then (some ((-1001), σ)) else ((fX12_isSide p2).bind fun xq28 => (if xq28 = 0 then (some ((-1002), σ)) else (if p3 < (-1) then (some ((-1002), σ)) else (if p3 < 0 then (fX12_prime_J41 p1 p2 p3 p4 σ) else ((fX12_in p4 0 3).bind fun xq33 => (if xq33 = 0 then (some ((-1002), σ)) else (fX12_prime_J41 p1 p2 p3 p4 σ))))))))
set_option maxHeartbeats 4000000 in
set_option maxRecDepth 100000 in
theorem kX12_prime (l : Launch) (D : va_G) (G : xG) (σ : QMem) (p1 : Int32) (p2 : Int32) (p3 : Int32) (p4 : Int32) (res : Int32 × QMem) (h : fX12_prime p1 p2 p3 p4 σ = some res) : Met l yX12_prime (.code yX12_prime cX12_prime 6 (some .int) :: lwW) (rmD 6) (mPc D G σ [.ref (G.1 28), .int p1, .int p2, .int p3, .int p4]) (mQi D G res) 0 0 (mA G) := by
  refine Met.ofW (cc := cX12_prime) (maxL := 6) (ret := (some .int)) (by decide) rfl ?_
  intro p e s m args below meth c s₁ B hml hv
  obtain ⟨rfl, h0⟩ := hv
  have hx := B.exec
  have hb := B.bytes
  have hr := B.returns
  have hts := fun (w : Cond) (hw : w ∈ lwW) => atoms_spec (ws := (.code yX12_prime cX12_prime 6 (some .int) :: lwW)) B.pre w (List.mem_cons_of_mem _ hw)
  have hown : s.vm.findClass RX12 = some m.cls := findClass_of_methodNamed B.named
  have hlocks := B.notSynchronized
  have hP := h0.1
  have hK := h0.2.1
  have hi := h0.2.2
  have hS : va_S (mA G) s.heap s.heap [] := va_S.rf
  have hl := lv_entry ([.ref (G.1 28), .int p1, .int p2, .int p3, .int p4]) (n := 6) (Nat.le_of_ble_eq_true rfl)
  rw [lg_entry_eq]
  generalize (lg_sl ([.ref (G.1 28), .int p1, .int p2, .int p3, .int p4]) ++ List.replicate (6 - (lg_sl ([.ref (G.1 28), .int p1, .int p2, .int p3, .int p4])).length) Slot.unset).toArray = ls at hl ⊢
  have hl : lv_has ls 6 [(0, .ref (G.1 28)), (1, .int p1), (2, .int p2), (3, .int p3), (4, .int p4)] := hl
  unfold fX12_prime at h
  have L76 : ∀ (n76 : Nat) (v5 : Int32) (τ : QMem) (H : Heap) (locs : List Loc) (ls : Array Slot), fX12_prime_L76 p1 p2 p3 p4 n76 v5 τ = some res → va_P D vwCl (mW G τ) H → va_S (mA G) s.heap H locs → lv_has ls 6 [(0, .ref (G.1 28)), (1, .int p1), (2, .int p2), (3, .int p3), (4, .int p4), (5, .int v5)] → W p l e (headSpec (.code yX12_prime cX12_prime 6 (some .int) :: lwW) (rmD 6)).room s m ([.ref (G.1 28), .int p1, .int p2, .int p3, .int p4] : List Value).toArray below meth c H locs 0 0 (MQ below (mQi D G res) ([.ref (G.1 28), .int p1, .int p2, .int p3, .int p4] : List Value).toArray s 0 0 (mA G)) (F0 m 76 ls []) := by
    intro n76
    induction n76 with
    | zero => intro v5 τ H locs ls h; rw [fX12_prime_L76] at h; cases h
    | succ n76 ih76 =>
      intro v5 τ H locs ls h hP hS hl
      rw [fX12_prime_L76] at h
      have J117 : ∀ (v5 : Int32) (τ : QMem) (H : Heap) (locs : List Loc) (ls : Array Slot), fX12_prime_J117 p1 p2 p3 p4 (fX12_prime_L76 p1 p2 p3 p4 n76) v5 τ = some res → va_P D vwCl (mW G τ) H → va_S (mA G) s.heap H locs → lv_has ls 6 [(0, .ref (G.1 28)), (1, .int p1), (2, .int p2), (3, .int p3), (4, .int p4), (5, .int v5)] → W p l e (headSpec (.code yX12_prime cX12_prime 6 (some .int) :: lwW) (rmD 6)).room s m ([.ref (G.1 28), .int p1, .int p2, .int p3, .int p4] : List Value).toArray below meth c H locs 0 0 (MQ below (mQi D G res) ([.ref (G.1 28), .int p1, .int p2, .int p3, .int p4] : List Value).toArray s 0 0 (mA G)) (F0 m 117 ls []) := by
        intro v5 τ H locs ls h hP hS hl
        unfold fX12_prime_J117 at h
        refine lv_iinc (v := v5 + 1) (lv' := [(5, .int (v5 + 1)), (0, .ref (G.1 28)), (1, .int p1), (2, .int p2), (3, .int p3), (4, .int p4)]) hx hb dX12_prime_117 hl (k := 5) rfl rfl (by decide) rfl (fun ls hl => ?_)
        refine lv_goto (tgt := 76) hx hb dX12_prime_120 (by decide) ?_
        exact ih76 (v5 + 1) _ _ _ _ h hP hS (lv_sub hl [1, 2, 3, 4, 5, 0] rfl)
      refine lv_iload hx hb dX12_prime_76 (lv_at hl 5 rfl) ?_
      refine lv_aload_n hx hb dX12_prime_78 rfl (lv_at hl 0 rfl) ?_
      refine lv_iload_n hx hb dX12_prime_79 rfl (lv_at hl 1 rfl) ?_
      obtain ⟨xq1, hfq2, h⟩ := obd h
      refine va_calli (va_runV (As := [.int p1]) (rest := [.int v5]) ⟨hx, hb, hml, hown, hts⟩ (kX12_norm l D G _ p1 xq1 hfq2) (cwV 1 hts (lwW_gV mw_1083 mw_1085 ms_31 mw_14 mw_1086) rfl rfl rfl (by decide +kernel) ⟨Nat.le_of_ble_eq_true rfl, Nat.le_of_ble_eq_true rfl⟩) ⟨fun a U g mk q => ⟨q.1, mPre_call q.2⟩, va_recv hK hP rfl (mg_2 rfl), fun U hU hW => ⟨rfl, mPre_at h0 hS hP hU hW⟩⟩ rfl rfl hl.1 rfl (lv_room (Nat.le_of_ble_eq_true rfl)) dX12_prime_80 ⟨Nat.zero_le _, Nat.zero_le _⟩) hS (fun q _ h => h) (fun q h => h) (fun r u t H1 locs ht hvm hw hB hz1 hq1 hS => ?_)
      obtain ⟨rfl, rfl⟩ := hw
      have hP := hB.1
      rw [ht] at hP
      refine W.widen (k := 0) (n := 0) (Nat.le_refl _) (Nat.le_refl _) ?_
      refine lv_icmp_gt (tgt := 123) hx hb dX12_prime_83 (by decide) (fun hcq3 => ?_) (fun hcq3 => ?_)
      · have h := ifp hcq3 h
        refine lv_aload_n hx hb dX12_prime_123 rfl (lv_at hl 0 rfl) ?_
        refine lv_iload_n hx hb dX12_prime_124 rfl (lv_at hl 3 rfl) ?_
        refine lv_iload hx hb dX12_prime_125 (lv_at hl 4 rfl) ?_
        obtain ⟨xq4, hfq5, h⟩ := obd h
        refine va_calli (va_runV (As := [.int p3, .int p4]) (rest := []) ⟨hx, hb, hml, hown, hts⟩ (kX12_tells l D G _ p3 p4 xq4 hfq5) (cwV 2 hts (lwW_gV mw_1210 mw_1212 ms_43 mw_14 mw_1213) rfl rfl rfl (by decide +kernel) ⟨Nat.le_of_ble_eq_true rfl, Nat.le_of_ble_eq_true rfl⟩) ⟨fun a U g mk q => ⟨q.1, mPre_call q.2⟩, va_recv hK hP rfl (mg_2 rfl), fun U hU hW => ⟨rfl, mPre_at h0 hS hP hU hW⟩⟩ rfl rfl hl.1 rfl (lv_room (Nat.le_of_ble_eq_true rfl)) dX12_prime_127 ⟨Nat.zero_le _, Nat.zero_le _⟩) hS (fun q _ h => h) (fun q h => h) (fun r u t H1 locs ht hvm hw hB hz1 hq1 hS => ?_)
        obtain ⟨rfl, rfl⟩ := hw
        have hP := hB.1
        rw [ht] at hP
        refine W.widen (k := 0) (n := 0) (Nat.le_refl _) (Nat.le_refl _) ?_
        obtain rfl := Option.some.inj h
        exact W.iret (v := xq4.1) hx hb hr (fun t ht hW => ⟨⟨_, _, rfl, ⟨rfl, rfl⟩, mPre_at h0 hS hP ht hW⟩, hS.F ht⟩) hS.2.2 dX12_prime_130
      have h := ifn hcq3 h
      refine lv_aload_n hx hb dX12_prime_86 rfl (lv_at hl 0 rfl) ?_
      refine lv_iload_n hx hb dX12_prime_87 rfl (lv_at hl 1 rfl) ?_
      obtain ⟨xq6, hfq7, h⟩ := obd h
      refine va_calli (va_runV (As := [.int p1]) (rest := []) ⟨hx, hb, hml, hown, hts⟩ (kX12_norm l D G _ p1 xq6 hfq7) (cwV 1 hts (lwW_gV mw_1083 mw_1085 ms_31 mw_14 mw_1086) rfl rfl rfl (by decide +kernel) ⟨Nat.le_of_ble_eq_true rfl, Nat.le_of_ble_eq_true rfl⟩) ⟨fun a U g mk q => ⟨q.1, mPre_call q.2⟩, va_recv hK hP rfl (mg_2 rfl), fun U hU hW => ⟨rfl, mPre_at h0 hS hP hU hW⟩⟩ rfl rfl hl.1 rfl (lv_room (Nat.le_of_ble_eq_true rfl)) dX12_prime_88 ⟨Nat.zero_le _, Nat.zero_le _⟩) hS (fun q _ h => h) (fun q h => h) (fun r u t H1 locs ht hvm hw hB hz1 hq1 hS => ?_)
      obtain ⟨rfl, rfl⟩ := hw
      have hP := hB.1
      rw [ht] at hP
      refine W.widen (k := 0) (n := 0) (Nat.le_refl _) (Nat.le_refl _) ?_
      refine lv_iload hx hb dX12_prime_91 (lv_at hl 5 rfl) ?_
      obtain ⟨hdq8, h⟩ := nif h
      refine lv_irem hx hb dX12_prime_93 hdq8 ?_
      refine lv_if_ne (tgt := 117) hx hb dX12_prime_94 (by decide) (fun hcq9 => ?_) (fun hcq9 => ?_)
      · have h := ifn hcq9 h
        exact J117 v5 _ _ _ _ h hP hS (lv_sub hl [0, 1, 2, 3, 4, 5] rfl)
      have h := ifp hcq9 h
      refine lv_iload hx hb dX12_prime_97 (lv_at hl 5 rfl) ?_
      obtain ⟨xq10, hfq11, h⟩ := obd h
      refine va_calli (va_runS (As := [.int v5]) (rest := []) ⟨hx, hb, hml, hown, hts⟩ (kX12_isPrime l v5 xq10 hfq11) (va_cwS 1 hts (lwW_gS mw_1107 mw_1108 mw_14 mw_1109) rfl rfl rfl (by decide +kernel) ⟨Nat.le_of_ble_eq_true rfl, Nat.le_of_ble_eq_true rfl⟩) ⟨fun a U g mk q => ⟨q.1, trivial⟩, fun U hU hW => ⟨rfl, trivial⟩⟩ rfl rfl hl.1 rfl (lv_room (Nat.le_of_ble_eq_true rfl)) dX12_prime_99 ⟨Nat.zero_le _, Nat.zero_le _⟩) hS (fun q _ h => h.elim) (fun q h => h.elim) (fun r u t H1 locs ht hvm hw hB hz1 hq1 hS => ?_)
      obtain rfl := hw.symm
      have hP := mP_kept hP hq1
      refine W.widen (k := 0) (n := 0) (Nat.le_refl _) (Nat.le_refl _) ?_
      refine lv_if_eq (tgt := 117) hx hb dX12_prime_102 (by decide) (fun hcq12 => ?_) (fun hcq12 => ?_)
      · have h := ifp hcq12 h
        exact J117 v5 _ _ _ _ h hP hS (lv_sub hl [0, 1, 2, 3, 4, 5] rfl)
      have h := ifn hcq12 h
      refine lv_aload_n hx hb dX12_prime_105 rfl (lv_at hl 0 rfl) ?_
      refine lv_iload hx hb dX12_prime_106 (lv_at hl 5 rfl) ?_
      refine lv_iload_n hx hb dX12_prime_108 rfl (lv_at hl 2 rfl) ?_
      refine lv_iconst (v := 1) hx hb dX12_prime_109 (by decide) ?_
      refine lv_iconst (v := 1) hx hb dX12_prime_110 (by decide) ?_
      refine lv_sipush (v := 600) hx hb dX12_prime_111 (by decide) ?_
      obtain ⟨xq13, hfq14, h⟩ := obd h
      refine va_callv (va_runV (As := [.int v5, .int p2, .int 1, .int 1, .int 600]) (rest := []) ⟨hx, hb, hml, hown, hts⟩ (kX12_gathers l D G _ v5 p2 1 1 600 xq13 hfq14) (cwV 5 hts (lwW_gV mw_917 mw_919 ms_25 mw_14 mw_920) rfl rfl rfl (by decide +kernel) ⟨Nat.le_of_ble_eq_true rfl, Nat.le_of_ble_eq_true rfl⟩) ⟨fun a U g mk q => ⟨q.1, mPre_call q.2⟩, va_recv hK hP rfl (mg_2 rfl), fun U hU hW => ⟨rfl, mPre_at h0 hS hP hU hW⟩⟩ rfl rfl hl.1 rfl (lv_room (Nat.le_of_ble_eq_true rfl)) dX12_prime_114 ⟨Nat.zero_le _, Nat.zero_le _⟩) hS (fun q _ h => h) (fun q h => h) (fun u t H1 locs ht hvm hw hB hz1 hq1 hS => ?_)
      obtain rfl := hw.symm
      have hP := hB.1
      rw [ht] at hP
      refine W.widen (k := 0) (n := 0) (Nat.le_refl _) (Nat.le_refl _) ?_
      exact J117 v5 _ _ _ _ h hP hS (lv_sub hl [0, 1, 2, 3, 4, 5] rfl)
  have J41 : ∀ (τ : QMem) (H : Heap) (locs : List Loc) (ls : Array Slot), fX12_prime_J41 p1 p2 p3 p4 τ = some res → va_P D vwCl (mW G τ) H → va_S (mA G) s.heap H locs → lv_has ls 6 [(0, .ref (G.1 28)), (1, .int p1), (2, .int p2), (3, .int p3), (4, .int p4)] → W p l e (headSpec (.code yX12_prime cX12_prime 6 (some .int) :: lwW) (rmD 6)).room s m ([.ref (G.1 28), .int p1, .int p2, .int p3, .int p4] : List Value).toArray below meth c H locs 0 0 (MQ below (mQi D G res) ([.ref (G.1 28), .int p1, .int p2, .int p3, .int p4] : List Value).toArray s 0 0 (mA G)) (F0 m 41 ls []) := by
    intro τ H locs ls h hP hS hl
    unfold fX12_prime_J41 at h
    refine lv_aload_n hx hb dX12_prime_41 rfl (lv_at hl 0 rfl) ?_
    refine lv_iload_n hx hb dX12_prime_42 rfl (lv_at hl 1 rfl) ?_
    obtain ⟨xq20, hfq21, h⟩ := obd h
    refine va_calli (va_runV (As := [.int p1]) (rest := []) ⟨hx, hb, hml, hown, hts⟩ (kX12_isEmpty l D G _ p1 xq20 hfq21) (cwV 1 hts (lwW_gV mw_1076 mw_1078 ms_30 mw_14 mw_1079) rfl rfl rfl (by decide +kernel) ⟨Nat.le_of_ble_eq_true rfl, Nat.le_of_ble_eq_true rfl⟩) ⟨fun a U g mk q => ⟨q.1, mPre_call q.2⟩, va_recv hK hP rfl (mg_2 rfl), fun U hU hW => ⟨rfl, mPre_at h0 hS hP hU hW⟩⟩ rfl rfl hl.1 rfl (lv_room (Nat.le_of_ble_eq_true rfl)) dX12_prime_43 ⟨Nat.zero_le _, Nat.zero_le _⟩) hS (fun q _ h => h) (fun q h => h) (fun r u t H1 locs ht hvm hw hB hz1 hq1 hS => ?_)
    obtain ⟨rfl, rfl⟩ := hw
    have hP := hB.1
    rw [ht] at hP
    refine W.widen (k := 0) (n := 0) (Nat.le_refl _) (Nat.le_refl _) ?_
    refine lv_if_eq (tgt := 53) hx hb dX12_prime_46 (by decide) (fun hcq22 => ?_) (fun hcq22 => ?_)
    · have h := ifp hcq22 h
      refine lv_aload_n hx hb dX12_prime_53 rfl (lv_at hl 0 rfl) ?_
      refine va_get (D := D) (ci := 12) (v := .ref (G.1 13)) (C := RX12) (T := TX12) (N := 34) hx hb hts iwX12 hown hK hP 28 (mg_2 rfl) rfl 14 (by decide) (hts _ mw_972) (fun _ h9 => h9) rfl dX12_prime_54 ?_
      refine lv_iconst (v := 4) hx hb dX12_prime_57 (by decide) ?_
      refine lv_iload_n hx hb dX12_prime_58 rfl (lv_at hl 1 rfl) ?_
      refine lv_imul hx hb dX12_prime_59 ?_
      refine lv_aload_n hx hb dX12_prime_60 rfl (lv_at hl 0 rfl) ?_
      refine va_get (D := D) (ci := 12) (v := .ref (G.1 7)) (C := RX12) (T := TX12) (N := 34) hx hb hts iwX12 hown hK hP 28 (mg_2 rfl) rfl 8 (by decide) (hts _ mw_966) (fun _ h9 => h9) rfl dX12_prime_61 ?_
      refine lv_iconst (v := 0) hx hb dX12_prime_64 (by decide) ?_
      obtain ⟨xq23, hfq24, h⟩ := obd h
      refine va_callv (va_runS (As := [.ref (G.1 13), .int (4 * p1), .ref (G.1 7), .int 0]) (rest := []) ⟨hx, hb, hml, hown, hts⟩ (kX12_copies l D G _ 13 rfl (4 * p1) 7 rfl 0 xq23 hfq24) (va_cwS 4 hts (lwW_gS mw_955 mw_956 mw_14 mw_957) rfl rfl rfl (by decide +kernel) ⟨Nat.le_of_ble_eq_true rfl, Nat.le_of_ble_eq_true rfl⟩) ⟨fun a U g mk q => ⟨q.1, mPre_call q.2⟩, fun U hU hW => ⟨rfl, mPre_at h0 hS hP hU hW⟩⟩ rfl rfl hl.1 rfl (lv_room (Nat.le_of_ble_eq_true rfl)) dX12_prime_65 ⟨Nat.zero_le _, Nat.zero_le _⟩) hS (fun q _ h => h) (fun q h => h) (fun u t H1 locs ht hvm hw hB hz1 hq1 hS => ?_)
      obtain rfl := hw.symm
      have hP := hB.1
      rw [ht] at hP
      refine W.widen (k := 0) (n := 0) (Nat.le_refl _) (Nat.le_refl _) ?_
      refine lv_aload_n hx hb dX12_prime_68 rfl (lv_at hl 0 rfl) ?_
      refine lv_iconst (v := 0) hx hb dX12_prime_69 (by decide) ?_
      refine va_put (D := D) (ci := 12) (v := .int 0) (ty := .int) (C := RX12) (T := TX12) (N := 34) hx hb hts iwX12 tyX12 tyX12_ok nmX12 hown hK hP (mD hi) hS 28 (mg_2 rfl) rfl 6 (by decide) (hts _ mw_964) (fun _ h9 => h9) rfl (by decide +kernel) rfl rfl (Nat.le_of_ble_eq_true rfl) dX12_prime_70 (fun H locs hP hD hS => ?_)
      have hP : va_P D vwCl (mW G (ms xq23 28 6 0)) H := by rw [← ms_2_6 rfl]; exact hP
      refine lv_iconst (v := 2) hx hb dX12_prime_73 (by decide) ?_
      refine lv_istore (lv' := [(5, .int 2), (0, .ref (G.1 28)), (1, .int p1), (2, .int p2), (3, .int p3), (4, .int p4)]) hx hb dX12_prime_74 hl (by decide) rfl (fun ls hl => ?_)
      exact L76 FU 2 _ _ _ _ h hP hS (lv_sub hl [1, 2, 3, 4, 5, 0] rfl)
    have h := ifn hcq22 h
    refine lv_sipush (v := (-1003)) hx hb dX12_prime_49 (by decide) ?_
    obtain rfl := Option.some.inj h
    exact W.iret (v := (-1003)) hx hb hr (fun t ht hW => ⟨⟨_, _, rfl, ⟨rfl, rfl⟩, mPre_at h0 hS hP ht hW⟩, hS.F ht⟩) hS.2.2 dX12_prime_52
  refine lv_iload_n hx hb dX12_prime_0 rfl (lv_at hl 1 rfl) ?_
  obtain ⟨xq25, hfq26, h⟩ := obd h
  refine va_calli (va_runS (As := [.int p1]) (rest := []) ⟨hx, hb, hml, hown, hts⟩ (kX12_isSlot l p1 xq25 hfq26) (va_cwS 1 hts (lwW_gS mw_1066 mw_1067 mw_14 mw_1068) rfl rfl rfl (by decide +kernel) ⟨Nat.le_of_ble_eq_true rfl, Nat.le_of_ble_eq_true rfl⟩) ⟨fun a U g mk q => ⟨q.1, trivial⟩, fun U hU hW => ⟨rfl, trivial⟩⟩ rfl rfl hl.1 rfl (lv_room (Nat.le_of_ble_eq_true rfl)) dX12_prime_1 ⟨Nat.zero_le _, Nat.zero_le _⟩) hS (fun q _ h => h.elim) (fun q h => h.elim) (fun r u t H1 locs ht hvm hw hB hz1 hq1 hS => ?_)
  obtain rfl := hw.symm
  have hP := mP_kept hP hq1
  refine W.widen (k := 0) (n := 0) (Nat.le_refl _) (Nat.le_refl _) ?_
  refine lv_if_ne (tgt := 11) hx hb dX12_prime_4 (by decide) (fun hcq27 => ?_) (fun hcq27 => ?_)
  · have h := ifn hcq27 h
    refine lv_iload_n hx hb dX12_prime_11 rfl (lv_at hl 2 rfl) ?_
    obtain ⟨xq28, hfq29, h⟩ := obd h
    refine va_calli (va_runS (As := [.int p2]) (rest := []) ⟨hx, hb, hml, hown, hts⟩ (kX12_isSide l p2 xq28 hfq29) (va_cwS 1 hts (lwW_gS mw_1137 mw_1138 mw_14 mw_1139) rfl rfl rfl (by decide +kernel) ⟨Nat.le_of_ble_eq_true rfl, Nat.le_of_ble_eq_true rfl⟩) ⟨fun a U g mk q => ⟨q.1, trivial⟩, fun U hU hW => ⟨rfl, trivial⟩⟩ rfl rfl hl.1 rfl (lv_room (Nat.le_of_ble_eq_true rfl)) dX12_prime_12 ⟨Nat.zero_le _, Nat.zero_le _⟩) hS (fun q _ h => h.elim) (fun q h => h.elim) (fun r u t H1 locs ht hvm hw hB hz1 hq1 hS => ?_)
    obtain rfl := hw.symm
    have hP := mP_kept hP hq1
    refine W.widen (k := 0) (n := 0) (Nat.le_refl _) (Nat.le_refl _) ?_
    refine lv_if_eq (tgt := 37) hx hb dX12_prime_15 (by decide) (fun hcq30 => ?_) (fun hcq30 => ?_)
    · have h := ifp hcq30 h
      refine lv_sipush (v := (-1002)) hx hb dX12_prime_37 (by decide) ?_
      obtain rfl := Option.some.inj h
      exact W.iret (v := (-1002)) hx hb hr (fun t ht hW => ⟨⟨_, _, rfl, ⟨rfl, rfl⟩, mPre_at h0 hS hP ht hW⟩, hS.F ht⟩) hS.2.2 dX12_prime_40
    have h := ifn hcq30 h
    refine lv_iload_n hx hb dX12_prime_18 rfl (lv_at hl 3 rfl) ?_
    refine lv_iconst (v := (-1)) hx hb dX12_prime_19 (by decide) ?_
    refine lv_icmp_lt (tgt := 37) hx hb dX12_prime_20 (by decide) (fun hcq31 => ?_) (fun hcq31 => ?_)
    · have h := ifp hcq31 h
      refine lv_sipush (v := (-1002)) hx hb dX12_prime_37 (by decide) ?_
      obtain rfl := Option.some.inj h
      exact W.iret (v := (-1002)) hx hb hr (fun t ht hW => ⟨⟨_, _, rfl, ⟨rfl, rfl⟩, mPre_at h0 hS hP ht hW⟩, hS.F ht⟩) hS.2.2 dX12_prime_40
    have h := ifn hcq31 h
    refine lv_iload_n hx hb dX12_prime_23 rfl (lv_at hl 3 rfl) ?_
    refine lv_if_lt (tgt := 41) hx hb dX12_prime_24 (by decide) (fun hcq32 => ?_) (fun hcq32 => ?_)
    · have h := ifp hcq32 h
      exact J41 _ _ _ _ h hP hS (lv_sub hl [0, 1, 2, 3, 4] rfl)
    have h := ifn hcq32 h
    refine lv_iload hx hb dX12_prime_27 (lv_at hl 4 rfl) ?_
    refine lv_iconst (v := 0) hx hb dX12_prime_29 (by decide) ?_
    refine lv_iconst (v := 3) hx hb dX12_prime_30 (by decide) ?_
    obtain ⟨xq33, hfq34, h⟩ := obd h
    refine va_calli (va_runS (As := [.int p4, .int 0, .int 3]) (rest := []) ⟨hx, hb, hml, hown, hts⟩ (kX12_in l p4 0 3 xq33 hfq34) (va_cwS 3 hts (lwW_gS mw_1069 mw_1070 mw_14 mw_1071) rfl rfl rfl (by decide +kernel) ⟨Nat.le_of_ble_eq_true rfl, Nat.le_of_ble_eq_true rfl⟩) ⟨fun a U g mk q => ⟨q.1, trivial⟩, fun U hU hW => ⟨rfl, trivial⟩⟩ rfl rfl hl.1 rfl (lv_room (Nat.le_of_ble_eq_true rfl)) dX12_prime_31 ⟨Nat.zero_le _, Nat.zero_le _⟩) hS (fun q _ h => h.elim) (fun q h => h.elim) (fun r u t H1 locs ht hvm hw hB hz1 hq1 hS => ?_)
    obtain rfl := hw.symm
    have hP := mP_kept hP hq1
    refine W.widen (k := 0) (n := 0) (Nat.le_refl _) (Nat.le_refl _) ?_
    refine lv_if_ne (tgt := 41) hx hb dX12_prime_34 (by decide) (fun hcq35 => ?_) (fun hcq35 => ?_)
    · have h := ifn hcq35 h
      exact J41 _ _ _ _ h hP hS (lv_sub hl [0, 1, 2, 3, 4] rfl)
    have h := ifp hcq35 h
    refine lv_sipush (v := (-1002)) hx hb dX12_prime_37 (by decide) ?_
    obtain rfl := Option.some.inj h
    exact W.iret (v := (-1002)) hx hb hr (fun t ht hW => ⟨⟨_, _, rfl, ⟨rfl, rfl⟩, mPre_at h0 hS hP ht hW⟩, hS.F ht⟩) hS.2.2 dX12_prime_40
  have h := ifp hcq27 h
  refine lv_sipush (v := (-1001)) hx hb dX12_prime_7 (by decide) ?_
  obtain rfl := Option.some.inj h
  exact W.iret (v := (-1001)) hx hb hr (fun t ht hW => ⟨⟨_, _, rfl, ⟨rfl, rfl⟩, mPre_at h0 hS hP ht hW⟩, hS.F ht⟩) hS.2.2 dX12_prime_10
def fX12_list_J41 (p1 : Int32) (p2 : Int32) (p3 : Int32) (p4 : Int32)  (τ : QMem) : Option (Int32 × QMem) :=
  (fX12_gathers p1 p2 1 0 600 (ms τ 28 6 0)).bind fun xq1 => ((fX12_tells p3 p4 xq1).bind fun xq3 => (some (xq3.1, xq3.2)))
def fX12_list (p1 : Int32) (p2 : Int32) (p3 : Int32) (p4 : Int32) (σ : QMem) : Option (Int32 × QMem) :=
  (fX12_in p1 1 150).bind fun xq9 => (if xq9 = 0 then (some ((-1002), σ)) else ((fX12_isSide p2).bind fun xq12 => (if xq12 = 0 then (some ((-1002), σ)) else (if p3 < (-1) then (some ((-1002), σ)) else (if p3 < 0 then (fX12_list_J41 p1 p2 p3 p4 σ) else ((fX12_in p4 0 3).bind fun xq17 => (if xq17 = 0 then (some ((-1002), σ)) else (fX12_list_J41 p1 p2 p3 p4 σ))))))))
set_option maxHeartbeats 4000000 in
set_option maxRecDepth 100000 in
theorem kX12_list (l : Launch) (D : va_G) (G : xG) (σ : QMem) (p1 : Int32) (p2 : Int32) (p3 : Int32) (p4 : Int32) (res : Int32 × QMem) (h : fX12_list p1 p2 p3 p4 σ = some res) : Met l yX12_list (.code yX12_list cX12_list 5 (some .int) :: lwW) (rmD 6) (mPc D G σ [.ref (G.1 28), .int p1, .int p2, .int p3, .int p4]) (mQi D G res) 0 0 (mA G) := by
  refine Met.ofW (cc := cX12_list) (maxL := 5) (ret := (some .int)) (by decide) rfl ?_
  intro p e s m args below meth c s₁ B hml hv
  obtain ⟨rfl, h0⟩ := hv
  have hx := B.exec
  have hb := B.bytes
  have hr := B.returns
  have hts := fun (w : Cond) (hw : w ∈ lwW) => atoms_spec (ws := (.code yX12_list cX12_list 5 (some .int) :: lwW)) B.pre w (List.mem_cons_of_mem _ hw)
  have hown : s.vm.findClass RX12 = some m.cls := findClass_of_methodNamed B.named
  have hlocks := B.notSynchronized
  have hP := h0.1
  have hK := h0.2.1
  have hi := h0.2.2
  have hS : va_S (mA G) s.heap s.heap [] := va_S.rf
  have hl := lv_entry ([.ref (G.1 28), .int p1, .int p2, .int p3, .int p4]) (n := 5) (Nat.le_of_ble_eq_true rfl)
  rw [lg_entry_eq]
  generalize (lg_sl ([.ref (G.1 28), .int p1, .int p2, .int p3, .int p4]) ++ List.replicate (5 - (lg_sl ([.ref (G.1 28), .int p1, .int p2, .int p3, .int p4])).length) Slot.unset).toArray = ls at hl ⊢
  have hl : lv_has ls 5 [(0, .ref (G.1 28)), (1, .int p1), (2, .int p2), (3, .int p3), (4, .int p4)] := hl
  unfold fX12_list at h
  have J41 : ∀ (τ : QMem) (H : Heap) (locs : List Loc) (ls : Array Slot), fX12_list_J41 p1 p2 p3 p4 τ = some res → va_P D vwCl (mW G τ) H → va_S (mA G) s.heap H locs → lv_has ls 5 [(0, .ref (G.1 28)), (1, .int p1), (2, .int p2), (3, .int p3), (4, .int p4)] → W p l e (headSpec (.code yX12_list cX12_list 5 (some .int) :: lwW) (rmD 6)).room s m ([.ref (G.1 28), .int p1, .int p2, .int p3, .int p4] : List Value).toArray below meth c H locs 0 0 (MQ below (mQi D G res) ([.ref (G.1 28), .int p1, .int p2, .int p3, .int p4] : List Value).toArray s 0 0 (mA G)) (F0 m 41 ls []) := by
    intro τ H locs ls h hP hS hl
    unfold fX12_list_J41 at h
    refine lv_aload_n hx hb dX12_list_41 rfl (lv_at hl 0 rfl) ?_
    refine lv_iconst (v := 0) hx hb dX12_list_42 (by decide) ?_
    refine va_put (D := D) (ci := 12) (v := .int 0) (ty := .int) (C := RX12) (T := TX12) (N := 34) hx hb hts iwX12 tyX12 tyX12_ok nmX12 hown hK hP (mD hi) hS 28 (mg_2 rfl) rfl 6 (by decide) (hts _ mw_964) (fun _ h9 => h9) rfl (by decide +kernel) rfl rfl (Nat.le_of_ble_eq_true rfl) dX12_list_43 (fun H locs hP hD hS => ?_)
    have hP : va_P D vwCl (mW G (ms τ 28 6 0)) H := by rw [← ms_2_6 rfl]; exact hP
    refine lv_aload_n hx hb dX12_list_46 rfl (lv_at hl 0 rfl) ?_
    refine lv_iload_n hx hb dX12_list_47 rfl (lv_at hl 1 rfl) ?_
    refine lv_iload_n hx hb dX12_list_48 rfl (lv_at hl 2 rfl) ?_
    refine lv_iconst (v := 1) hx hb dX12_list_49 (by decide) ?_
    refine lv_iconst (v := 0) hx hb dX12_list_50 (by decide) ?_
    refine lv_sipush (v := 600) hx hb dX12_list_51 (by decide) ?_
    obtain ⟨xq5, hfq6, h⟩ := obd h
    refine va_callv (va_runV (As := [.int p1, .int p2, .int 1, .int 0, .int 600]) (rest := []) ⟨hx, hb, hml, hown, hts⟩ (kX12_gathers l D G _ p1 p2 1 0 600 xq5 hfq6) (cwV 5 hts (lwW_gV mw_917 mw_919 ms_25 mw_14 mw_920) rfl rfl rfl (by decide +kernel) ⟨Nat.le_of_ble_eq_true rfl, Nat.le_of_ble_eq_true rfl⟩) ⟨fun a U g mk q => ⟨q.1, mPre_call q.2⟩, va_recv hK hP rfl (mg_2 rfl), fun U hU hW => ⟨rfl, mPre_at h0 hS hP hU hW⟩⟩ rfl rfl hl.1 rfl (lv_room (Nat.le_of_ble_eq_true rfl)) dX12_list_54 ⟨Nat.zero_le _, Nat.zero_le _⟩) hS (fun q _ h => h) (fun q h => h) (fun u t H1 locs ht hvm hw hB hz1 hq1 hS => ?_)
    obtain rfl := hw.symm
    have hP := hB.1
    rw [ht] at hP
    refine W.widen (k := 0) (n := 0) (Nat.le_refl _) (Nat.le_refl _) ?_
    refine lv_aload_n hx hb dX12_list_57 rfl (lv_at hl 0 rfl) ?_
    refine lv_iload_n hx hb dX12_list_58 rfl (lv_at hl 3 rfl) ?_
    refine lv_iload hx hb dX12_list_59 (lv_at hl 4 rfl) ?_
    obtain ⟨xq7, hfq8, h⟩ := obd h
    refine va_calli (va_runV (As := [.int p3, .int p4]) (rest := []) ⟨hx, hb, hml, hown, hts⟩ (kX12_tells l D G _ p3 p4 xq7 hfq8) (cwV 2 hts (lwW_gV mw_1210 mw_1212 ms_43 mw_14 mw_1213) rfl rfl rfl (by decide +kernel) ⟨Nat.le_of_ble_eq_true rfl, Nat.le_of_ble_eq_true rfl⟩) ⟨fun a U g mk q => ⟨q.1, mPre_call q.2⟩, va_recv hK hP rfl (mg_2 rfl), fun U hU hW => ⟨rfl, mPre_at h0 hS hP hU hW⟩⟩ rfl rfl hl.1 rfl (lv_room (Nat.le_of_ble_eq_true rfl)) dX12_list_61 ⟨Nat.zero_le _, Nat.zero_le _⟩) hS (fun q _ h => h) (fun q h => h) (fun r u t H1 locs ht hvm hw hB hz1 hq1 hS => ?_)
    obtain ⟨rfl, rfl⟩ := hw
    have hP := hB.1
    rw [ht] at hP
    refine W.widen (k := 0) (n := 0) (Nat.le_refl _) (Nat.le_refl _) ?_
    obtain rfl := Option.some.inj h
    exact W.iret (v := xq7.1) hx hb hr (fun t ht hW => ⟨⟨_, _, rfl, ⟨rfl, rfl⟩, mPre_at h0 hS hP ht hW⟩, hS.F ht⟩) hS.2.2 dX12_list_64
  refine lv_iload_n hx hb dX12_list_0 rfl (lv_at hl 1 rfl) ?_
  refine lv_iconst (v := 1) hx hb dX12_list_1 (by decide) ?_
  refine lv_sipush (v := 150) hx hb dX12_list_2 (by decide) ?_
  obtain ⟨xq9, hfq10, h⟩ := obd h
  refine va_calli (va_runS (As := [.int p1, .int 1, .int 150]) (rest := []) ⟨hx, hb, hml, hown, hts⟩ (kX12_in l p1 1 150 xq9 hfq10) (va_cwS 3 hts (lwW_gS mw_1069 mw_1070 mw_14 mw_1071) rfl rfl rfl (by decide +kernel) ⟨Nat.le_of_ble_eq_true rfl, Nat.le_of_ble_eq_true rfl⟩) ⟨fun a U g mk q => ⟨q.1, trivial⟩, fun U hU hW => ⟨rfl, trivial⟩⟩ rfl rfl hl.1 rfl (lv_room (Nat.le_of_ble_eq_true rfl)) dX12_list_5 ⟨Nat.zero_le _, Nat.zero_le _⟩) hS (fun q _ h => h.elim) (fun q h => h.elim) (fun r u t H1 locs ht hvm hw hB hz1 hq1 hS => ?_)
  obtain rfl := hw.symm
  have hP := mP_kept hP hq1
  refine W.widen (k := 0) (n := 0) (Nat.le_refl _) (Nat.le_refl _) ?_
  refine lv_if_eq (tgt := 37) hx hb dX12_list_8 (by decide) (fun hcq11 => ?_) (fun hcq11 => ?_)
  · have h := ifp hcq11 h
    refine lv_sipush (v := (-1002)) hx hb dX12_list_37 (by decide) ?_
    obtain rfl := Option.some.inj h
    exact W.iret (v := (-1002)) hx hb hr (fun t ht hW => ⟨⟨_, _, rfl, ⟨rfl, rfl⟩, mPre_at h0 hS hP ht hW⟩, hS.F ht⟩) hS.2.2 dX12_list_40
  have h := ifn hcq11 h
  refine lv_iload_n hx hb dX12_list_11 rfl (lv_at hl 2 rfl) ?_
  obtain ⟨xq12, hfq13, h⟩ := obd h
  refine va_calli (va_runS (As := [.int p2]) (rest := []) ⟨hx, hb, hml, hown, hts⟩ (kX12_isSide l p2 xq12 hfq13) (va_cwS 1 hts (lwW_gS mw_1137 mw_1138 mw_14 mw_1139) rfl rfl rfl (by decide +kernel) ⟨Nat.le_of_ble_eq_true rfl, Nat.le_of_ble_eq_true rfl⟩) ⟨fun a U g mk q => ⟨q.1, trivial⟩, fun U hU hW => ⟨rfl, trivial⟩⟩ rfl rfl hl.1 rfl (lv_room (Nat.le_of_ble_eq_true rfl)) dX12_list_12 ⟨Nat.zero_le _, Nat.zero_le _⟩) hS (fun q _ h => h.elim) (fun q h => h.elim) (fun r u t H1 locs ht hvm hw hB hz1 hq1 hS => ?_)
  obtain rfl := hw.symm
  have hP := mP_kept hP hq1
  refine W.widen (k := 0) (n := 0) (Nat.le_refl _) (Nat.le_refl _) ?_
  refine lv_if_eq (tgt := 37) hx hb dX12_list_15 (by decide) (fun hcq14 => ?_) (fun hcq14 => ?_)
  · have h := ifp hcq14 h
    refine lv_sipush (v := (-1002)) hx hb dX12_list_37 (by decide) ?_
    obtain rfl := Option.some.inj h
    exact W.iret (v := (-1002)) hx hb hr (fun t ht hW => ⟨⟨_, _, rfl, ⟨rfl, rfl⟩, mPre_at h0 hS hP ht hW⟩, hS.F ht⟩) hS.2.2 dX12_list_40
  have h := ifn hcq14 h
  refine lv_iload_n hx hb dX12_list_18 rfl (lv_at hl 3 rfl) ?_
  refine lv_iconst (v := (-1)) hx hb dX12_list_19 (by decide) ?_
  refine lv_icmp_lt (tgt := 37) hx hb dX12_list_20 (by decide) (fun hcq15 => ?_) (fun hcq15 => ?_)
  · have h := ifp hcq15 h
    refine lv_sipush (v := (-1002)) hx hb dX12_list_37 (by decide) ?_
    obtain rfl := Option.some.inj h
    exact W.iret (v := (-1002)) hx hb hr (fun t ht hW => ⟨⟨_, _, rfl, ⟨rfl, rfl⟩, mPre_at h0 hS hP ht hW⟩, hS.F ht⟩) hS.2.2 dX12_list_40
  have h := ifn hcq15 h
  refine lv_iload_n hx hb dX12_list_23 rfl (lv_at hl 3 rfl) ?_
  refine lv_if_lt (tgt := 41) hx hb dX12_list_24 (by decide) (fun hcq16 => ?_) (fun hcq16 => ?_)
  · have h := ifp hcq16 h
    exact J41 _ _ _ _ h hP hS (lv_sub hl [0, 1, 2, 3, 4] rfl)
  have h := ifn hcq16 h
  refine lv_iload hx hb dX12_list_27 (lv_at hl 4 rfl) ?_
  refine lv_iconst (v := 0) hx hb dX12_list_29 (by decide) ?_
  refine lv_iconst (v := 3) hx hb dX12_list_30 (by decide) ?_
  obtain ⟨xq17, hfq18, h⟩ := obd h
  refine va_calli (va_runS (As := [.int p4, .int 0, .int 3]) (rest := []) ⟨hx, hb, hml, hown, hts⟩ (kX12_in l p4 0 3 xq17 hfq18) (va_cwS 3 hts (lwW_gS mw_1069 mw_1070 mw_14 mw_1071) rfl rfl rfl (by decide +kernel) ⟨Nat.le_of_ble_eq_true rfl, Nat.le_of_ble_eq_true rfl⟩) ⟨fun a U g mk q => ⟨q.1, trivial⟩, fun U hU hW => ⟨rfl, trivial⟩⟩ rfl rfl hl.1 rfl (lv_room (Nat.le_of_ble_eq_true rfl)) dX12_list_31 ⟨Nat.zero_le _, Nat.zero_le _⟩) hS (fun q _ h => h.elim) (fun q h => h.elim) (fun r u t H1 locs ht hvm hw hB hz1 hq1 hS => ?_)
  obtain rfl := hw.symm
  have hP := mP_kept hP hq1
  refine W.widen (k := 0) (n := 0) (Nat.le_refl _) (Nat.le_refl _) ?_
  refine lv_if_ne (tgt := 41) hx hb dX12_list_34 (by decide) (fun hcq19 => ?_) (fun hcq19 => ?_)
  · have h := ifn hcq19 h
    exact J41 _ _ _ _ h hP hS (lv_sub hl [0, 1, 2, 3, 4] rfl)
  have h := ifp hcq19 h
  refine lv_sipush (v := (-1002)) hx hb dX12_list_37 (by decide) ?_
  obtain rfl := Option.some.inj h
  exact W.iret (v := (-1002)) hx hb hr (fun t ht hW => ⟨⟨_, _, rfl, ⟨rfl, rfl⟩, mPre_at h0 hS hP ht hW⟩, hS.F ht⟩) hS.2.2 dX12_list_40
def fX12_isBase (p0 : Int32) (p1 : Int32) (p2 : Int32) (p3 : Int32) : Option (Int32) :=
  if p0 < p1 then (some 0) else (if p1 < p2 then (some 0) else (if p2 < p3 then (some 0) else (if p3 < 0 then (some 0) else (some 1))))
set_option maxHeartbeats 4000000 in
set_option maxRecDepth 100000 in
theorem kX12_isBase (l : Launch) (p0 : Int32) (p1 : Int32) (p2 : Int32) (p3 : Int32) (res : Int32) (h : fX12_isBase p0 p1 p2 p3 = some res) : Met l yX12_isBase (.code yX12_isBase cX12_isBase 4 (some .boolean) :: lwW) (rmD 0) (nPc [.int p0, .int p1, .int p2, .int p3]) (nQi res) 0 0 (fun _ => False) := by
  refine Met.ofW (cc := cX12_isBase) (maxL := 4) (ret := (some .boolean)) (by decide) rfl ?_
  intro p e s m args below meth c s₁ B hml hv
  obtain ⟨rfl, h0⟩ := hv
  have hx := B.exec
  have hb := B.bytes
  have hr := B.returns
  have hts := fun (w : Cond) (hw : w ∈ lwW) => atoms_spec (ws := (.code yX12_isBase cX12_isBase 4 (some .boolean) :: lwW)) B.pre w (List.mem_cons_of_mem _ hw)
  have hown : s.vm.findClass RX12 = some m.cls := findClass_of_methodNamed B.named
  have hlocks := B.notSynchronized
  have hS : va_S (fun _ => False) s.heap s.heap [] := va_S.rf
  have hl := lv_entry ([.int p0, .int p1, .int p2, .int p3]) (n := 4) (Nat.le_of_ble_eq_true rfl)
  rw [lg_entry_eq]
  generalize (lg_sl ([.int p0, .int p1, .int p2, .int p3]) ++ List.replicate (4 - (lg_sl ([.int p0, .int p1, .int p2, .int p3])).length) Slot.unset).toArray = ls at hl ⊢
  have hl : lv_has ls 4 [(0, .int p0), (1, .int p1), (2, .int p2), (3, .int p3)] := hl
  unfold fX12_isBase at h
  refine lv_iload_n hx hb dX12_isBase_0 rfl (lv_at hl 0 rfl) ?_
  refine lv_iload_n hx hb dX12_isBase_1 rfl (lv_at hl 1 rfl) ?_
  refine lv_icmp_lt (tgt := 23) hx hb dX12_isBase_2 (by decide) (fun hcq1 => ?_) (fun hcq1 => ?_)
  · have h := ifp hcq1 h
    refine lv_iconst (v := 0) hx hb dX12_isBase_23 (by decide) ?_
    obtain rfl := Option.some.inj h
    exact W.zret hx hb hr rfl (fun t ht hW => ⟨⟨_, (), rfl, rfl, trivial⟩, hS.F ht⟩) hS.2.2 dX12_isBase_24
  have h := ifn hcq1 h
  refine lv_iload_n hx hb dX12_isBase_5 rfl (lv_at hl 1 rfl) ?_
  refine lv_iload_n hx hb dX12_isBase_6 rfl (lv_at hl 2 rfl) ?_
  refine lv_icmp_lt (tgt := 23) hx hb dX12_isBase_7 (by decide) (fun hcq2 => ?_) (fun hcq2 => ?_)
  · have h := ifp hcq2 h
    refine lv_iconst (v := 0) hx hb dX12_isBase_23 (by decide) ?_
    obtain rfl := Option.some.inj h
    exact W.zret hx hb hr rfl (fun t ht hW => ⟨⟨_, (), rfl, rfl, trivial⟩, hS.F ht⟩) hS.2.2 dX12_isBase_24
  have h := ifn hcq2 h
  refine lv_iload_n hx hb dX12_isBase_10 rfl (lv_at hl 2 rfl) ?_
  refine lv_iload_n hx hb dX12_isBase_11 rfl (lv_at hl 3 rfl) ?_
  refine lv_icmp_lt (tgt := 23) hx hb dX12_isBase_12 (by decide) (fun hcq3 => ?_) (fun hcq3 => ?_)
  · have h := ifp hcq3 h
    refine lv_iconst (v := 0) hx hb dX12_isBase_23 (by decide) ?_
    obtain rfl := Option.some.inj h
    exact W.zret hx hb hr rfl (fun t ht hW => ⟨⟨_, (), rfl, rfl, trivial⟩, hS.F ht⟩) hS.2.2 dX12_isBase_24
  have h := ifn hcq3 h
  refine lv_iload_n hx hb dX12_isBase_15 rfl (lv_at hl 3 rfl) ?_
  refine lv_if_lt (tgt := 23) hx hb dX12_isBase_16 (by decide) (fun hcq4 => ?_) (fun hcq4 => ?_)
  · have h := ifp hcq4 h
    refine lv_iconst (v := 0) hx hb dX12_isBase_23 (by decide) ?_
    obtain rfl := Option.some.inj h
    exact W.zret hx hb hr rfl (fun t ht hW => ⟨⟨_, (), rfl, rfl, trivial⟩, hS.F ht⟩) hS.2.2 dX12_isBase_24
  have h := ifn hcq4 h
  refine lv_iconst (v := 1) hx hb dX12_isBase_19 (by decide) ?_
  refine lv_goto (tgt := 24) hx hb dX12_isBase_20 (by decide) ?_
  obtain rfl := Option.some.inj h
  exact W.zret hx hb hr rfl (fun t ht hW => ⟨⟨_, (), rfl, rfl, trivial⟩, hS.F ht⟩) hS.2.2 dX12_isBase_24
def fX12_rowsOf_J162 (p1 : Int32) (p2 : Int32) (p3 : Int32) (K10 : Int32 → Int32 → Int32 → QMem → Option (Int32 × QMem)) (K21 : Int32 → Int32 → Int32 → Int32 → QMem → Option (Int32 × QMem)) (K32 : Int32 → Int32 → Int32 → Int32 → Int32 → QMem → Option (Int32 × QMem)) (v4 : Int32) (v5 : Int32) (v6 : Int32) (v7 : Int32) (v8 : Int32) (τ : QMem) : Option (Int32 × QMem) :=
  K32 v4 v5 v6 v7 (v8 + (-1)) τ
def fX12_rowsOf_J99 (p1 : Int32) (p2 : Int32) (p3 : Int32) (K10 : Int32 → Int32 → Int32 → QMem → Option (Int32 × QMem)) (K21 : Int32 → Int32 → Int32 → Int32 → QMem → Option (Int32 × QMem)) (K32 : Int32 → Int32 → Int32 → Int32 → Int32 → QMem → Option (Int32 × QMem)) (v5 : Int32) (v6 : Int32) (v7 : Int32) (v8 : Int32) (v10 : Int32) (s0 : Int32) (s1 : Int32) (τ : QMem) : Option (Int32 × QMem) :=
  if v10 < 0 then (fX12_rowsOf_J162 p1 p2 p3 K10 K21 K32 (s0 + s1) v5 v6 v7 v8 τ) else ((fX12_isBase v6 v7 v8 v10).bind fun xq2 => (if xq2 = 0 then (fX12_rowsOf_J162 p1 p2 p3 K10 K21 K32 (s0 + s1) v5 v6 v7 v8 τ) else (if v5 = p2 then (if p3 = 0 then (some (v6, τ)) else (if p3 = 1 then (some (v7, τ)) else (if p3 = 2 then (some (v8, τ)) else (some (v10, τ))))) else (fX12_rowsOf_J162 p1 p2 p3 K10 K21 K32 (s0 + s1) (v5 + 1) v6 v7 v8 τ))))
def fX12_rowsOf_J76 (p1 : Int32) (p2 : Int32) (p3 : Int32) (K10 : Int32 → Int32 → Int32 → QMem → Option (Int32 × QMem)) (K21 : Int32 → Int32 → Int32 → Int32 → QMem → Option (Int32 × QMem)) (K32 : Int32 → Int32 → Int32 → Int32 → Int32 → QMem → Option (Int32 × QMem)) (v4 : Int32) (v5 : Int32) (v6 : Int32) (v7 : Int32) (v8 : Int32) (s0 : Int32) (τ : QMem) : Option (Int32 × QMem) :=
  if 0 ≤ s0 then (if s0 = 0 then (fX12_rowsOf_J99 p1 p2 p3 K10 K21 K32 v5 v6 v7 v8 s0 v4 1 τ) else (fX12_rowsOf_J99 p1 p2 p3 K10 K21 K32 v5 v6 v7 v8 s0 v4 2 τ)) else (fX12_rowsOf_J99 p1 p2 p3 K10 K21 K32 v5 v6 v7 v8 s0 v4 0 τ)
def fX12_rowsOf_L32 (p1 : Int32) (p2 : Int32) (p3 : Int32) (K10 : Int32 → Int32 → Int32 → QMem → Option (Int32 × QMem)) (K21 : Int32 → Int32 → Int32 → Int32 → QMem → Option (Int32 × QMem)) : Nat → Int32 → Int32 → Int32 → Int32 → Int32 → QMem → Option (Int32 × QMem)
  | 0, _, _, _, _, _, _ => none
  | n + 1, v4, v5, v6, v7, v8, τ =>
  if v8 < (-12) then (K21 v4 v5 v6 (v7 + (-1)) τ) else (if 0 ≤ (((p1 - (v6 * v6)) - (v7 * v7)) - (v8 * v8)) then (if (((p1 - (v6 * v6)) - (v7 * v7)) - (v8 * v8) < 0 ∨ ml 0 ≤ (((p1 - (v6 * v6)) - (v7 * v7)) - (v8 * v8)).toNatClampNeg) then none else (fX12_rowsOf_J76 p1 p2 p3 K10 K21 (fX12_rowsOf_L32 p1 p2 p3 K10 K21 n) v4 v5 v6 v7 v8 (τ 0 (((p1 - (v6 * v6)) - (v7 * v7)) - (v8 * v8)).toNatClampNeg) τ)) else (fX12_rowsOf_J76 p1 p2 p3 K10 K21 (fX12_rowsOf_L32 p1 p2 p3 K10 K21 n) v4 v5 v6 v7 v8 (-1) τ))
def fX12_rowsOf_L21 (p1 : Int32) (p2 : Int32) (p3 : Int32) (K10 : Int32 → Int32 → Int32 → QMem → Option (Int32 × QMem)) : Nat → Int32 → Int32 → Int32 → Int32 → QMem → Option (Int32 × QMem)
  | 0, _, _, _, _, _ => none
  | n + 1, v4, v5, v6, v7, τ =>
  if v7 < (-12) then (K10 v4 v5 (v6 + (-1)) τ) else (fX12_rowsOf_L32 p1 p2 p3 K10 (fX12_rowsOf_L21 p1 p2 p3 K10 n) FU v4 v5 v6 v7 12 τ)
def fX12_rowsOf_L10 (p1 : Int32) (p2 : Int32) (p3 : Int32) : Nat → Int32 → Int32 → Int32 → QMem → Option (Int32 × QMem)
  | 0, _, _, _, _ => none
  | n + 1, v4, v5, v6, τ =>
  if v6 < (-12) then (if p2 = (-2) then (some (v4, τ)) else (if p2 = (-1) then (some (v5, τ)) else (some ((-1003), τ)))) else (fX12_rowsOf_L21 p1 p2 p3 (fX12_rowsOf_L10 p1 p2 p3 n) FU v4 v5 v6 12 τ)
def fX12_rowsOf (p1 : Int32) (p2 : Int32) (p3 : Int32) (σ : QMem) : Option (Int32 × QMem) :=
  fX12_rowsOf_L10 p1 p2 p3 FU 0 0 12 σ
set_option maxHeartbeats 4000000 in
set_option maxRecDepth 100000 in
theorem kX12_rowsOf (l : Launch) (D : va_G) (G : xG) (σ : QMem) (p1 : Int32) (p2 : Int32) (p3 : Int32) (res : Int32 × QMem) (h : fX12_rowsOf p1 p2 p3 σ = some res) : Met l yX12_rowsOf (.code yX12_rowsOf cX12_rowsOf 11 (some .int) :: lwW) (rmD 1) (mPc D G σ [.ref (G.1 28), .int p1, .int p2, .int p3]) (mQi D G res) 0 0 (mA G) := by
  refine Met.ofW (cc := cX12_rowsOf) (maxL := 11) (ret := (some .int)) (by decide) rfl ?_
  intro p e s m args below meth c s₁ B hml hv
  obtain ⟨rfl, h0⟩ := hv
  have hx := B.exec
  have hb := B.bytes
  have hr := B.returns
  have hts := fun (w : Cond) (hw : w ∈ lwW) => atoms_spec (ws := (.code yX12_rowsOf cX12_rowsOf 11 (some .int) :: lwW)) B.pre w (List.mem_cons_of_mem _ hw)
  have hown : s.vm.findClass RX12 = some m.cls := findClass_of_methodNamed B.named
  have hlocks := B.notSynchronized
  have hP := h0.1
  have hK := h0.2.1
  have hi := h0.2.2
  have hS : va_S (mA G) s.heap s.heap [] := va_S.rf
  have hl := lv_entry ([.ref (G.1 28), .int p1, .int p2, .int p3]) (n := 11) (Nat.le_of_ble_eq_true rfl)
  rw [lg_entry_eq]
  generalize (lg_sl ([.ref (G.1 28), .int p1, .int p2, .int p3]) ++ List.replicate (11 - (lg_sl ([.ref (G.1 28), .int p1, .int p2, .int p3])).length) Slot.unset).toArray = ls at hl ⊢
  have hl : lv_has ls 11 [(0, .ref (G.1 28)), (1, .int p1), (2, .int p2), (3, .int p3)] := hl
  unfold fX12_rowsOf at h
  have L10 : ∀ (n10 : Nat) (v4 : Int32) (v5 : Int32) (v6 : Int32) (τ : QMem) (H : Heap) (locs : List Loc) (ls : Array Slot), fX12_rowsOf_L10 p1 p2 p3 n10 v4 v5 v6 τ = some res → va_P D vwCl (mW G τ) H → va_S (mA G) s.heap H locs → lv_has ls 11 [(0, .ref (G.1 28)), (1, .int p1), (2, .int p2), (3, .int p3), (4, .int v4), (5, .int v5), (6, .int v6)] → W p l e (headSpec (.code yX12_rowsOf cX12_rowsOf 11 (some .int) :: lwW) (rmD 1)).room s m ([.ref (G.1 28), .int p1, .int p2, .int p3] : List Value).toArray below meth c H locs 0 0 (MQ below (mQi D G res) ([.ref (G.1 28), .int p1, .int p2, .int p3] : List Value).toArray s 0 0 (mA G)) (F0 m 10 ls []) := by
    intro n10
    induction n10 with
    | zero => intro v4 v5 v6 τ H locs ls h; rw [fX12_rowsOf_L10] at h; cases h
    | succ n10 ih10 =>
      intro v4 v5 v6 τ H locs ls h hP hS hl
      rw [fX12_rowsOf_L10] at h
      have L21 : ∀ (n21 : Nat) (v4 : Int32) (v5 : Int32) (v6 : Int32) (v7 : Int32) (τ : QMem) (H : Heap) (locs : List Loc) (ls : Array Slot), fX12_rowsOf_L21 p1 p2 p3 (fX12_rowsOf_L10 p1 p2 p3 n10) n21 v4 v5 v6 v7 τ = some res → va_P D vwCl (mW G τ) H → va_S (mA G) s.heap H locs → lv_has ls 11 [(0, .ref (G.1 28)), (1, .int p1), (2, .int p2), (3, .int p3), (4, .int v4), (5, .int v5), (6, .int v6), (7, .int v7)] → W p l e (headSpec (.code yX12_rowsOf cX12_rowsOf 11 (some .int) :: lwW) (rmD 1)).room s m ([.ref (G.1 28), .int p1, .int p2, .int p3] : List Value).toArray below meth c H locs 0 0 (MQ below (mQi D G res) ([.ref (G.1 28), .int p1, .int p2, .int p3] : List Value).toArray s 0 0 (mA G)) (F0 m 21 ls []) := by
        intro n21
        induction n21 with
        | zero => intro v4 v5 v6 v7 τ H locs ls h; rw [fX12_rowsOf_L21] at h; cases h
        | succ n21 ih21 =>
          intro v4 v5 v6 v7 τ H locs ls h hP hS hl
          rw [fX12_rowsOf_L21] at h
          have L32 : ∀ (n32 : Nat) (v4 : Int32) (v5 : Int32) (v6 : Int32) (v7 : Int32) (v8 : Int32) (τ : QMem) (H : Heap) (locs : List Loc) (ls : Array Slot), fX12_rowsOf_L32 p1 p2 p3 (fX12_rowsOf_L10 p1 p2 p3 n10) (fX12_rowsOf_L21 p1 p2 p3 (fX12_rowsOf_L10 p1 p2 p3 n10) n21) n32 v4 v5 v6 v7 v8 τ = some res → va_P D vwCl (mW G τ) H → va_S (mA G) s.heap H locs → lv_has ls 11 [(0, .ref (G.1 28)), (1, .int p1), (2, .int p2), (3, .int p3), (4, .int v4), (5, .int v5), (6, .int v6), (7, .int v7), (8, .int v8)] → W p l e (headSpec (.code yX12_rowsOf cX12_rowsOf 11 (some .int) :: lwW) (rmD 1)).room s m ([.ref (G.1 28), .int p1, .int p2, .int p3] : List Value).toArray below meth c H locs 0 0 (MQ below (mQi D G res) ([.ref (G.1 28), .int p1, .int p2, .int p3] : List Value).toArray s 0 0 (mA G)) (F0 m 32 ls []) := by
            intro n32
            induction n32 with
            | zero => intro v4 v5 v6 v7 v8 τ H locs ls h; rw [fX12_rowsOf_L32] at h; cases h
            | succ n32 ih32 =>
              intro v4 v5 v6 v7 v8 τ H locs ls h hP hS hl
              rw [fX12_rowsOf_L32] at h
              have J162 : ∀ (v4 : Int32) (v5 : Int32) (v6 : Int32) (v7 : Int32) (v8 : Int32) (τ : QMem) (H : Heap) (locs : List Loc) (ls : Array Slot), fX12_rowsOf_J162 p1 p2 p3 (fX12_rowsOf_L10 p1 p2 p3 n10) (fX12_rowsOf_L21 p1 p2 p3 (fX12_rowsOf_L10 p1 p2 p3 n10) n21) (fX12_rowsOf_L32 p1 p2 p3 (fX12_rowsOf_L10 p1 p2 p3 n10) (fX12_rowsOf_L21 p1 p2 p3 (fX12_rowsOf_L10 p1 p2 p3 n10) n21) n32) v4 v5 v6 v7 v8 τ = some res → va_P D vwCl (mW G τ) H → va_S (mA G) s.heap H locs → lv_has ls 11 [(0, .ref (G.1 28)), (1, .int p1), (2, .int p2), (3, .int p3), (4, .int v4), (5, .int v5), (6, .int v6), (7, .int v7), (8, .int v8)] → W p l e (headSpec (.code yX12_rowsOf cX12_rowsOf 11 (some .int) :: lwW) (rmD 1)).room s m ([.ref (G.1 28), .int p1, .int p2, .int p3] : List Value).toArray below meth c H locs 0 0 (MQ below (mQi D G res) ([.ref (G.1 28), .int p1, .int p2, .int p3] : List Value).toArray s 0 0 (mA G)) (F0 m 162 ls []) := by
                intro v4 v5 v6 v7 v8 τ H locs ls h hP hS hl
                unfold fX12_rowsOf_J162 at h
                refine lv_iinc (v := v8 + (-1)) (lv' := [(8, .int (v8 + (-1))), (0, .ref (G.1 28)), (1, .int p1), (2, .int p2), (3, .int p3), (4, .int v4), (5, .int v5), (6, .int v6), (7, .int v7)]) hx hb dX12_rowsOf_162 hl (k := 8) rfl rfl (by decide) rfl (fun ls hl => ?_)
                refine lv_goto (tgt := 32) hx hb dX12_rowsOf_165 (by decide) ?_
                exact ih32 v4 v5 v6 v7 (v8 + (-1)) _ _ _ _ h hP hS (lv_sub hl [1, 2, 3, 4, 5, 6, 7, 8, 0] rfl)
              have J99 : ∀ (v5 : Int32) (v6 : Int32) (v7 : Int32) (v8 : Int32) (v10 : Int32) (s0 : Int32) (s1 : Int32) (τ : QMem) (H : Heap) (locs : List Loc) (ls : Array Slot), fX12_rowsOf_J99 p1 p2 p3 (fX12_rowsOf_L10 p1 p2 p3 n10) (fX12_rowsOf_L21 p1 p2 p3 (fX12_rowsOf_L10 p1 p2 p3 n10) n21) (fX12_rowsOf_L32 p1 p2 p3 (fX12_rowsOf_L10 p1 p2 p3 n10) (fX12_rowsOf_L21 p1 p2 p3 (fX12_rowsOf_L10 p1 p2 p3 n10) n21) n32) v5 v6 v7 v8 v10 s0 s1 τ = some res → va_P D vwCl (mW G τ) H → va_S (mA G) s.heap H locs → lv_has ls 11 [(0, .ref (G.1 28)), (1, .int p1), (2, .int p2), (3, .int p3), (5, .int v5), (6, .int v6), (7, .int v7), (8, .int v8), (10, .int v10)] → W p l e (headSpec (.code yX12_rowsOf cX12_rowsOf 11 (some .int) :: lwW) (rmD 1)).room s m ([.ref (G.1 28), .int p1, .int p2, .int p3] : List Value).toArray below meth c H locs 0 0 (MQ below (mQi D G res) ([.ref (G.1 28), .int p1, .int p2, .int p3] : List Value).toArray s 0 0 (mA G)) (F0 m 99 ls [.int s1, .int s0]) := by
                intro v5 v6 v7 v8 v10 s0 s1 τ H locs ls h hP hS hl
                unfold fX12_rowsOf_J99 at h
                refine lv_iadd hx hb dX12_rowsOf_99 ?_
                refine lv_istore (lv' := [(4, .int (s0 + s1)), (0, .ref (G.1 28)), (1, .int p1), (2, .int p2), (3, .int p3), (5, .int v5), (6, .int v6), (7, .int v7), (8, .int v8), (10, .int v10)]) hx hb dX12_rowsOf_100 hl (by decide) rfl (fun ls hl => ?_)
                refine lv_iload hx hb dX12_rowsOf_102 (lv_at hl 9 rfl) ?_
                refine lv_if_lt (tgt := 162) hx hb dX12_rowsOf_104 (by decide) (fun hcq9 => ?_) (fun hcq9 => ?_)
                · have h := ifp hcq9 h
                  exact J162 (s0 + s1) v5 v6 v7 v8 _ _ _ _ h hP hS (lv_sub hl [1, 2, 3, 4, 0, 5, 6, 7, 8] rfl)
                have h := ifn hcq9 h
                refine lv_iload hx hb dX12_rowsOf_107 (lv_at hl 6 rfl) ?_
                refine lv_iload hx hb dX12_rowsOf_109 (lv_at hl 7 rfl) ?_
                refine lv_iload hx hb dX12_rowsOf_111 (lv_at hl 8 rfl) ?_
                refine lv_iload hx hb dX12_rowsOf_113 (lv_at hl 9 rfl) ?_
                obtain ⟨xq10, hfq11, h⟩ := obd h
                refine va_calli (va_runS (As := [.int v6, .int v7, .int v8, .int v10]) (rest := []) ⟨hx, hb, hml, hown, hts⟩ (kX12_isBase l v6 v7 v8 v10 xq10 hfq11) (va_cwS 4 hts (lwW_gS mw_1226 mw_1227 mw_14 mw_1228) rfl rfl rfl (by decide +kernel) ⟨Nat.le_of_ble_eq_true rfl, Nat.le_of_ble_eq_true rfl⟩) ⟨fun a U g mk q => ⟨q.1, trivial⟩, fun U hU hW => ⟨rfl, trivial⟩⟩ rfl rfl hl.1 rfl (lv_room (Nat.le_of_ble_eq_true rfl)) dX12_rowsOf_115 ⟨Nat.zero_le _, Nat.zero_le _⟩) hS (fun q _ h => h.elim) (fun q h => h.elim) (fun r u t H1 locs ht hvm hw hB hz1 hq1 hS => ?_)
                obtain rfl := hw.symm
                have hP := mP_kept hP hq1
                refine W.widen (k := 0) (n := 0) (Nat.le_refl _) (Nat.le_refl _) ?_
                refine lv_if_eq (tgt := 162) hx hb dX12_rowsOf_118 (by decide) (fun hcq12 => ?_) (fun hcq12 => ?_)
                · have h := ifp hcq12 h
                  exact J162 (s0 + s1) v5 v6 v7 v8 _ _ _ _ h hP hS (lv_sub hl [1, 2, 3, 4, 0, 5, 6, 7, 8] rfl)
                have h := ifn hcq12 h
                refine lv_iload hx hb dX12_rowsOf_121 (lv_at hl 5 rfl) ?_
                refine lv_iload_n hx hb dX12_rowsOf_123 rfl (lv_at hl 3 rfl) ?_
                refine lv_icmp_ne (tgt := 159) hx hb dX12_rowsOf_124 (by decide) (fun hcq13 => ?_) (fun hcq13 => ?_)
                · have h := ifn hcq13 h
                  refine lv_iinc (v := v5 + 1) (lv' := [(5, .int (v5 + 1)), (4, .int (s0 + s1)), (0, .ref (G.1 28)), (1, .int p1), (2, .int p2), (3, .int p3), (6, .int v6), (7, .int v7), (8, .int v8), (10, .int v10)]) hx hb dX12_rowsOf_159 hl (k := 5) rfl rfl (by decide) rfl (fun ls hl => ?_)
                  exact J162 (s0 + s1) (v5 + 1) v6 v7 v8 _ _ _ _ h hP hS (lv_sub hl [2, 3, 4, 5, 1, 0, 6, 7, 8] rfl)
                have h := ifp hcq13 h
                refine lv_iload_n hx hb dX12_rowsOf_127 rfl (lv_at hl 4 rfl) ?_
                refine lv_if_ne (tgt := 136) hx hb dX12_rowsOf_128 (by decide) (fun hcq14 => ?_) (fun hcq14 => ?_)
                · have h := ifn hcq14 h
                  refine lv_iload_n hx hb dX12_rowsOf_136 rfl (lv_at hl 4 rfl) ?_
                  refine lv_iconst (v := 1) hx hb dX12_rowsOf_137 (by decide) ?_
                  refine lv_icmp_ne (tgt := 146) hx hb dX12_rowsOf_138 (by decide) (fun hcq15 => ?_) (fun hcq15 => ?_)
                  · have h := ifn hcq15 h
                    refine lv_iload_n hx hb dX12_rowsOf_146 rfl (lv_at hl 4 rfl) ?_
                    refine lv_iconst (v := 2) hx hb dX12_rowsOf_147 (by decide) ?_
                    refine lv_icmp_ne (tgt := 156) hx hb dX12_rowsOf_148 (by decide) (fun hcq16 => ?_) (fun hcq16 => ?_)
                    · have h := ifn hcq16 h
                      refine lv_iload hx hb dX12_rowsOf_156 (lv_at hl 9 rfl) ?_
                      obtain rfl := Option.some.inj h
                      exact W.iret (v := v10) hx hb hr (fun t ht hW => ⟨⟨_, _, rfl, ⟨rfl, rfl⟩, mPre_at h0 hS hP ht hW⟩, hS.F ht⟩) hS.2.2 dX12_rowsOf_158
                    have h := ifp hcq16 h
                    refine lv_iload hx hb dX12_rowsOf_151 (lv_at hl 8 rfl) ?_
                    refine lv_goto (tgt := 158) hx hb dX12_rowsOf_153 (by decide) ?_
                    obtain rfl := Option.some.inj h
                    exact W.iret (v := v8) hx hb hr (fun t ht hW => ⟨⟨_, _, rfl, ⟨rfl, rfl⟩, mPre_at h0 hS hP ht hW⟩, hS.F ht⟩) hS.2.2 dX12_rowsOf_158
                  have h := ifp hcq15 h
                  refine lv_iload hx hb dX12_rowsOf_141 (lv_at hl 7 rfl) ?_
                  refine lv_goto (tgt := 158) hx hb dX12_rowsOf_143 (by decide) ?_
                  obtain rfl := Option.some.inj h
                  exact W.iret (v := v7) hx hb hr (fun t ht hW => ⟨⟨_, _, rfl, ⟨rfl, rfl⟩, mPre_at h0 hS hP ht hW⟩, hS.F ht⟩) hS.2.2 dX12_rowsOf_158
                have h := ifp hcq14 h
                refine lv_iload hx hb dX12_rowsOf_131 (lv_at hl 6 rfl) ?_
                refine lv_goto (tgt := 158) hx hb dX12_rowsOf_133 (by decide) ?_
                obtain rfl := Option.some.inj h
                exact W.iret (v := v6) hx hb hr (fun t ht hW => ⟨⟨_, _, rfl, ⟨rfl, rfl⟩, mPre_at h0 hS hP ht hW⟩, hS.F ht⟩) hS.2.2 dX12_rowsOf_158
              have J76 : ∀ (v4 : Int32) (v5 : Int32) (v6 : Int32) (v7 : Int32) (v8 : Int32) (s0 : Int32) (τ : QMem) (H : Heap) (locs : List Loc) (ls : Array Slot), fX12_rowsOf_J76 p1 p2 p3 (fX12_rowsOf_L10 p1 p2 p3 n10) (fX12_rowsOf_L21 p1 p2 p3 (fX12_rowsOf_L10 p1 p2 p3 n10) n21) (fX12_rowsOf_L32 p1 p2 p3 (fX12_rowsOf_L10 p1 p2 p3 n10) (fX12_rowsOf_L21 p1 p2 p3 (fX12_rowsOf_L10 p1 p2 p3 n10) n21) n32) v4 v5 v6 v7 v8 s0 τ = some res → va_P D vwCl (mW G τ) H → va_S (mA G) s.heap H locs → lv_has ls 11 [(0, .ref (G.1 28)), (1, .int p1), (2, .int p2), (3, .int p3), (4, .int v4), (5, .int v5), (6, .int v6), (7, .int v7), (8, .int v8)] → W p l e (headSpec (.code yX12_rowsOf cX12_rowsOf 11 (some .int) :: lwW) (rmD 1)).room s m ([.ref (G.1 28), .int p1, .int p2, .int p3] : List Value).toArray below meth c H locs 0 0 (MQ below (mQi D G res) ([.ref (G.1 28), .int p1, .int p2, .int p3] : List Value).toArray s 0 0 (mA G)) (F0 m 76 ls [.int s0]) := by
                intro v4 v5 v6 v7 v8 s0 τ H locs ls h hP hS hl
                unfold fX12_rowsOf_J76 at h
                refine lv_istore (lv' := [(10, .int s0), (0, .ref (G.1 28)), (1, .int p1), (2, .int p2), (3, .int p3), (4, .int v4), (5, .int v5), (6, .int v6), (7, .int v7), (8, .int v8)]) hx hb dX12_rowsOf_76 hl (by decide) rfl (fun ls hl => ?_)
                refine lv_iload hx hb dX12_rowsOf_78 (lv_at hl 5 rfl) ?_
                refine lv_iload hx hb dX12_rowsOf_80 (lv_at hl 0 rfl) ?_
                refine lv_if_ge (tgt := 89) hx hb dX12_rowsOf_82 (by decide) (fun hcq19 => ?_) (fun hcq19 => ?_)
                · have h := ifp hcq19 h
                  refine lv_iload hx hb dX12_rowsOf_89 (lv_at hl 0 rfl) ?_
                  refine lv_if_ne (tgt := 98) hx hb dX12_rowsOf_91 (by decide) (fun hcq20 => ?_) (fun hcq20 => ?_)
                  · have h := ifn hcq20 h
                    refine lv_iconst (v := 2) hx hb dX12_rowsOf_98 (by decide) ?_
                    exact J99 v5 v6 v7 v8 s0 v4 2 _ _ _ _ h hP hS (lv_sub hl [1, 2, 3, 4, 6, 7, 8, 9, 0] rfl)
                  have h := ifp hcq20 h
                  refine lv_iconst (v := 1) hx hb dX12_rowsOf_94 (by decide) ?_
                  refine lv_goto (tgt := 99) hx hb dX12_rowsOf_95 (by decide) ?_
                  exact J99 v5 v6 v7 v8 s0 v4 1 _ _ _ _ h hP hS (lv_sub hl [1, 2, 3, 4, 6, 7, 8, 9, 0] rfl)
                have h := ifn hcq19 h
                refine lv_iconst (v := 0) hx hb dX12_rowsOf_85 (by decide) ?_
                refine lv_goto (tgt := 99) hx hb dX12_rowsOf_86 (by decide) ?_
                exact J99 v5 v6 v7 v8 s0 v4 0 _ _ _ _ h hP hS (lv_sub hl [1, 2, 3, 4, 6, 7, 8, 9, 0] rfl)
              refine lv_iload hx hb dX12_rowsOf_32 (lv_at hl 8 rfl) ?_
              refine lv_bipush (v := (-12)) hx hb dX12_rowsOf_34 (by decide) ?_
              refine lv_icmp_lt (tgt := 168) hx hb dX12_rowsOf_36 (by decide) (fun hcq21 => ?_) (fun hcq21 => ?_)
              · have h := ifp hcq21 h
                refine lv_iinc (v := v7 + (-1)) (lv' := [(7, .int (v7 + (-1))), (0, .ref (G.1 28)), (1, .int p1), (2, .int p2), (3, .int p3), (4, .int v4), (5, .int v5), (6, .int v6), (8, .int v8)]) hx hb dX12_rowsOf_168 hl (k := 7) rfl rfl (by decide) rfl (fun ls hl => ?_)
                refine lv_goto (tgt := 21) hx hb dX12_rowsOf_171 (by decide) ?_
                exact ih21 v4 v5 v6 (v7 + (-1)) _ _ _ _ h hP hS (lv_sub hl [1, 2, 3, 4, 5, 6, 7, 0] rfl)
              have h := ifn hcq21 h
              refine lv_iload_n hx hb dX12_rowsOf_39 rfl (lv_at hl 1 rfl) ?_
              refine lv_iload hx hb dX12_rowsOf_40 (lv_at hl 6 rfl) ?_
              refine lv_iload hx hb dX12_rowsOf_42 (lv_at hl 6 rfl) ?_
              refine lv_imul hx hb dX12_rowsOf_44 ?_
              refine lv_isub hx hb dX12_rowsOf_45 ?_
              refine lv_iload hx hb dX12_rowsOf_46 (lv_at hl 7 rfl) ?_
              refine lv_iload hx hb dX12_rowsOf_48 (lv_at hl 7 rfl) ?_
              refine lv_imul hx hb dX12_rowsOf_50 ?_
              refine lv_isub hx hb dX12_rowsOf_51 ?_
              refine lv_iload hx hb dX12_rowsOf_52 (lv_at hl 8 rfl) ?_
              refine lv_iload hx hb dX12_rowsOf_54 (lv_at hl 8 rfl) ?_
              refine lv_imul hx hb dX12_rowsOf_56 ?_
              refine lv_isub hx hb dX12_rowsOf_57 ?_
              refine lv_istore (lv' := [(9, .int (((p1 - (v6 * v6)) - (v7 * v7)) - (v8 * v8))), (0, .ref (G.1 28)), (1, .int p1), (2, .int p2), (3, .int p3), (4, .int v4), (5, .int v5), (6, .int v6), (7, .int v7), (8, .int v8)]) hx hb dX12_rowsOf_58 hl (by decide) rfl (fun ls hl => ?_)
              refine lv_iload hx hb dX12_rowsOf_60 (lv_at hl 0 rfl) ?_
              refine lv_if_ge (tgt := 69) hx hb dX12_rowsOf_62 (by decide) (fun hcq22 => ?_) (fun hcq22 => ?_)
              · have h := ifp hcq22 h
                refine lv_aload_n hx hb dX12_rowsOf_69 rfl (lv_at hl 1 rfl) ?_
                refine va_get (D := D) (ci := 12) (v := .ref (G.1 0)) (C := RX12) (T := TX12) (N := 34) hx hb hts iwX12 hown hK hP 28 (mg_2 rfl) rfl 0 (by decide) (hts _ mw_958) (fun _ h9 => h9) rfl dX12_rowsOf_70 ?_
                refine lv_iload hx hb dX12_rowsOf_73 (lv_at hl 0 rfl) ?_
                obtain ⟨hiq23, h⟩ := nif h
                refine va_iald hx hb hK hP 0 0 (mg_0 rfl) rfl hiq23 dX12_rowsOf_75 ?_
                exact J76 v4 v5 v6 v7 v8 (τ 0 (((p1 - (v6 * v6)) - (v7 * v7)) - (v8 * v8)).toNatClampNeg) _ _ _ _ h hP hS (lv_sub hl [1, 2, 3, 4, 5, 6, 7, 8, 9] rfl)
              have h := ifn hcq22 h
              refine lv_iconst (v := (-1)) hx hb dX12_rowsOf_65 (by decide) ?_
              refine lv_goto (tgt := 76) hx hb dX12_rowsOf_66 (by decide) ?_
              exact J76 v4 v5 v6 v7 v8 (-1) _ _ _ _ h hP hS (lv_sub hl [1, 2, 3, 4, 5, 6, 7, 8, 9] rfl)
          refine lv_iload hx hb dX12_rowsOf_21 (lv_at hl 7 rfl) ?_
          refine lv_bipush (v := (-12)) hx hb dX12_rowsOf_23 (by decide) ?_
          refine lv_icmp_lt (tgt := 174) hx hb dX12_rowsOf_25 (by decide) (fun hcq24 => ?_) (fun hcq24 => ?_)
          · have h := ifp hcq24 h
            refine lv_iinc (v := v6 + (-1)) (lv' := [(6, .int (v6 + (-1))), (0, .ref (G.1 28)), (1, .int p1), (2, .int p2), (3, .int p3), (4, .int v4), (5, .int v5), (7, .int v7)]) hx hb dX12_rowsOf_174 hl (k := 6) rfl rfl (by decide) rfl (fun ls hl => ?_)
            refine lv_goto (tgt := 10) hx hb dX12_rowsOf_177 (by decide) ?_
            exact ih10 v4 v5 (v6 + (-1)) _ _ _ _ h hP hS (lv_sub hl [1, 2, 3, 4, 5, 6, 0] rfl)
          have h := ifn hcq24 h
          refine lv_bipush (v := 12) hx hb dX12_rowsOf_28 (by decide) ?_
          refine lv_istore (lv' := [(8, .int 12), (0, .ref (G.1 28)), (1, .int p1), (2, .int p2), (3, .int p3), (4, .int v4), (5, .int v5), (6, .int v6), (7, .int v7)]) hx hb dX12_rowsOf_30 hl (by decide) rfl (fun ls hl => ?_)
          exact L32 FU v4 v5 v6 v7 12 _ _ _ _ h hP hS (lv_sub hl [1, 2, 3, 4, 5, 6, 7, 8, 0] rfl)
      refine lv_iload hx hb dX12_rowsOf_10 (lv_at hl 6 rfl) ?_
      refine lv_bipush (v := (-12)) hx hb dX12_rowsOf_12 (by decide) ?_
      refine lv_icmp_lt (tgt := 180) hx hb dX12_rowsOf_14 (by decide) (fun hcq25 => ?_) (fun hcq25 => ?_)
      · have h := ifp hcq25 h
        refine lv_iload_n hx hb dX12_rowsOf_180 rfl (lv_at hl 2 rfl) ?_
        refine lv_bipush (v := (-2)) hx hb dX12_rowsOf_181 (by decide) ?_
        refine lv_icmp_ne (tgt := 191) hx hb dX12_rowsOf_183 (by decide) (fun hcq26 => ?_) (fun hcq26 => ?_)
        · have h := ifn hcq26 h
          refine lv_iload_n hx hb dX12_rowsOf_191 rfl (lv_at hl 2 rfl) ?_
          refine lv_iconst (v := (-1)) hx hb dX12_rowsOf_192 (by decide) ?_
          refine lv_icmp_ne (tgt := 201) hx hb dX12_rowsOf_193 (by decide) (fun hcq27 => ?_) (fun hcq27 => ?_)
          · have h := ifn hcq27 h
            refine lv_sipush (v := (-1003)) hx hb dX12_rowsOf_201 (by decide) ?_
            obtain rfl := Option.some.inj h
            exact W.iret (v := (-1003)) hx hb hr (fun t ht hW => ⟨⟨_, _, rfl, ⟨rfl, rfl⟩, mPre_at h0 hS hP ht hW⟩, hS.F ht⟩) hS.2.2 dX12_rowsOf_204
          have h := ifp hcq27 h
          refine lv_iload hx hb dX12_rowsOf_196 (lv_at hl 5 rfl) ?_
          refine lv_goto (tgt := 204) hx hb dX12_rowsOf_198 (by decide) ?_
          obtain rfl := Option.some.inj h
          exact W.iret (v := v5) hx hb hr (fun t ht hW => ⟨⟨_, _, rfl, ⟨rfl, rfl⟩, mPre_at h0 hS hP ht hW⟩, hS.F ht⟩) hS.2.2 dX12_rowsOf_204
        have h := ifp hcq26 h
        refine lv_iload hx hb dX12_rowsOf_186 (lv_at hl 4 rfl) ?_
        refine lv_goto (tgt := 204) hx hb dX12_rowsOf_188 (by decide) ?_
        obtain rfl := Option.some.inj h
        exact W.iret (v := v4) hx hb hr (fun t ht hW => ⟨⟨_, _, rfl, ⟨rfl, rfl⟩, mPre_at h0 hS hP ht hW⟩, hS.F ht⟩) hS.2.2 dX12_rowsOf_204
      have h := ifn hcq25 h
      refine lv_bipush (v := 12) hx hb dX12_rowsOf_17 (by decide) ?_
      refine lv_istore (lv' := [(7, .int 12), (0, .ref (G.1 28)), (1, .int p1), (2, .int p2), (3, .int p3), (4, .int v4), (5, .int v5), (6, .int v6)]) hx hb dX12_rowsOf_19 hl (by decide) rfl (fun ls hl => ?_)
      exact L21 FU v4 v5 v6 12 _ _ _ _ h hP hS (lv_sub hl [1, 2, 3, 4, 5, 6, 7, 0] rfl)
  refine lv_iconst (v := 0) hx hb dX12_rowsOf_0 (by decide) ?_
  refine lv_istore (lv' := [(4, .int 0), (0, .ref (G.1 28)), (1, .int p1), (2, .int p2), (3, .int p3)]) hx hb dX12_rowsOf_1 hl (by decide) rfl (fun ls hl => ?_)
  refine lv_iconst (v := 0) hx hb dX12_rowsOf_3 (by decide) ?_
  refine lv_istore (lv' := [(5, .int 0), (4, .int 0), (0, .ref (G.1 28)), (1, .int p1), (2, .int p2), (3, .int p3)]) hx hb dX12_rowsOf_4 hl (by decide) rfl (fun ls hl => ?_)
  refine lv_bipush (v := 12) hx hb dX12_rowsOf_6 (by decide) ?_
  refine lv_istore (lv' := [(6, .int 12), (5, .int 0), (4, .int 0), (0, .ref (G.1 28)), (1, .int p1), (2, .int p2), (3, .int p3)]) hx hb dX12_rowsOf_8 hl (by decide) rfl (fun ls hl => ?_)
  exact L10 FU 0 0 12 _ _ _ _ h hP hS (lv_sub hl [3, 4, 5, 6, 2, 1, 0] rfl)
