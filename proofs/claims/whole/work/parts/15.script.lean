def fX3_putFactor_L17 (k1 : Nat) (k2 : Nat) (p3 : Int32) : Nat → Nat → Int32 → QMem → Option (Int32 × QMem)
  | 0, _, _, _ => none
  | n + 1, v4, v5, τ =>
  if 8 ≤ v5 then (some (0, τ)) else ((fX6_isZero v4 τ).bind fun xq2 => (if xq2.1 = 0 then ((fX6_norm v4 xq2.2).bind fun xq5 => (if xq5.1 = 1 then ((fX6_copyFrom k1 v4 xq5.2).bind fun xq19 => (if v5 = p3 then (some (1, xq19)) else (some (0, xq19)))) else (if ((0 : Int32) < 0 ∨ xl 113 ≤ (0 : Int32).toNatClampNeg) then none else ((fX5_gather (xb 113 + (0 : Int32).toNatClampNeg) v4 0 xq5.2).bind fun xq9 => (if ((0 : Int32) < 0 ∨ xl 113 ≤ (0 : Int32).toNatClampNeg) then none else ((fX7_putRow ((xb 113 + (0 : Int32).toNatClampNeg) - 27) k1 0 xq9).bind fun xq12 => (if v5 = p3 then (some (1, xq12)) else ((fX1_perform v4 k1 0 xq12).bind fun xq15 => ((fX6_copyFrom v4 36 xq15).bind fun xq17 => ((fX3_putFactor_L17 k1 k2 p3 n) v4 (v5 + 1) xq17)))))))))) else (some (0, xq2.2))))
def fX3_putFactor (k1 : Nat) (k2 : Nat) (p3 : Int32) (σ : QMem) : Option (Int32 × QMem) :=
  if ((0 : Int32) < 0 ∨ xl 104 ≤ (0 : Int32).toNatClampNeg) then none else ((fX6_copyFrom (xb 104 + (0 : Int32).toNatClampNeg) k2 σ).bind fun xq23 => (fX3_putFactor_L17 k1 k2 p3 FU (xb 104 + (0 : Int32).toNatClampNeg) 0 xq23))
set_option maxHeartbeats 4000000 in
set_option maxRecDepth 100000 in
theorem kX3_putFactor (l : Launch) (D : va_G) (G : xG) (ub : xB) (σ : QMem) (k1 : Nat) (hk1 : xk k1 = 0) (k2 : Nat) (hk2 : xk k2 = 0) (p3 : Int32) (res : Int32 × QMem) (h : fX3_putFactor k1 k2 p3 σ = some res) : Met l yX3_putFactor (.code yX3_putFactor cX3_putFactor 6 (some .boolean) :: lwW) (rmD 6) (xPc D G ub σ [.ref (G.1 112), .ref (G.1 k1), .ref (G.1 k2), .int p3]) (xQi D G ub res) 0 0 (xA G) := by
  refine Met.ofW (cc := cX3_putFactor) (maxL := 6) (ret := (some .boolean)) (by decide) rfl ?_
  intro p e s m args below meth c s₁ B hml hv
  obtain ⟨rfl, h0⟩ := hv
  have hx := B.exec
  have hb := B.bytes
  have hr := B.returns
  have hts := fun (w : Cond) (hw : w ∈ lwW) => atoms_spec (ws := (.code yX3_putFactor cX3_putFactor 6 (some .boolean) :: lwW)) B.pre w (List.mem_cons_of_mem _ hw)
  have hown : s.vm.findClass RX3 = some m.cls := findClass_of_methodNamed B.named
  have hlocks := B.notSynchronized
  have hP := h0.1
  have hK := h0.2.1
  have hi := h0.2.2.1
  have hZ := h0.2.2.2
  have hN := h0.2.2.2.2.2.2.2.1
  have hV := h0.2.2.2.2.2.2.2.2.1
  have hS : va_S (xA G) s.heap s.heap [] := va_S.rf
  have hl := lv_entry ([.ref (G.1 112), .ref (G.1 k1), .ref (G.1 k2), .int p3]) (n := 6) (Nat.le_of_ble_eq_true rfl)
  rw [lg_entry_eq]
  generalize (lg_sl ([.ref (G.1 112), .ref (G.1 k1), .ref (G.1 k2), .int p3]) ++ List.replicate (6 - (lg_sl ([.ref (G.1 112), .ref (G.1 k1), .ref (G.1 k2), .int p3])).length) Slot.unset).toArray = ls at hl ⊢
  have hl : lv_has ls 6 [(0, .ref (G.1 112)), (1, .ref (G.1 k1)), (2, .ref (G.1 k2)), (3, .int p3)] := hl
  unfold fX3_putFactor at h
  have L17 : ∀ (n17 : Nat) (v4 : Nat) (hv4 : xk v4 = 0) (v5 : Int32) (τ : QMem) (H : Heap) (locs : List Loc) (ls : Array Slot), fX3_putFactor_L17 k1 k2 p3 n17 v4 v5 τ = some res → va_P D vwCl (xW G τ) H → va_S (xA G) s.heap H locs → lv_has ls 6 [(0, .ref (G.1 112)), (1, .ref (G.1 k1)), (3, .int p3), (4, .ref (G.1 v4)), (5, .int v5)] → W p l e (headSpec (.code yX3_putFactor cX3_putFactor 6 (some .boolean) :: lwW) (rmD 6)).room s m ([.ref (G.1 112), .ref (G.1 k1), .ref (G.1 k2), .int p3] : List Value).toArray below meth c H locs 0 0 (MQ below (xQi D G ub res) ([.ref (G.1 112), .ref (G.1 k1), .ref (G.1 k2), .int p3] : List Value).toArray s 0 0 (xA G)) (F0 m 17 ls []) := by
    intro n17
    induction n17 with
    | zero => intro v4 hv4 v5 τ H locs ls h; rw [fX3_putFactor_L17] at h; cases h
    | succ n17 ih17 =>
      intro v4 hv4 v5 τ H locs ls h hP hS hl
      rw [fX3_putFactor_L17] at h
      refine lv_iload hx hb dX3_putFactor_17 (lv_at hl 4 rfl) ?_
      refine lv_bipush (v := 8) hx hb dX3_putFactor_19 (by decide) ?_
      refine lv_icmp_ge (tgt := 122) hx hb dX3_putFactor_21 (by decide) (fun hcq1 => ?_) (fun hcq1 => ?_)
      · have h := ifp hcq1 h
        refine lv_iconst (v := 0) hx hb dX3_putFactor_122 (by decide) ?_
        obtain rfl := Option.some.inj h
        exact W.zret hx hb hr rfl (fun t ht hW => ⟨⟨_, _, rfl, ⟨rfl, rfl⟩, xPre_at h0 hS hP ht hW⟩, hS.F ht⟩) hS.2.2 dX3_putFactor_123
      have h := ifn hcq1 h
      refine lv_aload hx hb dX3_putFactor_24 (lv_at hl 3 rfl) ?_
      obtain ⟨xq2, hfq3, h⟩ := obd h
      refine va_calli (va_runV (As := []) (rest := []) ⟨hx, hb, hml, hown, hts⟩ (kX6_isZero l D G ub _ v4 hv4 xq2 hfq3) (cwV 0 hts (lwW_gV mw_789 mw_512 mw_513 mw_3 mw_514) rfl rfl rfl (by decide +kernel) ⟨Nat.le_of_ble_eq_true rfl, Nat.le_of_ble_eq_true rfl⟩) ⟨fun a U g mk q => ⟨q.1, xPre_call q.2⟩, va_recv hK hP rfl (xg_0 hv4), fun U hU hW => ⟨rfl, xPre_at h0 hS hP hU hW⟩⟩ rfl rfl hl.1 rfl (lv_room (Nat.le_of_ble_eq_true rfl)) dX3_putFactor_26 ⟨Nat.zero_le _, Nat.zero_le _⟩) hS (fun q _ h => h) (fun q h => h) (fun r u t H1 locs ht hvm hw hB hz1 hq1 hS => ?_)
      obtain ⟨rfl, rfl⟩ := hw
      have hP := hB.1
      rw [ht] at hP
      refine W.widen (k := 0) (n := 0) (Nat.le_refl _) (Nat.le_refl _) ?_
      refine lv_if_ne (tgt := 122) hx hb dX3_putFactor_29 (by decide) (fun hcq4 => ?_) (fun hcq4 => ?_)
      · have h := ifn hcq4 h
        refine lv_iconst (v := 0) hx hb dX3_putFactor_122 (by decide) ?_
        obtain rfl := Option.some.inj h
        exact W.zret hx hb hr rfl (fun t ht hW => ⟨⟨_, _, rfl, ⟨rfl, rfl⟩, xPre_at h0 hS hP ht hW⟩, hS.F ht⟩) hS.2.2 dX3_putFactor_123
      have h := ifp hcq4 h
      refine lv_aload hx hb dX3_putFactor_32 (lv_at hl 3 rfl) ?_
      obtain ⟨xq5, hfq6, h⟩ := obd h
      refine va_calli (va_runV (As := []) (rest := []) ⟨hx, hb, hml, hown, hts⟩ (kX6_norm l D G ub _ v4 hv4 xq5 hfq6) (cwV 0 hts (lwW_gV mw_546 mw_516 mw_517 mw_3 mw_518) rfl rfl rfl (by decide +kernel) ⟨Nat.le_of_ble_eq_true rfl, Nat.le_of_ble_eq_true rfl⟩) ⟨fun a U g mk q => ⟨q.1, xPre_call q.2⟩, va_recv hK hP rfl (xg_0 hv4), fun U hU hW => ⟨rfl, xPre_at h0 hS hP hU hW⟩⟩ rfl rfl hl.1 rfl (lv_room (Nat.le_of_ble_eq_true rfl)) dX3_putFactor_34 ⟨Nat.zero_le _, Nat.zero_le _⟩) hS (fun q _ h => h) (fun q h => h) (fun r u t H1 locs ht hvm hw hB hz1 hq1 hS => ?_)
      obtain ⟨rfl, rfl⟩ := hw
      have hP := hB.1
      rw [ht] at hP
      refine W.widen (k := 0) (n := 0) (Nat.le_refl _) (Nat.le_refl _) ?_
      refine lv_iconst (v := 1) hx hb dX3_putFactor_37 (by decide) ?_
      refine lv_icmp_ne (tgt := 59) hx hb dX3_putFactor_38 (by decide) (fun hcq7 => ?_) (fun hcq7 => ?_)
      · have h := ifn hcq7 h
        refine lv_aload_n hx hb dX3_putFactor_59 rfl (lv_at hl 0 rfl) ?_
        refine va_get (D := D) (ci := 3) (v := .ref (G.1 113)) (C := RX3) (T := TX3) (N := 4) hx hb hts iwX3 hown hK hP 112 (xg_14 rfl) rfl 1 (by decide) (hts _ mw_257) (fun _ h9 => h9) rfl dX3_putFactor_60 ?_
        refine lv_iconst (v := 0) hx hb dX3_putFactor_63 (by decide) ?_
        obtain ⟨hiq8, h⟩ := nif h
        refine va_aldq hx hb hK hP 113 4 (xg_15 rfl) rfl hiq8 dX3_putFactor_64 ?_
        refine W.eq (g2 := F0 m 65 ls [.ref (G.1 (xb 113 + (0 : Int32).toNatClampNeg))]) rfl ?_
        refine lv_aload hx hb dX3_putFactor_65 (lv_at hl 3 rfl) ?_
        refine lv_iconst (v := 0) hx hb dX3_putFactor_67 (by decide) ?_
        obtain ⟨xq9, hfq10, h⟩ := obd h
        refine va_callv (va_runV (As := [.ref (G.1 v4), .int 0]) (rest := []) ⟨hx, hb, hml, hown, hts⟩ (kX5_gather l D G ub _ (xb 113 + (0 : Int32).toNatClampNeg) (xr15 rfl (vp_lt hiq8)) v4 hv4 0 xq9 hfq10) (cwV 2 hts (lwW_gV mw_547 mw_548 mw_549 mw_11 mw_550) rfl rfl rfl (by decide +kernel) ⟨Nat.le_of_ble_eq_true rfl, Nat.le_of_ble_eq_true rfl⟩) ⟨fun a U g mk q => ⟨q.1, xPre_call q.2⟩, va_recv hK hP rfl (xg_3 (xr15 rfl (vp_lt hiq8))), fun U hU hW => ⟨rfl, xPre_at h0 hS hP hU hW⟩⟩ rfl rfl hl.1 rfl (lv_room (Nat.le_of_ble_eq_true rfl)) dX3_putFactor_68 ⟨Nat.zero_le _, Nat.zero_le _⟩) hS (fun q _ h => h) (fun q h => h) (fun u t H1 locs ht hvm hw hB hz1 hq1 hS => ?_)
        obtain rfl := hw.symm
        have hP := hB.1
        rw [ht] at hP
        refine W.widen (k := 0) (n := 0) (Nat.le_refl _) (Nat.le_refl _) ?_
        refine lv_aload_n hx hb dX3_putFactor_71 rfl (lv_at hl 0 rfl) ?_
        refine va_get (D := D) (ci := 3) (v := .ref (G.1 113)) (C := RX3) (T := TX3) (N := 4) hx hb hts iwX3 hown hK hP 112 (xg_14 rfl) rfl 1 (by decide) (hts _ mw_257) (fun _ h9 => h9) rfl dX3_putFactor_72 ?_
        refine lv_iconst (v := 0) hx hb dX3_putFactor_75 (by decide) ?_
        obtain ⟨hiq11, h⟩ := nif h
        refine va_aldq hx hb hK hP 113 4 (xg_15 rfl) rfl hiq11 dX3_putFactor_76 ?_
        refine W.eq (g2 := F0 m 77 ls [.ref (G.1 (xb 113 + (0 : Int32).toNatClampNeg))]) rfl ?_
        refine va_getN (D := D) (ci := 5) (v := .ref (G.1 ((xb 113 + (0 : Int32).toNatClampNeg) - 27))) (C := RX5) (T := TX5) (N := 4) hx hb hts iwX5 hown hK hP (xb 113 + (0 : Int32).toNatClampNeg) (xg_3 (xr15 rfl (vp_lt hiq11))) rfl 0 (by decide) (va_Nw.use rfl (hN.F 14 rfl)) (fun _ h9 => h9) rfl dX3_putFactor_77 ?_
        refine lv_aload_n hx hb dX3_putFactor_80 rfl (lv_at hl 1 rfl) ?_
        refine lv_iconst (v := 0) hx hb dX3_putFactor_81 (by decide) ?_
        obtain ⟨xq12, hfq13, h⟩ := obd h
        refine va_callv (va_runV (As := [.ref (G.1 k1), .int 0]) (rest := []) ⟨hx, hb, hml, hown, hts⟩ (kX7_putRow l D G ub _ ((xb 113 + (0 : Int32).toNatClampNeg) - 27) (xf3_0 (xr15 rfl (vp_lt hiq11))) k1 hk1 0 xq12 hfq13) (cwV 2 hts (lwW_gV mw_626 mw_603 mw_604 mw_10 mw_605) rfl rfl rfl (by decide +kernel) ⟨Nat.le_of_ble_eq_true rfl, Nat.le_of_ble_eq_true rfl⟩) ⟨fun a U g mk q => ⟨q.1, xPre_call q.2⟩, va_recv hK hP rfl (xg_1 (xf3_0 (xr15 rfl (vp_lt hiq11)))), fun U hU hW => ⟨rfl, xPre_at h0 hS hP hU hW⟩⟩ rfl rfl hl.1 rfl (lv_room (Nat.le_of_ble_eq_true rfl)) dX3_putFactor_82 ⟨Nat.zero_le _, Nat.zero_le _⟩) hS (fun q _ h => h) (fun q h => h) (fun u t H1 locs ht hvm hw hB hz1 hq1 hS => ?_)
        obtain rfl := hw.symm
        have hP := hB.1
        rw [ht] at hP
        refine W.widen (k := 0) (n := 0) (Nat.le_refl _) (Nat.le_refl _) ?_
        refine lv_iload hx hb dX3_putFactor_85 (lv_at hl 4 rfl) ?_
        refine lv_iload_n hx hb dX3_putFactor_87 rfl (lv_at hl 2 rfl) ?_
        refine lv_icmp_ne (tgt := 93) hx hb dX3_putFactor_88 (by decide) (fun hcq14 => ?_) (fun hcq14 => ?_)
        · have h := ifn hcq14 h
          refine lv_aload_n hx hb dX3_putFactor_93 rfl (lv_at hl 0 rfl) ?_
          refine va_get (D := D) (ci := 3) (v := .ref (G.1 110)) (C := RX3) (T := TX3) (N := 4) hx hb hts iwX3 hown hK hP 112 (xg_14 rfl) rfl 0 (by decide) (hts _ mw_256) (fun _ h9 => h9) rfl dX3_putFactor_94 ?_
          refine lv_aload hx hb dX3_putFactor_97 (lv_at hl 3 rfl) ?_
          refine lv_aload_n hx hb dX3_putFactor_99 rfl (lv_at hl 1 rfl) ?_
          refine lv_iconst (v := 0) hx hb dX3_putFactor_100 (by decide) ?_
          obtain ⟨xq15, hfq16, h⟩ := obd h
          refine va_callv (va_runV (As := [.ref (G.1 v4), .ref (G.1 k1), .int 0]) (rest := []) ⟨hx, hb, hml, hown, hts⟩ (kX1_perform l D G ub _ v4 hv4 k1 hk1 0 xq15 hfq16) (cwV 3 hts (lwW_gV mw_627 mw_628 mw_629 mw_8 mw_630) rfl rfl rfl (by decide +kernel) ⟨Nat.le_of_ble_eq_true rfl, Nat.le_of_ble_eq_true rfl⟩) ⟨fun a U g mk q => ⟨q.1, xPre_call q.2⟩, va_recv hK hP rfl (xg_12 rfl), fun U hU hW => ⟨rfl, xPre_at h0 hS hP hU hW⟩⟩ rfl rfl hl.1 rfl (lv_room (Nat.le_of_ble_eq_true rfl)) dX3_putFactor_101 ⟨Nat.zero_le _, Nat.zero_le _⟩) hS (fun q _ h => h) (fun q h => h) (fun u t H1 locs ht hvm hw hB hz1 hq1 hS => ?_)
          obtain rfl := hw.symm
          have hP := hB.1
          rw [ht] at hP
          refine W.widen (k := 0) (n := 0) (Nat.le_refl _) (Nat.le_refl _) ?_
          refine lv_aload hx hb dX3_putFactor_104 (lv_at hl 3 rfl) ?_
          refine lv_aload_n hx hb dX3_putFactor_106 rfl (lv_at hl 0 rfl) ?_
          refine va_get (D := D) (ci := 3) (v := .ref (G.1 110)) (C := RX3) (T := TX3) (N := 4) hx hb hts iwX3 hown hK hP 112 (xg_14 rfl) rfl 0 (by decide) (hts _ mw_256) (fun _ h9 => h9) rfl dX3_putFactor_107 ?_
          refine va_getN (D := D) (ci := 1) (v := .ref (G.1 36)) (C := RX1) (T := TX1) (N := 8) hx hb hts iwX1 hown hK hP 110 (xg_12 rfl) rfl 0 (by decide) (va_Nw.use rfl (hN.F 8 rfl)) (fun _ h9 => h9) rfl dX3_putFactor_110 ?_
          obtain ⟨xq17, hfq18, h⟩ := obd h
          refine va_callv (va_runV (As := [.ref (G.1 36)]) (rest := []) ⟨hx, hb, hml, hown, hts⟩ (kX6_copyFrom l D G ub _ v4 hv4 36 rfl xq17 hfq18) (cwV 1 hts (lwW_gV mw_651 mw_481 mw_482 mw_3 mw_483) rfl rfl rfl (by decide +kernel) ⟨Nat.le_of_ble_eq_true rfl, Nat.le_of_ble_eq_true rfl⟩) ⟨fun a U g mk q => ⟨q.1, xPre_call q.2⟩, va_recv hK hP rfl (xg_0 hv4), fun U hU hW => ⟨rfl, xPre_at h0 hS hP hU hW⟩⟩ rfl rfl hl.1 rfl (lv_room (Nat.le_of_ble_eq_true rfl)) dX3_putFactor_113 ⟨Nat.zero_le _, Nat.zero_le _⟩) hS (fun q _ h => h) (fun q h => h) (fun u t H1 locs ht hvm hw hB hz1 hq1 hS => ?_)
          obtain rfl := hw.symm
          have hP := hB.1
          rw [ht] at hP
          refine W.widen (k := 0) (n := 0) (Nat.le_refl _) (Nat.le_refl _) ?_
          refine lv_iinc (v := v5 + 1) (lv' := [(5, .int (v5 + 1)), (0, .ref (G.1 112)), (1, .ref (G.1 k1)), (3, .int p3), (4, .ref (G.1 v4))]) hx hb dX3_putFactor_116 hl (k := 4) rfl rfl (by decide) rfl (fun ls hl => ?_)
          refine lv_goto (tgt := 17) hx hb dX3_putFactor_119 (by decide) ?_
          exact ih17 v4 hv4 (v5 + 1) _ _ _ _ h hP hS (lv_sub hl [1, 2, 3, 4, 0] rfl)
        have h := ifp hcq14 h
        refine lv_iconst (v := 1) hx hb dX3_putFactor_91 (by decide) ?_
        obtain rfl := Option.some.inj h
        exact W.zret hx hb hr rfl (fun t ht hW => ⟨⟨_, _, rfl, ⟨rfl, rfl⟩, xPre_at h0 hS hP ht hW⟩, hS.F ht⟩) hS.2.2 dX3_putFactor_92
      have h := ifp hcq7 h
      refine lv_aload_n hx hb dX3_putFactor_41 rfl (lv_at hl 1 rfl) ?_
      refine lv_aload hx hb dX3_putFactor_42 (lv_at hl 3 rfl) ?_
      obtain ⟨xq19, hfq20, h⟩ := obd h
      refine va_callv (va_runV (As := [.ref (G.1 v4)]) (rest := []) ⟨hx, hb, hml, hown, hts⟩ (kX6_copyFrom l D G ub _ k1 hk1 v4 hv4 xq19 hfq20) (cwV 1 hts (lwW_gV mw_651 mw_481 mw_482 mw_3 mw_483) rfl rfl rfl (by decide +kernel) ⟨Nat.le_of_ble_eq_true rfl, Nat.le_of_ble_eq_true rfl⟩) ⟨fun a U g mk q => ⟨q.1, xPre_call q.2⟩, va_recv hK hP rfl (xg_0 hk1), fun U hU hW => ⟨rfl, xPre_at h0 hS hP hU hW⟩⟩ rfl rfl hl.1 rfl (lv_room (Nat.le_of_ble_eq_true rfl)) dX3_putFactor_44 ⟨Nat.zero_le _, Nat.zero_le _⟩) hS (fun q _ h => h) (fun q h => h) (fun u t H1 locs ht hvm hw hB hz1 hq1 hS => ?_)
      obtain rfl := hw.symm
      have hP := hB.1
      rw [ht] at hP
      refine W.widen (k := 0) (n := 0) (Nat.le_refl _) (Nat.le_refl _) ?_
      refine lv_iload hx hb dX3_putFactor_47 (lv_at hl 4 rfl) ?_
      refine lv_iload_n hx hb dX3_putFactor_49 rfl (lv_at hl 2 rfl) ?_
      refine lv_icmp_ne (tgt := 57) hx hb dX3_putFactor_50 (by decide) (fun hcq21 => ?_) (fun hcq21 => ?_)
      · have h := ifn hcq21 h
        refine lv_iconst (v := 0) hx hb dX3_putFactor_57 (by decide) ?_
        obtain rfl := Option.some.inj h
        exact W.zret hx hb hr rfl (fun t ht hW => ⟨⟨_, _, rfl, ⟨rfl, rfl⟩, xPre_at h0 hS hP ht hW⟩, hS.F ht⟩) hS.2.2 dX3_putFactor_58
      have h := ifp hcq21 h
      refine lv_iconst (v := 1) hx hb dX3_putFactor_53 (by decide) ?_
      refine lv_goto (tgt := 58) hx hb dX3_putFactor_54 (by decide) ?_
      obtain rfl := Option.some.inj h
      exact W.zret hx hb hr rfl (fun t ht hW => ⟨⟨_, _, rfl, ⟨rfl, rfl⟩, xPre_at h0 hS hP ht hW⟩, hS.F ht⟩) hS.2.2 dX3_putFactor_58
  refine lv_aload_n hx hb dX3_putFactor_0 rfl (lv_at hl 0 rfl) ?_
  refine va_get (D := D) (ci := 3) (v := .ref (G.1 104)) (C := RX3) (T := TX3) (N := 4) hx hb hts iwX3 hown hK hP 112 (xg_14 rfl) rfl 2 (by decide) (hts _ mw_258) (fun _ h9 => h9) rfl dX3_putFactor_1 ?_
  refine lv_iconst (v := 0) hx hb dX3_putFactor_4 (by decide) ?_
  obtain ⟨hiq22, h⟩ := nif h
  refine va_aldq hx hb hK hP 104 1 (xg_6 rfl) rfl hiq22 dX3_putFactor_5 ?_
  refine W.eq (g2 := F0 m 6 ls [.ref (G.1 (xb 104 + (0 : Int32).toNatClampNeg))]) rfl ?_
  refine lv_astore (lv' := [(4, .ref (G.1 (xb 104 + (0 : Int32).toNatClampNeg))), (0, .ref (G.1 112)), (1, .ref (G.1 k1)), (2, .ref (G.1 k2)), (3, .int p3)]) hx hb dX3_putFactor_6 hl (by decide) rfl (fun ls hl => ?_)
  refine lv_aload hx hb dX3_putFactor_8 (lv_at hl 0 rfl) ?_
  refine lv_aload_n hx hb dX3_putFactor_10 rfl (lv_at hl 3 rfl) ?_
  obtain ⟨xq23, hfq24, h⟩ := obd h
  refine va_callv (va_runV (As := [.ref (G.1 k2)]) (rest := []) ⟨hx, hb, hml, hown, hts⟩ (kX6_copyFrom l D G ub _ (xb 104 + (0 : Int32).toNatClampNeg) (xr6 rfl (vp_lt hiq22)) k2 hk2 xq23 hfq24) (cwV 1 hts (lwW_gV mw_651 mw_481 mw_482 mw_3 mw_483) rfl rfl rfl (by decide +kernel) ⟨Nat.le_of_ble_eq_true rfl, Nat.le_of_ble_eq_true rfl⟩) ⟨fun a U g mk q => ⟨q.1, xPre_call q.2⟩, va_recv hK hP rfl (xg_0 (xr6 rfl (vp_lt hiq22))), fun U hU hW => ⟨rfl, xPre_at h0 hS hP hU hW⟩⟩ rfl rfl hl.1 rfl (lv_room (Nat.le_of_ble_eq_true rfl)) dX3_putFactor_11 ⟨Nat.zero_le _, Nat.zero_le _⟩) hS (fun q _ h => h) (fun q h => h) (fun u t H1 locs ht hvm hw hB hz1 hq1 hS => ?_)
  obtain rfl := hw.symm
  have hP := hB.1
  rw [ht] at hP
  refine W.widen (k := 0) (n := 0) (Nat.le_refl _) (Nat.le_refl _) ?_
  refine lv_iconst (v := 0) hx hb dX3_putFactor_14 (by decide) ?_
  refine lv_istore (lv' := [(5, .int 0), (4, .ref (G.1 (xb 104 + (0 : Int32).toNatClampNeg))), (0, .ref (G.1 112)), (1, .ref (G.1 k1)), (2, .ref (G.1 k2)), (3, .int p3)]) hx hb dX3_putFactor_15 hl (by decide) rfl (fun ls hl => ?_)
  exact L17 FU (xb 104 + (0 : Int32).toNatClampNeg) (xr6 rfl (vp_lt hiq22)) 0 _ _ _ _ h hP hS (lv_sub hl [2, 3, 5, 1, 0] rfl)
def fX3_chains_L57 (k1 : Nat) (p2 : Int32) (KRC : Nat → Int32 → QMem → Option (Int32 × QMem)) : Nat → Nat → Nat → Int32 → Int32 → QMem → Option (Int32 × QMem)
  | 0, _, _, _, _, _ => none
  | n + 1, v3, v4, v5, v6, τ =>
  (fX7_size v3 τ).bind fun xq1 => (if xq1.1 ≤ v6 then (some (v5, xq1.2)) else ((fX7_putRow v3 56 v6 xq1.2).bind fun xq4 => ((fX1_perform k1 56 0 xq4).bind fun xq6 => ((fX6_copyFrom v4 36 xq6).bind fun xq8 => ((KRC v4 (p2 + 1) xq8).bind fun xq10 => ((fX3_chains_L57 k1 p2 KRC n) v3 v4 (v5 + xq10.1) (v6 + 1) xq10.2))))))
def fX3_chains : Nat → Nat → Int32 → QMem → Option (Int32 × QMem)
  | 0, _, _, _ => none
  | d + 1, k1, p2, σ =>
  (fX6_norm k1 σ).bind fun xq12 => (if 1 < xq12.1 then (if p2 < 0 then (some (0, xq12.2)) else (if p2 < 8 then (if (p2 < 0 ∨ xl 113 ≤ p2.toNatClampNeg) then none else (if (p2 < 0 ∨ xl 104 ≤ p2.toNatClampNeg) then none else (if (p2 < 0 ∨ xl 113 ≤ p2.toNatClampNeg) then none else ((fX5_gather (xb 113 + p2.toNatClampNeg) k1 0 xq12.2).bind fun xq20 => (fX3_chains_L57 k1 p2 (fX3_chains d) FU ((xb 113 + p2.toNatClampNeg) - 27) (xb 104 + p2.toNatClampNeg) 0 0 xq20))))) else (some (0, xq12.2)))) else (some (1, xq12.2)))
set_option maxHeartbeats 4000000 in
set_option maxRecDepth 100000 in
theorem kX3_chains (l : Launch) (D : va_G) (G : xG) (ub : xB) : ∀ (d : Nat) (σ : QMem) (k1 : Nat) (hk1 : xk k1 = 0) (p2 : Int32) (res : Int32 × QMem) (h : fX3_chains d k1 p2 σ = some res), Met l yX3_chains (.code yX3_chains cX3_chains 7 (some .int) :: lwW) (rmD (6 + d)) (xPc D G ub σ [.ref (G.1 112), .ref (G.1 k1), .int p2]) (xQi D G ub res) 0 0 (xA G) := by
  intro d
  induction d with
  | zero => intro σ k1 hk1 p2 res h; rw [fX3_chains] at h; cases h
  | succ d ihc =>
    intro σ k1 hk1 p2 res h
    refine Met.ofW (cc := cX3_chains) (maxL := 7) (ret := (some .int)) (by decide) rfl ?_
    intro p e s m args below meth c s₁ B hml hv
    obtain ⟨rfl, h0⟩ := hv
    have hx := B.exec
    have hb := B.bytes
    have hr := B.returns
    have hts := fun (w : Cond) (hw : w ∈ lwW) => atoms_spec (ws := (.code yX3_chains cX3_chains 7 (some .int) :: lwW)) B.pre w (List.mem_cons_of_mem _ hw)
    have hown : s.vm.findClass RX3 = some m.cls := findClass_of_methodNamed B.named
    have hlocks := B.notSynchronized
    have hP := h0.1
    have hK := h0.2.1
    have hi := h0.2.2.1
    have hZ := h0.2.2.2
    have hN := h0.2.2.2.2.2.2.2.1
    have hV := h0.2.2.2.2.2.2.2.2.1
    have hS : va_S (xA G) s.heap s.heap [] := va_S.rf
    have hl := lv_entry ([.ref (G.1 112), .ref (G.1 k1), .int p2]) (n := 7) (Nat.le_of_ble_eq_true rfl)
    rw [lg_entry_eq]
    generalize (lg_sl ([.ref (G.1 112), .ref (G.1 k1), .int p2]) ++ List.replicate (7 - (lg_sl ([.ref (G.1 112), .ref (G.1 k1), .int p2])).length) Slot.unset).toArray = ls at hl ⊢
    have hl : lv_has ls 7 [(0, .ref (G.1 112)), (1, .ref (G.1 k1)), (2, .int p2)] := hl
    rw [fX3_chains] at h
    have L57 : ∀ (n57 : Nat) (v3 : Nat) (hv3 : xk v3 = 1) (v4 : Nat) (hv4 : xk v4 = 0) (v5 : Int32) (v6 : Int32) (τ : QMem) (H : Heap) (locs : List Loc) (ls : Array Slot), fX3_chains_L57 k1 p2 (fX3_chains d) n57 v3 v4 v5 v6 τ = some res → va_P D vwCl (xW G τ) H → va_S (xA G) s.heap H locs → lv_has ls 7 [(0, .ref (G.1 112)), (1, .ref (G.1 k1)), (2, .int p2), (3, .ref (G.1 v3)), (4, .ref (G.1 v4)), (5, .int v5), (6, .int v6)] → W p l e (headSpec (.code yX3_chains cX3_chains 7 (some .int) :: lwW) (rmD (6 + (d + 1)))).room s m ([.ref (G.1 112), .ref (G.1 k1), .int p2] : List Value).toArray below meth c H locs 0 0 (MQ below (xQi D G ub res) ([.ref (G.1 112), .ref (G.1 k1), .int p2] : List Value).toArray s 0 0 (xA G)) (F0 m 57 ls []) := by
      intro n57
      induction n57 with
      | zero => intro v3 hv3 v4 hv4 v5 v6 τ H locs ls h; rw [fX3_chains_L57] at h; cases h
      | succ n57 ih57 =>
        intro v3 hv3 v4 hv4 v5 v6 τ H locs ls h hP hS hl
        rw [fX3_chains_L57] at h
        refine lv_iload hx hb dX3_chains_57 (lv_at hl 6 rfl) ?_
        refine lv_aload_n hx hb dX3_chains_59 rfl (lv_at hl 3 rfl) ?_
        obtain ⟨xq1, hfq2, h⟩ := obd h
        refine va_calli (va_runV (As := []) (rest := [.int v6]) ⟨hx, hb, hml, hown, hts⟩ (kX7_size l D G ub _ v3 hv3 xq1 hfq2) (cwV 0 hts (lwW_gV mw_625 mw_599 mw_600 mw_10 mw_601) rfl rfl rfl (by decide +kernel) ⟨by show 0 + 1 ≤ 6 + (d + 1); omega, by show 8 + (1 + 11) + 48 * 0 ≤ 48 * (6 + (d + 1)); omega⟩) ⟨fun a U g mk q => ⟨q.1, xPre_call q.2⟩, va_recv hK hP rfl (xg_1 hv3), fun U hU hW => ⟨rfl, xPre_at h0 hS hP hU hW⟩⟩ rfl rfl hl.1 rfl (lv_room (Nat.le_of_ble_eq_true rfl)) dX3_chains_60 ⟨Nat.zero_le _, Nat.zero_le _⟩) hS (fun q _ h => h) (fun q h => h) (fun r u t H1 locs ht hvm hw hB hz1 hq1 hS => ?_)
        obtain ⟨rfl, rfl⟩ := hw
        have hP := hB.1
        rw [ht] at hP
        refine W.widen (k := 0) (n := 0) (Nat.le_refl _) (Nat.le_refl _) ?_
        refine lv_icmp_ge (tgt := 121) hx hb dX3_chains_63 (by decide) (fun hcq3 => ?_) (fun hcq3 => ?_)
        · have h := ifp hcq3 h
          refine lv_iload hx hb dX3_chains_121 (lv_at hl 5 rfl) ?_
          obtain rfl := Option.some.inj h
          exact W.iret (v := v5) hx hb hr (fun t ht hW => ⟨⟨_, _, rfl, ⟨rfl, rfl⟩, xPre_at h0 hS hP ht hW⟩, hS.F ht⟩) hS.2.2 dX3_chains_123
        have h := ifn hcq3 h
        refine lv_aload_n hx hb dX3_chains_66 rfl (lv_at hl 3 rfl) ?_
        refine lv_aload_n hx hb dX3_chains_67 rfl (lv_at hl 0 rfl) ?_
        refine va_get (D := D) (ci := 3) (v := .ref (G.1 56)) (C := RX3) (T := TX3) (N := 4) hx hb hts iwX3 hown hK hP 112 (xg_14 rfl) rfl 3 (by decide) (hts _ mw_259) (fun _ h9 => h9) rfl dX3_chains_68 ?_
        refine lv_iload hx hb dX3_chains_71 (lv_at hl 6 rfl) ?_
        obtain ⟨xq4, hfq5, h⟩ := obd h
        refine va_callv (va_runV (As := [.ref (G.1 56), .int v6]) (rest := []) ⟨hx, hb, hml, hown, hts⟩ (kX7_putRow l D G ub _ v3 hv3 56 rfl v6 xq4 hfq5) (cwV 2 hts (lwW_gV mw_626 mw_603 mw_604 mw_10 mw_605) rfl rfl rfl (by decide +kernel) ⟨by show 2 + 1 ≤ 6 + (d + 1); omega, by show 8 + (3 + 11) + 48 * 2 ≤ 48 * (6 + (d + 1)); omega⟩) ⟨fun a U g mk q => ⟨q.1, xPre_call q.2⟩, va_recv hK hP rfl (xg_1 hv3), fun U hU hW => ⟨rfl, xPre_at h0 hS hP hU hW⟩⟩ rfl rfl hl.1 rfl (lv_room (Nat.le_of_ble_eq_true rfl)) dX3_chains_73 ⟨Nat.zero_le _, Nat.zero_le _⟩) hS (fun q _ h => h) (fun q h => h) (fun u t H1 locs ht hvm hw hB hz1 hq1 hS => ?_)
        obtain rfl := hw.symm
        have hP := hB.1
        rw [ht] at hP
        refine W.widen (k := 0) (n := 0) (Nat.le_refl _) (Nat.le_refl _) ?_
        refine lv_aload_n hx hb dX3_chains_76 rfl (lv_at hl 0 rfl) ?_
        refine va_get (D := D) (ci := 3) (v := .ref (G.1 110)) (C := RX3) (T := TX3) (N := 4) hx hb hts iwX3 hown hK hP 112 (xg_14 rfl) rfl 0 (by decide) (hts _ mw_256) (fun _ h9 => h9) rfl dX3_chains_77 ?_
        refine lv_aload_n hx hb dX3_chains_80 rfl (lv_at hl 1 rfl) ?_
        refine lv_aload_n hx hb dX3_chains_81 rfl (lv_at hl 0 rfl) ?_
        refine va_get (D := D) (ci := 3) (v := .ref (G.1 56)) (C := RX3) (T := TX3) (N := 4) hx hb hts iwX3 hown hK hP 112 (xg_14 rfl) rfl 3 (by decide) (hts _ mw_259) (fun _ h9 => h9) rfl dX3_chains_82 ?_
        refine lv_iconst (v := 0) hx hb dX3_chains_85 (by decide) ?_
        obtain ⟨xq6, hfq7, h⟩ := obd h
        refine va_callv (va_runV (As := [.ref (G.1 k1), .ref (G.1 56), .int 0]) (rest := []) ⟨hx, hb, hml, hown, hts⟩ (kX1_perform l D G ub _ k1 hk1 56 rfl 0 xq6 hfq7) (cwV 3 hts (lwW_gV mw_627 mw_628 mw_629 mw_8 mw_630) rfl rfl rfl (by decide +kernel) ⟨by show 2 + 1 ≤ 6 + (d + 1); omega, by show 8 + (6 + 11) + 48 * 2 ≤ 48 * (6 + (d + 1)); omega⟩) ⟨fun a U g mk q => ⟨q.1, xPre_call q.2⟩, va_recv hK hP rfl (xg_12 rfl), fun U hU hW => ⟨rfl, xPre_at h0 hS hP hU hW⟩⟩ rfl rfl hl.1 rfl (lv_room (Nat.le_of_ble_eq_true rfl)) dX3_chains_86 ⟨Nat.zero_le _, Nat.zero_le _⟩) hS (fun q _ h => h) (fun q h => h) (fun u t H1 locs ht hvm hw hB hz1 hq1 hS => ?_)
        obtain rfl := hw.symm
        have hP := hB.1
        rw [ht] at hP
        refine W.widen (k := 0) (n := 0) (Nat.le_refl _) (Nat.le_refl _) ?_
        refine lv_aload hx hb dX3_chains_89 (lv_at hl 4 rfl) ?_
        refine lv_aload_n hx hb dX3_chains_91 rfl (lv_at hl 0 rfl) ?_
        refine va_get (D := D) (ci := 3) (v := .ref (G.1 110)) (C := RX3) (T := TX3) (N := 4) hx hb hts iwX3 hown hK hP 112 (xg_14 rfl) rfl 0 (by decide) (hts _ mw_256) (fun _ h9 => h9) rfl dX3_chains_92 ?_
        refine va_getN (D := D) (ci := 1) (v := .ref (G.1 36)) (C := RX1) (T := TX1) (N := 8) hx hb hts iwX1 hown hK hP 110 (xg_12 rfl) rfl 0 (by decide) (va_Nw.use rfl (hN.F 8 rfl)) (fun _ h9 => h9) rfl dX3_chains_95 ?_
        obtain ⟨xq8, hfq9, h⟩ := obd h
        refine va_callv (va_runV (As := [.ref (G.1 36)]) (rest := []) ⟨hx, hb, hml, hown, hts⟩ (kX6_copyFrom l D G ub _ v4 hv4 36 rfl xq8 hfq9) (cwV 1 hts (lwW_gV mw_651 mw_481 mw_482 mw_3 mw_483) rfl rfl rfl (by decide +kernel) ⟨by show 1 + 1 ≤ 6 + (d + 1); omega, by show 8 + (2 + 11) + 48 * 1 ≤ 48 * (6 + (d + 1)); omega⟩) ⟨fun a U g mk q => ⟨q.1, xPre_call q.2⟩, va_recv hK hP rfl (xg_0 hv4), fun U hU hW => ⟨rfl, xPre_at h0 hS hP hU hW⟩⟩ rfl rfl hl.1 rfl (lv_room (Nat.le_of_ble_eq_true rfl)) dX3_chains_98 ⟨Nat.zero_le _, Nat.zero_le _⟩) hS (fun q _ h => h) (fun q h => h) (fun u t H1 locs ht hvm hw hB hz1 hq1 hS => ?_)
        obtain rfl := hw.symm
        have hP := hB.1
        rw [ht] at hP
        refine W.widen (k := 0) (n := 0) (Nat.le_refl _) (Nat.le_refl _) ?_
        refine lv_iload hx hb dX3_chains_101 (lv_at hl 5 rfl) ?_
        refine lv_aload_n hx hb dX3_chains_103 rfl (lv_at hl 0 rfl) ?_
        refine lv_aload hx hb dX3_chains_104 (lv_at hl 4 rfl) ?_
        refine lv_iload_n hx hb dX3_chains_106 rfl (lv_at hl 2 rfl) ?_
        refine lv_iconst (v := 1) hx hb dX3_chains_107 (by decide) ?_
        refine lv_iadd hx hb dX3_chains_108 ?_
        obtain ⟨xq10, hfq11, h⟩ := obd h
        refine va_calli (va_runS (As := [.ref (G.1 112), .ref (G.1 v4), .int (p2 + 1)]) (rest := [.int v5]) ⟨hx, hb, hml, hown, hts⟩ (ihc _ v4 hv4 (p2 + 1) xq10 hfq11) (va_cwS 3 hts (lwW_gS mw_652 mw_544 mw_12 mw_545) rfl rfl rfl (by decide +kernel) ⟨by show (6 + d) + 1 ≤ 6 + (d + 1); omega, by show 8 + (7 + 11) + 48 * (6 + d) ≤ 48 * (6 + (d + 1)); omega⟩) ⟨fun a U g mk q => ⟨q.1, xPre_call q.2⟩, fun U hU hW => ⟨rfl, xPre_at h0 hS hP hU hW⟩⟩ rfl rfl hl.1 rfl (lv_room (Nat.le_of_ble_eq_true rfl)) dX3_chains_109 ⟨Nat.zero_le _, Nat.zero_le _⟩) hS (fun q _ h => h) (fun q h => h) (fun r u t H1 locs ht hvm hw hB hz1 hq1 hS => ?_)
        obtain ⟨rfl, rfl⟩ := hw
        have hP := hB.1
        rw [ht] at hP
        refine W.widen (k := 0) (n := 0) (Nat.le_refl _) (Nat.le_refl _) ?_
        refine lv_iadd hx hb dX3_chains_112 ?_
        refine lv_istore (lv' := [(5, .int (v5 + xq10.1)), (0, .ref (G.1 112)), (1, .ref (G.1 k1)), (2, .int p2), (3, .ref (G.1 v3)), (4, .ref (G.1 v4)), (6, .int v6)]) hx hb dX3_chains_113 hl (by decide) rfl (fun ls hl => ?_)
        refine lv_iinc (v := v6 + 1) (lv' := [(6, .int (v6 + 1)), (5, .int (v5 + xq10.1)), (0, .ref (G.1 112)), (1, .ref (G.1 k1)), (2, .int p2), (3, .ref (G.1 v3)), (4, .ref (G.1 v4))]) hx hb dX3_chains_115 hl (k := 6) rfl rfl (by decide) rfl (fun ls hl => ?_)
        refine lv_goto (tgt := 57) hx hb dX3_chains_118 (by decide) ?_
        exact ih57 v3 hv3 v4 hv4 (v5 + xq10.1) (v6 + 1) _ _ _ _ h hP hS (lv_sub hl [2, 3, 4, 5, 6, 1, 0] rfl)
    refine lv_aload_n hx hb dX3_chains_0 rfl (lv_at hl 1 rfl) ?_
    obtain ⟨xq12, hfq13, h⟩ := obd h
    refine va_calli (va_runV (As := []) (rest := []) ⟨hx, hb, hml, hown, hts⟩ (kX6_norm l D G ub _ k1 hk1 xq12 hfq13) (cwV 0 hts (lwW_gV mw_546 mw_516 mw_517 mw_3 mw_518) rfl rfl rfl (by decide +kernel) ⟨by show 0 + 1 ≤ 6 + (d + 1); omega, by show 8 + (1 + 11) + 48 * 0 ≤ 48 * (6 + (d + 1)); omega⟩) ⟨fun a U g mk q => ⟨q.1, xPre_call q.2⟩, va_recv hK hP rfl (xg_0 hk1), fun U hU hW => ⟨rfl, xPre_at h0 hS hP hU hW⟩⟩ rfl rfl hl.1 rfl (lv_room (Nat.le_of_ble_eq_true rfl)) dX3_chains_1 ⟨Nat.zero_le _, Nat.zero_le _⟩) hS (fun q _ h => h) (fun q h => h) (fun r u t H1 locs ht hvm hw hB hz1 hq1 hS => ?_)
    obtain ⟨rfl, rfl⟩ := hw
    have hP := hB.1
    rw [ht] at hP
    refine W.widen (k := 0) (n := 0) (Nat.le_refl _) (Nat.le_refl _) ?_
    refine lv_iconst (v := 1) hx hb dX3_chains_4 (by decide) ?_
    refine lv_icmp_gt (tgt := 10) hx hb dX3_chains_5 (by decide) (fun hcq14 => ?_) (fun hcq14 => ?_)
    · have h := ifp hcq14 h
      refine lv_iload_n hx hb dX3_chains_10 rfl (lv_at hl 2 rfl) ?_
      refine lv_if_lt (tgt := 20) hx hb dX3_chains_11 (by decide) (fun hcq15 => ?_) (fun hcq15 => ?_)
      · have h := ifp hcq15 h
        refine lv_iconst (v := 0) hx hb dX3_chains_20 (by decide) ?_
        obtain rfl := Option.some.inj h
        exact W.iret (v := 0) hx hb hr (fun t ht hW => ⟨⟨_, _, rfl, ⟨rfl, rfl⟩, xPre_at h0 hS hP ht hW⟩, hS.F ht⟩) hS.2.2 dX3_chains_21
      have h := ifn hcq15 h
      refine lv_iload_n hx hb dX3_chains_14 rfl (lv_at hl 2 rfl) ?_
      refine lv_bipush (v := 8) hx hb dX3_chains_15 (by decide) ?_
      refine lv_icmp_lt (tgt := 22) hx hb dX3_chains_17 (by decide) (fun hcq16 => ?_) (fun hcq16 => ?_)
      · have h := ifp hcq16 h
        refine lv_aload_n hx hb dX3_chains_22 rfl (lv_at hl 0 rfl) ?_
        refine va_get (D := D) (ci := 3) (v := .ref (G.1 113)) (C := RX3) (T := TX3) (N := 4) hx hb hts iwX3 hown hK hP 112 (xg_14 rfl) rfl 1 (by decide) (hts _ mw_257) (fun _ h9 => h9) rfl dX3_chains_23 ?_
        refine lv_iload_n hx hb dX3_chains_26 rfl (lv_at hl 2 rfl) ?_
        obtain ⟨hiq17, h⟩ := nif h
        refine va_aldq hx hb hK hP 113 4 (xg_15 rfl) rfl hiq17 dX3_chains_27 ?_
        refine W.eq (g2 := F0 m 28 ls [.ref (G.1 (xb 113 + p2.toNatClampNeg))]) rfl ?_
        refine va_getN (D := D) (ci := 5) (v := .ref (G.1 ((xb 113 + p2.toNatClampNeg) - 27))) (C := RX5) (T := TX5) (N := 4) hx hb hts iwX5 hown hK hP (xb 113 + p2.toNatClampNeg) (xg_3 (xr15 rfl (vp_lt hiq17))) rfl 0 (by decide) (va_Nw.use rfl (hN.F 14 rfl)) (fun _ h9 => h9) rfl dX3_chains_28 ?_
        refine lv_astore_n (lv' := [(3, .ref (G.1 ((xb 113 + p2.toNatClampNeg) - 27))), (0, .ref (G.1 112)), (1, .ref (G.1 k1)), (2, .int p2)]) hx hb dX3_chains_31 rfl hl (by decide) rfl (fun ls hl => ?_)
        refine lv_aload_n hx hb dX3_chains_32 rfl (lv_at hl 1 rfl) ?_
        refine va_get (D := D) (ci := 3) (v := .ref (G.1 104)) (C := RX3) (T := TX3) (N := 4) hx hb hts iwX3 hown hK hP 112 (xg_14 rfl) rfl 2 (by decide) (hts _ mw_258) (fun _ h9 => h9) rfl dX3_chains_33 ?_
        refine lv_iload_n hx hb dX3_chains_36 rfl (lv_at hl 3 rfl) ?_
        obtain ⟨hiq18, h⟩ := nif h
        refine va_aldq hx hb hK hP 104 1 (xg_6 rfl) rfl hiq18 dX3_chains_37 ?_
        refine W.eq (g2 := F0 m 38 ls [.ref (G.1 (xb 104 + p2.toNatClampNeg))]) rfl ?_
        refine lv_astore (lv' := [(4, .ref (G.1 (xb 104 + p2.toNatClampNeg))), (3, .ref (G.1 ((xb 113 + p2.toNatClampNeg) - 27))), (0, .ref (G.1 112)), (1, .ref (G.1 k1)), (2, .int p2)]) hx hb dX3_chains_38 hl (by decide) rfl (fun ls hl => ?_)
        refine lv_aload_n hx hb dX3_chains_40 rfl (lv_at hl 2 rfl) ?_
        refine va_get (D := D) (ci := 3) (v := .ref (G.1 113)) (C := RX3) (T := TX3) (N := 4) hx hb hts iwX3 hown hK hP 112 (xg_14 rfl) rfl 1 (by decide) (hts _ mw_257) (fun _ h9 => h9) rfl dX3_chains_41 ?_
        refine lv_iload_n hx hb dX3_chains_44 rfl (lv_at hl 4 rfl) ?_
        obtain ⟨hiq19, h⟩ := nif h
        refine va_aldq hx hb hK hP 113 4 (xg_15 rfl) rfl hiq19 dX3_chains_45 ?_
        refine W.eq (g2 := F0 m 46 ls [.ref (G.1 (xb 113 + p2.toNatClampNeg))]) rfl ?_
        refine lv_aload_n hx hb dX3_chains_46 rfl (lv_at hl 3 rfl) ?_
        refine lv_iconst (v := 0) hx hb dX3_chains_47 (by decide) ?_
        obtain ⟨xq20, hfq21, h⟩ := obd h
        refine va_callv (va_runV (As := [.ref (G.1 k1), .int 0]) (rest := []) ⟨hx, hb, hml, hown, hts⟩ (kX5_gather l D G ub _ (xb 113 + p2.toNatClampNeg) (xr15 rfl (vp_lt hiq19)) k1 hk1 0 xq20 hfq21) (cwV 2 hts (lwW_gV mw_547 mw_548 mw_549 mw_11 mw_550) rfl rfl rfl (by decide +kernel) ⟨by show 5 + 1 ≤ 6 + (d + 1); omega, by show 8 + (6 + 11) + 48 * 5 ≤ 48 * (6 + (d + 1)); omega⟩) ⟨fun a U g mk q => ⟨q.1, xPre_call q.2⟩, va_recv hK hP rfl (xg_3 (xr15 rfl (vp_lt hiq19))), fun U hU hW => ⟨rfl, xPre_at h0 hS hP hU hW⟩⟩ rfl rfl hl.1 rfl (lv_room (Nat.le_of_ble_eq_true rfl)) dX3_chains_48 ⟨Nat.zero_le _, Nat.zero_le _⟩) hS (fun q _ h => h) (fun q h => h) (fun u t H1 locs ht hvm hw hB hz1 hq1 hS => ?_)
        obtain rfl := hw.symm
        have hP := hB.1
        rw [ht] at hP
        refine W.widen (k := 0) (n := 0) (Nat.le_refl _) (Nat.le_refl _) ?_
        refine lv_iconst (v := 0) hx hb dX3_chains_51 (by decide) ?_
        refine lv_istore (lv' := [(5, .int 0), (4, .ref (G.1 (xb 104 + p2.toNatClampNeg))), (3, .ref (G.1 ((xb 113 + p2.toNatClampNeg) - 27))), (0, .ref (G.1 112)), (1, .ref (G.1 k1)), (2, .int p2)]) hx hb dX3_chains_52 hl (by decide) rfl (fun ls hl => ?_)
        refine lv_iconst (v := 0) hx hb dX3_chains_54 (by decide) ?_
        refine lv_istore (lv' := [(6, .int 0), (5, .int 0), (4, .ref (G.1 (xb 104 + p2.toNatClampNeg))), (3, .ref (G.1 ((xb 113 + p2.toNatClampNeg) - 27))), (0, .ref (G.1 112)), (1, .ref (G.1 k1)), (2, .int p2)]) hx hb dX3_chains_55 hl (by decide) rfl (fun ls hl => ?_)
        exact L57 FU ((xb 113 + p2.toNatClampNeg) - 27) (xf3_0 (xr15 rfl (vp_lt hiq17))) (xb 104 + p2.toNatClampNeg) (xr6 rfl (vp_lt hiq18)) 0 0 _ _ _ _ h hP hS (lv_sub hl [4, 5, 6, 3, 2, 1, 0] rfl)
      have h := ifn hcq16 h
      refine lv_iconst (v := 0) hx hb dX3_chains_20 (by decide) ?_
      obtain rfl := Option.some.inj h
      exact W.iret (v := 0) hx hb hr (fun t ht hW => ⟨⟨_, _, rfl, ⟨rfl, rfl⟩, xPre_at h0 hS hP ht hW⟩, hS.F ht⟩) hS.2.2 dX3_chains_21
    have h := ifn hcq14 h
    refine lv_iconst (v := 1) hx hb dX3_chains_8 (by decide) ?_
    obtain rfl := Option.some.inj h
    exact W.iret (v := 1) hx hb hr (fun t ht hW => ⟨⟨_, _, rfl, ⟨rfl, rfl⟩, xPre_at h0 hS hP ht hW⟩, hS.F ht⟩) hS.2.2 dX3_chains_9
def fX8_isFull  (σ : QMem) : Option (Int32 × QMem) :=
  if (σ 109 2) < 200 then (some (0, σ)) else (some (1, σ))
set_option maxHeartbeats 4000000 in
set_option maxRecDepth 100000 in
theorem kX8_isFull (l : Launch) (D : va_G) (G : xG) (ub : xB) (σ : QMem) (res : Int32 × QMem) (h : fX8_isFull σ = some res) : Met l yX8_isFull (.code yX8_isFull cX8_isFull 1 (some .boolean) :: lwW) (rmD 0) (xPc D G ub σ [.ref (G.1 109)]) (xQi D G ub res) 0 0 (xA G) := by
  refine Met.ofW (cc := cX8_isFull) (maxL := 1) (ret := (some .boolean)) (by decide) rfl ?_
  intro p e s m args below meth c s₁ B hml hv
  obtain ⟨rfl, h0⟩ := hv
  have hx := B.exec
  have hb := B.bytes
  have hr := B.returns
  have hts := fun (w : Cond) (hw : w ∈ lwW) => atoms_spec (ws := (.code yX8_isFull cX8_isFull 1 (some .boolean) :: lwW)) B.pre w (List.mem_cons_of_mem _ hw)
  have hown : s.vm.findClass RX8 = some m.cls := findClass_of_methodNamed B.named
  have hlocks := B.notSynchronized
  have hP := h0.1
  have hK := h0.2.1
  have hi := h0.2.2.1
  have hZ := h0.2.2.2
  have hN := h0.2.2.2.2.2.2.2.1
  have hV := h0.2.2.2.2.2.2.2.2.1
  have hS : va_S (xA G) s.heap s.heap [] := va_S.rf
  have hl := lv_entry ([.ref (G.1 109)]) (n := 1) (Nat.le_of_ble_eq_true rfl)
  rw [lg_entry_eq]
  generalize (lg_sl ([.ref (G.1 109)]) ++ List.replicate (1 - (lg_sl ([.ref (G.1 109)])).length) Slot.unset).toArray = ls at hl ⊢
  have hl : lv_has ls 1 [(0, .ref (G.1 109))] := hl
  unfold fX8_isFull at h
  refine lv_aload_n hx hb dX8_isFull_0 rfl (lv_at hl 0 rfl) ?_
  refine va_get (D := D) (ci := 8) (v := .int (σ 109 2)) (C := RX8) (T := TX8) (N := 7) hx hb hts iwX8 hown hK hP 109 (xg_11 rfl) rfl 2 (by decide) (hts _ mw_122) (fun _ h9 => h9) rfl dX8_isFull_1 ?_
  refine lv_sipush (v := 200) hx hb dX8_isFull_4 (by decide) ?_
  refine lv_icmp_lt (tgt := 14) hx hb dX8_isFull_7 (by decide) (fun hcq1 => ?_) (fun hcq1 => ?_)
  · have h := ifp hcq1 h
    refine lv_iconst (v := 0) hx hb dX8_isFull_14 (by decide) ?_
    obtain rfl := Option.some.inj h
    exact W.zret hx hb hr rfl (fun t ht hW => ⟨⟨_, _, rfl, ⟨rfl, rfl⟩, xPre_at h0 hS hP ht hW⟩, hS.F ht⟩) hS.2.2 dX8_isFull_15
  have h := ifn hcq1 h
  refine lv_iconst (v := 1) hx hb dX8_isFull_10 (by decide) ?_
  refine lv_goto (tgt := 15) hx hb dX8_isFull_11 (by decide) ?_
  obtain rfl := Option.some.inj h
  exact W.zret hx hb hr rfl (fun t ht hW => ⟨⟨_, _, rfl, ⟨rfl, rfl⟩, xPre_at h0 hS hP ht hW⟩, hS.F ht⟩) hS.2.2 dX8_isFull_15
def fX8_size  (σ : QMem) : Option (Int32 × QMem) :=
  some (σ 109 2, σ)
set_option maxHeartbeats 4000000 in
set_option maxRecDepth 100000 in
theorem kX8_size (l : Launch) (D : va_G) (G : xG) (ub : xB) (σ : QMem) (res : Int32 × QMem) (h : fX8_size σ = some res) : Met l yX8_size (.code yX8_size cX8_size 1 (some .int) :: lwW) (rmD 0) (xPc D G ub σ [.ref (G.1 109)]) (xQi D G ub res) 0 0 (xA G) := by
  refine Met.ofW (cc := cX8_size) (maxL := 1) (ret := (some .int)) (by decide) rfl ?_
  intro p e s m args below meth c s₁ B hml hv
  obtain ⟨rfl, h0⟩ := hv
  have hx := B.exec
  have hb := B.bytes
  have hr := B.returns
  have hts := fun (w : Cond) (hw : w ∈ lwW) => atoms_spec (ws := (.code yX8_size cX8_size 1 (some .int) :: lwW)) B.pre w (List.mem_cons_of_mem _ hw)
  have hown : s.vm.findClass RX8 = some m.cls := findClass_of_methodNamed B.named
  have hlocks := B.notSynchronized
  have hP := h0.1
  have hK := h0.2.1
  have hi := h0.2.2.1
  have hZ := h0.2.2.2
  have hN := h0.2.2.2.2.2.2.2.1
  have hV := h0.2.2.2.2.2.2.2.2.1
  have hS : va_S (xA G) s.heap s.heap [] := va_S.rf
  have hl := lv_entry ([.ref (G.1 109)]) (n := 1) (Nat.le_of_ble_eq_true rfl)
  rw [lg_entry_eq]
  generalize (lg_sl ([.ref (G.1 109)]) ++ List.replicate (1 - (lg_sl ([.ref (G.1 109)])).length) Slot.unset).toArray = ls at hl ⊢
  have hl : lv_has ls 1 [(0, .ref (G.1 109))] := hl
  unfold fX8_size at h
  refine lv_aload_n hx hb dX8_size_0 rfl (lv_at hl 0 rfl) ?_
  refine va_get (D := D) (ci := 8) (v := .int (σ 109 2)) (C := RX8) (T := TX8) (N := 7) hx hb hts iwX8 hown hK hP 109 (xg_11 rfl) rfl 2 (by decide) (hts _ mw_122) (fun _ h9 => h9) rfl dX8_size_1 ?_
  obtain rfl := Option.some.inj h
  exact W.iret (v := σ 109 2) hx hb hr (fun t ht hW => ⟨⟨_, _, rfl, ⟨rfl, rfl⟩, xPre_at h0 hS hP ht hW⟩, hS.F ht⟩) hS.2.2 dX8_size_4
def fX8_append (p1 : Int32) (σ : QMem) : Option (QMem) :=
  if (σ 109 2) < 0 then (some σ) else (if 200 ≤ (σ 109 2) then (some σ) else (if (σ 109 2 < 0 ∨ xl 83 ≤ (σ 109 2).toNatClampNeg) then none else (some (ms (ms σ 83 (σ 109 2).toNatClampNeg p1) 109 2 (((ms σ 83 (σ 109 2).toNatClampNeg p1) 109 2) + 1)))))
set_option maxHeartbeats 4000000 in
set_option maxRecDepth 100000 in
theorem kX8_append (l : Launch) (D : va_G) (G : xG) (ub : xB) (σ : QMem) (p1 : Int32) (res : QMem) (h : fX8_append p1 σ = some res) : Met l yX8_append (.code yX8_append cX8_append 2 none :: lwW) (rmD 0) (xPc D G ub σ [.ref (G.1 109), .int p1]) (xQv D G ub res) 0 0 (xA G) := by
  refine Met.ofW (cc := cX8_append) (maxL := 2) (ret := none) (by decide) rfl ?_
  intro p e s m args below meth c s₁ B hml hv
  obtain ⟨rfl, h0⟩ := hv
  have hx := B.exec
  have hb := B.bytes
  have hr := B.returns
  have hts := fun (w : Cond) (hw : w ∈ lwW) => atoms_spec (ws := (.code yX8_append cX8_append 2 none :: lwW)) B.pre w (List.mem_cons_of_mem _ hw)
  have hown : s.vm.findClass RX8 = some m.cls := findClass_of_methodNamed B.named
  have hlocks := B.notSynchronized
  have hP := h0.1
  have hK := h0.2.1
  have hi := h0.2.2.1
  have hZ := h0.2.2.2
  have hN := h0.2.2.2.2.2.2.2.1
  have hV := h0.2.2.2.2.2.2.2.2.1
  have hS : va_S (xA G) s.heap s.heap [] := va_S.rf
  have hl := lv_entry ([.ref (G.1 109), .int p1]) (n := 2) (Nat.le_of_ble_eq_true rfl)
  rw [lg_entry_eq]
  generalize (lg_sl ([.ref (G.1 109), .int p1]) ++ List.replicate (2 - (lg_sl ([.ref (G.1 109), .int p1])).length) Slot.unset).toArray = ls at hl ⊢
  have hl : lv_has ls 2 [(0, .ref (G.1 109)), (1, .int p1)] := hl
  unfold fX8_append at h
  refine lv_aload_n hx hb dX8_append_0 rfl (lv_at hl 0 rfl) ?_
  refine va_get (D := D) (ci := 8) (v := .int (σ 109 2)) (C := RX8) (T := TX8) (N := 7) hx hb hts iwX8 hown hK hP 109 (xg_11 rfl) rfl 2 (by decide) (hts _ mw_122) (fun _ h9 => h9) rfl dX8_append_1 ?_
  refine lv_if_lt (tgt := 37) hx hb dX8_append_4 (by decide) (fun hcq1 => ?_) (fun hcq1 => ?_)
  · have h := ifp hcq1 h
    obtain rfl := Option.some.inj h
    exact W.vret hx hb hr (fun t ht hW => ⟨⟨_, rfl, rfl, xPre_at h0 hS hP ht hW⟩, hS.F ht⟩) hS.2.2 dX8_append_37
  have h := ifn hcq1 h
  refine lv_aload_n hx hb dX8_append_7 rfl (lv_at hl 0 rfl) ?_
  refine va_get (D := D) (ci := 8) (v := .int (σ 109 2)) (C := RX8) (T := TX8) (N := 7) hx hb hts iwX8 hown hK hP 109 (xg_11 rfl) rfl 2 (by decide) (hts _ mw_122) (fun _ h9 => h9) rfl dX8_append_8 ?_
  refine lv_sipush (v := 200) hx hb dX8_append_11 (by decide) ?_
  refine lv_icmp_ge (tgt := 37) hx hb dX8_append_14 (by decide) (fun hcq2 => ?_) (fun hcq2 => ?_)
  · have h := ifp hcq2 h
    obtain rfl := Option.some.inj h
    exact W.vret hx hb hr (fun t ht hW => ⟨⟨_, rfl, rfl, xPre_at h0 hS hP ht hW⟩, hS.F ht⟩) hS.2.2 dX8_append_37
  have h := ifn hcq2 h
  refine lv_aload_n hx hb dX8_append_17 rfl (lv_at hl 0 rfl) ?_
  refine va_get (D := D) (ci := 8) (v := .ref (G.1 83)) (C := RX8) (T := TX8) (N := 7) hx hb hts iwX8 hown hK hP 109 (xg_11 rfl) rfl 0 (by decide) (hts _ mw_120) (fun _ h9 => h9) rfl dX8_append_18 ?_
  refine lv_aload_n hx hb dX8_append_21 rfl (lv_at hl 0 rfl) ?_
  refine va_get (D := D) (ci := 8) (v := .int (σ 109 2)) (C := RX8) (T := TX8) (N := 7) hx hb hts iwX8 hown hK hP 109 (xg_11 rfl) rfl 2 (by decide) (hts _ mw_122) (fun _ h9 => h9) rfl dX8_append_22 ?_
  refine lv_iload_n hx hb dX8_append_25 rfl (lv_at hl 1 rfl) ?_
  obtain ⟨hiq3, h⟩ := nif h
  refine va_iast hx hb hK hP (xD hi) hS 83 0 (xg_2 rfl) rfl hiq3 dX8_append_26 (fun H locs hP hD hS => ?_)
  have hP : va_P D vwCl (xW G (ms σ 83 (σ 109 2).toNatClampNeg p1)) H := by rw [← xs_2 rfl]; exact hP
  refine lv_aload_n hx hb dX8_append_27 rfl (lv_at hl 0 rfl) ?_
  refine lv_dup hx hb dX8_append_28 rfl ?_
  refine va_get (D := D) (ci := 8) (v := .int ((ms σ 83 (σ 109 2).toNatClampNeg p1) 109 2)) (C := RX8) (T := TX8) (N := 7) hx hb hts iwX8 hown hK hP 109 (xg_11 rfl) rfl 2 (by decide) (hts _ mw_122) (fun _ h9 => h9) rfl dX8_append_29 ?_
  refine lv_iconst (v := 1) hx hb dX8_append_32 (by decide) ?_
  refine lv_iadd hx hb dX8_append_33 ?_
  refine va_put (D := D) (ci := 8) (v := .int (((ms σ 83 (σ 109 2).toNatClampNeg p1) 109 2) + 1)) (ty := .int) (C := RX8) (T := TX8) (N := 7) hx hb hts iwX8 tyX8 tyX8_ok nmX8 hown hK hP (xD hi) hS 109 (xg_11 rfl) rfl 2 (by decide) (hts _ mw_122) (fun _ h9 => h9) rfl (by decide +kernel) rfl rfl (Nat.le_of_ble_eq_true rfl) dX8_append_34 (fun H locs hP hD hS => ?_)
  have hP : va_P D vwCl (xW G (ms (ms σ 83 (σ 109 2).toNatClampNeg p1) 109 2 (((ms σ 83 (σ 109 2).toNatClampNeg p1) 109 2) + 1))) H := by rw [← xs_11_2 rfl]; exact hP
  obtain rfl := Option.some.inj h
  exact W.vret hx hb hr (fun t ht hW => ⟨⟨_, rfl, rfl, xPre_at h0 hS hP ht hW⟩, hS.F ht⟩) hS.2.2 dX8_append_37
def fX8_clear  (σ : QMem) : Option (QMem) :=
  some (ms σ 109 2 0)
set_option maxHeartbeats 4000000 in
set_option maxRecDepth 100000 in
theorem kX8_clear (l : Launch) (D : va_G) (G : xG) (ub : xB) (σ : QMem) (res : QMem) (h : fX8_clear σ = some res) : Met l yX8_clear (.code yX8_clear cX8_clear 1 none :: lwW) (rmD 0) (xPc D G ub σ [.ref (G.1 109)]) (xQv D G ub res) 0 0 (xA G) := by
  refine Met.ofW (cc := cX8_clear) (maxL := 1) (ret := none) (by decide) rfl ?_
  intro p e s m args below meth c s₁ B hml hv
  obtain ⟨rfl, h0⟩ := hv
  have hx := B.exec
  have hb := B.bytes
  have hr := B.returns
  have hts := fun (w : Cond) (hw : w ∈ lwW) => atoms_spec (ws := (.code yX8_clear cX8_clear 1 none :: lwW)) B.pre w (List.mem_cons_of_mem _ hw)
  have hown : s.vm.findClass RX8 = some m.cls := findClass_of_methodNamed B.named
  have hlocks := B.notSynchronized
  have hP := h0.1
  have hK := h0.2.1
  have hi := h0.2.2.1
  have hZ := h0.2.2.2
  have hN := h0.2.2.2.2.2.2.2.1
  have hV := h0.2.2.2.2.2.2.2.2.1
  have hS : va_S (xA G) s.heap s.heap [] := va_S.rf
  have hl := lv_entry ([.ref (G.1 109)]) (n := 1) (Nat.le_of_ble_eq_true rfl)
  rw [lg_entry_eq]
  generalize (lg_sl ([.ref (G.1 109)]) ++ List.replicate (1 - (lg_sl ([.ref (G.1 109)])).length) Slot.unset).toArray = ls at hl ⊢
  have hl : lv_has ls 1 [(0, .ref (G.1 109))] := hl
  unfold fX8_clear at h
  refine lv_aload_n hx hb dX8_clear_0 rfl (lv_at hl 0 rfl) ?_
  refine lv_iconst (v := 0) hx hb dX8_clear_1 (by decide) ?_
  refine va_put (D := D) (ci := 8) (v := .int 0) (ty := .int) (C := RX8) (T := TX8) (N := 7) hx hb hts iwX8 tyX8 tyX8_ok nmX8 hown hK hP (xD hi) hS 109 (xg_11 rfl) rfl 2 (by decide) (hts _ mw_122) (fun _ h9 => h9) rfl (by decide +kernel) rfl rfl (Nat.le_of_ble_eq_true rfl) dX8_clear_2 (fun H locs hP hD hS => ?_)
  have hP : va_P D vwCl (xW G (ms σ 109 2 0)) H := by rw [← xs_11_2 rfl]; exact hP
  obtain rfl := Option.some.inj h
  exact W.vret hx hb hr (fun t ht hW => ⟨⟨_, rfl, rfl, xPre_at h0 hS hP ht hW⟩, hS.F ht⟩) hS.2.2 dX8_clear_5
def fX8_clauses  (σ : QMem) : Option (Int32 × QMem) :=
  some (σ 109 3, σ)
set_option maxHeartbeats 4000000 in
set_option maxRecDepth 100000 in
theorem kX8_clauses (l : Launch) (D : va_G) (G : xG) (ub : xB) (σ : QMem) (res : Int32 × QMem) (h : fX8_clauses σ = some res) : Met l yX8_clauses (.code yX8_clauses cX8_clauses 1 (some .int) :: lwW) (rmD 0) (xPc D G ub σ [.ref (G.1 109)]) (xQi D G ub res) 0 0 (xA G) := by
  refine Met.ofW (cc := cX8_clauses) (maxL := 1) (ret := (some .int)) (by decide) rfl ?_
  intro p e s m args below meth c s₁ B hml hv
  obtain ⟨rfl, h0⟩ := hv
  have hx := B.exec
  have hb := B.bytes
  have hr := B.returns
  have hts := fun (w : Cond) (hw : w ∈ lwW) => atoms_spec (ws := (.code yX8_clauses cX8_clauses 1 (some .int) :: lwW)) B.pre w (List.mem_cons_of_mem _ hw)
  have hown : s.vm.findClass RX8 = some m.cls := findClass_of_methodNamed B.named
  have hlocks := B.notSynchronized
  have hP := h0.1
  have hK := h0.2.1
  have hi := h0.2.2.1
  have hZ := h0.2.2.2
  have hN := h0.2.2.2.2.2.2.2.1
  have hV := h0.2.2.2.2.2.2.2.2.1
  have hS : va_S (xA G) s.heap s.heap [] := va_S.rf
  have hl := lv_entry ([.ref (G.1 109)]) (n := 1) (Nat.le_of_ble_eq_true rfl)
  rw [lg_entry_eq]
  generalize (lg_sl ([.ref (G.1 109)]) ++ List.replicate (1 - (lg_sl ([.ref (G.1 109)])).length) Slot.unset).toArray = ls at hl ⊢
  have hl : lv_has ls 1 [(0, .ref (G.1 109))] := hl
  unfold fX8_clauses at h
  refine lv_aload_n hx hb dX8_clauses_0 rfl (lv_at hl 0 rfl) ?_
  refine va_get (D := D) (ci := 8) (v := .int (σ 109 3)) (C := RX8) (T := TX8) (N := 7) hx hb hts iwX8 hown hK hP 109 (xg_11 rfl) rfl 3 (by decide) (hts _ mw_123) (fun _ h9 => h9) rfl dX8_clauses_1 ?_
  obtain rfl := Option.some.inj h
  exact W.iret (v := σ 109 3) hx hb hr (fun t ht hW => ⟨⟨_, _, rfl, ⟨rfl, rfl⟩, xPre_at h0 hS hP ht hW⟩, hS.F ht⟩) hS.2.2 dX8_clauses_4
def fX8_word (p1 : Int32) (p2 : Int32) (σ : QMem) : Option (Int32 × QMem) :=
  if p1 < 0 then (some (0, σ)) else (if 24 ≤ p1 then (some (0, σ)) else (if p2 < 0 then (some (0, σ)) else (if p2 < 6 then (if ((6 * p1) + p2 < 0 ∨ xl 84 ≤ ((6 * p1) + p2).toNatClampNeg) then none else (some (σ 84 ((6 * p1) + p2).toNatClampNeg, σ))) else (some (0, σ)))))
set_option maxHeartbeats 4000000 in
set_option maxRecDepth 100000 in
theorem kX8_word (l : Launch) (D : va_G) (G : xG) (ub : xB) (σ : QMem) (p1 : Int32) (p2 : Int32) (res : Int32 × QMem) (h : fX8_word p1 p2 σ = some res) : Met l yX8_word (.code yX8_word cX8_word 3 (some .int) :: lwW) (rmD 0) (xPc D G ub σ [.ref (G.1 109), .int p1, .int p2]) (xQi D G ub res) 0 0 (xA G) := by
  refine Met.ofW (cc := cX8_word) (maxL := 3) (ret := (some .int)) (by decide) rfl ?_
  intro p e s m args below meth c s₁ B hml hv
  obtain ⟨rfl, h0⟩ := hv
  have hx := B.exec
  have hb := B.bytes
  have hr := B.returns
  have hts := fun (w : Cond) (hw : w ∈ lwW) => atoms_spec (ws := (.code yX8_word cX8_word 3 (some .int) :: lwW)) B.pre w (List.mem_cons_of_mem _ hw)
  have hown : s.vm.findClass RX8 = some m.cls := findClass_of_methodNamed B.named
  have hlocks := B.notSynchronized
  have hP := h0.1
  have hK := h0.2.1
  have hi := h0.2.2.1
  have hZ := h0.2.2.2
  have hN := h0.2.2.2.2.2.2.2.1
  have hV := h0.2.2.2.2.2.2.2.2.1
  have hS : va_S (xA G) s.heap s.heap [] := va_S.rf
  have hl := lv_entry ([.ref (G.1 109), .int p1, .int p2]) (n := 3) (Nat.le_of_ble_eq_true rfl)
  rw [lg_entry_eq]
  generalize (lg_sl ([.ref (G.1 109), .int p1, .int p2]) ++ List.replicate (3 - (lg_sl ([.ref (G.1 109), .int p1, .int p2])).length) Slot.unset).toArray = ls at hl ⊢
  have hl : lv_has ls 3 [(0, .ref (G.1 109)), (1, .int p1), (2, .int p2)] := hl
  unfold fX8_word at h
  refine lv_iload_n hx hb dX8_word_0 rfl (lv_at hl 1 rfl) ?_
  refine lv_if_lt (tgt := 20) hx hb dX8_word_1 (by decide) (fun hcq1 => ?_) (fun hcq1 => ?_)
  · have h := ifp hcq1 h
    refine lv_iconst (v := 0) hx hb dX8_word_20 (by decide) ?_
    obtain rfl := Option.some.inj h
    exact W.iret (v := 0) hx hb hr (fun t ht hW => ⟨⟨_, _, rfl, ⟨rfl, rfl⟩, xPre_at h0 hS hP ht hW⟩, hS.F ht⟩) hS.2.2 dX8_word_21
  have h := ifn hcq1 h
  refine lv_iload_n hx hb dX8_word_4 rfl (lv_at hl 1 rfl) ?_
  refine lv_bipush (v := 24) hx hb dX8_word_5 (by decide) ?_
  refine lv_icmp_ge (tgt := 20) hx hb dX8_word_7 (by decide) (fun hcq2 => ?_) (fun hcq2 => ?_)
  · have h := ifp hcq2 h
    refine lv_iconst (v := 0) hx hb dX8_word_20 (by decide) ?_
    obtain rfl := Option.some.inj h
    exact W.iret (v := 0) hx hb hr (fun t ht hW => ⟨⟨_, _, rfl, ⟨rfl, rfl⟩, xPre_at h0 hS hP ht hW⟩, hS.F ht⟩) hS.2.2 dX8_word_21
  have h := ifn hcq2 h
  refine lv_iload_n hx hb dX8_word_10 rfl (lv_at hl 2 rfl) ?_
  refine lv_if_lt (tgt := 20) hx hb dX8_word_11 (by decide) (fun hcq3 => ?_) (fun hcq3 => ?_)
  · have h := ifp hcq3 h
    refine lv_iconst (v := 0) hx hb dX8_word_20 (by decide) ?_
    obtain rfl := Option.some.inj h
    exact W.iret (v := 0) hx hb hr (fun t ht hW => ⟨⟨_, _, rfl, ⟨rfl, rfl⟩, xPre_at h0 hS hP ht hW⟩, hS.F ht⟩) hS.2.2 dX8_word_21
  have h := ifn hcq3 h
  refine lv_iload_n hx hb dX8_word_14 rfl (lv_at hl 2 rfl) ?_
  refine lv_bipush (v := 6) hx hb dX8_word_15 (by decide) ?_
  refine lv_icmp_lt (tgt := 22) hx hb dX8_word_17 (by decide) (fun hcq4 => ?_) (fun hcq4 => ?_)
  · have h := ifp hcq4 h
    refine lv_aload_n hx hb dX8_word_22 rfl (lv_at hl 0 rfl) ?_
    refine va_get (D := D) (ci := 8) (v := .ref (G.1 84)) (C := RX8) (T := TX8) (N := 7) hx hb hts iwX8 hown hK hP 109 (xg_11 rfl) rfl 1 (by decide) (hts _ mw_121) (fun _ h9 => h9) rfl dX8_word_23 ?_
    refine lv_bipush (v := 6) hx hb dX8_word_26 (by decide) ?_
    refine lv_iload_n hx hb dX8_word_28 rfl (lv_at hl 1 rfl) ?_
    refine lv_imul hx hb dX8_word_29 ?_
    refine lv_iload_n hx hb dX8_word_30 rfl (lv_at hl 2 rfl) ?_
    refine lv_iadd hx hb dX8_word_31 ?_
    obtain ⟨hiq5, h⟩ := nif h
    refine va_iald hx hb hK hP 84 0 (xg_2 rfl) rfl hiq5 dX8_word_32 ?_
    obtain rfl := Option.some.inj h
    exact W.iret (v := σ 84 ((6 * p1) + p2).toNatClampNeg) hx hb hr (fun t ht hW => ⟨⟨_, _, rfl, ⟨rfl, rfl⟩, xPre_at h0 hS hP ht hW⟩, hS.F ht⟩) hS.2.2 dX8_word_33
  have h := ifn hcq4 h
  refine lv_iconst (v := 0) hx hb dX8_word_20 (by decide) ?_
  obtain rfl := Option.some.inj h
  exact W.iret (v := 0) hx hb hr (fun t ht hW => ⟨⟨_, _, rfl, ⟨rfl, rfl⟩, xPre_at h0 hS hP ht hW⟩, hS.F ht⟩) hS.2.2 dX8_word_21
def fX8_putWord (p1 : Int32) (p2 : Int32) (p3 : Int32) (σ : QMem) : Option (QMem) :=
  if p1 < 0 then (some σ) else (if 24 ≤ p1 then (some σ) else (if p2 < 0 then (some σ) else (if 6 ≤ p2 then (some σ) else (if ((6 * p1) + p2 < 0 ∨ xl 84 ≤ ((6 * p1) + p2).toNatClampNeg) then none else (some (ms σ 84 ((6 * p1) + p2).toNatClampNeg p3))))))
set_option maxHeartbeats 4000000 in
set_option maxRecDepth 100000 in
theorem kX8_putWord (l : Launch) (D : va_G) (G : xG) (ub : xB) (σ : QMem) (p1 : Int32) (p2 : Int32) (p3 : Int32) (res : QMem) (h : fX8_putWord p1 p2 p3 σ = some res) : Met l yX8_putWord (.code yX8_putWord cX8_putWord 4 none :: lwW) (rmD 0) (xPc D G ub σ [.ref (G.1 109), .int p1, .int p2, .int p3]) (xQv D G ub res) 0 0 (xA G) := by
  refine Met.ofW (cc := cX8_putWord) (maxL := 4) (ret := none) (by decide) rfl ?_
  intro p e s m args below meth c s₁ B hml hv
  obtain ⟨rfl, h0⟩ := hv
  have hx := B.exec
  have hb := B.bytes
  have hr := B.returns
  have hts := fun (w : Cond) (hw : w ∈ lwW) => atoms_spec (ws := (.code yX8_putWord cX8_putWord 4 none :: lwW)) B.pre w (List.mem_cons_of_mem _ hw)
  have hown : s.vm.findClass RX8 = some m.cls := findClass_of_methodNamed B.named
  have hlocks := B.notSynchronized
  have hP := h0.1
  have hK := h0.2.1
  have hi := h0.2.2.1
  have hZ := h0.2.2.2
  have hN := h0.2.2.2.2.2.2.2.1
  have hV := h0.2.2.2.2.2.2.2.2.1
  have hS : va_S (xA G) s.heap s.heap [] := va_S.rf
  have hl := lv_entry ([.ref (G.1 109), .int p1, .int p2, .int p3]) (n := 4) (Nat.le_of_ble_eq_true rfl)
  rw [lg_entry_eq]
  generalize (lg_sl ([.ref (G.1 109), .int p1, .int p2, .int p3]) ++ List.replicate (4 - (lg_sl ([.ref (G.1 109), .int p1, .int p2, .int p3])).length) Slot.unset).toArray = ls at hl ⊢
  have hl : lv_has ls 4 [(0, .ref (G.1 109)), (1, .int p1), (2, .int p2), (3, .int p3)] := hl
  unfold fX8_putWord at h
  refine lv_iload_n hx hb dX8_putWord_0 rfl (lv_at hl 1 rfl) ?_
  refine lv_if_lt (tgt := 32) hx hb dX8_putWord_1 (by decide) (fun hcq1 => ?_) (fun hcq1 => ?_)
  · have h := ifp hcq1 h
    obtain rfl := Option.some.inj h
    exact W.vret hx hb hr (fun t ht hW => ⟨⟨_, rfl, rfl, xPre_at h0 hS hP ht hW⟩, hS.F ht⟩) hS.2.2 dX8_putWord_32
  have h := ifn hcq1 h
  refine lv_iload_n hx hb dX8_putWord_4 rfl (lv_at hl 1 rfl) ?_
  refine lv_bipush (v := 24) hx hb dX8_putWord_5 (by decide) ?_
  refine lv_icmp_ge (tgt := 32) hx hb dX8_putWord_7 (by decide) (fun hcq2 => ?_) (fun hcq2 => ?_)
  · have h := ifp hcq2 h
    obtain rfl := Option.some.inj h
    exact W.vret hx hb hr (fun t ht hW => ⟨⟨_, rfl, rfl, xPre_at h0 hS hP ht hW⟩, hS.F ht⟩) hS.2.2 dX8_putWord_32
  have h := ifn hcq2 h
  refine lv_iload_n hx hb dX8_putWord_10 rfl (lv_at hl 2 rfl) ?_
  refine lv_if_lt (tgt := 32) hx hb dX8_putWord_11 (by decide) (fun hcq3 => ?_) (fun hcq3 => ?_)
  · have h := ifp hcq3 h
    obtain rfl := Option.some.inj h
    exact W.vret hx hb hr (fun t ht hW => ⟨⟨_, rfl, rfl, xPre_at h0 hS hP ht hW⟩, hS.F ht⟩) hS.2.2 dX8_putWord_32
  have h := ifn hcq3 h
  refine lv_iload_n hx hb dX8_putWord_14 rfl (lv_at hl 2 rfl) ?_
  refine lv_bipush (v := 6) hx hb dX8_putWord_15 (by decide) ?_
  refine lv_icmp_ge (tgt := 32) hx hb dX8_putWord_17 (by decide) (fun hcq4 => ?_) (fun hcq4 => ?_)
  · have h := ifp hcq4 h
    obtain rfl := Option.some.inj h
    exact W.vret hx hb hr (fun t ht hW => ⟨⟨_, rfl, rfl, xPre_at h0 hS hP ht hW⟩, hS.F ht⟩) hS.2.2 dX8_putWord_32
  have h := ifn hcq4 h
  refine lv_aload_n hx hb dX8_putWord_20 rfl (lv_at hl 0 rfl) ?_
  refine va_get (D := D) (ci := 8) (v := .ref (G.1 84)) (C := RX8) (T := TX8) (N := 7) hx hb hts iwX8 hown hK hP 109 (xg_11 rfl) rfl 1 (by decide) (hts _ mw_121) (fun _ h9 => h9) rfl dX8_putWord_21 ?_
  refine lv_bipush (v := 6) hx hb dX8_putWord_24 (by decide) ?_
  refine lv_iload_n hx hb dX8_putWord_26 rfl (lv_at hl 1 rfl) ?_
  refine lv_imul hx hb dX8_putWord_27 ?_
  refine lv_iload_n hx hb dX8_putWord_28 rfl (lv_at hl 2 rfl) ?_
  refine lv_iadd hx hb dX8_putWord_29 ?_
  refine lv_iload_n hx hb dX8_putWord_30 rfl (lv_at hl 3 rfl) ?_
  obtain ⟨hiq5, h⟩ := nif h
  refine va_iast hx hb hK hP (xD hi) hS 84 0 (xg_2 rfl) rfl hiq5 dX8_putWord_31 (fun H locs hP hD hS => ?_)
  have hP : va_P D vwCl (xW G (ms σ 84 ((6 * p1) + p2).toNatClampNeg p3)) H := by rw [← xs_2 rfl]; exact hP
  obtain rfl := Option.some.inj h
  exact W.vret hx hb hr (fun t ht hW => ⟨⟨_, rfl, rfl, xPre_at h0 hS hP ht hW⟩, hS.F ht⟩) hS.2.2 dX8_putWord_32
def fX8_letterAt (p1 : Int32) (σ : QMem) : Option (Int32 × QMem) :=
  if p1 < 0 then (some ((-1), σ)) else (if (σ 109 2) ≤ p1 then (some ((-1), σ)) else (if 200 ≤ p1 then (some ((-1), σ)) else (if (p1 < 0 ∨ xl 83 ≤ p1.toNatClampNeg) then none else (some (σ 83 p1.toNatClampNeg, σ)))))
set_option maxHeartbeats 4000000 in
set_option maxRecDepth 100000 in
theorem kX8_letterAt (l : Launch) (D : va_G) (G : xG) (ub : xB) (σ : QMem) (p1 : Int32) (res : Int32 × QMem) (h : fX8_letterAt p1 σ = some res) : Met l yX8_letterAt (.code yX8_letterAt cX8_letterAt 2 (some .int) :: lwW) (rmD 0) (xPc D G ub σ [.ref (G.1 109), .int p1]) (xQi D G ub res) 0 0 (xA G) := by
  refine Met.ofW (cc := cX8_letterAt) (maxL := 2) (ret := (some .int)) (by decide) rfl ?_
  intro p e s m args below meth c s₁ B hml hv
  obtain ⟨rfl, h0⟩ := hv
  have hx := B.exec
  have hb := B.bytes
  have hr := B.returns
  have hts := fun (w : Cond) (hw : w ∈ lwW) => atoms_spec (ws := (.code yX8_letterAt cX8_letterAt 2 (some .int) :: lwW)) B.pre w (List.mem_cons_of_mem _ hw)
  have hown : s.vm.findClass RX8 = some m.cls := findClass_of_methodNamed B.named
  have hlocks := B.notSynchronized
  have hP := h0.1
  have hK := h0.2.1
  have hi := h0.2.2.1
  have hZ := h0.2.2.2
  have hN := h0.2.2.2.2.2.2.2.1
  have hV := h0.2.2.2.2.2.2.2.2.1
  have hS : va_S (xA G) s.heap s.heap [] := va_S.rf
  have hl := lv_entry ([.ref (G.1 109), .int p1]) (n := 2) (Nat.le_of_ble_eq_true rfl)
  rw [lg_entry_eq]
  generalize (lg_sl ([.ref (G.1 109), .int p1]) ++ List.replicate (2 - (lg_sl ([.ref (G.1 109), .int p1])).length) Slot.unset).toArray = ls at hl ⊢
  have hl : lv_has ls 2 [(0, .ref (G.1 109)), (1, .int p1)] := hl
  unfold fX8_letterAt at h
  refine lv_iload_n hx hb dX8_letterAt_0 rfl (lv_at hl 1 rfl) ?_
  refine lv_if_lt (tgt := 28) hx hb dX8_letterAt_1 (by decide) (fun hcq1 => ?_) (fun hcq1 => ?_)
  · have h := ifp hcq1 h
    refine lv_iconst (v := (-1)) hx hb dX8_letterAt_28 (by decide) ?_
    obtain rfl := Option.some.inj h
    exact W.iret (v := (-1)) hx hb hr (fun t ht hW => ⟨⟨_, _, rfl, ⟨rfl, rfl⟩, xPre_at h0 hS hP ht hW⟩, hS.F ht⟩) hS.2.2 dX8_letterAt_29
  have h := ifn hcq1 h
  refine lv_iload_n hx hb dX8_letterAt_4 rfl (lv_at hl 1 rfl) ?_
  refine lv_aload_n hx hb dX8_letterAt_5 rfl (lv_at hl 0 rfl) ?_
  refine va_get (D := D) (ci := 8) (v := .int (σ 109 2)) (C := RX8) (T := TX8) (N := 7) hx hb hts iwX8 hown hK hP 109 (xg_11 rfl) rfl 2 (by decide) (hts _ mw_122) (fun _ h9 => h9) rfl dX8_letterAt_6 ?_
  refine lv_icmp_ge (tgt := 28) hx hb dX8_letterAt_9 (by decide) (fun hcq2 => ?_) (fun hcq2 => ?_)
  · have h := ifp hcq2 h
    refine lv_iconst (v := (-1)) hx hb dX8_letterAt_28 (by decide) ?_
    obtain rfl := Option.some.inj h
    exact W.iret (v := (-1)) hx hb hr (fun t ht hW => ⟨⟨_, _, rfl, ⟨rfl, rfl⟩, xPre_at h0 hS hP ht hW⟩, hS.F ht⟩) hS.2.2 dX8_letterAt_29
  have h := ifn hcq2 h
  refine lv_iload_n hx hb dX8_letterAt_12 rfl (lv_at hl 1 rfl) ?_
  refine lv_sipush (v := 200) hx hb dX8_letterAt_13 (by decide) ?_
  refine lv_icmp_ge (tgt := 28) hx hb dX8_letterAt_16 (by decide) (fun hcq3 => ?_) (fun hcq3 => ?_)
  · have h := ifp hcq3 h
    refine lv_iconst (v := (-1)) hx hb dX8_letterAt_28 (by decide) ?_
    obtain rfl := Option.some.inj h
    exact W.iret (v := (-1)) hx hb hr (fun t ht hW => ⟨⟨_, _, rfl, ⟨rfl, rfl⟩, xPre_at h0 hS hP ht hW⟩, hS.F ht⟩) hS.2.2 dX8_letterAt_29
  have h := ifn hcq3 h
  refine lv_aload_n hx hb dX8_letterAt_19 rfl (lv_at hl 0 rfl) ?_
  refine va_get (D := D) (ci := 8) (v := .ref (G.1 83)) (C := RX8) (T := TX8) (N := 7) hx hb hts iwX8 hown hK hP 109 (xg_11 rfl) rfl 0 (by decide) (hts _ mw_120) (fun _ h9 => h9) rfl dX8_letterAt_20 ?_
  refine lv_iload_n hx hb dX8_letterAt_23 rfl (lv_at hl 1 rfl) ?_
  obtain ⟨hiq4, h⟩ := nif h
  refine va_iald hx hb hK hP 83 0 (xg_2 rfl) rfl hiq4 dX8_letterAt_24 ?_
  refine lv_goto (tgt := 29) hx hb dX8_letterAt_25 (by decide) ?_
  obtain rfl := Option.some.inj h
  exact W.iret (v := σ 83 p1.toNatClampNeg) hx hb hr (fun t ht hW => ⟨⟨_, _, rfl, ⟨rfl, rfl⟩, xPre_at h0 hS hP ht hW⟩, hS.F ht⟩) hS.2.2 dX8_letterAt_29
def fX8_kindAt_J27 (p1 : Int32) (v2 : Int32) (τ : QMem) : Option (Int32 × QMem) :=
  if v2 < 48 then (some (3, τ)) else (if 57 < v2 then (some (3, τ)) else (some (2, τ)))
def fX8_kindAt (p1 : Int32) (σ : QMem) : Option (Int32 × QMem) :=
  (fX8_letterAt p1 σ).bind fun xq5 => (if xq5.1 = (-1) then (some (0, xq5.2)) else (if xq5.1 < 97 then (fX8_kindAt_J27 p1 xq5.1 xq5.2) else (if 122 < xq5.1 then (fX8_kindAt_J27 p1 xq5.1 xq5.2) else (some (1, xq5.2)))))
set_option maxHeartbeats 4000000 in
set_option maxRecDepth 100000 in
theorem kX8_kindAt (l : Launch) (D : va_G) (G : xG) (ub : xB) (σ : QMem) (p1 : Int32) (res : Int32 × QMem) (h : fX8_kindAt p1 σ = some res) : Met l yX8_kindAt (.code yX8_kindAt cX8_kindAt 3 (some .int) :: lwW) (rmD 1) (xPc D G ub σ [.ref (G.1 109), .int p1]) (xQi D G ub res) 0 0 (xA G) := by
  refine Met.ofW (cc := cX8_kindAt) (maxL := 3) (ret := (some .int)) (by decide) rfl ?_
  intro p e s m args below meth c s₁ B hml hv
  obtain ⟨rfl, h0⟩ := hv
  have hx := B.exec
  have hb := B.bytes
  have hr := B.returns
  have hts := fun (w : Cond) (hw : w ∈ lwW) => atoms_spec (ws := (.code yX8_kindAt cX8_kindAt 3 (some .int) :: lwW)) B.pre w (List.mem_cons_of_mem _ hw)
  have hown : s.vm.findClass RX8 = some m.cls := findClass_of_methodNamed B.named
  have hlocks := B.notSynchronized
  have hP := h0.1
  have hK := h0.2.1
  have hi := h0.2.2.1
  have hZ := h0.2.2.2
  have hN := h0.2.2.2.2.2.2.2.1
  have hV := h0.2.2.2.2.2.2.2.2.1
  have hS : va_S (xA G) s.heap s.heap [] := va_S.rf
  have hl := lv_entry ([.ref (G.1 109), .int p1]) (n := 3) (Nat.le_of_ble_eq_true rfl)
  rw [lg_entry_eq]
  generalize (lg_sl ([.ref (G.1 109), .int p1]) ++ List.replicate (3 - (lg_sl ([.ref (G.1 109), .int p1])).length) Slot.unset).toArray = ls at hl ⊢
  have hl : lv_has ls 3 [(0, .ref (G.1 109)), (1, .int p1)] := hl
  unfold fX8_kindAt at h
  have J27 : ∀ (v2 : Int32) (τ : QMem) (H : Heap) (locs : List Loc) (ls : Array Slot), fX8_kindAt_J27 p1 v2 τ = some res → va_P D vwCl (xW G τ) H → va_S (xA G) s.heap H locs → lv_has ls 3 [(2, .int v2)] → W p l e (headSpec (.code yX8_kindAt cX8_kindAt 3 (some .int) :: lwW) (rmD 1)).room s m ([.ref (G.1 109), .int p1] : List Value).toArray below meth c H locs 0 0 (MQ below (xQi D G ub res) ([.ref (G.1 109), .int p1] : List Value).toArray s 0 0 (xA G)) (F0 m 27 ls []) := by
    intro v2 τ H locs ls h hP hS hl
    unfold fX8_kindAt_J27 at h
    refine lv_iload_n hx hb dX8_kindAt_27 rfl (lv_at hl 0 rfl) ?_
    refine lv_bipush (v := 48) hx hb dX8_kindAt_28 (by decide) ?_
    refine lv_icmp_lt (tgt := 43) hx hb dX8_kindAt_30 (by decide) (fun hcq3 => ?_) (fun hcq3 => ?_)
    · have h := ifp hcq3 h
      refine lv_iconst (v := 3) hx hb dX8_kindAt_43 (by decide) ?_
      obtain rfl := Option.some.inj h
      exact W.iret (v := 3) hx hb hr (fun t ht hW => ⟨⟨_, _, rfl, ⟨rfl, rfl⟩, xPre_at h0 hS hP ht hW⟩, hS.F ht⟩) hS.2.2 dX8_kindAt_44
    have h := ifn hcq3 h
    refine lv_iload_n hx hb dX8_kindAt_33 rfl (lv_at hl 0 rfl) ?_
    refine lv_bipush (v := 57) hx hb dX8_kindAt_34 (by decide) ?_
    refine lv_icmp_gt (tgt := 43) hx hb dX8_kindAt_36 (by decide) (fun hcq4 => ?_) (fun hcq4 => ?_)
    · have h := ifp hcq4 h
      refine lv_iconst (v := 3) hx hb dX8_kindAt_43 (by decide) ?_
      obtain rfl := Option.some.inj h
      exact W.iret (v := 3) hx hb hr (fun t ht hW => ⟨⟨_, _, rfl, ⟨rfl, rfl⟩, xPre_at h0 hS hP ht hW⟩, hS.F ht⟩) hS.2.2 dX8_kindAt_44
    have h := ifn hcq4 h
    refine lv_iconst (v := 2) hx hb dX8_kindAt_39 (by decide) ?_
    refine lv_goto (tgt := 44) hx hb dX8_kindAt_40 (by decide) ?_
    obtain rfl := Option.some.inj h
    exact W.iret (v := 2) hx hb hr (fun t ht hW => ⟨⟨_, _, rfl, ⟨rfl, rfl⟩, xPre_at h0 hS hP ht hW⟩, hS.F ht⟩) hS.2.2 dX8_kindAt_44
  refine lv_aload_n hx hb dX8_kindAt_0 rfl (lv_at hl 0 rfl) ?_
  refine lv_iload_n hx hb dX8_kindAt_1 rfl (lv_at hl 1 rfl) ?_
  obtain ⟨xq5, hfq6, h⟩ := obd h
  refine va_calli (va_runV (As := [.int p1]) (rest := []) ⟨hx, hb, hml, hown, hts⟩ (kX8_letterAt l D G ub _ p1 xq5 hfq6) (cwV 1 hts (lwW_gV mw_358 mw_360 ms_1 mw_7 mw_361) rfl rfl rfl (by decide +kernel) ⟨Nat.le_of_ble_eq_true rfl, Nat.le_of_ble_eq_true rfl⟩) ⟨fun a U g mk q => ⟨q.1, xPre_call q.2⟩, va_recv hK hP rfl (xg_11 rfl), fun U hU hW => ⟨rfl, xPre_at h0 hS hP hU hW⟩⟩ rfl rfl hl.1 rfl (lv_room (Nat.le_of_ble_eq_true rfl)) dX8_kindAt_2 ⟨Nat.zero_le _, Nat.zero_le _⟩) hS (fun q _ h => h) (fun q h => h) (fun r u t H1 locs ht hvm hw hB hz1 hq1 hS => ?_)
  obtain ⟨rfl, rfl⟩ := hw
  have hP := hB.1
  rw [ht] at hP
  refine W.widen (k := 0) (n := 0) (Nat.le_refl _) (Nat.le_refl _) ?_
  refine lv_istore_n (lv' := [(2, .int xq5.1), (0, .ref (G.1 109)), (1, .int p1)]) hx hb dX8_kindAt_5 rfl hl (by decide) rfl (fun ls hl => ?_)
  refine lv_iload_n hx hb dX8_kindAt_6 rfl (lv_at hl 0 rfl) ?_
  refine lv_iconst (v := (-1)) hx hb dX8_kindAt_7 (by decide) ?_
  refine lv_icmp_ne (tgt := 13) hx hb dX8_kindAt_8 (by decide) (fun hcq7 => ?_) (fun hcq7 => ?_)
  · have h := ifn hcq7 h
    refine lv_iload_n hx hb dX8_kindAt_13 rfl (lv_at hl 0 rfl) ?_
    refine lv_bipush (v := 97) hx hb dX8_kindAt_14 (by decide) ?_
    refine lv_icmp_lt (tgt := 27) hx hb dX8_kindAt_16 (by decide) (fun hcq8 => ?_) (fun hcq8 => ?_)
    · have h := ifp hcq8 h
      exact J27 xq5.1 _ _ _ _ h hP hS (lv_sub hl [0] rfl)
    have h := ifn hcq8 h
    refine lv_iload_n hx hb dX8_kindAt_19 rfl (lv_at hl 0 rfl) ?_
    refine lv_bipush (v := 122) hx hb dX8_kindAt_20 (by decide) ?_
    refine lv_icmp_gt (tgt := 27) hx hb dX8_kindAt_22 (by decide) (fun hcq9 => ?_) (fun hcq9 => ?_)
    · have h := ifp hcq9 h
      exact J27 xq5.1 _ _ _ _ h hP hS (lv_sub hl [0] rfl)
    have h := ifn hcq9 h
    refine lv_iconst (v := 1) hx hb dX8_kindAt_25 (by decide) ?_
    obtain rfl := Option.some.inj h
    exact W.iret (v := 1) hx hb hr (fun t ht hW => ⟨⟨_, _, rfl, ⟨rfl, rfl⟩, xPre_at h0 hS hP ht hW⟩, hS.F ht⟩) hS.2.2 dX8_kindAt_26
  have h := ifp hcq7 h
  refine lv_iconst (v := 0) hx hb dX8_kindAt_11 (by decide) ?_
  obtain rfl := Option.some.inj h
  exact W.iret (v := 0) hx hb hr (fun t ht hW => ⟨⟨_, _, rfl, ⟨rfl, rfl⟩, xPre_at h0 hS hP ht hW⟩, hS.F ht⟩) hS.2.2 dX8_kindAt_12
def fX8_nextToken_L95  : Nat → Int32 → QMem → Option (QMem)
  | 0, _, _ => none
  | n + 1, v1, τ =>
  if 200 ≤ v1 then (some τ) else ((fX8_kindAt (τ 109 6) τ).bind fun xq2 => (if xq2.1 = (xq2.2 109 4) then ((fX8_nextToken_L95 n) (v1 + 1) (ms xq2.2 109 6 ((xq2.2 109 6) + 1))) else (some xq2.2)))
def fX8_nextToken_J46   (τ : QMem) : Option (QMem) :=
  (fX8_kindAt ((ms τ 109 6 (τ 109 5)) 109 5) (ms τ 109 6 (τ 109 5))).bind fun xq5 => (if ((ms xq5.2 109 4 xq5.1) 109 4) = 0 then (some (ms xq5.2 109 4 xq5.1)) else (if ((ms (ms xq5.2 109 4 xq5.1) 109 6 (((ms xq5.2 109 4 xq5.1) 109 6) + 1)) 109 4) = 3 then (some (ms (ms xq5.2 109 4 xq5.1) 109 6 (((ms xq5.2 109 4 xq5.1) 109 6) + 1))) else (fX8_nextToken_L95 FU 0 (ms (ms xq5.2 109 4 xq5.1) 109 6 (((ms xq5.2 109 4 xq5.1) 109 6) + 1)))))
def fX8_nextToken_L10  : Nat → Int32 → QMem → Option (QMem)
  | 0, _, _ => none
  | n + 1, v1, τ =>
  if 200 ≤ v1 then (fX8_nextToken_J46 τ) else ((fX8_letterAt (τ 109 5) τ).bind fun xq14 => (if xq14.1 = 32 then ((fX8_nextToken_L10 n) (v1 + 1) (ms xq14.2 109 5 ((xq14.2 109 5) + 1))) else (fX8_nextToken_J46 xq14.2)))
def fX8_nextToken  (σ : QMem) : Option (QMem) :=
  fX8_nextToken_L10 FU 0 (ms σ 109 5 (σ 109 6))
set_option maxHeartbeats 4000000 in
set_option maxRecDepth 100000 in
theorem kX8_nextToken (l : Launch) (D : va_G) (G : xG) (ub : xB) (σ : QMem) (res : QMem) (h : fX8_nextToken σ = some res) : Met l yX8_nextToken (.code yX8_nextToken cX8_nextToken 2 none :: lwW) (rmD 2) (xPc D G ub σ [.ref (G.1 109)]) (xQv D G ub res) 0 0 (xA G) := by
  refine Met.ofW (cc := cX8_nextToken) (maxL := 2) (ret := none) (by decide) rfl ?_
  intro p e s m args below meth c s₁ B hml hv
  obtain ⟨rfl, h0⟩ := hv
  have hx := B.exec
  have hb := B.bytes
  have hr := B.returns
  have hts := fun (w : Cond) (hw : w ∈ lwW) => atoms_spec (ws := (.code yX8_nextToken cX8_nextToken 2 none :: lwW)) B.pre w (List.mem_cons_of_mem _ hw)
  have hown : s.vm.findClass RX8 = some m.cls := findClass_of_methodNamed B.named
  have hlocks := B.notSynchronized
  have hP := h0.1
  have hK := h0.2.1
  have hi := h0.2.2.1
  have hZ := h0.2.2.2
  have hN := h0.2.2.2.2.2.2.2.1
  have hV := h0.2.2.2.2.2.2.2.2.1
  have hS : va_S (xA G) s.heap s.heap [] := va_S.rf
  have hl := lv_entry ([.ref (G.1 109)]) (n := 2) (Nat.le_of_ble_eq_true rfl)
  rw [lg_entry_eq]
  generalize (lg_sl ([.ref (G.1 109)]) ++ List.replicate (2 - (lg_sl ([.ref (G.1 109)])).length) Slot.unset).toArray = ls at hl ⊢
  have hl : lv_has ls 2 [(0, .ref (G.1 109))] := hl
  unfold fX8_nextToken at h
  have L95 : ∀ (n95 : Nat) (v1 : Int32) (τ : QMem) (H : Heap) (locs : List Loc) (ls : Array Slot), fX8_nextToken_L95 n95 v1 τ = some res → va_P D vwCl (xW G τ) H → va_S (xA G) s.heap H locs → lv_has ls 2 [(0, .ref (G.1 109)), (1, .int v1)] → W p l e (headSpec (.code yX8_nextToken cX8_nextToken 2 none :: lwW) (rmD 2)).room s m ([.ref (G.1 109)] : List Value).toArray below meth c H locs 0 0 (MQ below (xQv D G ub res) ([.ref (G.1 109)] : List Value).toArray s 0 0 (xA G)) (F0 m 95 ls []) := by
    intro n95
    induction n95 with
    | zero => intro v1 τ H locs ls h; rw [fX8_nextToken_L95] at h; cases h
    | succ n95 ih95 =>
      intro v1 τ H locs ls h hP hS hl
      rw [fX8_nextToken_L95] at h
      refine lv_iload_n hx hb dX8_nextToken_95 rfl (lv_at hl 1 rfl) ?_
      refine lv_sipush (v := 200) hx hb dX8_nextToken_96 (by decide) ?_
      refine lv_icmp_ge (tgt := 133) hx hb dX8_nextToken_99 (by decide) (fun hcq1 => ?_) (fun hcq1 => ?_)
      · have h := ifp hcq1 h
        obtain rfl := Option.some.inj h
        exact W.vret hx hb hr (fun t ht hW => ⟨⟨_, rfl, rfl, xPre_at h0 hS hP ht hW⟩, hS.F ht⟩) hS.2.2 dX8_nextToken_133
      have h := ifn hcq1 h
      refine lv_aload_n hx hb dX8_nextToken_102 rfl (lv_at hl 0 rfl) ?_
      refine lv_aload_n hx hb dX8_nextToken_103 rfl (lv_at hl 0 rfl) ?_
      refine va_get (D := D) (ci := 8) (v := .int (τ 109 6)) (C := RX8) (T := TX8) (N := 7) hx hb hts iwX8 hown hK hP 109 (xg_11 rfl) rfl 6 (by decide) (hts _ mw_126) (fun _ h9 => h9) rfl dX8_nextToken_104 ?_
      obtain ⟨xq2, hfq3, h⟩ := obd h
      refine va_calli (va_runV (As := [.int (τ 109 6)]) (rest := []) ⟨hx, hb, hml, hown, hts⟩ (kX8_kindAt l D G ub _ (τ 109 6) xq2 hfq3) (cwV 1 hts (lwW_gV mw_362 mw_364 ms_2 mw_7 mw_365) rfl rfl rfl (by decide +kernel) ⟨Nat.le_of_ble_eq_true rfl, Nat.le_of_ble_eq_true rfl⟩) ⟨fun a U g mk q => ⟨q.1, xPre_call q.2⟩, va_recv hK hP rfl (xg_11 rfl), fun U hU hW => ⟨rfl, xPre_at h0 hS hP hU hW⟩⟩ rfl rfl hl.1 rfl (lv_room (Nat.le_of_ble_eq_true rfl)) dX8_nextToken_107 ⟨Nat.zero_le _, Nat.zero_le _⟩) hS (fun q _ h => h) (fun q h => h) (fun r u t H1 locs ht hvm hw hB hz1 hq1 hS => ?_)
      obtain ⟨rfl, rfl⟩ := hw
      have hP := hB.1
      rw [ht] at hP
      refine W.widen (k := 0) (n := 0) (Nat.le_refl _) (Nat.le_refl _) ?_
      refine lv_aload_n hx hb dX8_nextToken_110 rfl (lv_at hl 0 rfl) ?_
      refine va_get (D := D) (ci := 8) (v := .int (xq2.2 109 4)) (C := RX8) (T := TX8) (N := 7) hx hb hts iwX8 hown hK hP 109 (xg_11 rfl) rfl 4 (by decide) (hts _ mw_124) (fun _ h9 => h9) rfl dX8_nextToken_111 ?_
      refine lv_icmp_ne (tgt := 133) hx hb dX8_nextToken_114 (by decide) (fun hcq4 => ?_) (fun hcq4 => ?_)
      · have h := ifn hcq4 h
        obtain rfl := Option.some.inj h
        exact W.vret hx hb hr (fun t ht hW => ⟨⟨_, rfl, rfl, xPre_at h0 hS hP ht hW⟩, hS.F ht⟩) hS.2.2 dX8_nextToken_133
      have h := ifp hcq4 h
      refine lv_aload_n hx hb dX8_nextToken_117 rfl (lv_at hl 0 rfl) ?_
      refine lv_dup hx hb dX8_nextToken_118 rfl ?_
      refine va_get (D := D) (ci := 8) (v := .int (xq2.2 109 6)) (C := RX8) (T := TX8) (N := 7) hx hb hts iwX8 hown hK hP 109 (xg_11 rfl) rfl 6 (by decide) (hts _ mw_126) (fun _ h9 => h9) rfl dX8_nextToken_119 ?_
      refine lv_iconst (v := 1) hx hb dX8_nextToken_122 (by decide) ?_
      refine lv_iadd hx hb dX8_nextToken_123 ?_
      refine va_put (D := D) (ci := 8) (v := .int ((xq2.2 109 6) + 1)) (ty := .int) (C := RX8) (T := TX8) (N := 7) hx hb hts iwX8 tyX8 tyX8_ok nmX8 hown hK hP (xD hi) hS 109 (xg_11 rfl) rfl 6 (by decide) (hts _ mw_126) (fun _ h9 => h9) rfl (by decide +kernel) rfl rfl (Nat.le_of_ble_eq_true rfl) dX8_nextToken_124 (fun H locs hP hD hS => ?_)
      have hP : va_P D vwCl (xW G (ms xq2.2 109 6 ((xq2.2 109 6) + 1))) H := by rw [← xs_11_6 rfl]; exact hP
      refine lv_iinc (v := v1 + 1) (lv' := [(1, .int (v1 + 1)), (0, .ref (G.1 109))]) hx hb dX8_nextToken_127 hl (k := 1) rfl rfl (by decide) rfl (fun ls hl => ?_)
      refine lv_goto (tgt := 95) hx hb dX8_nextToken_130 (by decide) ?_
      exact ih95 (v1 + 1) _ _ _ _ h hP hS (lv_sub hl [1, 0] rfl)
  have J46 : ∀ (τ : QMem) (H : Heap) (locs : List Loc) (ls : Array Slot), fX8_nextToken_J46 τ = some res → va_P D vwCl (xW G τ) H → va_S (xA G) s.heap H locs → lv_has ls 2 [(0, .ref (G.1 109))] → W p l e (headSpec (.code yX8_nextToken cX8_nextToken 2 none :: lwW) (rmD 2)).room s m ([.ref (G.1 109)] : List Value).toArray below meth c H locs 0 0 (MQ below (xQv D G ub res) ([.ref (G.1 109)] : List Value).toArray s 0 0 (xA G)) (F0 m 46 ls []) := by
    intro τ H locs ls h hP hS hl
    unfold fX8_nextToken_J46 at h
    refine lv_aload_n hx hb dX8_nextToken_46 rfl (lv_at hl 0 rfl) ?_
    refine lv_aload_n hx hb dX8_nextToken_47 rfl (lv_at hl 0 rfl) ?_
    refine va_get (D := D) (ci := 8) (v := .int (τ 109 5)) (C := RX8) (T := TX8) (N := 7) hx hb hts iwX8 hown hK hP 109 (xg_11 rfl) rfl 5 (by decide) (hts _ mw_125) (fun _ h9 => h9) rfl dX8_nextToken_48 ?_
    refine va_put (D := D) (ci := 8) (v := .int (τ 109 5)) (ty := .int) (C := RX8) (T := TX8) (N := 7) hx hb hts iwX8 tyX8 tyX8_ok nmX8 hown hK hP (xD hi) hS 109 (xg_11 rfl) rfl 6 (by decide) (hts _ mw_126) (fun _ h9 => h9) rfl (by decide +kernel) rfl rfl (Nat.le_of_ble_eq_true rfl) dX8_nextToken_51 (fun H locs hP hD hS => ?_)
    have hP : va_P D vwCl (xW G (ms τ 109 6 (τ 109 5))) H := by rw [← xs_11_6 rfl]; exact hP
    refine lv_aload_n hx hb dX8_nextToken_54 rfl (lv_at hl 0 rfl) ?_
    refine lv_aload_n hx hb dX8_nextToken_55 rfl (lv_at hl 0 rfl) ?_
    refine lv_aload_n hx hb dX8_nextToken_56 rfl (lv_at hl 0 rfl) ?_
    refine va_get (D := D) (ci := 8) (v := .int ((ms τ 109 6 (τ 109 5)) 109 5)) (C := RX8) (T := TX8) (N := 7) hx hb hts iwX8 hown hK hP 109 (xg_11 rfl) rfl 5 (by decide) (hts _ mw_125) (fun _ h9 => h9) rfl dX8_nextToken_57 ?_
    obtain ⟨xq9, hfq10, h⟩ := obd h
    refine va_calli (va_runV (As := [.int ((ms τ 109 6 (τ 109 5)) 109 5)]) (rest := [.ref (G.1 109)]) ⟨hx, hb, hml, hown, hts⟩ (kX8_kindAt l D G ub _ ((ms τ 109 6 (τ 109 5)) 109 5) xq9 hfq10) (cwV 1 hts (lwW_gV mw_362 mw_364 ms_2 mw_7 mw_365) rfl rfl rfl (by decide +kernel) ⟨Nat.le_of_ble_eq_true rfl, Nat.le_of_ble_eq_true rfl⟩) ⟨fun a U g mk q => ⟨q.1, xPre_call q.2⟩, va_recv hK hP rfl (xg_11 rfl), fun U hU hW => ⟨rfl, xPre_at h0 hS hP hU hW⟩⟩ rfl rfl hl.1 rfl (lv_room (Nat.le_of_ble_eq_true rfl)) dX8_nextToken_60 ⟨Nat.zero_le _, Nat.zero_le _⟩) hS (fun q _ h => h) (fun q h => h) (fun r u t H1 locs ht hvm hw hB hz1 hq1 hS => ?_)
    obtain ⟨rfl, rfl⟩ := hw
    have hP := hB.1
    rw [ht] at hP
    refine W.widen (k := 0) (n := 0) (Nat.le_refl _) (Nat.le_refl _) ?_
    refine va_put (D := D) (ci := 8) (v := .int xq9.1) (ty := .int) (C := RX8) (T := TX8) (N := 7) hx hb hts iwX8 tyX8 tyX8_ok nmX8 hown hK hP (xD hi) hS 109 (xg_11 rfl) rfl 4 (by decide) (hts _ mw_124) (fun _ h9 => h9) rfl (by decide +kernel) rfl rfl (Nat.le_of_ble_eq_true rfl) dX8_nextToken_63 (fun H locs hP hD hS => ?_)
    have hP : va_P D vwCl (xW G (ms xq9.2 109 4 xq9.1)) H := by rw [← xs_11_4 rfl]; exact hP
    refine lv_aload_n hx hb dX8_nextToken_66 rfl (lv_at hl 0 rfl) ?_
    refine va_get (D := D) (ci := 8) (v := .int ((ms xq9.2 109 4 xq9.1) 109 4)) (C := RX8) (T := TX8) (N := 7) hx hb hts iwX8 hown hK hP 109 (xg_11 rfl) rfl 4 (by decide) (hts _ mw_124) (fun _ h9 => h9) rfl dX8_nextToken_67 ?_
    refine lv_if_ne (tgt := 74) hx hb dX8_nextToken_70 (by decide) (fun hcq11 => ?_) (fun hcq11 => ?_)
    · have h := ifn hcq11 h
      refine lv_aload_n hx hb dX8_nextToken_74 rfl (lv_at hl 0 rfl) ?_
      refine lv_dup hx hb dX8_nextToken_75 rfl ?_
      refine va_get (D := D) (ci := 8) (v := .int ((ms xq9.2 109 4 xq9.1) 109 6)) (C := RX8) (T := TX8) (N := 7) hx hb hts iwX8 hown hK hP 109 (xg_11 rfl) rfl 6 (by decide) (hts _ mw_126) (fun _ h9 => h9) rfl dX8_nextToken_76 ?_
      refine lv_iconst (v := 1) hx hb dX8_nextToken_79 (by decide) ?_
      refine lv_iadd hx hb dX8_nextToken_80 ?_
      refine va_put (D := D) (ci := 8) (v := .int (((ms xq9.2 109 4 xq9.1) 109 6) + 1)) (ty := .int) (C := RX8) (T := TX8) (N := 7) hx hb hts iwX8 tyX8 tyX8_ok nmX8 hown hK hP (xD hi) hS 109 (xg_11 rfl) rfl 6 (by decide) (hts _ mw_126) (fun _ h9 => h9) rfl (by decide +kernel) rfl rfl (Nat.le_of_ble_eq_true rfl) dX8_nextToken_81 (fun H locs hP hD hS => ?_)
      have hP : va_P D vwCl (xW G (ms (ms xq9.2 109 4 xq9.1) 109 6 (((ms xq9.2 109 4 xq9.1) 109 6) + 1))) H := by rw [← xs_11_6 rfl]; exact hP
      refine lv_aload_n hx hb dX8_nextToken_84 rfl (lv_at hl 0 rfl) ?_
      refine va_get (D := D) (ci := 8) (v := .int ((ms (ms xq9.2 109 4 xq9.1) 109 6 (((ms xq9.2 109 4 xq9.1) 109 6) + 1)) 109 4)) (C := RX8) (T := TX8) (N := 7) hx hb hts iwX8 hown hK hP 109 (xg_11 rfl) rfl 4 (by decide) (hts _ mw_124) (fun _ h9 => h9) rfl dX8_nextToken_85 ?_
      refine lv_iconst (v := 3) hx hb dX8_nextToken_88 (by decide) ?_
      refine lv_icmp_ne (tgt := 93) hx hb dX8_nextToken_89 (by decide) (fun hcq12 => ?_) (fun hcq12 => ?_)
      · have h := ifn hcq12 h
        refine lv_iconst (v := 0) hx hb dX8_nextToken_93 (by decide) ?_
        refine lv_istore_n (lv' := [(1, .int 0), (0, .ref (G.1 109))]) hx hb dX8_nextToken_94 rfl hl (by decide) rfl (fun ls hl => ?_)
        exact L95 FU 0 _ _ _ _ h hP hS (lv_sub hl [1, 0] rfl)
      have h := ifp hcq12 h
      obtain rfl := Option.some.inj h
      exact W.vret hx hb hr (fun t ht hW => ⟨⟨_, rfl, rfl, xPre_at h0 hS hP ht hW⟩, hS.F ht⟩) hS.2.2 dX8_nextToken_92
    have h := ifp hcq11 h
    obtain rfl := Option.some.inj h
    exact W.vret hx hb hr (fun t ht hW => ⟨⟨_, rfl, rfl, xPre_at h0 hS hP ht hW⟩, hS.F ht⟩) hS.2.2 dX8_nextToken_73
  have L10 : ∀ (n10 : Nat) (v1 : Int32) (τ : QMem) (H : Heap) (locs : List Loc) (ls : Array Slot), fX8_nextToken_L10 n10 v1 τ = some res → va_P D vwCl (xW G τ) H → va_S (xA G) s.heap H locs → lv_has ls 2 [(0, .ref (G.1 109)), (1, .int v1)] → W p l e (headSpec (.code yX8_nextToken cX8_nextToken 2 none :: lwW) (rmD 2)).room s m ([.ref (G.1 109)] : List Value).toArray below meth c H locs 0 0 (MQ below (xQv D G ub res) ([.ref (G.1 109)] : List Value).toArray s 0 0 (xA G)) (F0 m 10 ls []) := by
    intro n10
    induction n10 with
    | zero => intro v1 τ H locs ls h; rw [fX8_nextToken_L10] at h; cases h
    | succ n10 ih10 =>
      intro v1 τ H locs ls h hP hS hl
      rw [fX8_nextToken_L10] at h
      refine lv_iload_n hx hb dX8_nextToken_10 rfl (lv_at hl 1 rfl) ?_
      refine lv_sipush (v := 200) hx hb dX8_nextToken_11 (by decide) ?_
      refine lv_icmp_ge (tgt := 46) hx hb dX8_nextToken_14 (by decide) (fun hcq13 => ?_) (fun hcq13 => ?_)
      · have h := ifp hcq13 h
        exact J46 _ _ _ _ h hP hS (lv_sub hl [0] rfl)
      have h := ifn hcq13 h
      refine lv_aload_n hx hb dX8_nextToken_17 rfl (lv_at hl 0 rfl) ?_
      refine lv_aload_n hx hb dX8_nextToken_18 rfl (lv_at hl 0 rfl) ?_
      refine va_get (D := D) (ci := 8) (v := .int (τ 109 5)) (C := RX8) (T := TX8) (N := 7) hx hb hts iwX8 hown hK hP 109 (xg_11 rfl) rfl 5 (by decide) (hts _ mw_125) (fun _ h9 => h9) rfl dX8_nextToken_19 ?_
      obtain ⟨xq14, hfq15, h⟩ := obd h
      refine va_calli (va_runV (As := [.int (τ 109 5)]) (rest := []) ⟨hx, hb, hml, hown, hts⟩ (kX8_letterAt l D G ub _ (τ 109 5) xq14 hfq15) (cwV 1 hts (lwW_gV mw_358 mw_360 ms_1 mw_7 mw_361) rfl rfl rfl (by decide +kernel) ⟨Nat.le_of_ble_eq_true rfl, Nat.le_of_ble_eq_true rfl⟩) ⟨fun a U g mk q => ⟨q.1, xPre_call q.2⟩, va_recv hK hP rfl (xg_11 rfl), fun U hU hW => ⟨rfl, xPre_at h0 hS hP hU hW⟩⟩ rfl rfl hl.1 rfl (lv_room (Nat.le_of_ble_eq_true rfl)) dX8_nextToken_22 ⟨Nat.zero_le _, Nat.zero_le _⟩) hS (fun q _ h => h) (fun q h => h) (fun r u t H1 locs ht hvm hw hB hz1 hq1 hS => ?_)
      obtain ⟨rfl, rfl⟩ := hw
      have hP := hB.1
      rw [ht] at hP
      refine W.widen (k := 0) (n := 0) (Nat.le_refl _) (Nat.le_refl _) ?_
      refine lv_bipush (v := 32) hx hb dX8_nextToken_25 (by decide) ?_
      refine lv_icmp_ne (tgt := 46) hx hb dX8_nextToken_27 (by decide) (fun hcq16 => ?_) (fun hcq16 => ?_)
      · have h := ifn hcq16 h
        exact J46 _ _ _ _ h hP hS (lv_sub hl [0] rfl)
      have h := ifp hcq16 h
      refine lv_aload_n hx hb dX8_nextToken_30 rfl (lv_at hl 0 rfl) ?_
      refine lv_dup hx hb dX8_nextToken_31 rfl ?_
      refine va_get (D := D) (ci := 8) (v := .int (xq14.2 109 5)) (C := RX8) (T := TX8) (N := 7) hx hb hts iwX8 hown hK hP 109 (xg_11 rfl) rfl 5 (by decide) (hts _ mw_125) (fun _ h9 => h9) rfl dX8_nextToken_32 ?_
      refine lv_iconst (v := 1) hx hb dX8_nextToken_35 (by decide) ?_
      refine lv_iadd hx hb dX8_nextToken_36 ?_
      refine va_put (D := D) (ci := 8) (v := .int ((xq14.2 109 5) + 1)) (ty := .int) (C := RX8) (T := TX8) (N := 7) hx hb hts iwX8 tyX8 tyX8_ok nmX8 hown hK hP (xD hi) hS 109 (xg_11 rfl) rfl 5 (by decide) (hts _ mw_125) (fun _ h9 => h9) rfl (by decide +kernel) rfl rfl (Nat.le_of_ble_eq_true rfl) dX8_nextToken_37 (fun H locs hP hD hS => ?_)
      have hP : va_P D vwCl (xW G (ms xq14.2 109 5 ((xq14.2 109 5) + 1))) H := by rw [← xs_11_5 rfl]; exact hP
      refine lv_iinc (v := v1 + 1) (lv' := [(1, .int (v1 + 1)), (0, .ref (G.1 109))]) hx hb dX8_nextToken_40 hl (k := 1) rfl rfl (by decide) rfl (fun ls hl => ?_)
      refine lv_goto (tgt := 10) hx hb dX8_nextToken_43 (by decide) ?_
      exact ih10 (v1 + 1) _ _ _ _ h hP hS (lv_sub hl [1, 0] rfl)
  refine lv_aload_n hx hb dX8_nextToken_0 rfl (lv_at hl 0 rfl) ?_
  refine lv_aload_n hx hb dX8_nextToken_1 rfl (lv_at hl 0 rfl) ?_
  refine va_get (D := D) (ci := 8) (v := .int (σ 109 6)) (C := RX8) (T := TX8) (N := 7) hx hb hts iwX8 hown hK hP 109 (xg_11 rfl) rfl 6 (by decide) (hts _ mw_126) (fun _ h9 => h9) rfl dX8_nextToken_2 ?_
  refine va_put (D := D) (ci := 8) (v := .int (σ 109 6)) (ty := .int) (C := RX8) (T := TX8) (N := 7) hx hb hts iwX8 tyX8 tyX8_ok nmX8 hown hK hP (xD hi) hS 109 (xg_11 rfl) rfl 5 (by decide) (hts _ mw_125) (fun _ h9 => h9) rfl (by decide +kernel) rfl rfl (Nat.le_of_ble_eq_true rfl) dX8_nextToken_5 (fun H locs hP hD hS => ?_)
  have hP : va_P D vwCl (xW G (ms σ 109 5 (σ 109 6))) H := by rw [← xs_11_5 rfl]; exact hP
  refine lv_iconst (v := 0) hx hb dX8_nextToken_8 (by decide) ?_
  refine lv_istore_n (lv' := [(1, .int 0), (0, .ref (G.1 109))]) hx hb dX8_nextToken_9 rfl hl (by decide) rfl (fun ls hl => ?_)
  exact L10 FU 0 _ _ _ _ h hP hS (lv_sub hl [1, 0] rfl)
def fX8_isName_L28 (p1 : Nat) : Nat → Int32 → QMem → Option (Int32 × QMem)
  | 0, _, _ => none
  | n + 1, v2, τ =>
  (fJ0_length_8abf5 p1 τ).bind fun xq1 => (if xq1.1 ≤ v2 then (some (1, xq1.2)) else ((fX8_letterAt ((xq1.2 109 5) + v2) xq1.2).bind fun xq4 => ((fJ0_charAt_5068e p1 v2 xq4.2).bind fun xq6 => (if xq4.1 = xq6.1 then ((fX8_isName_L28 p1 n) (v2 + 1) xq6.2) else (some (0, xq6.2))))))
def fX8_isName (p1 : Nat) (σ : QMem) : Option (Int32 × QMem) :=
  if (σ 109 4) = 1 then ((fJ0_length_8abf5 p1 σ).bind fun xq10 => (if ((σ 109 6) - (σ 109 5)) = xq10.1 then (fX8_isName_L28 p1 FU 0 xq10.2) else (some (0, xq10.2)))) else (some (0, σ))
set_option maxHeartbeats 4000000 in
set_option maxRecDepth 100000 in
theorem kX8_isName (l : Launch) (D : va_G) (G : xG) (ub : xB) (σ : QMem) (p1 : Nat) (hp1 : p1 < 4) (res : Int32 × QMem) (h : fX8_isName p1 σ = some res) : Met l yX8_isName (.code yX8_isName cX8_isName 3 (some .boolean) :: lwW) (rmD 4) (xPc D G ub σ [.ref (G.1 109), .ref (ub.2.1 p1)]) (xQi D G ub res) 0 0 (xA G) := by
  refine Met.ofW (cc := cX8_isName) (maxL := 3) (ret := (some .boolean)) (by decide) rfl ?_
  intro p e s m args below meth c s₁ B hml hv
  obtain ⟨rfl, h0⟩ := hv
  have hx := B.exec
  have hb := B.bytes
  have hr := B.returns
  have hts := fun (w : Cond) (hw : w ∈ lwW) => atoms_spec (ws := (.code yX8_isName cX8_isName 3 (some .boolean) :: lwW)) B.pre w (List.mem_cons_of_mem _ hw)
  have hown : s.vm.findClass RX8 = some m.cls := findClass_of_methodNamed B.named
  have hlocks := B.notSynchronized
  have hP := h0.1
  have hK := h0.2.1
  have hi := h0.2.2.1
  have hZ := h0.2.2.2
  have hN := h0.2.2.2.2.2.2.2.1
  have hV := h0.2.2.2.2.2.2.2.2.1
  have hS : va_S (xA G) s.heap s.heap [] := va_S.rf
  have hl := lv_entry ([.ref (G.1 109), .ref (ub.2.1 p1)]) (n := 3) (Nat.le_of_ble_eq_true rfl)
  rw [lg_entry_eq]
  generalize (lg_sl ([.ref (G.1 109), .ref (ub.2.1 p1)]) ++ List.replicate (3 - (lg_sl ([.ref (G.1 109), .ref (ub.2.1 p1)])).length) Slot.unset).toArray = ls at hl ⊢
  have hl : lv_has ls 3 [(0, .ref (G.1 109)), (1, .ref (ub.2.1 p1))] := hl
  unfold fX8_isName at h
  have L28 : ∀ (n28 : Nat) (v2 : Int32) (τ : QMem) (H : Heap) (locs : List Loc) (ls : Array Slot), fX8_isName_L28 p1 n28 v2 τ = some res → va_P D vwCl (xW G τ) H → va_S (xA G) s.heap H locs → lv_has ls 3 [(0, .ref (G.1 109)), (1, .ref (ub.2.1 p1)), (2, .int v2)] → W p l e (headSpec (.code yX8_isName cX8_isName 3 (some .boolean) :: lwW) (rmD 4)).room s m ([.ref (G.1 109), .ref (ub.2.1 p1)] : List Value).toArray below meth c H locs 0 0 (MQ below (xQi D G ub res) ([.ref (G.1 109), .ref (ub.2.1 p1)] : List Value).toArray s 0 0 (xA G)) (F0 m 28 ls []) := by
    intro n28
    induction n28 with
    | zero => intro v2 τ H locs ls h; rw [fX8_isName_L28] at h; cases h
    | succ n28 ih28 =>
      intro v2 τ H locs ls h hP hS hl
      rw [fX8_isName_L28] at h
      refine lv_iload_n hx hb dX8_isName_28 rfl (lv_at hl 2 rfl) ?_
      refine lv_aload_n hx hb dX8_isName_29 rfl (lv_at hl 1 rfl) ?_
      obtain ⟨xq1, hfq2, h⟩ := obd h
      refine va_calli (va_runV (As := []) (rest := [.int v2]) ⟨hx, hb, hml, hown, hts⟩ (kJ0_length_8abf5 l D G ub _ p1 hp1 xq1 hfq2) (cwV 0 hts (lwW_gV mw_379 mw_380 mw_381 mw_15 mw_382) rfl rfl rfl (by decide +kernel) ⟨Nat.le_of_ble_eq_true rfl, Nat.le_of_ble_eq_true rfl⟩) ⟨fun a U g mk q => ⟨q.1, xPre_call q.2⟩, vk_recv hV hp1 hS, fun U hU hW => ⟨rfl, xPre_at h0 hS hP hU hW⟩⟩ rfl rfl hl.1 rfl (lv_room (Nat.le_of_ble_eq_true rfl)) dX8_isName_30 ⟨Nat.zero_le _, Nat.zero_le _⟩) hS (fun q _ h => h) (fun q h => h) (fun r u t H1 locs ht hvm hw hB hz1 hq1 hS => ?_)
      obtain ⟨rfl, rfl⟩ := hw
      have hP := hB.1
      rw [ht] at hP
      refine W.widen (k := 0) (n := 0) (Nat.le_refl _) (Nat.le_refl _) ?_
      refine lv_icmp_ge (tgt := 62) hx hb dX8_isName_33 (by decide) (fun hcq3 => ?_) (fun hcq3 => ?_)
      · have h := ifp hcq3 h
        refine lv_iconst (v := 1) hx hb dX8_isName_62 (by decide) ?_
        obtain rfl := Option.some.inj h
        exact W.zret hx hb hr rfl (fun t ht hW => ⟨⟨_, _, rfl, ⟨rfl, rfl⟩, xPre_at h0 hS hP ht hW⟩, hS.F ht⟩) hS.2.2 dX8_isName_63
      have h := ifn hcq3 h
      refine lv_aload_n hx hb dX8_isName_36 rfl (lv_at hl 0 rfl) ?_
      refine lv_aload_n hx hb dX8_isName_37 rfl (lv_at hl 0 rfl) ?_
      refine va_get (D := D) (ci := 8) (v := .int (xq1.2 109 5)) (C := RX8) (T := TX8) (N := 7) hx hb hts iwX8 hown hK hP 109 (xg_11 rfl) rfl 5 (by decide) (hts _ mw_125) (fun _ h9 => h9) rfl dX8_isName_38 ?_
      refine lv_iload_n hx hb dX8_isName_41 rfl (lv_at hl 2 rfl) ?_
      refine lv_iadd hx hb dX8_isName_42 ?_
      obtain ⟨xq4, hfq5, h⟩ := obd h
      refine va_calli (va_runV (As := [.int ((xq1.2 109 5) + v2)]) (rest := []) ⟨hx, hb, hml, hown, hts⟩ (kX8_letterAt l D G ub _ ((xq1.2 109 5) + v2) xq4 hfq5) (cwV 1 hts (lwW_gV mw_358 mw_360 ms_1 mw_7 mw_361) rfl rfl rfl (by decide +kernel) ⟨Nat.le_of_ble_eq_true rfl, Nat.le_of_ble_eq_true rfl⟩) ⟨fun a U g mk q => ⟨q.1, xPre_call q.2⟩, va_recv hK hP rfl (xg_11 rfl), fun U hU hW => ⟨rfl, xPre_at h0 hS hP hU hW⟩⟩ rfl rfl hl.1 rfl (lv_room (Nat.le_of_ble_eq_true rfl)) dX8_isName_43 ⟨Nat.zero_le _, Nat.zero_le _⟩) hS (fun q _ h => h) (fun q h => h) (fun r u t H1 locs ht hvm hw hB hz1 hq1 hS => ?_)
      obtain ⟨rfl, rfl⟩ := hw
      have hP := hB.1
      rw [ht] at hP
      refine W.widen (k := 0) (n := 0) (Nat.le_refl _) (Nat.le_refl _) ?_
      refine lv_aload_n hx hb dX8_isName_46 rfl (lv_at hl 1 rfl) ?_
      refine lv_iload_n hx hb dX8_isName_47 rfl (lv_at hl 2 rfl) ?_
      obtain ⟨xq6, hfq7, h⟩ := obd h
      refine va_calli (va_runV (As := [.int v2]) (rest := [.int xq4.1]) ⟨hx, hb, hml, hown, hts⟩ (kJ0_charAt_5068e l D G ub _ p1 hp1 v2 xq6 hfq7) (cwV 1 hts (lwW_gV mw_389 mw_390 mw_391 mw_15 mw_392) rfl rfl rfl (by decide +kernel) ⟨Nat.le_of_ble_eq_true rfl, Nat.le_of_ble_eq_true rfl⟩) ⟨fun a U g mk q => ⟨q.1, xPre_call q.2⟩, vk_recv hV hp1 hS, fun U hU hW => ⟨rfl, xPre_at h0 hS hP hU hW⟩⟩ rfl rfl hl.1 rfl (lv_room (Nat.le_of_ble_eq_true rfl)) dX8_isName_48 ⟨Nat.zero_le _, Nat.zero_le _⟩) hS (fun q _ h => h) (fun q h => h) (fun r u t H1 locs ht hvm hw hB hz1 hq1 hS => ?_)
      obtain ⟨rfl, rfl⟩ := hw
      have hP := hB.1
      rw [ht] at hP
      refine W.widen (k := 0) (n := 0) (Nat.le_refl _) (Nat.le_refl _) ?_
      refine lv_icmp_eq (tgt := 56) hx hb dX8_isName_51 (by decide) (fun hcq8 => ?_) (fun hcq8 => ?_)
      · have h := ifp hcq8 h
        refine lv_iinc (v := v2 + 1) (lv' := [(2, .int (v2 + 1)), (0, .ref (G.1 109)), (1, .ref (ub.2.1 p1))]) hx hb dX8_isName_56 hl (k := 2) rfl rfl (by decide) rfl (fun ls hl => ?_)
        refine lv_goto (tgt := 28) hx hb dX8_isName_59 (by decide) ?_
        exact ih28 (v2 + 1) _ _ _ _ h hP hS (lv_sub hl [1, 2, 0] rfl)
      have h := ifn hcq8 h
      refine lv_iconst (v := 0) hx hb dX8_isName_54 (by decide) ?_
      obtain rfl := Option.some.inj h
      exact W.zret hx hb hr rfl (fun t ht hW => ⟨⟨_, _, rfl, ⟨rfl, rfl⟩, xPre_at h0 hS hP ht hW⟩, hS.F ht⟩) hS.2.2 dX8_isName_55
  refine lv_aload_n hx hb dX8_isName_0 rfl (lv_at hl 0 rfl) ?_
  refine va_get (D := D) (ci := 8) (v := .int (σ 109 4)) (C := RX8) (T := TX8) (N := 7) hx hb hts iwX8 hown hK hP 109 (xg_11 rfl) rfl 4 (by decide) (hts _ mw_124) (fun _ h9 => h9) rfl dX8_isName_1 ?_
  refine lv_iconst (v := 1) hx hb dX8_isName_4 (by decide) ?_
  refine lv_icmp_ne (tgt := 24) hx hb dX8_isName_5 (by decide) (fun hcq9 => ?_) (fun hcq9 => ?_)
  · have h := ifn hcq9 h
    refine lv_iconst (v := 0) hx hb dX8_isName_24 (by decide) ?_
    obtain rfl := Option.some.inj h
    exact W.zret hx hb hr rfl (fun t ht hW => ⟨⟨_, _, rfl, ⟨rfl, rfl⟩, xPre_at h0 hS hP ht hW⟩, hS.F ht⟩) hS.2.2 dX8_isName_25
  have h := ifp hcq9 h
  refine lv_aload_n hx hb dX8_isName_8 rfl (lv_at hl 0 rfl) ?_
  refine va_get (D := D) (ci := 8) (v := .int (σ 109 6)) (C := RX8) (T := TX8) (N := 7) hx hb hts iwX8 hown hK hP 109 (xg_11 rfl) rfl 6 (by decide) (hts _ mw_126) (fun _ h9 => h9) rfl dX8_isName_9 ?_
  refine lv_aload_n hx hb dX8_isName_12 rfl (lv_at hl 0 rfl) ?_
  refine va_get (D := D) (ci := 8) (v := .int (σ 109 5)) (C := RX8) (T := TX8) (N := 7) hx hb hts iwX8 hown hK hP 109 (xg_11 rfl) rfl 5 (by decide) (hts _ mw_125) (fun _ h9 => h9) rfl dX8_isName_13 ?_
  refine lv_isub hx hb dX8_isName_16 ?_
  refine lv_aload_n hx hb dX8_isName_17 rfl (lv_at hl 1 rfl) ?_
  obtain ⟨xq10, hfq11, h⟩ := obd h
  refine va_calli (va_runV (As := []) (rest := [.int ((σ 109 6) - (σ 109 5))]) ⟨hx, hb, hml, hown, hts⟩ (kJ0_length_8abf5 l D G ub _ p1 hp1 xq10 hfq11) (cwV 0 hts (lwW_gV mw_379 mw_380 mw_381 mw_15 mw_382) rfl rfl rfl (by decide +kernel) ⟨Nat.le_of_ble_eq_true rfl, Nat.le_of_ble_eq_true rfl⟩) ⟨fun a U g mk q => ⟨q.1, xPre_call q.2⟩, vk_recv hV hp1 hS, fun U hU hW => ⟨rfl, xPre_at h0 hS hP hU hW⟩⟩ rfl rfl hl.1 rfl (lv_room (Nat.le_of_ble_eq_true rfl)) dX8_isName_18 ⟨Nat.zero_le _, Nat.zero_le _⟩) hS (fun q _ h => h) (fun q h => h) (fun r u t H1 locs ht hvm hw hB hz1 hq1 hS => ?_)
  obtain ⟨rfl, rfl⟩ := hw
  have hP := hB.1
  rw [ht] at hP
  refine W.widen (k := 0) (n := 0) (Nat.le_refl _) (Nat.le_refl _) ?_
  refine lv_icmp_eq (tgt := 26) hx hb dX8_isName_21 (by decide) (fun hcq12 => ?_) (fun hcq12 => ?_)
  · have h := ifp hcq12 h
    refine lv_iconst (v := 0) hx hb dX8_isName_26 (by decide) ?_
    refine lv_istore_n (lv' := [(2, .int 0), (0, .ref (G.1 109)), (1, .ref (ub.2.1 p1))]) hx hb dX8_isName_27 rfl hl (by decide) rfl (fun ls hl => ?_)
    exact L28 FU 0 _ _ _ _ h hP hS (lv_sub hl [1, 2, 0] rfl)
  have h := ifn hcq12 h
  refine lv_iconst (v := 0) hx hb dX8_isName_24 (by decide) ?_
  obtain rfl := Option.some.inj h
  exact W.zret hx hb hr rfl (fun t ht hW => ⟨⟨_, _, rfl, ⟨rfl, rfl⟩, xPre_at h0 hS hP ht hW⟩, hS.F ht⟩) hS.2.2 dX8_isName_25
def fX8_tokenNumber_J66 (p1 : Int32) (v3 : Int32) (τ : QMem) : Option (Int32 × QMem) :=
  if p1 < v3 then (some ((-1), τ)) else (some (v3, τ))
def fX8_tokenNumber (p1 : Int32) (σ : QMem) : Option (Int32 × QMem) :=
  if (σ 109 4) = 2 then (if ((σ 109 6) - (σ 109 5)) < 1 then (some ((-1), σ)) else (if ((σ 109 6) - (σ 109 5)) ≤ 2 then ((fX8_letterAt (σ 109 5) σ).bind fun xq6 => (if ((σ 109 6) - (σ 109 5)) = 2 then ((fX8_letterAt ((xq6.2 109 5) + 1) xq6.2).bind fun xq9 => (fX8_tokenNumber_J66 p1 (((10 * (xq6.1 - 48)) + xq9.1) - 48) xq9.2)) else (fX8_tokenNumber_J66 p1 (xq6.1 - 48) xq6.2))) else (some ((-1), σ)))) else (some ((-1), σ))
set_option maxHeartbeats 4000000 in
set_option maxRecDepth 100000 in
theorem kX8_tokenNumber (l : Launch) (D : va_G) (G : xG) (ub : xB) (σ : QMem) (p1 : Int32) (res : Int32 × QMem) (h : fX8_tokenNumber p1 σ = some res) : Met l yX8_tokenNumber (.code yX8_tokenNumber cX8_tokenNumber 4 (some .int) :: lwW) (rmD 1) (xPc D G ub σ [.ref (G.1 109), .int p1]) (xQi D G ub res) 0 0 (xA G) := by
  refine Met.ofW (cc := cX8_tokenNumber) (maxL := 4) (ret := (some .int)) (by decide) rfl ?_
  intro p e s m args below meth c s₁ B hml hv
  obtain ⟨rfl, h0⟩ := hv
  have hx := B.exec
  have hb := B.bytes
  have hr := B.returns
  have hts := fun (w : Cond) (hw : w ∈ lwW) => atoms_spec (ws := (.code yX8_tokenNumber cX8_tokenNumber 4 (some .int) :: lwW)) B.pre w (List.mem_cons_of_mem _ hw)
  have hown : s.vm.findClass RX8 = some m.cls := findClass_of_methodNamed B.named
  have hlocks := B.notSynchronized
  have hP := h0.1
  have hK := h0.2.1
  have hi := h0.2.2.1
  have hZ := h0.2.2.2
  have hN := h0.2.2.2.2.2.2.2.1
  have hV := h0.2.2.2.2.2.2.2.2.1
  have hS : va_S (xA G) s.heap s.heap [] := va_S.rf
  have hl := lv_entry ([.ref (G.1 109), .int p1]) (n := 4) (Nat.le_of_ble_eq_true rfl)
  rw [lg_entry_eq]
  generalize (lg_sl ([.ref (G.1 109), .int p1]) ++ List.replicate (4 - (lg_sl ([.ref (G.1 109), .int p1])).length) Slot.unset).toArray = ls at hl ⊢
  have hl : lv_has ls 4 [(0, .ref (G.1 109)), (1, .int p1)] := hl
  unfold fX8_tokenNumber at h
  have J66 : ∀ (v3 : Int32) (τ : QMem) (H : Heap) (locs : List Loc) (ls : Array Slot), fX8_tokenNumber_J66 p1 v3 τ = some res → va_P D vwCl (xW G τ) H → va_S (xA G) s.heap H locs → lv_has ls 4 [(1, .int p1), (3, .int v3)] → W p l e (headSpec (.code yX8_tokenNumber cX8_tokenNumber 4 (some .int) :: lwW) (rmD 1)).room s m ([.ref (G.1 109), .int p1] : List Value).toArray below meth c H locs 0 0 (MQ below (xQi D G ub res) ([.ref (G.1 109), .int p1] : List Value).toArray s 0 0 (xA G)) (F0 m 66 ls []) := by
    intro v3 τ H locs ls h hP hS hl
    unfold fX8_tokenNumber_J66 at h
    refine lv_iload_n hx hb dX8_tokenNumber_66 rfl (lv_at hl 1 rfl) ?_
    refine lv_iload_n hx hb dX8_tokenNumber_67 rfl (lv_at hl 0 rfl) ?_
    refine lv_icmp_gt (tgt := 75) hx hb dX8_tokenNumber_68 (by decide) (fun hcq2 => ?_) (fun hcq2 => ?_)
    · have h := ifp hcq2 h
      refine lv_iconst (v := (-1)) hx hb dX8_tokenNumber_75 (by decide) ?_
      obtain rfl := Option.some.inj h
      exact W.iret (v := (-1)) hx hb hr (fun t ht hW => ⟨⟨_, _, rfl, ⟨rfl, rfl⟩, xPre_at h0 hS hP ht hW⟩, hS.F ht⟩) hS.2.2 dX8_tokenNumber_76
    have h := ifn hcq2 h
    refine lv_iload_n hx hb dX8_tokenNumber_71 rfl (lv_at hl 1 rfl) ?_
    refine lv_goto (tgt := 76) hx hb dX8_tokenNumber_72 (by decide) ?_
    obtain rfl := Option.some.inj h
    exact W.iret (v := v3) hx hb hr (fun t ht hW => ⟨⟨_, _, rfl, ⟨rfl, rfl⟩, xPre_at h0 hS hP ht hW⟩, hS.F ht⟩) hS.2.2 dX8_tokenNumber_76
  refine lv_aload_n hx hb dX8_tokenNumber_0 rfl (lv_at hl 0 rfl) ?_
  refine va_get (D := D) (ci := 8) (v := .int (σ 109 6)) (C := RX8) (T := TX8) (N := 7) hx hb hts iwX8 hown hK hP 109 (xg_11 rfl) rfl 6 (by decide) (hts _ mw_126) (fun _ h9 => h9) rfl dX8_tokenNumber_1 ?_
  refine lv_aload_n hx hb dX8_tokenNumber_4 rfl (lv_at hl 0 rfl) ?_
  refine va_get (D := D) (ci := 8) (v := .int (σ 109 5)) (C := RX8) (T := TX8) (N := 7) hx hb hts iwX8 hown hK hP 109 (xg_11 rfl) rfl 5 (by decide) (hts _ mw_125) (fun _ h9 => h9) rfl dX8_tokenNumber_5 ?_
  refine lv_isub hx hb dX8_tokenNumber_8 ?_
  refine lv_istore_n (lv' := [(2, .int ((σ 109 6) - (σ 109 5))), (0, .ref (G.1 109)), (1, .int p1)]) hx hb dX8_tokenNumber_9 rfl hl (by decide) rfl (fun ls hl => ?_)
  refine lv_aload_n hx hb dX8_tokenNumber_10 rfl (lv_at hl 1 rfl) ?_
  refine va_get (D := D) (ci := 8) (v := .int (σ 109 4)) (C := RX8) (T := TX8) (N := 7) hx hb hts iwX8 hown hK hP 109 (xg_11 rfl) rfl 4 (by decide) (hts _ mw_124) (fun _ h9 => h9) rfl dX8_tokenNumber_11 ?_
  refine lv_iconst (v := 2) hx hb dX8_tokenNumber_14 (by decide) ?_
  refine lv_icmp_ne (tgt := 28) hx hb dX8_tokenNumber_15 (by decide) (fun hcq3 => ?_) (fun hcq3 => ?_)
  · have h := ifn hcq3 h
    refine lv_iconst (v := (-1)) hx hb dX8_tokenNumber_28 (by decide) ?_
    obtain rfl := Option.some.inj h
    exact W.iret (v := (-1)) hx hb hr (fun t ht hW => ⟨⟨_, _, rfl, ⟨rfl, rfl⟩, xPre_at h0 hS hP ht hW⟩, hS.F ht⟩) hS.2.2 dX8_tokenNumber_29
  have h := ifp hcq3 h
  refine lv_iload_n hx hb dX8_tokenNumber_18 rfl (lv_at hl 0 rfl) ?_
  refine lv_iconst (v := 1) hx hb dX8_tokenNumber_19 (by decide) ?_
  refine lv_icmp_lt (tgt := 28) hx hb dX8_tokenNumber_20 (by decide) (fun hcq4 => ?_) (fun hcq4 => ?_)
  · have h := ifp hcq4 h
    refine lv_iconst (v := (-1)) hx hb dX8_tokenNumber_28 (by decide) ?_
    obtain rfl := Option.some.inj h
    exact W.iret (v := (-1)) hx hb hr (fun t ht hW => ⟨⟨_, _, rfl, ⟨rfl, rfl⟩, xPre_at h0 hS hP ht hW⟩, hS.F ht⟩) hS.2.2 dX8_tokenNumber_29
  have h := ifn hcq4 h
  refine lv_iload_n hx hb dX8_tokenNumber_23 rfl (lv_at hl 0 rfl) ?_
  refine lv_iconst (v := 2) hx hb dX8_tokenNumber_24 (by decide) ?_
  refine lv_icmp_le (tgt := 30) hx hb dX8_tokenNumber_25 (by decide) (fun hcq5 => ?_) (fun hcq5 => ?_)
  · have h := ifp hcq5 h
    refine lv_aload_n hx hb dX8_tokenNumber_30 rfl (lv_at hl 1 rfl) ?_
    refine lv_aload_n hx hb dX8_tokenNumber_31 rfl (lv_at hl 1 rfl) ?_
    refine va_get (D := D) (ci := 8) (v := .int (σ 109 5)) (C := RX8) (T := TX8) (N := 7) hx hb hts iwX8 hown hK hP 109 (xg_11 rfl) rfl 5 (by decide) (hts _ mw_125) (fun _ h9 => h9) rfl dX8_tokenNumber_32 ?_
    obtain ⟨xq6, hfq7, h⟩ := obd h
    refine va_calli (va_runV (As := [.int (σ 109 5)]) (rest := []) ⟨hx, hb, hml, hown, hts⟩ (kX8_letterAt l D G ub _ (σ 109 5) xq6 hfq7) (cwV 1 hts (lwW_gV mw_358 mw_360 ms_1 mw_7 mw_361) rfl rfl rfl (by decide +kernel) ⟨Nat.le_of_ble_eq_true rfl, Nat.le_of_ble_eq_true rfl⟩) ⟨fun a U g mk q => ⟨q.1, xPre_call q.2⟩, va_recv hK hP rfl (xg_11 rfl), fun U hU hW => ⟨rfl, xPre_at h0 hS hP hU hW⟩⟩ rfl rfl hl.1 rfl (lv_room (Nat.le_of_ble_eq_true rfl)) dX8_tokenNumber_35 ⟨Nat.zero_le _, Nat.zero_le _⟩) hS (fun q _ h => h) (fun q h => h) (fun r u t H1 locs ht hvm hw hB hz1 hq1 hS => ?_)
    obtain ⟨rfl, rfl⟩ := hw
    have hP := hB.1
    rw [ht] at hP
    refine W.widen (k := 0) (n := 0) (Nat.le_refl _) (Nat.le_refl _) ?_
    refine lv_bipush (v := 48) hx hb dX8_tokenNumber_38 (by decide) ?_
    refine lv_isub hx hb dX8_tokenNumber_40 ?_
    refine lv_istore_n (lv' := [(3, .int (xq6.1 - 48)), (2, .int ((σ 109 6) - (σ 109 5))), (0, .ref (G.1 109)), (1, .int p1)]) hx hb dX8_tokenNumber_41 rfl hl (by decide) rfl (fun ls hl => ?_)
    refine lv_iload_n hx hb dX8_tokenNumber_42 rfl (lv_at hl 1 rfl) ?_
    refine lv_iconst (v := 2) hx hb dX8_tokenNumber_43 (by decide) ?_
    refine lv_icmp_ne (tgt := 66) hx hb dX8_tokenNumber_44 (by decide) (fun hcq8 => ?_) (fun hcq8 => ?_)
    · have h := ifn hcq8 h
      exact J66 (xq6.1 - 48) _ _ _ _ h hP hS (lv_sub hl [3, 0] rfl)
    have h := ifp hcq8 h
    refine lv_bipush (v := 10) hx hb dX8_tokenNumber_47 (by decide) ?_
    refine lv_iload_n hx hb dX8_tokenNumber_49 rfl (lv_at hl 0 rfl) ?_
    refine lv_imul hx hb dX8_tokenNumber_50 ?_
    refine lv_aload_n hx hb dX8_tokenNumber_51 rfl (lv_at hl 2 rfl) ?_
    refine lv_aload_n hx hb dX8_tokenNumber_52 rfl (lv_at hl 2 rfl) ?_
    refine va_get (D := D) (ci := 8) (v := .int (xq6.2 109 5)) (C := RX8) (T := TX8) (N := 7) hx hb hts iwX8 hown hK hP 109 (xg_11 rfl) rfl 5 (by decide) (hts _ mw_125) (fun _ h9 => h9) rfl dX8_tokenNumber_53 ?_
    refine lv_iconst (v := 1) hx hb dX8_tokenNumber_56 (by decide) ?_
    refine lv_iadd hx hb dX8_tokenNumber_57 ?_
    obtain ⟨xq9, hfq10, h⟩ := obd h
    refine va_calli (va_runV (As := [.int ((xq6.2 109 5) + 1)]) (rest := [.int (10 * (xq6.1 - 48))]) ⟨hx, hb, hml, hown, hts⟩ (kX8_letterAt l D G ub _ ((xq6.2 109 5) + 1) xq9 hfq10) (cwV 1 hts (lwW_gV mw_358 mw_360 ms_1 mw_7 mw_361) rfl rfl rfl (by decide +kernel) ⟨Nat.le_of_ble_eq_true rfl, Nat.le_of_ble_eq_true rfl⟩) ⟨fun a U g mk q => ⟨q.1, xPre_call q.2⟩, va_recv hK hP rfl (xg_11 rfl), fun U hU hW => ⟨rfl, xPre_at h0 hS hP hU hW⟩⟩ rfl rfl hl.1 rfl (lv_room (Nat.le_of_ble_eq_true rfl)) dX8_tokenNumber_58 ⟨Nat.zero_le _, Nat.zero_le _⟩) hS (fun q _ h => h) (fun q h => h) (fun r u t H1 locs ht hvm hw hB hz1 hq1 hS => ?_)
    obtain ⟨rfl, rfl⟩ := hw
    have hP := hB.1
    rw [ht] at hP
    refine W.widen (k := 0) (n := 0) (Nat.le_refl _) (Nat.le_refl _) ?_
    refine lv_iadd hx hb dX8_tokenNumber_61 ?_
    refine lv_bipush (v := 48) hx hb dX8_tokenNumber_62 (by decide) ?_
    refine lv_isub hx hb dX8_tokenNumber_64 ?_
    refine lv_istore_n (lv' := [(3, .int (((10 * (xq6.1 - 48)) + xq9.1) - 48)), (2, .int ((σ 109 6) - (σ 109 5))), (0, .ref (G.1 109)), (1, .int p1)]) hx hb dX8_tokenNumber_65 rfl hl (by decide) rfl (fun ls hl => ?_)
    exact J66 (((10 * (xq6.1 - 48)) + xq9.1) - 48) _ _ _ _ h hP hS (lv_sub hl [3, 0] rfl)
  have h := ifn hcq5 h
  refine lv_iconst (v := (-1)) hx hb dX8_tokenNumber_28 (by decide) ?_
  obtain rfl := Option.some.inj h
  exact W.iret (v := (-1)) hx hb hr (fun t ht hW => ⟨⟨_, _, rfl, ⟨rfl, rfl⟩, xPre_at h0 hS hP ht hW⟩, hS.F ht⟩) hS.2.2 dX8_tokenNumber_29
def fX8_readNumber (p1 : Int32) (p2 : Int32) (p3 : Int32) (σ : QMem) : Option (Int32 × QMem) :=
  (fX8_tokenNumber p3 σ).bind fun xq1 => (if 0 ≤ xq1.1 then ((fX8_putWord p1 p2 xq1.1 xq1.2).bind fun xq4 => ((fX8_nextToken xq4).bind fun xq6 => (some (1, xq6)))) else (some (0, xq1.2)))
set_option maxHeartbeats 4000000 in
set_option maxRecDepth 100000 in
theorem kX8_readNumber (l : Launch) (D : va_G) (G : xG) (ub : xB) (σ : QMem) (p1 : Int32) (p2 : Int32) (p3 : Int32) (res : Int32 × QMem) (h : fX8_readNumber p1 p2 p3 σ = some res) : Met l yX8_readNumber (.code yX8_readNumber cX8_readNumber 5 (some .boolean) :: lwW) (rmD 3) (xPc D G ub σ [.ref (G.1 109), .int p1, .int p2, .int p3]) (xQi D G ub res) 0 0 (xA G) := by
  refine Met.ofW (cc := cX8_readNumber) (maxL := 5) (ret := (some .boolean)) (by decide) rfl ?_
  intro p e s m args below meth c s₁ B hml hv
  obtain ⟨rfl, h0⟩ := hv
  have hx := B.exec
  have hb := B.bytes
  have hr := B.returns
  have hts := fun (w : Cond) (hw : w ∈ lwW) => atoms_spec (ws := (.code yX8_readNumber cX8_readNumber 5 (some .boolean) :: lwW)) B.pre w (List.mem_cons_of_mem _ hw)
  have hown : s.vm.findClass RX8 = some m.cls := findClass_of_methodNamed B.named
  have hlocks := B.notSynchronized
  have hP := h0.1
  have hK := h0.2.1
  have hi := h0.2.2.1
  have hZ := h0.2.2.2
  have hN := h0.2.2.2.2.2.2.2.1
  have hV := h0.2.2.2.2.2.2.2.2.1
  have hS : va_S (xA G) s.heap s.heap [] := va_S.rf
  have hl := lv_entry ([.ref (G.1 109), .int p1, .int p2, .int p3]) (n := 5) (Nat.le_of_ble_eq_true rfl)
  rw [lg_entry_eq]
  generalize (lg_sl ([.ref (G.1 109), .int p1, .int p2, .int p3]) ++ List.replicate (5 - (lg_sl ([.ref (G.1 109), .int p1, .int p2, .int p3])).length) Slot.unset).toArray = ls at hl ⊢
  have hl : lv_has ls 5 [(0, .ref (G.1 109)), (1, .int p1), (2, .int p2), (3, .int p3)] := hl
  unfold fX8_readNumber at h
  refine lv_aload_n hx hb dX8_readNumber_0 rfl (lv_at hl 0 rfl) ?_
  refine lv_iload_n hx hb dX8_readNumber_1 rfl (lv_at hl 3 rfl) ?_
  obtain ⟨xq1, hfq2, h⟩ := obd h
  refine va_calli (va_runV (As := [.int p3]) (rest := []) ⟨hx, hb, hml, hown, hts⟩ (kX8_tokenNumber l D G ub _ p3 xq1 hfq2) (cwV 1 hts (lwW_gV mw_432 mw_434 ms_7 mw_7 mw_435) rfl rfl rfl (by decide +kernel) ⟨Nat.le_of_ble_eq_true rfl, Nat.le_of_ble_eq_true rfl⟩) ⟨fun a U g mk q => ⟨q.1, xPre_call q.2⟩, va_recv hK hP rfl (xg_11 rfl), fun U hU hW => ⟨rfl, xPre_at h0 hS hP hU hW⟩⟩ rfl rfl hl.1 rfl (lv_room (Nat.le_of_ble_eq_true rfl)) dX8_readNumber_2 ⟨Nat.zero_le _, Nat.zero_le _⟩) hS (fun q _ h => h) (fun q h => h) (fun r u t H1 locs ht hvm hw hB hz1 hq1 hS => ?_)
  obtain ⟨rfl, rfl⟩ := hw
  have hP := hB.1
  rw [ht] at hP
  refine W.widen (k := 0) (n := 0) (Nat.le_refl _) (Nat.le_refl _) ?_
  refine lv_istore (lv' := [(4, .int xq1.1), (0, .ref (G.1 109)), (1, .int p1), (2, .int p2), (3, .int p3)]) hx hb dX8_readNumber_5 hl (by decide) rfl (fun ls hl => ?_)
  refine lv_iload hx hb dX8_readNumber_7 (lv_at hl 0 rfl) ?_
  refine lv_if_ge (tgt := 14) hx hb dX8_readNumber_9 (by decide) (fun hcq3 => ?_) (fun hcq3 => ?_)
  · have h := ifp hcq3 h
    refine lv_aload_n hx hb dX8_readNumber_14 rfl (lv_at hl 1 rfl) ?_
    refine lv_iload_n hx hb dX8_readNumber_15 rfl (lv_at hl 2 rfl) ?_
    refine lv_iload_n hx hb dX8_readNumber_16 rfl (lv_at hl 3 rfl) ?_
    refine lv_iload hx hb dX8_readNumber_17 (lv_at hl 0 rfl) ?_
    obtain ⟨xq4, hfq5, h⟩ := obd h
    refine va_callv (va_runV (As := [.int p1, .int p2, .int xq1.1]) (rest := []) ⟨hx, hb, hml, hown, hts⟩ (kX8_putWord l D G ub _ p1 p2 xq1.1 xq4 hfq5) (cwV 3 hts (lwW_gV mw_370 mw_372 ms_4 mw_7 mw_373) rfl rfl rfl (by decide +kernel) ⟨Nat.le_of_ble_eq_true rfl, Nat.le_of_ble_eq_true rfl⟩) ⟨fun a U g mk q => ⟨q.1, xPre_call q.2⟩, va_recv hK hP rfl (xg_11 rfl), fun U hU hW => ⟨rfl, xPre_at h0 hS hP hU hW⟩⟩ rfl rfl hl.1 rfl (lv_room (Nat.le_of_ble_eq_true rfl)) dX8_readNumber_19 ⟨Nat.zero_le _, Nat.zero_le _⟩) hS (fun q _ h => h) (fun q h => h) (fun u t H1 locs ht hvm hw hB hz1 hq1 hS => ?_)
    obtain rfl := hw.symm
    have hP := hB.1
    rw [ht] at hP
    refine W.widen (k := 0) (n := 0) (Nat.le_refl _) (Nat.le_refl _) ?_
    refine lv_aload_n hx hb dX8_readNumber_22 rfl (lv_at hl 1 rfl) ?_
    obtain ⟨xq6, hfq7, h⟩ := obd h
    refine va_callv (va_runV (As := []) (rest := []) ⟨hx, hb, hml, hown, hts⟩ (kX8_nextToken l D G ub _ xq6 hfq7) (cwV 0 hts (lwW_gV mw_354 mw_356 ms_0 mw_7 mw_357) rfl rfl rfl (by decide +kernel) ⟨Nat.le_of_ble_eq_true rfl, Nat.le_of_ble_eq_true rfl⟩) ⟨fun a U g mk q => ⟨q.1, xPre_call q.2⟩, va_recv hK hP rfl (xg_11 rfl), fun U hU hW => ⟨rfl, xPre_at h0 hS hP hU hW⟩⟩ rfl rfl hl.1 rfl (lv_room (Nat.le_of_ble_eq_true rfl)) dX8_readNumber_23 ⟨Nat.zero_le _, Nat.zero_le _⟩) hS (fun q _ h => h) (fun q h => h) (fun u t H1 locs ht hvm hw hB hz1 hq1 hS => ?_)
    obtain rfl := hw.symm
    have hP := hB.1
    rw [ht] at hP
    refine W.widen (k := 0) (n := 0) (Nat.le_refl _) (Nat.le_refl _) ?_
    refine lv_iconst (v := 1) hx hb dX8_readNumber_26 (by decide) ?_
    obtain rfl := Option.some.inj h
    exact W.zret hx hb hr rfl (fun t ht hW => ⟨⟨_, _, rfl, ⟨rfl, rfl⟩, xPre_at h0 hS hP ht hW⟩, hS.F ht⟩) hS.2.2 dX8_readNumber_27
  have h := ifn hcq3 h
  refine lv_iconst (v := 0) hx hb dX8_readNumber_12 (by decide) ?_
  obtain rfl := Option.some.inj h
  exact W.zret hx hb hr rfl (fun t ht hW => ⟨⟨_, _, rfl, ⟨rfl, rfl⟩, xPre_at h0 hS hP ht hW⟩, hS.F ht⟩) hS.2.2 dX8_readNumber_13
def fX8_isSign (p1 : Int32) (σ : QMem) : Option (Int32 × QMem) :=
  if (σ 109 4) = 3 then ((fX8_letterAt (σ 109 5) σ).bind fun xq2 => (if xq2.1 = p1 then (some (1, xq2.2)) else (some (0, xq2.2)))) else (some (0, σ))
set_option maxHeartbeats 4000000 in
set_option maxRecDepth 100000 in
theorem kX8_isSign (l : Launch) (D : va_G) (G : xG) (ub : xB) (σ : QMem) (p1 : Int32) (res : Int32 × QMem) (h : fX8_isSign p1 σ = some res) : Met l yX8_isSign (.code yX8_isSign cX8_isSign 2 (some .boolean) :: lwW) (rmD 1) (xPc D G ub σ [.ref (G.1 109), .int p1]) (xQi D G ub res) 0 0 (xA G) := by
  refine Met.ofW (cc := cX8_isSign) (maxL := 2) (ret := (some .boolean)) (by decide) rfl ?_
  intro p e s m args below meth c s₁ B hml hv
  obtain ⟨rfl, h0⟩ := hv
  have hx := B.exec
  have hb := B.bytes
  have hr := B.returns
  have hts := fun (w : Cond) (hw : w ∈ lwW) => atoms_spec (ws := (.code yX8_isSign cX8_isSign 2 (some .boolean) :: lwW)) B.pre w (List.mem_cons_of_mem _ hw)
  have hown : s.vm.findClass RX8 = some m.cls := findClass_of_methodNamed B.named
  have hlocks := B.notSynchronized
  have hP := h0.1
  have hK := h0.2.1
  have hi := h0.2.2.1
  have hZ := h0.2.2.2
  have hN := h0.2.2.2.2.2.2.2.1
  have hV := h0.2.2.2.2.2.2.2.2.1
  have hS : va_S (xA G) s.heap s.heap [] := va_S.rf
  have hl := lv_entry ([.ref (G.1 109), .int p1]) (n := 2) (Nat.le_of_ble_eq_true rfl)
  rw [lg_entry_eq]
  generalize (lg_sl ([.ref (G.1 109), .int p1]) ++ List.replicate (2 - (lg_sl ([.ref (G.1 109), .int p1])).length) Slot.unset).toArray = ls at hl ⊢
  have hl : lv_has ls 2 [(0, .ref (G.1 109)), (1, .int p1)] := hl
  unfold fX8_isSign at h
  refine lv_aload_n hx hb dX8_isSign_0 rfl (lv_at hl 0 rfl) ?_
  refine va_get (D := D) (ci := 8) (v := .int (σ 109 4)) (C := RX8) (T := TX8) (N := 7) hx hb hts iwX8 hown hK hP 109 (xg_11 rfl) rfl 4 (by decide) (hts _ mw_124) (fun _ h9 => h9) rfl dX8_isSign_1 ?_
  refine lv_iconst (v := 3) hx hb dX8_isSign_4 (by decide) ?_
  refine lv_icmp_ne (tgt := 24) hx hb dX8_isSign_5 (by decide) (fun hcq1 => ?_) (fun hcq1 => ?_)
  · have h := ifn hcq1 h
    refine lv_iconst (v := 0) hx hb dX8_isSign_24 (by decide) ?_
    obtain rfl := Option.some.inj h
    exact W.zret hx hb hr rfl (fun t ht hW => ⟨⟨_, _, rfl, ⟨rfl, rfl⟩, xPre_at h0 hS hP ht hW⟩, hS.F ht⟩) hS.2.2 dX8_isSign_25
  have h := ifp hcq1 h
  refine lv_aload_n hx hb dX8_isSign_8 rfl (lv_at hl 0 rfl) ?_
  refine lv_aload_n hx hb dX8_isSign_9 rfl (lv_at hl 0 rfl) ?_
  refine va_get (D := D) (ci := 8) (v := .int (σ 109 5)) (C := RX8) (T := TX8) (N := 7) hx hb hts iwX8 hown hK hP 109 (xg_11 rfl) rfl 5 (by decide) (hts _ mw_125) (fun _ h9 => h9) rfl dX8_isSign_10 ?_
  obtain ⟨xq2, hfq3, h⟩ := obd h
  refine va_calli (va_runV (As := [.int (σ 109 5)]) (rest := []) ⟨hx, hb, hml, hown, hts⟩ (kX8_letterAt l D G ub _ (σ 109 5) xq2 hfq3) (cwV 1 hts (lwW_gV mw_358 mw_360 ms_1 mw_7 mw_361) rfl rfl rfl (by decide +kernel) ⟨Nat.le_of_ble_eq_true rfl, Nat.le_of_ble_eq_true rfl⟩) ⟨fun a U g mk q => ⟨q.1, xPre_call q.2⟩, va_recv hK hP rfl (xg_11 rfl), fun U hU hW => ⟨rfl, xPre_at h0 hS hP hU hW⟩⟩ rfl rfl hl.1 rfl (lv_room (Nat.le_of_ble_eq_true rfl)) dX8_isSign_13 ⟨Nat.zero_le _, Nat.zero_le _⟩) hS (fun q _ h => h) (fun q h => h) (fun r u t H1 locs ht hvm hw hB hz1 hq1 hS => ?_)
  obtain ⟨rfl, rfl⟩ := hw
  have hP := hB.1
  rw [ht] at hP
  refine W.widen (k := 0) (n := 0) (Nat.le_refl _) (Nat.le_refl _) ?_
  refine lv_iload_n hx hb dX8_isSign_16 rfl (lv_at hl 1 rfl) ?_
  refine lv_icmp_ne (tgt := 24) hx hb dX8_isSign_17 (by decide) (fun hcq4 => ?_) (fun hcq4 => ?_)
  · have h := ifn hcq4 h
    refine lv_iconst (v := 0) hx hb dX8_isSign_24 (by decide) ?_
    obtain rfl := Option.some.inj h
    exact W.zret hx hb hr rfl (fun t ht hW => ⟨⟨_, _, rfl, ⟨rfl, rfl⟩, xPre_at h0 hS hP ht hW⟩, hS.F ht⟩) hS.2.2 dX8_isSign_25
  have h := ifp hcq4 h
  refine lv_iconst (v := 1) hx hb dX8_isSign_20 (by decide) ?_
  refine lv_goto (tgt := 25) hx hb dX8_isSign_21 (by decide) ?_
  obtain rfl := Option.some.inj h
  exact W.zret hx hb hr rfl (fun t ht hW => ⟨⟨_, _, rfl, ⟨rfl, rfl⟩, xPre_at h0 hS hP ht hW⟩, hS.F ht⟩) hS.2.2 dX8_isSign_25
def fX8_readParts_J108 (p1 : Int32) (K7 : Int32 → Int32 → Int32 → QMem → Option (Int32 × QMem)) (v2 : Int32) (v3 : Int32) (v4 : Int32) (s1 : Int32) (s2 : Int32) (s3 : Int32) (τ : QMem) : Option (Int32 × QMem) :=
  (fX8_putWord s1 s2 s3 τ).bind fun xq1 => ((fX8_nextToken xq1).bind fun xq3 => (K7 v2 v3 (v4 + 1) xq3))
def fX8_readParts_J89 (p1 : Int32) (K7 : Int32 → Int32 → Int32 → QMem → Option (Int32 × QMem)) (v2 : Int32) (v3 : Int32) (v4 : Int32) (v5 : Int32) (v6 : Int32) (τ : QMem) : Option (Int32 × QMem) :=
  if v5 = 0 then (fX8_readParts_J108 p1 K7 v2 v3 v4 p1 (2 + v4) v6 τ) else (fX8_readParts_J108 p1 K7 v2 v3 v4 p1 (2 + v4) (-v6) τ)
def fX8_readParts_J56 (p1 : Int32) (K7 : Int32 → Int32 → Int32 → QMem → Option (Int32 × QMem)) (v3 : Int32) (v4 : Int32) (v5 : Int32) (v6 : Int32) (s0 : Int32) (τ : QMem) : Option (Int32 × QMem) :=
  if ((v6 ^^^ s0) &&& 1) = 0 then (if v4 = 3 then (if (v3 + (v6 * v6)) ≤ 600 then (fX8_readParts_J89 p1 K7 s0 (v3 + (v6 * v6)) v4 v5 v6 τ) else (some (0, τ))) else (fX8_readParts_J89 p1 K7 s0 (v3 + (v6 * v6)) v4 v5 v6 τ)) else (some (0, τ))
def fX8_readParts_J30 (p1 : Int32) (K7 : Int32 → Int32 → Int32 → QMem → Option (Int32 × QMem)) (v2 : Int32) (v3 : Int32) (v4 : Int32) (v5 : Int32) (τ : QMem) : Option (Int32 × QMem) :=
  (fX8_tokenNumber 24 τ).bind fun xq17 => (if 0 ≤ xq17.1 then (if v4 = 0 then (fX8_readParts_J56 p1 K7 v3 v4 v5 xq17.1 xq17.1 xq17.2) else (fX8_readParts_J56 p1 K7 v3 v4 v5 xq17.1 v2 xq17.2)) else (some (0, xq17.2)))
def fX8_readParts_L7 (p1 : Int32) : Nat → Int32 → Int32 → Int32 → QMem → Option (Int32 × QMem)
  | 0, _, _, _, _ => none
  | n + 1, v2, v3, v4, τ =>
  if 4 ≤ v4 then (some (1, τ)) else ((fX8_isSign 45 τ).bind fun xq26 => (if xq26.1 = 0 then (fX8_readParts_J30 p1 (fX8_readParts_L7 p1 n) v2 v3 v4 xq26.1 xq26.2) else ((fX8_nextToken xq26.2).bind fun xq29 => (fX8_readParts_J30 p1 (fX8_readParts_L7 p1 n) v2 v3 v4 xq26.1 xq29))))
def fX8_readParts (p1 : Int32) (σ : QMem) : Option (Int32 × QMem) :=
  fX8_readParts_L7 p1 FU 0 0 0 σ
set_option maxHeartbeats 4000000 in
set_option maxRecDepth 100000 in
theorem kX8_readParts (l : Launch) (D : va_G) (G : xG) (ub : xB) (σ : QMem) (p1 : Int32) (res : Int32 × QMem) (h : fX8_readParts p1 σ = some res) : Met l yX8_readParts (.code yX8_readParts cX8_readParts 7 (some .boolean) :: lwW) (rmD 3) (xPc D G ub σ [.ref (G.1 109), .int p1]) (xQi D G ub res) 0 0 (xA G) := by
  refine Met.ofW (cc := cX8_readParts) (maxL := 7) (ret := (some .boolean)) (by decide) rfl ?_
  intro p e s m args below meth c s₁ B hml hv
  obtain ⟨rfl, h0⟩ := hv
  have hx := B.exec
  have hb := B.bytes
  have hr := B.returns
  have hts := fun (w : Cond) (hw : w ∈ lwW) => atoms_spec (ws := (.code yX8_readParts cX8_readParts 7 (some .boolean) :: lwW)) B.pre w (List.mem_cons_of_mem _ hw)
  have hown : s.vm.findClass RX8 = some m.cls := findClass_of_methodNamed B.named
  have hlocks := B.notSynchronized
  have hP := h0.1
  have hK := h0.2.1
  have hi := h0.2.2.1
  have hZ := h0.2.2.2
  have hN := h0.2.2.2.2.2.2.2.1
  have hV := h0.2.2.2.2.2.2.2.2.1
  have hS : va_S (xA G) s.heap s.heap [] := va_S.rf
  have hl := lv_entry ([.ref (G.1 109), .int p1]) (n := 7) (Nat.le_of_ble_eq_true rfl)
  rw [lg_entry_eq]
  generalize (lg_sl ([.ref (G.1 109), .int p1]) ++ List.replicate (7 - (lg_sl ([.ref (G.1 109), .int p1])).length) Slot.unset).toArray = ls at hl ⊢
  have hl : lv_has ls 7 [(0, .ref (G.1 109)), (1, .int p1)] := hl
  unfold fX8_readParts at h
  have L7 : ∀ (n7 : Nat) (v2 : Int32) (v3 : Int32) (v4 : Int32) (τ : QMem) (H : Heap) (locs : List Loc) (ls : Array Slot), fX8_readParts_L7 p1 n7 v2 v3 v4 τ = some res → va_P D vwCl (xW G τ) H → va_S (xA G) s.heap H locs → lv_has ls 7 [(0, .ref (G.1 109)), (1, .int p1), (2, .int v2), (3, .int v3), (4, .int v4)] → W p l e (headSpec (.code yX8_readParts cX8_readParts 7 (some .boolean) :: lwW) (rmD 3)).room s m ([.ref (G.1 109), .int p1] : List Value).toArray below meth c H locs 0 0 (MQ below (xQi D G ub res) ([.ref (G.1 109), .int p1] : List Value).toArray s 0 0 (xA G)) (F0 m 7 ls []) := by
    intro n7
    induction n7 with
    | zero => intro v2 v3 v4 τ H locs ls h; rw [fX8_readParts_L7] at h; cases h
    | succ n7 ih7 =>
      intro v2 v3 v4 τ H locs ls h hP hS hl
      rw [fX8_readParts_L7] at h
      have J108 : ∀ (v2 : Int32) (v3 : Int32) (v4 : Int32) (s1 : Int32) (s2 : Int32) (s3 : Int32) (τ : QMem) (H : Heap) (locs : List Loc) (ls : Array Slot), fX8_readParts_J108 p1 (fX8_readParts_L7 p1 n7) v2 v3 v4 s1 s2 s3 τ = some res → va_P D vwCl (xW G τ) H → va_S (xA G) s.heap H locs → lv_has ls 7 [(0, .ref (G.1 109)), (1, .int p1), (2, .int v2), (3, .int v3), (4, .int v4)] → W p l e (headSpec (.code yX8_readParts cX8_readParts 7 (some .boolean) :: lwW) (rmD 3)).room s m ([.ref (G.1 109), .int p1] : List Value).toArray below meth c H locs 0 0 (MQ below (xQi D G ub res) ([.ref (G.1 109), .int p1] : List Value).toArray s 0 0 (xA G)) (F0 m 108 ls [.int s3, .int s2, .int s1, .ref (G.1 109)]) := by
        intro v2 v3 v4 s1 s2 s3 τ H locs ls h hP hS hl
        unfold fX8_readParts_J108 at h
        obtain ⟨xq5, hfq6, h⟩ := obd h
        refine va_callv (va_runV (As := [.int s1, .int s2, .int s3]) (rest := []) ⟨hx, hb, hml, hown, hts⟩ (kX8_putWord l D G ub _ s1 s2 s3 xq5 hfq6) (cwV 3 hts (lwW_gV mw_370 mw_372 ms_4 mw_7 mw_373) rfl rfl rfl (by decide +kernel) ⟨Nat.le_of_ble_eq_true rfl, Nat.le_of_ble_eq_true rfl⟩) ⟨fun a U g mk q => ⟨q.1, xPre_call q.2⟩, va_recv hK hP rfl (xg_11 rfl), fun U hU hW => ⟨rfl, xPre_at h0 hS hP hU hW⟩⟩ rfl rfl hl.1 rfl (lv_room (Nat.le_of_ble_eq_true rfl)) dX8_readParts_108 ⟨Nat.zero_le _, Nat.zero_le _⟩) hS (fun q _ h => h) (fun q h => h) (fun u t H1 locs ht hvm hw hB hz1 hq1 hS => ?_)
        obtain rfl := hw.symm
        have hP := hB.1
        rw [ht] at hP
        refine W.widen (k := 0) (n := 0) (Nat.le_refl _) (Nat.le_refl _) ?_
        refine lv_aload_n hx hb dX8_readParts_111 rfl (lv_at hl 0 rfl) ?_
        obtain ⟨xq7, hfq8, h⟩ := obd h
        refine va_callv (va_runV (As := []) (rest := []) ⟨hx, hb, hml, hown, hts⟩ (kX8_nextToken l D G ub _ xq7 hfq8) (cwV 0 hts (lwW_gV mw_354 mw_356 ms_0 mw_7 mw_357) rfl rfl rfl (by decide +kernel) ⟨Nat.le_of_ble_eq_true rfl, Nat.le_of_ble_eq_true rfl⟩) ⟨fun a U g mk q => ⟨q.1, xPre_call q.2⟩, va_recv hK hP rfl (xg_11 rfl), fun U hU hW => ⟨rfl, xPre_at h0 hS hP hU hW⟩⟩ rfl rfl hl.1 rfl (lv_room (Nat.le_of_ble_eq_true rfl)) dX8_readParts_112 ⟨Nat.zero_le _, Nat.zero_le _⟩) hS (fun q _ h => h) (fun q h => h) (fun u t H1 locs ht hvm hw hB hz1 hq1 hS => ?_)
        obtain rfl := hw.symm
        have hP := hB.1
        rw [ht] at hP
        refine W.widen (k := 0) (n := 0) (Nat.le_refl _) (Nat.le_refl _) ?_
        refine lv_iinc (v := v4 + 1) (lv' := [(4, .int (v4 + 1)), (0, .ref (G.1 109)), (1, .int p1), (2, .int v2), (3, .int v3)]) hx hb dX8_readParts_115 hl (k := 4) rfl rfl (by decide) rfl (fun ls hl => ?_)
        refine lv_goto (tgt := 7) hx hb dX8_readParts_118 (by decide) ?_
        exact ih7 v2 v3 (v4 + 1) _ _ _ _ h hP hS (lv_sub hl [1, 2, 3, 4, 0] rfl)
      have J89 : ∀ (v2 : Int32) (v3 : Int32) (v4 : Int32) (v5 : Int32) (v6 : Int32) (τ : QMem) (H : Heap) (locs : List Loc) (ls : Array Slot), fX8_readParts_J89 p1 (fX8_readParts_L7 p1 n7) v2 v3 v4 v5 v6 τ = some res → va_P D vwCl (xW G τ) H → va_S (xA G) s.heap H locs → lv_has ls 7 [(0, .ref (G.1 109)), (1, .int p1), (2, .int v2), (3, .int v3), (4, .int v4), (5, .int v5), (6, .int v6)] → W p l e (headSpec (.code yX8_readParts cX8_readParts 7 (some .boolean) :: lwW) (rmD 3)).room s m ([.ref (G.1 109), .int p1] : List Value).toArray below meth c H locs 0 0 (MQ below (xQi D G ub res) ([.ref (G.1 109), .int p1] : List Value).toArray s 0 0 (xA G)) (F0 m 89 ls []) := by
        intro v2 v3 v4 v5 v6 τ H locs ls h hP hS hl
        unfold fX8_readParts_J89 at h
        refine lv_aload_n hx hb dX8_readParts_89 rfl (lv_at hl 0 rfl) ?_
        refine lv_iload_n hx hb dX8_readParts_90 rfl (lv_at hl 1 rfl) ?_
        refine lv_iconst (v := 2) hx hb dX8_readParts_91 (by decide) ?_
        refine lv_iload hx hb dX8_readParts_92 (lv_at hl 4 rfl) ?_
        refine lv_iadd hx hb dX8_readParts_94 ?_
        refine lv_iload hx hb dX8_readParts_95 (lv_at hl 5 rfl) ?_
        refine lv_if_eq (tgt := 106) hx hb dX8_readParts_97 (by decide) (fun hcq10 => ?_) (fun hcq10 => ?_)
        · have h := ifp hcq10 h
          refine lv_iload hx hb dX8_readParts_106 (lv_at hl 6 rfl) ?_
          exact J108 v2 v3 v4 p1 (2 + v4) v6 _ _ _ _ h hP hS (lv_sub hl [0, 1, 2, 3, 4] rfl)
        have h := ifn hcq10 h
        refine lv_iload hx hb dX8_readParts_100 (lv_at hl 6 rfl) ?_
        refine lv_ineg hx hb dX8_readParts_102 ?_
        refine lv_goto (tgt := 108) hx hb dX8_readParts_103 (by decide) ?_
        exact J108 v2 v3 v4 p1 (2 + v4) (-v6) _ _ _ _ h hP hS (lv_sub hl [0, 1, 2, 3, 4] rfl)
      have J56 : ∀ (v3 : Int32) (v4 : Int32) (v5 : Int32) (v6 : Int32) (s0 : Int32) (τ : QMem) (H : Heap) (locs : List Loc) (ls : Array Slot), fX8_readParts_J56 p1 (fX8_readParts_L7 p1 n7) v3 v4 v5 v6 s0 τ = some res → va_P D vwCl (xW G τ) H → va_S (xA G) s.heap H locs → lv_has ls 7 [(0, .ref (G.1 109)), (1, .int p1), (3, .int v3), (4, .int v4), (5, .int v5), (6, .int v6)] → W p l e (headSpec (.code yX8_readParts cX8_readParts 7 (some .boolean) :: lwW) (rmD 3)).room s m ([.ref (G.1 109), .int p1] : List Value).toArray below meth c H locs 0 0 (MQ below (xQi D G ub res) ([.ref (G.1 109), .int p1] : List Value).toArray s 0 0 (xA G)) (F0 m 56 ls [.int s0]) := by
        intro v3 v4 v5 v6 s0 τ H locs ls h hP hS hl
        unfold fX8_readParts_J56 at h
        refine lv_istore_n (lv' := [(2, .int s0), (0, .ref (G.1 109)), (1, .int p1), (3, .int v3), (4, .int v4), (5, .int v5), (6, .int v6)]) hx hb dX8_readParts_56 rfl hl (by decide) rfl (fun ls hl => ?_)
        refine lv_iload_n hx hb dX8_readParts_57 rfl (lv_at hl 3 rfl) ?_
        refine lv_iload hx hb dX8_readParts_58 (lv_at hl 6 rfl) ?_
        refine lv_iload hx hb dX8_readParts_60 (lv_at hl 6 rfl) ?_
        refine lv_imul hx hb dX8_readParts_62 ?_
        refine lv_iadd hx hb dX8_readParts_63 ?_
        refine lv_istore_n (lv' := [(3, .int (v3 + (v6 * v6))), (2, .int s0), (0, .ref (G.1 109)), (1, .int p1), (4, .int v4), (5, .int v5), (6, .int v6)]) hx hb dX8_readParts_64 rfl hl (by decide) rfl (fun ls hl => ?_)
        refine lv_iload hx hb dX8_readParts_65 (lv_at hl 6 rfl) ?_
        refine lv_iload_n hx hb dX8_readParts_67 rfl (lv_at hl 1 rfl) ?_
        refine lv_ixor hx hb dX8_readParts_68 ?_
        refine lv_iconst (v := 1) hx hb dX8_readParts_69 (by decide) ?_
        refine lv_iand hx hb dX8_readParts_70 ?_
        refine lv_if_ne (tgt := 87) hx hb dX8_readParts_71 (by decide) (fun hcq14 => ?_) (fun hcq14 => ?_)
        · have h := ifn hcq14 h
          refine lv_iconst (v := 0) hx hb dX8_readParts_87 (by decide) ?_
          obtain rfl := Option.some.inj h
          exact W.zret hx hb hr rfl (fun t ht hW => ⟨⟨_, _, rfl, ⟨rfl, rfl⟩, xPre_at h0 hS hP ht hW⟩, hS.F ht⟩) hS.2.2 dX8_readParts_88
        have h := ifp hcq14 h
        refine lv_iload hx hb dX8_readParts_74 (lv_at hl 4 rfl) ?_
        refine lv_iconst (v := 3) hx hb dX8_readParts_76 (by decide) ?_
        refine lv_icmp_ne (tgt := 89) hx hb dX8_readParts_77 (by decide) (fun hcq15 => ?_) (fun hcq15 => ?_)
        · have h := ifn hcq15 h
          exact J89 s0 (v3 + (v6 * v6)) v4 v5 v6 _ _ _ _ h hP hS (lv_sub hl [2, 3, 1, 0, 4, 5, 6] rfl)
        have h := ifp hcq15 h
        refine lv_iload_n hx hb dX8_readParts_80 rfl (lv_at hl 0 rfl) ?_
        refine lv_sipush (v := 600) hx hb dX8_readParts_81 (by decide) ?_
        refine lv_icmp_le (tgt := 89) hx hb dX8_readParts_84 (by decide) (fun hcq16 => ?_) (fun hcq16 => ?_)
        · have h := ifp hcq16 h
          exact J89 s0 (v3 + (v6 * v6)) v4 v5 v6 _ _ _ _ h hP hS (lv_sub hl [2, 3, 1, 0, 4, 5, 6] rfl)
        have h := ifn hcq16 h
        refine lv_iconst (v := 0) hx hb dX8_readParts_87 (by decide) ?_
        obtain rfl := Option.some.inj h
        exact W.zret hx hb hr rfl (fun t ht hW => ⟨⟨_, _, rfl, ⟨rfl, rfl⟩, xPre_at h0 hS hP ht hW⟩, hS.F ht⟩) hS.2.2 dX8_readParts_88
      have J30 : ∀ (v2 : Int32) (v3 : Int32) (v4 : Int32) (v5 : Int32) (τ : QMem) (H : Heap) (locs : List Loc) (ls : Array Slot), fX8_readParts_J30 p1 (fX8_readParts_L7 p1 n7) v2 v3 v4 v5 τ = some res → va_P D vwCl (xW G τ) H → va_S (xA G) s.heap H locs → lv_has ls 7 [(0, .ref (G.1 109)), (1, .int p1), (2, .int v2), (3, .int v3), (4, .int v4), (5, .int v5)] → W p l e (headSpec (.code yX8_readParts cX8_readParts 7 (some .boolean) :: lwW) (rmD 3)).room s m ([.ref (G.1 109), .int p1] : List Value).toArray below meth c H locs 0 0 (MQ below (xQi D G ub res) ([.ref (G.1 109), .int p1] : List Value).toArray s 0 0 (xA G)) (F0 m 30 ls []) := by
        intro v2 v3 v4 v5 τ H locs ls h hP hS hl
        unfold fX8_readParts_J30 at h
        refine lv_aload_n hx hb dX8_readParts_30 rfl (lv_at hl 0 rfl) ?_
        refine lv_bipush (v := 24) hx hb dX8_readParts_31 (by decide) ?_
        obtain ⟨xq21, hfq22, h⟩ := obd h
        refine va_calli (va_runV (As := [.int 24]) (rest := []) ⟨hx, hb, hml, hown, hts⟩ (kX8_tokenNumber l D G ub _ 24 xq21 hfq22) (cwV 1 hts (lwW_gV mw_432 mw_434 ms_7 mw_7 mw_435) rfl rfl rfl (by decide +kernel) ⟨Nat.le_of_ble_eq_true rfl, Nat.le_of_ble_eq_true rfl⟩) ⟨fun a U g mk q => ⟨q.1, xPre_call q.2⟩, va_recv hK hP rfl (xg_11 rfl), fun U hU hW => ⟨rfl, xPre_at h0 hS hP hU hW⟩⟩ rfl rfl hl.1 rfl (lv_room (Nat.le_of_ble_eq_true rfl)) dX8_readParts_33 ⟨Nat.zero_le _, Nat.zero_le _⟩) hS (fun q _ h => h) (fun q h => h) (fun r u t H1 locs ht hvm hw hB hz1 hq1 hS => ?_)
        obtain ⟨rfl, rfl⟩ := hw
        have hP := hB.1
        rw [ht] at hP
        refine W.widen (k := 0) (n := 0) (Nat.le_refl _) (Nat.le_refl _) ?_
        refine lv_istore (lv' := [(6, .int xq21.1), (0, .ref (G.1 109)), (1, .int p1), (2, .int v2), (3, .int v3), (4, .int v4), (5, .int v5)]) hx hb dX8_readParts_36 hl (by decide) rfl (fun ls hl => ?_)
        refine lv_iload hx hb dX8_readParts_38 (lv_at hl 0 rfl) ?_
        refine lv_if_ge (tgt := 45) hx hb dX8_readParts_40 (by decide) (fun hcq23 => ?_) (fun hcq23 => ?_)
        · have h := ifp hcq23 h
          refine lv_iload hx hb dX8_readParts_45 (lv_at hl 5 rfl) ?_
          refine lv_if_ne (tgt := 55) hx hb dX8_readParts_47 (by decide) (fun hcq24 => ?_) (fun hcq24 => ?_)
          · have h := ifn hcq24 h
            refine lv_iload_n hx hb dX8_readParts_55 rfl (lv_at hl 3 rfl) ?_
            exact J56 v3 v4 v5 xq21.1 v2 _ _ _ _ h hP hS (lv_sub hl [1, 2, 4, 5, 6, 0] rfl)
          have h := ifp hcq24 h
          refine lv_iload hx hb dX8_readParts_50 (lv_at hl 0 rfl) ?_
          refine lv_goto (tgt := 56) hx hb dX8_readParts_52 (by decide) ?_
          exact J56 v3 v4 v5 xq21.1 xq21.1 _ _ _ _ h hP hS (lv_sub hl [1, 2, 4, 5, 6, 0] rfl)
        have h := ifn hcq23 h
        refine lv_iconst (v := 0) hx hb dX8_readParts_43 (by decide) ?_
        obtain rfl := Option.some.inj h
        exact W.zret hx hb hr rfl (fun t ht hW => ⟨⟨_, _, rfl, ⟨rfl, rfl⟩, xPre_at h0 hS hP ht hW⟩, hS.F ht⟩) hS.2.2 dX8_readParts_44
      refine lv_iload hx hb dX8_readParts_7 (lv_at hl 4 rfl) ?_
      refine lv_iconst (v := 4) hx hb dX8_readParts_9 (by decide) ?_
      refine lv_icmp_ge (tgt := 121) hx hb dX8_readParts_10 (by decide) (fun hcq25 => ?_) (fun hcq25 => ?_)
      · have h := ifp hcq25 h
        refine lv_iconst (v := 1) hx hb dX8_readParts_121 (by decide) ?_
        obtain rfl := Option.some.inj h
        exact W.zret hx hb hr rfl (fun t ht hW => ⟨⟨_, _, rfl, ⟨rfl, rfl⟩, xPre_at h0 hS hP ht hW⟩, hS.F ht⟩) hS.2.2 dX8_readParts_122
      have h := ifn hcq25 h
      refine lv_aload_n hx hb dX8_readParts_13 rfl (lv_at hl 0 rfl) ?_
      refine lv_bipush (v := 45) hx hb dX8_readParts_14 (by decide) ?_
      obtain ⟨xq26, hfq27, h⟩ := obd h
      refine va_calli (va_runV (As := [.int 45]) (rest := []) ⟨hx, hb, hml, hown, hts⟩ (kX8_isSign l D G ub _ 45 xq26 hfq27) (cwV 1 hts (lwW_gV mw_440 mw_442 ms_9 mw_7 mw_443) rfl rfl rfl (by decide +kernel) ⟨Nat.le_of_ble_eq_true rfl, Nat.le_of_ble_eq_true rfl⟩) ⟨fun a U g mk q => ⟨q.1, xPre_call q.2⟩, va_recv hK hP rfl (xg_11 rfl), fun U hU hW => ⟨rfl, xPre_at h0 hS hP hU hW⟩⟩ rfl rfl hl.1 rfl (lv_room (Nat.le_of_ble_eq_true rfl)) dX8_readParts_16 ⟨Nat.zero_le _, Nat.zero_le _⟩) hS (fun q _ h => h) (fun q h => h) (fun r u t H1 locs ht hvm hw hB hz1 hq1 hS => ?_)
      obtain ⟨rfl, rfl⟩ := hw
      have hP := hB.1
      rw [ht] at hP
      refine W.widen (k := 0) (n := 0) (Nat.le_refl _) (Nat.le_refl _) ?_
      refine lv_istore (lv' := [(5, .int xq26.1), (0, .ref (G.1 109)), (1, .int p1), (2, .int v2), (3, .int v3), (4, .int v4)]) hx hb dX8_readParts_19 hl (by decide) rfl (fun ls hl => ?_)
      refine lv_iload hx hb dX8_readParts_21 (lv_at hl 0 rfl) ?_
      refine lv_if_eq (tgt := 30) hx hb dX8_readParts_23 (by decide) (fun hcq28 => ?_) (fun hcq28 => ?_)
      · have h := ifp hcq28 h
        exact J30 v2 v3 v4 xq26.1 _ _ _ _ h hP hS (lv_sub hl [1, 2, 3, 4, 5, 0] rfl)
      have h := ifn hcq28 h
      refine lv_aload_n hx hb dX8_readParts_26 rfl (lv_at hl 1 rfl) ?_
      obtain ⟨xq29, hfq30, h⟩ := obd h
      refine va_callv (va_runV (As := []) (rest := []) ⟨hx, hb, hml, hown, hts⟩ (kX8_nextToken l D G ub _ xq29 hfq30) (cwV 0 hts (lwW_gV mw_354 mw_356 ms_0 mw_7 mw_357) rfl rfl rfl (by decide +kernel) ⟨Nat.le_of_ble_eq_true rfl, Nat.le_of_ble_eq_true rfl⟩) ⟨fun a U g mk q => ⟨q.1, xPre_call q.2⟩, va_recv hK hP rfl (xg_11 rfl), fun U hU hW => ⟨rfl, xPre_at h0 hS hP hU hW⟩⟩ rfl rfl hl.1 rfl (lv_room (Nat.le_of_ble_eq_true rfl)) dX8_readParts_27 ⟨Nat.zero_le _, Nat.zero_le _⟩) hS (fun q _ h => h) (fun q h => h) (fun u t H1 locs ht hvm hw hB hz1 hq1 hS => ?_)
      obtain rfl := hw.symm
      have hP := hB.1
      rw [ht] at hP
      refine W.widen (k := 0) (n := 0) (Nat.le_refl _) (Nat.le_refl _) ?_
      exact J30 v2 v3 v4 xq26.1 _ _ _ _ h hP hS (lv_sub hl [1, 2, 3, 4, 5, 0] rfl)
  refine lv_iconst (v := 0) hx hb dX8_readParts_0 (by decide) ?_
  refine lv_istore_n (lv' := [(2, .int 0), (0, .ref (G.1 109)), (1, .int p1)]) hx hb dX8_readParts_1 rfl hl (by decide) rfl (fun ls hl => ?_)
  refine lv_iconst (v := 0) hx hb dX8_readParts_2 (by decide) ?_
  refine lv_istore_n (lv' := [(3, .int 0), (2, .int 0), (0, .ref (G.1 109)), (1, .int p1)]) hx hb dX8_readParts_3 rfl hl (by decide) rfl (fun ls hl => ?_)
  refine lv_iconst (v := 0) hx hb dX8_readParts_4 (by decide) ?_
  refine lv_istore (lv' := [(4, .int 0), (3, .int 0), (2, .int 0), (0, .ref (G.1 109)), (1, .int p1)]) hx hb dX8_readParts_5 hl (by decide) rfl (fun ls hl => ?_)
  exact L7 FU 0 0 0 _ _ _ _ h hP hS (lv_sub hl [3, 4, 2, 1, 0] rfl)
def fX8_readClause (p1 : Int32) (σ : QMem) : Option (Int32 × QMem) :=
  (fX8_putWord p1 1 0 σ).bind fun xq1 => ((fX8_isName 0 xq1).bind fun xq3 => (if xq3.1 = 0 then ((fX8_isName 1 xq3.2).bind fun xq6 => (if xq6.1 = 0 then ((fX8_isName 2 xq6.2).bind fun xq9 => (if xq9.1 = 0 then ((fX8_isName 3 xq9.2).bind fun xq12 => (if xq12.1 = 0 then (some (0, xq12.2)) else ((fX8_putWord p1 0 3 xq12.2).bind fun xq15 => ((fX8_nextToken xq15).bind fun xq17 => ((fX8_readNumber p1 1 5 xq17).bind fun xq19 => (if xq19.1 = 0 then (some (0, xq19.2)) else ((fX8_readNumber p1 2 5 xq19.2).bind fun xq22 => (if xq22.1 = 0 then (some (0, xq22.2)) else (some (1, xq22.2)))))))))) else ((fX8_putWord p1 0 2 xq9.2).bind fun xq25 => ((fX8_nextToken xq25).bind fun xq27 => ((fX8_readNumber p1 1 5 xq27).bind fun xq29 => (if xq29.1 = 0 then (some (0, xq29.2)) else ((fX8_readNumber p1 2 23 xq29.2).bind fun xq32 => (if xq32.1 = 0 then (some (0, xq32.2)) else (some (1, xq32.2)))))))))) else ((fX8_putWord p1 0 1 xq6.2).bind fun xq35 => ((fX8_nextToken xq35).bind fun xq37 => ((fX8_readNumber p1 1 5 xq37).bind fun xq39 => (if xq39.1 = 0 then (some (0, xq39.2)) else ((fX8_readParts p1 xq39.2).bind fun xq42 => (if xq42.1 = 0 then (some (0, xq42.2)) else (some (1, xq42.2)))))))))) else ((fX8_putWord p1 0 0 xq3.2).bind fun xq45 => ((fX8_nextToken xq45).bind fun xq47 => (some (1, xq47))))))
set_option maxHeartbeats 4000000 in
set_option maxRecDepth 100000 in
theorem kX8_readClause (l : Launch) (D : va_G) (G : xG) (ub : xB) (σ : QMem) (p1 : Int32) (res : Int32 × QMem) (h : fX8_readClause p1 σ = some res) : Met l yX8_readClause (.code yX8_readClause cX8_readClause 2 (some .boolean) :: lwW) (rmD 5) (xPc D G ub σ [.ref (G.1 109), .int p1]) (xQi D G ub res) 0 0 (xA G) := by
  refine Met.ofW (cc := cX8_readClause) (maxL := 2) (ret := (some .boolean)) (by decide) rfl ?_
  intro p e s m args below meth c s₁ B hml hv
  obtain ⟨rfl, h0⟩ := hv
  have hx := B.exec
  have hb := B.bytes
  have hr := B.returns
  have hts := fun (w : Cond) (hw : w ∈ lwW) => atoms_spec (ws := (.code yX8_readClause cX8_readClause 2 (some .boolean) :: lwW)) B.pre w (List.mem_cons_of_mem _ hw)
  have hown : s.vm.findClass RX8 = some m.cls := findClass_of_methodNamed B.named
  have hlocks := B.notSynchronized
  have hP := h0.1
  have hK := h0.2.1
  have hi := h0.2.2.1
  have hZ := h0.2.2.2
  have hN := h0.2.2.2.2.2.2.2.1
  have hV := h0.2.2.2.2.2.2.2.2.1
  have hS : va_S (xA G) s.heap s.heap [] := va_S.rf
  have hl := lv_entry ([.ref (G.1 109), .int p1]) (n := 2) (Nat.le_of_ble_eq_true rfl)
  rw [lg_entry_eq]
  generalize (lg_sl ([.ref (G.1 109), .int p1]) ++ List.replicate (2 - (lg_sl ([.ref (G.1 109), .int p1])).length) Slot.unset).toArray = ls at hl ⊢
  have hl : lv_has ls 2 [(0, .ref (G.1 109)), (1, .int p1)] := hl
  unfold fX8_readClause at h
  refine lv_aload_n hx hb dX8_readClause_0 rfl (lv_at hl 0 rfl) ?_
  refine lv_iload_n hx hb dX8_readClause_1 rfl (lv_at hl 1 rfl) ?_
  refine lv_iconst (v := 1) hx hb dX8_readClause_2 (by decide) ?_
  refine lv_iconst (v := 0) hx hb dX8_readClause_3 (by decide) ?_
  obtain ⟨xq1, hfq2, h⟩ := obd h
  refine va_callv (va_runV (As := [.int p1, .int 1, .int 0]) (rest := []) ⟨hx, hb, hml, hown, hts⟩ (kX8_putWord l D G ub _ p1 1 0 xq1 hfq2) (cwV 3 hts (lwW_gV mw_370 mw_372 ms_4 mw_7 mw_373) rfl rfl rfl (by decide +kernel) ⟨Nat.le_of_ble_eq_true rfl, Nat.le_of_ble_eq_true rfl⟩) ⟨fun a U g mk q => ⟨q.1, xPre_call q.2⟩, va_recv hK hP rfl (xg_11 rfl), fun U hU hW => ⟨rfl, xPre_at h0 hS hP hU hW⟩⟩ rfl rfl hl.1 rfl (lv_room (Nat.le_of_ble_eq_true rfl)) dX8_readClause_4 ⟨Nat.zero_le _, Nat.zero_le _⟩) hS (fun q _ h => h) (fun q h => h) (fun u t H1 locs ht hvm hw hB hz1 hq1 hS => ?_)
  obtain rfl := hw.symm
  have hP := hB.1
  rw [ht] at hP
  refine W.widen (k := 0) (n := 0) (Nat.le_refl _) (Nat.le_refl _) ?_
  refine lv_aload_n hx hb dX8_readClause_7 rfl (lv_at hl 0 rfl) ?_
  refine va_ldcS hx hb hown h0.2.2.2.2.2.2.2.2.2.1 dX8_readClause_8 ?_
  obtain ⟨xq3, hfq4, h⟩ := obd h
  refine va_calli (va_runV (As := [.ref (ub.2.1 0)]) (rest := []) ⟨hx, hb, hml, hown, hts⟩ (kX8_isName l D G ub _ 0 (by decide) xq3 hfq4) (cwV 1 hts (lwW_gV mw_375 mw_377 ms_5 mw_7 mw_378) rfl rfl rfl (by decide +kernel) ⟨Nat.le_of_ble_eq_true rfl, Nat.le_of_ble_eq_true rfl⟩) ⟨fun a U g mk q => ⟨q.1, xPre_call q.2⟩, va_recv hK hP rfl (xg_11 rfl), fun U hU hW => ⟨rfl, xPre_at h0 hS hP hU hW⟩⟩ rfl rfl hl.1 rfl (lv_room (Nat.le_of_ble_eq_true rfl)) dX8_readClause_10 ⟨Nat.zero_le _, Nat.zero_le _⟩) hS (fun q _ h => h) (fun q h => h) (fun r u t H1 locs ht hvm hw hB hz1 hq1 hS => ?_)
  obtain ⟨rfl, rfl⟩ := hw
  have hP := hB.1
  rw [ht] at hP
  refine W.widen (k := 0) (n := 0) (Nat.le_refl _) (Nat.le_refl _) ?_
  refine lv_if_eq (tgt := 29) hx hb dX8_readClause_13 (by decide) (fun hcq5 => ?_) (fun hcq5 => ?_)
  · have h := ifp hcq5 h
    refine lv_aload_n hx hb dX8_readClause_29 rfl (lv_at hl 0 rfl) ?_
    refine va_ldcS hx hb hown h0.2.2.2.2.2.2.2.2.2.2.1 dX8_readClause_30 ?_
    obtain ⟨xq6, hfq7, h⟩ := obd h
    refine va_calli (va_runV (As := [.ref (ub.2.1 1)]) (rest := []) ⟨hx, hb, hml, hown, hts⟩ (kX8_isName l D G ub _ 1 (by decide) xq6 hfq7) (cwV 1 hts (lwW_gV mw_375 mw_377 ms_5 mw_7 mw_378) rfl rfl rfl (by decide +kernel) ⟨Nat.le_of_ble_eq_true rfl, Nat.le_of_ble_eq_true rfl⟩) ⟨fun a U g mk q => ⟨q.1, xPre_call q.2⟩, va_recv hK hP rfl (xg_11 rfl), fun U hU hW => ⟨rfl, xPre_at h0 hS hP hU hW⟩⟩ rfl rfl hl.1 rfl (lv_room (Nat.le_of_ble_eq_true rfl)) dX8_readClause_32 ⟨Nat.zero_le _, Nat.zero_le _⟩) hS (fun q _ h => h) (fun q h => h) (fun r u t H1 locs ht hvm hw hB hz1 hq1 hS => ?_)
    obtain ⟨rfl, rfl⟩ := hw
    have hP := hB.1
    rw [ht] at hP
    refine W.widen (k := 0) (n := 0) (Nat.le_refl _) (Nat.le_refl _) ?_
    refine lv_if_eq (tgt := 73) hx hb dX8_readClause_35 (by decide) (fun hcq8 => ?_) (fun hcq8 => ?_)
    · have h := ifp hcq8 h
      refine lv_aload_n hx hb dX8_readClause_73 rfl (lv_at hl 0 rfl) ?_
      refine va_ldcS hx hb hown h0.2.2.2.2.2.2.2.2.2.2.2.1 dX8_readClause_74 ?_
      obtain ⟨xq9, hfq10, h⟩ := obd h
      refine va_calli (va_runV (As := [.ref (ub.2.1 2)]) (rest := []) ⟨hx, hb, hml, hown, hts⟩ (kX8_isName l D G ub _ 2 (by decide) xq9 hfq10) (cwV 1 hts (lwW_gV mw_375 mw_377 ms_5 mw_7 mw_378) rfl rfl rfl (by decide +kernel) ⟨Nat.le_of_ble_eq_true rfl, Nat.le_of_ble_eq_true rfl⟩) ⟨fun a U g mk q => ⟨q.1, xPre_call q.2⟩, va_recv hK hP rfl (xg_11 rfl), fun U hU hW => ⟨rfl, xPre_at h0 hS hP hU hW⟩⟩ rfl rfl hl.1 rfl (lv_room (Nat.le_of_ble_eq_true rfl)) dX8_readClause_76 ⟨Nat.zero_le _, Nat.zero_le _⟩) hS (fun q _ h => h) (fun q h => h) (fun r u t H1 locs ht hvm hw hB hz1 hq1 hS => ?_)
      obtain ⟨rfl, rfl⟩ := hw
      have hP := hB.1
      rw [ht] at hP
      refine W.widen (k := 0) (n := 0) (Nat.le_refl _) (Nat.le_refl _) ?_
      refine lv_if_eq (tgt := 120) hx hb dX8_readClause_79 (by decide) (fun hcq11 => ?_) (fun hcq11 => ?_)
      · have h := ifp hcq11 h
        refine lv_aload_n hx hb dX8_readClause_120 rfl (lv_at hl 0 rfl) ?_
        refine va_ldcS hx hb hown h0.2.2.2.2.2.2.2.2.2.2.2.2.1 dX8_readClause_121 ?_
        obtain ⟨xq12, hfq13, h⟩ := obd h
        refine va_calli (va_runV (As := [.ref (ub.2.1 3)]) (rest := []) ⟨hx, hb, hml, hown, hts⟩ (kX8_isName l D G ub _ 3 (by decide) xq12 hfq13) (cwV 1 hts (lwW_gV mw_375 mw_377 ms_5 mw_7 mw_378) rfl rfl rfl (by decide +kernel) ⟨Nat.le_of_ble_eq_true rfl, Nat.le_of_ble_eq_true rfl⟩) ⟨fun a U g mk q => ⟨q.1, xPre_call q.2⟩, va_recv hK hP rfl (xg_11 rfl), fun U hU hW => ⟨rfl, xPre_at h0 hS hP hU hW⟩⟩ rfl rfl hl.1 rfl (lv_room (Nat.le_of_ble_eq_true rfl)) dX8_readClause_123 ⟨Nat.zero_le _, Nat.zero_le _⟩) hS (fun q _ h => h) (fun q h => h) (fun r u t H1 locs ht hvm hw hB hz1 hq1 hS => ?_)
        obtain ⟨rfl, rfl⟩ := hw
        have hP := hB.1
        rw [ht] at hP
        refine W.widen (k := 0) (n := 0) (Nat.le_refl _) (Nat.le_refl _) ?_
        refine lv_if_eq (tgt := 166) hx hb dX8_readClause_126 (by decide) (fun hcq14 => ?_) (fun hcq14 => ?_)
        · have h := ifp hcq14 h
          refine lv_iconst (v := 0) hx hb dX8_readClause_166 (by decide) ?_
          obtain rfl := Option.some.inj h
          exact W.zret hx hb hr rfl (fun t ht hW => ⟨⟨_, _, rfl, ⟨rfl, rfl⟩, xPre_at h0 hS hP ht hW⟩, hS.F ht⟩) hS.2.2 dX8_readClause_167
        have h := ifn hcq14 h
        refine lv_aload_n hx hb dX8_readClause_129 rfl (lv_at hl 0 rfl) ?_
        refine lv_iload_n hx hb dX8_readClause_130 rfl (lv_at hl 1 rfl) ?_
        refine lv_iconst (v := 0) hx hb dX8_readClause_131 (by decide) ?_
        refine lv_iconst (v := 3) hx hb dX8_readClause_132 (by decide) ?_
        obtain ⟨xq15, hfq16, h⟩ := obd h
        refine va_callv (va_runV (As := [.int p1, .int 0, .int 3]) (rest := []) ⟨hx, hb, hml, hown, hts⟩ (kX8_putWord l D G ub _ p1 0 3 xq15 hfq16) (cwV 3 hts (lwW_gV mw_370 mw_372 ms_4 mw_7 mw_373) rfl rfl rfl (by decide +kernel) ⟨Nat.le_of_ble_eq_true rfl, Nat.le_of_ble_eq_true rfl⟩) ⟨fun a U g mk q => ⟨q.1, xPre_call q.2⟩, va_recv hK hP rfl (xg_11 rfl), fun U hU hW => ⟨rfl, xPre_at h0 hS hP hU hW⟩⟩ rfl rfl hl.1 rfl (lv_room (Nat.le_of_ble_eq_true rfl)) dX8_readClause_133 ⟨Nat.zero_le _, Nat.zero_le _⟩) hS (fun q _ h => h) (fun q h => h) (fun u t H1 locs ht hvm hw hB hz1 hq1 hS => ?_)
        obtain rfl := hw.symm
        have hP := hB.1
        rw [ht] at hP
        refine W.widen (k := 0) (n := 0) (Nat.le_refl _) (Nat.le_refl _) ?_
        refine lv_aload_n hx hb dX8_readClause_136 rfl (lv_at hl 0 rfl) ?_
        obtain ⟨xq17, hfq18, h⟩ := obd h
        refine va_callv (va_runV (As := []) (rest := []) ⟨hx, hb, hml, hown, hts⟩ (kX8_nextToken l D G ub _ xq17 hfq18) (cwV 0 hts (lwW_gV mw_354 mw_356 ms_0 mw_7 mw_357) rfl rfl rfl (by decide +kernel) ⟨Nat.le_of_ble_eq_true rfl, Nat.le_of_ble_eq_true rfl⟩) ⟨fun a U g mk q => ⟨q.1, xPre_call q.2⟩, va_recv hK hP rfl (xg_11 rfl), fun U hU hW => ⟨rfl, xPre_at h0 hS hP hU hW⟩⟩ rfl rfl hl.1 rfl (lv_room (Nat.le_of_ble_eq_true rfl)) dX8_readClause_137 ⟨Nat.zero_le _, Nat.zero_le _⟩) hS (fun q _ h => h) (fun q h => h) (fun u t H1 locs ht hvm hw hB hz1 hq1 hS => ?_)
        obtain rfl := hw.symm
        have hP := hB.1
        rw [ht] at hP
        refine W.widen (k := 0) (n := 0) (Nat.le_refl _) (Nat.le_refl _) ?_
        refine lv_aload_n hx hb dX8_readClause_140 rfl (lv_at hl 0 rfl) ?_
        refine lv_iload_n hx hb dX8_readClause_141 rfl (lv_at hl 1 rfl) ?_
        refine lv_iconst (v := 1) hx hb dX8_readClause_142 (by decide) ?_
        refine lv_iconst (v := 5) hx hb dX8_readClause_143 (by decide) ?_
        obtain ⟨xq19, hfq20, h⟩ := obd h
        refine va_calli (va_runV (As := [.int p1, .int 1, .int 5]) (rest := []) ⟨hx, hb, hml, hown, hts⟩ (kX8_readNumber l D G ub _ p1 1 5 xq19 hfq20) (cwV 3 hts (lwW_gV mw_428 mw_430 ms_6 mw_7 mw_431) rfl rfl rfl (by decide +kernel) ⟨Nat.le_of_ble_eq_true rfl, Nat.le_of_ble_eq_true rfl⟩) ⟨fun a U g mk q => ⟨q.1, xPre_call q.2⟩, va_recv hK hP rfl (xg_11 rfl), fun U hU hW => ⟨rfl, xPre_at h0 hS hP hU hW⟩⟩ rfl rfl hl.1 rfl (lv_room (Nat.le_of_ble_eq_true rfl)) dX8_readClause_144 ⟨Nat.zero_le _, Nat.zero_le _⟩) hS (fun q _ h => h) (fun q h => h) (fun r u t H1 locs ht hvm hw hB hz1 hq1 hS => ?_)
        obtain ⟨rfl, rfl⟩ := hw
        have hP := hB.1
        rw [ht] at hP
        refine W.widen (k := 0) (n := 0) (Nat.le_refl _) (Nat.le_refl _) ?_
        refine lv_if_eq (tgt := 164) hx hb dX8_readClause_147 (by decide) (fun hcq21 => ?_) (fun hcq21 => ?_)
        · have h := ifp hcq21 h
          refine lv_iconst (v := 0) hx hb dX8_readClause_164 (by decide) ?_
          obtain rfl := Option.some.inj h
          exact W.zret hx hb hr rfl (fun t ht hW => ⟨⟨_, _, rfl, ⟨rfl, rfl⟩, xPre_at h0 hS hP ht hW⟩, hS.F ht⟩) hS.2.2 dX8_readClause_165
        have h := ifn hcq21 h
        refine lv_aload_n hx hb dX8_readClause_150 rfl (lv_at hl 0 rfl) ?_
        refine lv_iload_n hx hb dX8_readClause_151 rfl (lv_at hl 1 rfl) ?_
        refine lv_iconst (v := 2) hx hb dX8_readClause_152 (by decide) ?_
        refine lv_iconst (v := 5) hx hb dX8_readClause_153 (by decide) ?_
        obtain ⟨xq22, hfq23, h⟩ := obd h
        refine va_calli (va_runV (As := [.int p1, .int 2, .int 5]) (rest := []) ⟨hx, hb, hml, hown, hts⟩ (kX8_readNumber l D G ub _ p1 2 5 xq22 hfq23) (cwV 3 hts (lwW_gV mw_428 mw_430 ms_6 mw_7 mw_431) rfl rfl rfl (by decide +kernel) ⟨Nat.le_of_ble_eq_true rfl, Nat.le_of_ble_eq_true rfl⟩) ⟨fun a U g mk q => ⟨q.1, xPre_call q.2⟩, va_recv hK hP rfl (xg_11 rfl), fun U hU hW => ⟨rfl, xPre_at h0 hS hP hU hW⟩⟩ rfl rfl hl.1 rfl (lv_room (Nat.le_of_ble_eq_true rfl)) dX8_readClause_154 ⟨Nat.zero_le _, Nat.zero_le _⟩) hS (fun q _ h => h) (fun q h => h) (fun r u t H1 locs ht hvm hw hB hz1 hq1 hS => ?_)
        obtain ⟨rfl, rfl⟩ := hw
        have hP := hB.1
        rw [ht] at hP
        refine W.widen (k := 0) (n := 0) (Nat.le_refl _) (Nat.le_refl _) ?_
        refine lv_if_eq (tgt := 164) hx hb dX8_readClause_157 (by decide) (fun hcq24 => ?_) (fun hcq24 => ?_)
        · have h := ifp hcq24 h
          refine lv_iconst (v := 0) hx hb dX8_readClause_164 (by decide) ?_
          obtain rfl := Option.some.inj h
          exact W.zret hx hb hr rfl (fun t ht hW => ⟨⟨_, _, rfl, ⟨rfl, rfl⟩, xPre_at h0 hS hP ht hW⟩, hS.F ht⟩) hS.2.2 dX8_readClause_165
        have h := ifn hcq24 h
        refine lv_iconst (v := 1) hx hb dX8_readClause_160 (by decide) ?_
        refine lv_goto (tgt := 165) hx hb dX8_readClause_161 (by decide) ?_
        obtain rfl := Option.some.inj h
        exact W.zret hx hb hr rfl (fun t ht hW => ⟨⟨_, _, rfl, ⟨rfl, rfl⟩, xPre_at h0 hS hP ht hW⟩, hS.F ht⟩) hS.2.2 dX8_readClause_165
      have h := ifn hcq11 h
      refine lv_aload_n hx hb dX8_readClause_82 rfl (lv_at hl 0 rfl) ?_
      refine lv_iload_n hx hb dX8_readClause_83 rfl (lv_at hl 1 rfl) ?_
      refine lv_iconst (v := 0) hx hb dX8_readClause_84 (by decide) ?_
      refine lv_iconst (v := 2) hx hb dX8_readClause_85 (by decide) ?_
      obtain ⟨xq25, hfq26, h⟩ := obd h
      refine va_callv (va_runV (As := [.int p1, .int 0, .int 2]) (rest := []) ⟨hx, hb, hml, hown, hts⟩ (kX8_putWord l D G ub _ p1 0 2 xq25 hfq26) (cwV 3 hts (lwW_gV mw_370 mw_372 ms_4 mw_7 mw_373) rfl rfl rfl (by decide +kernel) ⟨Nat.le_of_ble_eq_true rfl, Nat.le_of_ble_eq_true rfl⟩) ⟨fun a U g mk q => ⟨q.1, xPre_call q.2⟩, va_recv hK hP rfl (xg_11 rfl), fun U hU hW => ⟨rfl, xPre_at h0 hS hP hU hW⟩⟩ rfl rfl hl.1 rfl (lv_room (Nat.le_of_ble_eq_true rfl)) dX8_readClause_86 ⟨Nat.zero_le _, Nat.zero_le _⟩) hS (fun q _ h => h) (fun q h => h) (fun u t H1 locs ht hvm hw hB hz1 hq1 hS => ?_)
      obtain rfl := hw.symm
      have hP := hB.1
      rw [ht] at hP
      refine W.widen (k := 0) (n := 0) (Nat.le_refl _) (Nat.le_refl _) ?_
      refine lv_aload_n hx hb dX8_readClause_89 rfl (lv_at hl 0 rfl) ?_
      obtain ⟨xq27, hfq28, h⟩ := obd h
      refine va_callv (va_runV (As := []) (rest := []) ⟨hx, hb, hml, hown, hts⟩ (kX8_nextToken l D G ub _ xq27 hfq28) (cwV 0 hts (lwW_gV mw_354 mw_356 ms_0 mw_7 mw_357) rfl rfl rfl (by decide +kernel) ⟨Nat.le_of_ble_eq_true rfl, Nat.le_of_ble_eq_true rfl⟩) ⟨fun a U g mk q => ⟨q.1, xPre_call q.2⟩, va_recv hK hP rfl (xg_11 rfl), fun U hU hW => ⟨rfl, xPre_at h0 hS hP hU hW⟩⟩ rfl rfl hl.1 rfl (lv_room (Nat.le_of_ble_eq_true rfl)) dX8_readClause_90 ⟨Nat.zero_le _, Nat.zero_le _⟩) hS (fun q _ h => h) (fun q h => h) (fun u t H1 locs ht hvm hw hB hz1 hq1 hS => ?_)
      obtain rfl := hw.symm
      have hP := hB.1
      rw [ht] at hP
      refine W.widen (k := 0) (n := 0) (Nat.le_refl _) (Nat.le_refl _) ?_
      refine lv_aload_n hx hb dX8_readClause_93 rfl (lv_at hl 0 rfl) ?_
      refine lv_iload_n hx hb dX8_readClause_94 rfl (lv_at hl 1 rfl) ?_
      refine lv_iconst (v := 1) hx hb dX8_readClause_95 (by decide) ?_
      refine lv_iconst (v := 5) hx hb dX8_readClause_96 (by decide) ?_
      obtain ⟨xq29, hfq30, h⟩ := obd h
      refine va_calli (va_runV (As := [.int p1, .int 1, .int 5]) (rest := []) ⟨hx, hb, hml, hown, hts⟩ (kX8_readNumber l D G ub _ p1 1 5 xq29 hfq30) (cwV 3 hts (lwW_gV mw_428 mw_430 ms_6 mw_7 mw_431) rfl rfl rfl (by decide +kernel) ⟨Nat.le_of_ble_eq_true rfl, Nat.le_of_ble_eq_true rfl⟩) ⟨fun a U g mk q => ⟨q.1, xPre_call q.2⟩, va_recv hK hP rfl (xg_11 rfl), fun U hU hW => ⟨rfl, xPre_at h0 hS hP hU hW⟩⟩ rfl rfl hl.1 rfl (lv_room (Nat.le_of_ble_eq_true rfl)) dX8_readClause_97 ⟨Nat.zero_le _, Nat.zero_le _⟩) hS (fun q _ h => h) (fun q h => h) (fun r u t H1 locs ht hvm hw hB hz1 hq1 hS => ?_)
      obtain ⟨rfl, rfl⟩ := hw
      have hP := hB.1
      rw [ht] at hP
      refine W.widen (k := 0) (n := 0) (Nat.le_refl _) (Nat.le_refl _) ?_
      refine lv_if_eq (tgt := 118) hx hb dX8_readClause_100 (by decide) (fun hcq31 => ?_) (fun hcq31 => ?_)
      · have h := ifp hcq31 h
        refine lv_iconst (v := 0) hx hb dX8_readClause_118 (by decide) ?_
        obtain rfl := Option.some.inj h
        exact W.zret hx hb hr rfl (fun t ht hW => ⟨⟨_, _, rfl, ⟨rfl, rfl⟩, xPre_at h0 hS hP ht hW⟩, hS.F ht⟩) hS.2.2 dX8_readClause_119
      have h := ifn hcq31 h
      refine lv_aload_n hx hb dX8_readClause_103 rfl (lv_at hl 0 rfl) ?_
      refine lv_iload_n hx hb dX8_readClause_104 rfl (lv_at hl 1 rfl) ?_
      refine lv_iconst (v := 2) hx hb dX8_readClause_105 (by decide) ?_
      refine lv_bipush (v := 23) hx hb dX8_readClause_106 (by decide) ?_
      obtain ⟨xq32, hfq33, h⟩ := obd h
      refine va_calli (va_runV (As := [.int p1, .int 2, .int 23]) (rest := []) ⟨hx, hb, hml, hown, hts⟩ (kX8_readNumber l D G ub _ p1 2 23 xq32 hfq33) (cwV 3 hts (lwW_gV mw_428 mw_430 ms_6 mw_7 mw_431) rfl rfl rfl (by decide +kernel) ⟨Nat.le_of_ble_eq_true rfl, Nat.le_of_ble_eq_true rfl⟩) ⟨fun a U g mk q => ⟨q.1, xPre_call q.2⟩, va_recv hK hP rfl (xg_11 rfl), fun U hU hW => ⟨rfl, xPre_at h0 hS hP hU hW⟩⟩ rfl rfl hl.1 rfl (lv_room (Nat.le_of_ble_eq_true rfl)) dX8_readClause_108 ⟨Nat.zero_le _, Nat.zero_le _⟩) hS (fun q _ h => h) (fun q h => h) (fun r u t H1 locs ht hvm hw hB hz1 hq1 hS => ?_)
      obtain ⟨rfl, rfl⟩ := hw
      have hP := hB.1
      rw [ht] at hP
      refine W.widen (k := 0) (n := 0) (Nat.le_refl _) (Nat.le_refl _) ?_
      refine lv_if_eq (tgt := 118) hx hb dX8_readClause_111 (by decide) (fun hcq34 => ?_) (fun hcq34 => ?_)
      · have h := ifp hcq34 h
        refine lv_iconst (v := 0) hx hb dX8_readClause_118 (by decide) ?_
        obtain rfl := Option.some.inj h
        exact W.zret hx hb hr rfl (fun t ht hW => ⟨⟨_, _, rfl, ⟨rfl, rfl⟩, xPre_at h0 hS hP ht hW⟩, hS.F ht⟩) hS.2.2 dX8_readClause_119
      have h := ifn hcq34 h
      refine lv_iconst (v := 1) hx hb dX8_readClause_114 (by decide) ?_
      refine lv_goto (tgt := 119) hx hb dX8_readClause_115 (by decide) ?_
      obtain rfl := Option.some.inj h
      exact W.zret hx hb hr rfl (fun t ht hW => ⟨⟨_, _, rfl, ⟨rfl, rfl⟩, xPre_at h0 hS hP ht hW⟩, hS.F ht⟩) hS.2.2 dX8_readClause_119
    have h := ifn hcq8 h
    refine lv_aload_n hx hb dX8_readClause_38 rfl (lv_at hl 0 rfl) ?_
    refine lv_iload_n hx hb dX8_readClause_39 rfl (lv_at hl 1 rfl) ?_
    refine lv_iconst (v := 0) hx hb dX8_readClause_40 (by decide) ?_
    refine lv_iconst (v := 1) hx hb dX8_readClause_41 (by decide) ?_
    obtain ⟨xq35, hfq36, h⟩ := obd h
    refine va_callv (va_runV (As := [.int p1, .int 0, .int 1]) (rest := []) ⟨hx, hb, hml, hown, hts⟩ (kX8_putWord l D G ub _ p1 0 1 xq35 hfq36) (cwV 3 hts (lwW_gV mw_370 mw_372 ms_4 mw_7 mw_373) rfl rfl rfl (by decide +kernel) ⟨Nat.le_of_ble_eq_true rfl, Nat.le_of_ble_eq_true rfl⟩) ⟨fun a U g mk q => ⟨q.1, xPre_call q.2⟩, va_recv hK hP rfl (xg_11 rfl), fun U hU hW => ⟨rfl, xPre_at h0 hS hP hU hW⟩⟩ rfl rfl hl.1 rfl (lv_room (Nat.le_of_ble_eq_true rfl)) dX8_readClause_42 ⟨Nat.zero_le _, Nat.zero_le _⟩) hS (fun q _ h => h) (fun q h => h) (fun u t H1 locs ht hvm hw hB hz1 hq1 hS => ?_)
    obtain rfl := hw.symm
    have hP := hB.1
    rw [ht] at hP
    refine W.widen (k := 0) (n := 0) (Nat.le_refl _) (Nat.le_refl _) ?_
    refine lv_aload_n hx hb dX8_readClause_45 rfl (lv_at hl 0 rfl) ?_
    obtain ⟨xq37, hfq38, h⟩ := obd h
    refine va_callv (va_runV (As := []) (rest := []) ⟨hx, hb, hml, hown, hts⟩ (kX8_nextToken l D G ub _ xq37 hfq38) (cwV 0 hts (lwW_gV mw_354 mw_356 ms_0 mw_7 mw_357) rfl rfl rfl (by decide +kernel) ⟨Nat.le_of_ble_eq_true rfl, Nat.le_of_ble_eq_true rfl⟩) ⟨fun a U g mk q => ⟨q.1, xPre_call q.2⟩, va_recv hK hP rfl (xg_11 rfl), fun U hU hW => ⟨rfl, xPre_at h0 hS hP hU hW⟩⟩ rfl rfl hl.1 rfl (lv_room (Nat.le_of_ble_eq_true rfl)) dX8_readClause_46 ⟨Nat.zero_le _, Nat.zero_le _⟩) hS (fun q _ h => h) (fun q h => h) (fun u t H1 locs ht hvm hw hB hz1 hq1 hS => ?_)
    obtain rfl := hw.symm
    have hP := hB.1
    rw [ht] at hP
    refine W.widen (k := 0) (n := 0) (Nat.le_refl _) (Nat.le_refl _) ?_
    refine lv_aload_n hx hb dX8_readClause_49 rfl (lv_at hl 0 rfl) ?_
    refine lv_iload_n hx hb dX8_readClause_50 rfl (lv_at hl 1 rfl) ?_
    refine lv_iconst (v := 1) hx hb dX8_readClause_51 (by decide) ?_
    refine lv_iconst (v := 5) hx hb dX8_readClause_52 (by decide) ?_
    obtain ⟨xq39, hfq40, h⟩ := obd h
    refine va_calli (va_runV (As := [.int p1, .int 1, .int 5]) (rest := []) ⟨hx, hb, hml, hown, hts⟩ (kX8_readNumber l D G ub _ p1 1 5 xq39 hfq40) (cwV 3 hts (lwW_gV mw_428 mw_430 ms_6 mw_7 mw_431) rfl rfl rfl (by decide +kernel) ⟨Nat.le_of_ble_eq_true rfl, Nat.le_of_ble_eq_true rfl⟩) ⟨fun a U g mk q => ⟨q.1, xPre_call q.2⟩, va_recv hK hP rfl (xg_11 rfl), fun U hU hW => ⟨rfl, xPre_at h0 hS hP hU hW⟩⟩ rfl rfl hl.1 rfl (lv_room (Nat.le_of_ble_eq_true rfl)) dX8_readClause_53 ⟨Nat.zero_le _, Nat.zero_le _⟩) hS (fun q _ h => h) (fun q h => h) (fun r u t H1 locs ht hvm hw hB hz1 hq1 hS => ?_)
    obtain ⟨rfl, rfl⟩ := hw
    have hP := hB.1
    rw [ht] at hP
    refine W.widen (k := 0) (n := 0) (Nat.le_refl _) (Nat.le_refl _) ?_
    refine lv_if_eq (tgt := 71) hx hb dX8_readClause_56 (by decide) (fun hcq41 => ?_) (fun hcq41 => ?_)
    · have h := ifp hcq41 h
      refine lv_iconst (v := 0) hx hb dX8_readClause_71 (by decide) ?_
      obtain rfl := Option.some.inj h
      exact W.zret hx hb hr rfl (fun t ht hW => ⟨⟨_, _, rfl, ⟨rfl, rfl⟩, xPre_at h0 hS hP ht hW⟩, hS.F ht⟩) hS.2.2 dX8_readClause_72
    have h := ifn hcq41 h
    refine lv_aload_n hx hb dX8_readClause_59 rfl (lv_at hl 0 rfl) ?_
    refine lv_iload_n hx hb dX8_readClause_60 rfl (lv_at hl 1 rfl) ?_
    obtain ⟨xq42, hfq43, h⟩ := obd h
    refine va_calli (va_runV (As := [.int p1]) (rest := []) ⟨hx, hb, hml, hown, hts⟩ (kX8_readParts l D G ub _ p1 xq42 hfq43) (cwV 1 hts (lwW_gV mw_436 mw_438 ms_8 mw_7 mw_439) rfl rfl rfl (by decide +kernel) ⟨Nat.le_of_ble_eq_true rfl, Nat.le_of_ble_eq_true rfl⟩) ⟨fun a U g mk q => ⟨q.1, xPre_call q.2⟩, va_recv hK hP rfl (xg_11 rfl), fun U hU hW => ⟨rfl, xPre_at h0 hS hP hU hW⟩⟩ rfl rfl hl.1 rfl (lv_room (Nat.le_of_ble_eq_true rfl)) dX8_readClause_61 ⟨Nat.zero_le _, Nat.zero_le _⟩) hS (fun q _ h => h) (fun q h => h) (fun r u t H1 locs ht hvm hw hB hz1 hq1 hS => ?_)
    obtain ⟨rfl, rfl⟩ := hw
    have hP := hB.1
    rw [ht] at hP
    refine W.widen (k := 0) (n := 0) (Nat.le_refl _) (Nat.le_refl _) ?_
    refine lv_if_eq (tgt := 71) hx hb dX8_readClause_64 (by decide) (fun hcq44 => ?_) (fun hcq44 => ?_)
    · have h := ifp hcq44 h
      refine lv_iconst (v := 0) hx hb dX8_readClause_71 (by decide) ?_
      obtain rfl := Option.some.inj h
      exact W.zret hx hb hr rfl (fun t ht hW => ⟨⟨_, _, rfl, ⟨rfl, rfl⟩, xPre_at h0 hS hP ht hW⟩, hS.F ht⟩) hS.2.2 dX8_readClause_72
    have h := ifn hcq44 h
    refine lv_iconst (v := 1) hx hb dX8_readClause_67 (by decide) ?_
    refine lv_goto (tgt := 72) hx hb dX8_readClause_68 (by decide) ?_
    obtain rfl := Option.some.inj h
    exact W.zret hx hb hr rfl (fun t ht hW => ⟨⟨_, _, rfl, ⟨rfl, rfl⟩, xPre_at h0 hS hP ht hW⟩, hS.F ht⟩) hS.2.2 dX8_readClause_72
  have h := ifn hcq5 h
  refine lv_aload_n hx hb dX8_readClause_16 rfl (lv_at hl 0 rfl) ?_
  refine lv_iload_n hx hb dX8_readClause_17 rfl (lv_at hl 1 rfl) ?_
  refine lv_iconst (v := 0) hx hb dX8_readClause_18 (by decide) ?_
  refine lv_iconst (v := 0) hx hb dX8_readClause_19 (by decide) ?_
  obtain ⟨xq45, hfq46, h⟩ := obd h
  refine va_callv (va_runV (As := [.int p1, .int 0, .int 0]) (rest := []) ⟨hx, hb, hml, hown, hts⟩ (kX8_putWord l D G ub _ p1 0 0 xq45 hfq46) (cwV 3 hts (lwW_gV mw_370 mw_372 ms_4 mw_7 mw_373) rfl rfl rfl (by decide +kernel) ⟨Nat.le_of_ble_eq_true rfl, Nat.le_of_ble_eq_true rfl⟩) ⟨fun a U g mk q => ⟨q.1, xPre_call q.2⟩, va_recv hK hP rfl (xg_11 rfl), fun U hU hW => ⟨rfl, xPre_at h0 hS hP hU hW⟩⟩ rfl rfl hl.1 rfl (lv_room (Nat.le_of_ble_eq_true rfl)) dX8_readClause_20 ⟨Nat.zero_le _, Nat.zero_le _⟩) hS (fun q _ h => h) (fun q h => h) (fun u t H1 locs ht hvm hw hB hz1 hq1 hS => ?_)
  obtain rfl := hw.symm
  have hP := hB.1
  rw [ht] at hP
  refine W.widen (k := 0) (n := 0) (Nat.le_refl _) (Nat.le_refl _) ?_
  refine lv_aload_n hx hb dX8_readClause_23 rfl (lv_at hl 0 rfl) ?_
  obtain ⟨xq47, hfq48, h⟩ := obd h
  refine va_callv (va_runV (As := []) (rest := []) ⟨hx, hb, hml, hown, hts⟩ (kX8_nextToken l D G ub _ xq47 hfq48) (cwV 0 hts (lwW_gV mw_354 mw_356 ms_0 mw_7 mw_357) rfl rfl rfl (by decide +kernel) ⟨Nat.le_of_ble_eq_true rfl, Nat.le_of_ble_eq_true rfl⟩) ⟨fun a U g mk q => ⟨q.1, xPre_call q.2⟩, va_recv hK hP rfl (xg_11 rfl), fun U hU hW => ⟨rfl, xPre_at h0 hS hP hU hW⟩⟩ rfl rfl hl.1 rfl (lv_room (Nat.le_of_ble_eq_true rfl)) dX8_readClause_24 ⟨Nat.zero_le _, Nat.zero_le _⟩) hS (fun q _ h => h) (fun q h => h) (fun u t H1 locs ht hvm hw hB hz1 hq1 hS => ?_)
  obtain rfl := hw.symm
  have hP := hB.1
  rw [ht] at hP
  refine W.widen (k := 0) (n := 0) (Nat.le_refl _) (Nat.le_refl _) ?_
  refine lv_iconst (v := 1) hx hb dX8_readClause_27 (by decide) ?_
  obtain rfl := Option.some.inj h
  exact W.zret hx hb hr rfl (fun t ht hW => ⟨⟨_, _, rfl, ⟨rfl, rfl⟩, xPre_at h0 hS hP ht hW⟩, hS.F ht⟩) hS.2.2 dX8_readClause_28
def fX8_findFault_L16  : Nat → Int32 → QMem → Option (Int32 × QMem)
  | 0, _, _ => none
  | n + 1, v1, τ =>
  if 24 ≤ v1 then (some (τ 109 5, τ)) else ((fX8_readClause v1 τ).bind fun xq2 => (if xq2.1 = 0 then (some (xq2.2 109 5, xq2.2)) else (if ((ms xq2.2 109 3 (v1 + 1)) 109 4) = 0 then (some ((-1), ms xq2.2 109 3 (v1 + 1))) else ((fX8_isSign 59 (ms xq2.2 109 3 (v1 + 1))).bind fun xq6 => (if xq6.1 = 0 then (some (xq6.2 109 5, xq6.2)) else (if (xq6.2 109 3) = 24 then (some (xq6.2 109 5, xq6.2)) else ((fX8_nextToken xq6.2).bind fun xq10 => ((fX8_findFault_L16 n) (v1 + 1) xq10))))))))
def fX8_findFault  (σ : QMem) : Option (Int32 × QMem) :=
  (fX8_nextToken (ms (ms σ 109 3 0) 109 6 0)).bind fun xq12 => (fX8_findFault_L16 FU 0 xq12)
set_option maxHeartbeats 4000000 in
set_option maxRecDepth 100000 in
theorem kX8_findFault (l : Launch) (D : va_G) (G : xG) (ub : xB) (σ : QMem) (res : Int32 × QMem) (h : fX8_findFault σ = some res) : Met l yX8_findFault (.code yX8_findFault cX8_findFault 2 (some .int) :: lwW) (rmD 6) (xPc D G ub σ [.ref (G.1 109)]) (xQi D G ub res) 0 0 (xA G) := by
  refine Met.ofW (cc := cX8_findFault) (maxL := 2) (ret := (some .int)) (by decide) rfl ?_
  intro p e s m args below meth c s₁ B hml hv
  obtain ⟨rfl, h0⟩ := hv
  have hx := B.exec
  have hb := B.bytes
  have hr := B.returns
  have hts := fun (w : Cond) (hw : w ∈ lwW) => atoms_spec (ws := (.code yX8_findFault cX8_findFault 2 (some .int) :: lwW)) B.pre w (List.mem_cons_of_mem _ hw)
  have hown : s.vm.findClass RX8 = some m.cls := findClass_of_methodNamed B.named
  have hlocks := B.notSynchronized
  have hP := h0.1
  have hK := h0.2.1
  have hi := h0.2.2.1
  have hZ := h0.2.2.2
  have hN := h0.2.2.2.2.2.2.2.1
  have hV := h0.2.2.2.2.2.2.2.2.1
  have hS : va_S (xA G) s.heap s.heap [] := va_S.rf
  have hl := lv_entry ([.ref (G.1 109)]) (n := 2) (Nat.le_of_ble_eq_true rfl)
  rw [lg_entry_eq]
  generalize (lg_sl ([.ref (G.1 109)]) ++ List.replicate (2 - (lg_sl ([.ref (G.1 109)])).length) Slot.unset).toArray = ls at hl ⊢
  have hl : lv_has ls 2 [(0, .ref (G.1 109))] := hl
  unfold fX8_findFault at h
  have L16 : ∀ (n16 : Nat) (v1 : Int32) (τ : QMem) (H : Heap) (locs : List Loc) (ls : Array Slot), fX8_findFault_L16 n16 v1 τ = some res → va_P D vwCl (xW G τ) H → va_S (xA G) s.heap H locs → lv_has ls 2 [(0, .ref (G.1 109)), (1, .int v1)] → W p l e (headSpec (.code yX8_findFault cX8_findFault 2 (some .int) :: lwW) (rmD 6)).room s m ([.ref (G.1 109)] : List Value).toArray below meth c H locs 0 0 (MQ below (xQi D G ub res) ([.ref (G.1 109)] : List Value).toArray s 0 0 (xA G)) (F0 m 16 ls []) := by
    intro n16
    induction n16 with
    | zero => intro v1 τ H locs ls h; rw [fX8_findFault_L16] at h; cases h
    | succ n16 ih16 =>
      intro v1 τ H locs ls h hP hS hl
      rw [fX8_findFault_L16] at h
      refine lv_iload_n hx hb dX8_findFault_16 rfl (lv_at hl 1 rfl) ?_
      refine lv_bipush (v := 24) hx hb dX8_findFault_17 (by decide) ?_
      refine lv_icmp_ge (tgt := 84) hx hb dX8_findFault_19 (by decide) (fun hcq1 => ?_) (fun hcq1 => ?_)
      · have h := ifp hcq1 h
        refine lv_aload_n hx hb dX8_findFault_84 rfl (lv_at hl 0 rfl) ?_
        refine va_get (D := D) (ci := 8) (v := .int (τ 109 5)) (C := RX8) (T := TX8) (N := 7) hx hb hts iwX8 hown hK hP 109 (xg_11 rfl) rfl 5 (by decide) (hts _ mw_125) (fun _ h9 => h9) rfl dX8_findFault_85 ?_
        obtain rfl := Option.some.inj h
        exact W.iret (v := τ 109 5) hx hb hr (fun t ht hW => ⟨⟨_, _, rfl, ⟨rfl, rfl⟩, xPre_at h0 hS hP ht hW⟩, hS.F ht⟩) hS.2.2 dX8_findFault_88
      have h := ifn hcq1 h
      refine lv_aload_n hx hb dX8_findFault_22 rfl (lv_at hl 0 rfl) ?_
      refine lv_iload_n hx hb dX8_findFault_23 rfl (lv_at hl 1 rfl) ?_
      obtain ⟨xq2, hfq3, h⟩ := obd h
      refine va_calli (va_runV (As := [.int v1]) (rest := []) ⟨hx, hb, hml, hown, hts⟩ (kX8_readClause l D G ub _ v1 xq2 hfq3) (cwV 1 hts (lwW_gV mw_366 mw_368 ms_3 mw_7 mw_369) rfl rfl rfl (by decide +kernel) ⟨Nat.le_of_ble_eq_true rfl, Nat.le_of_ble_eq_true rfl⟩) ⟨fun a U g mk q => ⟨q.1, xPre_call q.2⟩, va_recv hK hP rfl (xg_11 rfl), fun U hU hW => ⟨rfl, xPre_at h0 hS hP hU hW⟩⟩ rfl rfl hl.1 rfl (lv_room (Nat.le_of_ble_eq_true rfl)) dX8_findFault_24 ⟨Nat.zero_le _, Nat.zero_le _⟩) hS (fun q _ h => h) (fun q h => h) (fun r u t H1 locs ht hvm hw hB hz1 hq1 hS => ?_)
      obtain ⟨rfl, rfl⟩ := hw
      have hP := hB.1
      rw [ht] at hP
      refine W.widen (k := 0) (n := 0) (Nat.le_refl _) (Nat.le_refl _) ?_
      refine lv_if_ne (tgt := 35) hx hb dX8_findFault_27 (by decide) (fun hcq4 => ?_) (fun hcq4 => ?_)
      · have h := ifn hcq4 h
        refine lv_aload_n hx hb dX8_findFault_35 rfl (lv_at hl 0 rfl) ?_
        refine lv_iload_n hx hb dX8_findFault_36 rfl (lv_at hl 1 rfl) ?_
        refine lv_iconst (v := 1) hx hb dX8_findFault_37 (by decide) ?_
        refine lv_iadd hx hb dX8_findFault_38 ?_
        refine va_put (D := D) (ci := 8) (v := .int (v1 + 1)) (ty := .int) (C := RX8) (T := TX8) (N := 7) hx hb hts iwX8 tyX8 tyX8_ok nmX8 hown hK hP (xD hi) hS 109 (xg_11 rfl) rfl 3 (by decide) (hts _ mw_123) (fun _ h9 => h9) rfl (by decide +kernel) rfl rfl (Nat.le_of_ble_eq_true rfl) dX8_findFault_39 (fun H locs hP hD hS => ?_)
        have hP : va_P D vwCl (xW G (ms xq2.2 109 3 (v1 + 1))) H := by rw [← xs_11_3 rfl]; exact hP
        refine lv_aload_n hx hb dX8_findFault_42 rfl (lv_at hl 0 rfl) ?_
        refine va_get (D := D) (ci := 8) (v := .int ((ms xq2.2 109 3 (v1 + 1)) 109 4)) (C := RX8) (T := TX8) (N := 7) hx hb hts iwX8 hown hK hP 109 (xg_11 rfl) rfl 4 (by decide) (hts _ mw_124) (fun _ h9 => h9) rfl dX8_findFault_43 ?_
        refine lv_if_ne (tgt := 51) hx hb dX8_findFault_46 (by decide) (fun hcq5 => ?_) (fun hcq5 => ?_)
        · have h := ifn hcq5 h
          refine lv_aload_n hx hb dX8_findFault_51 rfl (lv_at hl 0 rfl) ?_
          refine lv_bipush (v := 59) hx hb dX8_findFault_52 (by decide) ?_
          obtain ⟨xq6, hfq7, h⟩ := obd h
          refine va_calli (va_runV (As := [.int 59]) (rest := []) ⟨hx, hb, hml, hown, hts⟩ (kX8_isSign l D G ub _ 59 xq6 hfq7) (cwV 1 hts (lwW_gV mw_440 mw_442 ms_9 mw_7 mw_443) rfl rfl rfl (by decide +kernel) ⟨Nat.le_of_ble_eq_true rfl, Nat.le_of_ble_eq_true rfl⟩) ⟨fun a U g mk q => ⟨q.1, xPre_call q.2⟩, va_recv hK hP rfl (xg_11 rfl), fun U hU hW => ⟨rfl, xPre_at h0 hS hP hU hW⟩⟩ rfl rfl hl.1 rfl (lv_room (Nat.le_of_ble_eq_true rfl)) dX8_findFault_54 ⟨Nat.zero_le _, Nat.zero_le _⟩) hS (fun q _ h => h) (fun q h => h) (fun r u t H1 locs ht hvm hw hB hz1 hq1 hS => ?_)
          obtain ⟨rfl, rfl⟩ := hw
          have hP := hB.1
          rw [ht] at hP
          refine W.widen (k := 0) (n := 0) (Nat.le_refl _) (Nat.le_refl _) ?_
          refine lv_if_eq (tgt := 69) hx hb dX8_findFault_57 (by decide) (fun hcq8 => ?_) (fun hcq8 => ?_)
          · have h := ifp hcq8 h
            refine lv_aload_n hx hb dX8_findFault_69 rfl (lv_at hl 0 rfl) ?_
            refine va_get (D := D) (ci := 8) (v := .int (xq6.2 109 5)) (C := RX8) (T := TX8) (N := 7) hx hb hts iwX8 hown hK hP 109 (xg_11 rfl) rfl 5 (by decide) (hts _ mw_125) (fun _ h9 => h9) rfl dX8_findFault_70 ?_
            obtain rfl := Option.some.inj h
            exact W.iret (v := xq6.2 109 5) hx hb hr (fun t ht hW => ⟨⟨_, _, rfl, ⟨rfl, rfl⟩, xPre_at h0 hS hP ht hW⟩, hS.F ht⟩) hS.2.2 dX8_findFault_73
          have h := ifn hcq8 h
          refine lv_aload_n hx hb dX8_findFault_60 rfl (lv_at hl 0 rfl) ?_
          refine va_get (D := D) (ci := 8) (v := .int (xq6.2 109 3)) (C := RX8) (T := TX8) (N := 7) hx hb hts iwX8 hown hK hP 109 (xg_11 rfl) rfl 3 (by decide) (hts _ mw_123) (fun _ h9 => h9) rfl dX8_findFault_61 ?_
          refine lv_bipush (v := 24) hx hb dX8_findFault_64 (by decide) ?_
          refine lv_icmp_ne (tgt := 74) hx hb dX8_findFault_66 (by decide) (fun hcq9 => ?_) (fun hcq9 => ?_)
          · have h := ifn hcq9 h
            refine lv_aload_n hx hb dX8_findFault_74 rfl (lv_at hl 0 rfl) ?_
            obtain ⟨xq10, hfq11, h⟩ := obd h
            refine va_callv (va_runV (As := []) (rest := []) ⟨hx, hb, hml, hown, hts⟩ (kX8_nextToken l D G ub _ xq10 hfq11) (cwV 0 hts (lwW_gV mw_354 mw_356 ms_0 mw_7 mw_357) rfl rfl rfl (by decide +kernel) ⟨Nat.le_of_ble_eq_true rfl, Nat.le_of_ble_eq_true rfl⟩) ⟨fun a U g mk q => ⟨q.1, xPre_call q.2⟩, va_recv hK hP rfl (xg_11 rfl), fun U hU hW => ⟨rfl, xPre_at h0 hS hP hU hW⟩⟩ rfl rfl hl.1 rfl (lv_room (Nat.le_of_ble_eq_true rfl)) dX8_findFault_75 ⟨Nat.zero_le _, Nat.zero_le _⟩) hS (fun q _ h => h) (fun q h => h) (fun u t H1 locs ht hvm hw hB hz1 hq1 hS => ?_)
            obtain rfl := hw.symm
            have hP := hB.1
            rw [ht] at hP
            refine W.widen (k := 0) (n := 0) (Nat.le_refl _) (Nat.le_refl _) ?_
            refine lv_iinc (v := v1 + 1) (lv' := [(1, .int (v1 + 1)), (0, .ref (G.1 109))]) hx hb dX8_findFault_78 hl (k := 1) rfl rfl (by decide) rfl (fun ls hl => ?_)
            refine lv_goto (tgt := 16) hx hb dX8_findFault_81 (by decide) ?_
            exact ih16 (v1 + 1) _ _ _ _ h hP hS (lv_sub hl [1, 0] rfl)
          have h := ifp hcq9 h
          refine lv_aload_n hx hb dX8_findFault_69 rfl (lv_at hl 0 rfl) ?_
          refine va_get (D := D) (ci := 8) (v := .int (xq6.2 109 5)) (C := RX8) (T := TX8) (N := 7) hx hb hts iwX8 hown hK hP 109 (xg_11 rfl) rfl 5 (by decide) (hts _ mw_125) (fun _ h9 => h9) rfl dX8_findFault_70 ?_
          obtain rfl := Option.some.inj h
          exact W.iret (v := xq6.2 109 5) hx hb hr (fun t ht hW => ⟨⟨_, _, rfl, ⟨rfl, rfl⟩, xPre_at h0 hS hP ht hW⟩, hS.F ht⟩) hS.2.2 dX8_findFault_73
        have h := ifp hcq5 h
        refine lv_iconst (v := (-1)) hx hb dX8_findFault_49 (by decide) ?_
        obtain rfl := Option.some.inj h
        exact W.iret (v := (-1)) hx hb hr (fun t ht hW => ⟨⟨_, _, rfl, ⟨rfl, rfl⟩, xPre_at h0 hS hP ht hW⟩, hS.F ht⟩) hS.2.2 dX8_findFault_50
      have h := ifp hcq4 h
      refine lv_aload_n hx hb dX8_findFault_30 rfl (lv_at hl 0 rfl) ?_
      refine va_get (D := D) (ci := 8) (v := .int (xq2.2 109 5)) (C := RX8) (T := TX8) (N := 7) hx hb hts iwX8 hown hK hP 109 (xg_11 rfl) rfl 5 (by decide) (hts _ mw_125) (fun _ h9 => h9) rfl dX8_findFault_31 ?_
      obtain rfl := Option.some.inj h
      exact W.iret (v := xq2.2 109 5) hx hb hr (fun t ht hW => ⟨⟨_, _, rfl, ⟨rfl, rfl⟩, xPre_at h0 hS hP ht hW⟩, hS.F ht⟩) hS.2.2 dX8_findFault_34
  refine lv_aload_n hx hb dX8_findFault_0 rfl (lv_at hl 0 rfl) ?_
  refine lv_iconst (v := 0) hx hb dX8_findFault_1 (by decide) ?_
  refine va_put (D := D) (ci := 8) (v := .int 0) (ty := .int) (C := RX8) (T := TX8) (N := 7) hx hb hts iwX8 tyX8 tyX8_ok nmX8 hown hK hP (xD hi) hS 109 (xg_11 rfl) rfl 3 (by decide) (hts _ mw_123) (fun _ h9 => h9) rfl (by decide +kernel) rfl rfl (Nat.le_of_ble_eq_true rfl) dX8_findFault_2 (fun H locs hP hD hS => ?_)
  have hP : va_P D vwCl (xW G (ms σ 109 3 0)) H := by rw [← xs_11_3 rfl]; exact hP
  refine lv_aload_n hx hb dX8_findFault_5 rfl (lv_at hl 0 rfl) ?_
  refine lv_iconst (v := 0) hx hb dX8_findFault_6 (by decide) ?_
  refine va_put (D := D) (ci := 8) (v := .int 0) (ty := .int) (C := RX8) (T := TX8) (N := 7) hx hb hts iwX8 tyX8 tyX8_ok nmX8 hown hK hP (xD hi) hS 109 (xg_11 rfl) rfl 6 (by decide) (hts _ mw_126) (fun _ h9 => h9) rfl (by decide +kernel) rfl rfl (Nat.le_of_ble_eq_true rfl) dX8_findFault_7 (fun H locs hP hD hS => ?_)
  have hP : va_P D vwCl (xW G (ms (ms σ 109 3 0) 109 6 0)) H := by rw [← xs_11_6 rfl]; exact hP
  refine lv_aload_n hx hb dX8_findFault_10 rfl (lv_at hl 0 rfl) ?_
  obtain ⟨xq12, hfq13, h⟩ := obd h
  refine va_callv (va_runV (As := []) (rest := []) ⟨hx, hb, hml, hown, hts⟩ (kX8_nextToken l D G ub _ xq12 hfq13) (cwV 0 hts (lwW_gV mw_354 mw_356 ms_0 mw_7 mw_357) rfl rfl rfl (by decide +kernel) ⟨Nat.le_of_ble_eq_true rfl, Nat.le_of_ble_eq_true rfl⟩) ⟨fun a U g mk q => ⟨q.1, xPre_call q.2⟩, va_recv hK hP rfl (xg_11 rfl), fun U hU hW => ⟨rfl, xPre_at h0 hS hP hU hW⟩⟩ rfl rfl hl.1 rfl (lv_room (Nat.le_of_ble_eq_true rfl)) dX8_findFault_11 ⟨Nat.zero_le _, Nat.zero_le _⟩) hS (fun q _ h => h) (fun q h => h) (fun u t H1 locs ht hvm hw hB hz1 hq1 hS => ?_)
  obtain rfl := hw.symm
  have hP := hB.1
  rw [ht] at hP
  refine W.widen (k := 0) (n := 0) (Nat.le_refl _) (Nat.le_refl _) ?_
  refine lv_iconst (v := 0) hx hb dX8_findFault_14 (by decide) ?_
  refine lv_istore_n (lv' := [(1, .int 0), (0, .ref (G.1 109))]) hx hb dX8_findFault_15 rfl hl (by decide) rfl (fun ls hl => ?_)
  exact L16 FU 0 _ _ _ _ h hP hS (lv_sub hl [1, 0] rfl)
