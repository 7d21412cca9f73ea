/-- the root before place k: the desk's own root as its loop has it -/
def zSp : Nat → Nat
  | 0 => 0
  | n + 1 => zSq n
theorem zSp_zSq (k : Nat) : zSq k = if (zSp k + 1) * (zSp k + 1) ≤ k then zSp k + 1 else zSp k := by
  cases k with
  | zero => rfl
  | succ n => rfl
theorem zSp_le {n : Nat} (h : n < 602) : zSp n ≤ 24 := by
  cases n with
  | zero => exact Nat.zero_le _
  | succ n => exact zSq_le (by omega)
abbrev vX2 (T : Nat → ClassId) (a : Nat) (f : Nat → Nat) : va_W := [(a, .inr (2, [.ref (f 0), .ref (f 2), .ref (f 3), .ref (f 4), .ref (f 5)])), (f 0, .inr (7, [.ref (f 1), .int 0])), (f 1, eI T 960), (f 2, eQ), (f 3, eQ), (f 4, eQ), (f 5, .inl (T 0, 601, .inl (fun i => if i < 601 then nI (zSq i) else 0)))]
set_option maxHeartbeats 4000000 in
set_option maxRecDepth 100000 in
theorem nX2_init (l : Launch) (D : va_G) (T : Nat → ClassId) (a sz : Nat) : Met l yX2_init (.code yX2_init cX2_init 3 none :: lwW) (rmC 2 6 1575) (cPc D T sz [(a, .inr (2, [.null, .null, .null, .null, .null]))] [.ref a]) (cQv D [(a, .inr (2, [.null, .null, .null, .null, .null]))] sz (vX2 T a)) 6 1575 (va_A [(a, .inr (2, [.null, .null, .null, .null, .null]))] sz) := by
  refine Met.ofW (cc := cX2_init) (maxL := 3) (ret := none) (by decide) rfl ?_
  intro p e s m args below meth c s₁ B hml hv
  unfold cQv
  obtain ⟨rfl, rfl, hP, hX⟩ := hv
  have hx := B.exec
  have hb := B.bytes
  have hr := B.returns
  have hts := fun (w : Cond) (hw : w ∈ lwW) => atoms_spec (ws := (.code yX2_init cX2_init 3 none :: lwW)) B.pre w (List.mem_cons_of_mem _ hw)
  have hown : s.vm.findClass RX2 = some m.cls := findClass_of_methodNamed B.named
  have hlocks := B.notSynchronized
  have hin : meth.name = "<init>" := (name_of_methodNamed B.named B.method).1
  obtain ⟨hK, hN, hO⟩ := id hX
  have hD : va_D (va_A [(a, .inr (2, [.null, .null, .null, .null, .null]))] s.heap.size) [(a, .inr (2, [.null, .null, .null, .null, .null]))] := cD1
  have hA : ∀ q : Nat, s.heap.size ≤ q → va_A [(a, .inr (2, [.null, .null, .null, .null, .null]))] s.heap.size q := fun q h => Or.inr h
  have hS : va_S (va_A [(a, .inr (2, [.null, .null, .null, .null, .null]))] s.heap.size) s.heap s.heap [] := va_S.rf
  generalize va_A [(a, .inr (2, [.null, .null, .null, .null, .null]))] s.heap.size = A at hD hA hS ⊢
  have hl := lv_entry ([.ref a]) (n := 3) (Nat.le_of_ble_eq_true rfl)
  rw [lg_entry_eq]
  generalize (lg_sl ([.ref a]) ++ List.replicate (3 - (lg_sl ([.ref a])).length) Slot.unset).toArray = ls at hl ⊢
  have hl : lv_has ls 3 [(0, .ref a)] := hl
  refine lv_aload_n hx hb dX2_init_0 rfl (lv_at hl 0 rfl) ?_
  refine W.objInit hx hb hown (hts _ mw_184) (hts _ mw_25) (hts _ mw_26) rfl (by rw [hml]; exact hl.1) rfl dX2_init_1 (Nat.le_of_ble_eq_true rfl) (Nat.le_of_ble_eq_true rfl) ?_
  refine W.eq (g2 := F0 m 4 ls []) rfl ?_
  refine lv_aload_n hx hb dX2_init_4 rfl (lv_at hl 0 rfl) ?_
  refine va_new (ci := 7) (fs := [.null, .int 0]) (C := RX7) (T := TX7) (N := 2) hx hb hts iwX7 tyX7 tyX7_ok hown (hts _ mw_185) (hts _ mw_186) (hts _ mw_10) hK hP hD hS hA rfl nfX7 (Nat.le_of_ble_eq_true rfl) (Nat.le_of_ble_eq_true rfl) dX2_init_5 (fun q0 H hP hD hS => ?_)
  have hP : va_P D vwCl [(a, .inr (2, [.null, .null, .null, .null, .null])), (q0, .inr (7, [.null, .int 0]))] H := hP
  have hD : va_D A [(a, .inr (2, [.null, .null, .null, .null, .null])), (q0, .inr (7, [.null, .int 0]))] := hD
  refine W.widen (k := 1) (n := 2) (Nat.le_of_ble_eq_true rfl) (Nat.le_of_ble_eq_true rfl) ?_
  refine lv_dup hx hb dX2_init_8 rfl ?_
  refine lv_sipush (v := 240) hx hb dX2_init_9 (by decide) ?_
  have hA1 : ∀ q : Nat, H.size ≤ q → A q := fun q h => hA q (Nat.le_trans hS.1 h)
  have hF1 := cF (wc := [(q0, .inr (7, [.null, .int 0]))]) (ws := [(a, .inr (2, [.null, .null, .null, .null, .null]))]) hD hA1
  have hPc := hP.sub (ws' := [(q0, .inr (7, [.null, .int 0]))]) [1] rfl
  refine va_callv (va_runI (As := [.int 240]) (rest := [.ref q0, .ref a]) ⟨hx, hb, hml, hown, hts⟩ (nX7_init l D T q0 (H.size) 240 960 (by decide) (by decide) (by decide)) (cwI 1 hts (lwW_gc mw_189) rfl rfl rfl (hts _ mw_10) (hts _ mw_187) (hts _ mw_188) rfl (by decide +kernel) ⟨Nat.le_of_ble_eq_true rfl, Nat.le_of_ble_eq_true rfl⟩) ⟨fun a U g mk q => ⟨q.1, q.2.1, q.2.2.1, q.2.2.2.call⟩, fun U hU hW => ⟨rfl, by rw [hU], by rw [hU]; exact hPc, hX.warm hW⟩⟩ rfl rfl hl.1 rfl (lv_room (Nat.le_of_ble_eq_true rfl)) dX2_init_12 ⟨Nat.le_of_ble_eq_true rfl, Nat.le_of_ble_eq_true rfl⟩) hS (fun q _ h => hF1 q h) hF1 (fun g0 t H locs ht hvm hw hB hz1 hk1 hS => ?_)
  obtain ⟨hP1, hD1⟩ := hB
  rw [ht] at hP1
  obtain ⟨hP, hD⟩ := cjn (wc := [(q0, .inr (7, [.null, .int 0]))]) (ws := [(a, .inr (2, [.null, .null, .null, .null, .null]))]) hP hD hA1 hk1 hP1 hD1
  have hP : va_P D vwCl [(a, .inr (2, [.null, .null, .null, .null, .null])), (q0, .inr (7, [.ref (g0 0), .int 0])), (g0 0, eI T 960)] H := hP
  have hD : va_D A [(a, .inr (2, [.null, .null, .null, .null, .null])), (q0, .inr (7, [.ref (g0 0), .int 0])), (g0 0, eI T 960)] := hD
  refine W.widen (k := 2) (n := 962) (Nat.le_of_ble_eq_true rfl) (Nat.le_of_ble_eq_true rfl) ?_
  refine va_putF (D := D) (ci := 2) (v := .ref q0) (ty := .object "QuaternionDesk$Rows") (C := RX2) (T := TX2) (N := 5) hx hb hts iwX2 tyX2 tyX2_ok nmX2 hown hK hP hD hS 0 rfl rfl 0 (by decide) (hts _ mw_201) (fun _ h9 => h9) rfl hin rfl (by decide +kernel) rfl rfl (Nat.le_of_ble_eq_true rfl) dX2_init_15 (fun H locs hP hD hS => ?_)
  have hP : va_P D vwCl [(a, .inr (2, [.ref q0, .null, .null, .null, .null])), (q0, .inr (7, [.ref (g0 0), .int 0])), (g0 0, eI T 960)] H := hP
  have hD : va_D A [(a, .inr (2, [.ref q0, .null, .null, .null, .null])), (q0, .inr (7, [.ref (g0 0), .int 0])), (g0 0, eI T 960)] := hD
  refine lv_aload_n hx hb dX2_init_18 rfl (lv_at hl 0 rfl) ?_
  refine va_new (ci := 6) (fs := [.int 0, .int 0, .int 0, .int 0]) (C := RX6) (T := TX6) (N := 4) hx hb hts iwX6 tyX6 tyX6_ok hown (hts _ mw_199) (hts _ mw_35) (hts _ mw_3) hK hP hD hS hA rfl nfX6 (Nat.le_of_ble_eq_true rfl) (Nat.le_of_ble_eq_true rfl) dX2_init_19 (fun q1 H hP hD hS => ?_)
  have hP : va_P D vwCl [(a, .inr (2, [.ref q0, .null, .null, .null, .null])), (q0, .inr (7, [.ref (g0 0), .int 0])), (g0 0, eI T 960), (q1, eQ)] H := hP
  have hD : va_D A [(a, .inr (2, [.ref q0, .null, .null, .null, .null])), (q0, .inr (7, [.ref (g0 0), .int 0])), (g0 0, eI T 960), (q1, eQ)] := hD
  refine W.widen (k := 3) (n := 966) (Nat.le_of_ble_eq_true rfl) (Nat.le_of_ble_eq_true rfl) ?_
  refine lv_dup hx hb dX2_init_22 rfl ?_
  have hA1 : ∀ q : Nat, H.size ≤ q → A q := fun q h => hA q (Nat.le_trans hS.1 h)
  have hF1 := cF (wc := [(q1, eQ)]) (ws := [(a, .inr (2, [.ref q0, .null, .null, .null, .null])), (q0, .inr (7, [.ref (g0 0), .int 0])), (g0 0, eI T 960)]) hD hA1
  have hPc := hP.sub (ws' := [(q1, eQ)]) [3] rfl
  refine va_callv (va_runIN (As := []) (rest := [.ref q1, .ref a]) ⟨hx, hb, hml, hown, hts⟩ (nX6_init l D T q1 (H.size)) ⟨va_cnB 0 hts (lwW_gc mw_38) rfl rfl rfl (hN.M 9 rfl) (hts _ mw_3) (by decide +kernel) ⟨Nat.le_of_ble_eq_true rfl, Nat.le_of_ble_eq_true rfl⟩, rfl, hts _ mw_37⟩ ⟨fun a U g mk q => ⟨q.1, q.2.1, q.2.2.1, q.2.2.2.call⟩, fun U hU hW => ⟨rfl, by rw [hU], by rw [hU]; exact hPc, hX.warm hW⟩⟩ rfl rfl hl.1 rfl (lv_room (Nat.le_of_ble_eq_true rfl)) dX2_init_23 ⟨Nat.le_of_ble_eq_true rfl, Nat.le_of_ble_eq_true rfl⟩) hS (fun q _ h => hF1 q h) hF1 (fun g1 t H locs ht hvm hw hB hz1 hk1 hS => ?_)
  obtain ⟨hP1, hD1⟩ := hB
  rw [ht] at hP1
  obtain ⟨hP, hD⟩ := cjn (wc := [(q1, eQ)]) (ws := [(a, .inr (2, [.ref q0, .null, .null, .null, .null])), (q0, .inr (7, [.ref (g0 0), .int 0])), (g0 0, eI T 960)]) hP hD hA1 hk1 hP1 hD1
  have hP : va_P D vwCl [(a, .inr (2, [.ref q0, .null, .null, .null, .null])), (q0, .inr (7, [.ref (g0 0), .int 0])), (g0 0, eI T 960), (q1, eQ)] H := hP
  have hD : va_D A [(a, .inr (2, [.ref q0, .null, .null, .null, .null])), (q0, .inr (7, [.ref (g0 0), .int 0])), (g0 0, eI T 960), (q1, eQ)] := hD
  refine W.widen (k := 3) (n := 966) (Nat.le_of_ble_eq_true rfl) (Nat.le_of_ble_eq_true rfl) ?_
  refine va_putF (D := D) (ci := 2) (v := .ref q1) (ty := .object "QuaternionDesk$Quat") (C := RX2) (T := TX2) (N := 5) hx hb hts iwX2 tyX2 tyX2_ok nmX2 hown hK hP hD hS 0 rfl rfl 1 (by decide) (hts _ mw_204) (fun _ h9 => h9) rfl hin rfl (by decide +kernel) rfl rfl (Nat.le_of_ble_eq_true rfl) dX2_init_26 (fun H locs hP hD hS => ?_)
  have hP : va_P D vwCl [(a, .inr (2, [.ref q0, .ref q1, .null, .null, .null])), (q0, .inr (7, [.ref (g0 0), .int 0])), (g0 0, eI T 960), (q1, eQ)] H := hP
  have hD : va_D A [(a, .inr (2, [.ref q0, .ref q1, .null, .null, .null])), (q0, .inr (7, [.ref (g0 0), .int 0])), (g0 0, eI T 960), (q1, eQ)] := hD
  refine lv_aload_n hx hb dX2_init_29 rfl (lv_at hl 0 rfl) ?_
  refine va_new (ci := 6) (fs := [.int 0, .int 0, .int 0, .int 0]) (C := RX6) (T := TX6) (N := 4) hx hb hts iwX6 tyX6 tyX6_ok hown (hts _ mw_199) (hts _ mw_35) (hts _ mw_3) hK hP hD hS hA rfl nfX6 (Nat.le_of_ble_eq_true rfl) (Nat.le_of_ble_eq_true rfl) dX2_init_30 (fun q2 H hP hD hS => ?_)
  have hP : va_P D vwCl [(a, .inr (2, [.ref q0, .ref q1, .null, .null, .null])), (q0, .inr (7, [.ref (g0 0), .int 0])), (g0 0, eI T 960), (q1, eQ), (q2, eQ)] H := hP
  have hD : va_D A [(a, .inr (2, [.ref q0, .ref q1, .null, .null, .null])), (q0, .inr (7, [.ref (g0 0), .int 0])), (g0 0, eI T 960), (q1, eQ), (q2, eQ)] := hD
  refine W.widen (k := 4) (n := 970) (Nat.le_of_ble_eq_true rfl) (Nat.le_of_ble_eq_true rfl) ?_
  refine lv_dup hx hb dX2_init_33 rfl ?_
  have hA1 : ∀ q : Nat, H.size ≤ q → A q := fun q h => hA q (Nat.le_trans hS.1 h)
  have hF1 := cF (wc := [(q2, eQ)]) (ws := [(a, .inr (2, [.ref q0, .ref q1, .null, .null, .null])), (q0, .inr (7, [.ref (g0 0), .int 0])), (g0 0, eI T 960), (q1, eQ)]) hD hA1
  have hPc := hP.sub (ws' := [(q2, eQ)]) [4] rfl
  refine va_callv (va_runIN (As := []) (rest := [.ref q2, .ref a]) ⟨hx, hb, hml, hown, hts⟩ (nX6_init l D T q2 (H.size)) ⟨va_cnB 0 hts (lwW_gc mw_38) rfl rfl rfl (hN.M 9 rfl) (hts _ mw_3) (by decide +kernel) ⟨Nat.le_of_ble_eq_true rfl, Nat.le_of_ble_eq_true rfl⟩, rfl, hts _ mw_37⟩ ⟨fun a U g mk q => ⟨q.1, q.2.1, q.2.2.1, q.2.2.2.call⟩, fun U hU hW => ⟨rfl, by rw [hU], by rw [hU]; exact hPc, hX.warm hW⟩⟩ rfl rfl hl.1 rfl (lv_room (Nat.le_of_ble_eq_true rfl)) dX2_init_34 ⟨Nat.le_of_ble_eq_true rfl, Nat.le_of_ble_eq_true rfl⟩) hS (fun q _ h => hF1 q h) hF1 (fun g2 t H locs ht hvm hw hB hz1 hk1 hS => ?_)
  obtain ⟨hP1, hD1⟩ := hB
  rw [ht] at hP1
  obtain ⟨hP, hD⟩ := cjn (wc := [(q2, eQ)]) (ws := [(a, .inr (2, [.ref q0, .ref q1, .null, .null, .null])), (q0, .inr (7, [.ref (g0 0), .int 0])), (g0 0, eI T 960), (q1, eQ)]) hP hD hA1 hk1 hP1 hD1
  have hP : va_P D vwCl [(a, .inr (2, [.ref q0, .ref q1, .null, .null, .null])), (q0, .inr (7, [.ref (g0 0), .int 0])), (g0 0, eI T 960), (q1, eQ), (q2, eQ)] H := hP
  have hD : va_D A [(a, .inr (2, [.ref q0, .ref q1, .null, .null, .null])), (q0, .inr (7, [.ref (g0 0), .int 0])), (g0 0, eI T 960), (q1, eQ), (q2, eQ)] := hD
  refine W.widen (k := 4) (n := 970) (Nat.le_of_ble_eq_true rfl) (Nat.le_of_ble_eq_true rfl) ?_
  refine va_putF (D := D) (ci := 2) (v := .ref q2) (ty := .object "QuaternionDesk$Quat") (C := RX2) (T := TX2) (N := 5) hx hb hts iwX2 tyX2 tyX2_ok nmX2 hown hK hP hD hS 0 rfl rfl 2 (by decide) (hts _ mw_205) (fun _ h9 => h9) rfl hin rfl (by decide +kernel) rfl rfl (Nat.le_of_ble_eq_true rfl) dX2_init_37 (fun H locs hP hD hS => ?_)
  have hP : va_P D vwCl [(a, .inr (2, [.ref q0, .ref q1, .ref q2, .null, .null])), (q0, .inr (7, [.ref (g0 0), .int 0])), (g0 0, eI T 960), (q1, eQ), (q2, eQ)] H := hP
  have hD : va_D A [(a, .inr (2, [.ref q0, .ref q1, .ref q2, .null, .null])), (q0, .inr (7, [.ref (g0 0), .int 0])), (g0 0, eI T 960), (q1, eQ), (q2, eQ)] := hD
  refine lv_aload_n hx hb dX2_init_40 rfl (lv_at hl 0 rfl) ?_
  refine va_new (ci := 6) (fs := [.int 0, .int 0, .int 0, .int 0]) (C := RX6) (T := TX6) (N := 4) hx hb hts iwX6 tyX6 tyX6_ok hown (hts _ mw_199) (hts _ mw_35) (hts _ mw_3) hK hP hD hS hA rfl nfX6 (Nat.le_of_ble_eq_true rfl) (Nat.le_of_ble_eq_true rfl) dX2_init_41 (fun q3 H hP hD hS => ?_)
  have hP : va_P D vwCl [(a, .inr (2, [.ref q0, .ref q1, .ref q2, .null, .null])), (q0, .inr (7, [.ref (g0 0), .int 0])), (g0 0, eI T 960), (q1, eQ), (q2, eQ), (q3, eQ)] H := hP
  have hD : va_D A [(a, .inr (2, [.ref q0, .ref q1, .ref q2, .null, .null])), (q0, .inr (7, [.ref (g0 0), .int 0])), (g0 0, eI T 960), (q1, eQ), (q2, eQ), (q3, eQ)] := hD
  refine W.widen (k := 5) (n := 974) (Nat.le_of_ble_eq_true rfl) (Nat.le_of_ble_eq_true rfl) ?_
  refine lv_dup hx hb dX2_init_44 rfl ?_
  have hA1 : ∀ q : Nat, H.size ≤ q → A q := fun q h => hA q (Nat.le_trans hS.1 h)
  have hF1 := cF (wc := [(q3, eQ)]) (ws := [(a, .inr (2, [.ref q0, .ref q1, .ref q2, .null, .null])), (q0, .inr (7, [.ref (g0 0), .int 0])), (g0 0, eI T 960), (q1, eQ), (q2, eQ)]) hD hA1
  have hPc := hP.sub (ws' := [(q3, eQ)]) [5] rfl
  refine va_callv (va_runIN (As := []) (rest := [.ref q3, .ref a]) ⟨hx, hb, hml, hown, hts⟩ (nX6_init l D T q3 (H.size)) ⟨va_cnB 0 hts (lwW_gc mw_38) rfl rfl rfl (hN.M 9 rfl) (hts _ mw_3) (by decide +kernel) ⟨Nat.le_of_ble_eq_true rfl, Nat.le_of_ble_eq_true rfl⟩, rfl, hts _ mw_37⟩ ⟨fun a U g mk q => ⟨q.1, q.2.1, q.2.2.1, q.2.2.2.call⟩, fun U hU hW => ⟨rfl, by rw [hU], by rw [hU]; exact hPc, hX.warm hW⟩⟩ rfl rfl hl.1 rfl (lv_room (Nat.le_of_ble_eq_true rfl)) dX2_init_45 ⟨Nat.le_of_ble_eq_true rfl, Nat.le_of_ble_eq_true rfl⟩) hS (fun q _ h => hF1 q h) hF1 (fun g3 t H locs ht hvm hw hB hz1 hk1 hS => ?_)
  obtain ⟨hP1, hD1⟩ := hB
  rw [ht] at hP1
  obtain ⟨hP, hD⟩ := cjn (wc := [(q3, eQ)]) (ws := [(a, .inr (2, [.ref q0, .ref q1, .ref q2, .null, .null])), (q0, .inr (7, [.ref (g0 0), .int 0])), (g0 0, eI T 960), (q1, eQ), (q2, eQ)]) hP hD hA1 hk1 hP1 hD1
  have hP : va_P D vwCl [(a, .inr (2, [.ref q0, .ref q1, .ref q2, .null, .null])), (q0, .inr (7, [.ref (g0 0), .int 0])), (g0 0, eI T 960), (q1, eQ), (q2, eQ), (q3, eQ)] H := hP
  have hD : va_D A [(a, .inr (2, [.ref q0, .ref q1, .ref q2, .null, .null])), (q0, .inr (7, [.ref (g0 0), .int 0])), (g0 0, eI T 960), (q1, eQ), (q2, eQ), (q3, eQ)] := hD
  refine W.widen (k := 5) (n := 974) (Nat.le_of_ble_eq_true rfl) (Nat.le_of_ble_eq_true rfl) ?_
  refine va_putF (D := D) (ci := 2) (v := .ref q3) (ty := .object "QuaternionDesk$Quat") (C := RX2) (T := TX2) (N := 5) hx hb hts iwX2 tyX2 tyX2_ok nmX2 hown hK hP hD hS 0 rfl rfl 3 (by decide) (hts _ mw_206) (fun _ h9 => h9) rfl hin rfl (by decide +kernel) rfl rfl (Nat.le_of_ble_eq_true rfl) dX2_init_48 (fun H locs hP hD hS => ?_)
  have hP : va_P D vwCl [(a, .inr (2, [.ref q0, .ref q1, .ref q2, .ref q3, .null])), (q0, .inr (7, [.ref (g0 0), .int 0])), (g0 0, eI T 960), (q1, eQ), (q2, eQ), (q3, eQ)] H := hP
  have hD : va_D A [(a, .inr (2, [.ref q0, .ref q1, .ref q2, .ref q3, .null])), (q0, .inr (7, [.ref (g0 0), .int 0])), (g0 0, eI T 960), (q1, eQ), (q2, eQ), (q3, eQ)] := hD
  refine lv_aload_n hx hb dX2_init_51 rfl (lv_at hl 0 rfl) ?_
  refine lv_sipush (v := 601) hx hb dX2_init_52 (by decide) ?_
  refine cn_newa (atype := .int) (a0 := (601, .inl (fun _ => 0))) hx hb (hts _ mw_93) rfl hK 0 rfl (fun C h9 => by cases h9) hP hD hS hA (fun cA => vp_cell_i cA _ _) (by decide) (by decide) (Nat.le_of_ble_eq_true rfl) (Nat.le_of_ble_eq_true rfl) (Nat.le_of_ble_eq_true rfl) dX2_init_55 (fun q4 H hP hD hS => ?_)
  have hP : va_P D vwCl [(a, .inr (2, [.ref q0, .ref q1, .ref q2, .ref q3, .null])), (q0, .inr (7, [.ref (g0 0), .int 0])), (g0 0, eI T 960), (q1, eQ), (q2, eQ), (q3, eQ), (q4, eI T 601)] H := hP
  have hD : va_D A [(a, .inr (2, [.ref q0, .ref q1, .ref q2, .ref q3, .null])), (q0, .inr (7, [.ref (g0 0), .int 0])), (g0 0, eI T 960), (q1, eQ), (q2, eQ), (q3, eQ), (q4, eI T 601)] := hD
  refine W.widen (k := 6) (n := 1575) (Nat.le_of_ble_eq_true rfl) (Nat.le_of_ble_eq_true rfl) ?_
  refine va_putF (D := D) (ci := 2) (v := .ref q4) (ty := .array .int) (C := RX2) (T := TX2) (N := 5) hx hb hts iwX2 tyX2 tyX2_ok nmX2 hown hK hP hD hS 0 rfl rfl 4 (by decide) (hts _ mw_207) (fun _ h9 => h9) rfl hin rfl (by decide +kernel) rfl rfl (Nat.le_of_ble_eq_true rfl) dX2_init_57 (fun H locs hP hD hS => ?_)
  have hP : va_P D vwCl [(a, .inr (2, [.ref q0, .ref q1, .ref q2, .ref q3, .ref q4])), (q0, .inr (7, [.ref (g0 0), .int 0])), (g0 0, eI T 960), (q1, eQ), (q2, eQ), (q3, eQ), (q4, eI T 601)] H := hP
  have hD : va_D A [(a, .inr (2, [.ref q0, .ref q1, .ref q2, .ref q3, .ref q4])), (q0, .inr (7, [.ref (g0 0), .int 0])), (g0 0, eI T 960), (q1, eQ), (q2, eQ), (q3, eQ), (q4, eI T 601)] := hD
  refine lv_iconst (v := 0) hx hb dX2_init_60 (by decide) ?_
  refine lv_istore_n (lv' := [(1, .int 0), (0, .ref a)]) hx hb dX2_init_61 rfl hl (by decide) rfl (fun ls hl => ?_)
  refine lv_iconst (v := 0) hx hb dX2_init_62 (by decide) ?_
  refine lv_istore_n (lv' := [(2, .int 0), (1, .int 0), (0, .ref a)]) hx hb dX2_init_63 rfl hl (by decide) rfl (fun ls hl => ?_)
  have loop : ∀ (j k : Nat) (f : Nat → Int32) (H : Heap) (locs : List Loc) (ls : Array Slot), k + j = 601 → (∀ i, f i = if i < k then nI (zSq i) else 0) → va_P D vwCl [(a, .inr (2, [.ref q0, .ref q1, .ref q2, .ref q3, .ref q4])), (q0, .inr (7, [.ref (g0 0), .int 0])), (g0 0, eI T 960), (q1, eQ), (q2, eQ), (q3, eQ), (q4, .inl (T 0, 601, .inl f))] H → va_D A [(a, .inr (2, [.ref q0, .ref q1, .ref q2, .ref q3, .ref q4])), (q0, .inr (7, [.ref (g0 0), .int 0])), (g0 0, eI T 960), (q1, eQ), (q2, eQ), (q3, eQ), (q4, .inl (T 0, 601, .inl f))] → va_S A s.heap H locs → lv_has ls 3 [(2, .int (nI k)), (1, .int (nI (zSp k))), (0, .ref a)] → W p l e (headSpec (.code yX2_init cX2_init 3 none :: lwW) (rmC 2 6 1575)).room s m ([.ref a] : List Value).toArray below meth c H locs 6 1575 (MQ below (va_Qv (fun _ : Nat → Nat => True) (fun f t => va_P D vwCl (vX2 T a f) t.heap ∧ va_D A (vX2 T a f)) A) ([.ref a] : List Value).toArray s 6 1575 A) (F0 m 64 ls []) := by
    intro j
    induction j with
    | zero =>
      intro k f H locs ls hk hf hP hD hS hl
      obtain rfl : k = 601 := by omega
      obtain rfl : f = fun i => if i < 601 then nI (zSq i) else 0 := funext hf
      refine lv_iload_n hx hb dX2_init_64 rfl (lv_at hl 0 rfl) ?_
      refine lv_aload_n hx hb dX2_init_65 rfl (lv_at hl 2 rfl) ?_
      refine va_get (D := D) (ci := 2) (v := .ref q4) (C := RX2) (T := TX2) (N := 5) hx hb hts iwX2 hown hK hP 0 rfl rfl 4 (by decide) (hts _ mw_207) (fun _ h9 => h9) rfl dX2_init_66 ?_
      refine va_alen hx hb hK hP 6 0 rfl rfl (v := nI 601) rfl dX2_init_69 ?_
      refine lv_icmp_ge (tgt := 100) hx hb dX2_init_70 (by decide) (fun _ => ?_) (fun hc => absurd (nI_le (Nat.le_refl _) (by omega)) hc)
      have hD0 := hD
      have hP : va_P D vwCl (vX2 T a (fun k => (([q0, g0 0, q1, q2, q3, q4] : List Nat).getD k 0))) _ := hP
      have hD : va_D A (vX2 T a (fun k => (([q0, g0 0, q1, q2, q3, q4] : List Nat).getD k 0))) := cDe hD0 rfl
      exact W.vret hx hb hr (fun t ht hW => ⟨⟨(fun k => (([q0, g0 0, q1, q2, q3, q4] : List Nat).getD k 0)), rfl, trivial, by rw [ht]; exact hP, hD⟩, hS.F ht⟩) hS.2.2 dX2_init_100
    | succ j ih =>
      intro k f H locs ls hk hf hP hD hS hl
      have hb24 := zSp_le (n := k) (by omega)
      refine lv_iload_n hx hb dX2_init_64 rfl (lv_at hl 0 rfl) ?_
      refine lv_aload_n hx hb dX2_init_65 rfl (lv_at hl 2 rfl) ?_
      refine va_get (D := D) (ci := 2) (v := .ref q4) (C := RX2) (T := TX2) (N := 5) hx hb hts iwX2 hown hK hP 0 rfl rfl 4 (by decide) (hts _ mw_207) (fun _ h9 => h9) rfl dX2_init_66 ?_
      refine va_alen hx hb hK hP 6 0 rfl rfl (v := nI 601) rfl dX2_init_69 ?_
      refine lv_icmp_ge (tgt := 100) hx hb dX2_init_70 (by decide) (fun hc => absurd hc (nI_ge (by omega) (by omega))) (fun _ => ?_)
      have tail : ∀ (ls : Array Slot), lv_has ls 3 [(1, .int (nI (zSq k))), (2, .int (nI k)), (0, .ref a)] → W p l e (headSpec (.code yX2_init cX2_init 3 none :: lwW) (rmC 2 6 1575)).room s m ([.ref a] : List Value).toArray below meth c H locs 6 1575 (MQ below (va_Qv (fun _ : Nat → Nat => True) (fun f t => va_P D vwCl (vX2 T a f) t.heap ∧ va_D A (vX2 T a f)) A) ([.ref a] : List Value).toArray s 6 1575 A) (F0 m 87 ls []) := by
        intro ls hl
        refine lv_aload_n hx hb dX2_init_87 rfl (lv_at hl 2 rfl) ?_
        refine va_get (D := D) (ci := 2) (v := .ref q4) (C := RX2) (T := TX2) (N := 5) hx hb hts iwX2 hown hK hP 0 rfl rfl 4 (by decide) (hts _ mw_207) (fun _ h9 => h9) rfl dX2_init_88 ?_
        refine lv_iload_n hx hb dX2_init_91 rfl (lv_at hl 1 rfl) ?_
        refine lv_iload_n hx hb dX2_init_92 rfl (lv_at hl 0 rfl) ?_
        refine va_iast hx hb hK hP hD hS 6 0 rfl rfl (vp_in_nI (by omega) (by omega)) dX2_init_93 (fun H locs hP hD hS => ?_)
        rw [nI_clamp (by omega)] at hP hD
        refine lv_iinc (v := nI (k + 1)) (lv' := [(2, .int (nI (k + 1))), (1, .int (nI (zSq k))), (0, .ref a)]) hx hb dX2_init_94 hl (k := 1) rfl (nI_1 k) (by decide) rfl (fun ls hl => ?_)
        refine lv_goto (tgt := 64) hx hb dX2_init_97 (by decide) ?_
        refine ih (k + 1) (upd f k (nI (zSq k))) H locs ls (by omega) (fun i => ?_) hP hD hS hl
        unfold upd
        by_cases e1 : i = k
        · subst e1; rw [if_pos rfl, if_pos (by omega)]
        · rw [if_neg e1, hf i]
          by_cases e2 : i < k
          · rw [if_pos e2, if_pos (by omega)]
          · rw [if_neg e2, if_neg (by omega)]
      refine lv_iload_n hx hb dX2_init_73 rfl (lv_at hl 1 rfl) ?_
      refine lv_iconst (v := 1) hx hb dX2_init_74 (by decide) ?_
      refine lv_iadd hx hb dX2_init_75 ?_
      refine lv_iload_n hx hb dX2_init_76 rfl (lv_at hl 1 rfl) ?_
      refine lv_iconst (v := 1) hx hb dX2_init_77 (by decide) ?_
      refine lv_iadd hx hb dX2_init_78 ?_
      refine lv_imul hx hb dX2_init_79 ?_
      rw [show (nI (zSp k) + 1) * (nI (zSp k) + 1) = nI ((zSp k + 1) * (zSp k + 1)) from by rw [nI_1, nI_mulM]]
      refine lv_iload_n hx hb dX2_init_80 rfl (lv_at hl 0 rfl) ?_
      have hm : (zSp k + 1) * (zSp k + 1) ≤ 25 * 25 := Nat.mul_le_mul (by omega) (by omega)
      refine lv_icmp_gt (tgt := 87) hx hb dX2_init_81 (by decide) (fun hc => ?_) (fun hc => ?_)
      · have h1 : ¬ (zSp k + 1) * (zSp k + 1) ≤ k := fun q => nI_nlt q (by omega) hc
        refine tail ls ?_
        rw [zSp_zSq, if_neg h1]
        exact lv_sub hl [1, 0, 2] rfl
      · have h1 : (zSp k + 1) * (zSp k + 1) ≤ k := Nat.not_lt.mp (fun q => hc (nI_lt q (by omega)))
        refine lv_iinc (v := nI (zSp k + 1)) (lv' := [(1, .int (nI (zSp k + 1))), (2, .int (nI k)), (0, .ref a)]) hx hb dX2_init_84 hl (k := 1) rfl (nI_1 _) (by decide) rfl (fun ls hl => ?_)
        refine tail ls ?_
        rw [zSp_zSq, if_pos h1]
        exact hl
  exact loop 601 0 (fun _ => 0) H locs ls (by omega) (fun i => by rw [if_neg (Nat.not_lt_zero i)]) hP hD hS hl
