def updN (f : Nat → Nat) (k x : Nat) : Nat → Nat := fun j => if j = k then x else f j
abbrev vNQ (T : Nat → ClassId) (n : Nat) (a : Nat) (f : Nat → Nat) : va_W := (a, eR T 1 n (fun i => some (f i))) :: (List.range n).map (fun i => (f i, eQ))
theorem nq_list {k q : Nat} {f : Nat → Nat} : (List.range k).map (fun i => (f i, eQ)) ++ [(q, eQ)] = (List.range (k + 1)).map (fun i => (updN f k q i, eQ)) := by
  rw [List.range_succ, List.map_append]
  congr 1
  · apply List.map_congr_left
    intro i hi
    have h1 := List.mem_range.mp hi
    simp only [updN, if_neg (show ¬ i = k by omega)]
  · simp [updN]
theorem nq_at {k q a : Nat} {e : va_E} {f : Nat → Nat} : ((a, e) :: ((List.range k).map (fun i => (f i, eQ)) ++ [(q, eQ)]))[k + 1]? = some (q, eQ) := by
  rw [List.getElem?_cons_succ, List.getElem?_append_right (by simp)]
  simp
set_option maxHeartbeats 4000000 in
set_option maxRecDepth 100000 in
theorem nX11_newQuats (l : Launch) (D : va_G) (T : Nat → ClassId) (sz : Nat) (v : Int32) (n : Nat) (hvn : v = nI n) (hn8 : n ≤ 8) : Met l yX11_newQuats (.code yX11_newQuats cX11_newQuats 3 (some (.array (.object "QuaternionDesk$Quat"))) :: lwW) (rmC 2 (1 + n) (5 * n)) (cPc D T sz [] [.int v]) (cQr D sz (vNQ T n)) (1 + n) (5 * n) (va_A [] sz) := by
  refine Met.ofW (cc := cX11_newQuats) (maxL := 3) (ret := some (.array (.object "QuaternionDesk$Quat"))) (by decide) rfl ?_
  intro p e s m args below meth c s₁ B hml hv
  unfold cQr
  obtain ⟨rfl, rfl, hP, hX⟩ := hv
  have hx := B.exec
  have hb := B.bytes
  have hr := B.returns
  have hts := fun (w : Cond) (hw : w ∈ lwW) => atoms_spec (ws := (.code yX11_newQuats cX11_newQuats 3 (some (.array (.object "QuaternionDesk$Quat"))) :: lwW)) B.pre w (List.mem_cons_of_mem _ hw)
  have hown : s.vm.findClass RX11 = some m.cls := findClass_of_methodNamed B.named
  have hlocks := B.notSynchronized
  obtain ⟨hK, hN, hO⟩ := id hX
  have hD : va_D (va_A [] s.heap.size) [] := ⟨fun i j p q h => by simp at h, fun k q h => by simp at h⟩
  have hA : ∀ q : Nat, s.heap.size ≤ q → va_A [] s.heap.size q := fun q h => Or.inr h
  have hS : va_S (va_A [] s.heap.size) s.heap s.heap [] := va_S.rf
  generalize va_A [] s.heap.size = A at hD hA hS ⊢
  have hl := lv_entry ([.int v]) (n := 3) (Nat.le_of_ble_eq_true rfl)
  rw [lg_entry_eq]
  generalize (lg_sl ([.int v]) ++ List.replicate (3 - (lg_sl ([.int v])).length) Slot.unset).toArray = ls at hl ⊢
  have hl : lv_has ls 3 [(0, .int v)] := hl
  refine lv_iload_n hx hb dX11_newQuats_0 rfl (lv_at hl 0 rfl) ?_
  refine lv_iconst (v := 0) hx hb dX11_newQuats_1 (by decide) ?_
  refine va_mmax hx hb (by rw [hml]; exact hl.1.symm) hown (hts _ mm_RX11_303) (hts _ mms_max) (hts _ mw_2) (hts _ mmc_max) (Nat.le_of_ble_eq_true rfl) (Nat.le_of_ble_eq_true rfl) (Nat.zero_le _) (Nat.zero_le _) dX11_newQuats_2 ?_
  rw [show (if v < 0 then (0 : Int32) else v) = nI n from by rw [hvn, if_neg (nI_pos (by omega))]]
  refine cn_newq (N' := n) hx hb hown (hts _ mw_33) hO.1 hK 1 rfl hP hD hS hA (nI_pos (by omega)) (nI_clamp (by omega)) (by omega) (by show 0 + 1 ≤ 1 + n; omega) (by show 0 + n ≤ 5 * n; omega) dX11_newQuats_5 (fun q0 H hP hD hS => ?_)
  refine lv_astore_n (lv' := [(1, .ref q0), (0, .int v)]) hx hb dX11_newQuats_8 rfl hl (by decide) rfl (fun ls hl => ?_)
  refine lv_iconst (v := 0) hx hb dX11_newQuats_9 (by decide) ?_
  refine lv_istore_n (lv' := [(2, .int 0), (1, .ref q0), (0, .int v)]) hx hb dX11_newQuats_10 rfl hl (by decide) rfl (fun ls hl => ?_)
  have loop : ∀ (j k : Nat) (f : Nat → Nat) (F : Nat → Option Nat) (H : Heap) (locs : List Loc) (ls : Array Slot), k + j = n → (∀ i, i < k → F i = some (f i)) → va_P D vwCl ((q0, eR T 1 n F) :: (List.range k).map (fun i => (f i, eQ))) H → va_D A ((q0, eR T 1 n F) :: (List.range k).map (fun i => (f i, eQ))) → va_S A s.heap H locs → lv_has ls 3 [(2, .int (nI k)), (1, .ref q0), (0, .int v)] → W p l e (headSpec (.code yX11_newQuats cX11_newQuats 3 (some (.array (.object "QuaternionDesk$Quat"))) :: lwW) (rmC 2 (1 + n) (5 * n))).room s m ([.int v] : List Value).toArray below meth c H locs (1 + k) (n + 4 * k) (MQ below (va_Qr (fun _ : Nat → Nat => True) (fun f a t => va_P D vwCl (vNQ T n a f) t.heap ∧ va_D A (vNQ T n a f)) A) ([.int v] : List Value).toArray s (1 + n) (5 * n) A) (F0 m 11 ls []) := by
    intro j
    induction j with
    | zero =>
      intro k f F H locs ls hk hF hP hD hS hl
      obtain rfl : k = n := by omega
      refine lv_iload_n hx hb dX11_newQuats_11 rfl (lv_at hl 0 rfl) ?_
      refine lv_aload_n hx hb dX11_newQuats_12 rfl (lv_at hl 1 rfl) ?_
      refine va_alen hx hb hK hP 0 1 rfl rfl (v := nI k) rfl dX11_newQuats_13 ?_
      refine lv_icmp_ge (tgt := 33) hx hb dX11_newQuats_14 (by decide) (fun _ => ?_) (fun hc => absurd (nI_le (Nat.le_refl _) (by omega)) hc)
      refine lv_aload_n hx hb dX11_newQuats_33 rfl (lv_at hl 1 rfl) ?_
      refine W.widen (k := 1 + k) (n := 5 * k) (Nat.le_refl _) (by omega) ?_
      have hP := cRowP (fun i => some (f i)) hP (p := 0) rfl hF
      have hD : va_D A (vNQ T k q0 f) := cDe hD rfl
      exact W.aret hx hb hr (Or.inr ⟨_, rfl⟩) (Or.inr ⟨_, rfl⟩) (fun t ht hW => ⟨⟨f, q0, rfl, trivial, by rw [ht]; exact hP, hD⟩, hS.F ht⟩) hS.2.2 dX11_newQuats_34
    | succ j ih =>
      intro k f F H locs ls hk hF hP hD hS hl
      refine lv_iload_n hx hb dX11_newQuats_11 rfl (lv_at hl 0 rfl) ?_
      refine lv_aload_n hx hb dX11_newQuats_12 rfl (lv_at hl 1 rfl) ?_
      refine va_alen hx hb hK hP 0 1 rfl rfl (v := nI n) rfl dX11_newQuats_13 ?_
      refine lv_icmp_ge (tgt := 33) hx hb dX11_newQuats_14 (by decide) (fun hc => absurd hc (nI_ge (by omega) (by omega))) (fun _ => ?_)
      refine lv_aload_n hx hb dX11_newQuats_17 rfl (lv_at hl 1 rfl) ?_
      refine lv_iload_n hx hb dX11_newQuats_18 rfl (lv_at hl 0 rfl) ?_
      refine va_new (ci := 6) (fs := [.int 0, .int 0, .int 0, .int 0]) (C := RX6) (T := TX6) (N := 4) hx hb hts iwX6 tyX6 tyX6_ok hown (hts _ mw_33) (hts _ mw_35) (hts _ mw_3) hK hP hD hS hA rfl nfX6 (by show 1 + k + 1 ≤ 1 + n; omega) (by show n + 4 * k + 4 ≤ 5 * n; omega) dX11_newQuats_19 (fun q H hP hD hS => ?_)
      refine lv_dup hx hb dX11_newQuats_22 rfl ?_
      have hA1 : ∀ q : Nat, H.size ≤ q → A q := fun q h => hA q (Nat.le_trans hS.1 h)
      have hF1 := cF (wc := [(q, eQ)]) (ws := (q0, eR T 1 n F) :: (List.range k).map (fun i => (f i, eQ))) hD hA1
      have hPc : va_P D vwCl [(q, eQ)] H := hP.sub (ws' := [(q, eQ)]) [k + 1] (by
        simp only [List.filterMap_cons, List.filterMap_nil]
        rw [List.cons_append, nq_at])
      refine va_callv (va_runIN (As := []) (rest := [.ref q, .int (nI k), .ref q0]) ⟨hx, hb, hml, hown, hts⟩ (nX6_init l D T q (H.size)) ⟨va_cnB 0 hts (lwW_gc mw_38) rfl rfl rfl (hN.M 0 rfl) (hts _ mw_3) (by decide +kernel) ⟨Nat.le_of_ble_eq_true rfl, Nat.le_of_ble_eq_true rfl⟩, rfl, hts _ mw_37⟩ ⟨fun a U g mk q => ⟨q.1, q.2.1, q.2.2.1, q.2.2.2.call⟩, fun U hU hW => ⟨rfl, by rw [hU], by rw [hU]; exact hPc, hX.warm hW⟩⟩ rfl rfl hl.1 rfl (lv_room (Nat.le_of_ble_eq_true rfl)) dX11_newQuats_23 ⟨by show 1 + k + 1 + 0 ≤ 1 + n; omega, by show n + 4 * k + 4 + 0 ≤ 5 * n; omega⟩) hS (fun q _ h => hF1 q h) hF1 (fun g0 t H locs ht hvm hw hB hz1 hk1 hS => ?_)
      obtain ⟨hP1, hD1⟩ := hB
      rw [ht] at hP1
      obtain ⟨hP, hD⟩ := cjn (wc := [(q, eQ)]) (ws := (q0, eR T 1 n F) :: (List.range k).map (fun i => (f i, eQ))) hP hD hA1 hk1 hP1 hD1
      refine va_astq hx hb hK hP hD hS 0 1 (k + 1) 6 (r := (RX6, TX6, 4)) rfl rfl nq_at rfl (vp_in_nI (by omega) (by omega)) dX11_newQuats_26 (fun H locs hP hD hS => ?_)
      rw [nI_clamp (by omega)] at hP hD
      refine lv_iinc (v := nI (k + 1)) (lv' := [(2, .int (nI (k + 1))), (1, .ref q0), (0, .int v)]) hx hb dX11_newQuats_27 hl (k := 0) rfl (nI_1 k) (by decide) rfl (fun ls hl => ?_)
      refine lv_goto (tgt := 11) hx hb dX11_newQuats_30 (by decide) ?_
      refine W.widen (k := 1 + (k + 1)) (n := n + 4 * (k + 1)) (by omega) (by omega) ?_
      have hLe : ((q0, eR T 1 n F) :: (List.range k).map (fun i => (f i, eQ)) ++ vX6 T q g0).set 0 (q0, eR T 1 n (va_up F k (some q))) = (q0, eR T 1 n (va_up F k (some q))) :: (List.range (k + 1)).map (fun i => (updN f k q i, eQ)) := by
        rw [← nq_list]; rfl
      rw [hLe] at hP hD
      refine ih (k + 1) (updN f k q) (va_up F k (some q)) H locs ls (by omega) (fun i hi => ?_) hP hD hS hl
      by_cases e : i = k
      · subst e; simp [va_up, updN]
      · simp only [va_up, updN, if_neg e]
        exact hF i (by omega)
  refine W.widen (k := 1 + 0) (n := n + 4 * 0) (by omega) (by omega) ?_
  exact loop n 0 (fun _ => 0) (fun _ => none) H [] ls (by omega) (fun i hi => by omega) hP hD hS hl
abbrev vX10 (T : Nat → ClassId) (a : Nat) (f : Nat → Nat) : va_W := [(a, .inr (10, [.ref (f 0), .int 0, .int 0])), (f 0, eI T 6)]
set_option maxHeartbeats 4000000 in
set_option maxRecDepth 100000 in
theorem nX10_init (l : Launch) (D : va_G) (T : Nat → ClassId) (a sz : Nat) : Met l yX10_init (.code yX10_init cX10_init 1 none :: lwW) (rmC 1 1 6) (cPc D T sz [(a, .inr (10, [.null, .int 0, .int 0]))] [.ref a]) (cQv D [(a, .inr (10, [.null, .int 0, .int 0]))] sz (vX10 T a)) 1 6 (va_A [(a, .inr (10, [.null, .int 0, .int 0]))] sz) := by
  refine Met.ofW (cc := cX10_init) (maxL := 1) (ret := none) (by decide) rfl ?_
  intro p e s m args below meth c s₁ B hml hv
  unfold cQv
  obtain ⟨rfl, rfl, hP, hX⟩ := hv
  have hx := B.exec
  have hb := B.bytes
  have hr := B.returns
  have hts := fun (w : Cond) (hw : w ∈ lwW) => atoms_spec (ws := (.code yX10_init cX10_init 1 none :: lwW)) B.pre w (List.mem_cons_of_mem _ hw)
  have hown : s.vm.findClass RX10 = some m.cls := findClass_of_methodNamed B.named
  have hlocks := B.notSynchronized
  have hin : meth.name = "<init>" := (name_of_methodNamed B.named B.method).1
  obtain ⟨hK, hN, hO⟩ := id hX
  have hD : va_D (va_A [(a, .inr (10, [.null, .int 0, .int 0]))] s.heap.size) [(a, .inr (10, [.null, .int 0, .int 0]))] := cD1
  have hA : ∀ q : Nat, s.heap.size ≤ q → va_A [(a, .inr (10, [.null, .int 0, .int 0]))] s.heap.size q := fun q h => Or.inr h
  have hS : va_S (va_A [(a, .inr (10, [.null, .int 0, .int 0]))] s.heap.size) s.heap s.heap [] := va_S.rf
  generalize va_A [(a, .inr (10, [.null, .int 0, .int 0]))] s.heap.size = A at hD hA hS ⊢
  have hl := lv_entry ([.ref a]) (n := 1) (Nat.le_of_ble_eq_true rfl)
  rw [lg_entry_eq]
  generalize (lg_sl ([.ref a]) ++ List.replicate (1 - (lg_sl ([.ref a])).length) Slot.unset).toArray = ls at hl ⊢
  have hl : lv_has ls 1 [(0, .ref a)] := hl
  refine lv_aload_n hx hb dX10_init_0 rfl (lv_at hl 0 rfl) ?_
  refine W.objInit hx hb hown (hts _ mw_82) (hts _ mw_25) (hts _ mw_26) rfl (by rw [hml]; exact hl.1) rfl dX10_init_1 (Nat.le_of_ble_eq_true rfl) (Nat.le_of_ble_eq_true rfl) ?_
  refine W.eq (g2 := F0 m 4 ls []) rfl ?_
  refine lv_aload_n hx hb dX10_init_4 rfl (lv_at hl 0 rfl) ?_
  refine lv_bipush (v := 6) hx hb dX10_init_5 (by decide) ?_
  refine cn_newa (atype := .int) (a0 := (6, .inl (fun _ => 0))) hx hb (hts _ mw_93) rfl hK 0 rfl (fun C h9 => by cases h9) hP hD hS hA (fun cA => vp_cell_i cA _ _) (by decide) (by decide) (Nat.le_of_ble_eq_true rfl) (Nat.le_of_ble_eq_true rfl) (Nat.le_of_ble_eq_true rfl) dX10_init_7 (fun q0 H hP hD hS => ?_)
  have hP : va_P D vwCl [(a, .inr (10, [.null, .int 0, .int 0])), (q0, eI T 6)] H := hP
  have hD : va_D A [(a, .inr (10, [.null, .int 0, .int 0])), (q0, eI T 6)] := hD
  refine W.widen (k := 1) (n := 6) (Nat.le_of_ble_eq_true rfl) (Nat.le_of_ble_eq_true rfl) ?_
  refine va_putF (D := D) (ci := 10) (v := .ref q0) (ty := .array .int) (C := RX10) (T := TX10) (N := 3) hx hb hts iwX10 tyX10 tyX10_ok nmX10 hown hK hP hD hS 0 rfl rfl 0 (by decide) (hts _ mw_83) (fun _ h9 => h9) rfl hin rfl (by decide +kernel) rfl rfl (Nat.le_of_ble_eq_true rfl) dX10_init_9 (fun H locs hP hD hS => ?_)
  have hP : va_P D vwCl [(a, .inr (10, [.ref q0, .int 0, .int 0])), (q0, eI T 6)] H := hP
  have hD : va_D A [(a, .inr (10, [.ref q0, .int 0, .int 0])), (q0, eI T 6)] := hD
  refine lv_aload_n hx hb dX10_init_12 rfl (lv_at hl 0 rfl) ?_
  refine lv_iconst (v := 0) hx hb dX10_init_13 (by decide) ?_
  refine va_put (D := D) (ci := 10) (v := .int 0) (ty := .int) (C := RX10) (T := TX10) (N := 3) hx hb hts iwX10 tyX10 tyX10_ok nmX10 hown hK hP hD hS 0 rfl rfl 1 (by decide) (hts _ mw_84) (fun _ h9 => h9) rfl (by decide +kernel) rfl rfl (Nat.le_of_ble_eq_true rfl) dX10_init_14 (fun H locs hP hD hS => ?_)
  have hP : va_P D vwCl [(a, .inr (10, [.ref q0, .int 0, .int 0])), (q0, eI T 6)] H := hP
  have hD : va_D A [(a, .inr (10, [.ref q0, .int 0, .int 0])), (q0, eI T 6)] := hD
  refine lv_aload_n hx hb dX10_init_17 rfl (lv_at hl 0 rfl) ?_
  refine lv_iconst (v := 0) hx hb dX10_init_18 (by decide) ?_
  refine va_put (D := D) (ci := 10) (v := .int 0) (ty := .boolean) (C := RX10) (T := TX10) (N := 3) hx hb hts iwX10 tyX10 tyX10_ok nmX10 hown hK hP hD hS 0 rfl rfl 2 (by decide) (hts _ mw_85) (fun _ h9 => h9) rfl (by decide +kernel) rfl rfl (Nat.le_of_ble_eq_true rfl) dX10_init_19 (fun H locs hP hD hS => ?_)
  have hP : va_P D vwCl [(a, .inr (10, [.ref q0, .int 0, .int 0])), (q0, eI T 6)] H := hP
  have hD : va_D A [(a, .inr (10, [.ref q0, .int 0, .int 0])), (q0, eI T 6)] := hD
  have hD0 := hD
  have hP : va_P D vwCl (vX10 T a (fun k => (([q0] : List Nat).getD k 0))) _ := hP
  have hD : va_D A (vX10 T a (fun k => (([q0] : List Nat).getD k 0))) := cDe hD0 rfl
  exact W.vret hx hb hr (fun t ht hW => ⟨⟨fun k => (([q0] : List Nat).getD k 0), rfl, trivial, by rw [ht]; exact hP, hD⟩, hS.F ht⟩) hS.2.2 dX10_init_22
abbrev vX9 (T : Nat → ClassId) (a : Nat) (f : Nat → Nat) : va_W := [(a, .inr (9, [.ref (f 0), .int 0])), (f 0, eR T 1 6 (fun i => some (f (1 + i)))), (f 1, eQ), (f 2, eQ), (f 3, eQ), (f 4, eQ), (f 5, eQ), (f 6, eQ)]
set_option maxHeartbeats 4000000 in
set_option maxRecDepth 100000 in
theorem nX9_init (l : Launch) (D : va_G) (T : Nat → ClassId) (a sz : Nat) : Met l yX9_init (.code yX9_init cX9_init 1 none :: lwW) (rmC 3 7 30) (cPc D T sz [(a, .inr (9, [.null, .int 0]))] [.ref a]) (cQv D [(a, .inr (9, [.null, .int 0]))] sz (vX9 T a)) 7 30 (va_A [(a, .inr (9, [.null, .int 0]))] sz) := by
  refine Met.ofW (cc := cX9_init) (maxL := 1) (ret := none) (by decide) rfl ?_
  intro p e s m args below meth c s₁ B hml hv
  unfold cQv
  obtain ⟨rfl, rfl, hP, hX⟩ := hv
  have hx := B.exec
  have hb := B.bytes
  have hr := B.returns
  have hts := fun (w : Cond) (hw : w ∈ lwW) => atoms_spec (ws := (.code yX9_init cX9_init 1 none :: lwW)) B.pre w (List.mem_cons_of_mem _ hw)
  have hown : s.vm.findClass RX9 = some m.cls := findClass_of_methodNamed B.named
  have hlocks := B.notSynchronized
  have hin : meth.name = "<init>" := (name_of_methodNamed B.named B.method).1
  obtain ⟨hK, hN, hO⟩ := id hX
  have hD : va_D (va_A [(a, .inr (9, [.null, .int 0]))] s.heap.size) [(a, .inr (9, [.null, .int 0]))] := cD1
  have hA : ∀ q : Nat, s.heap.size ≤ q → va_A [(a, .inr (9, [.null, .int 0]))] s.heap.size q := fun q h => Or.inr h
  have hS : va_S (va_A [(a, .inr (9, [.null, .int 0]))] s.heap.size) s.heap s.heap [] := va_S.rf
  generalize va_A [(a, .inr (9, [.null, .int 0]))] s.heap.size = A at hD hA hS ⊢
  have hl := lv_entry ([.ref a]) (n := 1) (Nat.le_of_ble_eq_true rfl)
  rw [lg_entry_eq]
  generalize (lg_sl ([.ref a]) ++ List.replicate (1 - (lg_sl ([.ref a])).length) Slot.unset).toArray = ls at hl ⊢
  have hl : lv_has ls 1 [(0, .ref a)] := hl
  refine lv_aload_n hx hb dX9_init_0 rfl (lv_at hl 0 rfl) ?_
  refine W.objInit hx hb hown (hts _ mw_67) (hts _ mw_25) (hts _ mw_26) rfl (by rw [hml]; exact hl.1) rfl dX9_init_1 (Nat.le_of_ble_eq_true rfl) (Nat.le_of_ble_eq_true rfl) ?_
  refine W.eq (g2 := F0 m 4 ls []) rfl ?_
  refine lv_aload_n hx hb dX9_init_4 rfl (lv_at hl 0 rfl) ?_
  refine lv_bipush (v := 6) hx hb dX9_init_5 (by decide) ?_
  have hA1 := hA
  have hF1 := cF (wc := []) (ws := [(a, .inr (9, [.null, .int 0]))]) hD hA1
  refine va_callr (va_runSN (As := [.int 6]) (rest := [.ref a]) ⟨hx, hb, hml, hown, hts⟩ (nX11_newQuats l D T s.heap.size 6 6 (by decide) (by decide)) ⟨va_cnB 1 hts (lwW_gc mw_29) rfl rfl rfl (hN.M 2 rfl) (hts _ mw_1) (by decide +kernel) ⟨Nat.le_of_ble_eq_true rfl, Nat.le_of_ble_eq_true rfl⟩, hts _ mw_28, trivial⟩ ⟨fun a U g mk q => ⟨q.1, q.2.1, q.2.2.1, q.2.2.2.call⟩, fun U hU hW => ⟨rfl, by rw [hU], fun k q h => by simp at h, hX.warm hW⟩⟩ rfl rfl hl.1 rfl (lv_room (Nat.le_of_ble_eq_true rfl)) dX9_init_7 ⟨Nat.le_of_ble_eq_true rfl, Nat.le_of_ble_eq_true rfl⟩) hS (fun q _ h => hF1 q h) hF1 (fun g0 q0 t H locs ht hvm hw hB hz1 hk1 hS => ?_)
  obtain ⟨hP1, hD1⟩ := hB
  rw [ht] at hP1
  obtain ⟨hP, hD⟩ := cjn (wc := []) (ws := [(a, .inr (9, [.null, .int 0]))]) hP hD hA1 hk1 hP1 hD1
  have hP : va_P D vwCl [(a, .inr (9, [.null, .int 0])), (q0, eR T 1 6 (fun i => some (g0 i))), (g0 0, eQ), (g0 1, eQ), (g0 2, eQ), (g0 3, eQ), (g0 4, eQ), (g0 5, eQ)] H := hP
  have hD : va_D A [(a, .inr (9, [.null, .int 0])), (q0, eR T 1 6 (fun i => some (g0 i))), (g0 0, eQ), (g0 1, eQ), (g0 2, eQ), (g0 3, eQ), (g0 4, eQ), (g0 5, eQ)] := hD
  refine W.widen (k := 7) (n := 30) (Nat.le_of_ble_eq_true rfl) (Nat.le_of_ble_eq_true rfl) ?_
  refine va_putF (D := D) (ci := 9) (v := .ref q0) (ty := .array (.object "QuaternionDesk$Quat")) (C := RX9) (T := TX9) (N := 2) hx hb hts iwX9 tyX9 tyX9_ok nmX9 hown hK hP hD hS 0 rfl rfl 0 (by decide) (hts _ mw_69) (fun _ h9 => h9) rfl hin rfl (by decide +kernel) rfl rfl (Nat.le_of_ble_eq_true rfl) dX9_init_10 (fun H locs hP hD hS => ?_)
  have hP : va_P D vwCl [(a, .inr (9, [.ref q0, .int 0])), (q0, eR T 1 6 (fun i => some (g0 i))), (g0 0, eQ), (g0 1, eQ), (g0 2, eQ), (g0 3, eQ), (g0 4, eQ), (g0 5, eQ)] H := hP
  have hD : va_D A [(a, .inr (9, [.ref q0, .int 0])), (q0, eR T 1 6 (fun i => some (g0 i))), (g0 0, eQ), (g0 1, eQ), (g0 2, eQ), (g0 3, eQ), (g0 4, eQ), (g0 5, eQ)] := hD
  refine lv_aload_n hx hb dX9_init_13 rfl (lv_at hl 0 rfl) ?_
  refine lv_iconst (v := 0) hx hb dX9_init_14 (by decide) ?_
  refine va_put (D := D) (ci := 9) (v := .int 0) (ty := .boolean) (C := RX9) (T := TX9) (N := 2) hx hb hts iwX9 tyX9 tyX9_ok nmX9 hown hK hP hD hS 0 rfl rfl 1 (by decide) (hts _ mw_70) (fun _ h9 => h9) rfl (by decide +kernel) rfl rfl (Nat.le_of_ble_eq_true rfl) dX9_init_15 (fun H locs hP hD hS => ?_)
  have hP : va_P D vwCl [(a, .inr (9, [.ref q0, .int 0])), (q0, eR T 1 6 (fun i => some (g0 i))), (g0 0, eQ), (g0 1, eQ), (g0 2, eQ), (g0 3, eQ), (g0 4, eQ), (g0 5, eQ)] H := hP
  have hD : va_D A [(a, .inr (9, [.ref q0, .int 0])), (q0, eR T 1 6 (fun i => some (g0 i))), (g0 0, eQ), (g0 1, eQ), (g0 2, eQ), (g0 3, eQ), (g0 4, eQ), (g0 5, eQ)] := hD
  have hD0 := hD
  have hP := cRowP (fun i => some ((([q0, g0 0, g0 1, g0 2, g0 3, g0 4, g0 5] : List Nat).getD (1 + i) 0))) hP (p := 1) rfl (fun i hi => by rcases (show i = 0 ∨ i = 1 ∨ i = 2 ∨ i = 3 ∨ i = 4 ∨ i = 5 by omega) with rfl|rfl|rfl|rfl|rfl|rfl <;> rfl)
  have hP : va_P D vwCl (vX9 T a (fun k => (([q0, g0 0, g0 1, g0 2, g0 3, g0 4, g0 5] : List Nat).getD k 0))) _ := hP
  have hD : va_D A (vX9 T a (fun k => (([q0, g0 0, g0 1, g0 2, g0 3, g0 4, g0 5] : List Nat).getD k 0))) := cDe hD0 rfl
  exact W.vret hx hb hr (fun t ht hW => ⟨⟨fun k => (([q0, g0 0, g0 1, g0 2, g0 3, g0 4, g0 5] : List Nat).getD k 0), rfl, trivial, by rw [ht]; exact hP, hD⟩, hS.F ht⟩) hS.2.2 dX9_init_18
abbrev vX4 (T : Nat → ClassId) (a : Nat) (f : Nat → Nat) : va_W := [(a, .inr (4, [.ref (f 0), .ref (f 1), .int 0, .int 0])), (f 0, eI T 8), (f 1, eR T 1 8 (fun i => some (f (2 + i)))), (f 2, eQ), (f 3, eQ), (f 4, eQ), (f 5, eQ), (f 6, eQ), (f 7, eQ), (f 8, eQ), (f 9, eQ)]
set_option maxHeartbeats 4000000 in
set_option maxRecDepth 100000 in
theorem nX4_init (l : Launch) (D : va_G) (T : Nat → ClassId) (a sz : Nat) : Met l yX4_init (.code yX4_init cX4_init 1 none :: lwW) (rmC 3 10 48) (cPc D T sz [(a, .inr (4, [.null, .null, .int 0, .int 0]))] [.ref a]) (cQv D [(a, .inr (4, [.null, .null, .int 0, .int 0]))] sz (vX4 T a)) 10 48 (va_A [(a, .inr (4, [.null, .null, .int 0, .int 0]))] sz) := by
  refine Met.ofW (cc := cX4_init) (maxL := 1) (ret := none) (by decide) rfl ?_
  intro p e s m args below meth c s₁ B hml hv
  unfold cQv
  obtain ⟨rfl, rfl, hP, hX⟩ := hv
  have hx := B.exec
  have hb := B.bytes
  have hr := B.returns
  have hts := fun (w : Cond) (hw : w ∈ lwW) => atoms_spec (ws := (.code yX4_init cX4_init 1 none :: lwW)) B.pre w (List.mem_cons_of_mem _ hw)
  have hown : s.vm.findClass RX4 = some m.cls := findClass_of_methodNamed B.named
  have hlocks := B.notSynchronized
  have hin : meth.name = "<init>" := (name_of_methodNamed B.named B.method).1
  obtain ⟨hK, hN, hO⟩ := id hX
  have hD : va_D (va_A [(a, .inr (4, [.null, .null, .int 0, .int 0]))] s.heap.size) [(a, .inr (4, [.null, .null, .int 0, .int 0]))] := cD1
  have hA : ∀ q : Nat, s.heap.size ≤ q → va_A [(a, .inr (4, [.null, .null, .int 0, .int 0]))] s.heap.size q := fun q h => Or.inr h
  have hS : va_S (va_A [(a, .inr (4, [.null, .null, .int 0, .int 0]))] s.heap.size) s.heap s.heap [] := va_S.rf
  generalize va_A [(a, .inr (4, [.null, .null, .int 0, .int 0]))] s.heap.size = A at hD hA hS ⊢
  have hl := lv_entry ([.ref a]) (n := 1) (Nat.le_of_ble_eq_true rfl)
  rw [lg_entry_eq]
  generalize (lg_sl ([.ref a]) ++ List.replicate (1 - (lg_sl ([.ref a])).length) Slot.unset).toArray = ls at hl ⊢
  have hl : lv_has ls 1 [(0, .ref a)] := hl
  refine lv_aload_n hx hb dX4_init_0 rfl (lv_at hl 0 rfl) ?_
  refine W.objInit hx hb hown (hts _ mw_99) (hts _ mw_25) (hts _ mw_26) rfl (by rw [hml]; exact hl.1) rfl dX4_init_1 (Nat.le_of_ble_eq_true rfl) (Nat.le_of_ble_eq_true rfl) ?_
  refine W.eq (g2 := F0 m 4 ls []) rfl ?_
  refine lv_aload_n hx hb dX4_init_4 rfl (lv_at hl 0 rfl) ?_
  refine lv_bipush (v := 8) hx hb dX4_init_5 (by decide) ?_
  refine cn_newa (atype := .int) (a0 := (8, .inl (fun _ => 0))) hx hb (hts _ mw_93) rfl hK 0 rfl (fun C h9 => by cases h9) hP hD hS hA (fun cA => vp_cell_i cA _ _) (by decide) (by decide) (Nat.le_of_ble_eq_true rfl) (Nat.le_of_ble_eq_true rfl) (Nat.le_of_ble_eq_true rfl) dX4_init_7 (fun q0 H hP hD hS => ?_)
  have hP : va_P D vwCl [(a, .inr (4, [.null, .null, .int 0, .int 0])), (q0, eI T 8)] H := hP
  have hD : va_D A [(a, .inr (4, [.null, .null, .int 0, .int 0])), (q0, eI T 8)] := hD
  refine W.widen (k := 1) (n := 8) (Nat.le_of_ble_eq_true rfl) (Nat.le_of_ble_eq_true rfl) ?_
  refine va_putF (D := D) (ci := 4) (v := .ref q0) (ty := .array .int) (C := RX4) (T := TX4) (N := 4) hx hb hts iwX4 tyX4 tyX4_ok nmX4 hown hK hP hD hS 0 rfl rfl 0 (by decide) (hts _ mw_101) (fun _ h9 => h9) rfl hin rfl (by decide +kernel) rfl rfl (Nat.le_of_ble_eq_true rfl) dX4_init_9 (fun H locs hP hD hS => ?_)
  have hP : va_P D vwCl [(a, .inr (4, [.ref q0, .null, .int 0, .int 0])), (q0, eI T 8)] H := hP
  have hD : va_D A [(a, .inr (4, [.ref q0, .null, .int 0, .int 0])), (q0, eI T 8)] := hD
  refine lv_aload_n hx hb dX4_init_12 rfl (lv_at hl 0 rfl) ?_
  refine lv_bipush (v := 8) hx hb dX4_init_13 (by decide) ?_
  have hA1 : ∀ q : Nat, H.size ≤ q → A q := fun q h => hA q (Nat.le_trans hS.1 h)
  have hF1 := cF (wc := []) (ws := [(a, .inr (4, [.ref q0, .null, .int 0, .int 0])), (q0, eI T 8)]) hD hA1
  refine va_callr (va_runSN (As := [.int 8]) (rest := [.ref a]) ⟨hx, hb, hml, hown, hts⟩ (nX11_newQuats l D T H.size 8 8 (by decide) (by decide)) ⟨va_cnB 1 hts (lwW_gc mw_29) rfl rfl rfl (hN.M 5 rfl) (hts _ mw_1) (by decide +kernel) ⟨Nat.le_of_ble_eq_true rfl, Nat.le_of_ble_eq_true rfl⟩, hts _ mw_28, trivial⟩ ⟨fun a U g mk q => ⟨q.1, q.2.1, q.2.2.1, q.2.2.2.call⟩, fun U hU hW => ⟨rfl, by rw [hU], fun k q h => by simp at h, hX.warm hW⟩⟩ rfl rfl hl.1 rfl (lv_room (Nat.le_of_ble_eq_true rfl)) dX4_init_15 ⟨Nat.le_of_ble_eq_true rfl, Nat.le_of_ble_eq_true rfl⟩) hS (fun q _ h => hF1 q h) hF1 (fun g0 q1 t H locs ht hvm hw hB hz1 hk1 hS => ?_)
  obtain ⟨hP1, hD1⟩ := hB
  rw [ht] at hP1
  obtain ⟨hP, hD⟩ := cjn (wc := []) (ws := [(a, .inr (4, [.ref q0, .null, .int 0, .int 0])), (q0, eI T 8)]) hP hD hA1 hk1 hP1 hD1
  have hP : va_P D vwCl [(a, .inr (4, [.ref q0, .null, .int 0, .int 0])), (q0, eI T 8), (q1, eR T 1 8 (fun i => some (g0 i))), (g0 0, eQ), (g0 1, eQ), (g0 2, eQ), (g0 3, eQ), (g0 4, eQ), (g0 5, eQ), (g0 6, eQ), (g0 7, eQ)] H := hP
  have hD : va_D A [(a, .inr (4, [.ref q0, .null, .int 0, .int 0])), (q0, eI T 8), (q1, eR T 1 8 (fun i => some (g0 i))), (g0 0, eQ), (g0 1, eQ), (g0 2, eQ), (g0 3, eQ), (g0 4, eQ), (g0 5, eQ), (g0 6, eQ), (g0 7, eQ)] := hD
  refine W.widen (k := 10) (n := 48) (Nat.le_of_ble_eq_true rfl) (Nat.le_of_ble_eq_true rfl) ?_
  refine va_putF (D := D) (ci := 4) (v := .ref q1) (ty := .array (.object "QuaternionDesk$Quat")) (C := RX4) (T := TX4) (N := 4) hx hb hts iwX4 tyX4 tyX4_ok nmX4 hown hK hP hD hS 0 rfl rfl 1 (by decide) (hts _ mw_102) (fun _ h9 => h9) rfl hin rfl (by decide +kernel) rfl rfl (Nat.le_of_ble_eq_true rfl) dX4_init_18 (fun H locs hP hD hS => ?_)
  have hP : va_P D vwCl [(a, .inr (4, [.ref q0, .ref q1, .int 0, .int 0])), (q0, eI T 8), (q1, eR T 1 8 (fun i => some (g0 i))), (g0 0, eQ), (g0 1, eQ), (g0 2, eQ), (g0 3, eQ), (g0 4, eQ), (g0 5, eQ), (g0 6, eQ), (g0 7, eQ)] H := hP
  have hD : va_D A [(a, .inr (4, [.ref q0, .ref q1, .int 0, .int 0])), (q0, eI T 8), (q1, eR T 1 8 (fun i => some (g0 i))), (g0 0, eQ), (g0 1, eQ), (g0 2, eQ), (g0 3, eQ), (g0 4, eQ), (g0 5, eQ), (g0 6, eQ), (g0 7, eQ)] := hD
  refine lv_aload_n hx hb dX4_init_21 rfl (lv_at hl 0 rfl) ?_
  refine lv_iconst (v := 0) hx hb dX4_init_22 (by decide) ?_
  refine va_put (D := D) (ci := 4) (v := .int 0) (ty := .int) (C := RX4) (T := TX4) (N := 4) hx hb hts iwX4 tyX4 tyX4_ok nmX4 hown hK hP hD hS 0 rfl rfl 2 (by decide) (hts _ mw_103) (fun _ h9 => h9) rfl (by decide +kernel) rfl rfl (Nat.le_of_ble_eq_true rfl) dX4_init_23 (fun H locs hP hD hS => ?_)
  have hP : va_P D vwCl [(a, .inr (4, [.ref q0, .ref q1, .int 0, .int 0])), (q0, eI T 8), (q1, eR T 1 8 (fun i => some (g0 i))), (g0 0, eQ), (g0 1, eQ), (g0 2, eQ), (g0 3, eQ), (g0 4, eQ), (g0 5, eQ), (g0 6, eQ), (g0 7, eQ)] H := hP
  have hD : va_D A [(a, .inr (4, [.ref q0, .ref q1, .int 0, .int 0])), (q0, eI T 8), (q1, eR T 1 8 (fun i => some (g0 i))), (g0 0, eQ), (g0 1, eQ), (g0 2, eQ), (g0 3, eQ), (g0 4, eQ), (g0 5, eQ), (g0 6, eQ), (g0 7, eQ)] := hD
  refine lv_aload_n hx hb dX4_init_26 rfl (lv_at hl 0 rfl) ?_
  refine lv_iconst (v := 0) hx hb dX4_init_27 (by decide) ?_
  refine va_put (D := D) (ci := 4) (v := .int 0) (ty := .int) (C := RX4) (T := TX4) (N := 4) hx hb hts iwX4 tyX4 tyX4_ok nmX4 hown hK hP hD hS 0 rfl rfl 3 (by decide) (hts _ mw_104) (fun _ h9 => h9) rfl (by decide +kernel) rfl rfl (Nat.le_of_ble_eq_true rfl) dX4_init_28 (fun H locs hP hD hS => ?_)
  have hP : va_P D vwCl [(a, .inr (4, [.ref q0, .ref q1, .int 0, .int 0])), (q0, eI T 8), (q1, eR T 1 8 (fun i => some (g0 i))), (g0 0, eQ), (g0 1, eQ), (g0 2, eQ), (g0 3, eQ), (g0 4, eQ), (g0 5, eQ), (g0 6, eQ), (g0 7, eQ)] H := hP
  have hD : va_D A [(a, .inr (4, [.ref q0, .ref q1, .int 0, .int 0])), (q0, eI T 8), (q1, eR T 1 8 (fun i => some (g0 i))), (g0 0, eQ), (g0 1, eQ), (g0 2, eQ), (g0 3, eQ), (g0 4, eQ), (g0 5, eQ), (g0 6, eQ), (g0 7, eQ)] := hD
  have hD0 := hD
  have hP := cRowP (fun i => some ((([q0, q1, g0 0, g0 1, g0 2, g0 3, g0 4, g0 5, g0 6, g0 7] : List Nat).getD (2 + i) 0))) hP (p := 2) rfl (fun i hi => by rcases (show i = 0 ∨ i = 1 ∨ i = 2 ∨ i = 3 ∨ i = 4 ∨ i = 5 ∨ i = 6 ∨ i = 7 by omega) with rfl|rfl|rfl|rfl|rfl|rfl|rfl|rfl <;> rfl)
  have hP : va_P D vwCl (vX4 T a (fun k => (([q0, q1, g0 0, g0 1, g0 2, g0 3, g0 4, g0 5, g0 6, g0 7] : List Nat).getD k 0))) _ := hP
  have hD : va_D A (vX4 T a (fun k => (([q0, q1, g0 0, g0 1, g0 2, g0 3, g0 4, g0 5, g0 6, g0 7] : List Nat).getD k 0))) := cDe hD0 rfl
  exact W.vret hx hb hr (fun t ht hW => ⟨⟨fun k => (([q0, q1, g0 0, g0 1, g0 2, g0 3, g0 4, g0 5, g0 6, g0 7] : List Nat).getD k 0), rfl, trivial, by rw [ht]; exact hP, hD⟩, hS.F ht⟩) hS.2.2 dX4_init_31
abbrev vX8 (T : Nat → ClassId) (a : Nat) (f : Nat → Nat) : va_W := [(a, .inr (8, [.ref (f 0), .ref (f 1), .int 0, .int 0, .int 0, .int 0, .int 0])), (f 0, eI T 200), (f 1, eI T 144)]
set_option maxHeartbeats 4000000 in
set_option maxRecDepth 100000 in
theorem nX8_init (l : Launch) (D : va_G) (T : Nat → ClassId) (a sz : Nat) : Met l yX8_init (.code yX8_init cX8_init 1 none :: lwW) (rmC 1 2 344) (cPc D T sz [(a, .inr (8, [.null, .null, .int 0, .int 0, .int 0, .int 0, .int 0]))] [.ref a]) (cQv D [(a, .inr (8, [.null, .null, .int 0, .int 0, .int 0, .int 0, .int 0]))] sz (vX8 T a)) 2 344 (va_A [(a, .inr (8, [.null, .null, .int 0, .int 0, .int 0, .int 0, .int 0]))] sz) := by
  refine Met.ofW (cc := cX8_init) (maxL := 1) (ret := none) (by decide) rfl ?_
  intro p e s m args below meth c s₁ B hml hv
  unfold cQv
  obtain ⟨rfl, rfl, hP, hX⟩ := hv
  have hx := B.exec
  have hb := B.bytes
  have hr := B.returns
  have hts := fun (w : Cond) (hw : w ∈ lwW) => atoms_spec (ws := (.code yX8_init cX8_init 1 none :: lwW)) B.pre w (List.mem_cons_of_mem _ hw)
  have hown : s.vm.findClass RX8 = some m.cls := findClass_of_methodNamed B.named
  have hlocks := B.notSynchronized
  have hin : meth.name = "<init>" := (name_of_methodNamed B.named B.method).1
  obtain ⟨hK, hN, hO⟩ := id hX
  have hD : va_D (va_A [(a, .inr (8, [.null, .null, .int 0, .int 0, .int 0, .int 0, .int 0]))] s.heap.size) [(a, .inr (8, [.null, .null, .int 0, .int 0, .int 0, .int 0, .int 0]))] := cD1
  have hA : ∀ q : Nat, s.heap.size ≤ q → va_A [(a, .inr (8, [.null, .null, .int 0, .int 0, .int 0, .int 0, .int 0]))] s.heap.size q := fun q h => Or.inr h
  have hS : va_S (va_A [(a, .inr (8, [.null, .null, .int 0, .int 0, .int 0, .int 0, .int 0]))] s.heap.size) s.heap s.heap [] := va_S.rf
  generalize va_A [(a, .inr (8, [.null, .null, .int 0, .int 0, .int 0, .int 0, .int 0]))] s.heap.size = A at hD hA hS ⊢
  have hl := lv_entry ([.ref a]) (n := 1) (Nat.le_of_ble_eq_true rfl)
  rw [lg_entry_eq]
  generalize (lg_sl ([.ref a]) ++ List.replicate (1 - (lg_sl ([.ref a])).length) Slot.unset).toArray = ls at hl ⊢
  have hl : lv_has ls 1 [(0, .ref a)] := hl
  refine lv_aload_n hx hb dX8_init_0 rfl (lv_at hl 0 rfl) ?_
  refine W.objInit hx hb hown (hts _ mw_119) (hts _ mw_25) (hts _ mw_26) rfl (by rw [hml]; exact hl.1) rfl dX8_init_1 (Nat.le_of_ble_eq_true rfl) (Nat.le_of_ble_eq_true rfl) ?_
  refine W.eq (g2 := F0 m 4 ls []) rfl ?_
  refine lv_aload_n hx hb dX8_init_4 rfl (lv_at hl 0 rfl) ?_
  refine lv_sipush (v := 200) hx hb dX8_init_5 (by decide) ?_
  refine cn_newa (atype := .int) (a0 := (200, .inl (fun _ => 0))) hx hb (hts _ mw_93) rfl hK 0 rfl (fun C h9 => by cases h9) hP hD hS hA (fun cA => vp_cell_i cA _ _) (by decide) (by decide) (Nat.le_of_ble_eq_true rfl) (Nat.le_of_ble_eq_true rfl) (Nat.le_of_ble_eq_true rfl) dX8_init_8 (fun q0 H hP hD hS => ?_)
  have hP : va_P D vwCl [(a, .inr (8, [.null, .null, .int 0, .int 0, .int 0, .int 0, .int 0])), (q0, eI T 200)] H := hP
  have hD : va_D A [(a, .inr (8, [.null, .null, .int 0, .int 0, .int 0, .int 0, .int 0])), (q0, eI T 200)] := hD
  refine W.widen (k := 1) (n := 200) (Nat.le_of_ble_eq_true rfl) (Nat.le_of_ble_eq_true rfl) ?_
  refine va_putF (D := D) (ci := 8) (v := .ref q0) (ty := .array .int) (C := RX8) (T := TX8) (N := 7) hx hb hts iwX8 tyX8 tyX8_ok nmX8 hown hK hP hD hS 0 rfl rfl 0 (by decide) (hts _ mw_120) (fun _ h9 => h9) rfl hin rfl (by decide +kernel) rfl rfl (Nat.le_of_ble_eq_true rfl) dX8_init_10 (fun H locs hP hD hS => ?_)
  have hP : va_P D vwCl [(a, .inr (8, [.ref q0, .null, .int 0, .int 0, .int 0, .int 0, .int 0])), (q0, eI T 200)] H := hP
  have hD : va_D A [(a, .inr (8, [.ref q0, .null, .int 0, .int 0, .int 0, .int 0, .int 0])), (q0, eI T 200)] := hD
  refine lv_aload_n hx hb dX8_init_13 rfl (lv_at hl 0 rfl) ?_
  refine lv_sipush (v := 144) hx hb dX8_init_14 (by decide) ?_
  refine cn_newa (atype := .int) (a0 := (144, .inl (fun _ => 0))) hx hb (hts _ mw_93) rfl hK 0 rfl (fun C h9 => by cases h9) hP hD hS hA (fun cA => vp_cell_i cA _ _) (by decide) (by decide) (Nat.le_of_ble_eq_true rfl) (Nat.le_of_ble_eq_true rfl) (Nat.le_of_ble_eq_true rfl) dX8_init_17 (fun q1 H hP hD hS => ?_)
  have hP : va_P D vwCl [(a, .inr (8, [.ref q0, .null, .int 0, .int 0, .int 0, .int 0, .int 0])), (q0, eI T 200), (q1, eI T 144)] H := hP
  have hD : va_D A [(a, .inr (8, [.ref q0, .null, .int 0, .int 0, .int 0, .int 0, .int 0])), (q0, eI T 200), (q1, eI T 144)] := hD
  refine W.widen (k := 2) (n := 344) (Nat.le_of_ble_eq_true rfl) (Nat.le_of_ble_eq_true rfl) ?_
  refine va_putF (D := D) (ci := 8) (v := .ref q1) (ty := .array .int) (C := RX8) (T := TX8) (N := 7) hx hb hts iwX8 tyX8 tyX8_ok nmX8 hown hK hP hD hS 0 rfl rfl 1 (by decide) (hts _ mw_121) (fun _ h9 => h9) rfl hin rfl (by decide +kernel) rfl rfl (Nat.le_of_ble_eq_true rfl) dX8_init_19 (fun H locs hP hD hS => ?_)
  have hP : va_P D vwCl [(a, .inr (8, [.ref q0, .ref q1, .int 0, .int 0, .int 0, .int 0, .int 0])), (q0, eI T 200), (q1, eI T 144)] H := hP
  have hD : va_D A [(a, .inr (8, [.ref q0, .ref q1, .int 0, .int 0, .int 0, .int 0, .int 0])), (q0, eI T 200), (q1, eI T 144)] := hD
  refine lv_aload_n hx hb dX8_init_22 rfl (lv_at hl 0 rfl) ?_
  refine lv_iconst (v := 0) hx hb dX8_init_23 (by decide) ?_
  refine va_put (D := D) (ci := 8) (v := .int 0) (ty := .int) (C := RX8) (T := TX8) (N := 7) hx hb hts iwX8 tyX8 tyX8_ok nmX8 hown hK hP hD hS 0 rfl rfl 2 (by decide) (hts _ mw_122) (fun _ h9 => h9) rfl (by decide +kernel) rfl rfl (Nat.le_of_ble_eq_true rfl) dX8_init_24 (fun H locs hP hD hS => ?_)
  have hP : va_P D vwCl [(a, .inr (8, [.ref q0, .ref q1, .int 0, .int 0, .int 0, .int 0, .int 0])), (q0, eI T 200), (q1, eI T 144)] H := hP
  have hD : va_D A [(a, .inr (8, [.ref q0, .ref q1, .int 0, .int 0, .int 0, .int 0, .int 0])), (q0, eI T 200), (q1, eI T 144)] := hD
  refine lv_aload_n hx hb dX8_init_27 rfl (lv_at hl 0 rfl) ?_
  refine lv_iconst (v := 0) hx hb dX8_init_28 (by decide) ?_
  refine va_put (D := D) (ci := 8) (v := .int 0) (ty := .int) (C := RX8) (T := TX8) (N := 7) hx hb hts iwX8 tyX8 tyX8_ok nmX8 hown hK hP hD hS 0 rfl rfl 3 (by decide) (hts _ mw_123) (fun _ h9 => h9) rfl (by decide +kernel) rfl rfl (Nat.le_of_ble_eq_true rfl) dX8_init_29 (fun H locs hP hD hS => ?_)
  have hP : va_P D vwCl [(a, .inr (8, [.ref q0, .ref q1, .int 0, .int 0, .int 0, .int 0, .int 0])), (q0, eI T 200), (q1, eI T 144)] H := hP
  have hD : va_D A [(a, .inr (8, [.ref q0, .ref q1, .int 0, .int 0, .int 0, .int 0, .int 0])), (q0, eI T 200), (q1, eI T 144)] := hD
  refine lv_aload_n hx hb dX8_init_32 rfl (lv_at hl 0 rfl) ?_
  refine lv_iconst (v := 0) hx hb dX8_init_33 (by decide) ?_
  refine va_put (D := D) (ci := 8) (v := .int 0) (ty := .int) (C := RX8) (T := TX8) (N := 7) hx hb hts iwX8 tyX8 tyX8_ok nmX8 hown hK hP hD hS 0 rfl rfl 4 (by decide) (hts _ mw_124) (fun _ h9 => h9) rfl (by decide +kernel) rfl rfl (Nat.le_of_ble_eq_true rfl) dX8_init_34 (fun H locs hP hD hS => ?_)
  have hP : va_P D vwCl [(a, .inr (8, [.ref q0, .ref q1, .int 0, .int 0, .int 0, .int 0, .int 0])), (q0, eI T 200), (q1, eI T 144)] H := hP
  have hD : va_D A [(a, .inr (8, [.ref q0, .ref q1, .int 0, .int 0, .int 0, .int 0, .int 0])), (q0, eI T 200), (q1, eI T 144)] := hD
  refine lv_aload_n hx hb dX8_init_37 rfl (lv_at hl 0 rfl) ?_
  refine lv_iconst (v := 0) hx hb dX8_init_38 (by decide) ?_
  refine va_put (D := D) (ci := 8) (v := .int 0) (ty := .int) (C := RX8) (T := TX8) (N := 7) hx hb hts iwX8 tyX8 tyX8_ok nmX8 hown hK hP hD hS 0 rfl rfl 5 (by decide) (hts _ mw_125) (fun _ h9 => h9) rfl (by decide +kernel) rfl rfl (Nat.le_of_ble_eq_true rfl) dX8_init_39 (fun H locs hP hD hS => ?_)
  have hP : va_P D vwCl [(a, .inr (8, [.ref q0, .ref q1, .int 0, .int 0, .int 0, .int 0, .int 0])), (q0, eI T 200), (q1, eI T 144)] H := hP
  have hD : va_D A [(a, .inr (8, [.ref q0, .ref q1, .int 0, .int 0, .int 0, .int 0, .int 0])), (q0, eI T 200), (q1, eI T 144)] := hD
  refine lv_aload_n hx hb dX8_init_42 rfl (lv_at hl 0 rfl) ?_
  refine lv_iconst (v := 0) hx hb dX8_init_43 (by decide) ?_
  refine va_put (D := D) (ci := 8) (v := .int 0) (ty := .int) (C := RX8) (T := TX8) (N := 7) hx hb hts iwX8 tyX8 tyX8_ok nmX8 hown hK hP hD hS 0 rfl rfl 6 (by decide) (hts _ mw_126) (fun _ h9 => h9) rfl (by decide +kernel) rfl rfl (Nat.le_of_ble_eq_true rfl) dX8_init_44 (fun H locs hP hD hS => ?_)
  have hP : va_P D vwCl [(a, .inr (8, [.ref q0, .ref q1, .int 0, .int 0, .int 0, .int 0, .int 0])), (q0, eI T 200), (q1, eI T 144)] H := hP
  have hD : va_D A [(a, .inr (8, [.ref q0, .ref q1, .int 0, .int 0, .int 0, .int 0, .int 0])), (q0, eI T 200), (q1, eI T 144)] := hD
  have hD0 := hD
  have hP : va_P D vwCl (vX8 T a (fun k => (([q0, q1] : List Nat).getD k 0))) _ := hP
  have hD : va_D A (vX8 T a (fun k => (([q0, q1] : List Nat).getD k 0))) := cDe hD0 rfl
  exact W.vret hx hb hr (fun t ht hW => ⟨⟨fun k => (([q0, q1] : List Nat).getD k 0), rfl, trivial, by rw [ht]; exact hP, hD⟩, hS.F ht⟩) hS.2.2 dX8_init_47
abbrev vX1 (T : Nat → ClassId) (a : Nat) (f : Nat → Nat) : va_W := [(a, .inr (1, [.ref (f 0), .ref (f 1), .ref (f 2), .ref (f 3), .ref (f 4), .ref (f 5), .ref (f 6), .ref (f 7)])), (f 0, eQ), (f 1, eQ), (f 2, eQ), (f 3, eQ), (f 4, eQ), (f 5, eQ), (f 6, eQ), (f 7, eQ)]
set_option maxHeartbeats 4000000 in
set_option maxRecDepth 100000 in
theorem nX1_init (l : Launch) (D : va_G) (T : Nat → ClassId) (a sz : Nat) : Met l yX1_init (.code yX1_init cX1_init 1 none :: lwW) (rmC 2 8 32) (cPc D T sz [(a, .inr (1, [.null, .null, .null, .null, .null, .null, .null, .null]))] [.ref a]) (cQv D [(a, .inr (1, [.null, .null, .null, .null, .null, .null, .null, .null]))] sz (vX1 T a)) 8 32 (va_A [(a, .inr (1, [.null, .null, .null, .null, .null, .null, .null, .null]))] sz) := by
  refine Met.ofW (cc := cX1_init) (maxL := 1) (ret := none) (by decide) rfl ?_
  intro p e s m args below meth c s₁ B hml hv
  unfold cQv
  obtain ⟨rfl, rfl, hP, hX⟩ := hv
  have hx := B.exec
  have hb := B.bytes
  have hr := B.returns
  have hts := fun (w : Cond) (hw : w ∈ lwW) => atoms_spec (ws := (.code yX1_init cX1_init 1 none :: lwW)) B.pre w (List.mem_cons_of_mem _ hw)
  have hown : s.vm.findClass RX1 = some m.cls := findClass_of_methodNamed B.named
  have hlocks := B.notSynchronized
  have hin : meth.name = "<init>" := (name_of_methodNamed B.named B.method).1
  obtain ⟨hK, hN, hO⟩ := id hX
  have hD : va_D (va_A [(a, .inr (1, [.null, .null, .null, .null, .null, .null, .null, .null]))] s.heap.size) [(a, .inr (1, [.null, .null, .null, .null, .null, .null, .null, .null]))] := cD1
  have hA : ∀ q : Nat, s.heap.size ≤ q → va_A [(a, .inr (1, [.null, .null, .null, .null, .null, .null, .null, .null]))] s.heap.size q := fun q h => Or.inr h
  have hS : va_S (va_A [(a, .inr (1, [.null, .null, .null, .null, .null, .null, .null, .null]))] s.heap.size) s.heap s.heap [] := va_S.rf
  generalize va_A [(a, .inr (1, [.null, .null, .null, .null, .null, .null, .null, .null]))] s.heap.size = A at hD hA hS ⊢
  have hl := lv_entry ([.ref a]) (n := 1) (Nat.le_of_ble_eq_true rfl)
  rw [lg_entry_eq]
  generalize (lg_sl ([.ref a]) ++ List.replicate (1 - (lg_sl ([.ref a])).length) Slot.unset).toArray = ls at hl ⊢
  have hl : lv_has ls 1 [(0, .ref a)] := hl
  refine lv_aload_n hx hb dX1_init_0 rfl (lv_at hl 0 rfl) ?_
  refine W.objInit hx hb hown (hts _ mw_147) (hts _ mw_25) (hts _ mw_26) rfl (by rw [hml]; exact hl.1) rfl dX1_init_1 (Nat.le_of_ble_eq_true rfl) (Nat.le_of_ble_eq_true rfl) ?_
  refine W.eq (g2 := F0 m 4 ls []) rfl ?_
  refine lv_aload_n hx hb dX1_init_4 rfl (lv_at hl 0 rfl) ?_
  refine va_new (ci := 6) (fs := [.int 0, .int 0, .int 0, .int 0]) (C := RX6) (T := TX6) (N := 4) hx hb hts iwX6 tyX6 tyX6_ok hown (hts _ mw_148) (hts _ mw_35) (hts _ mw_3) hK hP hD hS hA rfl nfX6 (Nat.le_of_ble_eq_true rfl) (Nat.le_of_ble_eq_true rfl) dX1_init_5 (fun q0 H hP hD hS => ?_)
  have hP : va_P D vwCl [(a, .inr (1, [.null, .null, .null, .null, .null, .null, .null, .null])), (q0, eQ)] H := hP
  have hD : va_D A [(a, .inr (1, [.null, .null, .null, .null, .null, .null, .null, .null])), (q0, eQ)] := hD
  refine W.widen (k := 1) (n := 4) (Nat.le_of_ble_eq_true rfl) (Nat.le_of_ble_eq_true rfl) ?_
  refine lv_dup hx hb dX1_init_8 rfl ?_
  have hA1 : ∀ q : Nat, H.size ≤ q → A q := fun q h => hA q (Nat.le_trans hS.1 h)
  have hF1 := cF (wc := [(q0, eQ)]) (ws := [(a, .inr (1, [.null, .null, .null, .null, .null, .null, .null, .null]))]) hD hA1
  have hPc := hP.sub (ws' := [(q0, eQ)]) [1] rfl
  refine va_callv (va_runIN (As := []) (rest := [.ref q0, .ref a]) ⟨hx, hb, hml, hown, hts⟩ (nX6_init l D T q0 (H.size)) ⟨va_cnB 0 hts (lwW_gc mw_38) rfl rfl rfl (hN.M 8 rfl) (hts _ mw_3) (by decide +kernel) ⟨Nat.le_of_ble_eq_true rfl, Nat.le_of_ble_eq_true rfl⟩, rfl, hts _ mw_37⟩ ⟨fun a U g mk q => ⟨q.1, q.2.1, q.2.2.1, q.2.2.2.call⟩, fun U hU hW => ⟨rfl, by rw [hU], by rw [hU]; exact hPc, hX.warm hW⟩⟩ rfl rfl hl.1 rfl (lv_room (Nat.le_of_ble_eq_true rfl)) dX1_init_9 ⟨Nat.le_of_ble_eq_true rfl, Nat.le_of_ble_eq_true rfl⟩) hS (fun q _ h => hF1 q h) hF1 (fun g0 t H locs ht hvm hw hB hz1 hk1 hS => ?_)
  obtain ⟨hP1, hD1⟩ := hB
  rw [ht] at hP1
  obtain ⟨hP, hD⟩ := cjn (wc := [(q0, eQ)]) (ws := [(a, .inr (1, [.null, .null, .null, .null, .null, .null, .null, .null]))]) hP hD hA1 hk1 hP1 hD1
  have hP : va_P D vwCl [(a, .inr (1, [.null, .null, .null, .null, .null, .null, .null, .null])), (q0, eQ)] H := hP
  have hD : va_D A [(a, .inr (1, [.null, .null, .null, .null, .null, .null, .null, .null])), (q0, eQ)] := hD
  refine W.widen (k := 1) (n := 4) (Nat.le_of_ble_eq_true rfl) (Nat.le_of_ble_eq_true rfl) ?_
  refine va_putF (D := D) (ci := 1) (v := .ref q0) (ty := .object "QuaternionDesk$Quat") (C := RX1) (T := TX1) (N := 8) hx hb hts iwX1 tyX1 tyX1_ok nmX1 hown hK hP hD hS 0 rfl rfl 0 (by decide) (hts _ mw_150) (fun _ h9 => h9) rfl hin rfl (by decide +kernel) rfl rfl (Nat.le_of_ble_eq_true rfl) dX1_init_12 (fun H locs hP hD hS => ?_)
  have hP : va_P D vwCl [(a, .inr (1, [.ref q0, .null, .null, .null, .null, .null, .null, .null])), (q0, eQ)] H := hP
  have hD : va_D A [(a, .inr (1, [.ref q0, .null, .null, .null, .null, .null, .null, .null])), (q0, eQ)] := hD
  refine lv_aload_n hx hb dX1_init_15 rfl (lv_at hl 0 rfl) ?_
  refine va_new (ci := 6) (fs := [.int 0, .int 0, .int 0, .int 0]) (C := RX6) (T := TX6) (N := 4) hx hb hts iwX6 tyX6 tyX6_ok hown (hts _ mw_148) (hts _ mw_35) (hts _ mw_3) hK hP hD hS hA rfl nfX6 (Nat.le_of_ble_eq_true rfl) (Nat.le_of_ble_eq_true rfl) dX1_init_16 (fun q1 H hP hD hS => ?_)
  have hP : va_P D vwCl [(a, .inr (1, [.ref q0, .null, .null, .null, .null, .null, .null, .null])), (q0, eQ), (q1, eQ)] H := hP
  have hD : va_D A [(a, .inr (1, [.ref q0, .null, .null, .null, .null, .null, .null, .null])), (q0, eQ), (q1, eQ)] := hD
  refine W.widen (k := 2) (n := 8) (Nat.le_of_ble_eq_true rfl) (Nat.le_of_ble_eq_true rfl) ?_
  refine lv_dup hx hb dX1_init_19 rfl ?_
  have hA1 : ∀ q : Nat, H.size ≤ q → A q := fun q h => hA q (Nat.le_trans hS.1 h)
  have hF1 := cF (wc := [(q1, eQ)]) (ws := [(a, .inr (1, [.ref q0, .null, .null, .null, .null, .null, .null, .null])), (q0, eQ)]) hD hA1
  have hPc := hP.sub (ws' := [(q1, eQ)]) [2] rfl
  refine va_callv (va_runIN (As := []) (rest := [.ref q1, .ref a]) ⟨hx, hb, hml, hown, hts⟩ (nX6_init l D T q1 (H.size)) ⟨va_cnB 0 hts (lwW_gc mw_38) rfl rfl rfl (hN.M 8 rfl) (hts _ mw_3) (by decide +kernel) ⟨Nat.le_of_ble_eq_true rfl, Nat.le_of_ble_eq_true rfl⟩, rfl, hts _ mw_37⟩ ⟨fun a U g mk q => ⟨q.1, q.2.1, q.2.2.1, q.2.2.2.call⟩, fun U hU hW => ⟨rfl, by rw [hU], by rw [hU]; exact hPc, hX.warm hW⟩⟩ rfl rfl hl.1 rfl (lv_room (Nat.le_of_ble_eq_true rfl)) dX1_init_20 ⟨Nat.le_of_ble_eq_true rfl, Nat.le_of_ble_eq_true rfl⟩) hS (fun q _ h => hF1 q h) hF1 (fun g1 t H locs ht hvm hw hB hz1 hk1 hS => ?_)
  obtain ⟨hP1, hD1⟩ := hB
  rw [ht] at hP1
  obtain ⟨hP, hD⟩ := cjn (wc := [(q1, eQ)]) (ws := [(a, .inr (1, [.ref q0, .null, .null, .null, .null, .null, .null, .null])), (q0, eQ)]) hP hD hA1 hk1 hP1 hD1
  have hP : va_P D vwCl [(a, .inr (1, [.ref q0, .null, .null, .null, .null, .null, .null, .null])), (q0, eQ), (q1, eQ)] H := hP
  have hD : va_D A [(a, .inr (1, [.ref q0, .null, .null, .null, .null, .null, .null, .null])), (q0, eQ), (q1, eQ)] := hD
  refine W.widen (k := 2) (n := 8) (Nat.le_of_ble_eq_true rfl) (Nat.le_of_ble_eq_true rfl) ?_
  refine va_putF (D := D) (ci := 1) (v := .ref q1) (ty := .object "QuaternionDesk$Quat") (C := RX1) (T := TX1) (N := 8) hx hb hts iwX1 tyX1 tyX1_ok nmX1 hown hK hP hD hS 0 rfl rfl 1 (by decide) (hts _ mw_153) (fun _ h9 => h9) rfl hin rfl (by decide +kernel) rfl rfl (Nat.le_of_ble_eq_true rfl) dX1_init_23 (fun H locs hP hD hS => ?_)
  have hP : va_P D vwCl [(a, .inr (1, [.ref q0, .ref q1, .null, .null, .null, .null, .null, .null])), (q0, eQ), (q1, eQ)] H := hP
  have hD : va_D A [(a, .inr (1, [.ref q0, .ref q1, .null, .null, .null, .null, .null, .null])), (q0, eQ), (q1, eQ)] := hD
  refine lv_aload_n hx hb dX1_init_26 rfl (lv_at hl 0 rfl) ?_
  refine va_new (ci := 6) (fs := [.int 0, .int 0, .int 0, .int 0]) (C := RX6) (T := TX6) (N := 4) hx hb hts iwX6 tyX6 tyX6_ok hown (hts _ mw_148) (hts _ mw_35) (hts _ mw_3) hK hP hD hS hA rfl nfX6 (Nat.le_of_ble_eq_true rfl) (Nat.le_of_ble_eq_true rfl) dX1_init_27 (fun q2 H hP hD hS => ?_)
  have hP : va_P D vwCl [(a, .inr (1, [.ref q0, .ref q1, .null, .null, .null, .null, .null, .null])), (q0, eQ), (q1, eQ), (q2, eQ)] H := hP
  have hD : va_D A [(a, .inr (1, [.ref q0, .ref q1, .null, .null, .null, .null, .null, .null])), (q0, eQ), (q1, eQ), (q2, eQ)] := hD
  refine W.widen (k := 3) (n := 12) (Nat.le_of_ble_eq_true rfl) (Nat.le_of_ble_eq_true rfl) ?_
  refine lv_dup hx hb dX1_init_30 rfl ?_
  have hA1 : ∀ q : Nat, H.size ≤ q → A q := fun q h => hA q (Nat.le_trans hS.1 h)
  have hF1 := cF (wc := [(q2, eQ)]) (ws := [(a, .inr (1, [.ref q0, .ref q1, .null, .null, .null, .null, .null, .null])), (q0, eQ), (q1, eQ)]) hD hA1
  have hPc := hP.sub (ws' := [(q2, eQ)]) [3] rfl
  refine va_callv (va_runIN (As := []) (rest := [.ref q2, .ref a]) ⟨hx, hb, hml, hown, hts⟩ (nX6_init l D T q2 (H.size)) ⟨va_cnB 0 hts (lwW_gc mw_38) rfl rfl rfl (hN.M 8 rfl) (hts _ mw_3) (by decide +kernel) ⟨Nat.le_of_ble_eq_true rfl, Nat.le_of_ble_eq_true rfl⟩, rfl, hts _ mw_37⟩ ⟨fun a U g mk q => ⟨q.1, q.2.1, q.2.2.1, q.2.2.2.call⟩, fun U hU hW => ⟨rfl, by rw [hU], by rw [hU]; exact hPc, hX.warm hW⟩⟩ rfl rfl hl.1 rfl (lv_room (Nat.le_of_ble_eq_true rfl)) dX1_init_31 ⟨Nat.le_of_ble_eq_true rfl, Nat.le_of_ble_eq_true rfl⟩) hS (fun q _ h => hF1 q h) hF1 (fun g2 t H locs ht hvm hw hB hz1 hk1 hS => ?_)
  obtain ⟨hP1, hD1⟩ := hB
  rw [ht] at hP1
  obtain ⟨hP, hD⟩ := cjn (wc := [(q2, eQ)]) (ws := [(a, .inr (1, [.ref q0, .ref q1, .null, .null, .null, .null, .null, .null])), (q0, eQ), (q1, eQ)]) hP hD hA1 hk1 hP1 hD1
  have hP : va_P D vwCl [(a, .inr (1, [.ref q0, .ref q1, .null, .null, .null, .null, .null, .null])), (q0, eQ), (q1, eQ), (q2, eQ)] H := hP
  have hD : va_D A [(a, .inr (1, [.ref q0, .ref q1, .null, .null, .null, .null, .null, .null])), (q0, eQ), (q1, eQ), (q2, eQ)] := hD
  refine W.widen (k := 3) (n := 12) (Nat.le_of_ble_eq_true rfl) (Nat.le_of_ble_eq_true rfl) ?_
  refine va_putF (D := D) (ci := 1) (v := .ref q2) (ty := .object "QuaternionDesk$Quat") (C := RX1) (T := TX1) (N := 8) hx hb hts iwX1 tyX1 tyX1_ok nmX1 hown hK hP hD hS 0 rfl rfl 2 (by decide) (hts _ mw_155) (fun _ h9 => h9) rfl hin rfl (by decide +kernel) rfl rfl (Nat.le_of_ble_eq_true rfl) dX1_init_34 (fun H locs hP hD hS => ?_)
  have hP : va_P D vwCl [(a, .inr (1, [.ref q0, .ref q1, .ref q2, .null, .null, .null, .null, .null])), (q0, eQ), (q1, eQ), (q2, eQ)] H := hP
  have hD : va_D A [(a, .inr (1, [.ref q0, .ref q1, .ref q2, .null, .null, .null, .null, .null])), (q0, eQ), (q1, eQ), (q2, eQ)] := hD
  refine lv_aload_n hx hb dX1_init_37 rfl (lv_at hl 0 rfl) ?_
  refine va_new (ci := 6) (fs := [.int 0, .int 0, .int 0, .int 0]) (C := RX6) (T := TX6) (N := 4) hx hb hts iwX6 tyX6 tyX6_ok hown (hts _ mw_148) (hts _ mw_35) (hts _ mw_3) hK hP hD hS hA rfl nfX6 (Nat.le_of_ble_eq_true rfl) (Nat.le_of_ble_eq_true rfl) dX1_init_38 (fun q3 H hP hD hS => ?_)
  have hP : va_P D vwCl [(a, .inr (1, [.ref q0, .ref q1, .ref q2, .null, .null, .null, .null, .null])), (q0, eQ), (q1, eQ), (q2, eQ), (q3, eQ)] H := hP
  have hD : va_D A [(a, .inr (1, [.ref q0, .ref q1, .ref q2, .null, .null, .null, .null, .null])), (q0, eQ), (q1, eQ), (q2, eQ), (q3, eQ)] := hD
  refine W.widen (k := 4) (n := 16) (Nat.le_of_ble_eq_true rfl) (Nat.le_of_ble_eq_true rfl) ?_
  refine lv_dup hx hb dX1_init_41 rfl ?_
  have hA1 : ∀ q : Nat, H.size ≤ q → A q := fun q h => hA q (Nat.le_trans hS.1 h)
  have hF1 := cF (wc := [(q3, eQ)]) (ws := [(a, .inr (1, [.ref q0, .ref q1, .ref q2, .null, .null, .null, .null, .null])), (q0, eQ), (q1, eQ), (q2, eQ)]) hD hA1
  have hPc := hP.sub (ws' := [(q3, eQ)]) [4] rfl
  refine va_callv (va_runIN (As := []) (rest := [.ref q3, .ref a]) ⟨hx, hb, hml, hown, hts⟩ (nX6_init l D T q3 (H.size)) ⟨va_cnB 0 hts (lwW_gc mw_38) rfl rfl rfl (hN.M 8 rfl) (hts _ mw_3) (by decide +kernel) ⟨Nat.le_of_ble_eq_true rfl, Nat.le_of_ble_eq_true rfl⟩, rfl, hts _ mw_37⟩ ⟨fun a U g mk q => ⟨q.1, q.2.1, q.2.2.1, q.2.2.2.call⟩, fun U hU hW => ⟨rfl, by rw [hU], by rw [hU]; exact hPc, hX.warm hW⟩⟩ rfl rfl hl.1 rfl (lv_room (Nat.le_of_ble_eq_true rfl)) dX1_init_42 ⟨Nat.le_of_ble_eq_true rfl, Nat.le_of_ble_eq_true rfl⟩) hS (fun q _ h => hF1 q h) hF1 (fun g3 t H locs ht hvm hw hB hz1 hk1 hS => ?_)
  obtain ⟨hP1, hD1⟩ := hB
  rw [ht] at hP1
  obtain ⟨hP, hD⟩ := cjn (wc := [(q3, eQ)]) (ws := [(a, .inr (1, [.ref q0, .ref q1, .ref q2, .null, .null, .null, .null, .null])), (q0, eQ), (q1, eQ), (q2, eQ)]) hP hD hA1 hk1 hP1 hD1
  have hP : va_P D vwCl [(a, .inr (1, [.ref q0, .ref q1, .ref q2, .null, .null, .null, .null, .null])), (q0, eQ), (q1, eQ), (q2, eQ), (q3, eQ)] H := hP
  have hD : va_D A [(a, .inr (1, [.ref q0, .ref q1, .ref q2, .null, .null, .null, .null, .null])), (q0, eQ), (q1, eQ), (q2, eQ), (q3, eQ)] := hD
  refine W.widen (k := 4) (n := 16) (Nat.le_of_ble_eq_true rfl) (Nat.le_of_ble_eq_true rfl) ?_
  refine va_putF (D := D) (ci := 1) (v := .ref q3) (ty := .object "QuaternionDesk$Quat") (C := RX1) (T := TX1) (N := 8) hx hb hts iwX1 tyX1 tyX1_ok nmX1 hown hK hP hD hS 0 rfl rfl 3 (by decide) (hts _ mw_156) (fun _ h9 => h9) rfl hin rfl (by decide +kernel) rfl rfl (Nat.le_of_ble_eq_true rfl) dX1_init_45 (fun H locs hP hD hS => ?_)
  have hP : va_P D vwCl [(a, .inr (1, [.ref q0, .ref q1, .ref q2, .ref q3, .null, .null, .null, .null])), (q0, eQ), (q1, eQ), (q2, eQ), (q3, eQ)] H := hP
  have hD : va_D A [(a, .inr (1, [.ref q0, .ref q1, .ref q2, .ref q3, .null, .null, .null, .null])), (q0, eQ), (q1, eQ), (q2, eQ), (q3, eQ)] := hD
  refine lv_aload_n hx hb dX1_init_48 rfl (lv_at hl 0 rfl) ?_
  refine va_new (ci := 6) (fs := [.int 0, .int 0, .int 0, .int 0]) (C := RX6) (T := TX6) (N := 4) hx hb hts iwX6 tyX6 tyX6_ok hown (hts _ mw_148) (hts _ mw_35) (hts _ mw_3) hK hP hD hS hA rfl nfX6 (Nat.le_of_ble_eq_true rfl) (Nat.le_of_ble_eq_true rfl) dX1_init_49 (fun q4 H hP hD hS => ?_)
  have hP : va_P D vwCl [(a, .inr (1, [.ref q0, .ref q1, .ref q2, .ref q3, .null, .null, .null, .null])), (q0, eQ), (q1, eQ), (q2, eQ), (q3, eQ), (q4, eQ)] H := hP
  have hD : va_D A [(a, .inr (1, [.ref q0, .ref q1, .ref q2, .ref q3, .null, .null, .null, .null])), (q0, eQ), (q1, eQ), (q2, eQ), (q3, eQ), (q4, eQ)] := hD
  refine W.widen (k := 5) (n := 20) (Nat.le_of_ble_eq_true rfl) (Nat.le_of_ble_eq_true rfl) ?_
  refine lv_dup hx hb dX1_init_52 rfl ?_
  have hA1 : ∀ q : Nat, H.size ≤ q → A q := fun q h => hA q (Nat.le_trans hS.1 h)
  have hF1 := cF (wc := [(q4, eQ)]) (ws := [(a, .inr (1, [.ref q0, .ref q1, .ref q2, .ref q3, .null, .null, .null, .null])), (q0, eQ), (q1, eQ), (q2, eQ), (q3, eQ)]) hD hA1
  have hPc := hP.sub (ws' := [(q4, eQ)]) [5] rfl
  refine va_callv (va_runIN (As := []) (rest := [.ref q4, .ref a]) ⟨hx, hb, hml, hown, hts⟩ (nX6_init l D T q4 (H.size)) ⟨va_cnB 0 hts (lwW_gc mw_38) rfl rfl rfl (hN.M 8 rfl) (hts _ mw_3) (by decide +kernel) ⟨Nat.le_of_ble_eq_true rfl, Nat.le_of_ble_eq_true rfl⟩, rfl, hts _ mw_37⟩ ⟨fun a U g mk q => ⟨q.1, q.2.1, q.2.2.1, q.2.2.2.call⟩, fun U hU hW => ⟨rfl, by rw [hU], by rw [hU]; exact hPc, hX.warm hW⟩⟩ rfl rfl hl.1 rfl (lv_room (Nat.le_of_ble_eq_true rfl)) dX1_init_53 ⟨Nat.le_of_ble_eq_true rfl, Nat.le_of_ble_eq_true rfl⟩) hS (fun q _ h => hF1 q h) hF1 (fun g4 t H locs ht hvm hw hB hz1 hk1 hS => ?_)
  obtain ⟨hP1, hD1⟩ := hB
  rw [ht] at hP1
  obtain ⟨hP, hD⟩ := cjn (wc := [(q4, eQ)]) (ws := [(a, .inr (1, [.ref q0, .ref q1, .ref q2, .ref q3, .null, .null, .null, .null])), (q0, eQ), (q1, eQ), (q2, eQ), (q3, eQ)]) hP hD hA1 hk1 hP1 hD1
  have hP : va_P D vwCl [(a, .inr (1, [.ref q0, .ref q1, .ref q2, .ref q3, .null, .null, .null, .null])), (q0, eQ), (q1, eQ), (q2, eQ), (q3, eQ), (q4, eQ)] H := hP
  have hD : va_D A [(a, .inr (1, [.ref q0, .ref q1, .ref q2, .ref q3, .null, .null, .null, .null])), (q0, eQ), (q1, eQ), (q2, eQ), (q3, eQ), (q4, eQ)] := hD
  refine W.widen (k := 5) (n := 20) (Nat.le_of_ble_eq_true rfl) (Nat.le_of_ble_eq_true rfl) ?_
  refine va_putF (D := D) (ci := 1) (v := .ref q4) (ty := .object "QuaternionDesk$Quat") (C := RX1) (T := TX1) (N := 8) hx hb hts iwX1 tyX1 tyX1_ok nmX1 hown hK hP hD hS 0 rfl rfl 4 (by decide) (hts _ mw_157) (fun _ h9 => h9) rfl hin rfl (by decide +kernel) rfl rfl (Nat.le_of_ble_eq_true rfl) dX1_init_56 (fun H locs hP hD hS => ?_)
  have hP : va_P D vwCl [(a, .inr (1, [.ref q0, .ref q1, .ref q2, .ref q3, .ref q4, .null, .null, .null])), (q0, eQ), (q1, eQ), (q2, eQ), (q3, eQ), (q4, eQ)] H := hP
  have hD : va_D A [(a, .inr (1, [.ref q0, .ref q1, .ref q2, .ref q3, .ref q4, .null, .null, .null])), (q0, eQ), (q1, eQ), (q2, eQ), (q3, eQ), (q4, eQ)] := hD
  refine lv_aload_n hx hb dX1_init_59 rfl (lv_at hl 0 rfl) ?_
  refine va_new (ci := 6) (fs := [.int 0, .int 0, .int 0, .int 0]) (C := RX6) (T := TX6) (N := 4) hx hb hts iwX6 tyX6 tyX6_ok hown (hts _ mw_148) (hts _ mw_35) (hts _ mw_3) hK hP hD hS hA rfl nfX6 (Nat.le_of_ble_eq_true rfl) (Nat.le_of_ble_eq_true rfl) dX1_init_60 (fun q5 H hP hD hS => ?_)
  have hP : va_P D vwCl [(a, .inr (1, [.ref q0, .ref q1, .ref q2, .ref q3, .ref q4, .null, .null, .null])), (q0, eQ), (q1, eQ), (q2, eQ), (q3, eQ), (q4, eQ), (q5, eQ)] H := hP
  have hD : va_D A [(a, .inr (1, [.ref q0, .ref q1, .ref q2, .ref q3, .ref q4, .null, .null, .null])), (q0, eQ), (q1, eQ), (q2, eQ), (q3, eQ), (q4, eQ), (q5, eQ)] := hD
  refine W.widen (k := 6) (n := 24) (Nat.le_of_ble_eq_true rfl) (Nat.le_of_ble_eq_true rfl) ?_
  refine lv_dup hx hb dX1_init_63 rfl ?_
  have hA1 : ∀ q : Nat, H.size ≤ q → A q := fun q h => hA q (Nat.le_trans hS.1 h)
  have hF1 := cF (wc := [(q5, eQ)]) (ws := [(a, .inr (1, [.ref q0, .ref q1, .ref q2, .ref q3, .ref q4, .null, .null, .null])), (q0, eQ), (q1, eQ), (q2, eQ), (q3, eQ), (q4, eQ)]) hD hA1
  have hPc := hP.sub (ws' := [(q5, eQ)]) [6] rfl
  refine va_callv (va_runIN (As := []) (rest := [.ref q5, .ref a]) ⟨hx, hb, hml, hown, hts⟩ (nX6_init l D T q5 (H.size)) ⟨va_cnB 0 hts (lwW_gc mw_38) rfl rfl rfl (hN.M 8 rfl) (hts _ mw_3) (by decide +kernel) ⟨Nat.le_of_ble_eq_true rfl, Nat.le_of_ble_eq_true rfl⟩, rfl, hts _ mw_37⟩ ⟨fun a U g mk q => ⟨q.1, q.2.1, q.2.2.1, q.2.2.2.call⟩, fun U hU hW => ⟨rfl, by rw [hU], by rw [hU]; exact hPc, hX.warm hW⟩⟩ rfl rfl hl.1 rfl (lv_room (Nat.le_of_ble_eq_true rfl)) dX1_init_64 ⟨Nat.le_of_ble_eq_true rfl, Nat.le_of_ble_eq_true rfl⟩) hS (fun q _ h => hF1 q h) hF1 (fun g5 t H locs ht hvm hw hB hz1 hk1 hS => ?_)
  obtain ⟨hP1, hD1⟩ := hB
  rw [ht] at hP1
  obtain ⟨hP, hD⟩ := cjn (wc := [(q5, eQ)]) (ws := [(a, .inr (1, [.ref q0, .ref q1, .ref q2, .ref q3, .ref q4, .null, .null, .null])), (q0, eQ), (q1, eQ), (q2, eQ), (q3, eQ), (q4, eQ)]) hP hD hA1 hk1 hP1 hD1
  have hP : va_P D vwCl [(a, .inr (1, [.ref q0, .ref q1, .ref q2, .ref q3, .ref q4, .null, .null, .null])), (q0, eQ), (q1, eQ), (q2, eQ), (q3, eQ), (q4, eQ), (q5, eQ)] H := hP
  have hD : va_D A [(a, .inr (1, [.ref q0, .ref q1, .ref q2, .ref q3, .ref q4, .null, .null, .null])), (q0, eQ), (q1, eQ), (q2, eQ), (q3, eQ), (q4, eQ), (q5, eQ)] := hD
  refine W.widen (k := 6) (n := 24) (Nat.le_of_ble_eq_true rfl) (Nat.le_of_ble_eq_true rfl) ?_
  refine va_putF (D := D) (ci := 1) (v := .ref q5) (ty := .object "QuaternionDesk$Quat") (C := RX1) (T := TX1) (N := 8) hx hb hts iwX1 tyX1 tyX1_ok nmX1 hown hK hP hD hS 0 rfl rfl 5 (by decide) (hts _ mw_158) (fun _ h9 => h9) rfl hin rfl (by decide +kernel) rfl rfl (Nat.le_of_ble_eq_true rfl) dX1_init_67 (fun H locs hP hD hS => ?_)
  have hP : va_P D vwCl [(a, .inr (1, [.ref q0, .ref q1, .ref q2, .ref q3, .ref q4, .ref q5, .null, .null])), (q0, eQ), (q1, eQ), (q2, eQ), (q3, eQ), (q4, eQ), (q5, eQ)] H := hP
  have hD : va_D A [(a, .inr (1, [.ref q0, .ref q1, .ref q2, .ref q3, .ref q4, .ref q5, .null, .null])), (q0, eQ), (q1, eQ), (q2, eQ), (q3, eQ), (q4, eQ), (q5, eQ)] := hD
  refine lv_aload_n hx hb dX1_init_70 rfl (lv_at hl 0 rfl) ?_
  refine va_new (ci := 6) (fs := [.int 0, .int 0, .int 0, .int 0]) (C := RX6) (T := TX6) (N := 4) hx hb hts iwX6 tyX6 tyX6_ok hown (hts _ mw_148) (hts _ mw_35) (hts _ mw_3) hK hP hD hS hA rfl nfX6 (Nat.le_of_ble_eq_true rfl) (Nat.le_of_ble_eq_true rfl) dX1_init_71 (fun q6 H hP hD hS => ?_)
  have hP : va_P D vwCl [(a, .inr (1, [.ref q0, .ref q1, .ref q2, .ref q3, .ref q4, .ref q5, .null, .null])), (q0, eQ), (q1, eQ), (q2, eQ), (q3, eQ), (q4, eQ), (q5, eQ), (q6, eQ)] H := hP
  have hD : va_D A [(a, .inr (1, [.ref q0, .ref q1, .ref q2, .ref q3, .ref q4, .ref q5, .null, .null])), (q0, eQ), (q1, eQ), (q2, eQ), (q3, eQ), (q4, eQ), (q5, eQ), (q6, eQ)] := hD
  refine W.widen (k := 7) (n := 28) (Nat.le_of_ble_eq_true rfl) (Nat.le_of_ble_eq_true rfl) ?_
  refine lv_dup hx hb dX1_init_74 rfl ?_
  have hA1 : ∀ q : Nat, H.size ≤ q → A q := fun q h => hA q (Nat.le_trans hS.1 h)
  have hF1 := cF (wc := [(q6, eQ)]) (ws := [(a, .inr (1, [.ref q0, .ref q1, .ref q2, .ref q3, .ref q4, .ref q5, .null, .null])), (q0, eQ), (q1, eQ), (q2, eQ), (q3, eQ), (q4, eQ), (q5, eQ)]) hD hA1
  have hPc := hP.sub (ws' := [(q6, eQ)]) [7] rfl
  refine va_callv (va_runIN (As := []) (rest := [.ref q6, .ref a]) ⟨hx, hb, hml, hown, hts⟩ (nX6_init l D T q6 (H.size)) ⟨va_cnB 0 hts (lwW_gc mw_38) rfl rfl rfl (hN.M 8 rfl) (hts _ mw_3) (by decide +kernel) ⟨Nat.le_of_ble_eq_true rfl, Nat.le_of_ble_eq_true rfl⟩, rfl, hts _ mw_37⟩ ⟨fun a U g mk q => ⟨q.1, q.2.1, q.2.2.1, q.2.2.2.call⟩, fun U hU hW => ⟨rfl, by rw [hU], by rw [hU]; exact hPc, hX.warm hW⟩⟩ rfl rfl hl.1 rfl (lv_room (Nat.le_of_ble_eq_true rfl)) dX1_init_75 ⟨Nat.le_of_ble_eq_true rfl, Nat.le_of_ble_eq_true rfl⟩) hS (fun q _ h => hF1 q h) hF1 (fun g6 t H locs ht hvm hw hB hz1 hk1 hS => ?_)
  obtain ⟨hP1, hD1⟩ := hB
  rw [ht] at hP1
  obtain ⟨hP, hD⟩ := cjn (wc := [(q6, eQ)]) (ws := [(a, .inr (1, [.ref q0, .ref q1, .ref q2, .ref q3, .ref q4, .ref q5, .null, .null])), (q0, eQ), (q1, eQ), (q2, eQ), (q3, eQ), (q4, eQ), (q5, eQ)]) hP hD hA1 hk1 hP1 hD1
  have hP : va_P D vwCl [(a, .inr (1, [.ref q0, .ref q1, .ref q2, .ref q3, .ref q4, .ref q5, .null, .null])), (q0, eQ), (q1, eQ), (q2, eQ), (q3, eQ), (q4, eQ), (q5, eQ), (q6, eQ)] H := hP
  have hD : va_D A [(a, .inr (1, [.ref q0, .ref q1, .ref q2, .ref q3, .ref q4, .ref q5, .null, .null])), (q0, eQ), (q1, eQ), (q2, eQ), (q3, eQ), (q4, eQ), (q5, eQ), (q6, eQ)] := hD
  refine W.widen (k := 7) (n := 28) (Nat.le_of_ble_eq_true rfl) (Nat.le_of_ble_eq_true rfl) ?_
  refine va_putF (D := D) (ci := 1) (v := .ref q6) (ty := .object "QuaternionDesk$Quat") (C := RX1) (T := TX1) (N := 8) hx hb hts iwX1 tyX1 tyX1_ok nmX1 hown hK hP hD hS 0 rfl rfl 6 (by decide) (hts _ mw_159) (fun _ h9 => h9) rfl hin rfl (by decide +kernel) rfl rfl (Nat.le_of_ble_eq_true rfl) dX1_init_78 (fun H locs hP hD hS => ?_)
  have hP : va_P D vwCl [(a, .inr (1, [.ref q0, .ref q1, .ref q2, .ref q3, .ref q4, .ref q5, .ref q6, .null])), (q0, eQ), (q1, eQ), (q2, eQ), (q3, eQ), (q4, eQ), (q5, eQ), (q6, eQ)] H := hP
  have hD : va_D A [(a, .inr (1, [.ref q0, .ref q1, .ref q2, .ref q3, .ref q4, .ref q5, .ref q6, .null])), (q0, eQ), (q1, eQ), (q2, eQ), (q3, eQ), (q4, eQ), (q5, eQ), (q6, eQ)] := hD
  refine lv_aload_n hx hb dX1_init_81 rfl (lv_at hl 0 rfl) ?_
  refine va_new (ci := 6) (fs := [.int 0, .int 0, .int 0, .int 0]) (C := RX6) (T := TX6) (N := 4) hx hb hts iwX6 tyX6 tyX6_ok hown (hts _ mw_148) (hts _ mw_35) (hts _ mw_3) hK hP hD hS hA rfl nfX6 (Nat.le_of_ble_eq_true rfl) (Nat.le_of_ble_eq_true rfl) dX1_init_82 (fun q7 H hP hD hS => ?_)
  have hP : va_P D vwCl [(a, .inr (1, [.ref q0, .ref q1, .ref q2, .ref q3, .ref q4, .ref q5, .ref q6, .null])), (q0, eQ), (q1, eQ), (q2, eQ), (q3, eQ), (q4, eQ), (q5, eQ), (q6, eQ), (q7, eQ)] H := hP
  have hD : va_D A [(a, .inr (1, [.ref q0, .ref q1, .ref q2, .ref q3, .ref q4, .ref q5, .ref q6, .null])), (q0, eQ), (q1, eQ), (q2, eQ), (q3, eQ), (q4, eQ), (q5, eQ), (q6, eQ), (q7, eQ)] := hD
  refine W.widen (k := 8) (n := 32) (Nat.le_of_ble_eq_true rfl) (Nat.le_of_ble_eq_true rfl) ?_
  refine lv_dup hx hb dX1_init_85 rfl ?_
  have hA1 : ∀ q : Nat, H.size ≤ q → A q := fun q h => hA q (Nat.le_trans hS.1 h)
  have hF1 := cF (wc := [(q7, eQ)]) (ws := [(a, .inr (1, [.ref q0, .ref q1, .ref q2, .ref q3, .ref q4, .ref q5, .ref q6, .null])), (q0, eQ), (q1, eQ), (q2, eQ), (q3, eQ), (q4, eQ), (q5, eQ), (q6, eQ)]) hD hA1
  have hPc := hP.sub (ws' := [(q7, eQ)]) [8] rfl
  refine va_callv (va_runIN (As := []) (rest := [.ref q7, .ref a]) ⟨hx, hb, hml, hown, hts⟩ (nX6_init l D T q7 (H.size)) ⟨va_cnB 0 hts (lwW_gc mw_38) rfl rfl rfl (hN.M 8 rfl) (hts _ mw_3) (by decide +kernel) ⟨Nat.le_of_ble_eq_true rfl, Nat.le_of_ble_eq_true rfl⟩, rfl, hts _ mw_37⟩ ⟨fun a U g mk q => ⟨q.1, q.2.1, q.2.2.1, q.2.2.2.call⟩, fun U hU hW => ⟨rfl, by rw [hU], by rw [hU]; exact hPc, hX.warm hW⟩⟩ rfl rfl hl.1 rfl (lv_room (Nat.le_of_ble_eq_true rfl)) dX1_init_86 ⟨Nat.le_of_ble_eq_true rfl, Nat.le_of_ble_eq_true rfl⟩) hS (fun q _ h => hF1 q h) hF1 (fun g7 t H locs ht hvm hw hB hz1 hk1 hS => ?_)
  obtain ⟨hP1, hD1⟩ := hB
  rw [ht] at hP1
  obtain ⟨hP, hD⟩ := cjn (wc := [(q7, eQ)]) (ws := [(a, .inr (1, [.ref q0, .ref q1, .ref q2, .ref q3, .ref q4, .ref q5, .ref q6, .null])), (q0, eQ), (q1, eQ), (q2, eQ), (q3, eQ), (q4, eQ), (q5, eQ), (q6, eQ)]) hP hD hA1 hk1 hP1 hD1
  have hP : va_P D vwCl [(a, .inr (1, [.ref q0, .ref q1, .ref q2, .ref q3, .ref q4, .ref q5, .ref q6, .null])), (q0, eQ), (q1, eQ), (q2, eQ), (q3, eQ), (q4, eQ), (q5, eQ), (q6, eQ), (q7, eQ)] H := hP
  have hD : va_D A [(a, .inr (1, [.ref q0, .ref q1, .ref q2, .ref q3, .ref q4, .ref q5, .ref q6, .null])), (q0, eQ), (q1, eQ), (q2, eQ), (q3, eQ), (q4, eQ), (q5, eQ), (q6, eQ), (q7, eQ)] := hD
  refine W.widen (k := 8) (n := 32) (Nat.le_of_ble_eq_true rfl) (Nat.le_of_ble_eq_true rfl) ?_
  refine va_putF (D := D) (ci := 1) (v := .ref q7) (ty := .object "QuaternionDesk$Quat") (C := RX1) (T := TX1) (N := 8) hx hb hts iwX1 tyX1 tyX1_ok nmX1 hown hK hP hD hS 0 rfl rfl 7 (by decide) (hts _ mw_161) (fun _ h9 => h9) rfl hin rfl (by decide +kernel) rfl rfl (Nat.le_of_ble_eq_true rfl) dX1_init_89 (fun H locs hP hD hS => ?_)
  have hP : va_P D vwCl [(a, .inr (1, [.ref q0, .ref q1, .ref q2, .ref q3, .ref q4, .ref q5, .ref q6, .ref q7])), (q0, eQ), (q1, eQ), (q2, eQ), (q3, eQ), (q4, eQ), (q5, eQ), (q6, eQ), (q7, eQ)] H := hP
  have hD : va_D A [(a, .inr (1, [.ref q0, .ref q1, .ref q2, .ref q3, .ref q4, .ref q5, .ref q6, .ref q7])), (q0, eQ), (q1, eQ), (q2, eQ), (q3, eQ), (q4, eQ), (q5, eQ), (q6, eQ), (q7, eQ)] := hD
  have hD0 := hD
  have hP : va_P D vwCl (vX1 T a (fun k => (([q0, q1, q2, q3, q4, q5, q6, q7] : List Nat).getD k 0))) _ := hP
  have hD : va_D A (vX1 T a (fun k => (([q0, q1, q2, q3, q4, q5, q6, q7] : List Nat).getD k 0))) := cDe hD0 rfl
  exact W.vret hx hb hr (fun t ht hW => ⟨⟨fun k => (([q0, q1, q2, q3, q4, q5, q6, q7] : List Nat).getD k 0), rfl, trivial, by rw [ht]; exact hP, hD⟩, hS.F ht⟩) hS.2.2 dX1_init_92
abbrev vX0 (T : Nat → ClassId) (a : Nat) (f : Nat → Nat) : va_W := [(a, .inr (0, [.ref (f 0)])), (f 0, .inr (7, [.ref (f 1), .int 0])), (f 1, eI T 160)]
set_option maxHeartbeats 4000000 in
set_option maxRecDepth 100000 in
theorem nX0_init (l : Launch) (D : va_G) (T : Nat → ClassId) (a sz : Nat) : Met l yX0_init (.code yX0_init cX0_init 1 none :: lwW) (rmC 2 2 162) (cPc D T sz [(a, .inr (0, [.null]))] [.ref a]) (cQv D [(a, .inr (0, [.null]))] sz (vX0 T a)) 2 162 (va_A [(a, .inr (0, [.null]))] sz) := by
  refine Met.ofW (cc := cX0_init) (maxL := 1) (ret := none) (by decide) rfl ?_
  intro p e s m args below meth c s₁ B hml hv
  unfold cQv
  obtain ⟨rfl, rfl, hP, hX⟩ := hv
  have hx := B.exec
  have hb := B.bytes
  have hr := B.returns
  have hts := fun (w : Cond) (hw : w ∈ lwW) => atoms_spec (ws := (.code yX0_init cX0_init 1 none :: lwW)) B.pre w (List.mem_cons_of_mem _ hw)
  have hown : s.vm.findClass RX0 = some m.cls := findClass_of_methodNamed B.named
  have hlocks := B.notSynchronized
  have hin : meth.name = "<init>" := (name_of_methodNamed B.named B.method).1
  obtain ⟨hK, hN, hO⟩ := id hX
  have hD : va_D (va_A [(a, .inr (0, [.null]))] s.heap.size) [(a, .inr (0, [.null]))] := cD1
  have hA : ∀ q : Nat, s.heap.size ≤ q → va_A [(a, .inr (0, [.null]))] s.heap.size q := fun q h => Or.inr h
  have hS : va_S (va_A [(a, .inr (0, [.null]))] s.heap.size) s.heap s.heap [] := va_S.rf
  generalize va_A [(a, .inr (0, [.null]))] s.heap.size = A at hD hA hS ⊢
  have hl := lv_entry ([.ref a]) (n := 1) (Nat.le_of_ble_eq_true rfl)
  rw [lg_entry_eq]
  generalize (lg_sl ([.ref a]) ++ List.replicate (1 - (lg_sl ([.ref a])).length) Slot.unset).toArray = ls at hl ⊢
  have hl : lv_has ls 1 [(0, .ref a)] := hl
  refine lv_aload_n hx hb dX0_init_0 rfl (lv_at hl 0 rfl) ?_
  refine W.objInit hx hb hown (hts _ mw_274) (hts _ mw_25) (hts _ mw_26) rfl (by rw [hml]; exact hl.1) rfl dX0_init_1 (Nat.le_of_ble_eq_true rfl) (Nat.le_of_ble_eq_true rfl) ?_
  refine W.eq (g2 := F0 m 4 ls []) rfl ?_
  refine lv_aload_n hx hb dX0_init_4 rfl (lv_at hl 0 rfl) ?_
  refine va_new (ci := 7) (fs := [.null, .int 0]) (C := RX7) (T := TX7) (N := 2) hx hb hts iwX7 tyX7 tyX7_ok hown (hts _ mw_275) (hts _ mw_186) (hts _ mw_10) hK hP hD hS hA rfl nfX7 (Nat.le_of_ble_eq_true rfl) (Nat.le_of_ble_eq_true rfl) dX0_init_5 (fun q0 H hP hD hS => ?_)
  have hP : va_P D vwCl [(a, .inr (0, [.null])), (q0, .inr (7, [.null, .int 0]))] H := hP
  have hD : va_D A [(a, .inr (0, [.null])), (q0, .inr (7, [.null, .int 0]))] := hD
  refine W.widen (k := 1) (n := 2) (Nat.le_of_ble_eq_true rfl) (Nat.le_of_ble_eq_true rfl) ?_
  refine lv_dup hx hb dX0_init_8 rfl ?_
  refine lv_bipush (v := 40) hx hb dX0_init_9 (by decide) ?_
  have hA1 : ∀ q : Nat, H.size ≤ q → A q := fun q h => hA q (Nat.le_trans hS.1 h)
  have hF1 := cF (wc := [(q0, .inr (7, [.null, .int 0]))]) (ws := [(a, .inr (0, [.null]))]) hD hA1
  have hPc := hP.sub (ws' := [(q0, .inr (7, [.null, .int 0]))]) [1] rfl
  refine va_callv (va_runI (As := [.int 40]) (rest := [.ref q0, .ref a]) ⟨hx, hb, hml, hown, hts⟩ (nX7_init l D T q0 (H.size) 40 160 (by decide) (by decide) (by decide)) (cwI 1 hts (lwW_gc mw_189) rfl rfl rfl (hts _ mw_10) (hts _ mw_276) (hts _ mw_188) rfl (by decide +kernel) ⟨Nat.le_of_ble_eq_true rfl, Nat.le_of_ble_eq_true rfl⟩) ⟨fun a U g mk q => ⟨q.1, q.2.1, q.2.2.1, q.2.2.2.call⟩, fun U hU hW => ⟨rfl, by rw [hU], by rw [hU]; exact hPc, hX.warm hW⟩⟩ rfl rfl hl.1 rfl (lv_room (Nat.le_of_ble_eq_true rfl)) dX0_init_11 ⟨Nat.le_of_ble_eq_true rfl, Nat.le_of_ble_eq_true rfl⟩) hS (fun q _ h => hF1 q h) hF1 (fun g0 t H locs ht hvm hw hB hz1 hk1 hS => ?_)
  obtain ⟨hP1, hD1⟩ := hB
  rw [ht] at hP1
  obtain ⟨hP, hD⟩ := cjn (wc := [(q0, .inr (7, [.null, .int 0]))]) (ws := [(a, .inr (0, [.null]))]) hP hD hA1 hk1 hP1 hD1
  have hP : va_P D vwCl [(a, .inr (0, [.null])), (q0, .inr (7, [.ref (g0 0), .int 0])), (g0 0, eI T 160)] H := hP
  have hD : va_D A [(a, .inr (0, [.null])), (q0, .inr (7, [.ref (g0 0), .int 0])), (g0 0, eI T 160)] := hD
  refine W.widen (k := 2) (n := 162) (Nat.le_of_ble_eq_true rfl) (Nat.le_of_ble_eq_true rfl) ?_
  refine va_putF (D := D) (ci := 0) (v := .ref q0) (ty := .object "QuaternionDesk$Rows") (C := RX0) (T := TX0) (N := 1) hx hb hts iwX0 tyX0 tyX0_ok nmX0 hown hK hP hD hS 0 rfl rfl 0 (by decide) (hts _ mw_277) (fun _ h9 => h9) rfl hin rfl (by decide +kernel) rfl rfl (Nat.le_of_ble_eq_true rfl) dX0_init_14 (fun H locs hP hD hS => ?_)
  have hP : va_P D vwCl [(a, .inr (0, [.ref q0])), (q0, .inr (7, [.ref (g0 0), .int 0])), (g0 0, eI T 160)] H := hP
  have hD : va_D A [(a, .inr (0, [.ref q0])), (q0, .inr (7, [.ref (g0 0), .int 0])), (g0 0, eI T 160)] := hD
  have hD0 := hD
  have hP : va_P D vwCl (vX0 T a (fun k => (([q0, g0 0] : List Nat).getD k 0))) _ := hP
  have hD : va_D A (vX0 T a (fun k => (([q0, g0 0] : List Nat).getD k 0))) := cDe hD0 rfl
  exact W.vret hx hb hr (fun t ht hW => ⟨⟨fun k => (([q0, g0 0] : List Nat).getD k 0), rfl, trivial, by rw [ht]; exact hP, hD⟩, hS.F ht⟩) hS.2.2 dX0_init_17
abbrev vX5 (T : Nat → ClassId) (a : Nat) (h : Nat) (d : Nat) (f : Nat → Nat) : va_W := [(a, .inr (5, [.ref (f 0), .ref h, .ref d, .ref (f 2)])), (f 0, .inr (7, [.ref (f 1), .int 0])), (f 1, eI T 64), (f 2, eQ)]
set_option maxHeartbeats 4000000 in
set_option maxRecDepth 100000 in
theorem nX5_init (l : Launch) (D : va_G) (T : Nat → ClassId) (a sz : Nat) (h : Nat) (d : Nat) : Met l yX5_init (.code yX5_init cX5_init 3 none :: lwW) (rmC 2 3 70) (cPc D T sz [(a, .inr (5, [.null, .null, .null, .null]))] [.ref a, .ref h, .ref d]) (cQv D [(a, .inr (5, [.null, .null, .null, .null]))] sz (vX5 T a h d)) 3 70 (va_A [(a, .inr (5, [.null, .null, .null, .null]))] sz) := by
  refine Met.ofW (cc := cX5_init) (maxL := 3) (ret := none) (by decide) rfl ?_
  intro p e s m args below meth c s₁ B hml hv
  unfold cQv
  obtain ⟨rfl, rfl, hP, hX⟩ := hv
  have hx := B.exec
  have hb := B.bytes
  have hr := B.returns
  have hts := fun (w : Cond) (hw : w ∈ lwW) => atoms_spec (ws := (.code yX5_init cX5_init 3 none :: lwW)) B.pre w (List.mem_cons_of_mem _ hw)
  have hown : s.vm.findClass RX5 = some m.cls := findClass_of_methodNamed B.named
  have hlocks := B.notSynchronized
  have hin : meth.name = "<init>" := (name_of_methodNamed B.named B.method).1
  obtain ⟨hK, hN, hO⟩ := id hX
  have hD : va_D (va_A [(a, .inr (5, [.null, .null, .null, .null]))] s.heap.size) [(a, .inr (5, [.null, .null, .null, .null]))] := cD1
  have hA : ∀ q : Nat, s.heap.size ≤ q → va_A [(a, .inr (5, [.null, .null, .null, .null]))] s.heap.size q := fun q h => Or.inr h
  have hS : va_S (va_A [(a, .inr (5, [.null, .null, .null, .null]))] s.heap.size) s.heap s.heap [] := va_S.rf
  generalize va_A [(a, .inr (5, [.null, .null, .null, .null]))] s.heap.size = A at hD hA hS ⊢
  have hl := lv_entry ([.ref a, .ref h, .ref d]) (n := 3) (Nat.le_of_ble_eq_true rfl)
  rw [lg_entry_eq]
  generalize (lg_sl ([.ref a, .ref h, .ref d]) ++ List.replicate (3 - (lg_sl ([.ref a, .ref h, .ref d])).length) Slot.unset).toArray = ls at hl ⊢
  have hl : lv_has ls 3 [(0, .ref a), (1, .ref h), (2, .ref d)] := hl
  refine lv_aload_n hx hb dX5_init_0 rfl (lv_at hl 0 rfl) ?_
  refine W.objInit hx hb hown (hts _ mw_224) (hts _ mw_25) (hts _ mw_26) rfl (by rw [hml]; exact hl.1) rfl dX5_init_1 (Nat.le_of_ble_eq_true rfl) (Nat.le_of_ble_eq_true rfl) ?_
  refine W.eq (g2 := F0 m 4 ls []) rfl ?_
  refine lv_aload_n hx hb dX5_init_4 rfl (lv_at hl 0 rfl) ?_
  refine va_new (ci := 7) (fs := [.null, .int 0]) (C := RX7) (T := TX7) (N := 2) hx hb hts iwX7 tyX7 tyX7_ok hown (hts _ mw_225) (hts _ mw_186) (hts _ mw_10) hK hP hD hS hA rfl nfX7 (Nat.le_of_ble_eq_true rfl) (Nat.le_of_ble_eq_true rfl) dX5_init_5 (fun q0 H hP hD hS => ?_)
  have hP : va_P D vwCl [(a, .inr (5, [.null, .null, .null, .null])), (q0, .inr (7, [.null, .int 0]))] H := hP
  have hD : va_D A [(a, .inr (5, [.null, .null, .null, .null])), (q0, .inr (7, [.null, .int 0]))] := hD
  refine W.widen (k := 1) (n := 2) (Nat.le_of_ble_eq_true rfl) (Nat.le_of_ble_eq_true rfl) ?_
  refine lv_dup hx hb dX5_init_8 rfl ?_
  refine lv_bipush (v := 16) hx hb dX5_init_9 (by decide) ?_
  have hA1 : ∀ q : Nat, H.size ≤ q → A q := fun q h => hA q (Nat.le_trans hS.1 h)
  have hF1 := cF (wc := [(q0, .inr (7, [.null, .int 0]))]) (ws := [(a, .inr (5, [.null, .null, .null, .null]))]) hD hA1
  have hPc := hP.sub (ws' := [(q0, .inr (7, [.null, .int 0]))]) [1] rfl
  refine va_callv (va_runI (As := [.int 16]) (rest := [.ref q0, .ref a]) ⟨hx, hb, hml, hown, hts⟩ (nX7_init l D T q0 (H.size) 16 64 (by decide) (by decide) (by decide)) (cwI 1 hts (lwW_gc mw_189) rfl rfl rfl (hts _ mw_10) (hts _ mw_226) (hts _ mw_188) rfl (by decide +kernel) ⟨Nat.le_of_ble_eq_true rfl, Nat.le_of_ble_eq_true rfl⟩) ⟨fun a U g mk q => ⟨q.1, q.2.1, q.2.2.1, q.2.2.2.call⟩, fun U hU hW => ⟨rfl, by rw [hU], by rw [hU]; exact hPc, hX.warm hW⟩⟩ rfl rfl hl.1 rfl (lv_room (Nat.le_of_ble_eq_true rfl)) dX5_init_11 ⟨Nat.le_of_ble_eq_true rfl, Nat.le_of_ble_eq_true rfl⟩) hS (fun q _ h => hF1 q h) hF1 (fun g0 t H locs ht hvm hw hB hz1 hk1 hS => ?_)
  obtain ⟨hP1, hD1⟩ := hB
  rw [ht] at hP1
  obtain ⟨hP, hD⟩ := cjn (wc := [(q0, .inr (7, [.null, .int 0]))]) (ws := [(a, .inr (5, [.null, .null, .null, .null]))]) hP hD hA1 hk1 hP1 hD1
  have hP : va_P D vwCl [(a, .inr (5, [.null, .null, .null, .null])), (q0, .inr (7, [.ref (g0 0), .int 0])), (g0 0, eI T 64)] H := hP
  have hD : va_D A [(a, .inr (5, [.null, .null, .null, .null])), (q0, .inr (7, [.ref (g0 0), .int 0])), (g0 0, eI T 64)] := hD
  refine W.widen (k := 2) (n := 66) (Nat.le_of_ble_eq_true rfl) (Nat.le_of_ble_eq_true rfl) ?_
  refine va_putF (D := D) (ci := 5) (v := .ref q0) (ty := .object "QuaternionDesk$Rows") (C := RX5) (T := TX5) (N := 4) hx hb hts iwX5 tyX5 tyX5_ok nmX5 hown hK hP hD hS 0 rfl rfl 0 (by decide) (hts _ mw_229) (fun _ h9 => h9) rfl hin rfl (by decide +kernel) rfl rfl (Nat.le_of_ble_eq_true rfl) dX5_init_14 (fun H locs hP hD hS => ?_)
  have hP : va_P D vwCl [(a, .inr (5, [.ref q0, .null, .null, .null])), (q0, .inr (7, [.ref (g0 0), .int 0])), (g0 0, eI T 64)] H := hP
  have hD : va_D A [(a, .inr (5, [.ref q0, .null, .null, .null])), (q0, .inr (7, [.ref (g0 0), .int 0])), (g0 0, eI T 64)] := hD
  refine lv_aload_n hx hb dX5_init_17 rfl (lv_at hl 0 rfl) ?_
  refine va_new (ci := 6) (fs := [.int 0, .int 0, .int 0, .int 0]) (C := RX6) (T := TX6) (N := 4) hx hb hts iwX6 tyX6 tyX6_ok hown (hts _ mw_227) (hts _ mw_35) (hts _ mw_3) hK hP hD hS hA rfl nfX6 (Nat.le_of_ble_eq_true rfl) (Nat.le_of_ble_eq_true rfl) dX5_init_18 (fun q1 H hP hD hS => ?_)
  have hP : va_P D vwCl [(a, .inr (5, [.ref q0, .null, .null, .null])), (q0, .inr (7, [.ref (g0 0), .int 0])), (g0 0, eI T 64), (q1, eQ)] H := hP
  have hD : va_D A [(a, .inr (5, [.ref q0, .null, .null, .null])), (q0, .inr (7, [.ref (g0 0), .int 0])), (g0 0, eI T 64), (q1, eQ)] := hD
  refine W.widen (k := 3) (n := 70) (Nat.le_of_ble_eq_true rfl) (Nat.le_of_ble_eq_true rfl) ?_
  refine lv_dup hx hb dX5_init_21 rfl ?_
  have hA1 : ∀ q : Nat, H.size ≤ q → A q := fun q h => hA q (Nat.le_trans hS.1 h)
  have hF1 := cF (wc := [(q1, eQ)]) (ws := [(a, .inr (5, [.ref q0, .null, .null, .null])), (q0, .inr (7, [.ref (g0 0), .int 0])), (g0 0, eI T 64)]) hD hA1
  have hPc := hP.sub (ws' := [(q1, eQ)]) [3] rfl
  refine va_callv (va_runIN (As := []) (rest := [.ref q1, .ref a]) ⟨hx, hb, hml, hown, hts⟩ (nX6_init l D T q1 (H.size)) ⟨va_cnB 0 hts (lwW_gc mw_38) rfl rfl rfl (hN.M 10 rfl) (hts _ mw_3) (by decide +kernel) ⟨Nat.le_of_ble_eq_true rfl, Nat.le_of_ble_eq_true rfl⟩, rfl, hts _ mw_37⟩ ⟨fun a U g mk q => ⟨q.1, q.2.1, q.2.2.1, q.2.2.2.call⟩, fun U hU hW => ⟨rfl, by rw [hU], by rw [hU]; exact hPc, hX.warm hW⟩⟩ rfl rfl hl.1 rfl (lv_room (Nat.le_of_ble_eq_true rfl)) dX5_init_22 ⟨Nat.le_of_ble_eq_true rfl, Nat.le_of_ble_eq_true rfl⟩) hS (fun q _ h => hF1 q h) hF1 (fun g1 t H locs ht hvm hw hB hz1 hk1 hS => ?_)
  obtain ⟨hP1, hD1⟩ := hB
  rw [ht] at hP1
  obtain ⟨hP, hD⟩ := cjn (wc := [(q1, eQ)]) (ws := [(a, .inr (5, [.ref q0, .null, .null, .null])), (q0, .inr (7, [.ref (g0 0), .int 0])), (g0 0, eI T 64)]) hP hD hA1 hk1 hP1 hD1
  have hP : va_P D vwCl [(a, .inr (5, [.ref q0, .null, .null, .null])), (q0, .inr (7, [.ref (g0 0), .int 0])), (g0 0, eI T 64), (q1, eQ)] H := hP
  have hD : va_D A [(a, .inr (5, [.ref q0, .null, .null, .null])), (q0, .inr (7, [.ref (g0 0), .int 0])), (g0 0, eI T 64), (q1, eQ)] := hD
  refine W.widen (k := 3) (n := 70) (Nat.le_of_ble_eq_true rfl) (Nat.le_of_ble_eq_true rfl) ?_
  refine va_putF (D := D) (ci := 5) (v := .ref q1) (ty := .object "QuaternionDesk$Quat") (C := RX5) (T := TX5) (N := 4) hx hb hts iwX5 tyX5 tyX5_ok nmX5 hown hK hP hD hS 0 rfl rfl 3 (by decide) (hts _ mw_234) (fun _ h9 => h9) rfl hin rfl (by decide +kernel) rfl rfl (Nat.le_of_ble_eq_true rfl) dX5_init_25 (fun H locs hP hD hS => ?_)
  have hP : va_P D vwCl [(a, .inr (5, [.ref q0, .null, .null, .ref q1])), (q0, .inr (7, [.ref (g0 0), .int 0])), (g0 0, eI T 64), (q1, eQ)] H := hP
  have hD : va_D A [(a, .inr (5, [.ref q0, .null, .null, .ref q1])), (q0, .inr (7, [.ref (g0 0), .int 0])), (g0 0, eI T 64), (q1, eQ)] := hD
  refine lv_aload_n hx hb dX5_init_28 rfl (lv_at hl 0 rfl) ?_
  refine lv_aload_n hx hb dX5_init_29 rfl (lv_at hl 1 rfl) ?_
  refine va_putF (D := D) (ci := 5) (v := .ref h) (ty := .object "QuaternionDesk$Heads") (C := RX5) (T := TX5) (N := 4) hx hb hts iwX5 tyX5 tyX5_ok nmX5 hown hK hP hD hS 0 rfl rfl 1 (by decide) (hts _ mw_232) (fun _ h9 => h9) rfl hin rfl (by decide +kernel) rfl rfl (Nat.le_of_ble_eq_true rfl) dX5_init_30 (fun H locs hP hD hS => ?_)
  have hP : va_P D vwCl [(a, .inr (5, [.ref q0, .ref h, .null, .ref q1])), (q0, .inr (7, [.ref (g0 0), .int 0])), (g0 0, eI T 64), (q1, eQ)] H := hP
  have hD : va_D A [(a, .inr (5, [.ref q0, .ref h, .null, .ref q1])), (q0, .inr (7, [.ref (g0 0), .int 0])), (g0 0, eI T 64), (q1, eQ)] := hD
  refine lv_aload_n hx hb dX5_init_33 rfl (lv_at hl 0 rfl) ?_
  refine lv_aload_n hx hb dX5_init_34 rfl (lv_at hl 2 rfl) ?_
  refine va_putF (D := D) (ci := 5) (v := .ref d) (ty := .object "QuaternionDesk$Division") (C := RX5) (T := TX5) (N := 4) hx hb hts iwX5 tyX5 tyX5_ok nmX5 hown hK hP hD hS 0 rfl rfl 2 (by decide) (hts _ mw_233) (fun _ h9 => h9) rfl hin rfl (by decide +kernel) rfl rfl (Nat.le_of_ble_eq_true rfl) dX5_init_35 (fun H locs hP hD hS => ?_)
  have hP : va_P D vwCl [(a, .inr (5, [.ref q0, .ref h, .ref d, .ref q1])), (q0, .inr (7, [.ref (g0 0), .int 0])), (g0 0, eI T 64), (q1, eQ)] H := hP
  have hD : va_D A [(a, .inr (5, [.ref q0, .ref h, .ref d, .ref q1])), (q0, .inr (7, [.ref (g0 0), .int 0])), (g0 0, eI T 64), (q1, eQ)] := hD
  have hD0 := hD
  have hP : va_P D vwCl (vX5 T a h d (fun k => (([q0, g0 0, q1] : List Nat).getD k 0))) _ := hP
  have hD : va_D A (vX5 T a h d (fun k => (([q0, g0 0, q1] : List Nat).getD k 0))) := cDe hD0 rfl
  exact W.vret hx hb hr (fun t ht hW => ⟨⟨fun k => (([q0, g0 0, q1] : List Nat).getD k 0), rfl, trivial, by rw [ht]; exact hP, hD⟩, hS.F ht⟩) hS.2.2 dX5_init_38
