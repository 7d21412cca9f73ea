theorem mw_19 : Cond.classLink RL 7 RX11 ∈ lwW := lwW_at 19 (by decide +kernel) rfl
theorem mw_20 : Cond.instantiable RX11 13 ∈ lwW := lwW_at 20 (by decide +kernel) rfl
theorem mw_21 : Cond.methodLink RL 9 yX11_init ∈ lwW := lwW_at 21 (by decide +kernel) rfl
theorem mw_22 : Cond.instanceMethod yX11_init ∈ lwW := lwW_at 22 (by decide +kernel) rfl
theorem mw_23 : Cond.code yX11_init cX11_init 2 none ∈ lwW := lwW_at 23 (by decide +kernel) rfl
theorem mw_911 : Cond.classLink RL 10 RX12 ∈ lwW := lwW_at 911 (by decide +kernel) rfl
theorem mw_912 : Cond.instantiable RX12 34 ∈ lwW := lwW_at 912 (by decide +kernel) rfl
theorem mw_913 : Cond.methodLink RL 12 yX12_init ∈ lwW := lwW_at 913 (by decide +kernel) rfl
theorem mw_914 : Cond.instanceMethod yX12_init ∈ lwW := lwW_at 914 (by decide +kernel) rfl
theorem mw_915 : Cond.code yX12_init cX12_init 2 none ∈ lwW := lwW_at 915 (by decide +kernel) rfl
theorem cS0_o {k : Nat} (h : ¬ k = 85) (j : Nat) : cS0 k j = 0 := by unfold cS0; rw [if_neg h]
theorem cS0_85 {j : Nat} (h : j < 601) : cS0 85 j = nI (zSq j) := by unfold cS0; rw [if_pos rfl]; exact if_pos h
theorem RR_new {μ : QMem} (h : iE 3 μ) : RR cS0 μ := by
  obtain ⟨h1, h2, h3, h4, h5⟩ := h
  refine RR_start (fun s hs j _ => cS0_o (by omega) j) (fun j _ => h3 13 j (by decide) (by decide) (by decide)) (cS0_o (by decide) _) (cS0_o (by decide) _) (h4 15 (by decide)) (fun k hk => ⟨cS0_o (by omega) _, h3 15 k (by decide) (by decide) (by decide)⟩) (cS0_o (by decide) _) (h4 26 (by decide)) (fun t ht => ⟨cS0_o (by omega) _, cS0_o (by omega) _, h5 t ht⟩) (fun t ht i _ => ⟨cS0_o (by omega) _, h3 27 _ (by decide) (by decide) (by decide)⟩) (cS0_o (by decide) _) (h4 33 (by decide)) h2 h1 (fun j hj => cS0_85 hj)
/-- two worlds behind one another -/
theorem ap_l {D : va_G} {w1 w2 : va_W} {H : Heap} (h : va_P D vwCl (w1 ++ w2) H) : va_P D vwCl w1 H := fun k q hk => h k q (by rw [List.getElem?_append_left (List.getElem?_eq_some_iff.mp hk).1]; exact hk)
theorem ap_r {D : va_G} {w1 w2 : va_W} {H : Heap} (h : va_P D vwCl (w1 ++ w2) H) : va_P D vwCl w2 H := fun k q hk => h (w1.length + k) q (by rw [List.getElem?_append_right (by omega), Nat.add_sub_cancel_left]; exact hk)
theorem ap_ne {A : Nat → Prop} {G G2 : xG} {σ μ : QMem} (h : va_D A (xW G σ ++ mW G2 μ)) : (∀ j, j < 29 → A (G2.1 j)) ∧ ∀ i j, i < 115 → j < 29 → ¬ G.1 i = G2.1 j := by
  have hr : ∀ j, j < 29 → (xW G σ ++ mW G2 μ)[115 + j]? = some (G2.1 j, mE G2 j (μ j)) := fun j hj => by
    have hl : (xW G σ).length = 115 := wW_len
    rw [List.getElem?_append_right (by omega), hl, Nat.add_sub_cancel_left]
    exact wW_get hj
  refine ⟨fun j hj => h.2 _ _ (hr j hj), fun i j hi hj e => ?_⟩
  have hl : (xW G σ ++ mW G2 μ)[i]? = some (G.1 i, xE G i (σ i)) := by
    have hl : (xW G σ).length = 115 := wW_len
    rw [List.getElem?_append_left (by omega)]
    exact wW_get hi
  have := h.1 _ _ _ _ hl (hr j hj) e
  omega
set_option maxHeartbeats 4000000 in
set_option maxRecDepth 100000 in
theorem whole_start {p : Program} {e : Env} {s : State} {m : MethodId} {below : List Frame} {meth : Method} {c : Code} (l : Launch) (hflags : l.flags = flags0) {b L : Nat} {xs : Nat → Int32} (hL : L ≤ 3072) (C0 : lw_At p s m meth c b L xs) : W p l e room_1 s m #[Value.ref b] below meth c s.heap [] 0 0 (lw_Z below #[Value.ref b] s) (entryFrame m ([Value.ref b] : List Value).toArray 4) := by
  obtain ⟨hx, hb, hr, hml, hown, hts1, hX, hbl, hlocks, hgv⟩ := id C0
  have hts : ∀ w ∈ lwW, w.before #[Value.ref b] s = true := fun w hw => hts1 w (lwW_ok hw)
  have hown : s.vm.findClass RL = some m.cls := hown
  have hA : ∀ q : Nat, s.heap.size ≤ q → (fun q : Nat => s.heap.size ≤ q) q := fun _ h => h
  obtain ⟨D, T1, T2, hK1, hK2⟩ := st_K hts1
  obtain ⟨ub, hub⟩ := st_xS hts1 hgv
  have hcX : cX D T1 s := ⟨hK1 _, st_N hts1, st_O hts1⟩
  have hS : va_S (fun q : Nat => s.heap.size ≤ q) s.heap s.heap [] := va_S.rf
  have hP : va_P D vwCl [] s.heap := fun k q h => by simp at h
  have hD : va_D (fun q : Nat => s.heap.size ≤ q) [] := ⟨fun i j p q h => by simp at h, fun k q h => by simp at h⟩
  have hl := lv_entry ([.ref b]) (n := 4) (Nat.le_of_ble_eq_true rfl)
  rw [lg_entry_eq]
  generalize (lg_sl ([.ref b]) ++ List.replicate (4 - (lg_sl ([.ref b])).length) Slot.unset).toArray = ls at hl ⊢
  have hl : lv_has ls 4 [(0, .ref b)] := hl
  refine va_new (ci := 11) (fs := [.null, .null, .null, .null, .null, .null, .null, .null, .null, .null, .null, .null, .int 0]) (C := RX11) (T := TX11) (N := 13) hx hb hts iwX11 tyX11 tyX11_ok hown (hts _ mw_19) (hts _ mw_20) (hts _ mw_1) (hK1 (fun _ => 0)) hP hD hS hA rfl nfX11 (Nat.le_of_ble_eq_true rfl) (Nat.le_of_ble_eq_true rfl) dL_law_0 (fun q0 H hP hD hS => ?_)
  have hP : va_P D vwCl [(q0, .inr (11, [.null, .null, .null, .null, .null, .null, .null, .null, .null, .null, .null, .null, .int 0]))] H := hP
  have hD : va_D (fun q : Nat => s.heap.size ≤ q) [(q0, .inr (11, [.null, .null, .null, .null, .null, .null, .null, .null, .null, .null, .null, .null, .int 0]))] := hD
  refine W.widen (k := 1) (n := 13) (Nat.le_of_ble_eq_true rfl) (Nat.le_of_ble_eq_true rfl) ?_
  refine lv_dup hx hb dL_law_3 rfl ?_
  have hA1 : ∀ q : Nat, H.size ≤ q → (fun q : Nat => s.heap.size ≤ q) q := fun q h => hA q (Nat.le_trans hS.1 h)
  have hF1 := cF (wc := [(q0, .inr (11, [.null, .null, .null, .null, .null, .null, .null, .null, .null, .null, .null, .null, .int 0]))]) (ws := []) hD hA1
  refine va_callv (va_runI (As := []) (rest := [.ref q0]) ⟨hx, hb, hml, hown, hts⟩ (nX11_init l D T1 q0 (H.size)) (cwI 0 hts (lwW_gc mw_23) rfl rfl rfl (hts _ mw_1) (hts _ mw_21) (hts _ mw_22) rfl (by decide +kernel) ⟨Nat.le_of_ble_eq_true rfl, Nat.le_of_ble_eq_true rfl⟩) ⟨fun a U g mk q => ⟨q.1, q.2.1, q.2.2.1, q.2.2.2.call⟩, fun U hU hW => ⟨rfl, by rw [hU], by rw [hU]; exact hP, hcX.warm hW⟩⟩ rfl rfl hl.1 rfl (lv_room (Nat.le_of_ble_eq_true rfl)) dL_law_4 ⟨Nat.le_of_ble_eq_true rfl, Nat.le_of_ble_eq_true rfl⟩) hS (fun q _ h => hF1 q h) hF1 (fun f t H locs ht hvm hw hB hz1 hk1 hS => ?_)
  obtain ⟨hP1, hD1, h105⟩ := hB
  rw [ht] at hP1
  obtain ⟨hP, hD⟩ := cjn (wc := [(q0, .inr (11, [.null, .null, .null, .null, .null, .null, .null, .null, .null, .null, .null, .null, .int 0]))]) (ws := []) hP hD hA1 hk1 hP1 hD1
  have hP : va_P D vwCl (vX11 T1 f) H := hP
  have hD : va_D (fun q : Nat => s.heap.size ≤ q) (vX11 T1 f) := hD
  obtain ⟨hi, hU⟩ := xW_inj hD
  have hP := xW_mk hP
  have hD : va_D (fun q : Nat => s.heap.size ≤ q) (xW (f, T1) cS0) := ⟨(xD hi).1, fun k q h => by obtain ⟨hk, e⟩ := wW_inv h; rw [e]; exact hU k hk⟩
  refine W.widen (k := 115) (n := 4000) (Nat.le_of_ble_eq_true rfl) (Nat.le_of_ble_eq_true rfl) ?_
  refine lv_astore_n (lv' := [(1, .ref q0), (0, .ref b)]) hx hb dL_law_7 rfl hl (by decide) rfl (fun ls hl => ?_)
  refine va_new (ci := 12) (fs := [.null, .null, .null, .null, .null, .null, .int 0, .null, .null, .null, .null, .null, .null, .null, .null, .int 0, .null, .null, .null, .null, .null, .null, .null, .null, .null, .null, .int 0, .int 0, .int 0, .null, .null, .null, .null, .int 0]) (C := RX12) (T := TX12) (N := 34) hx hb hts iwX12 tyX12 tyX12_ok hown (hts _ mw_911) (hts _ mw_912) (hts _ mw_14) (hK2 (fun _ => 0)) hP hD hS hA rfl nfX12 (Nat.le_of_ble_eq_true rfl) (Nat.le_of_ble_eq_true rfl) dL_law_8 (fun q1 H hP hD hS => ?_)
  refine W.widen (k := 116) (n := 5000) (Nat.le_of_ble_eq_true rfl) (Nat.le_of_ble_eq_true rfl) ?_
  refine lv_dup hx hb dL_law_11 rfl ?_
  have hA1 : ∀ q : Nat, H.size ≤ q → (fun q : Nat => s.heap.size ≤ q) q := fun q h => hA q (Nat.le_trans hS.1 h)
  have hF1 := cF (wc := [(q1, .inr (12, [.null, .null, .null, .null, .null, .null, .int 0, .null, .null, .null, .null, .null, .null, .null, .null, .int 0, .null, .null, .null, .null, .null, .null, .null, .null, .null, .null, .int 0, .int 0, .int 0, .null, .null, .null, .null, .int 0]))]) (ws := xW (f, T1) cS0) hD hA1
  have hPc : va_P D vwCl [(q1, .inr (12, [.null, .null, .null, .null, .null, .null, .int 0, .null, .null, .null, .null, .null, .null, .null, .null, .int 0, .null, .null, .null, .null, .null, .null, .null, .null, .null, .null, .int 0, .int 0, .int 0, .null, .null, .null, .null, .int 0]))] H := ap_r hP
  refine va_callv (va_runI (As := []) (rest := [.ref q1]) ⟨hx, hb, hml, hown, hts⟩ (nX12_init l D T2 q1 (H.size)) (cwI 0 hts (lwW_gc mw_915) rfl rfl rfl (hts _ mw_14) (hts _ mw_913) (hts _ mw_914) rfl (by decide +kernel) ⟨Nat.le_of_ble_eq_true rfl, Nat.le_of_ble_eq_true rfl⟩) ⟨fun a U g mk q => ⟨q.1, q.2.1, q.2.2.1, va_K.moved (Vm.Alike.refl U.vm) q.2.2.2⟩, fun U hU hW => ⟨rfl, by rw [hU], by rw [hU]; exact hPc, va_K.moved hW.alike (hK2 (fun _ => 0))⟩⟩ rfl rfl hl.1 rfl (lv_room (Nat.le_of_ble_eq_true rfl)) dL_law_12 ⟨Nat.le_of_ble_eq_true rfl, Nat.le_of_ble_eq_true rfl⟩) hS (fun q _ h => hF1 q h) hF1 (fun v t H locs ht hvm hw hB hz1 hk1 hS => ?_)
  obtain ⟨f2, μ⟩ := v
  obtain ⟨hP1, hi2, hU2, h28⟩ := hB
  rw [ht] at hP1
  obtain ⟨hP, hD⟩ := cjn (wc := [(q1, .inr (12, [.null, .null, .null, .null, .null, .null, .int 0, .null, .null, .null, .null, .null, .null, .null, .null, .int 0, .null, .null, .null, .null, .null, .null, .null, .null, .null, .null, .int 0, .int 0, .int 0, .null, .null, .null, .null, .int 0]))]) (ws := xW (f, T1) cS0) (w1 := mW (f2, T2) μ) hP hD hA1 hk1 hP1 ⟨(mD hi2).1, fun k q h => by obtain ⟨hk, e⟩ := wW_inv h; rw [e]; exact hU2 k hk⟩
  obtain ⟨hB2, hne⟩ := ap_ne hD
  have F : lwF D (f, T1) (f2, T2) ub s := ⟨hK1 f, hK2 f2, hi, hi2, hub (f, T1) hU, hU, hB2, hne⟩
  refine lv_astore_n (lv' := [(2, .ref q1), (1, .ref q0), (0, .ref b)]) hx hb dL_law_15 rfl hl (by decide) rfl (fun ls hl => ?_)
  refine lv_iconst (v := nI 0) hx hb dL_law_16 (by decide) ?_
  refine lv_istore_n (lv' := [(3, .int (nI 0)), (2, .ref q1), (1, .ref q0), (0, .ref b)]) hx hb dL_law_17 rfl hl (by decide) rfl (fun ls hl => ?_)
  refine W.widen (k := 600000) (n := 7302250) (Nat.le_of_ble_eq_true rfl) (Nat.le_of_ble_eq_true rfl) ?_
  have hl : lv_has ls 4 [(0, .ref b), (1, .ref ((f, T1).1 105)), (2, .ref ((f2, T2).1 28)), (3, .int (nI 0))] := by
    show lv_has ls 4 [(0, .ref b), (1, .ref (f 105)), (2, .ref (f2 28)), (3, .int (nI 0))]
    rw [h105, show f2 28 = q1 from h28]
    exact lv_sub hl [3, 2, 1, 0] rfl
  exact law_loop C0 F hL agree_RR (L / 6 + 2) 0 (by omega) (Nat.zero_le _) cS0 μ H locs ls (RR_new hw) (ap_l hP) (ap_r hP) hS hl
