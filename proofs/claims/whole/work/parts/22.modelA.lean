def fX12_in (p0 : Int32) (p1 : Int32) (p2 : Int32) : Option (Int32) :=
  if p0 < p1 then (some 0) else (if p2 < p0 then (some 0) else (some 1))
set_option maxHeartbeats 4000000 in
set_option maxRecDepth 100000 in
theorem kX12_in (l : Launch) (p0 : Int32) (p1 : Int32) (p2 : Int32) (res : Int32) (h : fX12_in p0 p1 p2 = some res) : Met l yX12_in (.code yX12_in cX12_in 3 (some .boolean) :: lwW) (rmD 0) (nPc [.int p0, .int p1, .int p2]) (nQi res) 0 0 (fun _ => False) := by
  refine Met.ofW (cc := cX12_in) (maxL := 3) (ret := (some .boolean)) (by decide) rfl ?_
  intro p e s m args below meth c s₁ B hml hv
  obtain ⟨rfl, h0⟩ := hv
  have hx := B.exec
  have hb := B.bytes
  have hr := B.returns
  have hts := fun (w : Cond) (hw : w ∈ lwW) => atoms_spec (ws := (.code yX12_in cX12_in 3 (some .boolean) :: lwW)) B.pre w (List.mem_cons_of_mem _ hw)
  have hown : s.vm.findClass RX12 = some m.cls := findClass_of_methodNamed B.named
  have hlocks := B.notSynchronized
  have hS : va_S (fun _ => False) s.heap s.heap [] := va_S.rf
  have hl := lv_entry ([.int p0, .int p1, .int p2]) (n := 3) (Nat.le_of_ble_eq_true rfl)
  rw [lg_entry_eq]
  generalize (lg_sl ([.int p0, .int p1, .int p2]) ++ List.replicate (3 - (lg_sl ([.int p0, .int p1, .int p2])).length) Slot.unset).toArray = ls at hl ⊢
  have hl : lv_has ls 3 [(0, .int p0), (1, .int p1), (2, .int p2)] := hl
  unfold fX12_in at h
  refine lv_iload_n hx hb dX12_in_0 rfl (lv_at hl 0 rfl) ?_
  refine lv_iload_n hx hb dX12_in_1 rfl (lv_at hl 1 rfl) ?_
  refine lv_icmp_lt (tgt := 14) hx hb dX12_in_2 (by decide) (fun hcq1 => ?_) (fun hcq1 => ?_)
  · have h := ifp hcq1 h
    refine lv_iconst (v := 0) hx hb dX12_in_14 (by decide) ?_
    obtain rfl := Option.some.inj h
    exact W.zret hx hb hr rfl (fun t ht hW => ⟨⟨_, (), rfl, rfl, trivial⟩, hS.F ht⟩) hS.2.2 dX12_in_15
  have h := ifn hcq1 h
  refine lv_iload_n hx hb dX12_in_5 rfl (lv_at hl 0 rfl) ?_
  refine lv_iload_n hx hb dX12_in_6 rfl (lv_at hl 2 rfl) ?_
  refine lv_icmp_gt (tgt := 14) hx hb dX12_in_7 (by decide) (fun hcq2 => ?_) (fun hcq2 => ?_)
  · have h := ifp hcq2 h
    refine lv_iconst (v := 0) hx hb dX12_in_14 (by decide) ?_
    obtain rfl := Option.some.inj h
    exact W.zret hx hb hr rfl (fun t ht hW => ⟨⟨_, (), rfl, rfl, trivial⟩, hS.F ht⟩) hS.2.2 dX12_in_15
  have h := ifn hcq2 h
  refine lv_iconst (v := 1) hx hb dX12_in_10 (by decide) ?_
  refine lv_goto (tgt := 15) hx hb dX12_in_11 (by decide) ?_
  obtain rfl := Option.some.inj h
  exact W.zret hx hb hr rfl (fun t ht hW => ⟨⟨_, (), rfl, rfl, trivial⟩, hS.F ht⟩) hS.2.2 dX12_in_15
def fX12_normOf (k0 : Nat) (p1 : Int32) (σ : QMem) : Option (Int32 × QMem) :=
  if (p1 < 0 ∨ ml k0 ≤ p1.toNatClampNeg) then none else (if (p1 < 0 ∨ ml k0 ≤ p1.toNatClampNeg) then none else (if (p1 + 1 < 0 ∨ ml k0 ≤ (p1 + 1).toNatClampNeg) then none else (if (p1 + 1 < 0 ∨ ml k0 ≤ (p1 + 1).toNatClampNeg) then none else (if (p1 + 2 < 0 ∨ ml k0 ≤ (p1 + 2).toNatClampNeg) then none else (if (p1 + 2 < 0 ∨ ml k0 ≤ (p1 + 2).toNatClampNeg) then none else (if (p1 + 3 < 0 ∨ ml k0 ≤ (p1 + 3).toNatClampNeg) then none else (if (p1 + 3 < 0 ∨ ml k0 ≤ (p1 + 3).toNatClampNeg) then none else (some ((((((σ k0 p1.toNatClampNeg) * (σ k0 p1.toNatClampNeg)) + ((σ k0 (p1 + 1).toNatClampNeg) * (σ k0 (p1 + 1).toNatClampNeg))) + ((σ k0 (p1 + 2).toNatClampNeg) * (σ k0 (p1 + 2).toNatClampNeg))) + ((σ k0 (p1 + 3).toNatClampNeg) * (σ k0 (p1 + 3).toNatClampNeg))) / 4, σ)))))))))
set_option maxHeartbeats 4000000 in
set_option maxRecDepth 100000 in
theorem kX12_normOf (l : Launch) (D : va_G) (G : xG) (σ : QMem) (k0 : Nat) (hk0 : mk k0 = 0) (p1 : Int32) (res : Int32 × QMem) (h : fX12_normOf k0 p1 σ = some res) : Met l yX12_normOf (.code yX12_normOf cX12_normOf 2 (some .int) :: lwW) (rmD 0) (mPc D G σ [.ref (G.1 k0), .int p1]) (mQi D G res) 0 0 (mA G) := by
  refine Met.ofW (cc := cX12_normOf) (maxL := 2) (ret := (some .int)) (by decide) rfl ?_
  intro p e s m args below meth c s₁ B hml hv
  obtain ⟨rfl, h0⟩ := hv
  have hx := B.exec
  have hb := B.bytes
  have hr := B.returns
  have hts := fun (w : Cond) (hw : w ∈ lwW) => atoms_spec (ws := (.code yX12_normOf cX12_normOf 2 (some .int) :: lwW)) B.pre w (List.mem_cons_of_mem _ hw)
  have hown : s.vm.findClass RX12 = some m.cls := findClass_of_methodNamed B.named
  have hlocks := B.notSynchronized
  have hP := h0.1
  have hK := h0.2.1
  have hi := h0.2.2
  have hS : va_S (mA G) s.heap s.heap [] := va_S.rf
  have hl := lv_entry ([.ref (G.1 k0), .int p1]) (n := 2) (Nat.le_of_ble_eq_true rfl)
  rw [lg_entry_eq]
  generalize (lg_sl ([.ref (G.1 k0), .int p1]) ++ List.replicate (2 - (lg_sl ([.ref (G.1 k0), .int p1])).length) Slot.unset).toArray = ls at hl ⊢
  have hl : lv_has ls 2 [(0, .ref (G.1 k0)), (1, .int p1)] := hl
  unfold fX12_normOf at h
  refine lv_aload_n hx hb dX12_normOf_0 rfl (lv_at hl 0 rfl) ?_
  refine lv_iload_n hx hb dX12_normOf_1 rfl (lv_at hl 1 rfl) ?_
  obtain ⟨hiq1, h⟩ := nif h
  refine va_iald hx hb hK hP k0 0 (mg_0 hk0) rfl hiq1 dX12_normOf_2 ?_
  refine lv_aload_n hx hb dX12_normOf_3 rfl (lv_at hl 0 rfl) ?_
  refine lv_iload_n hx hb dX12_normOf_4 rfl (lv_at hl 1 rfl) ?_
  obtain ⟨hiq2, h⟩ := nif h
  refine va_iald hx hb hK hP k0 0 (mg_0 hk0) rfl hiq2 dX12_normOf_5 ?_
  refine lv_imul hx hb dX12_normOf_6 ?_
  refine lv_aload_n hx hb dX12_normOf_7 rfl (lv_at hl 0 rfl) ?_
  refine lv_iload_n hx hb dX12_normOf_8 rfl (lv_at hl 1 rfl) ?_
  refine lv_iconst (v := 1) hx hb dX12_normOf_9 (by decide) ?_
  refine lv_iadd hx hb dX12_normOf_10 ?_
  obtain ⟨hiq3, h⟩ := nif h
  refine va_iald hx hb hK hP k0 0 (mg_0 hk0) rfl hiq3 dX12_normOf_11 ?_
  refine lv_aload_n hx hb dX12_normOf_12 rfl (lv_at hl 0 rfl) ?_
  refine lv_iload_n hx hb dX12_normOf_13 rfl (lv_at hl 1 rfl) ?_
  refine lv_iconst (v := 1) hx hb dX12_normOf_14 (by decide) ?_
  refine lv_iadd hx hb dX12_normOf_15 ?_
  obtain ⟨hiq4, h⟩ := nif h
  refine va_iald hx hb hK hP k0 0 (mg_0 hk0) rfl hiq4 dX12_normOf_16 ?_
  refine lv_imul hx hb dX12_normOf_17 ?_
  refine lv_iadd hx hb dX12_normOf_18 ?_
  refine lv_aload_n hx hb dX12_normOf_19 rfl (lv_at hl 0 rfl) ?_
  refine lv_iload_n hx hb dX12_normOf_20 rfl (lv_at hl 1 rfl) ?_
  refine lv_iconst (v := 2) hx hb dX12_normOf_21 (by decide) ?_
  refine lv_iadd hx hb dX12_normOf_22 ?_
  obtain ⟨hiq5, h⟩ := nif h
  refine va_iald hx hb hK hP k0 0 (mg_0 hk0) rfl hiq5 dX12_normOf_23 ?_
  refine lv_aload_n hx hb dX12_normOf_24 rfl (lv_at hl 0 rfl) ?_
  refine lv_iload_n hx hb dX12_normOf_25 rfl (lv_at hl 1 rfl) ?_
  refine lv_iconst (v := 2) hx hb dX12_normOf_26 (by decide) ?_
  refine lv_iadd hx hb dX12_normOf_27 ?_
  obtain ⟨hiq6, h⟩ := nif h
  refine va_iald hx hb hK hP k0 0 (mg_0 hk0) rfl hiq6 dX12_normOf_28 ?_
  refine lv_imul hx hb dX12_normOf_29 ?_
  refine lv_iadd hx hb dX12_normOf_30 ?_
  refine lv_aload_n hx hb dX12_normOf_31 rfl (lv_at hl 0 rfl) ?_
  refine lv_iload_n hx hb dX12_normOf_32 rfl (lv_at hl 1 rfl) ?_
  refine lv_iconst (v := 3) hx hb dX12_normOf_33 (by decide) ?_
  refine lv_iadd hx hb dX12_normOf_34 ?_
  obtain ⟨hiq7, h⟩ := nif h
  refine va_iald hx hb hK hP k0 0 (mg_0 hk0) rfl hiq7 dX12_normOf_35 ?_
  refine lv_aload_n hx hb dX12_normOf_36 rfl (lv_at hl 0 rfl) ?_
  refine lv_iload_n hx hb dX12_normOf_37 rfl (lv_at hl 1 rfl) ?_
  refine lv_iconst (v := 3) hx hb dX12_normOf_38 (by decide) ?_
  refine lv_iadd hx hb dX12_normOf_39 ?_
  obtain ⟨hiq8, h⟩ := nif h
  refine va_iald hx hb hK hP k0 0 (mg_0 hk0) rfl hiq8 dX12_normOf_40 ?_
  refine lv_imul hx hb dX12_normOf_41 ?_
  refine lv_iadd hx hb dX12_normOf_42 ?_
  refine lv_iconst (v := 4) hx hb dX12_normOf_43 (by decide) ?_
  refine lv_idiv hx hb dX12_normOf_44 (by decide) ?_
  obtain rfl := Option.some.inj h
  exact W.iret (v := (((((σ k0 p1.toNatClampNeg) * (σ k0 p1.toNatClampNeg)) + ((σ k0 (p1 + 1).toNatClampNeg) * (σ k0 (p1 + 1).toNatClampNeg))) + ((σ k0 (p1 + 2).toNatClampNeg) * (σ k0 (p1 + 2).toNatClampNeg))) + ((σ k0 (p1 + 3).toNatClampNeg) * (σ k0 (p1 + 3).toNatClampNeg))) / 4) hx hb hr (fun t ht hW => ⟨⟨_, _, rfl, ⟨rfl, rfl⟩, mPre_at h0 hS hP ht hW⟩, hS.F ht⟩) hS.2.2 dX12_normOf_45
def fX12_copies_L3 (k0 : Nat) (p1 : Int32) (k2 : Nat) (p3 : Int32) : Nat → Int32 → QMem → Option (QMem)
  | 0, _, _ => none
  | n + 1, v4, τ =>
  if 4 ≤ v4 then (some τ) else (if (p1 + v4 < 0 ∨ ml k0 ≤ (p1 + v4).toNatClampNeg) then none else (if (p3 + v4 < 0 ∨ ml k2 ≤ (p3 + v4).toNatClampNeg) then none else ((fX12_copies_L3 k0 p1 k2 p3 n) (v4 + 1) (ms τ k2 (p3 + v4).toNatClampNeg (τ k0 (p1 + v4).toNatClampNeg)))))
def fX12_copies (k0 : Nat) (p1 : Int32) (k2 : Nat) (p3 : Int32) (σ : QMem) : Option (QMem) :=
  fX12_copies_L3 k0 p1 k2 p3 FU 0 σ
set_option maxHeartbeats 4000000 in
set_option maxRecDepth 100000 in
theorem kX12_copies (l : Launch) (D : va_G) (G : xG) (σ : QMem) (k0 : Nat) (hk0 : mk k0 = 0) (p1 : Int32) (k2 : Nat) (hk2 : mk k2 = 0) (p3 : Int32) (res : QMem) (h : fX12_copies k0 p1 k2 p3 σ = some res) : Met l yX12_copies (.code yX12_copies cX12_copies 5 none :: lwW) (rmD 0) (mPc D G σ [.ref (G.1 k0), .int p1, .ref (G.1 k2), .int p3]) (mQv D G res) 0 0 (mA G) := by
  refine Met.ofW (cc := cX12_copies) (maxL := 5) (ret := none) (by decide) rfl ?_
  intro p e s m args below meth c s₁ B hml hv
  obtain ⟨rfl, h0⟩ := hv
  have hx := B.exec
  have hb := B.bytes
  have hr := B.returns
  have hts := fun (w : Cond) (hw : w ∈ lwW) => atoms_spec (ws := (.code yX12_copies cX12_copies 5 none :: lwW)) B.pre w (List.mem_cons_of_mem _ hw)
  have hown : s.vm.findClass RX12 = some m.cls := findClass_of_methodNamed B.named
  have hlocks := B.notSynchronized
  have hP := h0.1
  have hK := h0.2.1
  have hi := h0.2.2
  have hS : va_S (mA G) s.heap s.heap [] := va_S.rf
  have hl := lv_entry ([.ref (G.1 k0), .int p1, .ref (G.1 k2), .int p3]) (n := 5) (Nat.le_of_ble_eq_true rfl)
  rw [lg_entry_eq]
  generalize (lg_sl ([.ref (G.1 k0), .int p1, .ref (G.1 k2), .int p3]) ++ List.replicate (5 - (lg_sl ([.ref (G.1 k0), .int p1, .ref (G.1 k2), .int p3])).length) Slot.unset).toArray = ls at hl ⊢
  have hl : lv_has ls 5 [(0, .ref (G.1 k0)), (1, .int p1), (2, .ref (G.1 k2)), (3, .int p3)] := hl
  unfold fX12_copies at h
  have L3 : ∀ (n3 : Nat) (v4 : Int32) (τ : QMem) (H : Heap) (locs : List Loc) (ls : Array Slot), fX12_copies_L3 k0 p1 k2 p3 n3 v4 τ = some res → va_P D vwCl (mW G τ) H → va_S (mA G) s.heap H locs → lv_has ls 5 [(0, .ref (G.1 k0)), (1, .int p1), (2, .ref (G.1 k2)), (3, .int p3), (4, .int v4)] → W p l e (headSpec (.code yX12_copies cX12_copies 5 none :: lwW) (rmD 0)).room s m ([.ref (G.1 k0), .int p1, .ref (G.1 k2), .int p3] : List Value).toArray below meth c H locs 0 0 (MQ below (mQv D G res) ([.ref (G.1 k0), .int p1, .ref (G.1 k2), .int p3] : List Value).toArray s 0 0 (mA G)) (F0 m 3 ls []) := by
    intro n3
    induction n3 with
    | zero => intro v4 τ H locs ls h; rw [fX12_copies_L3] at h; cases h
    | succ n3 ih3 =>
      intro v4 τ H locs ls h hP hS hl
      rw [fX12_copies_L3] at h
      refine lv_iload hx hb dX12_copies_3 (lv_at hl 4 rfl) ?_
      refine lv_iconst (v := 4) hx hb dX12_copies_5 (by decide) ?_
      refine lv_icmp_ge (tgt := 27) hx hb dX12_copies_6 (by decide) (fun hcq1 => ?_) (fun hcq1 => ?_)
      · have h := ifp hcq1 h
        obtain rfl := Option.some.inj h
        exact W.vret hx hb hr (fun t ht hW => ⟨⟨_, rfl, rfl, mPre_at h0 hS hP ht hW⟩, hS.F ht⟩) hS.2.2 dX12_copies_27
      have h := ifn hcq1 h
      refine lv_aload_n hx hb dX12_copies_9 rfl (lv_at hl 2 rfl) ?_
      refine lv_iload_n hx hb dX12_copies_10 rfl (lv_at hl 3 rfl) ?_
      refine lv_iload hx hb dX12_copies_11 (lv_at hl 4 rfl) ?_
      refine lv_iadd hx hb dX12_copies_13 ?_
      refine lv_aload_n hx hb dX12_copies_14 rfl (lv_at hl 0 rfl) ?_
      refine lv_iload_n hx hb dX12_copies_15 rfl (lv_at hl 1 rfl) ?_
      refine lv_iload hx hb dX12_copies_16 (lv_at hl 4 rfl) ?_
      refine lv_iadd hx hb dX12_copies_18 ?_
      obtain ⟨hiq2, h⟩ := nif h
      refine va_iald hx hb hK hP k0 0 (mg_0 hk0) rfl hiq2 dX12_copies_19 ?_
      obtain ⟨hiq3, h⟩ := nif h
      refine va_iast hx hb hK hP (mD hi) hS k2 0 (mg_0 hk2) rfl hiq3 dX12_copies_20 (fun H locs hP hD hS => ?_)
      have hP : va_P D vwCl (mW G (ms τ k2 (p3 + v4).toNatClampNeg (τ k0 (p1 + v4).toNatClampNeg))) H := by rw [← ms_0x hk2]; exact hP
      refine lv_iinc (v := v4 + 1) (lv' := [(4, .int (v4 + 1)), (0, .ref (G.1 k0)), (1, .int p1), (2, .ref (G.1 k2)), (3, .int p3)]) hx hb dX12_copies_21 hl (k := 4) rfl rfl (by decide) rfl (fun ls hl => ?_)
      refine lv_goto (tgt := 3) hx hb dX12_copies_24 (by decide) ?_
      exact ih3 (v4 + 1) _ _ _ _ h hP hS (lv_sub hl [1, 2, 3, 4, 0] rfl)
  refine lv_iconst (v := 0) hx hb dX12_copies_0 (by decide) ?_
  refine lv_istore (lv' := [(4, .int 0), (0, .ref (G.1 k0)), (1, .int p1), (2, .ref (G.1 k2)), (3, .int p3)]) hx hb dX12_copies_1 hl (by decide) rfl (fun ls hl => ?_)
  exact L3 FU 0 _ _ _ _ h hP hS (lv_sub hl [1, 2, 3, 4, 0] rfl)
def fX12_conjugates (k0 : Nat) (p1 : Int32) (k2 : Nat) (σ : QMem) : Option (QMem) :=
  if (p1 < 0 ∨ ml k0 ≤ p1.toNatClampNeg) then none else (if ((0 : Int32) < 0 ∨ ml k2 ≤ (0 : Int32).toNatClampNeg) then none else (if (p1 + 1 < 0 ∨ ml k0 ≤ (p1 + 1).toNatClampNeg) then none else (if ((1 : Int32) < 0 ∨ ml k2 ≤ (1 : Int32).toNatClampNeg) then none else (if (p1 + 2 < 0 ∨ ml k0 ≤ (p1 + 2).toNatClampNeg) then none else (if ((2 : Int32) < 0 ∨ ml k2 ≤ (2 : Int32).toNatClampNeg) then none else (if (p1 + 3 < 0 ∨ ml k0 ≤ (p1 + 3).toNatClampNeg) then none else (if ((3 : Int32) < 0 ∨ ml k2 ≤ (3 : Int32).toNatClampNeg) then none else (some (ms (ms (ms (ms σ k2 (0 : Int32).toNatClampNeg (σ k0 p1.toNatClampNeg)) k2 (1 : Int32).toNatClampNeg (-((ms σ k2 (0 : Int32).toNatClampNeg (σ k0 p1.toNatClampNeg)) k0 (p1 + 1).toNatClampNeg))) k2 (2 : Int32).toNatClampNeg (-((ms (ms σ k2 (0 : Int32).toNatClampNeg (σ k0 p1.toNatClampNeg)) k2 (1 : Int32).toNatClampNeg (-((ms σ k2 (0 : Int32).toNatClampNeg (σ k0 p1.toNatClampNeg)) k0 (p1 + 1).toNatClampNeg))) k0 (p1 + 2).toNatClampNeg))) k2 (3 : Int32).toNatClampNeg (-((ms (ms (ms σ k2 (0 : Int32).toNatClampNeg (σ k0 p1.toNatClampNeg)) k2 (1 : Int32).toNatClampNeg (-((ms σ k2 (0 : Int32).toNatClampNeg (σ k0 p1.toNatClampNeg)) k0 (p1 + 1).toNatClampNeg))) k2 (2 : Int32).toNatClampNeg (-((ms (ms σ k2 (0 : Int32).toNatClampNeg (σ k0 p1.toNatClampNeg)) k2 (1 : Int32).toNatClampNeg (-((ms σ k2 (0 : Int32).toNatClampNeg (σ k0 p1.toNatClampNeg)) k0 (p1 + 1).toNatClampNeg))) k0 (p1 + 2).toNatClampNeg))) k0 (p1 + 3).toNatClampNeg)))))))))))
set_option maxHeartbeats 4000000 in
set_option maxRecDepth 100000 in
theorem kX12_conjugates (l : Launch) (D : va_G) (G : xG) (σ : QMem) (k0 : Nat) (hk0 : mk k0 = 0) (p1 : Int32) (k2 : Nat) (hk2 : mk k2 = 0) (res : QMem) (h : fX12_conjugates k0 p1 k2 σ = some res) : Met l yX12_conjugates (.code yX12_conjugates cX12_conjugates 3 none :: lwW) (rmD 0) (mPc D G σ [.ref (G.1 k0), .int p1, .ref (G.1 k2)]) (mQv D G res) 0 0 (mA G) := by
  refine Met.ofW (cc := cX12_conjugates) (maxL := 3) (ret := none) (by decide) rfl ?_
  intro p e s m args below meth c s₁ B hml hv
  obtain ⟨rfl, h0⟩ := hv
  have hx := B.exec
  have hb := B.bytes
  have hr := B.returns
  have hts := fun (w : Cond) (hw : w ∈ lwW) => atoms_spec (ws := (.code yX12_conjugates cX12_conjugates 3 none :: lwW)) B.pre w (List.mem_cons_of_mem _ hw)
  have hown : s.vm.findClass RX12 = some m.cls := findClass_of_methodNamed B.named
  have hlocks := B.notSynchronized
  have hP := h0.1
  have hK := h0.2.1
  have hi := h0.2.2
  have hS : va_S (mA G) s.heap s.heap [] := va_S.rf
  have hl := lv_entry ([.ref (G.1 k0), .int p1, .ref (G.1 k2)]) (n := 3) (Nat.le_of_ble_eq_true rfl)
  rw [lg_entry_eq]
  generalize (lg_sl ([.ref (G.1 k0), .int p1, .ref (G.1 k2)]) ++ List.replicate (3 - (lg_sl ([.ref (G.1 k0), .int p1, .ref (G.1 k2)])).length) Slot.unset).toArray = ls at hl ⊢
  have hl : lv_has ls 3 [(0, .ref (G.1 k0)), (1, .int p1), (2, .ref (G.1 k2))] := hl
  unfold fX12_conjugates at h
  refine lv_aload_n hx hb dX12_conjugates_0 rfl (lv_at hl 2 rfl) ?_
  refine lv_iconst (v := 0) hx hb dX12_conjugates_1 (by decide) ?_
  refine lv_aload_n hx hb dX12_conjugates_2 rfl (lv_at hl 0 rfl) ?_
  refine lv_iload_n hx hb dX12_conjugates_3 rfl (lv_at hl 1 rfl) ?_
  obtain ⟨hiq1, h⟩ := nif h
  refine va_iald hx hb hK hP k0 0 (mg_0 hk0) rfl hiq1 dX12_conjugates_4 ?_
  obtain ⟨hiq2, h⟩ := nif h
  refine va_iast hx hb hK hP (mD hi) hS k2 0 (mg_0 hk2) rfl hiq2 dX12_conjugates_5 (fun H locs hP hD hS => ?_)
  have hP : va_P D vwCl (mW G (ms σ k2 (0 : Int32).toNatClampNeg (σ k0 p1.toNatClampNeg))) H := by rw [← ms_0x hk2]; exact hP
  refine lv_aload_n hx hb dX12_conjugates_6 rfl (lv_at hl 2 rfl) ?_
  refine lv_iconst (v := 1) hx hb dX12_conjugates_7 (by decide) ?_
  refine lv_aload_n hx hb dX12_conjugates_8 rfl (lv_at hl 0 rfl) ?_
  refine lv_iload_n hx hb dX12_conjugates_9 rfl (lv_at hl 1 rfl) ?_
  refine lv_iconst (v := 1) hx hb dX12_conjugates_10 (by decide) ?_
  refine lv_iadd hx hb dX12_conjugates_11 ?_
  obtain ⟨hiq3, h⟩ := nif h
  refine va_iald hx hb hK hP k0 0 (mg_0 hk0) rfl hiq3 dX12_conjugates_12 ?_
  refine lv_ineg hx hb dX12_conjugates_13 ?_
  obtain ⟨hiq4, h⟩ := nif h
  refine va_iast hx hb hK hP (mD hi) hS k2 0 (mg_0 hk2) rfl hiq4 dX12_conjugates_14 (fun H locs hP hD hS => ?_)
  have hP : va_P D vwCl (mW G (ms (ms σ k2 (0 : Int32).toNatClampNeg (σ k0 p1.toNatClampNeg)) k2 (1 : Int32).toNatClampNeg (-((ms σ k2 (0 : Int32).toNatClampNeg (σ k0 p1.toNatClampNeg)) k0 (p1 + 1).toNatClampNeg)))) H := by rw [← ms_0x hk2]; exact hP
  refine lv_aload_n hx hb dX12_conjugates_15 rfl (lv_at hl 2 rfl) ?_
  refine lv_iconst (v := 2) hx hb dX12_conjugates_16 (by decide) ?_
  refine lv_aload_n hx hb dX12_conjugates_17 rfl (lv_at hl 0 rfl) ?_
  refine lv_iload_n hx hb dX12_conjugates_18 rfl (lv_at hl 1 rfl) ?_
  refine lv_iconst (v := 2) hx hb dX12_conjugates_19 (by decide) ?_
  refine lv_iadd hx hb dX12_conjugates_20 ?_
  obtain ⟨hiq5, h⟩ := nif h
  refine va_iald hx hb hK hP k0 0 (mg_0 hk0) rfl hiq5 dX12_conjugates_21 ?_
  refine lv_ineg hx hb dX12_conjugates_22 ?_
  obtain ⟨hiq6, h⟩ := nif h
  refine va_iast hx hb hK hP (mD hi) hS k2 0 (mg_0 hk2) rfl hiq6 dX12_conjugates_23 (fun H locs hP hD hS => ?_)
  have hP : va_P D vwCl (mW G (ms (ms (ms σ k2 (0 : Int32).toNatClampNeg (σ k0 p1.toNatClampNeg)) k2 (1 : Int32).toNatClampNeg (-((ms σ k2 (0 : Int32).toNatClampNeg (σ k0 p1.toNatClampNeg)) k0 (p1 + 1).toNatClampNeg))) k2 (2 : Int32).toNatClampNeg (-((ms (ms σ k2 (0 : Int32).toNatClampNeg (σ k0 p1.toNatClampNeg)) k2 (1 : Int32).toNatClampNeg (-((ms σ k2 (0 : Int32).toNatClampNeg (σ k0 p1.toNatClampNeg)) k0 (p1 + 1).toNatClampNeg))) k0 (p1 + 2).toNatClampNeg)))) H := by rw [← ms_0x hk2]; exact hP
  refine lv_aload_n hx hb dX12_conjugates_24 rfl (lv_at hl 2 rfl) ?_
  refine lv_iconst (v := 3) hx hb dX12_conjugates_25 (by decide) ?_
  refine lv_aload_n hx hb dX12_conjugates_26 rfl (lv_at hl 0 rfl) ?_
  refine lv_iload_n hx hb dX12_conjugates_27 rfl (lv_at hl 1 rfl) ?_
  refine lv_iconst (v := 3) hx hb dX12_conjugates_28 (by decide) ?_
  refine lv_iadd hx hb dX12_conjugates_29 ?_
  obtain ⟨hiq7, h⟩ := nif h
  refine va_iald hx hb hK hP k0 0 (mg_0 hk0) rfl hiq7 dX12_conjugates_30 ?_
  refine lv_ineg hx hb dX12_conjugates_31 ?_
  obtain ⟨hiq8, h⟩ := nif h
  refine va_iast hx hb hK hP (mD hi) hS k2 0 (mg_0 hk2) rfl hiq8 dX12_conjugates_32 (fun H locs hP hD hS => ?_)
  have hP : va_P D vwCl (mW G (ms (ms (ms (ms σ k2 (0 : Int32).toNatClampNeg (σ k0 p1.toNatClampNeg)) k2 (1 : Int32).toNatClampNeg (-((ms σ k2 (0 : Int32).toNatClampNeg (σ k0 p1.toNatClampNeg)) k0 (p1 + 1).toNatClampNeg))) k2 (2 : Int32).toNatClampNeg (-((ms (ms σ k2 (0 : Int32).toNatClampNeg (σ k0 p1.toNatClampNeg)) k2 (1 : Int32).toNatClampNeg (-((ms σ k2 (0 : Int32).toNatClampNeg (σ k0 p1.toNatClampNeg)) k0 (p1 + 1).toNatClampNeg))) k0 (p1 + 2).toNatClampNeg))) k2 (3 : Int32).toNatClampNeg (-((ms (ms (ms σ k2 (0 : Int32).toNatClampNeg (σ k0 p1.toNatClampNeg)) k2 (1 : Int32).toNatClampNeg (-((ms σ k2 (0 : Int32).toNatClampNeg (σ k0 p1.toNatClampNeg)) k0 (p1 + 1).toNatClampNeg))) k2 (2 : Int32).toNatClampNeg (-((ms (ms σ k2 (0 : Int32).toNatClampNeg (σ k0 p1.toNatClampNeg)) k2 (1 : Int32).toNatClampNeg (-((ms σ k2 (0 : Int32).toNatClampNeg (σ k0 p1.toNatClampNeg)) k0 (p1 + 1).toNatClampNeg))) k0 (p1 + 2).toNatClampNeg))) k0 (p1 + 3).toNatClampNeg)))) H := by rw [← ms_0x hk2]; exact hP
  obtain rfl := Option.some.inj h
  exact W.vret hx hb hr (fun t ht hW => ⟨⟨_, rfl, rfl, mPre_at h0 hS hP ht hW⟩, hS.F ht⟩) hS.2.2 dX12_conjugates_33
def fX12_product (k0 : Nat) (p1 : Int32) (k2 : Nat) (p3 : Int32) (k4 : Nat) (σ : QMem) : Option (QMem) :=
  if (p1 < 0 ∨ ml k0 ≤ p1.toNatClampNeg) then none else (if (p1 + 1 < 0 ∨ ml k0 ≤ (p1 + 1).toNatClampNeg) then none else (if (p1 + 2 < 0 ∨ ml k0 ≤ (p1 + 2).toNatClampNeg) then none else (if (p1 + 3 < 0 ∨ ml k0 ≤ (p1 + 3).toNatClampNeg) then none else (if (p3 < 0 ∨ ml k2 ≤ p3.toNatClampNeg) then none else (if (p3 + 1 < 0 ∨ ml k2 ≤ (p3 + 1).toNatClampNeg) then none else (if (p3 + 2 < 0 ∨ ml k2 ≤ (p3 + 2).toNatClampNeg) then none else (if (p3 + 3 < 0 ∨ ml k2 ≤ (p3 + 3).toNatClampNeg) then none else (if ((0 : Int32) < 0 ∨ ml k4 ≤ (0 : Int32).toNatClampNeg) then none else (if ((1 : Int32) < 0 ∨ ml k4 ≤ (1 : Int32).toNatClampNeg) then none else (if ((2 : Int32) < 0 ∨ ml k4 ≤ (2 : Int32).toNatClampNeg) then none else (if ((3 : Int32) < 0 ∨ ml k4 ≤ (3 : Int32).toNatClampNeg) then none else (some (ms (ms (ms (ms σ k4 (0 : Int32).toNatClampNeg ((((((σ k0 p1.toNatClampNeg) * (σ k2 p3.toNatClampNeg)) - ((σ k0 (p1 + 1).toNatClampNeg) * (σ k2 (p3 + 1).toNatClampNeg))) - ((σ k0 (p1 + 2).toNatClampNeg) * (σ k2 (p3 + 2).toNatClampNeg))) - ((σ k0 (p1 + 3).toNatClampNeg) * (σ k2 (p3 + 3).toNatClampNeg))) / 2)) k4 (1 : Int32).toNatClampNeg ((((((σ k0 p1.toNatClampNeg) * (σ k2 (p3 + 1).toNatClampNeg)) + ((σ k0 (p1 + 1).toNatClampNeg) * (σ k2 p3.toNatClampNeg))) + ((σ k0 (p1 + 2).toNatClampNeg) * (σ k2 (p3 + 3).toNatClampNeg))) - ((σ k0 (p1 + 3).toNatClampNeg) * (σ k2 (p3 + 2).toNatClampNeg))) / 2)) k4 (2 : Int32).toNatClampNeg ((((((σ k0 p1.toNatClampNeg) * (σ k2 (p3 + 2).toNatClampNeg)) - ((σ k0 (p1 + 1).toNatClampNeg) * (σ k2 (p3 + 3).toNatClampNeg))) + ((σ k0 (p1 + 2).toNatClampNeg) * (σ k2 p3.toNatClampNeg))) + ((σ k0 (p1 + 3).toNatClampNeg) * (σ k2 (p3 + 1).toNatClampNeg))) / 2)) k4 (3 : Int32).toNatClampNeg ((((((σ k0 p1.toNatClampNeg) * (σ k2 (p3 + 3).toNatClampNeg)) + ((σ k0 (p1 + 1).toNatClampNeg) * (σ k2 (p3 + 2).toNatClampNeg))) - ((σ k0 (p1 + 2).toNatClampNeg) * (σ k2 (p3 + 1).toNatClampNeg))) + ((σ k0 (p1 + 3).toNatClampNeg) * (σ k2 p3.toNatClampNeg))) / 2))))))))))))))
set_option maxHeartbeats 4000000 in
set_option maxRecDepth 100000 in
theorem kX12_product (l : Launch) (D : va_G) (G : xG) (σ : QMem) (k0 : Nat) (hk0 : mk k0 = 0) (p1 : Int32) (k2 : Nat) (hk2 : mk k2 = 0) (p3 : Int32) (k4 : Nat) (hk4 : mk k4 = 0) (res : QMem) (h : fX12_product k0 p1 k2 p3 k4 σ = some res) : Met l yX12_product (.code yX12_product cX12_product 13 none :: lwW) (rmD 0) (mPc D G σ [.ref (G.1 k0), .int p1, .ref (G.1 k2), .int p3, .ref (G.1 k4)]) (mQv D G res) 0 0 (mA G) := by
  refine Met.ofW (cc := cX12_product) (maxL := 13) (ret := none) (by decide) rfl ?_
  intro p e s m args below meth c s₁ B hml hv
  obtain ⟨rfl, h0⟩ := hv
  have hx := B.exec
  have hb := B.bytes
  have hr := B.returns
  have hts := fun (w : Cond) (hw : w ∈ lwW) => atoms_spec (ws := (.code yX12_product cX12_product 13 none :: lwW)) B.pre w (List.mem_cons_of_mem _ hw)
  have hown : s.vm.findClass RX12 = some m.cls := findClass_of_methodNamed B.named
  have hlocks := B.notSynchronized
  have hP := h0.1
  have hK := h0.2.1
  have hi := h0.2.2
  have hS : va_S (mA G) s.heap s.heap [] := va_S.rf
  have hl := lv_entry ([.ref (G.1 k0), .int p1, .ref (G.1 k2), .int p3, .ref (G.1 k4)]) (n := 13) (Nat.le_of_ble_eq_true rfl)
  rw [lg_entry_eq]
  generalize (lg_sl ([.ref (G.1 k0), .int p1, .ref (G.1 k2), .int p3, .ref (G.1 k4)]) ++ List.replicate (13 - (lg_sl ([.ref (G.1 k0), .int p1, .ref (G.1 k2), .int p3, .ref (G.1 k4)])).length) Slot.unset).toArray = ls at hl ⊢
  have hl : lv_has ls 13 [(0, .ref (G.1 k0)), (1, .int p1), (2, .ref (G.1 k2)), (3, .int p3), (4, .ref (G.1 k4))] := hl
  unfold fX12_product at h
  refine lv_aload_n hx hb dX12_product_0 rfl (lv_at hl 0 rfl) ?_
  refine lv_iload_n hx hb dX12_product_1 rfl (lv_at hl 1 rfl) ?_
  obtain ⟨hiq1, h⟩ := nif h
  refine va_iald hx hb hK hP k0 0 (mg_0 hk0) rfl hiq1 dX12_product_2 ?_
  refine lv_istore (lv' := [(5, .int (σ k0 p1.toNatClampNeg)), (0, .ref (G.1 k0)), (1, .int p1), (2, .ref (G.1 k2)), (3, .int p3), (4, .ref (G.1 k4))]) hx hb dX12_product_3 hl (by decide) rfl (fun ls hl => ?_)
  refine lv_aload_n hx hb dX12_product_5 rfl (lv_at hl 1 rfl) ?_
  refine lv_iload_n hx hb dX12_product_6 rfl (lv_at hl 2 rfl) ?_
  refine lv_iconst (v := 1) hx hb dX12_product_7 (by decide) ?_
  refine lv_iadd hx hb dX12_product_8 ?_
  obtain ⟨hiq2, h⟩ := nif h
  refine va_iald hx hb hK hP k0 0 (mg_0 hk0) rfl hiq2 dX12_product_9 ?_
  refine lv_istore (lv' := [(6, .int (σ k0 (p1 + 1).toNatClampNeg)), (5, .int (σ k0 p1.toNatClampNeg)), (0, .ref (G.1 k0)), (1, .int p1), (2, .ref (G.1 k2)), (3, .int p3), (4, .ref (G.1 k4))]) hx hb dX12_product_10 hl (by decide) rfl (fun ls hl => ?_)
  refine lv_aload_n hx hb dX12_product_12 rfl (lv_at hl 2 rfl) ?_
  refine lv_iload_n hx hb dX12_product_13 rfl (lv_at hl 3 rfl) ?_
  refine lv_iconst (v := 2) hx hb dX12_product_14 (by decide) ?_
  refine lv_iadd hx hb dX12_product_15 ?_
  obtain ⟨hiq3, h⟩ := nif h
  refine va_iald hx hb hK hP k0 0 (mg_0 hk0) rfl hiq3 dX12_product_16 ?_
  refine lv_istore (lv' := [(7, .int (σ k0 (p1 + 2).toNatClampNeg)), (6, .int (σ k0 (p1 + 1).toNatClampNeg)), (5, .int (σ k0 p1.toNatClampNeg)), (0, .ref (G.1 k0)), (1, .int p1), (2, .ref (G.1 k2)), (3, .int p3), (4, .ref (G.1 k4))]) hx hb dX12_product_17 hl (by decide) rfl (fun ls hl => ?_)
  refine lv_aload_n hx hb dX12_product_19 rfl (lv_at hl 3 rfl) ?_
  refine lv_iload_n hx hb dX12_product_20 rfl (lv_at hl 4 rfl) ?_
  refine lv_iconst (v := 3) hx hb dX12_product_21 (by decide) ?_
  refine lv_iadd hx hb dX12_product_22 ?_
  obtain ⟨hiq4, h⟩ := nif h
  refine va_iald hx hb hK hP k0 0 (mg_0 hk0) rfl hiq4 dX12_product_23 ?_
  refine lv_istore (lv' := [(8, .int (σ k0 (p1 + 3).toNatClampNeg)), (7, .int (σ k0 (p1 + 2).toNatClampNeg)), (6, .int (σ k0 (p1 + 1).toNatClampNeg)), (5, .int (σ k0 p1.toNatClampNeg)), (0, .ref (G.1 k0)), (1, .int p1), (2, .ref (G.1 k2)), (3, .int p3), (4, .ref (G.1 k4))]) hx hb dX12_product_24 hl (by decide) rfl (fun ls hl => ?_)
  refine lv_aload_n hx hb dX12_product_26 rfl (lv_at hl 6 rfl) ?_
  refine lv_iload_n hx hb dX12_product_27 rfl (lv_at hl 7 rfl) ?_
  obtain ⟨hiq5, h⟩ := nif h
  refine va_iald hx hb hK hP k2 0 (mg_0 hk2) rfl hiq5 dX12_product_28 ?_
  refine lv_istore (lv' := [(9, .int (σ k2 p3.toNatClampNeg)), (8, .int (σ k0 (p1 + 3).toNatClampNeg)), (7, .int (σ k0 (p1 + 2).toNatClampNeg)), (6, .int (σ k0 (p1 + 1).toNatClampNeg)), (5, .int (σ k0 p1.toNatClampNeg)), (0, .ref (G.1 k0)), (1, .int p1), (2, .ref (G.1 k2)), (3, .int p3), (4, .ref (G.1 k4))]) hx hb dX12_product_29 hl (by decide) rfl (fun ls hl => ?_)
  refine lv_aload_n hx hb dX12_product_31 rfl (lv_at hl 7 rfl) ?_
  refine lv_iload_n hx hb dX12_product_32 rfl (lv_at hl 8 rfl) ?_
  refine lv_iconst (v := 1) hx hb dX12_product_33 (by decide) ?_
  refine lv_iadd hx hb dX12_product_34 ?_
  obtain ⟨hiq6, h⟩ := nif h
  refine va_iald hx hb hK hP k2 0 (mg_0 hk2) rfl hiq6 dX12_product_35 ?_
  refine lv_istore (lv' := [(10, .int (σ k2 (p3 + 1).toNatClampNeg)), (9, .int (σ k2 p3.toNatClampNeg)), (8, .int (σ k0 (p1 + 3).toNatClampNeg)), (7, .int (σ k0 (p1 + 2).toNatClampNeg)), (6, .int (σ k0 (p1 + 1).toNatClampNeg)), (5, .int (σ k0 p1.toNatClampNeg)), (0, .ref (G.1 k0)), (1, .int p1), (2, .ref (G.1 k2)), (3, .int p3), (4, .ref (G.1 k4))]) hx hb dX12_product_36 hl (by decide) rfl (fun ls hl => ?_)
  refine lv_aload_n hx hb dX12_product_38 rfl (lv_at hl 8 rfl) ?_
  refine lv_iload_n hx hb dX12_product_39 rfl (lv_at hl 9 rfl) ?_
  refine lv_iconst (v := 2) hx hb dX12_product_40 (by decide) ?_
  refine lv_iadd hx hb dX12_product_41 ?_
  obtain ⟨hiq7, h⟩ := nif h
  refine va_iald hx hb hK hP k2 0 (mg_0 hk2) rfl hiq7 dX12_product_42 ?_
  refine lv_istore (lv' := [(11, .int (σ k2 (p3 + 2).toNatClampNeg)), (10, .int (σ k2 (p3 + 1).toNatClampNeg)), (9, .int (σ k2 p3.toNatClampNeg)), (8, .int (σ k0 (p1 + 3).toNatClampNeg)), (7, .int (σ k0 (p1 + 2).toNatClampNeg)), (6, .int (σ k0 (p1 + 1).toNatClampNeg)), (5, .int (σ k0 p1.toNatClampNeg)), (0, .ref (G.1 k0)), (1, .int p1), (2, .ref (G.1 k2)), (3, .int p3), (4, .ref (G.1 k4))]) hx hb dX12_product_43 hl (by decide) rfl (fun ls hl => ?_)
  refine lv_aload_n hx hb dX12_product_45 rfl (lv_at hl 9 rfl) ?_
  refine lv_iload_n hx hb dX12_product_46 rfl (lv_at hl 10 rfl) ?_
  refine lv_iconst (v := 3) hx hb dX12_product_47 (by decide) ?_
  refine lv_iadd hx hb dX12_product_48 ?_
  obtain ⟨hiq8, h⟩ := nif h
  refine va_iald hx hb hK hP k2 0 (mg_0 hk2) rfl hiq8 dX12_product_49 ?_
  refine lv_istore (lv' := [(12, .int (σ k2 (p3 + 3).toNatClampNeg)), (11, .int (σ k2 (p3 + 2).toNatClampNeg)), (10, .int (σ k2 (p3 + 1).toNatClampNeg)), (9, .int (σ k2 p3.toNatClampNeg)), (8, .int (σ k0 (p1 + 3).toNatClampNeg)), (7, .int (σ k0 (p1 + 2).toNatClampNeg)), (6, .int (σ k0 (p1 + 1).toNatClampNeg)), (5, .int (σ k0 p1.toNatClampNeg)), (0, .ref (G.1 k0)), (1, .int p1), (2, .ref (G.1 k2)), (3, .int p3), (4, .ref (G.1 k4))]) hx hb dX12_product_50 hl (by decide) rfl (fun ls hl => ?_)
  refine lv_aload hx hb dX12_product_52 (lv_at hl 12 rfl) ?_
  refine lv_iconst (v := 0) hx hb dX12_product_54 (by decide) ?_
  refine lv_iload hx hb dX12_product_55 (lv_at hl 7 rfl) ?_
  refine lv_iload hx hb dX12_product_57 (lv_at hl 3 rfl) ?_
  refine lv_imul hx hb dX12_product_59 ?_
  refine lv_iload hx hb dX12_product_60 (lv_at hl 6 rfl) ?_
  refine lv_iload hx hb dX12_product_62 (lv_at hl 2 rfl) ?_
  refine lv_imul hx hb dX12_product_64 ?_
  refine lv_isub hx hb dX12_product_65 ?_
  refine lv_iload hx hb dX12_product_66 (lv_at hl 5 rfl) ?_
  refine lv_iload hx hb dX12_product_68 (lv_at hl 1 rfl) ?_
  refine lv_imul hx hb dX12_product_70 ?_
  refine lv_isub hx hb dX12_product_71 ?_
  refine lv_iload hx hb dX12_product_72 (lv_at hl 4 rfl) ?_
  refine lv_iload hx hb dX12_product_74 (lv_at hl 0 rfl) ?_
  refine lv_imul hx hb dX12_product_76 ?_
  refine lv_isub hx hb dX12_product_77 ?_
  refine lv_iconst (v := 2) hx hb dX12_product_78 (by decide) ?_
  refine lv_idiv hx hb dX12_product_79 (by decide) ?_
  obtain ⟨hiq9, h⟩ := nif h
  refine va_iast hx hb hK hP (mD hi) hS k4 0 (mg_0 hk4) rfl hiq9 dX12_product_80 (fun H locs hP hD hS => ?_)
  have hP : va_P D vwCl (mW G (ms σ k4 (0 : Int32).toNatClampNeg ((((((σ k0 p1.toNatClampNeg) * (σ k2 p3.toNatClampNeg)) - ((σ k0 (p1 + 1).toNatClampNeg) * (σ k2 (p3 + 1).toNatClampNeg))) - ((σ k0 (p1 + 2).toNatClampNeg) * (σ k2 (p3 + 2).toNatClampNeg))) - ((σ k0 (p1 + 3).toNatClampNeg) * (σ k2 (p3 + 3).toNatClampNeg))) / 2))) H := by rw [← ms_0x hk4]; exact hP
  refine lv_aload hx hb dX12_product_81 (lv_at hl 12 rfl) ?_
  refine lv_iconst (v := 1) hx hb dX12_product_83 (by decide) ?_
  refine lv_iload hx hb dX12_product_84 (lv_at hl 7 rfl) ?_
  refine lv_iload hx hb dX12_product_86 (lv_at hl 2 rfl) ?_
  refine lv_imul hx hb dX12_product_88 ?_
  refine lv_iload hx hb dX12_product_89 (lv_at hl 6 rfl) ?_
  refine lv_iload hx hb dX12_product_91 (lv_at hl 3 rfl) ?_
  refine lv_imul hx hb dX12_product_93 ?_
  refine lv_iadd hx hb dX12_product_94 ?_
  refine lv_iload hx hb dX12_product_95 (lv_at hl 5 rfl) ?_
  refine lv_iload hx hb dX12_product_97 (lv_at hl 0 rfl) ?_
  refine lv_imul hx hb dX12_product_99 ?_
  refine lv_iadd hx hb dX12_product_100 ?_
  refine lv_iload hx hb dX12_product_101 (lv_at hl 4 rfl) ?_
  refine lv_iload hx hb dX12_product_103 (lv_at hl 1 rfl) ?_
  refine lv_imul hx hb dX12_product_105 ?_
  refine lv_isub hx hb dX12_product_106 ?_
  refine lv_iconst (v := 2) hx hb dX12_product_107 (by decide) ?_
  refine lv_idiv hx hb dX12_product_108 (by decide) ?_
  obtain ⟨hiq10, h⟩ := nif h
  refine va_iast hx hb hK hP (mD hi) hS k4 0 (mg_0 hk4) rfl hiq10 dX12_product_109 (fun H locs hP hD hS => ?_)
  have hP : va_P D vwCl (mW G (ms (ms σ k4 (0 : Int32).toNatClampNeg ((((((σ k0 p1.toNatClampNeg) * (σ k2 p3.toNatClampNeg)) - ((σ k0 (p1 + 1).toNatClampNeg) * (σ k2 (p3 + 1).toNatClampNeg))) - ((σ k0 (p1 + 2).toNatClampNeg) * (σ k2 (p3 + 2).toNatClampNeg))) - ((σ k0 (p1 + 3).toNatClampNeg) * (σ k2 (p3 + 3).toNatClampNeg))) / 2)) k4 (1 : Int32).toNatClampNeg ((((((σ k0 p1.toNatClampNeg) * (σ k2 (p3 + 1).toNatClampNeg)) + ((σ k0 (p1 + 1).toNatClampNeg) * (σ k2 p3.toNatClampNeg))) + ((σ k0 (p1 + 2).toNatClampNeg) * (σ k2 (p3 + 3).toNatClampNeg))) - ((σ k0 (p1 + 3).toNatClampNeg) * (σ k2 (p3 + 2).toNatClampNeg))) / 2))) H := by rw [← ms_0x hk4]; exact hP
  refine lv_aload hx hb dX12_product_110 (lv_at hl 12 rfl) ?_
  refine lv_iconst (v := 2) hx hb dX12_product_112 (by decide) ?_
  refine lv_iload hx hb dX12_product_113 (lv_at hl 7 rfl) ?_
  refine lv_iload hx hb dX12_product_115 (lv_at hl 1 rfl) ?_
  refine lv_imul hx hb dX12_product_117 ?_
  refine lv_iload hx hb dX12_product_118 (lv_at hl 6 rfl) ?_
  refine lv_iload hx hb dX12_product_120 (lv_at hl 0 rfl) ?_
  refine lv_imul hx hb dX12_product_122 ?_
  refine lv_isub hx hb dX12_product_123 ?_
  refine lv_iload hx hb dX12_product_124 (lv_at hl 5 rfl) ?_
  refine lv_iload hx hb dX12_product_126 (lv_at hl 3 rfl) ?_
  refine lv_imul hx hb dX12_product_128 ?_
  refine lv_iadd hx hb dX12_product_129 ?_
  refine lv_iload hx hb dX12_product_130 (lv_at hl 4 rfl) ?_
  refine lv_iload hx hb dX12_product_132 (lv_at hl 2 rfl) ?_
  refine lv_imul hx hb dX12_product_134 ?_
  refine lv_iadd hx hb dX12_product_135 ?_
  refine lv_iconst (v := 2) hx hb dX12_product_136 (by decide) ?_
  refine lv_idiv hx hb dX12_product_137 (by decide) ?_
  obtain ⟨hiq11, h⟩ := nif h
  refine va_iast hx hb hK hP (mD hi) hS k4 0 (mg_0 hk4) rfl hiq11 dX12_product_138 (fun H locs hP hD hS => ?_)
  have hP : va_P D vwCl (mW G (ms (ms (ms σ k4 (0 : Int32).toNatClampNeg ((((((σ k0 p1.toNatClampNeg) * (σ k2 p3.toNatClampNeg)) - ((σ k0 (p1 + 1).toNatClampNeg) * (σ k2 (p3 + 1).toNatClampNeg))) - ((σ k0 (p1 + 2).toNatClampNeg) * (σ k2 (p3 + 2).toNatClampNeg))) - ((σ k0 (p1 + 3).toNatClampNeg) * (σ k2 (p3 + 3).toNatClampNeg))) / 2)) k4 (1 : Int32).toNatClampNeg ((((((σ k0 p1.toNatClampNeg) * (σ k2 (p3 + 1).toNatClampNeg)) + ((σ k0 (p1 + 1).toNatClampNeg) * (σ k2 p3.toNatClampNeg))) + ((σ k0 (p1 + 2).toNatClampNeg) * (σ k2 (p3 + 3).toNatClampNeg))) - ((σ k0 (p1 + 3).toNatClampNeg) * (σ k2 (p3 + 2).toNatClampNeg))) / 2)) k4 (2 : Int32).toNatClampNeg ((((((σ k0 p1.toNatClampNeg) * (σ k2 (p3 + 2).toNatClampNeg)) - ((σ k0 (p1 + 1).toNatClampNeg) * (σ k2 (p3 + 3).toNatClampNeg))) + ((σ k0 (p1 + 2).toNatClampNeg) * (σ k2 p3.toNatClampNeg))) + ((σ k0 (p1 + 3).toNatClampNeg) * (σ k2 (p3 + 1).toNatClampNeg))) / 2))) H := by rw [← ms_0x hk4]; exact hP
  refine lv_aload hx hb dX12_product_139 (lv_at hl 12 rfl) ?_
  refine lv_iconst (v := 3) hx hb dX12_product_141 (by decide) ?_
  refine lv_iload hx hb dX12_product_142 (lv_at hl 7 rfl) ?_
  refine lv_iload hx hb dX12_product_144 (lv_at hl 0 rfl) ?_
  refine lv_imul hx hb dX12_product_146 ?_
  refine lv_iload hx hb dX12_product_147 (lv_at hl 6 rfl) ?_
  refine lv_iload hx hb dX12_product_149 (lv_at hl 1 rfl) ?_
  refine lv_imul hx hb dX12_product_151 ?_
  refine lv_iadd hx hb dX12_product_152 ?_
  refine lv_iload hx hb dX12_product_153 (lv_at hl 5 rfl) ?_
  refine lv_iload hx hb dX12_product_155 (lv_at hl 2 rfl) ?_
  refine lv_imul hx hb dX12_product_157 ?_
  refine lv_isub hx hb dX12_product_158 ?_
  refine lv_iload hx hb dX12_product_159 (lv_at hl 4 rfl) ?_
  refine lv_iload hx hb dX12_product_161 (lv_at hl 3 rfl) ?_
  refine lv_imul hx hb dX12_product_163 ?_
  refine lv_iadd hx hb dX12_product_164 ?_
  refine lv_iconst (v := 2) hx hb dX12_product_165 (by decide) ?_
  refine lv_idiv hx hb dX12_product_166 (by decide) ?_
  obtain ⟨hiq12, h⟩ := nif h
  refine va_iast hx hb hK hP (mD hi) hS k4 0 (mg_0 hk4) rfl hiq12 dX12_product_167 (fun H locs hP hD hS => ?_)
  have hP : va_P D vwCl (mW G (ms (ms (ms (ms σ k4 (0 : Int32).toNatClampNeg ((((((σ k0 p1.toNatClampNeg) * (σ k2 p3.toNatClampNeg)) - ((σ k0 (p1 + 1).toNatClampNeg) * (σ k2 (p3 + 1).toNatClampNeg))) - ((σ k0 (p1 + 2).toNatClampNeg) * (σ k2 (p3 + 2).toNatClampNeg))) - ((σ k0 (p1 + 3).toNatClampNeg) * (σ k2 (p3 + 3).toNatClampNeg))) / 2)) k4 (1 : Int32).toNatClampNeg ((((((σ k0 p1.toNatClampNeg) * (σ k2 (p3 + 1).toNatClampNeg)) + ((σ k0 (p1 + 1).toNatClampNeg) * (σ k2 p3.toNatClampNeg))) + ((σ k0 (p1 + 2).toNatClampNeg) * (σ k2 (p3 + 3).toNatClampNeg))) - ((σ k0 (p1 + 3).toNatClampNeg) * (σ k2 (p3 + 2).toNatClampNeg))) / 2)) k4 (2 : Int32).toNatClampNeg ((((((σ k0 p1.toNatClampNeg) * (σ k2 (p3 + 2).toNatClampNeg)) - ((σ k0 (p1 + 1).toNatClampNeg) * (σ k2 (p3 + 3).toNatClampNeg))) + ((σ k0 (p1 + 2).toNatClampNeg) * (σ k2 p3.toNatClampNeg))) + ((σ k0 (p1 + 3).toNatClampNeg) * (σ k2 (p3 + 1).toNatClampNeg))) / 2)) k4 (3 : Int32).toNatClampNeg ((((((σ k0 p1.toNatClampNeg) * (σ k2 (p3 + 3).toNatClampNeg)) + ((σ k0 (p1 + 1).toNatClampNeg) * (σ k2 (p3 + 2).toNatClampNeg))) - ((σ k0 (p1 + 2).toNatClampNeg) * (σ k2 (p3 + 1).toNatClampNeg))) + ((σ k0 (p1 + 3).toNatClampNeg) * (σ k2 p3.toNatClampNeg))) / 2))) H := by rw [← ms_0x hk4]; exact hP
  obtain rfl := Option.some.inj h
  exact W.vret hx hb hr (fun t ht hW => ⟨⟨_, rfl, rfl, mPre_at h0 hS hP ht hW⟩, hS.F ht⟩) hS.2.2 dX12_product_168
def fX12_makes (k0 : Nat) (p1 : Int32) (k2 : Nat) (p3 : Int32) (p4 : Int32) (k5 : Nat) (σ : QMem) : Option (QMem) :=
  if p4 = 0 then ((fX12_product k0 p1 k2 p3 k5 σ).bind fun xq4 => (some xq4)) else ((fX12_product k2 p3 k0 p1 k5 σ).bind fun xq2 => (some xq2))
set_option maxHeartbeats 4000000 in
set_option maxRecDepth 100000 in
theorem kX12_makes (l : Launch) (D : va_G) (G : xG) (σ : QMem) (k0 : Nat) (hk0 : mk k0 = 0) (p1 : Int32) (k2 : Nat) (hk2 : mk k2 = 0) (p3 : Int32) (p4 : Int32) (k5 : Nat) (hk5 : mk k5 = 0) (res : QMem) (h : fX12_makes k0 p1 k2 p3 p4 k5 σ = some res) : Met l yX12_makes (.code yX12_makes cX12_makes 6 none :: lwW) (rmD 1) (mPc D G σ [.ref (G.1 k0), .int p1, .ref (G.1 k2), .int p3, .int p4, .ref (G.1 k5)]) (mQv D G res) 0 0 (mA G) := by
  refine Met.ofW (cc := cX12_makes) (maxL := 6) (ret := none) (by decide) rfl ?_
  intro p e s m args below meth c s₁ B hml hv
  obtain ⟨rfl, h0⟩ := hv
  have hx := B.exec
  have hb := B.bytes
  have hr := B.returns
  have hts := fun (w : Cond) (hw : w ∈ lwW) => atoms_spec (ws := (.code yX12_makes cX12_makes 6 none :: lwW)) B.pre w (List.mem_cons_of_mem _ hw)
  have hown : s.vm.findClass RX12 = some m.cls := findClass_of_methodNamed B.named
  have hlocks := B.notSynchronized
  have hP := h0.1
  have hK := h0.2.1
  have hi := h0.2.2
  have hS : va_S (mA G) s.heap s.heap [] := va_S.rf
  have hl := lv_entry ([.ref (G.1 k0), .int p1, .ref (G.1 k2), .int p3, .int p4, .ref (G.1 k5)]) (n := 6) (Nat.le_of_ble_eq_true rfl)
  rw [lg_entry_eq]
  generalize (lg_sl ([.ref (G.1 k0), .int p1, .ref (G.1 k2), .int p3, .int p4, .ref (G.1 k5)]) ++ List.replicate (6 - (lg_sl ([.ref (G.1 k0), .int p1, .ref (G.1 k2), .int p3, .int p4, .ref (G.1 k5)])).length) Slot.unset).toArray = ls at hl ⊢
  have hl : lv_has ls 6 [(0, .ref (G.1 k0)), (1, .int p1), (2, .ref (G.1 k2)), (3, .int p3), (4, .int p4), (5, .ref (G.1 k5))] := hl
  unfold fX12_makes at h
  refine lv_iload hx hb dX12_makes_0 (lv_at hl 4 rfl) ?_
  refine lv_if_ne (tgt := 17) hx hb dX12_makes_2 (by decide) (fun hcq1 => ?_) (fun hcq1 => ?_)
  · have h := ifn hcq1 h
    refine lv_aload_n hx hb dX12_makes_17 rfl (lv_at hl 2 rfl) ?_
    refine lv_iload_n hx hb dX12_makes_18 rfl (lv_at hl 3 rfl) ?_
    refine lv_aload_n hx hb dX12_makes_19 rfl (lv_at hl 0 rfl) ?_
    refine lv_iload_n hx hb dX12_makes_20 rfl (lv_at hl 1 rfl) ?_
    refine lv_aload hx hb dX12_makes_21 (lv_at hl 5 rfl) ?_
    obtain ⟨xq2, hfq3, h⟩ := obd h
    refine va_callv (va_runS (As := [.ref (G.1 k2), .int p3, .ref (G.1 k0), .int p1, .ref (G.1 k5)]) (rest := []) ⟨hx, hb, hml, hown, hts⟩ (kX12_product l D G _ k2 hk2 p3 k0 hk0 p1 k5 hk5 xq2 hfq3) (va_cwS 5 hts (lwW_gS mw_945 mw_946 mw_14 mw_947) rfl rfl rfl (by decide +kernel) ⟨Nat.le_of_ble_eq_true rfl, Nat.le_of_ble_eq_true rfl⟩) ⟨fun a U g mk q => ⟨q.1, mPre_call q.2⟩, fun U hU hW => ⟨rfl, mPre_at h0 hS hP hU hW⟩⟩ rfl rfl hl.1 rfl (lv_room (Nat.le_of_ble_eq_true rfl)) dX12_makes_23 ⟨Nat.zero_le _, Nat.zero_le _⟩) hS (fun q _ h => h) (fun q h => h) (fun u t H1 locs ht hvm hw hB hz1 hq1 hS => ?_)
    obtain rfl := hw.symm
    have hP := hB.1
    rw [ht] at hP
    refine W.widen (k := 0) (n := 0) (Nat.le_refl _) (Nat.le_refl _) ?_
    obtain rfl := Option.some.inj h
    exact W.vret hx hb hr (fun t ht hW => ⟨⟨_, rfl, rfl, mPre_at h0 hS hP ht hW⟩, hS.F ht⟩) hS.2.2 dX12_makes_26
  have h := ifp hcq1 h
  refine lv_aload_n hx hb dX12_makes_5 rfl (lv_at hl 0 rfl) ?_
  refine lv_iload_n hx hb dX12_makes_6 rfl (lv_at hl 1 rfl) ?_
  refine lv_aload_n hx hb dX12_makes_7 rfl (lv_at hl 2 rfl) ?_
  refine lv_iload_n hx hb dX12_makes_8 rfl (lv_at hl 3 rfl) ?_
  refine lv_aload hx hb dX12_makes_9 (lv_at hl 5 rfl) ?_
  obtain ⟨xq4, hfq5, h⟩ := obd h
  refine va_callv (va_runS (As := [.ref (G.1 k0), .int p1, .ref (G.1 k2), .int p3, .ref (G.1 k5)]) (rest := []) ⟨hx, hb, hml, hown, hts⟩ (kX12_product l D G _ k0 hk0 p1 k2 hk2 p3 k5 hk5 xq4 hfq5) (va_cwS 5 hts (lwW_gS mw_945 mw_946 mw_14 mw_947) rfl rfl rfl (by decide +kernel) ⟨Nat.le_of_ble_eq_true rfl, Nat.le_of_ble_eq_true rfl⟩) ⟨fun a U g mk q => ⟨q.1, mPre_call q.2⟩, fun U hU hW => ⟨rfl, mPre_at h0 hS hP hU hW⟩⟩ rfl rfl hl.1 rfl (lv_room (Nat.le_of_ble_eq_true rfl)) dX12_makes_11 ⟨Nat.zero_le _, Nat.zero_le _⟩) hS (fun q _ h => h) (fun q h => h) (fun u t H1 locs ht hvm hw hB hz1 hq1 hS => ?_)
  obtain rfl := hw.symm
  have hP := hB.1
  rw [ht] at hP
  refine W.widen (k := 0) (n := 0) (Nat.le_refl _) (Nat.le_refl _) ?_
  refine lv_goto (tgt := 26) hx hb dX12_makes_14 (by decide) ?_
  obtain rfl := Option.some.inj h
  exact W.vret hx hb hr (fun t ht hW => ⟨⟨_, rfl, rfl, mPre_at h0 hS hP ht hW⟩, hS.F ht⟩) hS.2.2 dX12_makes_26
def fX12_isGreater_J30 (k0 : Nat) (p1 : Int32) (k2 : Nat) (p3 : Int32) (v4 : Int32) (τ : QMem) : Option (Int32 × QMem) :=
  if (p1 + v4 < 0 ∨ ml k0 ≤ (p1 + v4).toNatClampNeg) then none else (if (p3 + v4 < 0 ∨ ml k2 ≤ (p3 + v4).toNatClampNeg) then none else (if (τ k0 (p1 + v4).toNatClampNeg) ≤ (τ k2 (p3 + v4).toNatClampNeg) then (some (0, τ)) else (some (1, τ))))
def fX12_isGreater_L3 (k0 : Nat) (p1 : Int32) (k2 : Nat) (p3 : Int32) : Nat → Int32 → QMem → Option (Int32 × QMem)
  | 0, _, _ => none
  | n + 1, v4, τ =>
  if 3 ≤ v4 then (fX12_isGreater_J30 k0 p1 k2 p3 v4 τ) else (if (p1 + v4 < 0 ∨ ml k0 ≤ (p1 + v4).toNatClampNeg) then none else (if (p3 + v4 < 0 ∨ ml k2 ≤ (p3 + v4).toNatClampNeg) then none else (if (τ k0 (p1 + v4).toNatClampNeg) = (τ k2 (p3 + v4).toNatClampNeg) then ((fX12_isGreater_L3 k0 p1 k2 p3 n) (v4 + 1) τ) else (fX12_isGreater_J30 k0 p1 k2 p3 v4 τ))))
def fX12_isGreater (k0 : Nat) (p1 : Int32) (k2 : Nat) (p3 : Int32) (σ : QMem) : Option (Int32 × QMem) :=
  fX12_isGreater_L3 k0 p1 k2 p3 FU 0 σ
set_option maxHeartbeats 4000000 in
set_option maxRecDepth 100000 in
theorem kX12_isGreater (l : Launch) (D : va_G) (G : xG) (σ : QMem) (k0 : Nat) (hk0 : mk k0 = 0) (p1 : Int32) (k2 : Nat) (hk2 : mk k2 = 0) (p3 : Int32) (res : Int32 × QMem) (h : fX12_isGreater k0 p1 k2 p3 σ = some res) : Met l yX12_isGreater (.code yX12_isGreater cX12_isGreater 5 (some .boolean) :: lwW) (rmD 0) (mPc D G σ [.ref (G.1 k0), .int p1, .ref (G.1 k2), .int p3]) (mQi D G res) 0 0 (mA G) := by
  refine Met.ofW (cc := cX12_isGreater) (maxL := 5) (ret := (some .boolean)) (by decide) rfl ?_
  intro p e s m args below meth c s₁ B hml hv
  obtain ⟨rfl, h0⟩ := hv
  have hx := B.exec
  have hb := B.bytes
  have hr := B.returns
  have hts := fun (w : Cond) (hw : w ∈ lwW) => atoms_spec (ws := (.code yX12_isGreater cX12_isGreater 5 (some .boolean) :: lwW)) B.pre w (List.mem_cons_of_mem _ hw)
  have hown : s.vm.findClass RX12 = some m.cls := findClass_of_methodNamed B.named
  have hlocks := B.notSynchronized
  have hP := h0.1
  have hK := h0.2.1
  have hi := h0.2.2
  have hS : va_S (mA G) s.heap s.heap [] := va_S.rf
  have hl := lv_entry ([.ref (G.1 k0), .int p1, .ref (G.1 k2), .int p3]) (n := 5) (Nat.le_of_ble_eq_true rfl)
  rw [lg_entry_eq]
  generalize (lg_sl ([.ref (G.1 k0), .int p1, .ref (G.1 k2), .int p3]) ++ List.replicate (5 - (lg_sl ([.ref (G.1 k0), .int p1, .ref (G.1 k2), .int p3])).length) Slot.unset).toArray = ls at hl ⊢
  have hl : lv_has ls 5 [(0, .ref (G.1 k0)), (1, .int p1), (2, .ref (G.1 k2)), (3, .int p3)] := hl
  unfold fX12_isGreater at h
  have J30 : ∀ (v4 : Int32) (τ : QMem) (H : Heap) (locs : List Loc) (ls : Array Slot), fX12_isGreater_J30 k0 p1 k2 p3 v4 τ = some res → va_P D vwCl (mW G τ) H → va_S (mA G) s.heap H locs → lv_has ls 5 [(0, .ref (G.1 k0)), (1, .int p1), (2, .ref (G.1 k2)), (3, .int p3), (4, .int v4)] → W p l e (headSpec (.code yX12_isGreater cX12_isGreater 5 (some .boolean) :: lwW) (rmD 0)).room s m ([.ref (G.1 k0), .int p1, .ref (G.1 k2), .int p3] : List Value).toArray below meth c H locs 0 0 (MQ below (mQi D G res) ([.ref (G.1 k0), .int p1, .ref (G.1 k2), .int p3] : List Value).toArray s 0 0 (mA G)) (F0 m 30 ls []) := by
    intro v4 τ H locs ls h hP hS hl
    unfold fX12_isGreater_J30 at h
    refine lv_aload_n hx hb dX12_isGreater_30 rfl (lv_at hl 0 rfl) ?_
    refine lv_iload_n hx hb dX12_isGreater_31 rfl (lv_at hl 1 rfl) ?_
    refine lv_iload hx hb dX12_isGreater_32 (lv_at hl 4 rfl) ?_
    refine lv_iadd hx hb dX12_isGreater_34 ?_
    obtain ⟨hiq4, h⟩ := nif h
    refine va_iald hx hb hK hP k0 0 (mg_0 hk0) rfl hiq4 dX12_isGreater_35 ?_
    refine lv_aload_n hx hb dX12_isGreater_36 rfl (lv_at hl 2 rfl) ?_
    refine lv_iload_n hx hb dX12_isGreater_37 rfl (lv_at hl 3 rfl) ?_
    refine lv_iload hx hb dX12_isGreater_38 (lv_at hl 4 rfl) ?_
    refine lv_iadd hx hb dX12_isGreater_40 ?_
    obtain ⟨hiq5, h⟩ := nif h
    refine va_iald hx hb hK hP k2 0 (mg_0 hk2) rfl hiq5 dX12_isGreater_41 ?_
    refine lv_icmp_le (tgt := 49) hx hb dX12_isGreater_42 (by decide) (fun hcq6 => ?_) (fun hcq6 => ?_)
    · have h := ifp hcq6 h
      refine lv_iconst (v := 0) hx hb dX12_isGreater_49 (by decide) ?_
      obtain rfl := Option.some.inj h
      exact W.zret hx hb hr rfl (fun t ht hW => ⟨⟨_, _, rfl, ⟨rfl, rfl⟩, mPre_at h0 hS hP ht hW⟩, hS.F ht⟩) hS.2.2 dX12_isGreater_50
    have h := ifn hcq6 h
    refine lv_iconst (v := 1) hx hb dX12_isGreater_45 (by decide) ?_
    refine lv_goto (tgt := 50) hx hb dX12_isGreater_46 (by decide) ?_
    obtain rfl := Option.some.inj h
    exact W.zret hx hb hr rfl (fun t ht hW => ⟨⟨_, _, rfl, ⟨rfl, rfl⟩, mPre_at h0 hS hP ht hW⟩, hS.F ht⟩) hS.2.2 dX12_isGreater_50
  have L3 : ∀ (n3 : Nat) (v4 : Int32) (τ : QMem) (H : Heap) (locs : List Loc) (ls : Array Slot), fX12_isGreater_L3 k0 p1 k2 p3 n3 v4 τ = some res → va_P D vwCl (mW G τ) H → va_S (mA G) s.heap H locs → lv_has ls 5 [(0, .ref (G.1 k0)), (1, .int p1), (2, .ref (G.1 k2)), (3, .int p3), (4, .int v4)] → W p l e (headSpec (.code yX12_isGreater cX12_isGreater 5 (some .boolean) :: lwW) (rmD 0)).room s m ([.ref (G.1 k0), .int p1, .ref (G.1 k2), .int p3] : List Value).toArray below meth c H locs 0 0 (MQ below (mQi D G res) ([.ref (G.1 k0), .int p1, .ref (G.1 k2), .int p3] : List Value).toArray s 0 0 (mA G)) (F0 m 3 ls []) := by
    intro n3
    induction n3 with
    | zero => intro v4 τ H locs ls h; rw [fX12_isGreater_L3] at h; cases h
    | succ n3 ih3 =>
      intro v4 τ H locs ls h hP hS hl
      rw [fX12_isGreater_L3] at h
      refine lv_iload hx hb dX12_isGreater_3 (lv_at hl 4 rfl) ?_
      refine lv_iconst (v := 3) hx hb dX12_isGreater_5 (by decide) ?_
      refine lv_icmp_ge (tgt := 30) hx hb dX12_isGreater_6 (by decide) (fun hcq7 => ?_) (fun hcq7 => ?_)
      · have h := ifp hcq7 h
        exact J30 v4 _ _ _ _ h hP hS (lv_sub hl [0, 1, 2, 3, 4] rfl)
      have h := ifn hcq7 h
      refine lv_aload_n hx hb dX12_isGreater_9 rfl (lv_at hl 0 rfl) ?_
      refine lv_iload_n hx hb dX12_isGreater_10 rfl (lv_at hl 1 rfl) ?_
      refine lv_iload hx hb dX12_isGreater_11 (lv_at hl 4 rfl) ?_
      refine lv_iadd hx hb dX12_isGreater_13 ?_
      obtain ⟨hiq8, h⟩ := nif h
      refine va_iald hx hb hK hP k0 0 (mg_0 hk0) rfl hiq8 dX12_isGreater_14 ?_
      refine lv_aload_n hx hb dX12_isGreater_15 rfl (lv_at hl 2 rfl) ?_
      refine lv_iload_n hx hb dX12_isGreater_16 rfl (lv_at hl 3 rfl) ?_
      refine lv_iload hx hb dX12_isGreater_17 (lv_at hl 4 rfl) ?_
      refine lv_iadd hx hb dX12_isGreater_19 ?_
      obtain ⟨hiq9, h⟩ := nif h
      refine va_iald hx hb hK hP k2 0 (mg_0 hk2) rfl hiq9 dX12_isGreater_20 ?_
      refine lv_icmp_ne (tgt := 30) hx hb dX12_isGreater_21 (by decide) (fun hcq10 => ?_) (fun hcq10 => ?_)
      · have h := ifn hcq10 h
        exact J30 v4 _ _ _ _ h hP hS (lv_sub hl [0, 1, 2, 3, 4] rfl)
      have h := ifp hcq10 h
      refine lv_iinc (v := v4 + 1) (lv' := [(4, .int (v4 + 1)), (0, .ref (G.1 k0)), (1, .int p1), (2, .ref (G.1 k2)), (3, .int p3)]) hx hb dX12_isGreater_24 hl (k := 4) rfl rfl (by decide) rfl (fun ls hl => ?_)
      refine lv_goto (tgt := 3) hx hb dX12_isGreater_27 (by decide) ?_
      exact ih3 (v4 + 1) _ _ _ _ h hP hS (lv_sub hl [1, 2, 3, 4, 0] rfl)
  refine lv_iconst (v := 0) hx hb dX12_isGreater_0 (by decide) ?_
  refine lv_istore (lv' := [(4, .int 0), (0, .ref (G.1 k0)), (1, .int p1), (2, .ref (G.1 k2)), (3, .int p3)]) hx hb dX12_isGreater_1 hl (by decide) rfl (fun ls hl => ?_)
  exact L3 FU 0 _ _ _ _ h hP hS (lv_sub hl [1, 2, 3, 4, 0] rfl)
def fX12_areLike (p0 : Int32) (p1 : Int32) (p2 : Int32) (p3 : Int32) : Option (Int32) :=
  if ((p0 - p1) - (p0 - p1) / 2 * 2) = 0 then (if ((p0 - p2) - (p0 - p2) / 2 * 2) = 0 then (if ((p0 - p3) - (p0 - p3) / 2 * 2) = 0 then (some 1) else (some 0)) else (some 0)) else (some 0)
set_option maxHeartbeats 4000000 in
set_option maxRecDepth 100000 in
theorem kX12_areLike (l : Launch) (p0 : Int32) (p1 : Int32) (p2 : Int32) (p3 : Int32) (res : Int32) (h : fX12_areLike p0 p1 p2 p3 = some res) : Met l yX12_areLike (.code yX12_areLike cX12_areLike 4 (some .boolean) :: lwW) (rmD 0) (nPc [.int p0, .int p1, .int p2, .int p3]) (nQi res) 0 0 (fun _ => False) := by
  refine Met.ofW (cc := cX12_areLike) (maxL := 4) (ret := (some .boolean)) (by decide) rfl ?_
  intro p e s m args below meth c s₁ B hml hv
  obtain ⟨rfl, h0⟩ := hv
  have hx := B.exec
  have hb := B.bytes
  have hr := B.returns
  have hts := fun (w : Cond) (hw : w ∈ lwW) => atoms_spec (ws := (.code yX12_areLike cX12_areLike 4 (some .boolean) :: lwW)) B.pre w (List.mem_cons_of_mem _ hw)
  have hown : s.vm.findClass RX12 = some m.cls := findClass_of_methodNamed B.named
  have hlocks := B.notSynchronized
  have hS : va_S (fun _ => False) s.heap s.heap [] := va_S.rf
  have hl := lv_entry ([.int p0, .int p1, .int p2, .int p3]) (n := 4) (Nat.le_of_ble_eq_true rfl)
  rw [lg_entry_eq]
  generalize (lg_sl ([.int p0, .int p1, .int p2, .int p3]) ++ List.replicate (4 - (lg_sl ([.int p0, .int p1, .int p2, .int p3])).length) Slot.unset).toArray = ls at hl ⊢
  have hl : lv_has ls 4 [(0, .int p0), (1, .int p1), (2, .int p2), (3, .int p3)] := hl
  unfold fX12_areLike at h
  refine lv_iload_n hx hb dX12_areLike_0 rfl (lv_at hl 0 rfl) ?_
  refine lv_iload_n hx hb dX12_areLike_1 rfl (lv_at hl 1 rfl) ?_
  refine lv_isub hx hb dX12_areLike_2 ?_
  refine lv_iconst (v := 2) hx hb dX12_areLike_3 (by decide) ?_
  refine lv_irem hx hb dX12_areLike_4 (by decide) ?_
  refine lv_if_ne (tgt := 28) hx hb dX12_areLike_5 (by decide) (fun hcq1 => ?_) (fun hcq1 => ?_)
  · have h := ifn hcq1 h
    refine lv_iconst (v := 0) hx hb dX12_areLike_28 (by decide) ?_
    obtain rfl := Option.some.inj h
    exact W.zret hx hb hr rfl (fun t ht hW => ⟨⟨_, (), rfl, rfl, trivial⟩, hS.F ht⟩) hS.2.2 dX12_areLike_29
  have h := ifp hcq1 h
  refine lv_iload_n hx hb dX12_areLike_8 rfl (lv_at hl 0 rfl) ?_
  refine lv_iload_n hx hb dX12_areLike_9 rfl (lv_at hl 2 rfl) ?_
  refine lv_isub hx hb dX12_areLike_10 ?_
  refine lv_iconst (v := 2) hx hb dX12_areLike_11 (by decide) ?_
  refine lv_irem hx hb dX12_areLike_12 (by decide) ?_
  refine lv_if_ne (tgt := 28) hx hb dX12_areLike_13 (by decide) (fun hcq2 => ?_) (fun hcq2 => ?_)
  · have h := ifn hcq2 h
    refine lv_iconst (v := 0) hx hb dX12_areLike_28 (by decide) ?_
    obtain rfl := Option.some.inj h
    exact W.zret hx hb hr rfl (fun t ht hW => ⟨⟨_, (), rfl, rfl, trivial⟩, hS.F ht⟩) hS.2.2 dX12_areLike_29
  have h := ifp hcq2 h
  refine lv_iload_n hx hb dX12_areLike_16 rfl (lv_at hl 0 rfl) ?_
  refine lv_iload_n hx hb dX12_areLike_17 rfl (lv_at hl 3 rfl) ?_
  refine lv_isub hx hb dX12_areLike_18 ?_
  refine lv_iconst (v := 2) hx hb dX12_areLike_19 (by decide) ?_
  refine lv_irem hx hb dX12_areLike_20 (by decide) ?_
  refine lv_if_ne (tgt := 28) hx hb dX12_areLike_21 (by decide) (fun hcq3 => ?_) (fun hcq3 => ?_)
  · have h := ifn hcq3 h
    refine lv_iconst (v := 0) hx hb dX12_areLike_28 (by decide) ?_
    obtain rfl := Option.some.inj h
    exact W.zret hx hb hr rfl (fun t ht hW => ⟨⟨_, (), rfl, rfl, trivial⟩, hS.F ht⟩) hS.2.2 dX12_areLike_29
  have h := ifp hcq3 h
  refine lv_iconst (v := 1) hx hb dX12_areLike_24 (by decide) ?_
  refine lv_goto (tgt := 29) hx hb dX12_areLike_25 (by decide) ?_
  obtain rfl := Option.some.inj h
  exact W.zret hx hb hr rfl (fun t ht hW => ⟨⟨_, (), rfl, rfl, trivial⟩, hS.F ht⟩) hS.2.2 dX12_areLike_29
def fX12_isNought (k0 : Nat) (p1 : Int32) (σ : QMem) : Option (Int32 × QMem) :=
  if (p1 < 0 ∨ ml k0 ≤ p1.toNatClampNeg) then none else (if (σ k0 p1.toNatClampNeg) = 0 then (if (p1 + 1 < 0 ∨ ml k0 ≤ (p1 + 1).toNatClampNeg) then none else (if (σ k0 (p1 + 1).toNatClampNeg) = 0 then (if (p1 + 2 < 0 ∨ ml k0 ≤ (p1 + 2).toNatClampNeg) then none else (if (σ k0 (p1 + 2).toNatClampNeg) = 0 then (if (p1 + 3 < 0 ∨ ml k0 ≤ (p1 + 3).toNatClampNeg) then none else (if (σ k0 (p1 + 3).toNatClampNeg) = 0 then (some (1, σ)) else (some (0, σ)))) else (some (0, σ)))) else (some (0, σ)))) else (some (0, σ)))
set_option maxHeartbeats 4000000 in
set_option maxRecDepth 100000 in
theorem kX12_isNought (l : Launch) (D : va_G) (G : xG) (σ : QMem) (k0 : Nat) (hk0 : mk k0 = 0) (p1 : Int32) (res : Int32 × QMem) (h : fX12_isNought k0 p1 σ = some res) : Met l yX12_isNought (.code yX12_isNought cX12_isNought 2 (some .boolean) :: lwW) (rmD 0) (mPc D G σ [.ref (G.1 k0), .int p1]) (mQi D G res) 0 0 (mA G) := by
  refine Met.ofW (cc := cX12_isNought) (maxL := 2) (ret := (some .boolean)) (by decide) rfl ?_
  intro p e s m args below meth c s₁ B hml hv
  obtain ⟨rfl, h0⟩ := hv
  have hx := B.exec
  have hb := B.bytes
  have hr := B.returns
  have hts := fun (w : Cond) (hw : w ∈ lwW) => atoms_spec (ws := (.code yX12_isNought cX12_isNought 2 (some .boolean) :: lwW)) B.pre w (List.mem_cons_of_mem _ hw)
  have hown : s.vm.findClass RX12 = some m.cls := findClass_of_methodNamed B.named
  have hlocks := B.notSynchronized
  have hP := h0.1
  have hK := h0.2.1
  have hi := h0.2.2
  have hS : va_S (mA G) s.heap s.heap [] := va_S.rf
  have hl := lv_entry ([.ref (G.1 k0), .int p1]) (n := 2) (Nat.le_of_ble_eq_true rfl)
  rw [lg_entry_eq]
  generalize (lg_sl ([.ref (G.1 k0), .int p1]) ++ List.replicate (2 - (lg_sl ([.ref (G.1 k0), .int p1])).length) Slot.unset).toArray = ls at hl ⊢
  have hl : lv_has ls 2 [(0, .ref (G.1 k0)), (1, .int p1)] := hl
  unfold fX12_isNought at h
  refine lv_aload_n hx hb dX12_isNought_0 rfl (lv_at hl 0 rfl) ?_
  refine lv_iload_n hx hb dX12_isNought_1 rfl (lv_at hl 1 rfl) ?_
  obtain ⟨hiq1, h⟩ := nif h
  refine va_iald hx hb hK hP k0 0 (mg_0 hk0) rfl hiq1 dX12_isNought_2 ?_
  refine lv_if_ne (tgt := 34) hx hb dX12_isNought_3 (by decide) (fun hcq2 => ?_) (fun hcq2 => ?_)
  · have h := ifn hcq2 h
    refine lv_iconst (v := 0) hx hb dX12_isNought_34 (by decide) ?_
    obtain rfl := Option.some.inj h
    exact W.zret hx hb hr rfl (fun t ht hW => ⟨⟨_, _, rfl, ⟨rfl, rfl⟩, mPre_at h0 hS hP ht hW⟩, hS.F ht⟩) hS.2.2 dX12_isNought_35
  have h := ifp hcq2 h
  refine lv_aload_n hx hb dX12_isNought_6 rfl (lv_at hl 0 rfl) ?_
  refine lv_iload_n hx hb dX12_isNought_7 rfl (lv_at hl 1 rfl) ?_
  refine lv_iconst (v := 1) hx hb dX12_isNought_8 (by decide) ?_
  refine lv_iadd hx hb dX12_isNought_9 ?_
  obtain ⟨hiq3, h⟩ := nif h
  refine va_iald hx hb hK hP k0 0 (mg_0 hk0) rfl hiq3 dX12_isNought_10 ?_
  refine lv_if_ne (tgt := 34) hx hb dX12_isNought_11 (by decide) (fun hcq4 => ?_) (fun hcq4 => ?_)
  · have h := ifn hcq4 h
    refine lv_iconst (v := 0) hx hb dX12_isNought_34 (by decide) ?_
    obtain rfl := Option.some.inj h
    exact W.zret hx hb hr rfl (fun t ht hW => ⟨⟨_, _, rfl, ⟨rfl, rfl⟩, mPre_at h0 hS hP ht hW⟩, hS.F ht⟩) hS.2.2 dX12_isNought_35
  have h := ifp hcq4 h
  refine lv_aload_n hx hb dX12_isNought_14 rfl (lv_at hl 0 rfl) ?_
  refine lv_iload_n hx hb dX12_isNought_15 rfl (lv_at hl 1 rfl) ?_
  refine lv_iconst (v := 2) hx hb dX12_isNought_16 (by decide) ?_
  refine lv_iadd hx hb dX12_isNought_17 ?_
  obtain ⟨hiq5, h⟩ := nif h
  refine va_iald hx hb hK hP k0 0 (mg_0 hk0) rfl hiq5 dX12_isNought_18 ?_
  refine lv_if_ne (tgt := 34) hx hb dX12_isNought_19 (by decide) (fun hcq6 => ?_) (fun hcq6 => ?_)
  · have h := ifn hcq6 h
    refine lv_iconst (v := 0) hx hb dX12_isNought_34 (by decide) ?_
    obtain rfl := Option.some.inj h
    exact W.zret hx hb hr rfl (fun t ht hW => ⟨⟨_, _, rfl, ⟨rfl, rfl⟩, mPre_at h0 hS hP ht hW⟩, hS.F ht⟩) hS.2.2 dX12_isNought_35
  have h := ifp hcq6 h
  refine lv_aload_n hx hb dX12_isNought_22 rfl (lv_at hl 0 rfl) ?_
  refine lv_iload_n hx hb dX12_isNought_23 rfl (lv_at hl 1 rfl) ?_
  refine lv_iconst (v := 3) hx hb dX12_isNought_24 (by decide) ?_
  refine lv_iadd hx hb dX12_isNought_25 ?_
  obtain ⟨hiq7, h⟩ := nif h
  refine va_iald hx hb hK hP k0 0 (mg_0 hk0) rfl hiq7 dX12_isNought_26 ?_
  refine lv_if_ne (tgt := 34) hx hb dX12_isNought_27 (by decide) (fun hcq8 => ?_) (fun hcq8 => ?_)
  · have h := ifn hcq8 h
    refine lv_iconst (v := 0) hx hb dX12_isNought_34 (by decide) ?_
    obtain rfl := Option.some.inj h
    exact W.zret hx hb hr rfl (fun t ht hW => ⟨⟨_, _, rfl, ⟨rfl, rfl⟩, mPre_at h0 hS hP ht hW⟩, hS.F ht⟩) hS.2.2 dX12_isNought_35
  have h := ifp hcq8 h
  refine lv_iconst (v := 1) hx hb dX12_isNought_30 (by decide) ?_
  refine lv_goto (tgt := 35) hx hb dX12_isNought_31 (by decide) ?_
  obtain rfl := Option.some.inj h
  exact W.zret hx hb hr rfl (fun t ht hW => ⟨⟨_, _, rfl, ⟨rfl, rfl⟩, mPre_at h0 hS hP ht hW⟩, hS.F ht⟩) hS.2.2 dX12_isNought_35
def fX12_isDivisor_J68 (k1 : Nat) (p2 : Int32) (k3 : Nat) (p4 : Int32) (p5 : Int32) (K39 : Int32 → Int32 → Int32 → QMem → Option (Int32 × QMem)) (v6 : Int32) (v8 : Int32) (s0 : Int32) (τ : QMem) : Option (Int32 × QMem) :=
  if (v8 < 0 ∨ ml 3 ≤ v8.toNatClampNeg) then none else (if v6 = 0 then none else (if (v8 < 0 ∨ ml 3 ≤ v8.toNatClampNeg) then none else (K39 v6 s0 (v8 + 1) (ms τ 3 v8.toNatClampNeg ((τ 3 v8.toNatClampNeg) / v6)))))
def fX12_isDivisor_J67 (k1 : Nat) (p2 : Int32) (k3 : Nat) (p4 : Int32) (p5 : Int32) (K39 : Int32 → Int32 → Int32 → QMem → Option (Int32 × QMem)) (v6 : Int32) (v8 : Int32) (τ : QMem) : Option (Int32 × QMem) :=
  fX12_isDivisor_J68 k1 p2 k3 p4 p5 K39 v6 v8 0 τ
def fX12_isDivisor_L39 (k1 : Nat) (p2 : Int32) (k3 : Nat) (p4 : Int32) (p5 : Int32) : Nat → Int32 → Int32 → Int32 → QMem → Option (Int32 × QMem)
  | 0, _, _, _, _ => none
  | n + 1, v6, v7, v8, τ =>
  if 4 ≤ v8 then (if v7 = 0 then (some (0, τ)) else (if ((0 : Int32) < 0 ∨ ml 3 ≤ (0 : Int32).toNatClampNeg) then none else (if ((1 : Int32) < 0 ∨ ml 3 ≤ (1 : Int32).toNatClampNeg) then none else (if ((2 : Int32) < 0 ∨ ml 3 ≤ (2 : Int32).toNatClampNeg) then none else (if ((3 : Int32) < 0 ∨ ml 3 ≤ (3 : Int32).toNatClampNeg) then none else ((fX12_areLike (τ 3 (0 : Int32).toNatClampNeg) (τ 3 (1 : Int32).toNatClampNeg) (τ 3 (2 : Int32).toNatClampNeg) (τ 3 (3 : Int32).toNatClampNeg)).bind fun xq13 => (if xq13 = 0 then (some (0, τ)) else (some (1, τ))))))))) else (if v7 = 0 then (fX12_isDivisor_J67 k1 p2 k3 p4 p5 (fX12_isDivisor_L39 k1 p2 k3 p4 p5 n) v6 v8 τ) else (if (v8 < 0 ∨ ml 3 ≤ v8.toNatClampNeg) then none else (if v6 = 0 then none else (if ((τ 3 v8.toNatClampNeg) - (τ 3 v8.toNatClampNeg) / v6 * v6) = 0 then (fX12_isDivisor_J68 k1 p2 k3 p4 p5 (fX12_isDivisor_L39 k1 p2 k3 p4 p5 n) v6 v8 1 τ) else (fX12_isDivisor_J67 k1 p2 k3 p4 p5 (fX12_isDivisor_L39 k1 p2 k3 p4 p5 n) v6 v8 τ)))))
def fX12_isDivisor (k1 : Nat) (p2 : Int32) (k3 : Nat) (p4 : Int32) (p5 : Int32) (σ : QMem) : Option (Int32 × QMem) :=
  (fX12_normOf k1 p2 σ).bind fun xq20 => ((fX12_conjugates k1 p2 2 xq20.2).bind fun xq22 => ((fX12_makes 2 0 k3 p4 p5 3 xq22).bind fun xq24 => (fX12_isDivisor_L39 k1 p2 k3 p4 p5 FU xq20.1 1 0 xq24)))
set_option maxHeartbeats 4000000 in
set_option maxRecDepth 100000 in
theorem kX12_isDivisor (l : Launch) (D : va_G) (G : xG) (σ : QMem) (k1 : Nat) (hk1 : mk k1 = 0) (p2 : Int32) (k3 : Nat) (hk3 : mk k3 = 0) (p4 : Int32) (p5 : Int32) (res : Int32 × QMem) (h : fX12_isDivisor k1 p2 k3 p4 p5 σ = some res) : Met l yX12_isDivisor (.code yX12_isDivisor cX12_isDivisor 9 (some .boolean) :: lwW) (rmD 2) (mPc D G σ [.ref (G.1 28), .ref (G.1 k1), .int p2, .ref (G.1 k3), .int p4, .int p5]) (mQi D G res) 0 0 (mA G) := by
  refine Met.ofW (cc := cX12_isDivisor) (maxL := 9) (ret := (some .boolean)) (by decide) rfl ?_
  intro p e s m args below meth c s₁ B hml hv
  obtain ⟨rfl, h0⟩ := hv
  have hx := B.exec
  have hb := B.bytes
  have hr := B.returns
  have hts := fun (w : Cond) (hw : w ∈ lwW) => atoms_spec (ws := (.code yX12_isDivisor cX12_isDivisor 9 (some .boolean) :: lwW)) B.pre w (List.mem_cons_of_mem _ hw)
  have hown : s.vm.findClass RX12 = some m.cls := findClass_of_methodNamed B.named
  have hlocks := B.notSynchronized
  have hP := h0.1
  have hK := h0.2.1
  have hi := h0.2.2
  have hS : va_S (mA G) s.heap s.heap [] := va_S.rf
  have hl := lv_entry ([.ref (G.1 28), .ref (G.1 k1), .int p2, .ref (G.1 k3), .int p4, .int p5]) (n := 9) (Nat.le_of_ble_eq_true rfl)
  rw [lg_entry_eq]
  generalize (lg_sl ([.ref (G.1 28), .ref (G.1 k1), .int p2, .ref (G.1 k3), .int p4, .int p5]) ++ List.replicate (9 - (lg_sl ([.ref (G.1 28), .ref (G.1 k1), .int p2, .ref (G.1 k3), .int p4, .int p5])).length) Slot.unset).toArray = ls at hl ⊢
  have hl : lv_has ls 9 [(0, .ref (G.1 28)), (1, .ref (G.1 k1)), (2, .int p2), (3, .ref (G.1 k3)), (4, .int p4), (5, .int p5)] := hl
  unfold fX12_isDivisor at h
  have L39 : ∀ (n39 : Nat) (v6 : Int32) (v7 : Int32) (v8 : Int32) (τ : QMem) (H : Heap) (locs : List Loc) (ls : Array Slot), fX12_isDivisor_L39 k1 p2 k3 p4 p5 n39 v6 v7 v8 τ = some res → va_P D vwCl (mW G τ) H → va_S (mA G) s.heap H locs → lv_has ls 9 [(0, .ref (G.1 28)), (6, .int v6), (7, .int v7), (8, .int v8)] → W p l e (headSpec (.code yX12_isDivisor cX12_isDivisor 9 (some .boolean) :: lwW) (rmD 2)).room s m ([.ref (G.1 28), .ref (G.1 k1), .int p2, .ref (G.1 k3), .int p4, .int p5] : List Value).toArray below meth c H locs 0 0 (MQ below (mQi D G res) ([.ref (G.1 28), .ref (G.1 k1), .int p2, .ref (G.1 k3), .int p4, .int p5] : List Value).toArray s 0 0 (mA G)) (F0 m 39 ls []) := by
    intro n39
    induction n39 with
    | zero => intro v6 v7 v8 τ H locs ls h; rw [fX12_isDivisor_L39] at h; cases h
    | succ n39 ih39 =>
      intro v6 v7 v8 τ H locs ls h hP hS hl
      rw [fX12_isDivisor_L39] at h
      have J68 : ∀ (v6 : Int32) (v8 : Int32) (s0 : Int32) (τ : QMem) (H : Heap) (locs : List Loc) (ls : Array Slot), fX12_isDivisor_J68 k1 p2 k3 p4 p5 (fX12_isDivisor_L39 k1 p2 k3 p4 p5 n39) v6 v8 s0 τ = some res → va_P D vwCl (mW G τ) H → va_S (mA G) s.heap H locs → lv_has ls 9 [(0, .ref (G.1 28)), (6, .int v6), (8, .int v8)] → W p l e (headSpec (.code yX12_isDivisor cX12_isDivisor 9 (some .boolean) :: lwW) (rmD 2)).room s m ([.ref (G.1 28), .ref (G.1 k1), .int p2, .ref (G.1 k3), .int p4, .int p5] : List Value).toArray below meth c H locs 0 0 (MQ below (mQi D G res) ([.ref (G.1 28), .ref (G.1 k1), .int p2, .ref (G.1 k3), .int p4, .int p5] : List Value).toArray s 0 0 (mA G)) (F0 m 68 ls [.int s0]) := by
        intro v6 v8 s0 τ H locs ls h hP hS hl
        unfold fX12_isDivisor_J68 at h
        refine lv_istore (lv' := [(7, .int s0), (0, .ref (G.1 28)), (6, .int v6), (8, .int v8)]) hx hb dX12_isDivisor_68 hl (by decide) rfl (fun ls hl => ?_)
        refine lv_aload_n hx hb dX12_isDivisor_70 rfl (lv_at hl 1 rfl) ?_
        refine va_get (D := D) (ci := 12) (v := .ref (G.1 3)) (C := RX12) (T := TX12) (N := 34) hx hb hts iwX12 hown hK hP 28 (mg_2 rfl) rfl 3 (by decide) (hts _ mw_961) (fun _ h9 => h9) rfl dX12_isDivisor_71 ?_
        refine lv_iload hx hb dX12_isDivisor_74 (lv_at hl 3 rfl) ?_
        refine lv_dup2_11 hx hb dX12_isDivisor_76 rfl rfl ?_
        obtain ⟨hiq4, h⟩ := nif h
        refine va_iald hx hb hK hP 3 0 (mg_0 rfl) rfl hiq4 dX12_isDivisor_77 ?_
        refine lv_iload hx hb dX12_isDivisor_78 (lv_at hl 2 rfl) ?_
        obtain ⟨hdq5, h⟩ := nif h
        refine lv_idiv hx hb dX12_isDivisor_80 hdq5 ?_
        obtain ⟨hiq6, h⟩ := nif h
        refine va_iast hx hb hK hP (mD hi) hS 3 0 (mg_0 rfl) rfl hiq6 dX12_isDivisor_81 (fun H locs hP hD hS => ?_)
        have hP : va_P D vwCl (mW G (ms τ 3 v8.toNatClampNeg ((τ 3 v8.toNatClampNeg) / v6))) H := by rw [← ms_0x rfl]; exact hP
        refine lv_iinc (v := v8 + 1) (lv' := [(8, .int (v8 + 1)), (7, .int s0), (0, .ref (G.1 28)), (6, .int v6)]) hx hb dX12_isDivisor_82 hl (k := 3) rfl rfl (by decide) rfl (fun ls hl => ?_)
        refine lv_goto (tgt := 39) hx hb dX12_isDivisor_85 (by decide) ?_
        exact ih39 v6 s0 (v8 + 1) _ _ _ _ h hP hS (lv_sub hl [2, 3, 1, 0] rfl)
      have J67 : ∀ (v6 : Int32) (v8 : Int32) (τ : QMem) (H : Heap) (locs : List Loc) (ls : Array Slot), fX12_isDivisor_J67 k1 p2 k3 p4 p5 (fX12_isDivisor_L39 k1 p2 k3 p4 p5 n39) v6 v8 τ = some res → va_P D vwCl (mW G τ) H → va_S (mA G) s.heap H locs → lv_has ls 9 [(0, .ref (G.1 28)), (6, .int v6), (8, .int v8)] → W p l e (headSpec (.code yX12_isDivisor cX12_isDivisor 9 (some .boolean) :: lwW) (rmD 2)).room s m ([.ref (G.1 28), .ref (G.1 k1), .int p2, .ref (G.1 k3), .int p4, .int p5] : List Value).toArray below meth c H locs 0 0 (MQ below (mQi D G res) ([.ref (G.1 28), .ref (G.1 k1), .int p2, .ref (G.1 k3), .int p4, .int p5] : List Value).toArray s 0 0 (mA G)) (F0 m 67 ls []) := by
        intro v6 v8 τ H locs ls h hP hS hl
        unfold fX12_isDivisor_J67 at h
        refine lv_iconst (v := 0) hx hb dX12_isDivisor_67 (by decide) ?_
        exact J68 v6 v8 0 _ _ _ _ h hP hS (lv_sub hl [0, 1, 2] rfl)
      refine lv_iload hx hb dX12_isDivisor_39 (lv_at hl 3 rfl) ?_
      refine lv_iconst (v := 4) hx hb dX12_isDivisor_41 (by decide) ?_
      refine lv_icmp_ge (tgt := 88) hx hb dX12_isDivisor_42 (by decide) (fun hcq7 => ?_) (fun hcq7 => ?_)
      · have h := ifp hcq7 h
        refine lv_iload hx hb dX12_isDivisor_88 (lv_at hl 2 rfl) ?_
        refine lv_if_eq (tgt := 127) hx hb dX12_isDivisor_90 (by decide) (fun hcq8 => ?_) (fun hcq8 => ?_)
        · have h := ifp hcq8 h
          refine lv_iconst (v := 0) hx hb dX12_isDivisor_127 (by decide) ?_
          obtain rfl := Option.some.inj h
          exact W.zret hx hb hr rfl (fun t ht hW => ⟨⟨_, _, rfl, ⟨rfl, rfl⟩, mPre_at h0 hS hP ht hW⟩, hS.F ht⟩) hS.2.2 dX12_isDivisor_128
        have h := ifn hcq8 h
        refine lv_aload_n hx hb dX12_isDivisor_93 rfl (lv_at hl 0 rfl) ?_
        refine va_get (D := D) (ci := 12) (v := .ref (G.1 3)) (C := RX12) (T := TX12) (N := 34) hx hb hts iwX12 hown hK hP 28 (mg_2 rfl) rfl 3 (by decide) (hts _ mw_961) (fun _ h9 => h9) rfl dX12_isDivisor_94 ?_
        refine lv_iconst (v := 0) hx hb dX12_isDivisor_97 (by decide) ?_
        obtain ⟨hiq9, h⟩ := nif h
        refine va_iald hx hb hK hP 3 0 (mg_0 rfl) rfl hiq9 dX12_isDivisor_98 ?_
        refine lv_aload_n hx hb dX12_isDivisor_99 rfl (lv_at hl 0 rfl) ?_
        refine va_get (D := D) (ci := 12) (v := .ref (G.1 3)) (C := RX12) (T := TX12) (N := 34) hx hb hts iwX12 hown hK hP 28 (mg_2 rfl) rfl 3 (by decide) (hts _ mw_961) (fun _ h9 => h9) rfl dX12_isDivisor_100 ?_
        refine lv_iconst (v := 1) hx hb dX12_isDivisor_103 (by decide) ?_
        obtain ⟨hiq10, h⟩ := nif h
        refine va_iald hx hb hK hP 3 0 (mg_0 rfl) rfl hiq10 dX12_isDivisor_104 ?_
        refine lv_aload_n hx hb dX12_isDivisor_105 rfl (lv_at hl 0 rfl) ?_
        refine va_get (D := D) (ci := 12) (v := .ref (G.1 3)) (C := RX12) (T := TX12) (N := 34) hx hb hts iwX12 hown hK hP 28 (mg_2 rfl) rfl 3 (by decide) (hts _ mw_961) (fun _ h9 => h9) rfl dX12_isDivisor_106 ?_
        refine lv_iconst (v := 2) hx hb dX12_isDivisor_109 (by decide) ?_
        obtain ⟨hiq11, h⟩ := nif h
        refine va_iald hx hb hK hP 3 0 (mg_0 rfl) rfl hiq11 dX12_isDivisor_110 ?_
        refine lv_aload_n hx hb dX12_isDivisor_111 rfl (lv_at hl 0 rfl) ?_
        refine va_get (D := D) (ci := 12) (v := .ref (G.1 3)) (C := RX12) (T := TX12) (N := 34) hx hb hts iwX12 hown hK hP 28 (mg_2 rfl) rfl 3 (by decide) (hts _ mw_961) (fun _ h9 => h9) rfl dX12_isDivisor_112 ?_
        refine lv_iconst (v := 3) hx hb dX12_isDivisor_115 (by decide) ?_
        obtain ⟨hiq12, h⟩ := nif h
        refine va_iald hx hb hK hP 3 0 (mg_0 rfl) rfl hiq12 dX12_isDivisor_116 ?_
        obtain ⟨xq13, hfq14, h⟩ := obd h
        refine va_calli (va_runS (As := [.int (τ 3 (0 : Int32).toNatClampNeg), .int (τ 3 (1 : Int32).toNatClampNeg), .int (τ 3 (2 : Int32).toNatClampNeg), .int (τ 3 (3 : Int32).toNatClampNeg)]) (rest := []) ⟨hx, hb, hml, hown, hts⟩ (kX12_areLike l (τ 3 (0 : Int32).toNatClampNeg) (τ 3 (1 : Int32).toNatClampNeg) (τ 3 (2 : Int32).toNatClampNeg) (τ 3 (3 : Int32).toNatClampNeg) xq13 hfq14) (va_cwS 4 hts (lwW_gS mw_925 mw_926 mw_14 mw_927) rfl rfl rfl (by decide +kernel) ⟨Nat.le_of_ble_eq_true rfl, Nat.le_of_ble_eq_true rfl⟩) ⟨fun a U g mk q => ⟨q.1, trivial⟩, fun U hU hW => ⟨rfl, trivial⟩⟩ rfl rfl hl.1 rfl (lv_room (Nat.le_of_ble_eq_true rfl)) dX12_isDivisor_117 ⟨Nat.zero_le _, Nat.zero_le _⟩) hS (fun q _ h => h.elim) (fun q h => h.elim) (fun r u t H1 locs ht hvm hw hB hz1 hq1 hS => ?_)
        obtain rfl := hw.symm
        have hP := mP_kept hP hq1
        refine W.widen (k := 0) (n := 0) (Nat.le_refl _) (Nat.le_refl _) ?_
        refine lv_if_eq (tgt := 127) hx hb dX12_isDivisor_120 (by decide) (fun hcq15 => ?_) (fun hcq15 => ?_)
        · have h := ifp hcq15 h
          refine lv_iconst (v := 0) hx hb dX12_isDivisor_127 (by decide) ?_
          obtain rfl := Option.some.inj h
          exact W.zret hx hb hr rfl (fun t ht hW => ⟨⟨_, _, rfl, ⟨rfl, rfl⟩, mPre_at h0 hS hP ht hW⟩, hS.F ht⟩) hS.2.2 dX12_isDivisor_128
        have h := ifn hcq15 h
        refine lv_iconst (v := 1) hx hb dX12_isDivisor_123 (by decide) ?_
        refine lv_goto (tgt := 128) hx hb dX12_isDivisor_124 (by decide) ?_
        obtain rfl := Option.some.inj h
        exact W.zret hx hb hr rfl (fun t ht hW => ⟨⟨_, _, rfl, ⟨rfl, rfl⟩, mPre_at h0 hS hP ht hW⟩, hS.F ht⟩) hS.2.2 dX12_isDivisor_128
      have h := ifn hcq7 h
      refine lv_iload hx hb dX12_isDivisor_45 (lv_at hl 2 rfl) ?_
      refine lv_if_eq (tgt := 67) hx hb dX12_isDivisor_47 (by decide) (fun hcq16 => ?_) (fun hcq16 => ?_)
      · have h := ifp hcq16 h
        exact J67 v6 v8 _ _ _ _ h hP hS (lv_sub hl [0, 1, 3] rfl)
      have h := ifn hcq16 h
      refine lv_aload_n hx hb dX12_isDivisor_50 rfl (lv_at hl 0 rfl) ?_
      refine va_get (D := D) (ci := 12) (v := .ref (G.1 3)) (C := RX12) (T := TX12) (N := 34) hx hb hts iwX12 hown hK hP 28 (mg_2 rfl) rfl 3 (by decide) (hts _ mw_961) (fun _ h9 => h9) rfl dX12_isDivisor_51 ?_
      refine lv_iload hx hb dX12_isDivisor_54 (lv_at hl 3 rfl) ?_
      obtain ⟨hiq17, h⟩ := nif h
      refine va_iald hx hb hK hP 3 0 (mg_0 rfl) rfl hiq17 dX12_isDivisor_56 ?_
      refine lv_iload hx hb dX12_isDivisor_57 (lv_at hl 1 rfl) ?_
      obtain ⟨hdq18, h⟩ := nif h
      refine lv_irem hx hb dX12_isDivisor_59 hdq18 ?_
      refine lv_if_ne (tgt := 67) hx hb dX12_isDivisor_60 (by decide) (fun hcq19 => ?_) (fun hcq19 => ?_)
      · have h := ifn hcq19 h
        exact J67 v6 v8 _ _ _ _ h hP hS (lv_sub hl [0, 1, 3] rfl)
      have h := ifp hcq19 h
      refine lv_iconst (v := 1) hx hb dX12_isDivisor_63 (by decide) ?_
      refine lv_goto (tgt := 68) hx hb dX12_isDivisor_64 (by decide) ?_
      exact J68 v6 v8 1 _ _ _ _ h hP hS (lv_sub hl [0, 1, 3] rfl)
  refine lv_aload_n hx hb dX12_isDivisor_0 rfl (lv_at hl 1 rfl) ?_
  refine lv_iload_n hx hb dX12_isDivisor_1 rfl (lv_at hl 2 rfl) ?_
  obtain ⟨xq20, hfq21, h⟩ := obd h
  refine va_calli (va_runS (As := [.ref (G.1 k1), .int p2]) (rest := []) ⟨hx, hb, hml, hown, hts⟩ (kX12_normOf l D G _ k1 hk1 p2 xq20 hfq21) (va_cwS 2 hts (lwW_gS mw_936 mw_937 mw_14 mw_938) rfl rfl rfl (by decide +kernel) ⟨Nat.le_of_ble_eq_true rfl, Nat.le_of_ble_eq_true rfl⟩) ⟨fun a U g mk q => ⟨q.1, mPre_call q.2⟩, fun U hU hW => ⟨rfl, mPre_at h0 hS hP hU hW⟩⟩ rfl rfl hl.1 rfl (lv_room (Nat.le_of_ble_eq_true rfl)) dX12_isDivisor_2 ⟨Nat.zero_le _, Nat.zero_le _⟩) hS (fun q _ h => h) (fun q h => h) (fun r u t H1 locs ht hvm hw hB hz1 hq1 hS => ?_)
  obtain ⟨rfl, rfl⟩ := hw
  have hP := hB.1
  rw [ht] at hP
  refine W.widen (k := 0) (n := 0) (Nat.le_refl _) (Nat.le_refl _) ?_
  refine lv_istore (lv' := [(6, .int xq20.1), (0, .ref (G.1 28)), (1, .ref (G.1 k1)), (2, .int p2), (3, .ref (G.1 k3)), (4, .int p4), (5, .int p5)]) hx hb dX12_isDivisor_5 hl (by decide) rfl (fun ls hl => ?_)
  refine lv_aload_n hx hb dX12_isDivisor_7 rfl (lv_at hl 2 rfl) ?_
  refine lv_iload_n hx hb dX12_isDivisor_8 rfl (lv_at hl 3 rfl) ?_
  refine lv_aload_n hx hb dX12_isDivisor_9 rfl (lv_at hl 1 rfl) ?_
  refine va_get (D := D) (ci := 12) (v := .ref (G.1 2)) (C := RX12) (T := TX12) (N := 34) hx hb hts iwX12 hown hK hP 28 (mg_2 rfl) rfl 2 (by decide) (hts _ mw_960) (fun _ h9 => h9) rfl dX12_isDivisor_10 ?_
  obtain ⟨xq22, hfq23, h⟩ := obd h
  refine va_callv (va_runS (As := [.ref (G.1 k1), .int p2, .ref (G.1 2)]) (rest := []) ⟨hx, hb, hml, hown, hts⟩ (kX12_conjugates l D G _ k1 hk1 p2 2 rfl xq22 hfq23) (va_cwS 3 hts (lwW_gS mw_939 mw_940 mw_14 mw_941) rfl rfl rfl (by decide +kernel) ⟨Nat.le_of_ble_eq_true rfl, Nat.le_of_ble_eq_true rfl⟩) ⟨fun a U g mk q => ⟨q.1, mPre_call q.2⟩, fun U hU hW => ⟨rfl, mPre_at h0 hS hP hU hW⟩⟩ rfl rfl hl.1 rfl (lv_room (Nat.le_of_ble_eq_true rfl)) dX12_isDivisor_13 ⟨Nat.zero_le _, Nat.zero_le _⟩) hS (fun q _ h => h) (fun q h => h) (fun u t H1 locs ht hvm hw hB hz1 hq1 hS => ?_)
  obtain rfl := hw.symm
  have hP := hB.1
  rw [ht] at hP
  refine W.widen (k := 0) (n := 0) (Nat.le_refl _) (Nat.le_refl _) ?_
  refine lv_aload_n hx hb dX12_isDivisor_16 rfl (lv_at hl 1 rfl) ?_
  refine va_get (D := D) (ci := 12) (v := .ref (G.1 2)) (C := RX12) (T := TX12) (N := 34) hx hb hts iwX12 hown hK hP 28 (mg_2 rfl) rfl 2 (by decide) (hts _ mw_960) (fun _ h9 => h9) rfl dX12_isDivisor_17 ?_
  refine lv_iconst (v := 0) hx hb dX12_isDivisor_20 (by decide) ?_
  refine lv_aload_n hx hb dX12_isDivisor_21 rfl (lv_at hl 4 rfl) ?_
  refine lv_iload hx hb dX12_isDivisor_22 (lv_at hl 5 rfl) ?_
  refine lv_iload hx hb dX12_isDivisor_24 (lv_at hl 6 rfl) ?_
  refine lv_aload_n hx hb dX12_isDivisor_26 rfl (lv_at hl 1 rfl) ?_
  refine va_get (D := D) (ci := 12) (v := .ref (G.1 3)) (C := RX12) (T := TX12) (N := 34) hx hb hts iwX12 hown hK hP 28 (mg_2 rfl) rfl 3 (by decide) (hts _ mw_961) (fun _ h9 => h9) rfl dX12_isDivisor_27 ?_
  obtain ⟨xq24, hfq25, h⟩ := obd h
  refine va_callv (va_runS (As := [.ref (G.1 2), .int 0, .ref (G.1 k3), .int p4, .int p5, .ref (G.1 3)]) (rest := []) ⟨hx, hb, hml, hown, hts⟩ (kX12_makes l D G _ 2 rfl 0 k3 hk3 p4 p5 3 rfl xq24 hfq25) (va_cwS 6 hts (lwW_gS mw_942 mw_943 mw_14 mw_944) rfl rfl rfl (by decide +kernel) ⟨Nat.le_of_ble_eq_true rfl, Nat.le_of_ble_eq_true rfl⟩) ⟨fun a U g mk q => ⟨q.1, mPre_call q.2⟩, fun U hU hW => ⟨rfl, mPre_at h0 hS hP hU hW⟩⟩ rfl rfl hl.1 rfl (lv_room (Nat.le_of_ble_eq_true rfl)) dX12_isDivisor_30 ⟨Nat.zero_le _, Nat.zero_le _⟩) hS (fun q _ h => h) (fun q h => h) (fun u t H1 locs ht hvm hw hB hz1 hq1 hS => ?_)
  obtain rfl := hw.symm
  have hP := hB.1
  rw [ht] at hP
  refine W.widen (k := 0) (n := 0) (Nat.le_refl _) (Nat.le_refl _) ?_
  refine lv_iconst (v := 1) hx hb dX12_isDivisor_33 (by decide) ?_
  refine lv_istore (lv' := [(7, .int 1), (6, .int xq20.1), (0, .ref (G.1 28)), (1, .ref (G.1 k1)), (2, .int p2), (3, .ref (G.1 k3)), (4, .int p4), (5, .int p5)]) hx hb dX12_isDivisor_34 hl (by decide) rfl (fun ls hl => ?_)
  refine lv_iconst (v := 0) hx hb dX12_isDivisor_36 (by decide) ?_
  refine lv_istore (lv' := [(8, .int 0), (7, .int 1), (6, .int xq20.1), (0, .ref (G.1 28)), (1, .ref (G.1 k1)), (2, .int p2), (3, .ref (G.1 k3)), (4, .int p4), (5, .int p5)]) hx hb dX12_isDivisor_37 hl (by decide) rfl (fun ls hl => ?_)
  exact L39 FU xq20.1 1 0 _ _ _ _ h hP hS (lv_sub hl [3, 2, 1, 0] rfl)
def fX12_isHead_J54 (k1 : Nat) (p2 : Int32) (p3 : Int32) (K6 : Int32 → Int32 → QMem → Option (Int32 × QMem)) (v5 : Int32) (s0 : Int32) (τ : QMem) : Option (Int32 × QMem) :=
  K6 s0 (v5 + 1) τ
def fX12_isHead_L6 (k1 : Nat) (p2 : Int32) (p3 : Int32) : Nat → Int32 → Int32 → QMem → Option (Int32 × QMem)
  | 0, _, _, _ => none
  | n + 1, v4, v5, τ =>
  if 24 ≤ v5 then (if ¬ (v4 = 0 ∨ v4 = 1) then none else (some (v4, τ))) else (if v4 = 0 then (if ¬ (v4 = 0 ∨ v4 = 1) then none else (some (v4, τ))) else ((fX12_makes k1 p2 1 (4 * v5) p3 4 τ).bind fun xq5 => ((fX12_isGreater 4 0 k1 p2 xq5).bind fun xq7 => (if xq7.1 = 0 then (fX12_isHead_J54 k1 p2 p3 (fX12_isHead_L6 k1 p2 p3 n) v5 1 xq7.2) else (fX12_isHead_J54 k1 p2 p3 (fX12_isHead_L6 k1 p2 p3 n) v5 0 xq7.2)))))
def fX12_isHead (k1 : Nat) (p2 : Int32) (p3 : Int32) (σ : QMem) : Option (Int32 × QMem) :=
  fX12_isHead_L6 k1 p2 p3 FU 1 0 σ
set_option maxHeartbeats 4000000 in
set_option maxRecDepth 100000 in
theorem kX12_isHead (l : Launch) (D : va_G) (G : xG) (σ : QMem) (k1 : Nat) (hk1 : mk k1 = 0) (p2 : Int32) (p3 : Int32) (res : Int32 × QMem) (h : fX12_isHead k1 p2 p3 σ = some res) : Met l yX12_isHead (.code yX12_isHead cX12_isHead 6 (some .boolean) :: lwW) (rmD 2) (mPc D G σ [.ref (G.1 28), .ref (G.1 k1), .int p2, .int p3]) (mQi D G res) 0 0 (mA G) := by
  refine Met.ofW (cc := cX12_isHead) (maxL := 6) (ret := (some .boolean)) (by decide) rfl ?_
  intro p e s m args below meth c s₁ B hml hv
  obtain ⟨rfl, h0⟩ := hv
  have hx := B.exec
  have hb := B.bytes
  have hr := B.returns
  have hts := fun (w : Cond) (hw : w ∈ lwW) => atoms_spec (ws := (.code yX12_isHead cX12_isHead 6 (some .boolean) :: lwW)) B.pre w (List.mem_cons_of_mem _ hw)
  have hown : s.vm.findClass RX12 = some m.cls := findClass_of_methodNamed B.named
  have hlocks := B.notSynchronized
  have hP := h0.1
  have hK := h0.2.1
  have hi := h0.2.2
  have hS : va_S (mA G) s.heap s.heap [] := va_S.rf
  have hl := lv_entry ([.ref (G.1 28), .ref (G.1 k1), .int p2, .int p3]) (n := 6) (Nat.le_of_ble_eq_true rfl)
  rw [lg_entry_eq]
  generalize (lg_sl ([.ref (G.1 28), .ref (G.1 k1), .int p2, .int p3]) ++ List.replicate (6 - (lg_sl ([.ref (G.1 28), .ref (G.1 k1), .int p2, .int p3])).length) Slot.unset).toArray = ls at hl ⊢
  have hl : lv_has ls 6 [(0, .ref (G.1 28)), (1, .ref (G.1 k1)), (2, .int p2), (3, .int p3)] := hl
  unfold fX12_isHead at h
  have L6 : ∀ (n6 : Nat) (v4 : Int32) (v5 : Int32) (τ : QMem) (H : Heap) (locs : List Loc) (ls : Array Slot), fX12_isHead_L6 k1 p2 p3 n6 v4 v5 τ = some res → va_P D vwCl (mW G τ) H → va_S (mA G) s.heap H locs → lv_has ls 6 [(0, .ref (G.1 28)), (1, .ref (G.1 k1)), (2, .int p2), (3, .int p3), (4, .int v4), (5, .int v5)] → W p l e (headSpec (.code yX12_isHead cX12_isHead 6 (some .boolean) :: lwW) (rmD 2)).room s m ([.ref (G.1 28), .ref (G.1 k1), .int p2, .int p3] : List Value).toArray below meth c H locs 0 0 (MQ below (mQi D G res) ([.ref (G.1 28), .ref (G.1 k1), .int p2, .int p3] : List Value).toArray s 0 0 (mA G)) (F0 m 6 ls []) := by
    intro n6
    induction n6 with
    | zero => intro v4 v5 τ H locs ls h; rw [fX12_isHead_L6] at h; cases h
    | succ n6 ih6 =>
      intro v4 v5 τ H locs ls h hP hS hl
      rw [fX12_isHead_L6] at h
      have J54 : ∀ (v5 : Int32) (s0 : Int32) (τ : QMem) (H : Heap) (locs : List Loc) (ls : Array Slot), fX12_isHead_J54 k1 p2 p3 (fX12_isHead_L6 k1 p2 p3 n6) v5 s0 τ = some res → va_P D vwCl (mW G τ) H → va_S (mA G) s.heap H locs → lv_has ls 6 [(0, .ref (G.1 28)), (1, .ref (G.1 k1)), (2, .int p2), (3, .int p3), (5, .int v5)] → W p l e (headSpec (.code yX12_isHead cX12_isHead 6 (some .boolean) :: lwW) (rmD 2)).room s m ([.ref (G.1 28), .ref (G.1 k1), .int p2, .int p3] : List Value).toArray below meth c H locs 0 0 (MQ below (mQi D G res) ([.ref (G.1 28), .ref (G.1 k1), .int p2, .int p3] : List Value).toArray s 0 0 (mA G)) (F0 m 54 ls [.int s0]) := by
        intro v5 s0 τ H locs ls h hP hS hl
        unfold fX12_isHead_J54 at h
        refine lv_istore (lv' := [(4, .int s0), (0, .ref (G.1 28)), (1, .ref (G.1 k1)), (2, .int p2), (3, .int p3), (5, .int v5)]) hx hb dX12_isHead_54 hl (by decide) rfl (fun ls hl => ?_)
        refine lv_iinc (v := v5 + 1) (lv' := [(5, .int (v5 + 1)), (4, .int s0), (0, .ref (G.1 28)), (1, .ref (G.1 k1)), (2, .int p2), (3, .int p3)]) hx hb dX12_isHead_56 hl (k := 5) rfl rfl (by decide) rfl (fun ls hl => ?_)
        refine lv_goto (tgt := 6) hx hb dX12_isHead_59 (by decide) ?_
        exact ih6 s0 (v5 + 1) _ _ _ _ h hP hS (lv_sub hl [2, 3, 4, 5, 1, 0] rfl)
      refine lv_iload hx hb dX12_isHead_6 (lv_at hl 5 rfl) ?_
      refine lv_bipush (v := 24) hx hb dX12_isHead_8 (by decide) ?_
      refine lv_icmp_ge (tgt := 62) hx hb dX12_isHead_10 (by decide) (fun hcq1 => ?_) (fun hcq1 => ?_)
      · have h := ifp hcq1 h
        refine lv_iload hx hb dX12_isHead_62 (lv_at hl 4 rfl) ?_
        obtain ⟨hzq2, h⟩ := nif h
        have hzq2 := Decidable.not_not.mp hzq2
        obtain rfl := Option.some.inj h
        exact W.zret hx hb hr (nar01 hzq2) (fun t ht hW => ⟨⟨_, _, rfl, ⟨rfl, rfl⟩, mPre_at h0 hS hP ht hW⟩, hS.F ht⟩) hS.2.2 dX12_isHead_64
      have h := ifn hcq1 h
      refine lv_iload hx hb dX12_isHead_13 (lv_at hl 4 rfl) ?_
      refine lv_if_eq (tgt := 62) hx hb dX12_isHead_15 (by decide) (fun hcq3 => ?_) (fun hcq3 => ?_)
      · have h := ifp hcq3 h
        refine lv_iload hx hb dX12_isHead_62 (lv_at hl 4 rfl) ?_
        obtain ⟨hzq4, h⟩ := nif h
        have hzq4 := Decidable.not_not.mp hzq4
        obtain rfl := Option.some.inj h
        exact W.zret hx hb hr (nar01 hzq4) (fun t ht hW => ⟨⟨_, _, rfl, ⟨rfl, rfl⟩, mPre_at h0 hS hP ht hW⟩, hS.F ht⟩) hS.2.2 dX12_isHead_64
      have h := ifn hcq3 h
      refine lv_aload_n hx hb dX12_isHead_18 rfl (lv_at hl 1 rfl) ?_
      refine lv_iload_n hx hb dX12_isHead_19 rfl (lv_at hl 2 rfl) ?_
      refine lv_aload_n hx hb dX12_isHead_20 rfl (lv_at hl 0 rfl) ?_
      refine va_get (D := D) (ci := 12) (v := .ref (G.1 1)) (C := RX12) (T := TX12) (N := 34) hx hb hts iwX12 hown hK hP 28 (mg_2 rfl) rfl 1 (by decide) (hts _ mw_959) (fun _ h9 => h9) rfl dX12_isHead_21 ?_
      refine lv_iconst (v := 4) hx hb dX12_isHead_24 (by decide) ?_
      refine lv_iload hx hb dX12_isHead_25 (lv_at hl 5 rfl) ?_
      refine lv_imul hx hb dX12_isHead_27 ?_
      refine lv_iload_n hx hb dX12_isHead_28 rfl (lv_at hl 3 rfl) ?_
      refine lv_aload_n hx hb dX12_isHead_29 rfl (lv_at hl 0 rfl) ?_
      refine va_get (D := D) (ci := 12) (v := .ref (G.1 4)) (C := RX12) (T := TX12) (N := 34) hx hb hts iwX12 hown hK hP 28 (mg_2 rfl) rfl 4 (by decide) (hts _ mw_962) (fun _ h9 => h9) rfl dX12_isHead_30 ?_
      obtain ⟨xq5, hfq6, h⟩ := obd h
      refine va_callv (va_runS (As := [.ref (G.1 k1), .int p2, .ref (G.1 1), .int (4 * v5), .int p3, .ref (G.1 4)]) (rest := []) ⟨hx, hb, hml, hown, hts⟩ (kX12_makes l D G _ k1 hk1 p2 1 rfl (4 * v5) p3 4 rfl xq5 hfq6) (va_cwS 6 hts (lwW_gS mw_942 mw_943 mw_14 mw_944) rfl rfl rfl (by decide +kernel) ⟨Nat.le_of_ble_eq_true rfl, Nat.le_of_ble_eq_true rfl⟩) ⟨fun a U g mk q => ⟨q.1, mPre_call q.2⟩, fun U hU hW => ⟨rfl, mPre_at h0 hS hP hU hW⟩⟩ rfl rfl hl.1 rfl (lv_room (Nat.le_of_ble_eq_true rfl)) dX12_isHead_33 ⟨Nat.zero_le _, Nat.zero_le _⟩) hS (fun q _ h => h) (fun q h => h) (fun u t H1 locs ht hvm hw hB hz1 hq1 hS => ?_)
      obtain rfl := hw.symm
      have hP := hB.1
      rw [ht] at hP
      refine W.widen (k := 0) (n := 0) (Nat.le_refl _) (Nat.le_refl _) ?_
      refine lv_aload_n hx hb dX12_isHead_36 rfl (lv_at hl 0 rfl) ?_
      refine va_get (D := D) (ci := 12) (v := .ref (G.1 4)) (C := RX12) (T := TX12) (N := 34) hx hb hts iwX12 hown hK hP 28 (mg_2 rfl) rfl 4 (by decide) (hts _ mw_962) (fun _ h9 => h9) rfl dX12_isHead_37 ?_
      refine lv_iconst (v := 0) hx hb dX12_isHead_40 (by decide) ?_
      refine lv_aload_n hx hb dX12_isHead_41 rfl (lv_at hl 1 rfl) ?_
      refine lv_iload_n hx hb dX12_isHead_42 rfl (lv_at hl 2 rfl) ?_
      obtain ⟨xq7, hfq8, h⟩ := obd h
      refine va_calli (va_runS (As := [.ref (G.1 4), .int 0, .ref (G.1 k1), .int p2]) (rest := []) ⟨hx, hb, hml, hown, hts⟩ (kX12_isGreater l D G _ 4 rfl 0 k1 hk1 p2 xq7 hfq8) (va_cwS 4 hts (lwW_gS mw_952 mw_953 mw_14 mw_954) rfl rfl rfl (by decide +kernel) ⟨Nat.le_of_ble_eq_true rfl, Nat.le_of_ble_eq_true rfl⟩) ⟨fun a U g mk q => ⟨q.1, mPre_call q.2⟩, fun U hU hW => ⟨rfl, mPre_at h0 hS hP hU hW⟩⟩ rfl rfl hl.1 rfl (lv_room (Nat.le_of_ble_eq_true rfl)) dX12_isHead_43 ⟨Nat.zero_le _, Nat.zero_le _⟩) hS (fun q _ h => h) (fun q h => h) (fun r u t H1 locs ht hvm hw hB hz1 hq1 hS => ?_)
      obtain ⟨rfl, rfl⟩ := hw
      have hP := hB.1
      rw [ht] at hP
      refine W.widen (k := 0) (n := 0) (Nat.le_refl _) (Nat.le_refl _) ?_
      refine lv_if_ne (tgt := 53) hx hb dX12_isHead_46 (by decide) (fun hcq9 => ?_) (fun hcq9 => ?_)
      · have h := ifn hcq9 h
        refine lv_iconst (v := 0) hx hb dX12_isHead_53 (by decide) ?_
        exact J54 v5 0 _ _ _ _ h hP hS (lv_sub hl [0, 1, 2, 3, 5] rfl)
      have h := ifp hcq9 h
      refine lv_iconst (v := 1) hx hb dX12_isHead_49 (by decide) ?_
      refine lv_goto (tgt := 54) hx hb dX12_isHead_50 (by decide) ?_
      exact J54 v5 1 _ _ _ _ h hP hS (lv_sub hl [0, 1, 2, 3, 5] rfl)
  refine lv_iconst (v := 1) hx hb dX12_isHead_0 (by decide) ?_
  refine lv_istore (lv' := [(4, .int 1), (0, .ref (G.1 28)), (1, .ref (G.1 k1)), (2, .int p2), (3, .int p3)]) hx hb dX12_isHead_1 hl (by decide) rfl (fun ls hl => ?_)
  refine lv_iconst (v := 0) hx hb dX12_isHead_3 (by decide) ?_
  refine lv_istore (lv' := [(5, .int 0), (4, .int 1), (0, .ref (G.1 28)), (1, .ref (G.1 k1)), (2, .int p2), (3, .int p3)]) hx hb dX12_isHead_4 hl (by decide) rfl (fun ls hl => ?_)
  exact L6 FU 1 0 _ _ _ _ h hP hS (lv_sub hl [2, 3, 4, 5, 1, 0] rfl)
def fX12_tries_J87 (p1 : Int32) (p2 : Int32) (p3 : Int32)  (τ : QMem) : Option (QMem) :=
  (fX12_copies 6 0 5 (4 * (τ 28 6)) τ).bind fun xq1 => (some (ms xq1 28 6 ((xq1 28 6) + 1)))
def fX12_tries_J63 (p1 : Int32) (p2 : Int32) (p3 : Int32) (s0 : Int32) (τ : QMem) : Option (QMem) :=
  if s0 = 0 then (some τ) else (if p2 = 0 then (fX12_tries_J87 p1 p2 p3 τ) else ((fX12_isHead 6 0 p1 τ).bind fun xq7 => (if xq7.1 = 0 then (some xq7.2) else (fX12_tries_J87 p1 p2 p3 xq7.2))))
def fX12_tries_J62 (p1 : Int32) (p2 : Int32) (p3 : Int32)  (τ : QMem) : Option (QMem) :=
  fX12_tries_J63 p1 p2 p3 0 τ
def fX12_tries_J58 (p1 : Int32) (p2 : Int32) (p3 : Int32)  (τ : QMem) : Option (QMem) :=
  fX12_tries_J63 p1 p2 p3 1 τ
def fX12_tries_J28 (p1 : Int32) (p2 : Int32) (p3 : Int32) (s0 : Int32) (τ : QMem) : Option (QMem) :=
  if s0 = 0 then (fX12_tries_J62 p1 p2 p3 τ) else (if p3 < 2 then (fX12_tries_J58 p1 p2 p3 τ) else ((fX12_isDivisor 6 0 7 4 p1 τ).bind fun xq17 => (if xq17.1 = 0 then (fX12_tries_J62 p1 p2 p3 xq17.2) else (fX12_tries_J58 p1 p2 p3 xq17.2))))
def fX12_tries_J23 (p1 : Int32) (p2 : Int32) (p3 : Int32)  (τ : QMem) : Option (QMem) :=
  fX12_tries_J28 p1 p2 p3 1 τ
def fX12_tries (p1 : Int32) (p2 : Int32) (p3 : Int32) (σ : QMem) : Option (QMem) :=
  if p3 < 1 then (fX12_tries_J23 p1 p2 p3 σ) else ((fX12_isDivisor 6 0 7 0 p1 σ).bind fun xq26 => (if xq26.1 = 0 then (fX12_tries_J28 p1 p2 p3 0 xq26.2) else (fX12_tries_J23 p1 p2 p3 xq26.2)))
set_option maxHeartbeats 4000000 in
set_option maxRecDepth 100000 in
theorem kX12_tries (l : Launch) (D : va_G) (G : xG) (σ : QMem) (p1 : Int32) (p2 : Int32) (p3 : Int32) (res : QMem) (h : fX12_tries p1 p2 p3 σ = some res) : Met l yX12_tries (.code yX12_tries cX12_tries 5 none :: lwW) (rmD 3) (mPc D G σ [.ref (G.1 28), .int p1, .int p2, .int p3]) (mQv D G res) 0 0 (mA G) := by
  refine Met.ofW (cc := cX12_tries) (maxL := 5) (ret := none) (by decide) rfl ?_
  intro p e s m args below meth c s₁ B hml hv
  obtain ⟨rfl, h0⟩ := hv
  have hx := B.exec
  have hb := B.bytes
  have hr := B.returns
  have hts := fun (w : Cond) (hw : w ∈ lwW) => atoms_spec (ws := (.code yX12_tries cX12_tries 5 none :: lwW)) B.pre w (List.mem_cons_of_mem _ hw)
  have hown : s.vm.findClass RX12 = some m.cls := findClass_of_methodNamed B.named
  have hlocks := B.notSynchronized
  have hP := h0.1
  have hK := h0.2.1
  have hi := h0.2.2
  have hS : va_S (mA G) s.heap s.heap [] := va_S.rf
  have hl := lv_entry ([.ref (G.1 28), .int p1, .int p2, .int p3]) (n := 5) (Nat.le_of_ble_eq_true rfl)
  rw [lg_entry_eq]
  generalize (lg_sl ([.ref (G.1 28), .int p1, .int p2, .int p3]) ++ List.replicate (5 - (lg_sl ([.ref (G.1 28), .int p1, .int p2, .int p3])).length) Slot.unset).toArray = ls at hl ⊢
  have hl : lv_has ls 5 [(0, .ref (G.1 28)), (1, .int p1), (2, .int p2), (3, .int p3)] := hl
  unfold fX12_tries at h
  have J87 : ∀ (τ : QMem) (H : Heap) (locs : List Loc) (ls : Array Slot), fX12_tries_J87 p1 p2 p3 τ = some res → va_P D vwCl (mW G τ) H → va_S (mA G) s.heap H locs → lv_has ls 5 [(0, .ref (G.1 28))] → W p l e (headSpec (.code yX12_tries cX12_tries 5 none :: lwW) (rmD 3)).room s m ([.ref (G.1 28), .int p1, .int p2, .int p3] : List Value).toArray below meth c H locs 0 0 (MQ below (mQv D G res) ([.ref (G.1 28), .int p1, .int p2, .int p3] : List Value).toArray s 0 0 (mA G)) (F0 m 87 ls []) := by
    intro τ H locs ls h hP hS hl
    unfold fX12_tries_J87 at h
    refine lv_aload_n hx hb dX12_tries_87 rfl (lv_at hl 0 rfl) ?_
    refine va_get (D := D) (ci := 12) (v := .ref (G.1 6)) (C := RX12) (T := TX12) (N := 34) hx hb hts iwX12 hown hK hP 28 (mg_2 rfl) rfl 7 (by decide) (hts _ mw_965) (fun _ h9 => h9) rfl dX12_tries_88 ?_
    refine lv_iconst (v := 0) hx hb dX12_tries_91 (by decide) ?_
    refine lv_aload_n hx hb dX12_tries_92 rfl (lv_at hl 0 rfl) ?_
    refine va_get (D := D) (ci := 12) (v := .ref (G.1 5)) (C := RX12) (T := TX12) (N := 34) hx hb hts iwX12 hown hK hP 28 (mg_2 rfl) rfl 5 (by decide) (hts _ mw_963) (fun _ h9 => h9) rfl dX12_tries_93 ?_
    refine lv_iconst (v := 4) hx hb dX12_tries_96 (by decide) ?_
    refine lv_aload_n hx hb dX12_tries_97 rfl (lv_at hl 0 rfl) ?_
    refine va_get (D := D) (ci := 12) (v := .int (τ 28 6)) (C := RX12) (T := TX12) (N := 34) hx hb hts iwX12 hown hK hP 28 (mg_2 rfl) rfl 6 (by decide) (hts _ mw_964) (fun _ h9 => h9) rfl dX12_tries_98 ?_
    refine lv_imul hx hb dX12_tries_101 ?_
    obtain ⟨xq3, hfq4, h⟩ := obd h
    refine va_callv (va_runS (As := [.ref (G.1 6), .int 0, .ref (G.1 5), .int (4 * (τ 28 6))]) (rest := []) ⟨hx, hb, hml, hown, hts⟩ (kX12_copies l D G _ 6 rfl 0 5 rfl (4 * (τ 28 6)) xq3 hfq4) (va_cwS 4 hts (lwW_gS mw_955 mw_956 mw_14 mw_957) rfl rfl rfl (by decide +kernel) ⟨Nat.le_of_ble_eq_true rfl, Nat.le_of_ble_eq_true rfl⟩) ⟨fun a U g mk q => ⟨q.1, mPre_call q.2⟩, fun U hU hW => ⟨rfl, mPre_at h0 hS hP hU hW⟩⟩ rfl rfl hl.1 rfl (lv_room (Nat.le_of_ble_eq_true rfl)) dX12_tries_102 ⟨Nat.zero_le _, Nat.zero_le _⟩) hS (fun q _ h => h) (fun q h => h) (fun u t H1 locs ht hvm hw hB hz1 hq1 hS => ?_)
    obtain rfl := hw.symm
    have hP := hB.1
    rw [ht] at hP
    refine W.widen (k := 0) (n := 0) (Nat.le_refl _) (Nat.le_refl _) ?_
    refine lv_aload_n hx hb dX12_tries_105 rfl (lv_at hl 0 rfl) ?_
    refine lv_dup hx hb dX12_tries_106 rfl ?_
    refine va_get (D := D) (ci := 12) (v := .int (xq3 28 6)) (C := RX12) (T := TX12) (N := 34) hx hb hts iwX12 hown hK hP 28 (mg_2 rfl) rfl 6 (by decide) (hts _ mw_964) (fun _ h9 => h9) rfl dX12_tries_107 ?_
    refine lv_iconst (v := 1) hx hb dX12_tries_110 (by decide) ?_
    refine lv_iadd hx hb dX12_tries_111 ?_
    refine va_put (D := D) (ci := 12) (v := .int ((xq3 28 6) + 1)) (ty := .int) (C := RX12) (T := TX12) (N := 34) hx hb hts iwX12 tyX12 tyX12_ok nmX12 hown hK hP (mD hi) hS 28 (mg_2 rfl) rfl 6 (by decide) (hts _ mw_964) (fun _ h9 => h9) rfl (by decide +kernel) rfl rfl (Nat.le_of_ble_eq_true rfl) dX12_tries_112 (fun H locs hP hD hS => ?_)
    have hP : va_P D vwCl (mW G (ms xq3 28 6 ((xq3 28 6) + 1))) H := by rw [← ms_2_6 rfl]; exact hP
    obtain rfl := Option.some.inj h
    exact W.vret hx hb hr (fun t ht hW => ⟨⟨_, rfl, rfl, mPre_at h0 hS hP ht hW⟩, hS.F ht⟩) hS.2.2 dX12_tries_115
  have J63 : ∀ (s0 : Int32) (τ : QMem) (H : Heap) (locs : List Loc) (ls : Array Slot), fX12_tries_J63 p1 p2 p3 s0 τ = some res → va_P D vwCl (mW G τ) H → va_S (mA G) s.heap H locs → lv_has ls 5 [(0, .ref (G.1 28)), (1, .int p1), (2, .int p2)] → W p l e (headSpec (.code yX12_tries cX12_tries 5 none :: lwW) (rmD 3)).room s m ([.ref (G.1 28), .int p1, .int p2, .int p3] : List Value).toArray below meth c H locs 0 0 (MQ below (mQv D G res) ([.ref (G.1 28), .int p1, .int p2, .int p3] : List Value).toArray s 0 0 (mA G)) (F0 m 63 ls [.int s0]) := by
    intro s0 τ H locs ls h hP hS hl
    unfold fX12_tries_J63 at h
    refine lv_istore (lv' := [(4, .int s0), (0, .ref (G.1 28)), (1, .int p1), (2, .int p2)]) hx hb dX12_tries_63 hl (by decide) rfl (fun ls hl => ?_)
    refine lv_iload hx hb dX12_tries_65 (lv_at hl 0 rfl) ?_
    refine lv_if_eq (tgt := 115) hx hb dX12_tries_67 (by decide) (fun hcq10 => ?_) (fun hcq10 => ?_)
    · have h := ifp hcq10 h
      obtain rfl := Option.some.inj h
      exact W.vret hx hb hr (fun t ht hW => ⟨⟨_, rfl, rfl, mPre_at h0 hS hP ht hW⟩, hS.F ht⟩) hS.2.2 dX12_tries_115
    have h := ifn hcq10 h
    refine lv_iload_n hx hb dX12_tries_70 rfl (lv_at hl 3 rfl) ?_
    refine lv_if_eq (tgt := 87) hx hb dX12_tries_71 (by decide) (fun hcq11 => ?_) (fun hcq11 => ?_)
    · have h := ifp hcq11 h
      exact J87 _ _ _ _ h hP hS (lv_sub hl [1] rfl)
    have h := ifn hcq11 h
    refine lv_aload_n hx hb dX12_tries_74 rfl (lv_at hl 1 rfl) ?_
    refine lv_aload_n hx hb dX12_tries_75 rfl (lv_at hl 1 rfl) ?_
    refine va_get (D := D) (ci := 12) (v := .ref (G.1 6)) (C := RX12) (T := TX12) (N := 34) hx hb hts iwX12 hown hK hP 28 (mg_2 rfl) rfl 7 (by decide) (hts _ mw_965) (fun _ h9 => h9) rfl dX12_tries_76 ?_
    refine lv_iconst (v := 0) hx hb dX12_tries_79 (by decide) ?_
    refine lv_iload_n hx hb dX12_tries_80 rfl (lv_at hl 2 rfl) ?_
    obtain ⟨xq12, hfq13, h⟩ := obd h
    refine va_calli (va_runV (As := [.ref (G.1 6), .int 0, .int p1]) (rest := []) ⟨hx, hb, hml, hown, hts⟩ (kX12_isHead l D G _ 6 rfl 0 p1 xq12 hfq13) (cwV 3 hts (lwW_gV mw_948 mw_950 ms_29 mw_14 mw_951) rfl rfl rfl (by decide +kernel) ⟨Nat.le_of_ble_eq_true rfl, Nat.le_of_ble_eq_true rfl⟩) ⟨fun a U g mk q => ⟨q.1, mPre_call q.2⟩, va_recv hK hP rfl (mg_2 rfl), fun U hU hW => ⟨rfl, mPre_at h0 hS hP hU hW⟩⟩ rfl rfl hl.1 rfl (lv_room (Nat.le_of_ble_eq_true rfl)) dX12_tries_81 ⟨Nat.zero_le _, Nat.zero_le _⟩) hS (fun q _ h => h) (fun q h => h) (fun r u t H1 locs ht hvm hw hB hz1 hq1 hS => ?_)
    obtain ⟨rfl, rfl⟩ := hw
    have hP := hB.1
    rw [ht] at hP
    refine W.widen (k := 0) (n := 0) (Nat.le_refl _) (Nat.le_refl _) ?_
    refine lv_if_eq (tgt := 115) hx hb dX12_tries_84 (by decide) (fun hcq14 => ?_) (fun hcq14 => ?_)
    · have h := ifp hcq14 h
      obtain rfl := Option.some.inj h
      exact W.vret hx hb hr (fun t ht hW => ⟨⟨_, rfl, rfl, mPre_at h0 hS hP ht hW⟩, hS.F ht⟩) hS.2.2 dX12_tries_115
    have h := ifn hcq14 h
    exact J87 _ _ _ _ h hP hS (lv_sub hl [1] rfl)
  have J62 : ∀ (τ : QMem) (H : Heap) (locs : List Loc) (ls : Array Slot), fX12_tries_J62 p1 p2 p3 τ = some res → va_P D vwCl (mW G τ) H → va_S (mA G) s.heap H locs → lv_has ls 5 [(0, .ref (G.1 28)), (1, .int p1), (2, .int p2)] → W p l e (headSpec (.code yX12_tries cX12_tries 5 none :: lwW) (rmD 3)).room s m ([.ref (G.1 28), .int p1, .int p2, .int p3] : List Value).toArray below meth c H locs 0 0 (MQ below (mQv D G res) ([.ref (G.1 28), .int p1, .int p2, .int p3] : List Value).toArray s 0 0 (mA G)) (F0 m 62 ls []) := by
    intro τ H locs ls h hP hS hl
    unfold fX12_tries_J62 at h
    refine lv_iconst (v := 0) hx hb dX12_tries_62 (by decide) ?_
    exact J63 0 _ _ _ _ h hP hS (lv_sub hl [0, 1, 2] rfl)
  have J58 : ∀ (τ : QMem) (H : Heap) (locs : List Loc) (ls : Array Slot), fX12_tries_J58 p1 p2 p3 τ = some res → va_P D vwCl (mW G τ) H → va_S (mA G) s.heap H locs → lv_has ls 5 [(0, .ref (G.1 28)), (1, .int p1), (2, .int p2)] → W p l e (headSpec (.code yX12_tries cX12_tries 5 none :: lwW) (rmD 3)).room s m ([.ref (G.1 28), .int p1, .int p2, .int p3] : List Value).toArray below meth c H locs 0 0 (MQ below (mQv D G res) ([.ref (G.1 28), .int p1, .int p2, .int p3] : List Value).toArray s 0 0 (mA G)) (F0 m 58 ls []) := by
    intro τ H locs ls h hP hS hl
    unfold fX12_tries_J58 at h
    refine lv_iconst (v := 1) hx hb dX12_tries_58 (by decide) ?_
    refine lv_goto (tgt := 63) hx hb dX12_tries_59 (by decide) ?_
    exact J63 1 _ _ _ _ h hP hS (lv_sub hl [0, 1, 2] rfl)
  have J28 : ∀ (s0 : Int32) (τ : QMem) (H : Heap) (locs : List Loc) (ls : Array Slot), fX12_tries_J28 p1 p2 p3 s0 τ = some res → va_P D vwCl (mW G τ) H → va_S (mA G) s.heap H locs → lv_has ls 5 [(0, .ref (G.1 28)), (1, .int p1), (2, .int p2), (3, .int p3)] → W p l e (headSpec (.code yX12_tries cX12_tries 5 none :: lwW) (rmD 3)).room s m ([.ref (G.1 28), .int p1, .int p2, .int p3] : List Value).toArray below meth c H locs 0 0 (MQ below (mQv D G res) ([.ref (G.1 28), .int p1, .int p2, .int p3] : List Value).toArray s 0 0 (mA G)) (F0 m 28 ls [.int s0]) := by
    intro s0 τ H locs ls h hP hS hl
    unfold fX12_tries_J28 at h
    refine lv_istore (lv' := [(4, .int s0), (0, .ref (G.1 28)), (1, .int p1), (2, .int p2), (3, .int p3)]) hx hb dX12_tries_28 hl (by decide) rfl (fun ls hl => ?_)
    refine lv_iload hx hb dX12_tries_30 (lv_at hl 0 rfl) ?_
    refine lv_if_eq (tgt := 62) hx hb dX12_tries_32 (by decide) (fun hcq20 => ?_) (fun hcq20 => ?_)
    · have h := ifp hcq20 h
      exact J62 _ _ _ _ h hP hS (lv_sub hl [1, 2, 3] rfl)
    have h := ifn hcq20 h
    refine lv_iload_n hx hb dX12_tries_35 rfl (lv_at hl 4 rfl) ?_
    refine lv_iconst (v := 2) hx hb dX12_tries_36 (by decide) ?_
    refine lv_icmp_lt (tgt := 58) hx hb dX12_tries_37 (by decide) (fun hcq21 => ?_) (fun hcq21 => ?_)
    · have h := ifp hcq21 h
      exact J58 _ _ _ _ h hP hS (lv_sub hl [1, 2, 3] rfl)
    have h := ifn hcq21 h
    refine lv_aload_n hx hb dX12_tries_40 rfl (lv_at hl 1 rfl) ?_
    refine lv_aload_n hx hb dX12_tries_41 rfl (lv_at hl 1 rfl) ?_
    refine va_get (D := D) (ci := 12) (v := .ref (G.1 6)) (C := RX12) (T := TX12) (N := 34) hx hb hts iwX12 hown hK hP 28 (mg_2 rfl) rfl 7 (by decide) (hts _ mw_965) (fun _ h9 => h9) rfl dX12_tries_42 ?_
    refine lv_iconst (v := 0) hx hb dX12_tries_45 (by decide) ?_
    refine lv_aload_n hx hb dX12_tries_46 rfl (lv_at hl 1 rfl) ?_
    refine va_get (D := D) (ci := 12) (v := .ref (G.1 7)) (C := RX12) (T := TX12) (N := 34) hx hb hts iwX12 hown hK hP 28 (mg_2 rfl) rfl 8 (by decide) (hts _ mw_966) (fun _ h9 => h9) rfl dX12_tries_47 ?_
    refine lv_iconst (v := 4) hx hb dX12_tries_50 (by decide) ?_
    refine lv_iload_n hx hb dX12_tries_51 rfl (lv_at hl 2 rfl) ?_
    obtain ⟨xq22, hfq23, h⟩ := obd h
    refine va_calli (va_runV (As := [.ref (G.1 6), .int 0, .ref (G.1 7), .int 4, .int p1]) (rest := []) ⟨hx, hb, hml, hown, hts⟩ (kX12_isDivisor l D G _ 6 rfl 0 7 rfl 4 p1 xq22 hfq23) (cwV 5 hts (lwW_gV mw_932 mw_934 ms_28 mw_14 mw_935) rfl rfl rfl (by decide +kernel) ⟨Nat.le_of_ble_eq_true rfl, Nat.le_of_ble_eq_true rfl⟩) ⟨fun a U g mk q => ⟨q.1, mPre_call q.2⟩, va_recv hK hP rfl (mg_2 rfl), fun U hU hW => ⟨rfl, mPre_at h0 hS hP hU hW⟩⟩ rfl rfl hl.1 rfl (lv_room (Nat.le_of_ble_eq_true rfl)) dX12_tries_52 ⟨Nat.zero_le _, Nat.zero_le _⟩) hS (fun q _ h => h) (fun q h => h) (fun r u t H1 locs ht hvm hw hB hz1 hq1 hS => ?_)
    obtain ⟨rfl, rfl⟩ := hw
    have hP := hB.1
    rw [ht] at hP
    refine W.widen (k := 0) (n := 0) (Nat.le_refl _) (Nat.le_refl _) ?_
    refine lv_if_eq (tgt := 62) hx hb dX12_tries_55 (by decide) (fun hcq24 => ?_) (fun hcq24 => ?_)
    · have h := ifp hcq24 h
      exact J62 _ _ _ _ h hP hS (lv_sub hl [1, 2, 3] rfl)
    have h := ifn hcq24 h
    exact J58 _ _ _ _ h hP hS (lv_sub hl [1, 2, 3] rfl)
  have J23 : ∀ (τ : QMem) (H : Heap) (locs : List Loc) (ls : Array Slot), fX12_tries_J23 p1 p2 p3 τ = some res → va_P D vwCl (mW G τ) H → va_S (mA G) s.heap H locs → lv_has ls 5 [(0, .ref (G.1 28)), (1, .int p1), (2, .int p2), (3, .int p3)] → W p l e (headSpec (.code yX12_tries cX12_tries 5 none :: lwW) (rmD 3)).room s m ([.ref (G.1 28), .int p1, .int p2, .int p3] : List Value).toArray below meth c H locs 0 0 (MQ below (mQv D G res) ([.ref (G.1 28), .int p1, .int p2, .int p3] : List Value).toArray s 0 0 (mA G)) (F0 m 23 ls []) := by
    intro τ H locs ls h hP hS hl
    unfold fX12_tries_J23 at h
    refine lv_iconst (v := 1) hx hb dX12_tries_23 (by decide) ?_
    refine lv_goto (tgt := 28) hx hb dX12_tries_24 (by decide) ?_
    exact J28 1 _ _ _ _ h hP hS (lv_sub hl [0, 1, 2, 3] rfl)
  refine lv_iload_n hx hb dX12_tries_0 rfl (lv_at hl 3 rfl) ?_
  refine lv_iconst (v := 1) hx hb dX12_tries_1 (by decide) ?_
  refine lv_icmp_lt (tgt := 23) hx hb dX12_tries_2 (by decide) (fun hcq25 => ?_) (fun hcq25 => ?_)
  · have h := ifp hcq25 h
    exact J23 _ _ _ _ h hP hS (lv_sub hl [0, 1, 2, 3] rfl)
  have h := ifn hcq25 h
  refine lv_aload_n hx hb dX12_tries_5 rfl (lv_at hl 0 rfl) ?_
  refine lv_aload_n hx hb dX12_tries_6 rfl (lv_at hl 0 rfl) ?_
  refine va_get (D := D) (ci := 12) (v := .ref (G.1 6)) (C := RX12) (T := TX12) (N := 34) hx hb hts iwX12 hown hK hP 28 (mg_2 rfl) rfl 7 (by decide) (hts _ mw_965) (fun _ h9 => h9) rfl dX12_tries_7 ?_
  refine lv_iconst (v := 0) hx hb dX12_tries_10 (by decide) ?_
  refine lv_aload_n hx hb dX12_tries_11 rfl (lv_at hl 0 rfl) ?_
  refine va_get (D := D) (ci := 12) (v := .ref (G.1 7)) (C := RX12) (T := TX12) (N := 34) hx hb hts iwX12 hown hK hP 28 (mg_2 rfl) rfl 8 (by decide) (hts _ mw_966) (fun _ h9 => h9) rfl dX12_tries_12 ?_
  refine lv_iconst (v := 0) hx hb dX12_tries_15 (by decide) ?_
  refine lv_iload_n hx hb dX12_tries_16 rfl (lv_at hl 1 rfl) ?_
  obtain ⟨xq26, hfq27, h⟩ := obd h
  refine va_calli (va_runV (As := [.ref (G.1 6), .int 0, .ref (G.1 7), .int 0, .int p1]) (rest := []) ⟨hx, hb, hml, hown, hts⟩ (kX12_isDivisor l D G _ 6 rfl 0 7 rfl 0 p1 xq26 hfq27) (cwV 5 hts (lwW_gV mw_932 mw_934 ms_28 mw_14 mw_935) rfl rfl rfl (by decide +kernel) ⟨Nat.le_of_ble_eq_true rfl, Nat.le_of_ble_eq_true rfl⟩) ⟨fun a U g mk q => ⟨q.1, mPre_call q.2⟩, va_recv hK hP rfl (mg_2 rfl), fun U hU hW => ⟨rfl, mPre_at h0 hS hP hU hW⟩⟩ rfl rfl hl.1 rfl (lv_room (Nat.le_of_ble_eq_true rfl)) dX12_tries_17 ⟨Nat.zero_le _, Nat.zero_le _⟩) hS (fun q _ h => h) (fun q h => h) (fun r u t H1 locs ht hvm hw hB hz1 hq1 hS => ?_)
  obtain ⟨rfl, rfl⟩ := hw
  have hP := hB.1
  rw [ht] at hP
  refine W.widen (k := 0) (n := 0) (Nat.le_refl _) (Nat.le_refl _) ?_
  refine lv_if_eq (tgt := 27) hx hb dX12_tries_20 (by decide) (fun hcq28 => ?_) (fun hcq28 => ?_)
  · have h := ifp hcq28 h
    refine lv_iconst (v := 0) hx hb dX12_tries_27 (by decide) ?_
    exact J28 0 _ _ _ _ h hP hS (lv_sub hl [0, 1, 2, 3] rfl)
  have h := ifn hcq28 h
  exact J23 _ _ _ _ h hP hS (lv_sub hl [0, 1, 2, 3] rfl)
def fX12_triesLast (p1 : Int32) (p2 : Int32) (p3 : Int32) (p4 : Int32) (σ : QMem) : Option (QMem) :=
  if ((3 : Int32) < 0 ∨ ml 6 ≤ (3 : Int32).toNatClampNeg) then none else (if ((0 : Int32) < 0 ∨ ml 6 ≤ (0 : Int32).toNatClampNeg) then none else (if ((1 : Int32) < 0 ∨ ml 6 ≤ (1 : Int32).toNatClampNeg) then none else (if ((2 : Int32) < 0 ∨ ml 6 ≤ (2 : Int32).toNatClampNeg) then none else ((fX12_areLike ((ms σ 6 (3 : Int32).toNatClampNeg p1) 6 (0 : Int32).toNatClampNeg) ((ms σ 6 (3 : Int32).toNatClampNeg p1) 6 (1 : Int32).toNatClampNeg) ((ms σ 6 (3 : Int32).toNatClampNeg p1) 6 (2 : Int32).toNatClampNeg) p1).bind fun xq5 => (if xq5 = 0 then (some (ms σ 6 (3 : Int32).toNatClampNeg p1)) else ((fX12_tries p2 p3 p4 (ms σ 6 (3 : Int32).toNatClampNeg p1)).bind fun xq8 => (some xq8)))))))
set_option maxHeartbeats 4000000 in
set_option maxRecDepth 100000 in
theorem kX12_triesLast (l : Launch) (D : va_G) (G : xG) (σ : QMem) (p1 : Int32) (p2 : Int32) (p3 : Int32) (p4 : Int32) (res : QMem) (h : fX12_triesLast p1 p2 p3 p4 σ = some res) : Met l yX12_triesLast (.code yX12_triesLast cX12_triesLast 5 none :: lwW) (rmD 4) (mPc D G σ [.ref (G.1 28), .int p1, .int p2, .int p3, .int p4]) (mQv D G res) 0 0 (mA G) := by
  refine Met.ofW (cc := cX12_triesLast) (maxL := 5) (ret := none) (by decide) rfl ?_
  intro p e s m args below meth c s₁ B hml hv
  obtain ⟨rfl, h0⟩ := hv
  have hx := B.exec
  have hb := B.bytes
  have hr := B.returns
  have hts := fun (w : Cond) (hw : w ∈ lwW) => atoms_spec (ws := (.code yX12_triesLast cX12_triesLast 5 none :: lwW)) B.pre w (List.mem_cons_of_mem _ hw)
  have hown : s.vm.findClass RX12 = some m.cls := findClass_of_methodNamed B.named
  have hlocks := B.notSynchronized
  have hP := h0.1
  have hK := h0.2.1
  have hi := h0.2.2
  have hS : va_S (mA G) s.heap s.heap [] := va_S.rf
  have hl := lv_entry ([.ref (G.1 28), .int p1, .int p2, .int p3, .int p4]) (n := 5) (Nat.le_of_ble_eq_true rfl)
  rw [lg_entry_eq]
  generalize (lg_sl ([.ref (G.1 28), .int p1, .int p2, .int p3, .int p4]) ++ List.replicate (5 - (lg_sl ([.ref (G.1 28), .int p1, .int p2, .int p3, .int p4])).length) Slot.unset).toArray = ls at hl ⊢
  have hl : lv_has ls 5 [(0, .ref (G.1 28)), (1, .int p1), (2, .int p2), (3, .int p3), (4, .int p4)] := hl
  unfold fX12_triesLast at h
  refine lv_aload_n hx hb dX12_triesLast_0 rfl (lv_at hl 0 rfl) ?_
  refine va_get (D := D) (ci := 12) (v := .ref (G.1 6)) (C := RX12) (T := TX12) (N := 34) hx hb hts iwX12 hown hK hP 28 (mg_2 rfl) rfl 7 (by decide) (hts _ mw_965) (fun _ h9 => h9) rfl dX12_triesLast_1 ?_
  refine lv_iconst (v := 3) hx hb dX12_triesLast_4 (by decide) ?_
  refine lv_iload_n hx hb dX12_triesLast_5 rfl (lv_at hl 1 rfl) ?_
  obtain ⟨hiq1, h⟩ := nif h
  refine va_iast hx hb hK hP (mD hi) hS 6 0 (mg_0 rfl) rfl hiq1 dX12_triesLast_6 (fun H locs hP hD hS => ?_)
  have hP : va_P D vwCl (mW G (ms σ 6 (3 : Int32).toNatClampNeg p1)) H := by rw [← ms_0x rfl]; exact hP
  refine lv_aload_n hx hb dX12_triesLast_7 rfl (lv_at hl 0 rfl) ?_
  refine va_get (D := D) (ci := 12) (v := .ref (G.1 6)) (C := RX12) (T := TX12) (N := 34) hx hb hts iwX12 hown hK hP 28 (mg_2 rfl) rfl 7 (by decide) (hts _ mw_965) (fun _ h9 => h9) rfl dX12_triesLast_8 ?_
  refine lv_iconst (v := 0) hx hb dX12_triesLast_11 (by decide) ?_
  obtain ⟨hiq2, h⟩ := nif h
  refine va_iald hx hb hK hP 6 0 (mg_0 rfl) rfl hiq2 dX12_triesLast_12 ?_
  refine lv_aload_n hx hb dX12_triesLast_13 rfl (lv_at hl 0 rfl) ?_
  refine va_get (D := D) (ci := 12) (v := .ref (G.1 6)) (C := RX12) (T := TX12) (N := 34) hx hb hts iwX12 hown hK hP 28 (mg_2 rfl) rfl 7 (by decide) (hts _ mw_965) (fun _ h9 => h9) rfl dX12_triesLast_14 ?_
  refine lv_iconst (v := 1) hx hb dX12_triesLast_17 (by decide) ?_
  obtain ⟨hiq3, h⟩ := nif h
  refine va_iald hx hb hK hP 6 0 (mg_0 rfl) rfl hiq3 dX12_triesLast_18 ?_
  refine lv_aload_n hx hb dX12_triesLast_19 rfl (lv_at hl 0 rfl) ?_
  refine va_get (D := D) (ci := 12) (v := .ref (G.1 6)) (C := RX12) (T := TX12) (N := 34) hx hb hts iwX12 hown hK hP 28 (mg_2 rfl) rfl 7 (by decide) (hts _ mw_965) (fun _ h9 => h9) rfl dX12_triesLast_20 ?_
  refine lv_iconst (v := 2) hx hb dX12_triesLast_23 (by decide) ?_
  obtain ⟨hiq4, h⟩ := nif h
  refine va_iald hx hb hK hP 6 0 (mg_0 rfl) rfl hiq4 dX12_triesLast_24 ?_
  refine lv_iload_n hx hb dX12_triesLast_25 rfl (lv_at hl 1 rfl) ?_
  obtain ⟨xq5, hfq6, h⟩ := obd h
  refine va_calli (va_runS (As := [.int ((ms σ 6 (3 : Int32).toNatClampNeg p1) 6 (0 : Int32).toNatClampNeg), .int ((ms σ 6 (3 : Int32).toNatClampNeg p1) 6 (1 : Int32).toNatClampNeg), .int ((ms σ 6 (3 : Int32).toNatClampNeg p1) 6 (2 : Int32).toNatClampNeg), .int p1]) (rest := []) ⟨hx, hb, hml, hown, hts⟩ (kX12_areLike l ((ms σ 6 (3 : Int32).toNatClampNeg p1) 6 (0 : Int32).toNatClampNeg) ((ms σ 6 (3 : Int32).toNatClampNeg p1) 6 (1 : Int32).toNatClampNeg) ((ms σ 6 (3 : Int32).toNatClampNeg p1) 6 (2 : Int32).toNatClampNeg) p1 xq5 hfq6) (va_cwS 4 hts (lwW_gS mw_925 mw_926 mw_14 mw_927) rfl rfl rfl (by decide +kernel) ⟨Nat.le_of_ble_eq_true rfl, Nat.le_of_ble_eq_true rfl⟩) ⟨fun a U g mk q => ⟨q.1, trivial⟩, fun U hU hW => ⟨rfl, trivial⟩⟩ rfl rfl hl.1 rfl (lv_room (Nat.le_of_ble_eq_true rfl)) dX12_triesLast_26 ⟨Nat.zero_le _, Nat.zero_le _⟩) hS (fun q _ h => h.elim) (fun q h => h.elim) (fun r u t H1 locs ht hvm hw hB hz1 hq1 hS => ?_)
  obtain rfl := hw.symm
  have hP := mP_kept hP hq1
  refine W.widen (k := 0) (n := 0) (Nat.le_refl _) (Nat.le_refl _) ?_
  refine lv_if_eq (tgt := 40) hx hb dX12_triesLast_29 (by decide) (fun hcq7 => ?_) (fun hcq7 => ?_)
  · have h := ifp hcq7 h
    obtain rfl := Option.some.inj h
    exact W.vret hx hb hr (fun t ht hW => ⟨⟨_, rfl, rfl, mPre_at h0 hS hP ht hW⟩, hS.F ht⟩) hS.2.2 dX12_triesLast_40
  have h := ifn hcq7 h
  refine lv_aload_n hx hb dX12_triesLast_32 rfl (lv_at hl 0 rfl) ?_
  refine lv_iload_n hx hb dX12_triesLast_33 rfl (lv_at hl 2 rfl) ?_
  refine lv_iload_n hx hb dX12_triesLast_34 rfl (lv_at hl 3 rfl) ?_
  refine lv_iload hx hb dX12_triesLast_35 (lv_at hl 4 rfl) ?_
  obtain ⟨xq8, hfq9, h⟩ := obd h
  refine va_callv (va_runV (As := [.int p2, .int p3, .int p4]) (rest := []) ⟨hx, hb, hml, hown, hts⟩ (kX12_tries l D G _ p2 p3 p4 xq8 hfq9) (cwV 3 hts (lwW_gV mw_928 mw_930 ms_27 mw_14 mw_931) rfl rfl rfl (by decide +kernel) ⟨Nat.le_of_ble_eq_true rfl, Nat.le_of_ble_eq_true rfl⟩) ⟨fun a U g mk q => ⟨q.1, mPre_call q.2⟩, va_recv hK hP rfl (mg_2 rfl), fun U hU hW => ⟨rfl, mPre_at h0 hS hP hU hW⟩⟩ rfl rfl hl.1 rfl (lv_room (Nat.le_of_ble_eq_true rfl)) dX12_triesLast_37 ⟨Nat.zero_le _, Nat.zero_le _⟩) hS (fun q _ h => h) (fun q h => h) (fun u t H1 locs ht hvm hw hB hz1 hq1 hS => ?_)
  obtain rfl := hw.symm
  have hP := hB.1
  rw [ht] at hP
  refine W.widen (k := 0) (n := 0) (Nat.le_refl _) (Nat.le_refl _) ?_
  obtain rfl := Option.some.inj h
  exact W.vret hx hb hr (fun t ht hW => ⟨⟨_, rfl, rfl, mPre_at h0 hS hP ht hW⟩, hS.F ht⟩) hS.2.2 dX12_triesLast_40
def fX12_gathers_J204 (p1 : Int32) (p2 : Int32) (p3 : Int32) (p4 : Int32) (p5 : Int32) (K28 : Int32 → Int32 → QMem → Option (QMem)) (v6 : Int32) (v7 : Int32) (τ : QMem) : Option (QMem) :=
  K28 v6 (v7 + (-1)) τ
def fX12_gathers_J198 (p1 : Int32) (p2 : Int32) (p3 : Int32) (p4 : Int32) (p5 : Int32) (K28 : Int32 → Int32 → QMem → Option (QMem)) (K49 : Int32 → Int32 → Int32 → QMem → Option (QMem)) (v6 : Int32) (v7 : Int32) (v8 : Int32) (τ : QMem) : Option (QMem) :=
  K49 v6 v7 (v8 + (-1)) τ
def fX12_gathers_J192 (p1 : Int32) (p2 : Int32) (p3 : Int32) (p4 : Int32) (p5 : Int32) (K28 : Int32 → Int32 → QMem → Option (QMem)) (K49 : Int32 → Int32 → Int32 → QMem → Option (QMem)) (K70 : Int32 → Int32 → Int32 → Int32 → QMem → Option (QMem)) (v6 : Int32) (v7 : Int32) (v8 : Int32) (v9 : Int32) (τ : QMem) : Option (QMem) :=
  K70 v6 v7 v8 (v9 + (-1)) τ
def fX12_gathers_J167 (p1 : Int32) (p2 : Int32) (p3 : Int32) (p4 : Int32) (p5 : Int32) (K28 : Int32 → Int32 → QMem → Option (QMem)) (K49 : Int32 → Int32 → Int32 → QMem → Option (QMem)) (K70 : Int32 → Int32 → Int32 → Int32 → QMem → Option (QMem)) (v6 : Int32) (v7 : Int32) (v8 : Int32) (v9 : Int32) (v11 : Int32) (τ : QMem) : Option (QMem) :=
  if v11 ≤ 0 then (fX12_gathers_J192 p1 p2 p3 p4 p5 K28 K49 K70 v6 v7 v8 v9 τ) else (if p5 ≤ (τ 28 6) then (fX12_gathers_J192 p1 p2 p3 p4 p5 K28 K49 K70 v6 v7 v8 v9 τ) else ((fX12_triesLast (-v11) p2 p3 p4 τ).bind fun xq3 => (fX12_gathers_J192 p1 p2 p3 p4 p5 K28 K49 K70 v6 v7 v8 v9 xq3)))
def fX12_gathers_J126 (p1 : Int32) (p2 : Int32) (p3 : Int32) (p4 : Int32) (p5 : Int32) (K28 : Int32 → Int32 → QMem → Option (QMem)) (K49 : Int32 → Int32 → Int32 → QMem → Option (QMem)) (K70 : Int32 → Int32 → Int32 → Int32 → QMem → Option (QMem)) (v6 : Int32) (v7 : Int32) (v8 : Int32) (v9 : Int32) (s0 : Int32) (τ : QMem) : Option (QMem) :=
  if ((0 : Int32) < 0 ∨ ml 6 ≤ (0 : Int32).toNatClampNeg) then none else (if ((1 : Int32) < 0 ∨ ml 6 ≤ (1 : Int32).toNatClampNeg) then none else (if ((2 : Int32) < 0 ∨ ml 6 ≤ (2 : Int32).toNatClampNeg) then none else (if s0 < 0 then (fX12_gathers_J167 p1 p2 p3 p4 p5 K28 K49 K70 v6 v7 v8 v9 s0 (ms (ms (ms τ 6 (0 : Int32).toNatClampNeg v7) 6 (1 : Int32).toNatClampNeg v8) 6 (2 : Int32).toNatClampNeg v9)) else ((fX12_triesLast s0 p2 p3 p4 (ms (ms (ms τ 6 (0 : Int32).toNatClampNeg v7) 6 (1 : Int32).toNatClampNeg v8) 6 (2 : Int32).toNatClampNeg v9)).bind fun xq13 => (fX12_gathers_J167 p1 p2 p3 p4 p5 K28 K49 K70 v6 v7 v8 v9 s0 xq13)))))
def fX12_gathers_L70 (p1 : Int32) (p2 : Int32) (p3 : Int32) (p4 : Int32) (p5 : Int32) (K28 : Int32 → Int32 → QMem → Option (QMem)) (K49 : Int32 → Int32 → Int32 → QMem → Option (QMem)) : Nat → Int32 → Int32 → Int32 → Int32 → QMem → Option (QMem)
  | 0, _, _, _, _, _ => none
  | n + 1, v6, v7, v8, v9, τ =>
  if v9 < (-v6) then (fX12_gathers_J198 p1 p2 p3 p4 p5 K28 K49 v6 v7 v8 τ) else (if p5 ≤ (τ 28 6) then (fX12_gathers_J198 p1 p2 p3 p4 p5 K28 K49 v6 v7 v8 τ) else (if 0 ≤ ((((4 * p1) - (v7 * v7)) - (v8 * v8)) - (v9 * v9)) then (if ((((4 * p1) - (v7 * v7)) - (v8 * v8)) - (v9 * v9) < 0 ∨ ml 0 ≤ ((((4 * p1) - (v7 * v7)) - (v8 * v8)) - (v9 * v9)).toNatClampNeg) then none else (fX12_gathers_J126 p1 p2 p3 p4 p5 K28 K49 (fX12_gathers_L70 p1 p2 p3 p4 p5 K28 K49 n) v6 v7 v8 v9 (τ 0 ((((4 * p1) - (v7 * v7)) - (v8 * v8)) - (v9 * v9)).toNatClampNeg) τ)) else (fX12_gathers_J126 p1 p2 p3 p4 p5 K28 K49 (fX12_gathers_L70 p1 p2 p3 p4 p5 K28 K49 n) v6 v7 v8 v9 (-1) τ)))
def fX12_gathers_L49 (p1 : Int32) (p2 : Int32) (p3 : Int32) (p4 : Int32) (p5 : Int32) (K28 : Int32 → Int32 → QMem → Option (QMem)) : Nat → Int32 → Int32 → Int32 → QMem → Option (QMem)
  | 0, _, _, _, _ => none
  | n + 1, v6, v7, v8, τ =>
  if v8 < (-v6) then (fX12_gathers_J204 p1 p2 p3 p4 p5 K28 v6 v7 τ) else (if p5 ≤ (τ 28 6) then (fX12_gathers_J204 p1 p2 p3 p4 p5 K28 v6 v7 τ) else (fX12_gathers_L70 p1 p2 p3 p4 p5 K28 (fX12_gathers_L49 p1 p2 p3 p4 p5 K28 n) FU v6 v7 v8 v6 τ))
def fX12_gathers_L28 (p1 : Int32) (p2 : Int32) (p3 : Int32) (p4 : Int32) (p5 : Int32) : Nat → Int32 → Int32 → QMem → Option (QMem)
  | 0, _, _, _ => none
  | n + 1, v6, v7, τ =>
  if v7 < (-v6) then (some τ) else (if p5 ≤ (τ 28 6) then (some τ) else (fX12_gathers_L49 p1 p2 p3 p4 p5 (fX12_gathers_L28 p1 p2 p3 p4 p5 n) FU v6 v7 v6 τ))
def fX12_gathers_L3 (p1 : Int32) (p2 : Int32) (p3 : Int32) (p4 : Int32) (p5 : Int32) : Nat → Int32 → QMem → Option (QMem)
  | 0, _, _ => none
  | n + 1, v6, τ =>
  if (4 * p1) < ((v6 + 1) * (v6 + 1)) then (fX12_gathers_L28 p1 p2 p3 p4 p5 FU v6 v6 τ) else ((fX12_gathers_L3 p1 p2 p3 p4 p5 n) (v6 + 1) τ)
def fX12_gathers (p1 : Int32) (p2 : Int32) (p3 : Int32) (p4 : Int32) (p5 : Int32) (σ : QMem) : Option (QMem) :=
  fX12_gathers_L3 p1 p2 p3 p4 p5 FU 0 σ
set_option maxHeartbeats 4000000 in
set_option maxRecDepth 100000 in
theorem kX12_gathers (l : Launch) (D : va_G) (G : xG) (σ : QMem) (p1 : Int32) (p2 : Int32) (p3 : Int32) (p4 : Int32) (p5 : Int32) (res : QMem) (h : fX12_gathers p1 p2 p3 p4 p5 σ = some res) : Met l yX12_gathers (.code yX12_gathers cX12_gathers 12 none :: lwW) (rmD 5) (mPc D G σ [.ref (G.1 28), .int p1, .int p2, .int p3, .int p4, .int p5]) (mQv D G res) 0 0 (mA G) := by
  refine Met.ofW (cc := cX12_gathers) (maxL := 12) (ret := none) (by decide) rfl ?_
  intro p e s m args below meth c s₁ B hml hv
  obtain ⟨rfl, h0⟩ := hv
  have hx := B.exec
  have hb := B.bytes
  have hr := B.returns
  have hts := fun (w : Cond) (hw : w ∈ lwW) => atoms_spec (ws := (.code yX12_gathers cX12_gathers 12 none :: lwW)) B.pre w (List.mem_cons_of_mem _ hw)
  have hown : s.vm.findClass RX12 = some m.cls := findClass_of_methodNamed B.named
  have hlocks := B.notSynchronized
  have hP := h0.1
  have hK := h0.2.1
  have hi := h0.2.2
  have hS : va_S (mA G) s.heap s.heap [] := va_S.rf
  have hl := lv_entry ([.ref (G.1 28), .int p1, .int p2, .int p3, .int p4, .int p5]) (n := 12) (Nat.le_of_ble_eq_true rfl)
  rw [lg_entry_eq]
  generalize (lg_sl ([.ref (G.1 28), .int p1, .int p2, .int p3, .int p4, .int p5]) ++ List.replicate (12 - (lg_sl ([.ref (G.1 28), .int p1, .int p2, .int p3, .int p4, .int p5])).length) Slot.unset).toArray = ls at hl ⊢
  have hl : lv_has ls 12 [(0, .ref (G.1 28)), (1, .int p1), (2, .int p2), (3, .int p3), (4, .int p4), (5, .int p5)] := hl
  unfold fX12_gathers at h
  have L28 : ∀ (n28 : Nat) (v6 : Int32) (v7 : Int32) (τ : QMem) (H : Heap) (locs : List Loc) (ls : Array Slot), fX12_gathers_L28 p1 p2 p3 p4 p5 n28 v6 v7 τ = some res → va_P D vwCl (mW G τ) H → va_S (mA G) s.heap H locs → lv_has ls 12 [(0, .ref (G.1 28)), (1, .int p1), (2, .int p2), (3, .int p3), (4, .int p4), (5, .int p5), (6, .int v6), (7, .int v7)] → W p l e (headSpec (.code yX12_gathers cX12_gathers 12 none :: lwW) (rmD 5)).room s m ([.ref (G.1 28), .int p1, .int p2, .int p3, .int p4, .int p5] : List Value).toArray below meth c H locs 0 0 (MQ below (mQv D G res) ([.ref (G.1 28), .int p1, .int p2, .int p3, .int p4, .int p5] : List Value).toArray s 0 0 (mA G)) (F0 m 28 ls []) := by
    intro n28
    induction n28 with
    | zero => intro v6 v7 τ H locs ls h; rw [fX12_gathers_L28] at h; cases h
    | succ n28 ih28 =>
      intro v6 v7 τ H locs ls h hP hS hl
      rw [fX12_gathers_L28] at h
      have J204 : ∀ (v6 : Int32) (v7 : Int32) (τ : QMem) (H : Heap) (locs : List Loc) (ls : Array Slot), fX12_gathers_J204 p1 p2 p3 p4 p5 (fX12_gathers_L28 p1 p2 p3 p4 p5 n28) v6 v7 τ = some res → va_P D vwCl (mW G τ) H → va_S (mA G) s.heap H locs → lv_has ls 12 [(0, .ref (G.1 28)), (1, .int p1), (2, .int p2), (3, .int p3), (4, .int p4), (5, .int p5), (6, .int v6), (7, .int v7)] → W p l e (headSpec (.code yX12_gathers cX12_gathers 12 none :: lwW) (rmD 5)).room s m ([.ref (G.1 28), .int p1, .int p2, .int p3, .int p4, .int p5] : List Value).toArray below meth c H locs 0 0 (MQ below (mQv D G res) ([.ref (G.1 28), .int p1, .int p2, .int p3, .int p4, .int p5] : List Value).toArray s 0 0 (mA G)) (F0 m 204 ls []) := by
        intro v6 v7 τ H locs ls h hP hS hl
        unfold fX12_gathers_J204 at h
        refine lv_iinc (v := v7 + (-1)) (lv' := [(7, .int (v7 + (-1))), (0, .ref (G.1 28)), (1, .int p1), (2, .int p2), (3, .int p3), (4, .int p4), (5, .int p5), (6, .int v6)]) hx hb dX12_gathers_204 hl (k := 7) rfl rfl (by decide) rfl (fun ls hl => ?_)
        refine lv_goto (tgt := 28) hx hb dX12_gathers_207 (by decide) ?_
        exact ih28 v6 (v7 + (-1)) _ _ _ _ h hP hS (lv_sub hl [1, 2, 3, 4, 5, 6, 7, 0] rfl)
      have L49 : ∀ (n49 : Nat) (v6 : Int32) (v7 : Int32) (v8 : Int32) (τ : QMem) (H : Heap) (locs : List Loc) (ls : Array Slot), fX12_gathers_L49 p1 p2 p3 p4 p5 (fX12_gathers_L28 p1 p2 p3 p4 p5 n28) n49 v6 v7 v8 τ = some res → va_P D vwCl (mW G τ) H → va_S (mA G) s.heap H locs → lv_has ls 12 [(0, .ref (G.1 28)), (1, .int p1), (2, .int p2), (3, .int p3), (4, .int p4), (5, .int p5), (6, .int v6), (7, .int v7), (8, .int v8)] → W p l e (headSpec (.code yX12_gathers cX12_gathers 12 none :: lwW) (rmD 5)).room s m ([.ref (G.1 28), .int p1, .int p2, .int p3, .int p4, .int p5] : List Value).toArray below meth c H locs 0 0 (MQ below (mQv D G res) ([.ref (G.1 28), .int p1, .int p2, .int p3, .int p4, .int p5] : List Value).toArray s 0 0 (mA G)) (F0 m 49 ls []) := by
        intro n49
        induction n49 with
        | zero => intro v6 v7 v8 τ H locs ls h; rw [fX12_gathers_L49] at h; cases h
        | succ n49 ih49 =>
          intro v6 v7 v8 τ H locs ls h hP hS hl
          rw [fX12_gathers_L49] at h
          have J198 : ∀ (v6 : Int32) (v7 : Int32) (v8 : Int32) (τ : QMem) (H : Heap) (locs : List Loc) (ls : Array Slot), fX12_gathers_J198 p1 p2 p3 p4 p5 (fX12_gathers_L28 p1 p2 p3 p4 p5 n28) (fX12_gathers_L49 p1 p2 p3 p4 p5 (fX12_gathers_L28 p1 p2 p3 p4 p5 n28) n49) v6 v7 v8 τ = some res → va_P D vwCl (mW G τ) H → va_S (mA G) s.heap H locs → lv_has ls 12 [(0, .ref (G.1 28)), (1, .int p1), (2, .int p2), (3, .int p3), (4, .int p4), (5, .int p5), (6, .int v6), (7, .int v7), (8, .int v8)] → W p l e (headSpec (.code yX12_gathers cX12_gathers 12 none :: lwW) (rmD 5)).room s m ([.ref (G.1 28), .int p1, .int p2, .int p3, .int p4, .int p5] : List Value).toArray below meth c H locs 0 0 (MQ below (mQv D G res) ([.ref (G.1 28), .int p1, .int p2, .int p3, .int p4, .int p5] : List Value).toArray s 0 0 (mA G)) (F0 m 198 ls []) := by
            intro v6 v7 v8 τ H locs ls h hP hS hl
            unfold fX12_gathers_J198 at h
            refine lv_iinc (v := v8 + (-1)) (lv' := [(8, .int (v8 + (-1))), (0, .ref (G.1 28)), (1, .int p1), (2, .int p2), (3, .int p3), (4, .int p4), (5, .int p5), (6, .int v6), (7, .int v7)]) hx hb dX12_gathers_198 hl (k := 8) rfl rfl (by decide) rfl (fun ls hl => ?_)
            refine lv_goto (tgt := 49) hx hb dX12_gathers_201 (by decide) ?_
            exact ih49 v6 v7 (v8 + (-1)) _ _ _ _ h hP hS (lv_sub hl [1, 2, 3, 4, 5, 6, 7, 8, 0] rfl)
          have L70 : ∀ (n70 : Nat) (v6 : Int32) (v7 : Int32) (v8 : Int32) (v9 : Int32) (τ : QMem) (H : Heap) (locs : List Loc) (ls : Array Slot), fX12_gathers_L70 p1 p2 p3 p4 p5 (fX12_gathers_L28 p1 p2 p3 p4 p5 n28) (fX12_gathers_L49 p1 p2 p3 p4 p5 (fX12_gathers_L28 p1 p2 p3 p4 p5 n28) n49) n70 v6 v7 v8 v9 τ = some res → va_P D vwCl (mW G τ) H → va_S (mA G) s.heap H locs → lv_has ls 12 [(0, .ref (G.1 28)), (1, .int p1), (2, .int p2), (3, .int p3), (4, .int p4), (5, .int p5), (6, .int v6), (7, .int v7), (8, .int v8), (9, .int v9)] → W p l e (headSpec (.code yX12_gathers cX12_gathers 12 none :: lwW) (rmD 5)).room s m ([.ref (G.1 28), .int p1, .int p2, .int p3, .int p4, .int p5] : List Value).toArray below meth c H locs 0 0 (MQ below (mQv D G res) ([.ref (G.1 28), .int p1, .int p2, .int p3, .int p4, .int p5] : List Value).toArray s 0 0 (mA G)) (F0 m 70 ls []) := by
            intro n70
            induction n70 with
            | zero => intro v6 v7 v8 v9 τ H locs ls h; rw [fX12_gathers_L70] at h; cases h
            | succ n70 ih70 =>
              intro v6 v7 v8 v9 τ H locs ls h hP hS hl
              rw [fX12_gathers_L70] at h
              have J192 : ∀ (v6 : Int32) (v7 : Int32) (v8 : Int32) (v9 : Int32) (τ : QMem) (H : Heap) (locs : List Loc) (ls : Array Slot), fX12_gathers_J192 p1 p2 p3 p4 p5 (fX12_gathers_L28 p1 p2 p3 p4 p5 n28) (fX12_gathers_L49 p1 p2 p3 p4 p5 (fX12_gathers_L28 p1 p2 p3 p4 p5 n28) n49) (fX12_gathers_L70 p1 p2 p3 p4 p5 (fX12_gathers_L28 p1 p2 p3 p4 p5 n28) (fX12_gathers_L49 p1 p2 p3 p4 p5 (fX12_gathers_L28 p1 p2 p3 p4 p5 n28) n49) n70) v6 v7 v8 v9 τ = some res → va_P D vwCl (mW G τ) H → va_S (mA G) s.heap H locs → lv_has ls 12 [(0, .ref (G.1 28)), (1, .int p1), (2, .int p2), (3, .int p3), (4, .int p4), (5, .int p5), (6, .int v6), (7, .int v7), (8, .int v8), (9, .int v9)] → W p l e (headSpec (.code yX12_gathers cX12_gathers 12 none :: lwW) (rmD 5)).room s m ([.ref (G.1 28), .int p1, .int p2, .int p3, .int p4, .int p5] : List Value).toArray below meth c H locs 0 0 (MQ below (mQv D G res) ([.ref (G.1 28), .int p1, .int p2, .int p3, .int p4, .int p5] : List Value).toArray s 0 0 (mA G)) (F0 m 192 ls []) := by
                intro v6 v7 v8 v9 τ H locs ls h hP hS hl
                unfold fX12_gathers_J192 at h
                refine lv_iinc (v := v9 + (-1)) (lv' := [(9, .int (v9 + (-1))), (0, .ref (G.1 28)), (1, .int p1), (2, .int p2), (3, .int p3), (4, .int p4), (5, .int p5), (6, .int v6), (7, .int v7), (8, .int v8)]) hx hb dX12_gathers_192 hl (k := 9) rfl rfl (by decide) rfl (fun ls hl => ?_)
                refine lv_goto (tgt := 70) hx hb dX12_gathers_195 (by decide) ?_
                exact ih70 v6 v7 v8 (v9 + (-1)) _ _ _ _ h hP hS (lv_sub hl [1, 2, 3, 4, 5, 6, 7, 8, 9, 0] rfl)
              have J167 : ∀ (v6 : Int32) (v7 : Int32) (v8 : Int32) (v9 : Int32) (v11 : Int32) (τ : QMem) (H : Heap) (locs : List Loc) (ls : Array Slot), fX12_gathers_J167 p1 p2 p3 p4 p5 (fX12_gathers_L28 p1 p2 p3 p4 p5 n28) (fX12_gathers_L49 p1 p2 p3 p4 p5 (fX12_gathers_L28 p1 p2 p3 p4 p5 n28) n49) (fX12_gathers_L70 p1 p2 p3 p4 p5 (fX12_gathers_L28 p1 p2 p3 p4 p5 n28) (fX12_gathers_L49 p1 p2 p3 p4 p5 (fX12_gathers_L28 p1 p2 p3 p4 p5 n28) n49) n70) v6 v7 v8 v9 v11 τ = some res → va_P D vwCl (mW G τ) H → va_S (mA G) s.heap H locs → lv_has ls 12 [(0, .ref (G.1 28)), (1, .int p1), (2, .int p2), (3, .int p3), (4, .int p4), (5, .int p5), (6, .int v6), (7, .int v7), (8, .int v8), (9, .int v9), (11, .int v11)] → W p l e (headSpec (.code yX12_gathers cX12_gathers 12 none :: lwW) (rmD 5)).room s m ([.ref (G.1 28), .int p1, .int p2, .int p3, .int p4, .int p5] : List Value).toArray below meth c H locs 0 0 (MQ below (mQv D G res) ([.ref (G.1 28), .int p1, .int p2, .int p3, .int p4, .int p5] : List Value).toArray s 0 0 (mA G)) (F0 m 167 ls []) := by
                intro v6 v7 v8 v9 v11 τ H locs ls h hP hS hl
                unfold fX12_gathers_J167 at h
                refine lv_iload hx hb dX12_gathers_167 (lv_at hl 10 rfl) ?_
                refine lv_if_le (tgt := 192) hx hb dX12_gathers_169 (by decide) (fun hcq5 => ?_) (fun hcq5 => ?_)
                · have h := ifp hcq5 h
                  exact J192 v6 v7 v8 v9 _ _ _ _ h hP hS (lv_sub hl [0, 1, 2, 3, 4, 5, 6, 7, 8, 9] rfl)
                have h := ifn hcq5 h
                refine lv_aload_n hx hb dX12_gathers_172 rfl (lv_at hl 0 rfl) ?_
                refine va_get (D := D) (ci := 12) (v := .int (τ 28 6)) (C := RX12) (T := TX12) (N := 34) hx hb hts iwX12 hown hK hP 28 (mg_2 rfl) rfl 6 (by decide) (hts _ mw_964) (fun _ h9 => h9) rfl dX12_gathers_173 ?_
                refine lv_iload hx hb dX12_gathers_176 (lv_at hl 5 rfl) ?_
                refine lv_icmp_ge (tgt := 192) hx hb dX12_gathers_178 (by decide) (fun hcq6 => ?_) (fun hcq6 => ?_)
                · have h := ifp hcq6 h
                  exact J192 v6 v7 v8 v9 _ _ _ _ h hP hS (lv_sub hl [0, 1, 2, 3, 4, 5, 6, 7, 8, 9] rfl)
                have h := ifn hcq6 h
                refine lv_aload_n hx hb dX12_gathers_181 rfl (lv_at hl 0 rfl) ?_
                refine lv_iload hx hb dX12_gathers_182 (lv_at hl 10 rfl) ?_
                refine lv_ineg hx hb dX12_gathers_184 ?_
                refine lv_iload_n hx hb dX12_gathers_185 rfl (lv_at hl 2 rfl) ?_
                refine lv_iload_n hx hb dX12_gathers_186 rfl (lv_at hl 3 rfl) ?_
                refine lv_iload hx hb dX12_gathers_187 (lv_at hl 4 rfl) ?_
                obtain ⟨xq7, hfq8, h⟩ := obd h
                refine va_callv (va_runV (As := [.int (-v11), .int p2, .int p3, .int p4]) (rest := []) ⟨hx, hb, hml, hown, hts⟩ (kX12_triesLast l D G _ (-v11) p2 p3 p4 xq7 hfq8) (cwV 4 hts (lwW_gV mw_921 mw_923 ms_26 mw_14 mw_924) rfl rfl rfl (by decide +kernel) ⟨Nat.le_of_ble_eq_true rfl, Nat.le_of_ble_eq_true rfl⟩) ⟨fun a U g mk q => ⟨q.1, mPre_call q.2⟩, va_recv hK hP rfl (mg_2 rfl), fun U hU hW => ⟨rfl, mPre_at h0 hS hP hU hW⟩⟩ rfl rfl hl.1 rfl (lv_room (Nat.le_of_ble_eq_true rfl)) dX12_gathers_189 ⟨Nat.zero_le _, Nat.zero_le _⟩) hS (fun q _ h => h) (fun q h => h) (fun u t H1 locs ht hvm hw hB hz1 hq1 hS => ?_)
                obtain rfl := hw.symm
                have hP := hB.1
                rw [ht] at hP
                refine W.widen (k := 0) (n := 0) (Nat.le_refl _) (Nat.le_refl _) ?_
                exact J192 v6 v7 v8 v9 _ _ _ _ h hP hS (lv_sub hl [0, 1, 2, 3, 4, 5, 6, 7, 8, 9] rfl)
              have J126 : ∀ (v6 : Int32) (v7 : Int32) (v8 : Int32) (v9 : Int32) (s0 : Int32) (τ : QMem) (H : Heap) (locs : List Loc) (ls : Array Slot), fX12_gathers_J126 p1 p2 p3 p4 p5 (fX12_gathers_L28 p1 p2 p3 p4 p5 n28) (fX12_gathers_L49 p1 p2 p3 p4 p5 (fX12_gathers_L28 p1 p2 p3 p4 p5 n28) n49) (fX12_gathers_L70 p1 p2 p3 p4 p5 (fX12_gathers_L28 p1 p2 p3 p4 p5 n28) (fX12_gathers_L49 p1 p2 p3 p4 p5 (fX12_gathers_L28 p1 p2 p3 p4 p5 n28) n49) n70) v6 v7 v8 v9 s0 τ = some res → va_P D vwCl (mW G τ) H → va_S (mA G) s.heap H locs → lv_has ls 12 [(0, .ref (G.1 28)), (1, .int p1), (2, .int p2), (3, .int p3), (4, .int p4), (5, .int p5), (6, .int v6), (7, .int v7), (8, .int v8), (9, .int v9)] → W p l e (headSpec (.code yX12_gathers cX12_gathers 12 none :: lwW) (rmD 5)).room s m ([.ref (G.1 28), .int p1, .int p2, .int p3, .int p4, .int p5] : List Value).toArray below meth c H locs 0 0 (MQ below (mQv D G res) ([.ref (G.1 28), .int p1, .int p2, .int p3, .int p4, .int p5] : List Value).toArray s 0 0 (mA G)) (F0 m 126 ls [.int s0]) := by
                intro v6 v7 v8 v9 s0 τ H locs ls h hP hS hl
                unfold fX12_gathers_J126 at h
                refine lv_istore (lv' := [(11, .int s0), (0, .ref (G.1 28)), (1, .int p1), (2, .int p2), (3, .int p3), (4, .int p4), (5, .int p5), (6, .int v6), (7, .int v7), (8, .int v8), (9, .int v9)]) hx hb dX12_gathers_126 hl (by decide) rfl (fun ls hl => ?_)
                refine lv_aload_n hx hb dX12_gathers_128 rfl (lv_at hl 1 rfl) ?_
                refine va_get (D := D) (ci := 12) (v := .ref (G.1 6)) (C := RX12) (T := TX12) (N := 34) hx hb hts iwX12 hown hK hP 28 (mg_2 rfl) rfl 7 (by decide) (hts _ mw_965) (fun _ h9 => h9) rfl dX12_gathers_129 ?_
                refine lv_iconst (v := 0) hx hb dX12_gathers_132 (by decide) ?_
                refine lv_iload hx hb dX12_gathers_133 (lv_at hl 8 rfl) ?_
                obtain ⟨hiq15, h⟩ := nif h
                refine va_iast hx hb hK hP (mD hi) hS 6 0 (mg_0 rfl) rfl hiq15 dX12_gathers_135 (fun H locs hP hD hS => ?_)
                have hP : va_P D vwCl (mW G (ms τ 6 (0 : Int32).toNatClampNeg v7)) H := by rw [← ms_0x rfl]; exact hP
                refine lv_aload_n hx hb dX12_gathers_136 rfl (lv_at hl 1 rfl) ?_
                refine va_get (D := D) (ci := 12) (v := .ref (G.1 6)) (C := RX12) (T := TX12) (N := 34) hx hb hts iwX12 hown hK hP 28 (mg_2 rfl) rfl 7 (by decide) (hts _ mw_965) (fun _ h9 => h9) rfl dX12_gathers_137 ?_
                refine lv_iconst (v := 1) hx hb dX12_gathers_140 (by decide) ?_
                refine lv_iload hx hb dX12_gathers_141 (lv_at hl 9 rfl) ?_
                obtain ⟨hiq16, h⟩ := nif h
                refine va_iast hx hb hK hP (mD hi) hS 6 0 (mg_0 rfl) rfl hiq16 dX12_gathers_143 (fun H locs hP hD hS => ?_)
                have hP : va_P D vwCl (mW G (ms (ms τ 6 (0 : Int32).toNatClampNeg v7) 6 (1 : Int32).toNatClampNeg v8)) H := by rw [← ms_0x rfl]; exact hP
                refine lv_aload_n hx hb dX12_gathers_144 rfl (lv_at hl 1 rfl) ?_
                refine va_get (D := D) (ci := 12) (v := .ref (G.1 6)) (C := RX12) (T := TX12) (N := 34) hx hb hts iwX12 hown hK hP 28 (mg_2 rfl) rfl 7 (by decide) (hts _ mw_965) (fun _ h9 => h9) rfl dX12_gathers_145 ?_
                refine lv_iconst (v := 2) hx hb dX12_gathers_148 (by decide) ?_
                refine lv_iload hx hb dX12_gathers_149 (lv_at hl 10 rfl) ?_
                obtain ⟨hiq17, h⟩ := nif h
                refine va_iast hx hb hK hP (mD hi) hS 6 0 (mg_0 rfl) rfl hiq17 dX12_gathers_151 (fun H locs hP hD hS => ?_)
                have hP : va_P D vwCl (mW G (ms (ms (ms τ 6 (0 : Int32).toNatClampNeg v7) 6 (1 : Int32).toNatClampNeg v8) 6 (2 : Int32).toNatClampNeg v9)) H := by rw [← ms_0x rfl]; exact hP
                refine lv_iload hx hb dX12_gathers_152 (lv_at hl 0 rfl) ?_
                refine lv_if_lt (tgt := 167) hx hb dX12_gathers_154 (by decide) (fun hcq18 => ?_) (fun hcq18 => ?_)
                · have h := ifp hcq18 h
                  exact J167 v6 v7 v8 v9 s0 _ _ _ _ h hP hS (lv_sub hl [1, 2, 3, 4, 5, 6, 7, 8, 9, 10, 0] rfl)
                have h := ifn hcq18 h
                refine lv_aload_n hx hb dX12_gathers_157 rfl (lv_at hl 1 rfl) ?_
                refine lv_iload hx hb dX12_gathers_158 (lv_at hl 0 rfl) ?_
                refine lv_iload_n hx hb dX12_gathers_160 rfl (lv_at hl 3 rfl) ?_
                refine lv_iload_n hx hb dX12_gathers_161 rfl (lv_at hl 4 rfl) ?_
                refine lv_iload hx hb dX12_gathers_162 (lv_at hl 5 rfl) ?_
                obtain ⟨xq19, hfq20, h⟩ := obd h
                refine va_callv (va_runV (As := [.int s0, .int p2, .int p3, .int p4]) (rest := []) ⟨hx, hb, hml, hown, hts⟩ (kX12_triesLast l D G _ s0 p2 p3 p4 xq19 hfq20) (cwV 4 hts (lwW_gV mw_921 mw_923 ms_26 mw_14 mw_924) rfl rfl rfl (by decide +kernel) ⟨Nat.le_of_ble_eq_true rfl, Nat.le_of_ble_eq_true rfl⟩) ⟨fun a U g mk q => ⟨q.1, mPre_call q.2⟩, va_recv hK hP rfl (mg_2 rfl), fun U hU hW => ⟨rfl, mPre_at h0 hS hP hU hW⟩⟩ rfl rfl hl.1 rfl (lv_room (Nat.le_of_ble_eq_true rfl)) dX12_gathers_164 ⟨Nat.zero_le _, Nat.zero_le _⟩) hS (fun q _ h => h) (fun q h => h) (fun u t H1 locs ht hvm hw hB hz1 hq1 hS => ?_)
                obtain rfl := hw.symm
                have hP := hB.1
                rw [ht] at hP
                refine W.widen (k := 0) (n := 0) (Nat.le_refl _) (Nat.le_refl _) ?_
                exact J167 v6 v7 v8 v9 s0 _ _ _ _ h hP hS (lv_sub hl [1, 2, 3, 4, 5, 6, 7, 8, 9, 10, 0] rfl)
              refine lv_iload hx hb dX12_gathers_70 (lv_at hl 9 rfl) ?_
              refine lv_iload hx hb dX12_gathers_72 (lv_at hl 6 rfl) ?_
              refine lv_ineg hx hb dX12_gathers_74 ?_
              refine lv_icmp_lt (tgt := 198) hx hb dX12_gathers_75 (by decide) (fun hcq21 => ?_) (fun hcq21 => ?_)
              · have h := ifp hcq21 h
                exact J198 v6 v7 v8 _ _ _ _ h hP hS (lv_sub hl [0, 1, 2, 3, 4, 5, 6, 7, 8] rfl)
              have h := ifn hcq21 h
              refine lv_aload_n hx hb dX12_gathers_78 rfl (lv_at hl 0 rfl) ?_
              refine va_get (D := D) (ci := 12) (v := .int (τ 28 6)) (C := RX12) (T := TX12) (N := 34) hx hb hts iwX12 hown hK hP 28 (mg_2 rfl) rfl 6 (by decide) (hts _ mw_964) (fun _ h9 => h9) rfl dX12_gathers_79 ?_
              refine lv_iload hx hb dX12_gathers_82 (lv_at hl 5 rfl) ?_
              refine lv_icmp_ge (tgt := 198) hx hb dX12_gathers_84 (by decide) (fun hcq22 => ?_) (fun hcq22 => ?_)
              · have h := ifp hcq22 h
                exact J198 v6 v7 v8 _ _ _ _ h hP hS (lv_sub hl [0, 1, 2, 3, 4, 5, 6, 7, 8] rfl)
              have h := ifn hcq22 h
              refine lv_iconst (v := 4) hx hb dX12_gathers_87 (by decide) ?_
              refine lv_iload_n hx hb dX12_gathers_88 rfl (lv_at hl 1 rfl) ?_
              refine lv_imul hx hb dX12_gathers_89 ?_
              refine lv_iload hx hb dX12_gathers_90 (lv_at hl 7 rfl) ?_
              refine lv_iload hx hb dX12_gathers_92 (lv_at hl 7 rfl) ?_
              refine lv_imul hx hb dX12_gathers_94 ?_
              refine lv_isub hx hb dX12_gathers_95 ?_
              refine lv_iload hx hb dX12_gathers_96 (lv_at hl 8 rfl) ?_
              refine lv_iload hx hb dX12_gathers_98 (lv_at hl 8 rfl) ?_
              refine lv_imul hx hb dX12_gathers_100 ?_
              refine lv_isub hx hb dX12_gathers_101 ?_
              refine lv_iload hx hb dX12_gathers_102 (lv_at hl 9 rfl) ?_
              refine lv_iload hx hb dX12_gathers_104 (lv_at hl 9 rfl) ?_
              refine lv_imul hx hb dX12_gathers_106 ?_
              refine lv_isub hx hb dX12_gathers_107 ?_
              refine lv_istore (lv' := [(10, .int ((((4 * p1) - (v7 * v7)) - (v8 * v8)) - (v9 * v9))), (0, .ref (G.1 28)), (1, .int p1), (2, .int p2), (3, .int p3), (4, .int p4), (5, .int p5), (6, .int v6), (7, .int v7), (8, .int v8), (9, .int v9)]) hx hb dX12_gathers_108 hl (by decide) rfl (fun ls hl => ?_)
              refine lv_iload hx hb dX12_gathers_110 (lv_at hl 0 rfl) ?_
              refine lv_if_ge (tgt := 119) hx hb dX12_gathers_112 (by decide) (fun hcq23 => ?_) (fun hcq23 => ?_)
              · have h := ifp hcq23 h
                refine lv_aload_n hx hb dX12_gathers_119 rfl (lv_at hl 1 rfl) ?_
                refine va_get (D := D) (ci := 12) (v := .ref (G.1 0)) (C := RX12) (T := TX12) (N := 34) hx hb hts iwX12 hown hK hP 28 (mg_2 rfl) rfl 0 (by decide) (hts _ mw_958) (fun _ h9 => h9) rfl dX12_gathers_120 ?_
                refine lv_iload hx hb dX12_gathers_123 (lv_at hl 0 rfl) ?_
                obtain ⟨hiq24, h⟩ := nif h
                refine va_iald hx hb hK hP 0 0 (mg_0 rfl) rfl hiq24 dX12_gathers_125 ?_
                exact J126 v6 v7 v8 v9 (τ 0 ((((4 * p1) - (v7 * v7)) - (v8 * v8)) - (v9 * v9)).toNatClampNeg) _ _ _ _ h hP hS (lv_sub hl [1, 2, 3, 4, 5, 6, 7, 8, 9, 10] rfl)
              have h := ifn hcq23 h
              refine lv_iconst (v := (-1)) hx hb dX12_gathers_115 (by decide) ?_
              refine lv_goto (tgt := 126) hx hb dX12_gathers_116 (by decide) ?_
              exact J126 v6 v7 v8 v9 (-1) _ _ _ _ h hP hS (lv_sub hl [1, 2, 3, 4, 5, 6, 7, 8, 9, 10] rfl)
          refine lv_iload hx hb dX12_gathers_49 (lv_at hl 8 rfl) ?_
          refine lv_iload hx hb dX12_gathers_51 (lv_at hl 6 rfl) ?_
          refine lv_ineg hx hb dX12_gathers_53 ?_
          refine lv_icmp_lt (tgt := 204) hx hb dX12_gathers_54 (by decide) (fun hcq25 => ?_) (fun hcq25 => ?_)
          · have h := ifp hcq25 h
            exact J204 v6 v7 _ _ _ _ h hP hS (lv_sub hl [0, 1, 2, 3, 4, 5, 6, 7] rfl)
          have h := ifn hcq25 h
          refine lv_aload_n hx hb dX12_gathers_57 rfl (lv_at hl 0 rfl) ?_
          refine va_get (D := D) (ci := 12) (v := .int (τ 28 6)) (C := RX12) (T := TX12) (N := 34) hx hb hts iwX12 hown hK hP 28 (mg_2 rfl) rfl 6 (by decide) (hts _ mw_964) (fun _ h9 => h9) rfl dX12_gathers_58 ?_
          refine lv_iload hx hb dX12_gathers_61 (lv_at hl 5 rfl) ?_
          refine lv_icmp_ge (tgt := 204) hx hb dX12_gathers_63 (by decide) (fun hcq26 => ?_) (fun hcq26 => ?_)
          · have h := ifp hcq26 h
            exact J204 v6 v7 _ _ _ _ h hP hS (lv_sub hl [0, 1, 2, 3, 4, 5, 6, 7] rfl)
          have h := ifn hcq26 h
          refine lv_iload hx hb dX12_gathers_66 (lv_at hl 6 rfl) ?_
          refine lv_istore (lv' := [(9, .int v6), (0, .ref (G.1 28)), (1, .int p1), (2, .int p2), (3, .int p3), (4, .int p4), (5, .int p5), (6, .int v6), (7, .int v7), (8, .int v8)]) hx hb dX12_gathers_68 hl (by decide) rfl (fun ls hl => ?_)
          exact L70 FU v6 v7 v8 v6 _ _ _ _ h hP hS (lv_sub hl [1, 2, 3, 4, 5, 6, 7, 8, 9, 0] rfl)
      refine lv_iload hx hb dX12_gathers_28 (lv_at hl 7 rfl) ?_
      refine lv_iload hx hb dX12_gathers_30 (lv_at hl 6 rfl) ?_
      refine lv_ineg hx hb dX12_gathers_32 ?_
      refine lv_icmp_lt (tgt := 210) hx hb dX12_gathers_33 (by decide) (fun hcq27 => ?_) (fun hcq27 => ?_)
      · have h := ifp hcq27 h
        obtain rfl := Option.some.inj h
        exact W.vret hx hb hr (fun t ht hW => ⟨⟨_, rfl, rfl, mPre_at h0 hS hP ht hW⟩, hS.F ht⟩) hS.2.2 dX12_gathers_210
      have h := ifn hcq27 h
      refine lv_aload_n hx hb dX12_gathers_36 rfl (lv_at hl 0 rfl) ?_
      refine va_get (D := D) (ci := 12) (v := .int (τ 28 6)) (C := RX12) (T := TX12) (N := 34) hx hb hts iwX12 hown hK hP 28 (mg_2 rfl) rfl 6 (by decide) (hts _ mw_964) (fun _ h9 => h9) rfl dX12_gathers_37 ?_
      refine lv_iload hx hb dX12_gathers_40 (lv_at hl 5 rfl) ?_
      refine lv_icmp_ge (tgt := 210) hx hb dX12_gathers_42 (by decide) (fun hcq28 => ?_) (fun hcq28 => ?_)
      · have h := ifp hcq28 h
        obtain rfl := Option.some.inj h
        exact W.vret hx hb hr (fun t ht hW => ⟨⟨_, rfl, rfl, mPre_at h0 hS hP ht hW⟩, hS.F ht⟩) hS.2.2 dX12_gathers_210
      have h := ifn hcq28 h
      refine lv_iload hx hb dX12_gathers_45 (lv_at hl 6 rfl) ?_
      refine lv_istore (lv' := [(8, .int v6), (0, .ref (G.1 28)), (1, .int p1), (2, .int p2), (3, .int p3), (4, .int p4), (5, .int p5), (6, .int v6), (7, .int v7)]) hx hb dX12_gathers_47 hl (by decide) rfl (fun ls hl => ?_)
      exact L49 FU v6 v7 v6 _ _ _ _ h hP hS (lv_sub hl [1, 2, 3, 4, 5, 6, 7, 8, 0] rfl)
  have L3 : ∀ (n3 : Nat) (v6 : Int32) (τ : QMem) (H : Heap) (locs : List Loc) (ls : Array Slot), fX12_gathers_L3 p1 p2 p3 p4 p5 n3 v6 τ = some res → va_P D vwCl (mW G τ) H → va_S (mA G) s.heap H locs → lv_has ls 12 [(0, .ref (G.1 28)), (1, .int p1), (2, .int p2), (3, .int p3), (4, .int p4), (5, .int p5), (6, .int v6)] → W p l e (headSpec (.code yX12_gathers cX12_gathers 12 none :: lwW) (rmD 5)).room s m ([.ref (G.1 28), .int p1, .int p2, .int p3, .int p4, .int p5] : List Value).toArray below meth c H locs 0 0 (MQ below (mQv D G res) ([.ref (G.1 28), .int p1, .int p2, .int p3, .int p4, .int p5] : List Value).toArray s 0 0 (mA G)) (F0 m 3 ls []) := by
    intro n3
    induction n3 with
    | zero => intro v6 τ H locs ls h; rw [fX12_gathers_L3] at h; cases h
    | succ n3 ih3 =>
      intro v6 τ H locs ls h hP hS hl
      rw [fX12_gathers_L3] at h
      refine lv_iload hx hb dX12_gathers_3 (lv_at hl 6 rfl) ?_
      refine lv_iconst (v := 1) hx hb dX12_gathers_5 (by decide) ?_
      refine lv_iadd hx hb dX12_gathers_6 ?_
      refine lv_iload hx hb dX12_gathers_7 (lv_at hl 6 rfl) ?_
      refine lv_iconst (v := 1) hx hb dX12_gathers_9 (by decide) ?_
      refine lv_iadd hx hb dX12_gathers_10 ?_
      refine lv_imul hx hb dX12_gathers_11 ?_
      refine lv_iconst (v := 4) hx hb dX12_gathers_12 (by decide) ?_
      refine lv_iload_n hx hb dX12_gathers_13 rfl (lv_at hl 1 rfl) ?_
      refine lv_imul hx hb dX12_gathers_14 ?_
      refine lv_icmp_gt (tgt := 24) hx hb dX12_gathers_15 (by decide) (fun hcq29 => ?_) (fun hcq29 => ?_)
      · have h := ifp hcq29 h
        refine lv_iload hx hb dX12_gathers_24 (lv_at hl 6 rfl) ?_
        refine lv_istore (lv' := [(7, .int v6), (0, .ref (G.1 28)), (1, .int p1), (2, .int p2), (3, .int p3), (4, .int p4), (5, .int p5), (6, .int v6)]) hx hb dX12_gathers_26 hl (by decide) rfl (fun ls hl => ?_)
        exact L28 FU v6 v6 _ _ _ _ h hP hS (lv_sub hl [1, 2, 3, 4, 5, 6, 7, 0] rfl)
      have h := ifn hcq29 h
      refine lv_iinc (v := v6 + 1) (lv' := [(6, .int (v6 + 1)), (0, .ref (G.1 28)), (1, .int p1), (2, .int p2), (3, .int p3), (4, .int p4), (5, .int p5)]) hx hb dX12_gathers_18 hl (k := 6) rfl rfl (by decide) rfl (fun ls hl => ?_)
      refine lv_goto (tgt := 3) hx hb dX12_gathers_21 (by decide) ?_
      exact ih3 (v6 + 1) _ _ _ _ h hP hS (lv_sub hl [1, 2, 3, 4, 5, 6, 0] rfl)
  refine lv_iconst (v := 0) hx hb dX12_gathers_0 (by decide) ?_
  refine lv_istore (lv' := [(6, .int 0), (0, .ref (G.1 28)), (1, .int p1), (2, .int p2), (3, .int p3), (4, .int p4), (5, .int p5)]) hx hb dX12_gathers_1 hl (by decide) rfl (fun ls hl => ?_)
  exact L3 FU 0 _ _ _ _ h hP hS (lv_sub hl [1, 2, 3, 4, 5, 6, 0] rfl)
def fX12_isPrime_J35 (p0 : Int32) (K13 : Int32 → Int32 → Option (Int32)) (v2 : Int32) (s0 : Int32) : Option (Int32) :=
  K13 s0 (v2 + 1)
def fX12_isPrime_J34 (p0 : Int32) (K13 : Int32 → Int32 → Option (Int32)) (v2 : Int32) : Option (Int32) :=
  fX12_isPrime_J35 p0 K13 v2 0
def fX12_isPrime_L13 (p0 : Int32) : Nat → Int32 → Int32 → Option (Int32)
  | 0, _, _ => none
  | n + 1, v1, v2 =>
  if p0 < (v2 * v2) then (if ¬ (v1 = 0 ∨ v1 = 1) then none else (some v1)) else (if v1 = 0 then (fX12_isPrime_J34 p0 (fX12_isPrime_L13 p0 n) v2) else (if v2 = 0 then none else (if (p0 - p0 / v2 * v2) = 0 then (fX12_isPrime_J34 p0 (fX12_isPrime_L13 p0 n) v2) else (fX12_isPrime_J35 p0 (fX12_isPrime_L13 p0 n) v2 1))))
def fX12_isPrime_J10 (p0 : Int32) (s0 : Int32) : Option (Int32) :=
  fX12_isPrime_L13 p0 FU s0 2
def fX12_isPrime (p0 : Int32) : Option (Int32) :=
  if p0 ≤ 1 then (fX12_isPrime_J10 p0 0) else (fX12_isPrime_J10 p0 1)
set_option maxHeartbeats 4000000 in
set_option maxRecDepth 100000 in
theorem kX12_isPrime (l : Launch) (p0 : Int32) (res : Int32) (h : fX12_isPrime p0 = some res) : Met l yX12_isPrime (.code yX12_isPrime cX12_isPrime 3 (some .boolean) :: lwW) (rmD 0) (nPc [.int p0]) (nQi res) 0 0 (fun _ => False) := by
  refine Met.ofW (cc := cX12_isPrime) (maxL := 3) (ret := (some .boolean)) (by decide) rfl ?_
  intro p e s m args below meth c s₁ B hml hv
  obtain ⟨rfl, h0⟩ := hv
  have hx := B.exec
  have hb := B.bytes
  have hr := B.returns
  have hts := fun (w : Cond) (hw : w ∈ lwW) => atoms_spec (ws := (.code yX12_isPrime cX12_isPrime 3 (some .boolean) :: lwW)) B.pre w (List.mem_cons_of_mem _ hw)
  have hown : s.vm.findClass RX12 = some m.cls := findClass_of_methodNamed B.named
  have hlocks := B.notSynchronized
  have hS : va_S (fun _ => False) s.heap s.heap [] := va_S.rf
  have hl := lv_entry ([.int p0]) (n := 3) (Nat.le_of_ble_eq_true rfl)
  rw [lg_entry_eq]
  generalize (lg_sl ([.int p0]) ++ List.replicate (3 - (lg_sl ([.int p0])).length) Slot.unset).toArray = ls at hl ⊢
  have hl : lv_has ls 3 [(0, .int p0)] := hl
  unfold fX12_isPrime at h
  have L13 : ∀ (n13 : Nat) (v1 : Int32) (v2 : Int32) (H : Heap) (locs : List Loc) (ls : Array Slot), fX12_isPrime_L13 p0 n13 v1 v2 = some res → va_S (fun _ => False) s.heap H locs → lv_has ls 3 [(0, .int p0), (1, .int v1), (2, .int v2)] → W p l e (headSpec (.code yX12_isPrime cX12_isPrime 3 (some .boolean) :: lwW) (rmD 0)).room s m ([.int p0] : List Value).toArray below meth c H locs 0 0 (MQ below (nQi res) ([.int p0] : List Value).toArray s 0 0 (fun _ => False)) (F0 m 13 ls []) := by
    intro n13
    induction n13 with
    | zero => intro v1 v2 H locs ls h; rw [fX12_isPrime_L13] at h; cases h
    | succ n13 ih13 =>
      intro v1 v2 H locs ls h hS hl
      rw [fX12_isPrime_L13] at h
      have J35 : ∀ (v2 : Int32) (s0 : Int32) (H : Heap) (locs : List Loc) (ls : Array Slot), fX12_isPrime_J35 p0 (fX12_isPrime_L13 p0 n13) v2 s0 = some res → va_S (fun _ => False) s.heap H locs → lv_has ls 3 [(0, .int p0), (2, .int v2)] → W p l e (headSpec (.code yX12_isPrime cX12_isPrime 3 (some .boolean) :: lwW) (rmD 0)).room s m ([.int p0] : List Value).toArray below meth c H locs 0 0 (MQ below (nQi res) ([.int p0] : List Value).toArray s 0 0 (fun _ => False)) (F0 m 35 ls [.int s0]) := by
        intro v2 s0 H locs ls h hS hl
        unfold fX12_isPrime_J35 at h
        refine lv_istore_n (lv' := [(1, .int s0), (0, .int p0), (2, .int v2)]) hx hb dX12_isPrime_35 rfl hl (by decide) rfl (fun ls hl => ?_)
        refine lv_iinc (v := v2 + 1) (lv' := [(2, .int (v2 + 1)), (1, .int s0), (0, .int p0)]) hx hb dX12_isPrime_36 hl (k := 2) rfl rfl (by decide) rfl (fun ls hl => ?_)
        refine lv_goto (tgt := 13) hx hb dX12_isPrime_39 (by decide) ?_
        exact ih13 s0 (v2 + 1) _ _ _ h hS (lv_sub hl [2, 1, 0] rfl)
      have J34 : ∀ (v2 : Int32) (H : Heap) (locs : List Loc) (ls : Array Slot), fX12_isPrime_J34 p0 (fX12_isPrime_L13 p0 n13) v2 = some res → va_S (fun _ => False) s.heap H locs → lv_has ls 3 [(0, .int p0), (2, .int v2)] → W p l e (headSpec (.code yX12_isPrime cX12_isPrime 3 (some .boolean) :: lwW) (rmD 0)).room s m ([.int p0] : List Value).toArray below meth c H locs 0 0 (MQ below (nQi res) ([.int p0] : List Value).toArray s 0 0 (fun _ => False)) (F0 m 34 ls []) := by
        intro v2 H locs ls h hS hl
        unfold fX12_isPrime_J34 at h
        refine lv_iconst (v := 0) hx hb dX12_isPrime_34 (by decide) ?_
        exact J35 v2 0 _ _ _ h hS (lv_sub hl [0, 1] rfl)
      refine lv_iload_n hx hb dX12_isPrime_13 rfl (lv_at hl 2 rfl) ?_
      refine lv_iload_n hx hb dX12_isPrime_14 rfl (lv_at hl 2 rfl) ?_
      refine lv_imul hx hb dX12_isPrime_15 ?_
      refine lv_iload_n hx hb dX12_isPrime_16 rfl (lv_at hl 0 rfl) ?_
      refine lv_icmp_gt (tgt := 42) hx hb dX12_isPrime_17 (by decide) (fun hcq1 => ?_) (fun hcq1 => ?_)
      · have h := ifp hcq1 h
        refine lv_iload_n hx hb dX12_isPrime_42 rfl (lv_at hl 1 rfl) ?_
        obtain ⟨hzq2, h⟩ := nif h
        have hzq2 := Decidable.not_not.mp hzq2
        obtain rfl := Option.some.inj h
        exact W.zret hx hb hr (nar01 hzq2) (fun t ht hW => ⟨⟨_, (), rfl, rfl, trivial⟩, hS.F ht⟩) hS.2.2 dX12_isPrime_43
      have h := ifn hcq1 h
      refine lv_iload_n hx hb dX12_isPrime_20 rfl (lv_at hl 1 rfl) ?_
      refine lv_if_eq (tgt := 34) hx hb dX12_isPrime_21 (by decide) (fun hcq3 => ?_) (fun hcq3 => ?_)
      · have h := ifp hcq3 h
        exact J34 v2 _ _ _ h hS (lv_sub hl [0, 2] rfl)
      have h := ifn hcq3 h
      refine lv_iload_n hx hb dX12_isPrime_24 rfl (lv_at hl 0 rfl) ?_
      refine lv_iload_n hx hb dX12_isPrime_25 rfl (lv_at hl 2 rfl) ?_
      obtain ⟨hdq4, h⟩ := nif h
      refine lv_irem hx hb dX12_isPrime_26 hdq4 ?_
      refine lv_if_eq (tgt := 34) hx hb dX12_isPrime_27 (by decide) (fun hcq5 => ?_) (fun hcq5 => ?_)
      · have h := ifp hcq5 h
        exact J34 v2 _ _ _ h hS (lv_sub hl [0, 2] rfl)
      have h := ifn hcq5 h
      refine lv_iconst (v := 1) hx hb dX12_isPrime_30 (by decide) ?_
      refine lv_goto (tgt := 35) hx hb dX12_isPrime_31 (by decide) ?_
      exact J35 v2 1 _ _ _ h hS (lv_sub hl [0, 2] rfl)
  have J10 : ∀ (s0 : Int32) (H : Heap) (locs : List Loc) (ls : Array Slot), fX12_isPrime_J10 p0 s0 = some res → va_S (fun _ => False) s.heap H locs → lv_has ls 3 [(0, .int p0)] → W p l e (headSpec (.code yX12_isPrime cX12_isPrime 3 (some .boolean) :: lwW) (rmD 0)).room s m ([.int p0] : List Value).toArray below meth c H locs 0 0 (MQ below (nQi res) ([.int p0] : List Value).toArray s 0 0 (fun _ => False)) (F0 m 10 ls [.int s0]) := by
    intro s0 H locs ls h hS hl
    unfold fX12_isPrime_J10 at h
    refine lv_istore_n (lv' := [(1, .int s0), (0, .int p0)]) hx hb dX12_isPrime_10 rfl hl (by decide) rfl (fun ls hl => ?_)
    refine lv_iconst (v := 2) hx hb dX12_isPrime_11 (by decide) ?_
    refine lv_istore_n (lv' := [(2, .int 2), (1, .int s0), (0, .int p0)]) hx hb dX12_isPrime_12 rfl hl (by decide) rfl (fun ls hl => ?_)
    exact L13 FU s0 2 _ _ _ h hS (lv_sub hl [2, 1, 0] rfl)
  refine lv_iload_n hx hb dX12_isPrime_0 rfl (lv_at hl 0 rfl) ?_
  refine lv_iconst (v := 1) hx hb dX12_isPrime_1 (by decide) ?_
  refine lv_icmp_le (tgt := 9) hx hb dX12_isPrime_2 (by decide) (fun hcq6 => ?_) (fun hcq6 => ?_)
  · have h := ifp hcq6 h
    refine lv_iconst (v := 0) hx hb dX12_isPrime_9 (by decide) ?_
    exact J10 0 _ _ _ h hS (lv_sub hl [0] rfl)
  have h := ifn hcq6 h
  refine lv_iconst (v := 1) hx hb dX12_isPrime_5 (by decide) ?_
  refine lv_goto (tgt := 10) hx hb dX12_isPrime_6 (by decide) ?_
  exact J10 1 _ _ _ h hS (lv_sub hl [0] rfl)
def fX12_down (p0 : Int32) (p1 : Int32) : Option (Int32) :=
  if p0 < 0 then (if p1 = 0 then none else (some (-(((p1 - 1) - p0) / p1)))) else (if p1 = 0 then none else (some (p0 / p1)))
set_option maxHeartbeats 4000000 in
set_option maxRecDepth 100000 in
theorem kX12_down (l : Launch) (p0 : Int32) (p1 : Int32) (res : Int32) (h : fX12_down p0 p1 = some res) : Met l yX12_down (.code yX12_down cX12_down 2 (some .int) :: lwW) (rmD 0) (nPc [.int p0, .int p1]) (nQi res) 0 0 (fun _ => False) := by
  refine Met.ofW (cc := cX12_down) (maxL := 2) (ret := (some .int)) (by decide) rfl ?_
  intro p e s m args below meth c s₁ B hml hv
  obtain ⟨rfl, h0⟩ := hv
  have hx := B.exec
  have hb := B.bytes
  have hr := B.returns
  have hts := fun (w : Cond) (hw : w ∈ lwW) => atoms_spec (ws := (.code yX12_down cX12_down 2 (some .int) :: lwW)) B.pre w (List.mem_cons_of_mem _ hw)
  have hown : s.vm.findClass RX12 = some m.cls := findClass_of_methodNamed B.named
  have hlocks := B.notSynchronized
  have hS : va_S (fun _ => False) s.heap s.heap [] := va_S.rf
  have hl := lv_entry ([.int p0, .int p1]) (n := 2) (Nat.le_of_ble_eq_true rfl)
  rw [lg_entry_eq]
  generalize (lg_sl ([.int p0, .int p1]) ++ List.replicate (2 - (lg_sl ([.int p0, .int p1])).length) Slot.unset).toArray = ls at hl ⊢
  have hl : lv_has ls 2 [(0, .int p0), (1, .int p1)] := hl
  unfold fX12_down at h
  refine lv_iload_n hx hb dX12_down_0 rfl (lv_at hl 0 rfl) ?_
  refine lv_if_lt (tgt := 10) hx hb dX12_down_1 (by decide) (fun hcq1 => ?_) (fun hcq1 => ?_)
  · have h := ifp hcq1 h
    refine lv_iload_n hx hb dX12_down_10 rfl (lv_at hl 1 rfl) ?_
    refine lv_iconst (v := 1) hx hb dX12_down_11 (by decide) ?_
    refine lv_isub hx hb dX12_down_12 ?_
    refine lv_iload_n hx hb dX12_down_13 rfl (lv_at hl 0 rfl) ?_
    refine lv_isub hx hb dX12_down_14 ?_
    refine lv_iload_n hx hb dX12_down_15 rfl (lv_at hl 1 rfl) ?_
    obtain ⟨hdq2, h⟩ := nif h
    refine lv_idiv hx hb dX12_down_16 hdq2 ?_
    refine lv_ineg hx hb dX12_down_17 ?_
    obtain rfl := Option.some.inj h
    exact W.iret (v := -(((p1 - 1) - p0) / p1)) hx hb hr (fun t ht hW => ⟨⟨_, (), rfl, rfl, trivial⟩, hS.F ht⟩) hS.2.2 dX12_down_18
  have h := ifn hcq1 h
  refine lv_iload_n hx hb dX12_down_4 rfl (lv_at hl 0 rfl) ?_
  refine lv_iload_n hx hb dX12_down_5 rfl (lv_at hl 1 rfl) ?_
  obtain ⟨hdq3, h⟩ := nif h
  refine lv_idiv hx hb dX12_down_6 hdq3 ?_
  refine lv_goto (tgt := 18) hx hb dX12_down_7 (by decide) ?_
  obtain rfl := Option.some.inj h
  exact W.iret (v := p0 / p1) hx hb hr (fun t ht hW => ⟨⟨_, (), rfl, rfl, trivial⟩, hS.F ht⟩) hS.2.2 dX12_down_18
def fX12_triesNearest_J139 (k1 : Nat) (p2 : Int32) (k3 : Nat) (p4 : Int32) (p5 : Int32) (p6 : Int32)  (τ : QMem) : Option (QMem) :=
  (fX12_copies 10 0 8 0 τ).bind fun xq1 => ((fX12_copies 11 0 9 0 xq1).bind fun xq3 => (some xq3))
def fX12_triesNearest_L51 (k1 : Nat) (p2 : Int32) (k3 : Nat) (p4 : Int32) (p5 : Int32) (p6 : Int32) : Nat → Int32 → QMem → Option (QMem)
  | 0, _, _ => none
  | n + 1, v7, τ =>
  if 4 ≤ v7 then ((fX12_normOf 11 0 τ).bind fun xq10 => ((fX12_normOf 9 0 xq10.2).bind fun xq12 => (if p6 = 0 then (if xq10.1 < xq12.1 then (fX12_triesNearest_J139 k1 p2 k3 p4 p5 p6 xq12.2) else (if xq10.1 = xq12.1 then ((fX12_isGreater 10 0 8 0 xq12.2).bind fun xq17 => (if xq17.1 = 0 then (some xq17.2) else (fX12_triesNearest_J139 k1 p2 k3 p4 p5 p6 xq17.2))) else (some xq12.2))) else (fX12_triesNearest_J139 k1 p2 k3 p4 p5 p6 xq12.2)))) else (if (p2 + v7 < 0 ∨ ml k1 ≤ (p2 + v7).toNatClampNeg) then none else (if (v7 < 0 ∨ ml 11 ≤ v7.toNatClampNeg) then none else (if (v7 < 0 ∨ ml 11 ≤ v7.toNatClampNeg) then none else ((fX12_triesNearest_L51 k1 p2 k3 p4 p5 p6 n) (v7 + 1) (ms τ 11 v7.toNatClampNeg ((τ k1 (p2 + v7).toNatClampNeg) - (τ 11 v7.toNatClampNeg)))))))
def fX12_triesNearest (k1 : Nat) (p2 : Int32) (k3 : Nat) (p4 : Int32) (p5 : Int32) (p6 : Int32) (σ : QMem) : Option (QMem) :=
  if ((0 : Int32) < 0 ∨ ml 10 ≤ (0 : Int32).toNatClampNeg) then none else (if ((1 : Int32) < 0 ∨ ml 10 ≤ (1 : Int32).toNatClampNeg) then none else (if ((2 : Int32) < 0 ∨ ml 10 ≤ (2 : Int32).toNatClampNeg) then none else (if ((3 : Int32) < 0 ∨ ml 10 ≤ (3 : Int32).toNatClampNeg) then none else ((fX12_areLike (σ 10 (0 : Int32).toNatClampNeg) (σ 10 (1 : Int32).toNatClampNeg) (σ 10 (2 : Int32).toNatClampNeg) (σ 10 (3 : Int32).toNatClampNeg)).bind fun xq27 => (if xq27 = 0 then (some σ) else ((fX12_makes k3 p4 10 0 p5 11 σ).bind fun xq30 => (fX12_triesNearest_L51 k1 p2 k3 p4 p5 p6 FU 0 xq30)))))))
set_option maxHeartbeats 4000000 in
set_option maxRecDepth 100000 in
theorem kX12_triesNearest (l : Launch) (D : va_G) (G : xG) (σ : QMem) (k1 : Nat) (hk1 : mk k1 = 0) (p2 : Int32) (k3 : Nat) (hk3 : mk k3 = 0) (p4 : Int32) (p5 : Int32) (p6 : Int32) (res : QMem) (h : fX12_triesNearest k1 p2 k3 p4 p5 p6 σ = some res) : Met l yX12_triesNearest (.code yX12_triesNearest cX12_triesNearest 9 none :: lwW) (rmD 2) (mPc D G σ [.ref (G.1 28), .ref (G.1 k1), .int p2, .ref (G.1 k3), .int p4, .int p5, .int p6]) (mQv D G res) 0 0 (mA G) := by
  refine Met.ofW (cc := cX12_triesNearest) (maxL := 9) (ret := none) (by decide) rfl ?_
  intro p e s m args below meth c s₁ B hml hv
  obtain ⟨rfl, h0⟩ := hv
  have hx := B.exec
  have hb := B.bytes
  have hr := B.returns
  have hts := fun (w : Cond) (hw : w ∈ lwW) => atoms_spec (ws := (.code yX12_triesNearest cX12_triesNearest 9 none :: lwW)) B.pre w (List.mem_cons_of_mem _ hw)
  have hown : s.vm.findClass RX12 = some m.cls := findClass_of_methodNamed B.named
  have hlocks := B.notSynchronized
  have hP := h0.1
  have hK := h0.2.1
  have hi := h0.2.2
  have hS : va_S (mA G) s.heap s.heap [] := va_S.rf
  have hl := lv_entry ([.ref (G.1 28), .ref (G.1 k1), .int p2, .ref (G.1 k3), .int p4, .int p5, .int p6]) (n := 9) (Nat.le_of_ble_eq_true rfl)
  rw [lg_entry_eq]
  generalize (lg_sl ([.ref (G.1 28), .ref (G.1 k1), .int p2, .ref (G.1 k3), .int p4, .int p5, .int p6]) ++ List.replicate (9 - (lg_sl ([.ref (G.1 28), .ref (G.1 k1), .int p2, .ref (G.1 k3), .int p4, .int p5, .int p6])).length) Slot.unset).toArray = ls at hl ⊢
  have hl : lv_has ls 9 [(0, .ref (G.1 28)), (1, .ref (G.1 k1)), (2, .int p2), (3, .ref (G.1 k3)), (4, .int p4), (5, .int p5), (6, .int p6)] := hl
  unfold fX12_triesNearest at h
  have J139 : ∀ (τ : QMem) (H : Heap) (locs : List Loc) (ls : Array Slot), fX12_triesNearest_J139 k1 p2 k3 p4 p5 p6 τ = some res → va_P D vwCl (mW G τ) H → va_S (mA G) s.heap H locs → lv_has ls 9 [(0, .ref (G.1 28))] → W p l e (headSpec (.code yX12_triesNearest cX12_triesNearest 9 none :: lwW) (rmD 2)).room s m ([.ref (G.1 28), .ref (G.1 k1), .int p2, .ref (G.1 k3), .int p4, .int p5, .int p6] : List Value).toArray below meth c H locs 0 0 (MQ below (mQv D G res) ([.ref (G.1 28), .ref (G.1 k1), .int p2, .ref (G.1 k3), .int p4, .int p5, .int p6] : List Value).toArray s 0 0 (mA G)) (F0 m 139 ls []) := by
    intro τ H locs ls h hP hS hl
    unfold fX12_triesNearest_J139 at h
    refine lv_aload_n hx hb dX12_triesNearest_139 rfl (lv_at hl 0 rfl) ?_
    refine va_get (D := D) (ci := 12) (v := .ref (G.1 10)) (C := RX12) (T := TX12) (N := 34) hx hb hts iwX12 hown hK hP 28 (mg_2 rfl) rfl 11 (by decide) (hts _ mw_969) (fun _ h9 => h9) rfl dX12_triesNearest_140 ?_
    refine lv_iconst (v := 0) hx hb dX12_triesNearest_143 (by decide) ?_
    refine lv_aload_n hx hb dX12_triesNearest_144 rfl (lv_at hl 0 rfl) ?_
    refine va_get (D := D) (ci := 12) (v := .ref (G.1 8)) (C := RX12) (T := TX12) (N := 34) hx hb hts iwX12 hown hK hP 28 (mg_2 rfl) rfl 9 (by decide) (hts _ mw_967) (fun _ h9 => h9) rfl dX12_triesNearest_145 ?_
    refine lv_iconst (v := 0) hx hb dX12_triesNearest_148 (by decide) ?_
    obtain ⟨xq5, hfq6, h⟩ := obd h
    refine va_callv (va_runS (As := [.ref (G.1 10), .int 0, .ref (G.1 8), .int 0]) (rest := []) ⟨hx, hb, hml, hown, hts⟩ (kX12_copies l D G _ 10 rfl 0 8 rfl 0 xq5 hfq6) (va_cwS 4 hts (lwW_gS mw_955 mw_956 mw_14 mw_957) rfl rfl rfl (by decide +kernel) ⟨Nat.le_of_ble_eq_true rfl, Nat.le_of_ble_eq_true rfl⟩) ⟨fun a U g mk q => ⟨q.1, mPre_call q.2⟩, fun U hU hW => ⟨rfl, mPre_at h0 hS hP hU hW⟩⟩ rfl rfl hl.1 rfl (lv_room (Nat.le_of_ble_eq_true rfl)) dX12_triesNearest_149 ⟨Nat.zero_le _, Nat.zero_le _⟩) hS (fun q _ h => h) (fun q h => h) (fun u t H1 locs ht hvm hw hB hz1 hq1 hS => ?_)
    obtain rfl := hw.symm
    have hP := hB.1
    rw [ht] at hP
    refine W.widen (k := 0) (n := 0) (Nat.le_refl _) (Nat.le_refl _) ?_
    refine lv_aload_n hx hb dX12_triesNearest_152 rfl (lv_at hl 0 rfl) ?_
    refine va_get (D := D) (ci := 12) (v := .ref (G.1 11)) (C := RX12) (T := TX12) (N := 34) hx hb hts iwX12 hown hK hP 28 (mg_2 rfl) rfl 12 (by decide) (hts _ mw_970) (fun _ h9 => h9) rfl dX12_triesNearest_153 ?_
    refine lv_iconst (v := 0) hx hb dX12_triesNearest_156 (by decide) ?_
    refine lv_aload_n hx hb dX12_triesNearest_157 rfl (lv_at hl 0 rfl) ?_
    refine va_get (D := D) (ci := 12) (v := .ref (G.1 9)) (C := RX12) (T := TX12) (N := 34) hx hb hts iwX12 hown hK hP 28 (mg_2 rfl) rfl 10 (by decide) (hts _ mw_968) (fun _ h9 => h9) rfl dX12_triesNearest_158 ?_
    refine lv_iconst (v := 0) hx hb dX12_triesNearest_161 (by decide) ?_
    obtain ⟨xq7, hfq8, h⟩ := obd h
    refine va_callv (va_runS (As := [.ref (G.1 11), .int 0, .ref (G.1 9), .int 0]) (rest := []) ⟨hx, hb, hml, hown, hts⟩ (kX12_copies l D G _ 11 rfl 0 9 rfl 0 xq7 hfq8) (va_cwS 4 hts (lwW_gS mw_955 mw_956 mw_14 mw_957) rfl rfl rfl (by decide +kernel) ⟨Nat.le_of_ble_eq_true rfl, Nat.le_of_ble_eq_true rfl⟩) ⟨fun a U g mk q => ⟨q.1, mPre_call q.2⟩, fun U hU hW => ⟨rfl, mPre_at h0 hS hP hU hW⟩⟩ rfl rfl hl.1 rfl (lv_room (Nat.le_of_ble_eq_true rfl)) dX12_triesNearest_162 ⟨Nat.zero_le _, Nat.zero_le _⟩) hS (fun q _ h => h) (fun q h => h) (fun u t H1 locs ht hvm hw hB hz1 hq1 hS => ?_)
    obtain rfl := hw.symm
    have hP := hB.1
    rw [ht] at hP
    refine W.widen (k := 0) (n := 0) (Nat.le_refl _) (Nat.le_refl _) ?_
    obtain rfl := Option.some.inj h
    exact W.vret hx hb hr (fun t ht hW => ⟨⟨_, rfl, rfl, mPre_at h0 hS hP ht hW⟩, hS.F ht⟩) hS.2.2 dX12_triesNearest_165
  have L51 : ∀ (n51 : Nat) (v7 : Int32) (τ : QMem) (H : Heap) (locs : List Loc) (ls : Array Slot), fX12_triesNearest_L51 k1 p2 k3 p4 p5 p6 n51 v7 τ = some res → va_P D vwCl (mW G τ) H → va_S (mA G) s.heap H locs → lv_has ls 9 [(0, .ref (G.1 28)), (1, .ref (G.1 k1)), (2, .int p2), (6, .int p6), (7, .int v7)] → W p l e (headSpec (.code yX12_triesNearest cX12_triesNearest 9 none :: lwW) (rmD 2)).room s m ([.ref (G.1 28), .ref (G.1 k1), .int p2, .ref (G.1 k3), .int p4, .int p5, .int p6] : List Value).toArray below meth c H locs 0 0 (MQ below (mQv D G res) ([.ref (G.1 28), .ref (G.1 k1), .int p2, .ref (G.1 k3), .int p4, .int p5, .int p6] : List Value).toArray s 0 0 (mA G)) (F0 m 51 ls []) := by
    intro n51
    induction n51 with
    | zero => intro v7 τ H locs ls h; rw [fX12_triesNearest_L51] at h; cases h
    | succ n51 ih51 =>
      intro v7 τ H locs ls h hP hS hl
      rw [fX12_triesNearest_L51] at h
      refine lv_iload hx hb dX12_triesNearest_51 (lv_at hl 4 rfl) ?_
      refine lv_iconst (v := 4) hx hb dX12_triesNearest_53 (by decide) ?_
      refine lv_icmp_ge (tgt := 84) hx hb dX12_triesNearest_54 (by decide) (fun hcq9 => ?_) (fun hcq9 => ?_)
      · have h := ifp hcq9 h
        refine lv_aload_n hx hb dX12_triesNearest_84 rfl (lv_at hl 0 rfl) ?_
        refine va_get (D := D) (ci := 12) (v := .ref (G.1 11)) (C := RX12) (T := TX12) (N := 34) hx hb hts iwX12 hown hK hP 28 (mg_2 rfl) rfl 12 (by decide) (hts _ mw_970) (fun _ h9 => h9) rfl dX12_triesNearest_85 ?_
        refine lv_iconst (v := 0) hx hb dX12_triesNearest_88 (by decide) ?_
        obtain ⟨xq10, hfq11, h⟩ := obd h
        refine va_calli (va_runS (As := [.ref (G.1 11), .int 0]) (rest := []) ⟨hx, hb, hml, hown, hts⟩ (kX12_normOf l D G _ 11 rfl 0 xq10 hfq11) (va_cwS 2 hts (lwW_gS mw_936 mw_937 mw_14 mw_938) rfl rfl rfl (by decide +kernel) ⟨Nat.le_of_ble_eq_true rfl, Nat.le_of_ble_eq_true rfl⟩) ⟨fun a U g mk q => ⟨q.1, mPre_call q.2⟩, fun U hU hW => ⟨rfl, mPre_at h0 hS hP hU hW⟩⟩ rfl rfl hl.1 rfl (lv_room (Nat.le_of_ble_eq_true rfl)) dX12_triesNearest_89 ⟨Nat.zero_le _, Nat.zero_le _⟩) hS (fun q _ h => h) (fun q h => h) (fun r u t H1 locs ht hvm hw hB hz1 hq1 hS => ?_)
        obtain ⟨rfl, rfl⟩ := hw
        have hP := hB.1
        rw [ht] at hP
        refine W.widen (k := 0) (n := 0) (Nat.le_refl _) (Nat.le_refl _) ?_
        refine lv_istore (lv' := [(7, .int xq10.1), (0, .ref (G.1 28)), (1, .ref (G.1 k1)), (2, .int p2), (6, .int p6)]) hx hb dX12_triesNearest_92 hl (by decide) rfl (fun ls hl => ?_)
        refine lv_aload_n hx hb dX12_triesNearest_94 rfl (lv_at hl 1 rfl) ?_
        refine va_get (D := D) (ci := 12) (v := .ref (G.1 9)) (C := RX12) (T := TX12) (N := 34) hx hb hts iwX12 hown hK hP 28 (mg_2 rfl) rfl 10 (by decide) (hts _ mw_968) (fun _ h9 => h9) rfl dX12_triesNearest_95 ?_
        refine lv_iconst (v := 0) hx hb dX12_triesNearest_98 (by decide) ?_
        obtain ⟨xq12, hfq13, h⟩ := obd h
        refine va_calli (va_runS (As := [.ref (G.1 9), .int 0]) (rest := []) ⟨hx, hb, hml, hown, hts⟩ (kX12_normOf l D G _ 9 rfl 0 xq12 hfq13) (va_cwS 2 hts (lwW_gS mw_936 mw_937 mw_14 mw_938) rfl rfl rfl (by decide +kernel) ⟨Nat.le_of_ble_eq_true rfl, Nat.le_of_ble_eq_true rfl⟩) ⟨fun a U g mk q => ⟨q.1, mPre_call q.2⟩, fun U hU hW => ⟨rfl, mPre_at h0 hS hP hU hW⟩⟩ rfl rfl hl.1 rfl (lv_room (Nat.le_of_ble_eq_true rfl)) dX12_triesNearest_99 ⟨Nat.zero_le _, Nat.zero_le _⟩) hS (fun q _ h => h) (fun q h => h) (fun r u t H1 locs ht hvm hw hB hz1 hq1 hS => ?_)
        obtain ⟨rfl, rfl⟩ := hw
        have hP := hB.1
        rw [ht] at hP
        refine W.widen (k := 0) (n := 0) (Nat.le_refl _) (Nat.le_refl _) ?_
        refine lv_istore (lv' := [(8, .int xq12.1), (7, .int xq10.1), (0, .ref (G.1 28)), (1, .ref (G.1 k1)), (2, .int p2), (6, .int p6)]) hx hb dX12_triesNearest_102 hl (by decide) rfl (fun ls hl => ?_)
        refine lv_iload hx hb dX12_triesNearest_104 (lv_at hl 5 rfl) ?_
        refine lv_if_ne (tgt := 139) hx hb dX12_triesNearest_106 (by decide) (fun hcq14 => ?_) (fun hcq14 => ?_)
        · have h := ifn hcq14 h
          exact J139 _ _ _ _ h hP hS (lv_sub hl [2] rfl)
        have h := ifp hcq14 h
        refine lv_iload hx hb dX12_triesNearest_109 (lv_at hl 1 rfl) ?_
        refine lv_iload hx hb dX12_triesNearest_111 (lv_at hl 0 rfl) ?_
        refine lv_icmp_lt (tgt := 139) hx hb dX12_triesNearest_113 (by decide) (fun hcq15 => ?_) (fun hcq15 => ?_)
        · have h := ifp hcq15 h
          exact J139 _ _ _ _ h hP hS (lv_sub hl [2] rfl)
        have h := ifn hcq15 h
        refine lv_iload hx hb dX12_triesNearest_116 (lv_at hl 1 rfl) ?_
        refine lv_iload hx hb dX12_triesNearest_118 (lv_at hl 0 rfl) ?_
        refine lv_icmp_ne (tgt := 165) hx hb dX12_triesNearest_120 (by decide) (fun hcq16 => ?_) (fun hcq16 => ?_)
        · have h := ifn hcq16 h
          obtain rfl := Option.some.inj h
          exact W.vret hx hb hr (fun t ht hW => ⟨⟨_, rfl, rfl, mPre_at h0 hS hP ht hW⟩, hS.F ht⟩) hS.2.2 dX12_triesNearest_165
        have h := ifp hcq16 h
        refine lv_aload_n hx hb dX12_triesNearest_123 rfl (lv_at hl 2 rfl) ?_
        refine va_get (D := D) (ci := 12) (v := .ref (G.1 10)) (C := RX12) (T := TX12) (N := 34) hx hb hts iwX12 hown hK hP 28 (mg_2 rfl) rfl 11 (by decide) (hts _ mw_969) (fun _ h9 => h9) rfl dX12_triesNearest_124 ?_
        refine lv_iconst (v := 0) hx hb dX12_triesNearest_127 (by decide) ?_
        refine lv_aload_n hx hb dX12_triesNearest_128 rfl (lv_at hl 2 rfl) ?_
        refine va_get (D := D) (ci := 12) (v := .ref (G.1 8)) (C := RX12) (T := TX12) (N := 34) hx hb hts iwX12 hown hK hP 28 (mg_2 rfl) rfl 9 (by decide) (hts _ mw_967) (fun _ h9 => h9) rfl dX12_triesNearest_129 ?_
        refine lv_iconst (v := 0) hx hb dX12_triesNearest_132 (by decide) ?_
        obtain ⟨xq17, hfq18, h⟩ := obd h
        refine va_calli (va_runS (As := [.ref (G.1 10), .int 0, .ref (G.1 8), .int 0]) (rest := []) ⟨hx, hb, hml, hown, hts⟩ (kX12_isGreater l D G _ 10 rfl 0 8 rfl 0 xq17 hfq18) (va_cwS 4 hts (lwW_gS mw_952 mw_953 mw_14 mw_954) rfl rfl rfl (by decide +kernel) ⟨Nat.le_of_ble_eq_true rfl, Nat.le_of_ble_eq_true rfl⟩) ⟨fun a U g mk q => ⟨q.1, mPre_call q.2⟩, fun U hU hW => ⟨rfl, mPre_at h0 hS hP hU hW⟩⟩ rfl rfl hl.1 rfl (lv_room (Nat.le_of_ble_eq_true rfl)) dX12_triesNearest_133 ⟨Nat.zero_le _, Nat.zero_le _⟩) hS (fun q _ h => h) (fun q h => h) (fun r u t H1 locs ht hvm hw hB hz1 hq1 hS => ?_)
        obtain ⟨rfl, rfl⟩ := hw
        have hP := hB.1
        rw [ht] at hP
        refine W.widen (k := 0) (n := 0) (Nat.le_refl _) (Nat.le_refl _) ?_
        refine lv_if_eq (tgt := 165) hx hb dX12_triesNearest_136 (by decide) (fun hcq19 => ?_) (fun hcq19 => ?_)
        · have h := ifp hcq19 h
          obtain rfl := Option.some.inj h
          exact W.vret hx hb hr (fun t ht hW => ⟨⟨_, rfl, rfl, mPre_at h0 hS hP ht hW⟩, hS.F ht⟩) hS.2.2 dX12_triesNearest_165
        have h := ifn hcq19 h
        exact J139 _ _ _ _ h hP hS (lv_sub hl [2] rfl)
      have h := ifn hcq9 h
      refine lv_aload_n hx hb dX12_triesNearest_57 rfl (lv_at hl 0 rfl) ?_
      refine va_get (D := D) (ci := 12) (v := .ref (G.1 11)) (C := RX12) (T := TX12) (N := 34) hx hb hts iwX12 hown hK hP 28 (mg_2 rfl) rfl 12 (by decide) (hts _ mw_970) (fun _ h9 => h9) rfl dX12_triesNearest_58 ?_
      refine lv_iload hx hb dX12_triesNearest_61 (lv_at hl 4 rfl) ?_
      refine lv_aload_n hx hb dX12_triesNearest_63 rfl (lv_at hl 1 rfl) ?_
      refine lv_iload_n hx hb dX12_triesNearest_64 rfl (lv_at hl 2 rfl) ?_
      refine lv_iload hx hb dX12_triesNearest_65 (lv_at hl 4 rfl) ?_
      refine lv_iadd hx hb dX12_triesNearest_67 ?_
      obtain ⟨hiq20, h⟩ := nif h
      refine va_iald hx hb hK hP k1 0 (mg_0 hk1) rfl hiq20 dX12_triesNearest_68 ?_
      refine lv_aload_n hx hb dX12_triesNearest_69 rfl (lv_at hl 0 rfl) ?_
      refine va_get (D := D) (ci := 12) (v := .ref (G.1 11)) (C := RX12) (T := TX12) (N := 34) hx hb hts iwX12 hown hK hP 28 (mg_2 rfl) rfl 12 (by decide) (hts _ mw_970) (fun _ h9 => h9) rfl dX12_triesNearest_70 ?_
      refine lv_iload hx hb dX12_triesNearest_73 (lv_at hl 4 rfl) ?_
      obtain ⟨hiq21, h⟩ := nif h
      refine va_iald hx hb hK hP 11 0 (mg_0 rfl) rfl hiq21 dX12_triesNearest_75 ?_
      refine lv_isub hx hb dX12_triesNearest_76 ?_
      obtain ⟨hiq22, h⟩ := nif h
      refine va_iast hx hb hK hP (mD hi) hS 11 0 (mg_0 rfl) rfl hiq22 dX12_triesNearest_77 (fun H locs hP hD hS => ?_)
      have hP : va_P D vwCl (mW G (ms τ 11 v7.toNatClampNeg ((τ k1 (p2 + v7).toNatClampNeg) - (τ 11 v7.toNatClampNeg)))) H := by rw [← ms_0x rfl]; exact hP
      refine lv_iinc (v := v7 + 1) (lv' := [(7, .int (v7 + 1)), (0, .ref (G.1 28)), (1, .ref (G.1 k1)), (2, .int p2), (6, .int p6)]) hx hb dX12_triesNearest_78 hl (k := 4) rfl rfl (by decide) rfl (fun ls hl => ?_)
      refine lv_goto (tgt := 51) hx hb dX12_triesNearest_81 (by decide) ?_
      exact ih51 (v7 + 1) _ _ _ _ h hP hS (lv_sub hl [1, 2, 3, 4, 0] rfl)
  refine lv_aload_n hx hb dX12_triesNearest_0 rfl (lv_at hl 0 rfl) ?_
  refine va_get (D := D) (ci := 12) (v := .ref (G.1 10)) (C := RX12) (T := TX12) (N := 34) hx hb hts iwX12 hown hK hP 28 (mg_2 rfl) rfl 11 (by decide) (hts _ mw_969) (fun _ h9 => h9) rfl dX12_triesNearest_1 ?_
  refine lv_iconst (v := 0) hx hb dX12_triesNearest_4 (by decide) ?_
  obtain ⟨hiq23, h⟩ := nif h
  refine va_iald hx hb hK hP 10 0 (mg_0 rfl) rfl hiq23 dX12_triesNearest_5 ?_
  refine lv_aload_n hx hb dX12_triesNearest_6 rfl (lv_at hl 0 rfl) ?_
  refine va_get (D := D) (ci := 12) (v := .ref (G.1 10)) (C := RX12) (T := TX12) (N := 34) hx hb hts iwX12 hown hK hP 28 (mg_2 rfl) rfl 11 (by decide) (hts _ mw_969) (fun _ h9 => h9) rfl dX12_triesNearest_7 ?_
  refine lv_iconst (v := 1) hx hb dX12_triesNearest_10 (by decide) ?_
  obtain ⟨hiq24, h⟩ := nif h
  refine va_iald hx hb hK hP 10 0 (mg_0 rfl) rfl hiq24 dX12_triesNearest_11 ?_
  refine lv_aload_n hx hb dX12_triesNearest_12 rfl (lv_at hl 0 rfl) ?_
  refine va_get (D := D) (ci := 12) (v := .ref (G.1 10)) (C := RX12) (T := TX12) (N := 34) hx hb hts iwX12 hown hK hP 28 (mg_2 rfl) rfl 11 (by decide) (hts _ mw_969) (fun _ h9 => h9) rfl dX12_triesNearest_13 ?_
  refine lv_iconst (v := 2) hx hb dX12_triesNearest_16 (by decide) ?_
  obtain ⟨hiq25, h⟩ := nif h
  refine va_iald hx hb hK hP 10 0 (mg_0 rfl) rfl hiq25 dX12_triesNearest_17 ?_
  refine lv_aload_n hx hb dX12_triesNearest_18 rfl (lv_at hl 0 rfl) ?_
  refine va_get (D := D) (ci := 12) (v := .ref (G.1 10)) (C := RX12) (T := TX12) (N := 34) hx hb hts iwX12 hown hK hP 28 (mg_2 rfl) rfl 11 (by decide) (hts _ mw_969) (fun _ h9 => h9) rfl dX12_triesNearest_19 ?_
  refine lv_iconst (v := 3) hx hb dX12_triesNearest_22 (by decide) ?_
  obtain ⟨hiq26, h⟩ := nif h
  refine va_iald hx hb hK hP 10 0 (mg_0 rfl) rfl hiq26 dX12_triesNearest_23 ?_
  obtain ⟨xq27, hfq28, h⟩ := obd h
  refine va_calli (va_runS (As := [.int (σ 10 (0 : Int32).toNatClampNeg), .int (σ 10 (1 : Int32).toNatClampNeg), .int (σ 10 (2 : Int32).toNatClampNeg), .int (σ 10 (3 : Int32).toNatClampNeg)]) (rest := []) ⟨hx, hb, hml, hown, hts⟩ (kX12_areLike l (σ 10 (0 : Int32).toNatClampNeg) (σ 10 (1 : Int32).toNatClampNeg) (σ 10 (2 : Int32).toNatClampNeg) (σ 10 (3 : Int32).toNatClampNeg) xq27 hfq28) (va_cwS 4 hts (lwW_gS mw_925 mw_926 mw_14 mw_927) rfl rfl rfl (by decide +kernel) ⟨Nat.le_of_ble_eq_true rfl, Nat.le_of_ble_eq_true rfl⟩) ⟨fun a U g mk q => ⟨q.1, trivial⟩, fun U hU hW => ⟨rfl, trivial⟩⟩ rfl rfl hl.1 rfl (lv_room (Nat.le_of_ble_eq_true rfl)) dX12_triesNearest_24 ⟨Nat.zero_le _, Nat.zero_le _⟩) hS (fun q _ h => h.elim) (fun q h => h.elim) (fun r u t H1 locs ht hvm hw hB hz1 hq1 hS => ?_)
  obtain rfl := hw.symm
  have hP := mP_kept hP hq1
  refine W.widen (k := 0) (n := 0) (Nat.le_refl _) (Nat.le_refl _) ?_
  refine lv_if_ne (tgt := 31) hx hb dX12_triesNearest_27 (by decide) (fun hcq29 => ?_) (fun hcq29 => ?_)
  · have h := ifn hcq29 h
    refine lv_aload_n hx hb dX12_triesNearest_31 rfl (lv_at hl 3 rfl) ?_
    refine lv_iload hx hb dX12_triesNearest_32 (lv_at hl 4 rfl) ?_
    refine lv_aload_n hx hb dX12_triesNearest_34 rfl (lv_at hl 0 rfl) ?_
    refine va_get (D := D) (ci := 12) (v := .ref (G.1 10)) (C := RX12) (T := TX12) (N := 34) hx hb hts iwX12 hown hK hP 28 (mg_2 rfl) rfl 11 (by decide) (hts _ mw_969) (fun _ h9 => h9) rfl dX12_triesNearest_35 ?_
    refine lv_iconst (v := 0) hx hb dX12_triesNearest_38 (by decide) ?_
    refine lv_iload hx hb dX12_triesNearest_39 (lv_at hl 5 rfl) ?_
    refine lv_aload_n hx hb dX12_triesNearest_41 rfl (lv_at hl 0 rfl) ?_
    refine va_get (D := D) (ci := 12) (v := .ref (G.1 11)) (C := RX12) (T := TX12) (N := 34) hx hb hts iwX12 hown hK hP 28 (mg_2 rfl) rfl 12 (by decide) (hts _ mw_970) (fun _ h9 => h9) rfl dX12_triesNearest_42 ?_
    obtain ⟨xq30, hfq31, h⟩ := obd h
    refine va_callv (va_runS (As := [.ref (G.1 k3), .int p4, .ref (G.1 10), .int 0, .int p5, .ref (G.1 11)]) (rest := []) ⟨hx, hb, hml, hown, hts⟩ (kX12_makes l D G _ k3 hk3 p4 10 rfl 0 p5 11 rfl xq30 hfq31) (va_cwS 6 hts (lwW_gS mw_942 mw_943 mw_14 mw_944) rfl rfl rfl (by decide +kernel) ⟨Nat.le_of_ble_eq_true rfl, Nat.le_of_ble_eq_true rfl⟩) ⟨fun a U g mk q => ⟨q.1, mPre_call q.2⟩, fun U hU hW => ⟨rfl, mPre_at h0 hS hP hU hW⟩⟩ rfl rfl hl.1 rfl (lv_room (Nat.le_of_ble_eq_true rfl)) dX12_triesNearest_45 ⟨Nat.zero_le _, Nat.zero_le _⟩) hS (fun q _ h => h) (fun q h => h) (fun u t H1 locs ht hvm hw hB hz1 hq1 hS => ?_)
    obtain rfl := hw.symm
    have hP := hB.1
    rw [ht] at hP
    refine W.widen (k := 0) (n := 0) (Nat.le_refl _) (Nat.le_refl _) ?_
    refine lv_iconst (v := 0) hx hb dX12_triesNearest_48 (by decide) ?_
    refine lv_istore (lv' := [(7, .int 0), (0, .ref (G.1 28)), (1, .ref (G.1 k1)), (2, .int p2), (3, .ref (G.1 k3)), (4, .int p4), (5, .int p5), (6, .int p6)]) hx hb dX12_triesNearest_49 hl (by decide) rfl (fun ls hl => ?_)
    exact L51 FU 0 _ _ _ _ h hP hS (lv_sub hl [1, 2, 3, 7, 0] rfl)
  have h := ifp hcq29 h
  obtain rfl := Option.some.inj h
  exact W.vret hx hb hr (fun t ht hW => ⟨⟨_, rfl, rfl, mPre_at h0 hS hP ht hW⟩, hS.F ht⟩) hS.2.2 dX12_triesNearest_30
def fX12_laysNearest_J147 (k1 : Nat) (p2 : Int32) (k3 : Nat) (p4 : Int32) (p5 : Int32) (K40 : Int32 → Int32 → Int32 → QMem → Option (QMem)) (v6 : Int32) (v7 : Int32) (v8 : Int32) (τ : QMem) : Option (QMem) :=
  K40 v6 v7 (v8 + 1) τ
def fX12_laysNearest_L55 (k1 : Nat) (p2 : Int32) (k3 : Nat) (p4 : Int32) (p5 : Int32) (K40 : Int32 → Int32 → Int32 → QMem → Option (QMem)) : Nat → Int32 → Int32 → Int32 → Int32 → Int32 → QMem → Option (QMem)
  | 0, _, _, _, _, _, _ => none
  | n + 1, v6, v7, v8, v9, v10, τ =>
  if 4 ≤ v10 then (if ((0 : Int32) < 0 ∨ ml 10 ≤ (0 : Int32).toNatClampNeg) then none else (if ((1 : Int32) < 0 ∨ ml 10 ≤ (1 : Int32).toNatClampNeg) then none else (if ((2 : Int32) < 0 ∨ ml 10 ≤ (2 : Int32).toNatClampNeg) then none else (if ((3 : Int32) < 0 ∨ ml 10 ≤ (3 : Int32).toNatClampNeg) then none else ((fX12_areLike (τ 10 (0 : Int32).toNatClampNeg) (τ 10 (1 : Int32).toNatClampNeg) (τ 10 (2 : Int32).toNatClampNeg) (τ 10 (3 : Int32).toNatClampNeg)).bind fun xq6 => (if xq6 = 0 then (fX12_laysNearest_J147 k1 p2 k3 p4 p5 K40 v6 v7 v8 τ) else ((fX12_triesNearest k1 p2 k3 p4 p5 v7 τ).bind fun xq9 => (fX12_laysNearest_J147 k1 p2 k3 p4 p5 K40 v6 0 v8 xq9)))))))) else (if (v10 < 0 ∨ ml 12 ≤ v10.toNatClampNeg) then none else ((fX12_down (τ 12 v10.toNatClampNeg) v6).bind fun xq12 => (if (v10 < 0 ∨ ml 10 ≤ v10.toNatClampNeg) then none else ((fX12_laysNearest_L55 k1 p2 k3 p4 p5 K40 n) v6 v7 v8 (v9 / 6) (v10 + 1) (ms τ 10 v10.toNatClampNeg ((xq12 + 3) - (v9 - v9 / 6 * 6)))))))
def fX12_laysNearest_L40 (k1 : Nat) (p2 : Int32) (k3 : Nat) (p4 : Int32) (p5 : Int32) : Nat → Int32 → Int32 → Int32 → QMem → Option (QMem)
  | 0, _, _, _, _ => none
  | n + 1, v6, v7, v8, τ =>
  if 1296 ≤ v8 then (some τ) else (fX12_laysNearest_L55 k1 p2 k3 p4 p5 (fX12_laysNearest_L40 k1 p2 k3 p4 p5 n) FU v6 v7 v8 v8 0 τ)
def fX12_laysNearest (k1 : Nat) (p2 : Int32) (k3 : Nat) (p4 : Int32) (p5 : Int32) (σ : QMem) : Option (QMem) :=
  (fX12_normOf k3 p4 σ).bind fun xq16 => ((fX12_conjugates k3 p4 2 xq16.2).bind fun xq18 => ((fX12_makes 2 0 k1 p2 p5 12 xq18).bind fun xq20 => (fX12_laysNearest_L40 k1 p2 k3 p4 p5 FU xq16.1 1 0 xq20)))
set_option maxHeartbeats 4000000 in
set_option maxRecDepth 100000 in
theorem kX12_laysNearest (l : Launch) (D : va_G) (G : xG) (σ : QMem) (k1 : Nat) (hk1 : mk k1 = 0) (p2 : Int32) (k3 : Nat) (hk3 : mk k3 = 0) (p4 : Int32) (p5 : Int32) (res : QMem) (h : fX12_laysNearest k1 p2 k3 p4 p5 σ = some res) : Met l yX12_laysNearest (.code yX12_laysNearest cX12_laysNearest 11 none :: lwW) (rmD 3) (mPc D G σ [.ref (G.1 28), .ref (G.1 k1), .int p2, .ref (G.1 k3), .int p4, .int p5]) (mQv D G res) 0 0 (mA G) := by
  refine Met.ofW (cc := cX12_laysNearest) (maxL := 11) (ret := none) (by decide) rfl ?_
  intro p e s m args below meth c s₁ B hml hv
  obtain ⟨rfl, h0⟩ := hv
  have hx := B.exec
  have hb := B.bytes
  have hr := B.returns
  have hts := fun (w : Cond) (hw : w ∈ lwW) => atoms_spec (ws := (.code yX12_laysNearest cX12_laysNearest 11 none :: lwW)) B.pre w (List.mem_cons_of_mem _ hw)
  have hown : s.vm.findClass RX12 = some m.cls := findClass_of_methodNamed B.named
  have hlocks := B.notSynchronized
  have hP := h0.1
  have hK := h0.2.1
  have hi := h0.2.2
  have hS : va_S (mA G) s.heap s.heap [] := va_S.rf
  have hl := lv_entry ([.ref (G.1 28), .ref (G.1 k1), .int p2, .ref (G.1 k3), .int p4, .int p5]) (n := 11) (Nat.le_of_ble_eq_true rfl)
  rw [lg_entry_eq]
  generalize (lg_sl ([.ref (G.1 28), .ref (G.1 k1), .int p2, .ref (G.1 k3), .int p4, .int p5]) ++ List.replicate (11 - (lg_sl ([.ref (G.1 28), .ref (G.1 k1), .int p2, .ref (G.1 k3), .int p4, .int p5])).length) Slot.unset).toArray = ls at hl ⊢
  have hl : lv_has ls 11 [(0, .ref (G.1 28)), (1, .ref (G.1 k1)), (2, .int p2), (3, .ref (G.1 k3)), (4, .int p4), (5, .int p5)] := hl
  unfold fX12_laysNearest at h
  have L40 : ∀ (n40 : Nat) (v6 : Int32) (v7 : Int32) (v8 : Int32) (τ : QMem) (H : Heap) (locs : List Loc) (ls : Array Slot), fX12_laysNearest_L40 k1 p2 k3 p4 p5 n40 v6 v7 v8 τ = some res → va_P D vwCl (mW G τ) H → va_S (mA G) s.heap H locs → lv_has ls 11 [(0, .ref (G.1 28)), (1, .ref (G.1 k1)), (2, .int p2), (3, .ref (G.1 k3)), (4, .int p4), (5, .int p5), (6, .int v6), (7, .int v7), (8, .int v8)] → W p l e (headSpec (.code yX12_laysNearest cX12_laysNearest 11 none :: lwW) (rmD 3)).room s m ([.ref (G.1 28), .ref (G.1 k1), .int p2, .ref (G.1 k3), .int p4, .int p5] : List Value).toArray below meth c H locs 0 0 (MQ below (mQv D G res) ([.ref (G.1 28), .ref (G.1 k1), .int p2, .ref (G.1 k3), .int p4, .int p5] : List Value).toArray s 0 0 (mA G)) (F0 m 40 ls []) := by
    intro n40
    induction n40 with
    | zero => intro v6 v7 v8 τ H locs ls h; rw [fX12_laysNearest_L40] at h; cases h
    | succ n40 ih40 =>
      intro v6 v7 v8 τ H locs ls h hP hS hl
      rw [fX12_laysNearest_L40] at h
      have J147 : ∀ (v6 : Int32) (v7 : Int32) (v8 : Int32) (τ : QMem) (H : Heap) (locs : List Loc) (ls : Array Slot), fX12_laysNearest_J147 k1 p2 k3 p4 p5 (fX12_laysNearest_L40 k1 p2 k3 p4 p5 n40) v6 v7 v8 τ = some res → va_P D vwCl (mW G τ) H → va_S (mA G) s.heap H locs → lv_has ls 11 [(0, .ref (G.1 28)), (1, .ref (G.1 k1)), (2, .int p2), (3, .ref (G.1 k3)), (4, .int p4), (5, .int p5), (6, .int v6), (7, .int v7), (8, .int v8)] → W p l e (headSpec (.code yX12_laysNearest cX12_laysNearest 11 none :: lwW) (rmD 3)).room s m ([.ref (G.1 28), .ref (G.1 k1), .int p2, .ref (G.1 k3), .int p4, .int p5] : List Value).toArray below meth c H locs 0 0 (MQ below (mQv D G res) ([.ref (G.1 28), .ref (G.1 k1), .int p2, .ref (G.1 k3), .int p4, .int p5] : List Value).toArray s 0 0 (mA G)) (F0 m 147 ls []) := by
        intro v6 v7 v8 τ H locs ls h hP hS hl
        unfold fX12_laysNearest_J147 at h
        refine lv_iinc (v := v8 + 1) (lv' := [(8, .int (v8 + 1)), (0, .ref (G.1 28)), (1, .ref (G.1 k1)), (2, .int p2), (3, .ref (G.1 k3)), (4, .int p4), (5, .int p5), (6, .int v6), (7, .int v7)]) hx hb dX12_laysNearest_147 hl (k := 8) rfl rfl (by decide) rfl (fun ls hl => ?_)
        refine lv_goto (tgt := 40) hx hb dX12_laysNearest_150 (by decide) ?_
        exact ih40 v6 v7 (v8 + 1) _ _ _ _ h hP hS (lv_sub hl [1, 2, 3, 4, 5, 6, 7, 8, 0] rfl)
      have L55 : ∀ (n55 : Nat) (v6 : Int32) (v7 : Int32) (v8 : Int32) (v9 : Int32) (v10 : Int32) (τ : QMem) (H : Heap) (locs : List Loc) (ls : Array Slot), fX12_laysNearest_L55 k1 p2 k3 p4 p5 (fX12_laysNearest_L40 k1 p2 k3 p4 p5 n40) n55 v6 v7 v8 v9 v10 τ = some res → va_P D vwCl (mW G τ) H → va_S (mA G) s.heap H locs → lv_has ls 11 [(0, .ref (G.1 28)), (1, .ref (G.1 k1)), (2, .int p2), (3, .ref (G.1 k3)), (4, .int p4), (5, .int p5), (6, .int v6), (7, .int v7), (8, .int v8), (9, .int v9), (10, .int v10)] → W p l e (headSpec (.code yX12_laysNearest cX12_laysNearest 11 none :: lwW) (rmD 3)).room s m ([.ref (G.1 28), .ref (G.1 k1), .int p2, .ref (G.1 k3), .int p4, .int p5] : List Value).toArray below meth c H locs 0 0 (MQ below (mQv D G res) ([.ref (G.1 28), .ref (G.1 k1), .int p2, .ref (G.1 k3), .int p4, .int p5] : List Value).toArray s 0 0 (mA G)) (F0 m 55 ls []) := by
        intro n55
        induction n55 with
        | zero => intro v6 v7 v8 v9 v10 τ H locs ls h; rw [fX12_laysNearest_L55] at h; cases h
        | succ n55 ih55 =>
          intro v6 v7 v8 v9 v10 τ H locs ls h hP hS hl
          rw [fX12_laysNearest_L55] at h
          refine lv_iload hx hb dX12_laysNearest_55 (lv_at hl 10 rfl) ?_
          refine lv_iconst (v := 4) hx hb dX12_laysNearest_57 (by decide) ?_
          refine lv_icmp_ge (tgt := 101) hx hb dX12_laysNearest_58 (by decide) (fun hcq1 => ?_) (fun hcq1 => ?_)
          · have h := ifp hcq1 h
            refine lv_aload_n hx hb dX12_laysNearest_101 rfl (lv_at hl 0 rfl) ?_
            refine va_get (D := D) (ci := 12) (v := .ref (G.1 10)) (C := RX12) (T := TX12) (N := 34) hx hb hts iwX12 hown hK hP 28 (mg_2 rfl) rfl 11 (by decide) (hts _ mw_969) (fun _ h9 => h9) rfl dX12_laysNearest_102 ?_
            refine lv_iconst (v := 0) hx hb dX12_laysNearest_105 (by decide) ?_
            obtain ⟨hiq2, h⟩ := nif h
            refine va_iald hx hb hK hP 10 0 (mg_0 rfl) rfl hiq2 dX12_laysNearest_106 ?_
            refine lv_aload_n hx hb dX12_laysNearest_107 rfl (lv_at hl 0 rfl) ?_
            refine va_get (D := D) (ci := 12) (v := .ref (G.1 10)) (C := RX12) (T := TX12) (N := 34) hx hb hts iwX12 hown hK hP 28 (mg_2 rfl) rfl 11 (by decide) (hts _ mw_969) (fun _ h9 => h9) rfl dX12_laysNearest_108 ?_
            refine lv_iconst (v := 1) hx hb dX12_laysNearest_111 (by decide) ?_
            obtain ⟨hiq3, h⟩ := nif h
            refine va_iald hx hb hK hP 10 0 (mg_0 rfl) rfl hiq3 dX12_laysNearest_112 ?_
            refine lv_aload_n hx hb dX12_laysNearest_113 rfl (lv_at hl 0 rfl) ?_
            refine va_get (D := D) (ci := 12) (v := .ref (G.1 10)) (C := RX12) (T := TX12) (N := 34) hx hb hts iwX12 hown hK hP 28 (mg_2 rfl) rfl 11 (by decide) (hts _ mw_969) (fun _ h9 => h9) rfl dX12_laysNearest_114 ?_
            refine lv_iconst (v := 2) hx hb dX12_laysNearest_117 (by decide) ?_
            obtain ⟨hiq4, h⟩ := nif h
            refine va_iald hx hb hK hP 10 0 (mg_0 rfl) rfl hiq4 dX12_laysNearest_118 ?_
            refine lv_aload_n hx hb dX12_laysNearest_119 rfl (lv_at hl 0 rfl) ?_
            refine va_get (D := D) (ci := 12) (v := .ref (G.1 10)) (C := RX12) (T := TX12) (N := 34) hx hb hts iwX12 hown hK hP 28 (mg_2 rfl) rfl 11 (by decide) (hts _ mw_969) (fun _ h9 => h9) rfl dX12_laysNearest_120 ?_
            refine lv_iconst (v := 3) hx hb dX12_laysNearest_123 (by decide) ?_
            obtain ⟨hiq5, h⟩ := nif h
            refine va_iald hx hb hK hP 10 0 (mg_0 rfl) rfl hiq5 dX12_laysNearest_124 ?_
            obtain ⟨xq6, hfq7, h⟩ := obd h
            refine va_calli (va_runS (As := [.int (τ 10 (0 : Int32).toNatClampNeg), .int (τ 10 (1 : Int32).toNatClampNeg), .int (τ 10 (2 : Int32).toNatClampNeg), .int (τ 10 (3 : Int32).toNatClampNeg)]) (rest := []) ⟨hx, hb, hml, hown, hts⟩ (kX12_areLike l (τ 10 (0 : Int32).toNatClampNeg) (τ 10 (1 : Int32).toNatClampNeg) (τ 10 (2 : Int32).toNatClampNeg) (τ 10 (3 : Int32).toNatClampNeg) xq6 hfq7) (va_cwS 4 hts (lwW_gS mw_925 mw_926 mw_14 mw_927) rfl rfl rfl (by decide +kernel) ⟨Nat.le_of_ble_eq_true rfl, Nat.le_of_ble_eq_true rfl⟩) ⟨fun a U g mk q => ⟨q.1, trivial⟩, fun U hU hW => ⟨rfl, trivial⟩⟩ rfl rfl hl.1 rfl (lv_room (Nat.le_of_ble_eq_true rfl)) dX12_laysNearest_125 ⟨Nat.zero_le _, Nat.zero_le _⟩) hS (fun q _ h => h.elim) (fun q h => h.elim) (fun r u t H1 locs ht hvm hw hB hz1 hq1 hS => ?_)
            obtain rfl := hw.symm
            have hP := mP_kept hP hq1
            refine W.widen (k := 0) (n := 0) (Nat.le_refl _) (Nat.le_refl _) ?_
            refine lv_if_eq (tgt := 147) hx hb dX12_laysNearest_128 (by decide) (fun hcq8 => ?_) (fun hcq8 => ?_)
            · have h := ifp hcq8 h
              exact J147 v6 v7 v8 _ _ _ _ h hP hS (lv_sub hl [0, 1, 2, 3, 4, 5, 6, 7, 8] rfl)
            have h := ifn hcq8 h
            refine lv_aload_n hx hb dX12_laysNearest_131 rfl (lv_at hl 0 rfl) ?_
            refine lv_aload_n hx hb dX12_laysNearest_132 rfl (lv_at hl 1 rfl) ?_
            refine lv_iload_n hx hb dX12_laysNearest_133 rfl (lv_at hl 2 rfl) ?_
            refine lv_aload_n hx hb dX12_laysNearest_134 rfl (lv_at hl 3 rfl) ?_
            refine lv_iload hx hb dX12_laysNearest_135 (lv_at hl 4 rfl) ?_
            refine lv_iload hx hb dX12_laysNearest_137 (lv_at hl 5 rfl) ?_
            refine lv_iload hx hb dX12_laysNearest_139 (lv_at hl 7 rfl) ?_
            obtain ⟨xq9, hfq10, h⟩ := obd h
            refine va_callv (va_runV (As := [.ref (G.1 k1), .int p2, .ref (G.1 k3), .int p4, .int p5, .int v7]) (rest := []) ⟨hx, hb, hml, hown, hts⟩ (kX12_triesNearest l D G _ k1 hk1 p2 k3 hk3 p4 p5 v7 xq9 hfq10) (cwV 6 hts (lwW_gV mw_1159 mw_1161 ms_41 mw_14 mw_1162) rfl rfl rfl (by decide +kernel) ⟨Nat.le_of_ble_eq_true rfl, Nat.le_of_ble_eq_true rfl⟩) ⟨fun a U g mk q => ⟨q.1, mPre_call q.2⟩, va_recv hK hP rfl (mg_2 rfl), fun U hU hW => ⟨rfl, mPre_at h0 hS hP hU hW⟩⟩ rfl rfl hl.1 rfl (lv_room (Nat.le_of_ble_eq_true rfl)) dX12_laysNearest_141 ⟨Nat.zero_le _, Nat.zero_le _⟩) hS (fun q _ h => h) (fun q h => h) (fun u t H1 locs ht hvm hw hB hz1 hq1 hS => ?_)
            obtain rfl := hw.symm
            have hP := hB.1
            rw [ht] at hP
            refine W.widen (k := 0) (n := 0) (Nat.le_refl _) (Nat.le_refl _) ?_
            refine lv_iconst (v := 0) hx hb dX12_laysNearest_144 (by decide) ?_
            refine lv_istore (lv' := [(7, .int 0), (0, .ref (G.1 28)), (1, .ref (G.1 k1)), (2, .int p2), (3, .ref (G.1 k3)), (4, .int p4), (5, .int p5), (6, .int v6), (8, .int v8), (9, .int v9), (10, .int v10)]) hx hb dX12_laysNearest_145 hl (by decide) rfl (fun ls hl => ?_)
            exact J147 v6 0 v8 _ _ _ _ h hP hS (lv_sub hl [1, 2, 3, 4, 5, 6, 7, 0, 8] rfl)
          have h := ifn hcq1 h
          refine lv_aload_n hx hb dX12_laysNearest_61 rfl (lv_at hl 0 rfl) ?_
          refine va_get (D := D) (ci := 12) (v := .ref (G.1 10)) (C := RX12) (T := TX12) (N := 34) hx hb hts iwX12 hown hK hP 28 (mg_2 rfl) rfl 11 (by decide) (hts _ mw_969) (fun _ h9 => h9) rfl dX12_laysNearest_62 ?_
          refine lv_iload hx hb dX12_laysNearest_65 (lv_at hl 10 rfl) ?_
          refine lv_aload_n hx hb dX12_laysNearest_67 rfl (lv_at hl 0 rfl) ?_
          refine va_get (D := D) (ci := 12) (v := .ref (G.1 12)) (C := RX12) (T := TX12) (N := 34) hx hb hts iwX12 hown hK hP 28 (mg_2 rfl) rfl 13 (by decide) (hts _ mw_971) (fun _ h9 => h9) rfl dX12_laysNearest_68 ?_
          refine lv_iload hx hb dX12_laysNearest_71 (lv_at hl 10 rfl) ?_
          obtain ⟨hiq11, h⟩ := nif h
          refine va_iald hx hb hK hP 12 0 (mg_0 rfl) rfl hiq11 dX12_laysNearest_73 ?_
          refine lv_iload hx hb dX12_laysNearest_74 (lv_at hl 6 rfl) ?_
          obtain ⟨xq12, hfq13, h⟩ := obd h
          refine va_calli (va_runS (As := [.int (τ 12 v10.toNatClampNeg), .int v6]) (rest := [.int v10, .ref (G.1 10)]) ⟨hx, hb, hml, hown, hts⟩ (kX12_down l (τ 12 v10.toNatClampNeg) v6 xq12 hfq13) (va_cwS 2 hts (lwW_gS mw_1156 mw_1157 mw_14 mw_1158) rfl rfl rfl (by decide +kernel) ⟨Nat.le_of_ble_eq_true rfl, Nat.le_of_ble_eq_true rfl⟩) ⟨fun a U g mk q => ⟨q.1, trivial⟩, fun U hU hW => ⟨rfl, trivial⟩⟩ rfl rfl hl.1 rfl (lv_room (Nat.le_of_ble_eq_true rfl)) dX12_laysNearest_76 ⟨Nat.zero_le _, Nat.zero_le _⟩) hS (fun q _ h => h.elim) (fun q h => h.elim) (fun r u t H1 locs ht hvm hw hB hz1 hq1 hS => ?_)
          obtain rfl := hw.symm
          have hP := mP_kept hP hq1
          refine W.widen (k := 0) (n := 0) (Nat.le_refl _) (Nat.le_refl _) ?_
          refine lv_iconst (v := 3) hx hb dX12_laysNearest_79 (by decide) ?_
          refine lv_iadd hx hb dX12_laysNearest_80 ?_
          refine lv_iload hx hb dX12_laysNearest_81 (lv_at hl 9 rfl) ?_
          refine lv_bipush (v := 6) hx hb dX12_laysNearest_83 (by decide) ?_
          refine lv_irem hx hb dX12_laysNearest_85 (by decide) ?_
          refine lv_isub hx hb dX12_laysNearest_86 ?_
          obtain ⟨hiq14, h⟩ := nif h
          refine va_iast hx hb hK hP (mD hi) hS 10 0 (mg_0 rfl) rfl hiq14 dX12_laysNearest_87 (fun H locs hP hD hS => ?_)
          have hP : va_P D vwCl (mW G (ms τ 10 v10.toNatClampNeg ((xq12 + 3) - (v9 - v9 / 6 * 6)))) H := by rw [← ms_0x rfl]; exact hP
          refine lv_iload hx hb dX12_laysNearest_88 (lv_at hl 9 rfl) ?_
          refine lv_bipush (v := 6) hx hb dX12_laysNearest_90 (by decide) ?_
          refine lv_idiv hx hb dX12_laysNearest_92 (by decide) ?_
          refine lv_istore (lv' := [(9, .int (v9 / 6)), (0, .ref (G.1 28)), (1, .ref (G.1 k1)), (2, .int p2), (3, .ref (G.1 k3)), (4, .int p4), (5, .int p5), (6, .int v6), (7, .int v7), (8, .int v8), (10, .int v10)]) hx hb dX12_laysNearest_93 hl (by decide) rfl (fun ls hl => ?_)
          refine lv_iinc (v := v10 + 1) (lv' := [(10, .int (v10 + 1)), (9, .int (v9 / 6)), (0, .ref (G.1 28)), (1, .ref (G.1 k1)), (2, .int p2), (3, .ref (G.1 k3)), (4, .int p4), (5, .int p5), (6, .int v6), (7, .int v7), (8, .int v8)]) hx hb dX12_laysNearest_95 hl (k := 10) rfl rfl (by decide) rfl (fun ls hl => ?_)
          refine lv_goto (tgt := 55) hx hb dX12_laysNearest_98 (by decide) ?_
          exact ih55 v6 v7 v8 (v9 / 6) (v10 + 1) _ _ _ _ h hP hS (lv_sub hl [2, 3, 4, 5, 6, 7, 8, 9, 10, 1, 0] rfl)
      refine lv_iload hx hb dX12_laysNearest_40 (lv_at hl 8 rfl) ?_
      refine lv_sipush (v := 1296) hx hb dX12_laysNearest_42 (by decide) ?_
      refine lv_icmp_ge (tgt := 153) hx hb dX12_laysNearest_45 (by decide) (fun hcq15 => ?_) (fun hcq15 => ?_)
      · have h := ifp hcq15 h
        obtain rfl := Option.some.inj h
        exact W.vret hx hb hr (fun t ht hW => ⟨⟨_, rfl, rfl, mPre_at h0 hS hP ht hW⟩, hS.F ht⟩) hS.2.2 dX12_laysNearest_153
      have h := ifn hcq15 h
      refine lv_iload hx hb dX12_laysNearest_48 (lv_at hl 8 rfl) ?_
      refine lv_istore (lv' := [(9, .int v8), (0, .ref (G.1 28)), (1, .ref (G.1 k1)), (2, .int p2), (3, .ref (G.1 k3)), (4, .int p4), (5, .int p5), (6, .int v6), (7, .int v7), (8, .int v8)]) hx hb dX12_laysNearest_50 hl (by decide) rfl (fun ls hl => ?_)
      refine lv_iconst (v := 0) hx hb dX12_laysNearest_52 (by decide) ?_
      refine lv_istore (lv' := [(10, .int 0), (9, .int v8), (0, .ref (G.1 28)), (1, .ref (G.1 k1)), (2, .int p2), (3, .ref (G.1 k3)), (4, .int p4), (5, .int p5), (6, .int v6), (7, .int v7), (8, .int v8)]) hx hb dX12_laysNearest_53 hl (by decide) rfl (fun ls hl => ?_)
      exact L55 FU v6 v7 v8 v8 0 _ _ _ _ h hP hS (lv_sub hl [2, 3, 4, 5, 6, 7, 8, 9, 10, 1, 0] rfl)
  refine lv_aload_n hx hb dX12_laysNearest_0 rfl (lv_at hl 3 rfl) ?_
  refine lv_iload hx hb dX12_laysNearest_1 (lv_at hl 4 rfl) ?_
  obtain ⟨xq16, hfq17, h⟩ := obd h
  refine va_calli (va_runS (As := [.ref (G.1 k3), .int p4]) (rest := []) ⟨hx, hb, hml, hown, hts⟩ (kX12_normOf l D G _ k3 hk3 p4 xq16 hfq17) (va_cwS 2 hts (lwW_gS mw_936 mw_937 mw_14 mw_938) rfl rfl rfl (by decide +kernel) ⟨Nat.le_of_ble_eq_true rfl, Nat.le_of_ble_eq_true rfl⟩) ⟨fun a U g mk q => ⟨q.1, mPre_call q.2⟩, fun U hU hW => ⟨rfl, mPre_at h0 hS hP hU hW⟩⟩ rfl rfl hl.1 rfl (lv_room (Nat.le_of_ble_eq_true rfl)) dX12_laysNearest_3 ⟨Nat.zero_le _, Nat.zero_le _⟩) hS (fun q _ h => h) (fun q h => h) (fun r u t H1 locs ht hvm hw hB hz1 hq1 hS => ?_)
  obtain ⟨rfl, rfl⟩ := hw
  have hP := hB.1
  rw [ht] at hP
  refine W.widen (k := 0) (n := 0) (Nat.le_refl _) (Nat.le_refl _) ?_
  refine lv_istore (lv' := [(6, .int xq16.1), (0, .ref (G.1 28)), (1, .ref (G.1 k1)), (2, .int p2), (3, .ref (G.1 k3)), (4, .int p4), (5, .int p5)]) hx hb dX12_laysNearest_6 hl (by decide) rfl (fun ls hl => ?_)
  refine lv_aload_n hx hb dX12_laysNearest_8 rfl (lv_at hl 4 rfl) ?_
  refine lv_iload hx hb dX12_laysNearest_9 (lv_at hl 5 rfl) ?_
  refine lv_aload_n hx hb dX12_laysNearest_11 rfl (lv_at hl 1 rfl) ?_
  refine va_get (D := D) (ci := 12) (v := .ref (G.1 2)) (C := RX12) (T := TX12) (N := 34) hx hb hts iwX12 hown hK hP 28 (mg_2 rfl) rfl 2 (by decide) (hts _ mw_960) (fun _ h9 => h9) rfl dX12_laysNearest_12 ?_
  obtain ⟨xq18, hfq19, h⟩ := obd h
  refine va_callv (va_runS (As := [.ref (G.1 k3), .int p4, .ref (G.1 2)]) (rest := []) ⟨hx, hb, hml, hown, hts⟩ (kX12_conjugates l D G _ k3 hk3 p4 2 rfl xq18 hfq19) (va_cwS 3 hts (lwW_gS mw_939 mw_940 mw_14 mw_941) rfl rfl rfl (by decide +kernel) ⟨Nat.le_of_ble_eq_true rfl, Nat.le_of_ble_eq_true rfl⟩) ⟨fun a U g mk q => ⟨q.1, mPre_call q.2⟩, fun U hU hW => ⟨rfl, mPre_at h0 hS hP hU hW⟩⟩ rfl rfl hl.1 rfl (lv_room (Nat.le_of_ble_eq_true rfl)) dX12_laysNearest_15 ⟨Nat.zero_le _, Nat.zero_le _⟩) hS (fun q _ h => h) (fun q h => h) (fun u t H1 locs ht hvm hw hB hz1 hq1 hS => ?_)
  obtain rfl := hw.symm
  have hP := hB.1
  rw [ht] at hP
  refine W.widen (k := 0) (n := 0) (Nat.le_refl _) (Nat.le_refl _) ?_
  refine lv_aload_n hx hb dX12_laysNearest_18 rfl (lv_at hl 1 rfl) ?_
  refine va_get (D := D) (ci := 12) (v := .ref (G.1 2)) (C := RX12) (T := TX12) (N := 34) hx hb hts iwX12 hown hK hP 28 (mg_2 rfl) rfl 2 (by decide) (hts _ mw_960) (fun _ h9 => h9) rfl dX12_laysNearest_19 ?_
  refine lv_iconst (v := 0) hx hb dX12_laysNearest_22 (by decide) ?_
  refine lv_aload_n hx hb dX12_laysNearest_23 rfl (lv_at hl 2 rfl) ?_
  refine lv_iload_n hx hb dX12_laysNearest_24 rfl (lv_at hl 3 rfl) ?_
  refine lv_iload hx hb dX12_laysNearest_25 (lv_at hl 6 rfl) ?_
  refine lv_aload_n hx hb dX12_laysNearest_27 rfl (lv_at hl 1 rfl) ?_
  refine va_get (D := D) (ci := 12) (v := .ref (G.1 12)) (C := RX12) (T := TX12) (N := 34) hx hb hts iwX12 hown hK hP 28 (mg_2 rfl) rfl 13 (by decide) (hts _ mw_971) (fun _ h9 => h9) rfl dX12_laysNearest_28 ?_
  obtain ⟨xq20, hfq21, h⟩ := obd h
  refine va_callv (va_runS (As := [.ref (G.1 2), .int 0, .ref (G.1 k1), .int p2, .int p5, .ref (G.1 12)]) (rest := []) ⟨hx, hb, hml, hown, hts⟩ (kX12_makes l D G _ 2 rfl 0 k1 hk1 p2 p5 12 rfl xq20 hfq21) (va_cwS 6 hts (lwW_gS mw_942 mw_943 mw_14 mw_944) rfl rfl rfl (by decide +kernel) ⟨Nat.le_of_ble_eq_true rfl, Nat.le_of_ble_eq_true rfl⟩) ⟨fun a U g mk q => ⟨q.1, mPre_call q.2⟩, fun U hU hW => ⟨rfl, mPre_at h0 hS hP hU hW⟩⟩ rfl rfl hl.1 rfl (lv_room (Nat.le_of_ble_eq_true rfl)) dX12_laysNearest_31 ⟨Nat.zero_le _, Nat.zero_le _⟩) hS (fun q _ h => h) (fun q h => h) (fun u t H1 locs ht hvm hw hB hz1 hq1 hS => ?_)
  obtain rfl := hw.symm
  have hP := hB.1
  rw [ht] at hP
  refine W.widen (k := 0) (n := 0) (Nat.le_refl _) (Nat.le_refl _) ?_
  refine lv_iconst (v := 1) hx hb dX12_laysNearest_34 (by decide) ?_
  refine lv_istore (lv' := [(7, .int 1), (6, .int xq16.1), (0, .ref (G.1 28)), (1, .ref (G.1 k1)), (2, .int p2), (3, .ref (G.1 k3)), (4, .int p4), (5, .int p5)]) hx hb dX12_laysNearest_35 hl (by decide) rfl (fun ls hl => ?_)
  refine lv_iconst (v := 0) hx hb dX12_laysNearest_37 (by decide) ?_
  refine lv_istore (lv' := [(8, .int 0), (7, .int 1), (6, .int xq16.1), (0, .ref (G.1 28)), (1, .ref (G.1 k1)), (2, .int p2), (3, .ref (G.1 k3)), (4, .int p4), (5, .int p5)]) hx hb dX12_laysNearest_38 hl (by decide) rfl (fun ls hl => ?_)
  exact L40 FU xq16.1 1 0 _ _ _ _ h hP hS (lv_sub hl [3, 4, 5, 6, 7, 8, 2, 1, 0] rfl)
def fX12_isSlot (p0 : Int32) : Option (Int32) :=
  (fX12_in p0 0 5).bind fun xq1 => (if ¬ (xq1 = 0 ∨ xq1 = 1) then none else (some xq1))
set_option maxHeartbeats 4000000 in
set_option maxRecDepth 100000 in
theorem kX12_isSlot (l : Launch) (p0 : Int32) (res : Int32) (h : fX12_isSlot p0 = some res) : Met l yX12_isSlot (.code yX12_isSlot cX12_isSlot 1 (some .boolean) :: lwW) (rmD 1) (nPc [.int p0]) (nQi res) 0 0 (fun _ => False) := by
  refine Met.ofW (cc := cX12_isSlot) (maxL := 1) (ret := (some .boolean)) (by decide) rfl ?_
  intro p e s m args below meth c s₁ B hml hv
  obtain ⟨rfl, h0⟩ := hv
  have hx := B.exec
  have hb := B.bytes
  have hr := B.returns
  have hts := fun (w : Cond) (hw : w ∈ lwW) => atoms_spec (ws := (.code yX12_isSlot cX12_isSlot 1 (some .boolean) :: lwW)) B.pre w (List.mem_cons_of_mem _ hw)
  have hown : s.vm.findClass RX12 = some m.cls := findClass_of_methodNamed B.named
  have hlocks := B.notSynchronized
  have hS : va_S (fun _ => False) s.heap s.heap [] := va_S.rf
  have hl := lv_entry ([.int p0]) (n := 1) (Nat.le_of_ble_eq_true rfl)
  rw [lg_entry_eq]
  generalize (lg_sl ([.int p0]) ++ List.replicate (1 - (lg_sl ([.int p0])).length) Slot.unset).toArray = ls at hl ⊢
  have hl : lv_has ls 1 [(0, .int p0)] := hl
  unfold fX12_isSlot at h
  refine lv_iload_n hx hb dX12_isSlot_0 rfl (lv_at hl 0 rfl) ?_
  refine lv_iconst (v := 0) hx hb dX12_isSlot_1 (by decide) ?_
  refine lv_iconst (v := 5) hx hb dX12_isSlot_2 (by decide) ?_
  obtain ⟨xq1, hfq2, h⟩ := obd h
  refine va_calli (va_runS (As := [.int p0, .int 0, .int 5]) (rest := []) ⟨hx, hb, hml, hown, hts⟩ (kX12_in l p0 0 5 xq1 hfq2) (va_cwS 3 hts (lwW_gS mw_1069 mw_1070 mw_14 mw_1071) rfl rfl rfl (by decide +kernel) ⟨Nat.le_of_ble_eq_true rfl, Nat.le_of_ble_eq_true rfl⟩) ⟨fun a U g mk q => ⟨q.1, trivial⟩, fun U hU hW => ⟨rfl, trivial⟩⟩ rfl rfl hl.1 rfl (lv_room (Nat.le_of_ble_eq_true rfl)) dX12_isSlot_3 ⟨Nat.zero_le _, Nat.zero_le _⟩) hS (fun q _ h => h.elim) (fun q h => h.elim) (fun r u t H1 locs ht hvm hw hB hz1 hq1 hS => ?_)
  obtain rfl := hw.symm
  refine W.widen (k := 0) (n := 0) (Nat.le_refl _) (Nat.le_refl _) ?_
  obtain ⟨hzq3, h⟩ := nif h
  have hzq3 := Decidable.not_not.mp hzq3
  obtain rfl := Option.some.inj h
  exact W.zret hx hb hr (nar01 hzq3) (fun t ht hW => ⟨⟨_, (), rfl, rfl, trivial⟩, hS.F ht⟩) hS.2.2 dX12_isSlot_6
def fX12_norm (p1 : Int32) (σ : QMem) : Option (Int32 × QMem) :=
  (fX12_normOf 13 (4 * p1) σ).bind fun xq1 => (some (xq1.1, xq1.2))
set_option maxHeartbeats 4000000 in
set_option maxRecDepth 100000 in
theorem kX12_norm (l : Launch) (D : va_G) (G : xG) (σ : QMem) (p1 : Int32) (res : Int32 × QMem) (h : fX12_norm p1 σ = some res) : Met l yX12_norm (.code yX12_norm cX12_norm 2 (some .int) :: lwW) (rmD 1) (mPc D G σ [.ref (G.1 28), .int p1]) (mQi D G res) 0 0 (mA G) := by
  refine Met.ofW (cc := cX12_norm) (maxL := 2) (ret := (some .int)) (by decide) rfl ?_
  intro p e s m args below meth c s₁ B hml hv
  obtain ⟨rfl, h0⟩ := hv
  have hx := B.exec
  have hb := B.bytes
  have hr := B.returns
  have hts := fun (w : Cond) (hw : w ∈ lwW) => atoms_spec (ws := (.code yX12_norm cX12_norm 2 (some .int) :: lwW)) B.pre w (List.mem_cons_of_mem _ hw)
  have hown : s.vm.findClass RX12 = some m.cls := findClass_of_methodNamed B.named
  have hlocks := B.notSynchronized
  have hP := h0.1
  have hK := h0.2.1
  have hi := h0.2.2
  have hS : va_S (mA G) s.heap s.heap [] := va_S.rf
  have hl := lv_entry ([.ref (G.1 28), .int p1]) (n := 2) (Nat.le_of_ble_eq_true rfl)
  rw [lg_entry_eq]
  generalize (lg_sl ([.ref (G.1 28), .int p1]) ++ List.replicate (2 - (lg_sl ([.ref (G.1 28), .int p1])).length) Slot.unset).toArray = ls at hl ⊢
  have hl : lv_has ls 2 [(0, .ref (G.1 28)), (1, .int p1)] := hl
  unfold fX12_norm at h
  refine lv_aload_n hx hb dX12_norm_0 rfl (lv_at hl 0 rfl) ?_
  refine va_get (D := D) (ci := 12) (v := .ref (G.1 13)) (C := RX12) (T := TX12) (N := 34) hx hb hts iwX12 hown hK hP 28 (mg_2 rfl) rfl 14 (by decide) (hts _ mw_972) (fun _ h9 => h9) rfl dX12_norm_1 ?_
  refine lv_iconst (v := 4) hx hb dX12_norm_4 (by decide) ?_
  refine lv_iload_n hx hb dX12_norm_5 rfl (lv_at hl 1 rfl) ?_
  refine lv_imul hx hb dX12_norm_6 ?_
  obtain ⟨xq1, hfq2, h⟩ := obd h
  refine va_calli (va_runS (As := [.ref (G.1 13), .int (4 * p1)]) (rest := []) ⟨hx, hb, hml, hown, hts⟩ (kX12_normOf l D G _ 13 rfl (4 * p1) xq1 hfq2) (va_cwS 2 hts (lwW_gS mw_936 mw_937 mw_14 mw_938) rfl rfl rfl (by decide +kernel) ⟨Nat.le_of_ble_eq_true rfl, Nat.le_of_ble_eq_true rfl⟩) ⟨fun a U g mk q => ⟨q.1, mPre_call q.2⟩, fun U hU hW => ⟨rfl, mPre_at h0 hS hP hU hW⟩⟩ rfl rfl hl.1 rfl (lv_room (Nat.le_of_ble_eq_true rfl)) dX12_norm_7 ⟨Nat.zero_le _, Nat.zero_le _⟩) hS (fun q _ h => h) (fun q h => h) (fun r u t H1 locs ht hvm hw hB hz1 hq1 hS => ?_)
  obtain ⟨rfl, rfl⟩ := hw
  have hP := hB.1
  rw [ht] at hP
  refine W.widen (k := 0) (n := 0) (Nat.le_refl _) (Nat.le_refl _) ?_
  obtain rfl := Option.some.inj h
  exact W.iret (v := xq1.1) hx hb hr (fun t ht hW => ⟨⟨_, _, rfl, ⟨rfl, rfl⟩, mPre_at h0 hS hP ht hW⟩, hS.F ht⟩) hS.2.2 dX12_norm_10
def fX12_isEmpty (p1 : Int32) (σ : QMem) : Option (Int32 × QMem) :=
  (fX12_isNought 13 (4 * p1) σ).bind fun xq1 => (if ¬ (xq1.1 = 0 ∨ xq1.1 = 1) then none else (some (xq1.1, xq1.2)))
set_option maxHeartbeats 4000000 in
set_option maxRecDepth 100000 in
theorem kX12_isEmpty (l : Launch) (D : va_G) (G : xG) (σ : QMem) (p1 : Int32) (res : Int32 × QMem) (h : fX12_isEmpty p1 σ = some res) : Met l yX12_isEmpty (.code yX12_isEmpty cX12_isEmpty 2 (some .boolean) :: lwW) (rmD 1) (mPc D G σ [.ref (G.1 28), .int p1]) (mQi D G res) 0 0 (mA G) := by
  refine Met.ofW (cc := cX12_isEmpty) (maxL := 2) (ret := (some .boolean)) (by decide) rfl ?_
  intro p e s m args below meth c s₁ B hml hv
  obtain ⟨rfl, h0⟩ := hv
  have hx := B.exec
  have hb := B.bytes
  have hr := B.returns
  have hts := fun (w : Cond) (hw : w ∈ lwW) => atoms_spec (ws := (.code yX12_isEmpty cX12_isEmpty 2 (some .boolean) :: lwW)) B.pre w (List.mem_cons_of_mem _ hw)
  have hown : s.vm.findClass RX12 = some m.cls := findClass_of_methodNamed B.named
  have hlocks := B.notSynchronized
  have hP := h0.1
  have hK := h0.2.1
  have hi := h0.2.2
  have hS : va_S (mA G) s.heap s.heap [] := va_S.rf
  have hl := lv_entry ([.ref (G.1 28), .int p1]) (n := 2) (Nat.le_of_ble_eq_true rfl)
  rw [lg_entry_eq]
  generalize (lg_sl ([.ref (G.1 28), .int p1]) ++ List.replicate (2 - (lg_sl ([.ref (G.1 28), .int p1])).length) Slot.unset).toArray = ls at hl ⊢
  have hl : lv_has ls 2 [(0, .ref (G.1 28)), (1, .int p1)] := hl
  unfold fX12_isEmpty at h
  refine lv_aload_n hx hb dX12_isEmpty_0 rfl (lv_at hl 0 rfl) ?_
  refine va_get (D := D) (ci := 12) (v := .ref (G.1 13)) (C := RX12) (T := TX12) (N := 34) hx hb hts iwX12 hown hK hP 28 (mg_2 rfl) rfl 14 (by decide) (hts _ mw_972) (fun _ h9 => h9) rfl dX12_isEmpty_1 ?_
  refine lv_iconst (v := 4) hx hb dX12_isEmpty_4 (by decide) ?_
  refine lv_iload_n hx hb dX12_isEmpty_5 rfl (lv_at hl 1 rfl) ?_
  refine lv_imul hx hb dX12_isEmpty_6 ?_
  obtain ⟨xq1, hfq2, h⟩ := obd h
  refine va_calli (va_runS (As := [.ref (G.1 13), .int (4 * p1)]) (rest := []) ⟨hx, hb, hml, hown, hts⟩ (kX12_isNought l D G _ 13 rfl (4 * p1) xq1 hfq2) (va_cwS 2 hts (lwW_gS mw_1080 mw_1081 mw_14 mw_1082) rfl rfl rfl (by decide +kernel) ⟨Nat.le_of_ble_eq_true rfl, Nat.le_of_ble_eq_true rfl⟩) ⟨fun a U g mk q => ⟨q.1, mPre_call q.2⟩, fun U hU hW => ⟨rfl, mPre_at h0 hS hP hU hW⟩⟩ rfl rfl hl.1 rfl (lv_room (Nat.le_of_ble_eq_true rfl)) dX12_isEmpty_7 ⟨Nat.zero_le _, Nat.zero_le _⟩) hS (fun q _ h => h) (fun q h => h) (fun r u t H1 locs ht hvm hw hB hz1 hq1 hS => ?_)
  obtain ⟨rfl, rfl⟩ := hw
  have hP := hB.1
  rw [ht] at hP
  refine W.widen (k := 0) (n := 0) (Nat.le_refl _) (Nat.le_refl _) ?_
  obtain ⟨hzq3, h⟩ := nif h
  have hzq3 := Decidable.not_not.mp hzq3
  obtain rfl := Option.some.inj h
  exact W.zret hx hb hr (nar01 hzq3) (fun t ht hW => ⟨⟨_, _, rfl, ⟨rfl, rfl⟩, mPre_at h0 hS hP ht hW⟩, hS.F ht⟩) hS.2.2 dX12_isEmpty_10
def fX12_filled_J24  (K4 : Int32 → Int32 → QMem → Option (Int32 × QMem)) (v2 : Int32) (s0 : Int32) (s1 : Int32) (τ : QMem) : Option (Int32 × QMem) :=
  K4 (s0 + s1) (v2 + 1) τ
def fX12_filled_L4  : Nat → Int32 → Int32 → QMem → Option (Int32 × QMem)
  | 0, _, _, _ => none
  | n + 1, v1, v2, τ =>
  if 6 ≤ v2 then (some (v1, τ)) else ((fX12_isEmpty v2 τ).bind fun xq2 => (if xq2.1 = 0 then (fX12_filled_J24 (fX12_filled_L4 n) v2 v1 1 xq2.2) else (fX12_filled_J24 (fX12_filled_L4 n) v2 v1 0 xq2.2)))
def fX12_filled  (σ : QMem) : Option (Int32 × QMem) :=
  fX12_filled_L4 FU 0 0 σ
set_option maxHeartbeats 4000000 in
set_option maxRecDepth 100000 in
theorem kX12_filled (l : Launch) (D : va_G) (G : xG) (σ : QMem) (res : Int32 × QMem) (h : fX12_filled σ = some res) : Met l yX12_filled (.code yX12_filled cX12_filled 3 (some .int) :: lwW) (rmD 2) (mPc D G σ [.ref (G.1 28)]) (mQi D G res) 0 0 (mA G) := by
  refine Met.ofW (cc := cX12_filled) (maxL := 3) (ret := (some .int)) (by decide) rfl ?_
  intro p e s m args below meth c s₁ B hml hv
  obtain ⟨rfl, h0⟩ := hv
  have hx := B.exec
  have hb := B.bytes
  have hr := B.returns
  have hts := fun (w : Cond) (hw : w ∈ lwW) => atoms_spec (ws := (.code yX12_filled cX12_filled 3 (some .int) :: lwW)) B.pre w (List.mem_cons_of_mem _ hw)
  have hown : s.vm.findClass RX12 = some m.cls := findClass_of_methodNamed B.named
  have hlocks := B.notSynchronized
  have hP := h0.1
  have hK := h0.2.1
  have hi := h0.2.2
  have hS : va_S (mA G) s.heap s.heap [] := va_S.rf
  have hl := lv_entry ([.ref (G.1 28)]) (n := 3) (Nat.le_of_ble_eq_true rfl)
  rw [lg_entry_eq]
  generalize (lg_sl ([.ref (G.1 28)]) ++ List.replicate (3 - (lg_sl ([.ref (G.1 28)])).length) Slot.unset).toArray = ls at hl ⊢
  have hl : lv_has ls 3 [(0, .ref (G.1 28))] := hl
  unfold fX12_filled at h
  have L4 : ∀ (n4 : Nat) (v1 : Int32) (v2 : Int32) (τ : QMem) (H : Heap) (locs : List Loc) (ls : Array Slot), fX12_filled_L4 n4 v1 v2 τ = some res → va_P D vwCl (mW G τ) H → va_S (mA G) s.heap H locs → lv_has ls 3 [(0, .ref (G.1 28)), (1, .int v1), (2, .int v2)] → W p l e (headSpec (.code yX12_filled cX12_filled 3 (some .int) :: lwW) (rmD 2)).room s m ([.ref (G.1 28)] : List Value).toArray below meth c H locs 0 0 (MQ below (mQi D G res) ([.ref (G.1 28)] : List Value).toArray s 0 0 (mA G)) (F0 m 4 ls []) := by
    intro n4
    induction n4 with
    | zero => intro v1 v2 τ H locs ls h; rw [fX12_filled_L4] at h; cases h
    | succ n4 ih4 =>
      intro v1 v2 τ H locs ls h hP hS hl
      rw [fX12_filled_L4] at h
      have J24 : ∀ (v2 : Int32) (s0 : Int32) (s1 : Int32) (τ : QMem) (H : Heap) (locs : List Loc) (ls : Array Slot), fX12_filled_J24 (fX12_filled_L4 n4) v2 s0 s1 τ = some res → va_P D vwCl (mW G τ) H → va_S (mA G) s.heap H locs → lv_has ls 3 [(0, .ref (G.1 28)), (2, .int v2)] → W p l e (headSpec (.code yX12_filled cX12_filled 3 (some .int) :: lwW) (rmD 2)).room s m ([.ref (G.1 28)] : List Value).toArray below meth c H locs 0 0 (MQ below (mQi D G res) ([.ref (G.1 28)] : List Value).toArray s 0 0 (mA G)) (F0 m 24 ls [.int s1, .int s0]) := by
        intro v2 s0 s1 τ H locs ls h hP hS hl
        unfold fX12_filled_J24 at h
        refine lv_iadd hx hb dX12_filled_24 ?_
        refine lv_istore_n (lv' := [(1, .int (s0 + s1)), (0, .ref (G.1 28)), (2, .int v2)]) hx hb dX12_filled_25 rfl hl (by decide) rfl (fun ls hl => ?_)
        refine lv_iinc (v := v2 + 1) (lv' := [(2, .int (v2 + 1)), (1, .int (s0 + s1)), (0, .ref (G.1 28))]) hx hb dX12_filled_26 hl (k := 2) rfl rfl (by decide) rfl (fun ls hl => ?_)
        refine lv_goto (tgt := 4) hx hb dX12_filled_29 (by decide) ?_
        exact ih4 (s0 + s1) (v2 + 1) _ _ _ _ h hP hS (lv_sub hl [2, 1, 0] rfl)
      refine lv_iload_n hx hb dX12_filled_4 rfl (lv_at hl 2 rfl) ?_
      refine lv_bipush (v := 6) hx hb dX12_filled_5 (by decide) ?_
      refine lv_icmp_ge (tgt := 32) hx hb dX12_filled_7 (by decide) (fun hcq1 => ?_) (fun hcq1 => ?_)
      · have h := ifp hcq1 h
        refine lv_iload_n hx hb dX12_filled_32 rfl (lv_at hl 1 rfl) ?_
        obtain rfl := Option.some.inj h
        exact W.iret (v := v1) hx hb hr (fun t ht hW => ⟨⟨_, _, rfl, ⟨rfl, rfl⟩, mPre_at h0 hS hP ht hW⟩, hS.F ht⟩) hS.2.2 dX12_filled_33
      have h := ifn hcq1 h
      refine lv_iload_n hx hb dX12_filled_10 rfl (lv_at hl 1 rfl) ?_
      refine lv_aload_n hx hb dX12_filled_11 rfl (lv_at hl 0 rfl) ?_
      refine lv_iload_n hx hb dX12_filled_12 rfl (lv_at hl 2 rfl) ?_
      obtain ⟨xq2, hfq3, h⟩ := obd h
      refine va_calli (va_runV (As := [.int v2]) (rest := [.int v1]) ⟨hx, hb, hml, hown, hts⟩ (kX12_isEmpty l D G _ v2 xq2 hfq3) (cwV 1 hts (lwW_gV mw_1076 mw_1078 ms_30 mw_14 mw_1079) rfl rfl rfl (by decide +kernel) ⟨Nat.le_of_ble_eq_true rfl, Nat.le_of_ble_eq_true rfl⟩) ⟨fun a U g mk q => ⟨q.1, mPre_call q.2⟩, va_recv hK hP rfl (mg_2 rfl), fun U hU hW => ⟨rfl, mPre_at h0 hS hP hU hW⟩⟩ rfl rfl hl.1 rfl (lv_room (Nat.le_of_ble_eq_true rfl)) dX12_filled_13 ⟨Nat.zero_le _, Nat.zero_le _⟩) hS (fun q _ h => h) (fun q h => h) (fun r u t H1 locs ht hvm hw hB hz1 hq1 hS => ?_)
      obtain ⟨rfl, rfl⟩ := hw
      have hP := hB.1
      rw [ht] at hP
      refine W.widen (k := 0) (n := 0) (Nat.le_refl _) (Nat.le_refl _) ?_
      refine lv_if_eq (tgt := 23) hx hb dX12_filled_16 (by decide) (fun hcq4 => ?_) (fun hcq4 => ?_)
      · have h := ifp hcq4 h
        refine lv_iconst (v := 1) hx hb dX12_filled_23 (by decide) ?_
        exact J24 v2 v1 1 _ _ _ _ h hP hS (lv_sub hl [0, 2] rfl)
      have h := ifn hcq4 h
      refine lv_iconst (v := 0) hx hb dX12_filled_19 (by decide) ?_
      refine lv_goto (tgt := 24) hx hb dX12_filled_20 (by decide) ?_
      exact J24 v2 v1 0 _ _ _ _ h hP hS (lv_sub hl [0, 2] rfl)
  refine lv_iconst (v := 0) hx hb dX12_filled_0 (by decide) ?_
  refine lv_istore_n (lv' := [(1, .int 0), (0, .ref (G.1 28))]) hx hb dX12_filled_1 rfl hl (by decide) rfl (fun ls hl => ?_)
  refine lv_iconst (v := 0) hx hb dX12_filled_2 (by decide) ?_
  refine lv_istore_n (lv' := [(2, .int 0), (1, .int 0), (0, .ref (G.1 28))]) hx hb dX12_filled_3 rfl hl (by decide) rfl (fun ls hl => ?_)
  exact L4 FU 0 0 _ _ _ _ h hP hS (lv_sub hl [2, 1, 0] rfl)
def fX12_marks_L52  : Nat → Int32 → QMem → Option (QMem)
  | 0, _, _ => none
  | n + 1, v1, τ =>
  if 24 ≤ v1 then (some (ms τ 28 15 ((τ 28 15) + 1))) else (if (v1 < 0 ∨ ml 13 ≤ v1.toNatClampNeg) then none else (if ((24 * (τ 28 15)) + v1 < 0 ∨ ml 14 ≤ ((24 * (τ 28 15)) + v1).toNatClampNeg) then none else ((fX12_marks_L52 n) (v1 + 1) (ms τ 14 ((24 * (τ 28 15)) + v1).toNatClampNeg (τ 13 v1.toNatClampNeg)))))
def fX12_marks_J50   (τ : QMem) : Option (QMem) :=
  fX12_marks_L52 FU 0 τ
def fX12_marks_L12  : Nat → Int32 → QMem → Option (QMem)
  | 0, _, _ => none
  | n + 1, v1, τ =>
  if 192 ≤ v1 then (fX12_marks_J50 (ms τ 28 15 ((τ 28 15) - 1))) else (if (v1 < 0 ∨ ml 14 ≤ v1.toNatClampNeg) then none else (if (v1 - 24 < 0 ∨ ml 14 ≤ (v1 - 24).toNatClampNeg) then none else ((fX12_marks_L12 n) (v1 + 1) (ms τ 14 (v1 - 24).toNatClampNeg (τ 14 v1.toNatClampNeg)))))
def fX12_marks  (σ : QMem) : Option (QMem) :=
  if (σ 28 15) = 8 then (fX12_marks_L12 FU 24 σ) else (fX12_marks_J50 σ)
set_option maxHeartbeats 4000000 in
set_option maxRecDepth 100000 in
theorem kX12_marks (l : Launch) (D : va_G) (G : xG) (σ : QMem) (res : QMem) (h : fX12_marks σ = some res) : Met l yX12_marks (.code yX12_marks cX12_marks 2 none :: lwW) (rmD 0) (mPc D G σ [.ref (G.1 28)]) (mQv D G res) 0 0 (mA G) := by
  refine Met.ofW (cc := cX12_marks) (maxL := 2) (ret := none) (by decide) rfl ?_
  intro p e s m args below meth c s₁ B hml hv
  obtain ⟨rfl, h0⟩ := hv
  have hx := B.exec
  have hb := B.bytes
  have hr := B.returns
  have hts := fun (w : Cond) (hw : w ∈ lwW) => atoms_spec (ws := (.code yX12_marks cX12_marks 2 none :: lwW)) B.pre w (List.mem_cons_of_mem _ hw)
  have hown : s.vm.findClass RX12 = some m.cls := findClass_of_methodNamed B.named
  have hlocks := B.notSynchronized
  have hP := h0.1
  have hK := h0.2.1
  have hi := h0.2.2
  have hS : va_S (mA G) s.heap s.heap [] := va_S.rf
  have hl := lv_entry ([.ref (G.1 28)]) (n := 2) (Nat.le_of_ble_eq_true rfl)
  rw [lg_entry_eq]
  generalize (lg_sl ([.ref (G.1 28)]) ++ List.replicate (2 - (lg_sl ([.ref (G.1 28)])).length) Slot.unset).toArray = ls at hl ⊢
  have hl : lv_has ls 2 [(0, .ref (G.1 28))] := hl
  unfold fX12_marks at h
  have L52 : ∀ (n52 : Nat) (v1 : Int32) (τ : QMem) (H : Heap) (locs : List Loc) (ls : Array Slot), fX12_marks_L52 n52 v1 τ = some res → va_P D vwCl (mW G τ) H → va_S (mA G) s.heap H locs → lv_has ls 2 [(0, .ref (G.1 28)), (1, .int v1)] → W p l e (headSpec (.code yX12_marks cX12_marks 2 none :: lwW) (rmD 0)).room s m ([.ref (G.1 28)] : List Value).toArray below meth c H locs 0 0 (MQ below (mQv D G res) ([.ref (G.1 28)] : List Value).toArray s 0 0 (mA G)) (F0 m 52 ls []) := by
    intro n52
    induction n52 with
    | zero => intro v1 τ H locs ls h; rw [fX12_marks_L52] at h; cases h
    | succ n52 ih52 =>
      intro v1 τ H locs ls h hP hS hl
      rw [fX12_marks_L52] at h
      refine lv_iload_n hx hb dX12_marks_52 rfl (lv_at hl 1 rfl) ?_
      refine lv_bipush (v := 24) hx hb dX12_marks_53 (by decide) ?_
      refine lv_icmp_ge (tgt := 84) hx hb dX12_marks_55 (by decide) (fun hcq1 => ?_) (fun hcq1 => ?_)
      · have h := ifp hcq1 h
        refine lv_aload_n hx hb dX12_marks_84 rfl (lv_at hl 0 rfl) ?_
        refine lv_dup hx hb dX12_marks_85 rfl ?_
        refine va_get (D := D) (ci := 12) (v := .int (τ 28 15)) (C := RX12) (T := TX12) (N := 34) hx hb hts iwX12 hown hK hP 28 (mg_2 rfl) rfl 15 (by decide) (hts _ mw_973) (fun _ h9 => h9) rfl dX12_marks_86 ?_
        refine lv_iconst (v := 1) hx hb dX12_marks_89 (by decide) ?_
        refine lv_iadd hx hb dX12_marks_90 ?_
        refine va_put (D := D) (ci := 12) (v := .int ((τ 28 15) + 1)) (ty := .int) (C := RX12) (T := TX12) (N := 34) hx hb hts iwX12 tyX12 tyX12_ok nmX12 hown hK hP (mD hi) hS 28 (mg_2 rfl) rfl 15 (by decide) (hts _ mw_973) (fun _ h9 => h9) rfl (by decide +kernel) rfl rfl (Nat.le_of_ble_eq_true rfl) dX12_marks_91 (fun H locs hP hD hS => ?_)
        have hP : va_P D vwCl (mW G (ms τ 28 15 ((τ 28 15) + 1))) H := by rw [← ms_2_15 rfl]; exact hP
        obtain rfl := Option.some.inj h
        exact W.vret hx hb hr (fun t ht hW => ⟨⟨_, rfl, rfl, mPre_at h0 hS hP ht hW⟩, hS.F ht⟩) hS.2.2 dX12_marks_94
      have h := ifn hcq1 h
      refine lv_aload_n hx hb dX12_marks_58 rfl (lv_at hl 0 rfl) ?_
      refine va_get (D := D) (ci := 12) (v := .ref (G.1 14)) (C := RX12) (T := TX12) (N := 34) hx hb hts iwX12 hown hK hP 28 (mg_2 rfl) rfl 16 (by decide) (hts _ mw_974) (fun _ h9 => h9) rfl dX12_marks_59 ?_
      refine lv_bipush (v := 24) hx hb dX12_marks_62 (by decide) ?_
      refine lv_aload_n hx hb dX12_marks_64 rfl (lv_at hl 0 rfl) ?_
      refine va_get (D := D) (ci := 12) (v := .int (τ 28 15)) (C := RX12) (T := TX12) (N := 34) hx hb hts iwX12 hown hK hP 28 (mg_2 rfl) rfl 15 (by decide) (hts _ mw_973) (fun _ h9 => h9) rfl dX12_marks_65 ?_
      refine lv_imul hx hb dX12_marks_68 ?_
      refine lv_iload_n hx hb dX12_marks_69 rfl (lv_at hl 1 rfl) ?_
      refine lv_iadd hx hb dX12_marks_70 ?_
      refine lv_aload_n hx hb dX12_marks_71 rfl (lv_at hl 0 rfl) ?_
      refine va_get (D := D) (ci := 12) (v := .ref (G.1 13)) (C := RX12) (T := TX12) (N := 34) hx hb hts iwX12 hown hK hP 28 (mg_2 rfl) rfl 14 (by decide) (hts _ mw_972) (fun _ h9 => h9) rfl dX12_marks_72 ?_
      refine lv_iload_n hx hb dX12_marks_75 rfl (lv_at hl 1 rfl) ?_
      obtain ⟨hiq2, h⟩ := nif h
      refine va_iald hx hb hK hP 13 0 (mg_0 rfl) rfl hiq2 dX12_marks_76 ?_
      obtain ⟨hiq3, h⟩ := nif h
      refine va_iast hx hb hK hP (mD hi) hS 14 0 (mg_0 rfl) rfl hiq3 dX12_marks_77 (fun H locs hP hD hS => ?_)
      have hP : va_P D vwCl (mW G (ms τ 14 ((24 * (τ 28 15)) + v1).toNatClampNeg (τ 13 v1.toNatClampNeg))) H := by rw [← ms_0x rfl]; exact hP
      refine lv_iinc (v := v1 + 1) (lv' := [(1, .int (v1 + 1)), (0, .ref (G.1 28))]) hx hb dX12_marks_78 hl (k := 1) rfl rfl (by decide) rfl (fun ls hl => ?_)
      refine lv_goto (tgt := 52) hx hb dX12_marks_81 (by decide) ?_
      exact ih52 (v1 + 1) _ _ _ _ h hP hS (lv_sub hl [1, 0] rfl)
  have J50 : ∀ (τ : QMem) (H : Heap) (locs : List Loc) (ls : Array Slot), fX12_marks_J50 τ = some res → va_P D vwCl (mW G τ) H → va_S (mA G) s.heap H locs → lv_has ls 2 [(0, .ref (G.1 28))] → W p l e (headSpec (.code yX12_marks cX12_marks 2 none :: lwW) (rmD 0)).room s m ([.ref (G.1 28)] : List Value).toArray below meth c H locs 0 0 (MQ below (mQv D G res) ([.ref (G.1 28)] : List Value).toArray s 0 0 (mA G)) (F0 m 50 ls []) := by
    intro τ H locs ls h hP hS hl
    unfold fX12_marks_J50 at h
    refine lv_iconst (v := 0) hx hb dX12_marks_50 (by decide) ?_
    refine lv_istore_n (lv' := [(1, .int 0), (0, .ref (G.1 28))]) hx hb dX12_marks_51 rfl hl (by decide) rfl (fun ls hl => ?_)
    exact L52 FU 0 _ _ _ _ h hP hS (lv_sub hl [1, 0] rfl)
  have L12 : ∀ (n12 : Nat) (v1 : Int32) (τ : QMem) (H : Heap) (locs : List Loc) (ls : Array Slot), fX12_marks_L12 n12 v1 τ = some res → va_P D vwCl (mW G τ) H → va_S (mA G) s.heap H locs → lv_has ls 2 [(0, .ref (G.1 28)), (1, .int v1)] → W p l e (headSpec (.code yX12_marks cX12_marks 2 none :: lwW) (rmD 0)).room s m ([.ref (G.1 28)] : List Value).toArray below meth c H locs 0 0 (MQ below (mQv D G res) ([.ref (G.1 28)] : List Value).toArray s 0 0 (mA G)) (F0 m 12 ls []) := by
    intro n12
    induction n12 with
    | zero => intro v1 τ H locs ls h; rw [fX12_marks_L12] at h; cases h
    | succ n12 ih12 =>
      intro v1 τ H locs ls h hP hS hl
      rw [fX12_marks_L12] at h
      refine lv_iload_n hx hb dX12_marks_12 rfl (lv_at hl 1 rfl) ?_
      refine lv_sipush (v := 192) hx hb dX12_marks_13 (by decide) ?_
      refine lv_icmp_ge (tgt := 40) hx hb dX12_marks_16 (by decide) (fun hcq4 => ?_) (fun hcq4 => ?_)
      · have h := ifp hcq4 h
        refine lv_aload_n hx hb dX12_marks_40 rfl (lv_at hl 0 rfl) ?_
        refine lv_dup hx hb dX12_marks_41 rfl ?_
        refine va_get (D := D) (ci := 12) (v := .int (τ 28 15)) (C := RX12) (T := TX12) (N := 34) hx hb hts iwX12 hown hK hP 28 (mg_2 rfl) rfl 15 (by decide) (hts _ mw_973) (fun _ h9 => h9) rfl dX12_marks_42 ?_
        refine lv_iconst (v := 1) hx hb dX12_marks_45 (by decide) ?_
        refine lv_isub hx hb dX12_marks_46 ?_
        refine va_put (D := D) (ci := 12) (v := .int ((τ 28 15) - 1)) (ty := .int) (C := RX12) (T := TX12) (N := 34) hx hb hts iwX12 tyX12 tyX12_ok nmX12 hown hK hP (mD hi) hS 28 (mg_2 rfl) rfl 15 (by decide) (hts _ mw_973) (fun _ h9 => h9) rfl (by decide +kernel) rfl rfl (Nat.le_of_ble_eq_true rfl) dX12_marks_47 (fun H locs hP hD hS => ?_)
        have hP : va_P D vwCl (mW G (ms τ 28 15 ((τ 28 15) - 1))) H := by rw [← ms_2_15 rfl]; exact hP
        exact J50 _ _ _ _ h hP hS (lv_sub hl [0] rfl)
      have h := ifn hcq4 h
      refine lv_aload_n hx hb dX12_marks_19 rfl (lv_at hl 0 rfl) ?_
      refine va_get (D := D) (ci := 12) (v := .ref (G.1 14)) (C := RX12) (T := TX12) (N := 34) hx hb hts iwX12 hown hK hP 28 (mg_2 rfl) rfl 16 (by decide) (hts _ mw_974) (fun _ h9 => h9) rfl dX12_marks_20 ?_
      refine lv_iload_n hx hb dX12_marks_23 rfl (lv_at hl 1 rfl) ?_
      refine lv_bipush (v := 24) hx hb dX12_marks_24 (by decide) ?_
      refine lv_isub hx hb dX12_marks_26 ?_
      refine lv_aload_n hx hb dX12_marks_27 rfl (lv_at hl 0 rfl) ?_
      refine va_get (D := D) (ci := 12) (v := .ref (G.1 14)) (C := RX12) (T := TX12) (N := 34) hx hb hts iwX12 hown hK hP 28 (mg_2 rfl) rfl 16 (by decide) (hts _ mw_974) (fun _ h9 => h9) rfl dX12_marks_28 ?_
      refine lv_iload_n hx hb dX12_marks_31 rfl (lv_at hl 1 rfl) ?_
      obtain ⟨hiq5, h⟩ := nif h
      refine va_iald hx hb hK hP 14 0 (mg_0 rfl) rfl hiq5 dX12_marks_32 ?_
      obtain ⟨hiq6, h⟩ := nif h
      refine va_iast hx hb hK hP (mD hi) hS 14 0 (mg_0 rfl) rfl hiq6 dX12_marks_33 (fun H locs hP hD hS => ?_)
      have hP : va_P D vwCl (mW G (ms τ 14 (v1 - 24).toNatClampNeg (τ 14 v1.toNatClampNeg))) H := by rw [← ms_0x rfl]; exact hP
      refine lv_iinc (v := v1 + 1) (lv' := [(1, .int (v1 + 1)), (0, .ref (G.1 28))]) hx hb dX12_marks_34 hl (k := 1) rfl rfl (by decide) rfl (fun ls hl => ?_)
      refine lv_goto (tgt := 12) hx hb dX12_marks_37 (by decide) ?_
      exact ih12 (v1 + 1) _ _ _ _ h hP hS (lv_sub hl [1, 0] rfl)
  refine lv_aload_n hx hb dX12_marks_0 rfl (lv_at hl 0 rfl) ?_
  refine va_get (D := D) (ci := 12) (v := .int (σ 28 15)) (C := RX12) (T := TX12) (N := 34) hx hb hts iwX12 hown hK hP 28 (mg_2 rfl) rfl 15 (by decide) (hts _ mw_973) (fun _ h9 => h9) rfl dX12_marks_1 ?_
  refine lv_bipush (v := 8) hx hb dX12_marks_4 (by decide) ?_
  refine lv_icmp_ne (tgt := 50) hx hb dX12_marks_6 (by decide) (fun hcq7 => ?_) (fun hcq7 => ?_)
  · have h := ifn hcq7 h
    exact J50 _ _ _ _ h hP hS (lv_sub hl [0] rfl)
  have h := ifp hcq7 h
  refine lv_bipush (v := 24) hx hb dX12_marks_9 (by decide) ?_
  refine lv_istore_n (lv' := [(1, .int 24), (0, .ref (G.1 28))]) hx hb dX12_marks_11 rfl hl (by decide) rfl (fun ls hl => ?_)
  exact L12 FU 24 _ _ _ _ h hP hS (lv_sub hl [1, 0] rfl)
def fX12_becomes (p1 : Int32) (k2 : Nat) (p3 : Int32) (σ : QMem) : Option (Int32 × QMem) :=
  (fX12_marks σ).bind fun xq1 => ((fX12_copies k2 p3 13 (4 * p1) xq1).bind fun xq3 => ((fX12_norm p1 xq3).bind fun xq5 => (some (xq5.1, xq5.2))))
set_option maxHeartbeats 4000000 in
set_option maxRecDepth 100000 in
theorem kX12_becomes (l : Launch) (D : va_G) (G : xG) (σ : QMem) (p1 : Int32) (k2 : Nat) (hk2 : mk k2 = 0) (p3 : Int32) (res : Int32 × QMem) (h : fX12_becomes p1 k2 p3 σ = some res) : Met l yX12_becomes (.code yX12_becomes cX12_becomes 4 (some .int) :: lwW) (rmD 2) (mPc D G σ [.ref (G.1 28), .int p1, .ref (G.1 k2), .int p3]) (mQi D G res) 0 0 (mA G) := by
  refine Met.ofW (cc := cX12_becomes) (maxL := 4) (ret := (some .int)) (by decide) rfl ?_
  intro p e s m args below meth c s₁ B hml hv
  obtain ⟨rfl, h0⟩ := hv
  have hx := B.exec
  have hb := B.bytes
  have hr := B.returns
  have hts := fun (w : Cond) (hw : w ∈ lwW) => atoms_spec (ws := (.code yX12_becomes cX12_becomes 4 (some .int) :: lwW)) B.pre w (List.mem_cons_of_mem _ hw)
  have hown : s.vm.findClass RX12 = some m.cls := findClass_of_methodNamed B.named
  have hlocks := B.notSynchronized
  have hP := h0.1
  have hK := h0.2.1
  have hi := h0.2.2
  have hS : va_S (mA G) s.heap s.heap [] := va_S.rf
  have hl := lv_entry ([.ref (G.1 28), .int p1, .ref (G.1 k2), .int p3]) (n := 4) (Nat.le_of_ble_eq_true rfl)
  rw [lg_entry_eq]
  generalize (lg_sl ([.ref (G.1 28), .int p1, .ref (G.1 k2), .int p3]) ++ List.replicate (4 - (lg_sl ([.ref (G.1 28), .int p1, .ref (G.1 k2), .int p3])).length) Slot.unset).toArray = ls at hl ⊢
  have hl : lv_has ls 4 [(0, .ref (G.1 28)), (1, .int p1), (2, .ref (G.1 k2)), (3, .int p3)] := hl
  unfold fX12_becomes at h
  refine lv_aload_n hx hb dX12_becomes_0 rfl (lv_at hl 0 rfl) ?_
  obtain ⟨xq1, hfq2, h⟩ := obd h
  refine va_callv (va_runV (As := []) (rest := []) ⟨hx, hb, hml, hown, hts⟩ (kX12_marks l D G _ xq1 hfq2) (cwV 0 hts (lwW_gV mw_1125 mw_1127 ms_38 mw_14 mw_1128) rfl rfl rfl (by decide +kernel) ⟨Nat.le_of_ble_eq_true rfl, Nat.le_of_ble_eq_true rfl⟩) ⟨fun a U g mk q => ⟨q.1, mPre_call q.2⟩, va_recv hK hP rfl (mg_2 rfl), fun U hU hW => ⟨rfl, mPre_at h0 hS hP hU hW⟩⟩ rfl rfl hl.1 rfl (lv_room (Nat.le_of_ble_eq_true rfl)) dX12_becomes_1 ⟨Nat.zero_le _, Nat.zero_le _⟩) hS (fun q _ h => h) (fun q h => h) (fun u t H1 locs ht hvm hw hB hz1 hq1 hS => ?_)
  obtain rfl := hw.symm
  have hP := hB.1
  rw [ht] at hP
  refine W.widen (k := 0) (n := 0) (Nat.le_refl _) (Nat.le_refl _) ?_
  refine lv_aload_n hx hb dX12_becomes_4 rfl (lv_at hl 2 rfl) ?_
  refine lv_iload_n hx hb dX12_becomes_5 rfl (lv_at hl 3 rfl) ?_
  refine lv_aload_n hx hb dX12_becomes_6 rfl (lv_at hl 0 rfl) ?_
  refine va_get (D := D) (ci := 12) (v := .ref (G.1 13)) (C := RX12) (T := TX12) (N := 34) hx hb hts iwX12 hown hK hP 28 (mg_2 rfl) rfl 14 (by decide) (hts _ mw_972) (fun _ h9 => h9) rfl dX12_becomes_7 ?_
  refine lv_iconst (v := 4) hx hb dX12_becomes_10 (by decide) ?_
  refine lv_iload_n hx hb dX12_becomes_11 rfl (lv_at hl 1 rfl) ?_
  refine lv_imul hx hb dX12_becomes_12 ?_
  obtain ⟨xq3, hfq4, h⟩ := obd h
  refine va_callv (va_runS (As := [.ref (G.1 k2), .int p3, .ref (G.1 13), .int (4 * p1)]) (rest := []) ⟨hx, hb, hml, hown, hts⟩ (kX12_copies l D G _ k2 hk2 p3 13 rfl (4 * p1) xq3 hfq4) (va_cwS 4 hts (lwW_gS mw_955 mw_956 mw_14 mw_957) rfl rfl rfl (by decide +kernel) ⟨Nat.le_of_ble_eq_true rfl, Nat.le_of_ble_eq_true rfl⟩) ⟨fun a U g mk q => ⟨q.1, mPre_call q.2⟩, fun U hU hW => ⟨rfl, mPre_at h0 hS hP hU hW⟩⟩ rfl rfl hl.1 rfl (lv_room (Nat.le_of_ble_eq_true rfl)) dX12_becomes_13 ⟨Nat.zero_le _, Nat.zero_le _⟩) hS (fun q _ h => h) (fun q h => h) (fun u t H1 locs ht hvm hw hB hz1 hq1 hS => ?_)
  obtain rfl := hw.symm
  have hP := hB.1
  rw [ht] at hP
  refine W.widen (k := 0) (n := 0) (Nat.le_refl _) (Nat.le_refl _) ?_
  refine lv_aload_n hx hb dX12_becomes_16 rfl (lv_at hl 0 rfl) ?_
  refine lv_iload_n hx hb dX12_becomes_17 rfl (lv_at hl 1 rfl) ?_
  obtain ⟨xq5, hfq6, h⟩ := obd h
  refine va_calli (va_runV (As := [.int p1]) (rest := []) ⟨hx, hb, hml, hown, hts⟩ (kX12_norm l D G _ p1 xq5 hfq6) (cwV 1 hts (lwW_gV mw_1083 mw_1085 ms_31 mw_14 mw_1086) rfl rfl rfl (by decide +kernel) ⟨Nat.le_of_ble_eq_true rfl, Nat.le_of_ble_eq_true rfl⟩) ⟨fun a U g mk q => ⟨q.1, mPre_call q.2⟩, va_recv hK hP rfl (mg_2 rfl), fun U hU hW => ⟨rfl, mPre_at h0 hS hP hU hW⟩⟩ rfl rfl hl.1 rfl (lv_room (Nat.le_of_ble_eq_true rfl)) dX12_becomes_18 ⟨Nat.zero_le _, Nat.zero_le _⟩) hS (fun q _ h => h) (fun q h => h) (fun r u t H1 locs ht hvm hw hB hz1 hq1 hS => ?_)
  obtain ⟨rfl, rfl⟩ := hw
  have hP := hB.1
  rw [ht] at hP
  refine W.widen (k := 0) (n := 0) (Nat.le_refl _) (Nat.le_refl _) ?_
  obtain rfl := Option.some.inj h
  exact W.iret (v := xq5.1) hx hb hr (fun t ht hW => ⟨⟨_, _, rfl, ⟨rfl, rfl⟩, mPre_at h0 hS hP ht hW⟩, hS.F ht⟩) hS.2.2 dX12_becomes_21
def fX12_number (p1 : Int32) (p2 : Int32) (σ : QMem) : Option (Int32 × QMem) :=
  (fX12_isSlot p1).bind fun xq1 => (if xq1 = 0 then (some ((-1001), σ)) else ((fX12_in p2 0 3).bind fun xq4 => (if xq4 = 0 then (some ((-1002), σ)) else (if ((4 * p1) + p2 < 0 ∨ ml 13 ≤ ((4 * p1) + p2).toNatClampNeg) then none else (some (σ 13 ((4 * p1) + p2).toNatClampNeg, σ))))))
set_option maxHeartbeats 4000000 in
set_option maxRecDepth 100000 in
theorem kX12_number (l : Launch) (D : va_G) (G : xG) (σ : QMem) (p1 : Int32) (p2 : Int32) (res : Int32 × QMem) (h : fX12_number p1 p2 σ = some res) : Met l yX12_number (.code yX12_number cX12_number 3 (some .int) :: lwW) (rmD 2) (mPc D G σ [.ref (G.1 28), .int p1, .int p2]) (mQi D G res) 0 0 (mA G) := by
  refine Met.ofW (cc := cX12_number) (maxL := 3) (ret := (some .int)) (by decide) rfl ?_
  intro p e s m args below meth c s₁ B hml hv
  obtain ⟨rfl, h0⟩ := hv
  have hx := B.exec
  have hb := B.bytes
  have hr := B.returns
  have hts := fun (w : Cond) (hw : w ∈ lwW) => atoms_spec (ws := (.code yX12_number cX12_number 3 (some .int) :: lwW)) B.pre w (List.mem_cons_of_mem _ hw)
  have hown : s.vm.findClass RX12 = some m.cls := findClass_of_methodNamed B.named
  have hlocks := B.notSynchronized
  have hP := h0.1
  have hK := h0.2.1
  have hi := h0.2.2
  have hS : va_S (mA G) s.heap s.heap [] := va_S.rf
  have hl := lv_entry ([.ref (G.1 28), .int p1, .int p2]) (n := 3) (Nat.le_of_ble_eq_true rfl)
  rw [lg_entry_eq]
  generalize (lg_sl ([.ref (G.1 28), .int p1, .int p2]) ++ List.replicate (3 - (lg_sl ([.ref (G.1 28), .int p1, .int p2])).length) Slot.unset).toArray = ls at hl ⊢
  have hl : lv_has ls 3 [(0, .ref (G.1 28)), (1, .int p1), (2, .int p2)] := hl
  unfold fX12_number at h
  refine lv_iload_n hx hb dX12_number_0 rfl (lv_at hl 1 rfl) ?_
  obtain ⟨xq1, hfq2, h⟩ := obd h
  refine va_calli (va_runS (As := [.int p1]) (rest := []) ⟨hx, hb, hml, hown, hts⟩ (kX12_isSlot l p1 xq1 hfq2) (va_cwS 1 hts (lwW_gS mw_1066 mw_1067 mw_14 mw_1068) rfl rfl rfl (by decide +kernel) ⟨Nat.le_of_ble_eq_true rfl, Nat.le_of_ble_eq_true rfl⟩) ⟨fun a U g mk q => ⟨q.1, trivial⟩, fun U hU hW => ⟨rfl, trivial⟩⟩ rfl rfl hl.1 rfl (lv_room (Nat.le_of_ble_eq_true rfl)) dX12_number_1 ⟨Nat.zero_le _, Nat.zero_le _⟩) hS (fun q _ h => h.elim) (fun q h => h.elim) (fun r u t H1 locs ht hvm hw hB hz1 hq1 hS => ?_)
  obtain rfl := hw.symm
  have hP := mP_kept hP hq1
  refine W.widen (k := 0) (n := 0) (Nat.le_refl _) (Nat.le_refl _) ?_
  refine lv_if_ne (tgt := 11) hx hb dX12_number_4 (by decide) (fun hcq3 => ?_) (fun hcq3 => ?_)
  · have h := ifn hcq3 h
    refine lv_iload_n hx hb dX12_number_11 rfl (lv_at hl 2 rfl) ?_
    refine lv_iconst (v := 0) hx hb dX12_number_12 (by decide) ?_
    refine lv_iconst (v := 3) hx hb dX12_number_13 (by decide) ?_
    obtain ⟨xq4, hfq5, h⟩ := obd h
    refine va_calli (va_runS (As := [.int p2, .int 0, .int 3]) (rest := []) ⟨hx, hb, hml, hown, hts⟩ (kX12_in l p2 0 3 xq4 hfq5) (va_cwS 3 hts (lwW_gS mw_1069 mw_1070 mw_14 mw_1071) rfl rfl rfl (by decide +kernel) ⟨Nat.le_of_ble_eq_true rfl, Nat.le_of_ble_eq_true rfl⟩) ⟨fun a U g mk q => ⟨q.1, trivial⟩, fun U hU hW => ⟨rfl, trivial⟩⟩ rfl rfl hl.1 rfl (lv_room (Nat.le_of_ble_eq_true rfl)) dX12_number_14 ⟨Nat.zero_le _, Nat.zero_le _⟩) hS (fun q _ h => h.elim) (fun q h => h.elim) (fun r u t H1 locs ht hvm hw hB hz1 hq1 hS => ?_)
    obtain rfl := hw.symm
    have hP := mP_kept hP hq1
    refine W.widen (k := 0) (n := 0) (Nat.le_refl _) (Nat.le_refl _) ?_
    refine lv_if_eq (tgt := 33) hx hb dX12_number_17 (by decide) (fun hcq6 => ?_) (fun hcq6 => ?_)
    · have h := ifp hcq6 h
      refine lv_sipush (v := (-1002)) hx hb dX12_number_33 (by decide) ?_
      obtain rfl := Option.some.inj h
      exact W.iret (v := (-1002)) hx hb hr (fun t ht hW => ⟨⟨_, _, rfl, ⟨rfl, rfl⟩, mPre_at h0 hS hP ht hW⟩, hS.F ht⟩) hS.2.2 dX12_number_36
    have h := ifn hcq6 h
    refine lv_aload_n hx hb dX12_number_20 rfl (lv_at hl 0 rfl) ?_
    refine va_get (D := D) (ci := 12) (v := .ref (G.1 13)) (C := RX12) (T := TX12) (N := 34) hx hb hts iwX12 hown hK hP 28 (mg_2 rfl) rfl 14 (by decide) (hts _ mw_972) (fun _ h9 => h9) rfl dX12_number_21 ?_
    refine lv_iconst (v := 4) hx hb dX12_number_24 (by decide) ?_
    refine lv_iload_n hx hb dX12_number_25 rfl (lv_at hl 1 rfl) ?_
    refine lv_imul hx hb dX12_number_26 ?_
    refine lv_iload_n hx hb dX12_number_27 rfl (lv_at hl 2 rfl) ?_
    refine lv_iadd hx hb dX12_number_28 ?_
    obtain ⟨hiq7, h⟩ := nif h
    refine va_iald hx hb hK hP 13 0 (mg_0 rfl) rfl hiq7 dX12_number_29 ?_
    refine lv_goto (tgt := 36) hx hb dX12_number_30 (by decide) ?_
    obtain rfl := Option.some.inj h
    exact W.iret (v := σ 13 ((4 * p1) + p2).toNatClampNeg) hx hb hr (fun t ht hW => ⟨⟨_, _, rfl, ⟨rfl, rfl⟩, mPre_at h0 hS hP ht hW⟩, hS.F ht⟩) hS.2.2 dX12_number_36
  have h := ifp hcq3 h
  refine lv_sipush (v := (-1001)) hx hb dX12_number_7 (by decide) ?_
  obtain rfl := Option.some.inj h
  exact W.iret (v := (-1001)) hx hb hr (fun t ht hW => ⟨⟨_, _, rfl, ⟨rfl, rfl⟩, mPre_at h0 hS hP ht hW⟩, hS.F ht⟩) hS.2.2 dX12_number_10
def fX12_unitOf_J50 (p1 : Int32) (K2 : Int32 → QMem → Option (Int32 × QMem)) (v2 : Int32) (τ : QMem) : Option (Int32 × QMem) :=
  K2 (v2 + 1) τ
def fX12_unitOf_L2 (p1 : Int32) : Nat → Int32 → QMem → Option (Int32 × QMem)
  | 0, _, _ => none
  | n + 1, v2, τ =>
  if 24 ≤ v2 then (some ((-1), τ)) else ((fX12_isGreater 1 (4 * v2) 13 (4 * p1) τ).bind fun xq2 => (if xq2.1 = 0 then ((fX12_isGreater 13 (4 * p1) 1 (4 * v2) xq2.2).bind fun xq5 => (if xq5.1 = 0 then (some (v2, xq5.2)) else (fX12_unitOf_J50 p1 (fX12_unitOf_L2 p1 n) v2 xq5.2))) else (fX12_unitOf_J50 p1 (fX12_unitOf_L2 p1 n) v2 xq2.2)))
def fX12_unitOf (p1 : Int32) (σ : QMem) : Option (Int32 × QMem) :=
  fX12_unitOf_L2 p1 FU 0 σ
set_option maxHeartbeats 4000000 in
set_option maxRecDepth 100000 in
theorem kX12_unitOf (l : Launch) (D : va_G) (G : xG) (σ : QMem) (p1 : Int32) (res : Int32 × QMem) (h : fX12_unitOf p1 σ = some res) : Met l yX12_unitOf (.code yX12_unitOf cX12_unitOf 3 (some .int) :: lwW) (rmD 1) (mPc D G σ [.ref (G.1 28), .int p1]) (mQi D G res) 0 0 (mA G) := by
  refine Met.ofW (cc := cX12_unitOf) (maxL := 3) (ret := (some .int)) (by decide) rfl ?_
  intro p e s m args below meth c s₁ B hml hv
  obtain ⟨rfl, h0⟩ := hv
  have hx := B.exec
  have hb := B.bytes
  have hr := B.returns
  have hts := fun (w : Cond) (hw : w ∈ lwW) => atoms_spec (ws := (.code yX12_unitOf cX12_unitOf 3 (some .int) :: lwW)) B.pre w (List.mem_cons_of_mem _ hw)
  have hown : s.vm.findClass RX12 = some m.cls := findClass_of_methodNamed B.named
  have hlocks := B.notSynchronized
  have hP := h0.1
  have hK := h0.2.1
  have hi := h0.2.2
  have hS : va_S (mA G) s.heap s.heap [] := va_S.rf
  have hl := lv_entry ([.ref (G.1 28), .int p1]) (n := 3) (Nat.le_of_ble_eq_true rfl)
  rw [lg_entry_eq]
  generalize (lg_sl ([.ref (G.1 28), .int p1]) ++ List.replicate (3 - (lg_sl ([.ref (G.1 28), .int p1])).length) Slot.unset).toArray = ls at hl ⊢
  have hl : lv_has ls 3 [(0, .ref (G.1 28)), (1, .int p1)] := hl
  unfold fX12_unitOf at h
  have L2 : ∀ (n2 : Nat) (v2 : Int32) (τ : QMem) (H : Heap) (locs : List Loc) (ls : Array Slot), fX12_unitOf_L2 p1 n2 v2 τ = some res → va_P D vwCl (mW G τ) H → va_S (mA G) s.heap H locs → lv_has ls 3 [(0, .ref (G.1 28)), (1, .int p1), (2, .int v2)] → W p l e (headSpec (.code yX12_unitOf cX12_unitOf 3 (some .int) :: lwW) (rmD 1)).room s m ([.ref (G.1 28), .int p1] : List Value).toArray below meth c H locs 0 0 (MQ below (mQi D G res) ([.ref (G.1 28), .int p1] : List Value).toArray s 0 0 (mA G)) (F0 m 2 ls []) := by
    intro n2
    induction n2 with
    | zero => intro v2 τ H locs ls h; rw [fX12_unitOf_L2] at h; cases h
    | succ n2 ih2 =>
      intro v2 τ H locs ls h hP hS hl
      rw [fX12_unitOf_L2] at h
      have J50 : ∀ (v2 : Int32) (τ : QMem) (H : Heap) (locs : List Loc) (ls : Array Slot), fX12_unitOf_J50 p1 (fX12_unitOf_L2 p1 n2) v2 τ = some res → va_P D vwCl (mW G τ) H → va_S (mA G) s.heap H locs → lv_has ls 3 [(0, .ref (G.1 28)), (1, .int p1), (2, .int v2)] → W p l e (headSpec (.code yX12_unitOf cX12_unitOf 3 (some .int) :: lwW) (rmD 1)).room s m ([.ref (G.1 28), .int p1] : List Value).toArray below meth c H locs 0 0 (MQ below (mQi D G res) ([.ref (G.1 28), .int p1] : List Value).toArray s 0 0 (mA G)) (F0 m 50 ls []) := by
        intro v2 τ H locs ls h hP hS hl
        unfold fX12_unitOf_J50 at h
        refine lv_iinc (v := v2 + 1) (lv' := [(2, .int (v2 + 1)), (0, .ref (G.1 28)), (1, .int p1)]) hx hb dX12_unitOf_50 hl (k := 2) rfl rfl (by decide) rfl (fun ls hl => ?_)
        refine lv_goto (tgt := 2) hx hb dX12_unitOf_53 (by decide) ?_
        exact ih2 (v2 + 1) _ _ _ _ h hP hS (lv_sub hl [1, 2, 0] rfl)
      refine lv_iload_n hx hb dX12_unitOf_2 rfl (lv_at hl 2 rfl) ?_
      refine lv_bipush (v := 24) hx hb dX12_unitOf_3 (by decide) ?_
      refine lv_icmp_ge (tgt := 56) hx hb dX12_unitOf_5 (by decide) (fun hcq1 => ?_) (fun hcq1 => ?_)
      · have h := ifp hcq1 h
        refine lv_iconst (v := (-1)) hx hb dX12_unitOf_56 (by decide) ?_
        obtain rfl := Option.some.inj h
        exact W.iret (v := (-1)) hx hb hr (fun t ht hW => ⟨⟨_, _, rfl, ⟨rfl, rfl⟩, mPre_at h0 hS hP ht hW⟩, hS.F ht⟩) hS.2.2 dX12_unitOf_57
      have h := ifn hcq1 h
      refine lv_aload_n hx hb dX12_unitOf_8 rfl (lv_at hl 0 rfl) ?_
      refine va_get (D := D) (ci := 12) (v := .ref (G.1 1)) (C := RX12) (T := TX12) (N := 34) hx hb hts iwX12 hown hK hP 28 (mg_2 rfl) rfl 1 (by decide) (hts _ mw_959) (fun _ h9 => h9) rfl dX12_unitOf_9 ?_
      refine lv_iconst (v := 4) hx hb dX12_unitOf_12 (by decide) ?_
      refine lv_iload_n hx hb dX12_unitOf_13 rfl (lv_at hl 2 rfl) ?_
      refine lv_imul hx hb dX12_unitOf_14 ?_
      refine lv_aload_n hx hb dX12_unitOf_15 rfl (lv_at hl 0 rfl) ?_
      refine va_get (D := D) (ci := 12) (v := .ref (G.1 13)) (C := RX12) (T := TX12) (N := 34) hx hb hts iwX12 hown hK hP 28 (mg_2 rfl) rfl 14 (by decide) (hts _ mw_972) (fun _ h9 => h9) rfl dX12_unitOf_16 ?_
      refine lv_iconst (v := 4) hx hb dX12_unitOf_19 (by decide) ?_
      refine lv_iload_n hx hb dX12_unitOf_20 rfl (lv_at hl 1 rfl) ?_
      refine lv_imul hx hb dX12_unitOf_21 ?_
      obtain ⟨xq2, hfq3, h⟩ := obd h
      refine va_calli (va_runS (As := [.ref (G.1 1), .int (4 * v2), .ref (G.1 13), .int (4 * p1)]) (rest := []) ⟨hx, hb, hml, hown, hts⟩ (kX12_isGreater l D G _ 1 rfl (4 * v2) 13 rfl (4 * p1) xq2 hfq3) (va_cwS 4 hts (lwW_gS mw_952 mw_953 mw_14 mw_954) rfl rfl rfl (by decide +kernel) ⟨Nat.le_of_ble_eq_true rfl, Nat.le_of_ble_eq_true rfl⟩) ⟨fun a U g mk q => ⟨q.1, mPre_call q.2⟩, fun U hU hW => ⟨rfl, mPre_at h0 hS hP hU hW⟩⟩ rfl rfl hl.1 rfl (lv_room (Nat.le_of_ble_eq_true rfl)) dX12_unitOf_22 ⟨Nat.zero_le _, Nat.zero_le _⟩) hS (fun q _ h => h) (fun q h => h) (fun r u t H1 locs ht hvm hw hB hz1 hq1 hS => ?_)
      obtain ⟨rfl, rfl⟩ := hw
      have hP := hB.1
      rw [ht] at hP
      refine W.widen (k := 0) (n := 0) (Nat.le_refl _) (Nat.le_refl _) ?_
      refine lv_if_ne (tgt := 50) hx hb dX12_unitOf_25 (by decide) (fun hcq4 => ?_) (fun hcq4 => ?_)
      · have h := ifn hcq4 h
        exact J50 v2 _ _ _ _ h hP hS (lv_sub hl [0, 1, 2] rfl)
      have h := ifp hcq4 h
      refine lv_aload_n hx hb dX12_unitOf_28 rfl (lv_at hl 0 rfl) ?_
      refine va_get (D := D) (ci := 12) (v := .ref (G.1 13)) (C := RX12) (T := TX12) (N := 34) hx hb hts iwX12 hown hK hP 28 (mg_2 rfl) rfl 14 (by decide) (hts _ mw_972) (fun _ h9 => h9) rfl dX12_unitOf_29 ?_
      refine lv_iconst (v := 4) hx hb dX12_unitOf_32 (by decide) ?_
      refine lv_iload_n hx hb dX12_unitOf_33 rfl (lv_at hl 1 rfl) ?_
      refine lv_imul hx hb dX12_unitOf_34 ?_
      refine lv_aload_n hx hb dX12_unitOf_35 rfl (lv_at hl 0 rfl) ?_
      refine va_get (D := D) (ci := 12) (v := .ref (G.1 1)) (C := RX12) (T := TX12) (N := 34) hx hb hts iwX12 hown hK hP 28 (mg_2 rfl) rfl 1 (by decide) (hts _ mw_959) (fun _ h9 => h9) rfl dX12_unitOf_36 ?_
      refine lv_iconst (v := 4) hx hb dX12_unitOf_39 (by decide) ?_
      refine lv_iload_n hx hb dX12_unitOf_40 rfl (lv_at hl 2 rfl) ?_
      refine lv_imul hx hb dX12_unitOf_41 ?_
      obtain ⟨xq5, hfq6, h⟩ := obd h
      refine va_calli (va_runS (As := [.ref (G.1 13), .int (4 * p1), .ref (G.1 1), .int (4 * v2)]) (rest := []) ⟨hx, hb, hml, hown, hts⟩ (kX12_isGreater l D G _ 13 rfl (4 * p1) 1 rfl (4 * v2) xq5 hfq6) (va_cwS 4 hts (lwW_gS mw_952 mw_953 mw_14 mw_954) rfl rfl rfl (by decide +kernel) ⟨Nat.le_of_ble_eq_true rfl, Nat.le_of_ble_eq_true rfl⟩) ⟨fun a U g mk q => ⟨q.1, mPre_call q.2⟩, fun U hU hW => ⟨rfl, mPre_at h0 hS hP hU hW⟩⟩ rfl rfl hl.1 rfl (lv_room (Nat.le_of_ble_eq_true rfl)) dX12_unitOf_42 ⟨Nat.zero_le _, Nat.zero_le _⟩) hS (fun q _ h => h) (fun q h => h) (fun r u t H1 locs ht hvm hw hB hz1 hq1 hS => ?_)
      obtain ⟨rfl, rfl⟩ := hw
      have hP := hB.1
      rw [ht] at hP
      refine W.widen (k := 0) (n := 0) (Nat.le_refl _) (Nat.le_refl _) ?_
      refine lv_if_ne (tgt := 50) hx hb dX12_unitOf_45 (by decide) (fun hcq7 => ?_) (fun hcq7 => ?_)
      · have h := ifn hcq7 h
        exact J50 v2 _ _ _ _ h hP hS (lv_sub hl [0, 1, 2] rfl)
      have h := ifp hcq7 h
      refine lv_iload_n hx hb dX12_unitOf_48 rfl (lv_at hl 2 rfl) ?_
      obtain rfl := Option.some.inj h
      exact W.iret (v := v2) hx hb hr (fun t ht hW => ⟨⟨_, _, rfl, ⟨rfl, rfl⟩, mPre_at h0 hS hP ht hW⟩, hS.F ht⟩) hS.2.2 dX12_unitOf_49
  refine lv_iconst (v := 0) hx hb dX12_unitOf_0 (by decide) ?_
  refine lv_istore_n (lv' := [(2, .int 0), (0, .ref (G.1 28)), (1, .int p1)]) hx hb dX12_unitOf_1 rfl hl (by decide) rfl (fun ls hl => ?_)
  exact L2 FU 0 _ _ _ _ h hP hS (lv_sub hl [1, 2, 0] rfl)
def fX12_content_J119 (p1 : Int32) (K4 : Int32 → Int32 → QMem → Option (Int32 × QMem)) (v3 : Int32) (s0 : Int32) (τ : QMem) : Option (Int32 × QMem) :=
  K4 s0 (v3 + 1) τ
def fX12_content_J118 (p1 : Int32) (K4 : Int32 → Int32 → QMem → Option (Int32 × QMem)) (v2 : Int32) (v3 : Int32) (τ : QMem) : Option (Int32 × QMem) :=
  fX12_content_J119 p1 K4 v3 v2 τ
def fX12_content_J48 (p1 : Int32) (K4 : Int32 → Int32 → QMem → Option (Int32 × QMem)) (K16 : Int32 → Int32 → Int32 → Int32 → QMem → Option (Int32 × QMem)) (v2 : Int32) (v3 : Int32) (v5 : Int32) (s0 : Int32) (τ : QMem) : Option (Int32 × QMem) :=
  K16 v2 v3 s0 (v5 + 1) τ
def fX12_content_J47 (p1 : Int32) (K4 : Int32 → Int32 → QMem → Option (Int32 × QMem)) (K16 : Int32 → Int32 → Int32 → Int32 → QMem → Option (Int32 × QMem)) (v2 : Int32) (v3 : Int32) (v5 : Int32) (τ : QMem) : Option (Int32 × QMem) :=
  fX12_content_J48 p1 K4 K16 v2 v3 v5 0 τ
def fX12_content_L16 (p1 : Int32) (K4 : Int32 → Int32 → QMem → Option (Int32 × QMem)) : Nat → Int32 → Int32 → Int32 → Int32 → QMem → Option (Int32 × QMem)
  | 0, _, _, _, _, _ => none
  | n + 1, v2, v3, v4, v5, τ =>
  if 4 ≤ v5 then (if v4 = 0 then (fX12_content_J118 p1 K4 v2 v3 τ) else (if (4 * p1 < 0 ∨ ml 13 ≤ (4 * p1).toNatClampNeg) then none else (if v3 = 0 then none else (if ((4 * p1) + 1 < 0 ∨ ml 13 ≤ ((4 * p1) + 1).toNatClampNeg) then none else (if v3 = 0 then none else (if ((4 * p1) + 2 < 0 ∨ ml 13 ≤ ((4 * p1) + 2).toNatClampNeg) then none else (if v3 = 0 then none else (if ((4 * p1) + 3 < 0 ∨ ml 13 ≤ ((4 * p1) + 3).toNatClampNeg) then none else (if v3 = 0 then none else ((fX12_areLike ((τ 13 (4 * p1).toNatClampNeg) / v3) ((τ 13 ((4 * p1) + 1).toNatClampNeg) / v3) ((τ 13 ((4 * p1) + 2).toNatClampNeg) / v3) ((τ 13 ((4 * p1) + 3).toNatClampNeg) / v3)).bind fun xq11 => (if xq11 = 0 then (fX12_content_J118 p1 K4 v2 v3 τ) else (fX12_content_J119 p1 K4 v3 v3 τ)))))))))))) else (if v4 = 0 then (fX12_content_J47 p1 K4 (fX12_content_L16 p1 K4 n) v2 v3 v5 τ) else (if ((4 * p1) + v5 < 0 ∨ ml 13 ≤ ((4 * p1) + v5).toNatClampNeg) then none else (if v3 = 0 then none else (if ((τ 13 ((4 * p1) + v5).toNatClampNeg) - (τ 13 ((4 * p1) + v5).toNatClampNeg) / v3 * v3) = 0 then (fX12_content_J48 p1 K4 (fX12_content_L16 p1 K4 n) v2 v3 v5 1 τ) else (fX12_content_J47 p1 K4 (fX12_content_L16 p1 K4 n) v2 v3 v5 τ)))))
def fX12_content_L4 (p1 : Int32) : Nat → Int32 → Int32 → QMem → Option (Int32 × QMem)
  | 0, _, _, _ => none
  | n + 1, v2, v3, τ =>
  if 24 < v3 then (some (v2, τ)) else (fX12_content_L16 p1 (fX12_content_L4 p1 n) FU v2 v3 1 0 τ)
def fX12_content (p1 : Int32) (σ : QMem) : Option (Int32 × QMem) :=
  fX12_content_L4 p1 FU 1 2 σ
set_option maxHeartbeats 4000000 in
set_option maxRecDepth 100000 in
theorem kX12_content (l : Launch) (D : va_G) (G : xG) (σ : QMem) (p1 : Int32) (res : Int32 × QMem) (h : fX12_content p1 σ = some res) : Met l yX12_content (.code yX12_content cX12_content 6 (some .int) :: lwW) (rmD 1) (mPc D G σ [.ref (G.1 28), .int p1]) (mQi D G res) 0 0 (mA G) := by
  refine Met.ofW (cc := cX12_content) (maxL := 6) (ret := (some .int)) (by decide) rfl ?_
  intro p e s m args below meth c s₁ B hml hv
  obtain ⟨rfl, h0⟩ := hv
  have hx := B.exec
  have hb := B.bytes
  have hr := B.returns
  have hts := fun (w : Cond) (hw : w ∈ lwW) => atoms_spec (ws := (.code yX12_content cX12_content 6 (some .int) :: lwW)) B.pre w (List.mem_cons_of_mem _ hw)
  have hown : s.vm.findClass RX12 = some m.cls := findClass_of_methodNamed B.named
  have hlocks := B.notSynchronized
  have hP := h0.1
  have hK := h0.2.1
  have hi := h0.2.2
  have hS : va_S (mA G) s.heap s.heap [] := va_S.rf
  have hl := lv_entry ([.ref (G.1 28), .int p1]) (n := 6) (Nat.le_of_ble_eq_true rfl)
  rw [lg_entry_eq]
  generalize (lg_sl ([.ref (G.1 28), .int p1]) ++ List.replicate (6 - (lg_sl ([.ref (G.1 28), .int p1])).length) Slot.unset).toArray = ls at hl ⊢
  have hl : lv_has ls 6 [(0, .ref (G.1 28)), (1, .int p1)] := hl
  unfold fX12_content at h
  have L4 : ∀ (n4 : Nat) (v2 : Int32) (v3 : Int32) (τ : QMem) (H : Heap) (locs : List Loc) (ls : Array Slot), fX12_content_L4 p1 n4 v2 v3 τ = some res → va_P D vwCl (mW G τ) H → va_S (mA G) s.heap H locs → lv_has ls 6 [(0, .ref (G.1 28)), (1, .int p1), (2, .int v2), (3, .int v3)] → W p l e (headSpec (.code yX12_content cX12_content 6 (some .int) :: lwW) (rmD 1)).room s m ([.ref (G.1 28), .int p1] : List Value).toArray below meth c H locs 0 0 (MQ below (mQi D G res) ([.ref (G.1 28), .int p1] : List Value).toArray s 0 0 (mA G)) (F0 m 4 ls []) := by
    intro n4
    induction n4 with
    | zero => intro v2 v3 τ H locs ls h; rw [fX12_content_L4] at h; cases h
    | succ n4 ih4 =>
      intro v2 v3 τ H locs ls h hP hS hl
      rw [fX12_content_L4] at h
      have J119 : ∀ (v3 : Int32) (s0 : Int32) (τ : QMem) (H : Heap) (locs : List Loc) (ls : Array Slot), fX12_content_J119 p1 (fX12_content_L4 p1 n4) v3 s0 τ = some res → va_P D vwCl (mW G τ) H → va_S (mA G) s.heap H locs → lv_has ls 6 [(0, .ref (G.1 28)), (1, .int p1), (3, .int v3)] → W p l e (headSpec (.code yX12_content cX12_content 6 (some .int) :: lwW) (rmD 1)).room s m ([.ref (G.1 28), .int p1] : List Value).toArray below meth c H locs 0 0 (MQ below (mQi D G res) ([.ref (G.1 28), .int p1] : List Value).toArray s 0 0 (mA G)) (F0 m 119 ls [.int s0]) := by
        intro v3 s0 τ H locs ls h hP hS hl
        unfold fX12_content_J119 at h
        refine lv_istore_n (lv' := [(2, .int s0), (0, .ref (G.1 28)), (1, .int p1), (3, .int v3)]) hx hb dX12_content_119 rfl hl (by decide) rfl (fun ls hl => ?_)
        refine lv_iinc (v := v3 + 1) (lv' := [(3, .int (v3 + 1)), (2, .int s0), (0, .ref (G.1 28)), (1, .int p1)]) hx hb dX12_content_120 hl (k := 3) rfl rfl (by decide) rfl (fun ls hl => ?_)
        refine lv_goto (tgt := 4) hx hb dX12_content_123 (by decide) ?_
        exact ih4 s0 (v3 + 1) _ _ _ _ h hP hS (lv_sub hl [2, 3, 1, 0] rfl)
      have J118 : ∀ (v2 : Int32) (v3 : Int32) (τ : QMem) (H : Heap) (locs : List Loc) (ls : Array Slot), fX12_content_J118 p1 (fX12_content_L4 p1 n4) v2 v3 τ = some res → va_P D vwCl (mW G τ) H → va_S (mA G) s.heap H locs → lv_has ls 6 [(0, .ref (G.1 28)), (1, .int p1), (2, .int v2), (3, .int v3)] → W p l e (headSpec (.code yX12_content cX12_content 6 (some .int) :: lwW) (rmD 1)).room s m ([.ref (G.1 28), .int p1] : List Value).toArray below meth c H locs 0 0 (MQ below (mQi D G res) ([.ref (G.1 28), .int p1] : List Value).toArray s 0 0 (mA G)) (F0 m 118 ls []) := by
        intro v2 v3 τ H locs ls h hP hS hl
        unfold fX12_content_J118 at h
        refine lv_iload_n hx hb dX12_content_118 rfl (lv_at hl 2 rfl) ?_
        exact J119 v3 v2 _ _ _ _ h hP hS (lv_sub hl [0, 1, 3] rfl)
      have L16 : ∀ (n16 : Nat) (v2 : Int32) (v3 : Int32) (v4 : Int32) (v5 : Int32) (τ : QMem) (H : Heap) (locs : List Loc) (ls : Array Slot), fX12_content_L16 p1 (fX12_content_L4 p1 n4) n16 v2 v3 v4 v5 τ = some res → va_P D vwCl (mW G τ) H → va_S (mA G) s.heap H locs → lv_has ls 6 [(0, .ref (G.1 28)), (1, .int p1), (2, .int v2), (3, .int v3), (4, .int v4), (5, .int v5)] → W p l e (headSpec (.code yX12_content cX12_content 6 (some .int) :: lwW) (rmD 1)).room s m ([.ref (G.1 28), .int p1] : List Value).toArray below meth c H locs 0 0 (MQ below (mQi D G res) ([.ref (G.1 28), .int p1] : List Value).toArray s 0 0 (mA G)) (F0 m 16 ls []) := by
        intro n16
        induction n16 with
        | zero => intro v2 v3 v4 v5 τ H locs ls h; rw [fX12_content_L16] at h; cases h
        | succ n16 ih16 =>
          intro v2 v3 v4 v5 τ H locs ls h hP hS hl
          rw [fX12_content_L16] at h
          have J48 : ∀ (v2 : Int32) (v3 : Int32) (v5 : Int32) (s0 : Int32) (τ : QMem) (H : Heap) (locs : List Loc) (ls : Array Slot), fX12_content_J48 p1 (fX12_content_L4 p1 n4) (fX12_content_L16 p1 (fX12_content_L4 p1 n4) n16) v2 v3 v5 s0 τ = some res → va_P D vwCl (mW G τ) H → va_S (mA G) s.heap H locs → lv_has ls 6 [(0, .ref (G.1 28)), (1, .int p1), (2, .int v2), (3, .int v3), (5, .int v5)] → W p l e (headSpec (.code yX12_content cX12_content 6 (some .int) :: lwW) (rmD 1)).room s m ([.ref (G.1 28), .int p1] : List Value).toArray below meth c H locs 0 0 (MQ below (mQi D G res) ([.ref (G.1 28), .int p1] : List Value).toArray s 0 0 (mA G)) (F0 m 48 ls [.int s0]) := by
            intro v2 v3 v5 s0 τ H locs ls h hP hS hl
            unfold fX12_content_J48 at h
            refine lv_istore (lv' := [(4, .int s0), (0, .ref (G.1 28)), (1, .int p1), (2, .int v2), (3, .int v3), (5, .int v5)]) hx hb dX12_content_48 hl (by decide) rfl (fun ls hl => ?_)
            refine lv_iinc (v := v5 + 1) (lv' := [(5, .int (v5 + 1)), (4, .int s0), (0, .ref (G.1 28)), (1, .int p1), (2, .int v2), (3, .int v3)]) hx hb dX12_content_50 hl (k := 5) rfl rfl (by decide) rfl (fun ls hl => ?_)
            refine lv_goto (tgt := 16) hx hb dX12_content_53 (by decide) ?_
            exact ih16 v2 v3 s0 (v5 + 1) _ _ _ _ h hP hS (lv_sub hl [2, 3, 4, 5, 1, 0] rfl)
          have J47 : ∀ (v2 : Int32) (v3 : Int32) (v5 : Int32) (τ : QMem) (H : Heap) (locs : List Loc) (ls : Array Slot), fX12_content_J47 p1 (fX12_content_L4 p1 n4) (fX12_content_L16 p1 (fX12_content_L4 p1 n4) n16) v2 v3 v5 τ = some res → va_P D vwCl (mW G τ) H → va_S (mA G) s.heap H locs → lv_has ls 6 [(0, .ref (G.1 28)), (1, .int p1), (2, .int v2), (3, .int v3), (5, .int v5)] → W p l e (headSpec (.code yX12_content cX12_content 6 (some .int) :: lwW) (rmD 1)).room s m ([.ref (G.1 28), .int p1] : List Value).toArray below meth c H locs 0 0 (MQ below (mQi D G res) ([.ref (G.1 28), .int p1] : List Value).toArray s 0 0 (mA G)) (F0 m 47 ls []) := by
            intro v2 v3 v5 τ H locs ls h hP hS hl
            unfold fX12_content_J47 at h
            refine lv_iconst (v := 0) hx hb dX12_content_47 (by decide) ?_
            exact J48 v2 v3 v5 0 _ _ _ _ h hP hS (lv_sub hl [0, 1, 2, 3, 4] rfl)
          refine lv_iload hx hb dX12_content_16 (lv_at hl 5 rfl) ?_
          refine lv_iconst (v := 4) hx hb dX12_content_18 (by decide) ?_
          refine lv_icmp_ge (tgt := 56) hx hb dX12_content_19 (by decide) (fun hcq1 => ?_) (fun hcq1 => ?_)
          · have h := ifp hcq1 h
            refine lv_iconst (v := 4) hx hb dX12_content_56 (by decide) ?_
            refine lv_iload_n hx hb dX12_content_57 rfl (lv_at hl 1 rfl) ?_
            refine lv_imul hx hb dX12_content_58 ?_
            refine lv_istore (lv' := [(5, .int (4 * p1)), (0, .ref (G.1 28)), (1, .int p1), (2, .int v2), (3, .int v3), (4, .int v4)]) hx hb dX12_content_59 hl (by decide) rfl (fun ls hl => ?_)
            refine lv_iload hx hb dX12_content_61 (lv_at hl 5 rfl) ?_
            refine lv_if_eq (tgt := 118) hx hb dX12_content_63 (by decide) (fun hcq2 => ?_) (fun hcq2 => ?_)
            · have h := ifp hcq2 h
              exact J118 v2 v3 _ _ _ _ h hP hS (lv_sub hl [1, 2, 3, 4] rfl)
            have h := ifn hcq2 h
            refine lv_aload_n hx hb dX12_content_66 rfl (lv_at hl 1 rfl) ?_
            refine va_get (D := D) (ci := 12) (v := .ref (G.1 13)) (C := RX12) (T := TX12) (N := 34) hx hb hts iwX12 hown hK hP 28 (mg_2 rfl) rfl 14 (by decide) (hts _ mw_972) (fun _ h9 => h9) rfl dX12_content_67 ?_
            refine lv_iload hx hb dX12_content_70 (lv_at hl 0 rfl) ?_
            obtain ⟨hiq3, h⟩ := nif h
            refine va_iald hx hb hK hP 13 0 (mg_0 rfl) rfl hiq3 dX12_content_72 ?_
            refine lv_iload_n hx hb dX12_content_73 rfl (lv_at hl 4 rfl) ?_
            obtain ⟨hdq4, h⟩ := nif h
            refine lv_idiv hx hb dX12_content_74 hdq4 ?_
            refine lv_aload_n hx hb dX12_content_75 rfl (lv_at hl 1 rfl) ?_
            refine va_get (D := D) (ci := 12) (v := .ref (G.1 13)) (C := RX12) (T := TX12) (N := 34) hx hb hts iwX12 hown hK hP 28 (mg_2 rfl) rfl 14 (by decide) (hts _ mw_972) (fun _ h9 => h9) rfl dX12_content_76 ?_
            refine lv_iload hx hb dX12_content_79 (lv_at hl 0 rfl) ?_
            refine lv_iconst (v := 1) hx hb dX12_content_81 (by decide) ?_
            refine lv_iadd hx hb dX12_content_82 ?_
            obtain ⟨hiq5, h⟩ := nif h
            refine va_iald hx hb hK hP 13 0 (mg_0 rfl) rfl hiq5 dX12_content_83 ?_
            refine lv_iload_n hx hb dX12_content_84 rfl (lv_at hl 4 rfl) ?_
            obtain ⟨hdq6, h⟩ := nif h
            refine lv_idiv hx hb dX12_content_85 hdq6 ?_
            refine lv_aload_n hx hb dX12_content_86 rfl (lv_at hl 1 rfl) ?_
            refine va_get (D := D) (ci := 12) (v := .ref (G.1 13)) (C := RX12) (T := TX12) (N := 34) hx hb hts iwX12 hown hK hP 28 (mg_2 rfl) rfl 14 (by decide) (hts _ mw_972) (fun _ h9 => h9) rfl dX12_content_87 ?_
            refine lv_iload hx hb dX12_content_90 (lv_at hl 0 rfl) ?_
            refine lv_iconst (v := 2) hx hb dX12_content_92 (by decide) ?_
            refine lv_iadd hx hb dX12_content_93 ?_
            obtain ⟨hiq7, h⟩ := nif h
            refine va_iald hx hb hK hP 13 0 (mg_0 rfl) rfl hiq7 dX12_content_94 ?_
            refine lv_iload_n hx hb dX12_content_95 rfl (lv_at hl 4 rfl) ?_
            obtain ⟨hdq8, h⟩ := nif h
            refine lv_idiv hx hb dX12_content_96 hdq8 ?_
            refine lv_aload_n hx hb dX12_content_97 rfl (lv_at hl 1 rfl) ?_
            refine va_get (D := D) (ci := 12) (v := .ref (G.1 13)) (C := RX12) (T := TX12) (N := 34) hx hb hts iwX12 hown hK hP 28 (mg_2 rfl) rfl 14 (by decide) (hts _ mw_972) (fun _ h9 => h9) rfl dX12_content_98 ?_
            refine lv_iload hx hb dX12_content_101 (lv_at hl 0 rfl) ?_
            refine lv_iconst (v := 3) hx hb dX12_content_103 (by decide) ?_
            refine lv_iadd hx hb dX12_content_104 ?_
            obtain ⟨hiq9, h⟩ := nif h
            refine va_iald hx hb hK hP 13 0 (mg_0 rfl) rfl hiq9 dX12_content_105 ?_
            refine lv_iload_n hx hb dX12_content_106 rfl (lv_at hl 4 rfl) ?_
            obtain ⟨hdq10, h⟩ := nif h
            refine lv_idiv hx hb dX12_content_107 hdq10 ?_
            obtain ⟨xq11, hfq12, h⟩ := obd h
            refine va_calli (va_runS (As := [.int ((τ 13 (4 * p1).toNatClampNeg) / v3), .int ((τ 13 ((4 * p1) + 1).toNatClampNeg) / v3), .int ((τ 13 ((4 * p1) + 2).toNatClampNeg) / v3), .int ((τ 13 ((4 * p1) + 3).toNatClampNeg) / v3)]) (rest := []) ⟨hx, hb, hml, hown, hts⟩ (kX12_areLike l ((τ 13 (4 * p1).toNatClampNeg) / v3) ((τ 13 ((4 * p1) + 1).toNatClampNeg) / v3) ((τ 13 ((4 * p1) + 2).toNatClampNeg) / v3) ((τ 13 ((4 * p1) + 3).toNatClampNeg) / v3) xq11 hfq12) (va_cwS 4 hts (lwW_gS mw_925 mw_926 mw_14 mw_927) rfl rfl rfl (by decide +kernel) ⟨Nat.le_of_ble_eq_true rfl, Nat.le_of_ble_eq_true rfl⟩) ⟨fun a U g mk q => ⟨q.1, trivial⟩, fun U hU hW => ⟨rfl, trivial⟩⟩ rfl rfl hl.1 rfl (lv_room (Nat.le_of_ble_eq_true rfl)) dX12_content_108 ⟨Nat.zero_le _, Nat.zero_le _⟩) hS (fun q _ h => h.elim) (fun q h => h.elim) (fun r u t H1 locs ht hvm hw hB hz1 hq1 hS => ?_)
            obtain rfl := hw.symm
            have hP := mP_kept hP hq1
            refine W.widen (k := 0) (n := 0) (Nat.le_refl _) (Nat.le_refl _) ?_
            refine lv_if_eq (tgt := 118) hx hb dX12_content_111 (by decide) (fun hcq13 => ?_) (fun hcq13 => ?_)
            · have h := ifp hcq13 h
              exact J118 v2 v3 _ _ _ _ h hP hS (lv_sub hl [1, 2, 3, 4] rfl)
            have h := ifn hcq13 h
            refine lv_iload_n hx hb dX12_content_114 rfl (lv_at hl 4 rfl) ?_
            refine lv_goto (tgt := 119) hx hb dX12_content_115 (by decide) ?_
            exact J119 v3 v3 _ _ _ _ h hP hS (lv_sub hl [1, 2, 4] rfl)
          have h := ifn hcq1 h
          refine lv_iload hx hb dX12_content_22 (lv_at hl 4 rfl) ?_
          refine lv_if_eq (tgt := 47) hx hb dX12_content_24 (by decide) (fun hcq14 => ?_) (fun hcq14 => ?_)
          · have h := ifp hcq14 h
            exact J47 v2 v3 v5 _ _ _ _ h hP hS (lv_sub hl [0, 1, 2, 3, 5] rfl)
          have h := ifn hcq14 h
          refine lv_aload_n hx hb dX12_content_27 rfl (lv_at hl 0 rfl) ?_
          refine va_get (D := D) (ci := 12) (v := .ref (G.1 13)) (C := RX12) (T := TX12) (N := 34) hx hb hts iwX12 hown hK hP 28 (mg_2 rfl) rfl 14 (by decide) (hts _ mw_972) (fun _ h9 => h9) rfl dX12_content_28 ?_
          refine lv_iconst (v := 4) hx hb dX12_content_31 (by decide) ?_
          refine lv_iload_n hx hb dX12_content_32 rfl (lv_at hl 1 rfl) ?_
          refine lv_imul hx hb dX12_content_33 ?_
          refine lv_iload hx hb dX12_content_34 (lv_at hl 5 rfl) ?_
          refine lv_iadd hx hb dX12_content_36 ?_
          obtain ⟨hiq15, h⟩ := nif h
          refine va_iald hx hb hK hP 13 0 (mg_0 rfl) rfl hiq15 dX12_content_37 ?_
          refine lv_iload_n hx hb dX12_content_38 rfl (lv_at hl 3 rfl) ?_
          obtain ⟨hdq16, h⟩ := nif h
          refine lv_irem hx hb dX12_content_39 hdq16 ?_
          refine lv_if_ne (tgt := 47) hx hb dX12_content_40 (by decide) (fun hcq17 => ?_) (fun hcq17 => ?_)
          · have h := ifn hcq17 h
            exact J47 v2 v3 v5 _ _ _ _ h hP hS (lv_sub hl [0, 1, 2, 3, 5] rfl)
          have h := ifp hcq17 h
          refine lv_iconst (v := 1) hx hb dX12_content_43 (by decide) ?_
          refine lv_goto (tgt := 48) hx hb dX12_content_44 (by decide) ?_
          exact J48 v2 v3 v5 1 _ _ _ _ h hP hS (lv_sub hl [0, 1, 2, 3, 5] rfl)
      refine lv_iload_n hx hb dX12_content_4 rfl (lv_at hl 3 rfl) ?_
      refine lv_bipush (v := 24) hx hb dX12_content_5 (by decide) ?_
      refine lv_icmp_gt (tgt := 126) hx hb dX12_content_7 (by decide) (fun hcq18 => ?_) (fun hcq18 => ?_)
      · have h := ifp hcq18 h
        refine lv_iload_n hx hb dX12_content_126 rfl (lv_at hl 2 rfl) ?_
        obtain rfl := Option.some.inj h
        exact W.iret (v := v2) hx hb hr (fun t ht hW => ⟨⟨_, _, rfl, ⟨rfl, rfl⟩, mPre_at h0 hS hP ht hW⟩, hS.F ht⟩) hS.2.2 dX12_content_127
      have h := ifn hcq18 h
      refine lv_iconst (v := 1) hx hb dX12_content_10 (by decide) ?_
      refine lv_istore (lv' := [(4, .int 1), (0, .ref (G.1 28)), (1, .int p1), (2, .int v2), (3, .int v3)]) hx hb dX12_content_11 hl (by decide) rfl (fun ls hl => ?_)
      refine lv_iconst (v := 0) hx hb dX12_content_13 (by decide) ?_
      refine lv_istore (lv' := [(5, .int 0), (4, .int 1), (0, .ref (G.1 28)), (1, .int p1), (2, .int v2), (3, .int v3)]) hx hb dX12_content_14 hl (by decide) rfl (fun ls hl => ?_)
      exact L16 FU v2 v3 1 0 _ _ _ _ h hP hS (lv_sub hl [2, 3, 4, 5, 1, 0] rfl)
  refine lv_iconst (v := 1) hx hb dX12_content_0 (by decide) ?_
  refine lv_istore_n (lv' := [(2, .int 1), (0, .ref (G.1 28)), (1, .int p1)]) hx hb dX12_content_1 rfl hl (by decide) rfl (fun ls hl => ?_)
  refine lv_iconst (v := 2) hx hb dX12_content_2 (by decide) ?_
  refine lv_istore_n (lv' := [(3, .int 2), (2, .int 1), (0, .ref (G.1 28)), (1, .int p1)]) hx hb dX12_content_3 rfl hl (by decide) rfl (fun ls hl => ?_)
  exact L4 FU 1 2 _ _ _ _ h hP hS (lv_sub hl [2, 3, 1, 0] rfl)
def fX12_primesIn_L13 (p1 : Int32) (K7 : Int32 → Int32 → Int32 → QMem → Option (Int32 × QMem)) : Nat → Int32 → Int32 → Int32 → QMem → Option (Int32 × QMem)
  | 0, _, _, _, _ => none
  | n + 1, v2, v3, v4, τ =>
  if v4 = 0 then none else (if (v2 - v2 / v4 * v4) = 0 then (if v4 = 0 then none else ((fX12_primesIn_L13 p1 K7 n) (v2 / v4) (v3 + 1) v4 τ)) else (K7 v2 v3 (v4 + 1) τ))
def fX12_primesIn_L7 (p1 : Int32) : Nat → Int32 → Int32 → Int32 → QMem → Option (Int32 × QMem)
  | 0, _, _, _, _ => none
  | n + 1, v2, v3, v4, τ =>
  if p1 < v4 then (some (v3, τ)) else (fX12_primesIn_L13 p1 (fX12_primesIn_L7 p1 n) FU v2 v3 v4 τ)
def fX12_primesIn (p1 : Int32) (σ : QMem) : Option (Int32 × QMem) :=
  fX12_primesIn_L7 p1 FU p1 0 2 σ
set_option maxHeartbeats 4000000 in
set_option maxRecDepth 100000 in
theorem kX12_primesIn (l : Launch) (D : va_G) (G : xG) (σ : QMem) (p1 : Int32) (res : Int32 × QMem) (h : fX12_primesIn p1 σ = some res) : Met l yX12_primesIn (.code yX12_primesIn cX12_primesIn 5 (some .int) :: lwW) (rmD 0) (mPc D G σ [.ref (G.1 28), .int p1]) (mQi D G res) 0 0 (mA G) := by
  refine Met.ofW (cc := cX12_primesIn) (maxL := 5) (ret := (some .int)) (by decide) rfl ?_
  intro p e s m args below meth c s₁ B hml hv
  obtain ⟨rfl, h0⟩ := hv
  have hx := B.exec
  have hb := B.bytes
  have hr := B.returns
  have hts := fun (w : Cond) (hw : w ∈ lwW) => atoms_spec (ws := (.code yX12_primesIn cX12_primesIn 5 (some .int) :: lwW)) B.pre w (List.mem_cons_of_mem _ hw)
  have hown : s.vm.findClass RX12 = some m.cls := findClass_of_methodNamed B.named
  have hlocks := B.notSynchronized
  have hP := h0.1
  have hK := h0.2.1
  have hi := h0.2.2
  have hS : va_S (mA G) s.heap s.heap [] := va_S.rf
  have hl := lv_entry ([.ref (G.1 28), .int p1]) (n := 5) (Nat.le_of_ble_eq_true rfl)
  rw [lg_entry_eq]
  generalize (lg_sl ([.ref (G.1 28), .int p1]) ++ List.replicate (5 - (lg_sl ([.ref (G.1 28), .int p1])).length) Slot.unset).toArray = ls at hl ⊢
  have hl : lv_has ls 5 [(0, .ref (G.1 28)), (1, .int p1)] := hl
  unfold fX12_primesIn at h
  have L7 : ∀ (n7 : Nat) (v2 : Int32) (v3 : Int32) (v4 : Int32) (τ : QMem) (H : Heap) (locs : List Loc) (ls : Array Slot), fX12_primesIn_L7 p1 n7 v2 v3 v4 τ = some res → va_P D vwCl (mW G τ) H → va_S (mA G) s.heap H locs → lv_has ls 5 [(1, .int p1), (2, .int v2), (3, .int v3), (4, .int v4)] → W p l e (headSpec (.code yX12_primesIn cX12_primesIn 5 (some .int) :: lwW) (rmD 0)).room s m ([.ref (G.1 28), .int p1] : List Value).toArray below meth c H locs 0 0 (MQ below (mQi D G res) ([.ref (G.1 28), .int p1] : List Value).toArray s 0 0 (mA G)) (F0 m 7 ls []) := by
    intro n7
    induction n7 with
    | zero => intro v2 v3 v4 τ H locs ls h; rw [fX12_primesIn_L7] at h; cases h
    | succ n7 ih7 =>
      intro v2 v3 v4 τ H locs ls h hP hS hl
      rw [fX12_primesIn_L7] at h
      have L13 : ∀ (n13 : Nat) (v2 : Int32) (v3 : Int32) (v4 : Int32) (τ : QMem) (H : Heap) (locs : List Loc) (ls : Array Slot), fX12_primesIn_L13 p1 (fX12_primesIn_L7 p1 n7) n13 v2 v3 v4 τ = some res → va_P D vwCl (mW G τ) H → va_S (mA G) s.heap H locs → lv_has ls 5 [(1, .int p1), (2, .int v2), (3, .int v3), (4, .int v4)] → W p l e (headSpec (.code yX12_primesIn cX12_primesIn 5 (some .int) :: lwW) (rmD 0)).room s m ([.ref (G.1 28), .int p1] : List Value).toArray below meth c H locs 0 0 (MQ below (mQi D G res) ([.ref (G.1 28), .int p1] : List Value).toArray s 0 0 (mA G)) (F0 m 13 ls []) := by
        intro n13
        induction n13 with
        | zero => intro v2 v3 v4 τ H locs ls h; rw [fX12_primesIn_L13] at h; cases h
        | succ n13 ih13 =>
          intro v2 v3 v4 τ H locs ls h hP hS hl
          rw [fX12_primesIn_L13] at h
          refine lv_iload_n hx hb dX12_primesIn_13 rfl (lv_at hl 1 rfl) ?_
          refine lv_iload hx hb dX12_primesIn_14 (lv_at hl 3 rfl) ?_
          obtain ⟨hdq1, h⟩ := nif h
          refine lv_irem hx hb dX12_primesIn_16 hdq1 ?_
          refine lv_if_ne (tgt := 31) hx hb dX12_primesIn_17 (by decide) (fun hcq2 => ?_) (fun hcq2 => ?_)
          · have h := ifn hcq2 h
            refine lv_iinc (v := v4 + 1) (lv' := [(4, .int (v4 + 1)), (1, .int p1), (2, .int v2), (3, .int v3)]) hx hb dX12_primesIn_31 hl (k := 3) rfl rfl (by decide) rfl (fun ls hl => ?_)
            refine lv_goto (tgt := 7) hx hb dX12_primesIn_34 (by decide) ?_
            exact ih7 v2 v3 (v4 + 1) _ _ _ _ h hP hS (lv_sub hl [1, 2, 3, 0] rfl)
          have h := ifp hcq2 h
          refine lv_iload_n hx hb dX12_primesIn_20 rfl (lv_at hl 1 rfl) ?_
          refine lv_iload hx hb dX12_primesIn_21 (lv_at hl 3 rfl) ?_
          obtain ⟨hdq3, h⟩ := nif h
          refine lv_idiv hx hb dX12_primesIn_23 hdq3 ?_
          refine lv_istore_n (lv' := [(2, .int (v2 / v4)), (1, .int p1), (3, .int v3), (4, .int v4)]) hx hb dX12_primesIn_24 rfl hl (by decide) rfl (fun ls hl => ?_)
          refine lv_iinc (v := v3 + 1) (lv' := [(3, .int (v3 + 1)), (2, .int (v2 / v4)), (1, .int p1), (4, .int v4)]) hx hb dX12_primesIn_25 hl (k := 2) rfl rfl (by decide) rfl (fun ls hl => ?_)
          refine lv_goto (tgt := 13) hx hb dX12_primesIn_28 (by decide) ?_
          exact ih13 (v2 / v4) (v3 + 1) v4 _ _ _ _ h hP hS (lv_sub hl [2, 1, 0, 3] rfl)
      refine lv_iload hx hb dX12_primesIn_7 (lv_at hl 3 rfl) ?_
      refine lv_iload_n hx hb dX12_primesIn_9 rfl (lv_at hl 0 rfl) ?_
      refine lv_icmp_gt (tgt := 37) hx hb dX12_primesIn_10 (by decide) (fun hcq4 => ?_) (fun hcq4 => ?_)
      · have h := ifp hcq4 h
        refine lv_iload_n hx hb dX12_primesIn_37 rfl (lv_at hl 2 rfl) ?_
        obtain rfl := Option.some.inj h
        exact W.iret (v := v3) hx hb hr (fun t ht hW => ⟨⟨_, _, rfl, ⟨rfl, rfl⟩, mPre_at h0 hS hP ht hW⟩, hS.F ht⟩) hS.2.2 dX12_primesIn_38
      have h := ifn hcq4 h
      exact L13 FU v2 v3 v4 _ _ _ _ h hP hS (lv_sub hl [0, 1, 2, 3] rfl)
  refine lv_iload_n hx hb dX12_primesIn_0 rfl (lv_at hl 1 rfl) ?_
  refine lv_istore_n (lv' := [(2, .int p1), (0, .ref (G.1 28)), (1, .int p1)]) hx hb dX12_primesIn_1 rfl hl (by decide) rfl (fun ls hl => ?_)
  refine lv_iconst (v := 0) hx hb dX12_primesIn_2 (by decide) ?_
  refine lv_istore_n (lv' := [(3, .int 0), (2, .int p1), (0, .ref (G.1 28)), (1, .int p1)]) hx hb dX12_primesIn_3 rfl hl (by decide) rfl (fun ls hl => ?_)
  refine lv_iconst (v := 2) hx hb dX12_primesIn_4 (by decide) ?_
  refine lv_istore (lv' := [(4, .int 2), (3, .int 0), (2, .int p1), (0, .ref (G.1 28)), (1, .int p1)]) hx hb dX12_primesIn_5 hl (by decide) rfl (fun ls hl => ?_)
  exact L7 FU p1 0 2 _ _ _ _ h hP hS (lv_sub hl [4, 2, 1, 0] rfl)
def fX12_laysChain_J140 (p1 : Int32) (K38 : Int32 → QMem → Option (QMem)) (v2 : Int32) (τ : QMem) : Option (QMem) :=
  K38 (v2 + 1) τ
def fX12_laysChain_J138 (p1 : Int32) (K38 : Int32 → QMem → Option (QMem)) (v2 : Int32) (s0 : Nat) (s1 : Int32) (s2 : Int32) (s3 : Int32) (τ : QMem) : Option (QMem) :=
  if (s1 < 0 ∨ ml s0 ≤ s1.toNatClampNeg) then none else (fX12_laysChain_J140 p1 K38 v2 (ms τ s0 s1.toNatClampNeg (s2 + s3)))
def fX12_laysChain_J83 (p1 : Int32) (K38 : Int32 → QMem → Option (QMem)) (v2 : Int32) (s0 : Int32) (τ : QMem) : Option (QMem) :=
  if s0 = 0 then (fX12_laysChain_J140 p1 K38 v2 τ) else ((fX12_copies 5 (4 * v2) 19 0 τ).bind fun xq4 => (if (p1 < 0 ∨ ml 18 ≤ p1.toNatClampNeg) then none else ((fX12_isDivisor 19 0 20 0 0 xq4).bind fun xq7 => (if xq7.1 = 0 then (fX12_laysChain_J138 p1 K38 v2 18 p1 (xq4 18 p1.toNatClampNeg) 0 xq7.2) else (if (v2 < 0 ∨ ml 18 ≤ v2.toNatClampNeg) then none else (fX12_laysChain_J138 p1 K38 v2 18 p1 (xq4 18 p1.toNatClampNeg) (xq7.2 18 v2.toNatClampNeg) xq7.2))))))
def fX12_laysChain_J82 (p1 : Int32) (K38 : Int32 → QMem → Option (QMem)) (v2 : Int32) (τ : QMem) : Option (QMem) :=
  fX12_laysChain_J83 p1 K38 v2 0 τ
def fX12_laysChain_L38 (p1 : Int32) : Nat → Int32 → QMem → Option (QMem)
  | 0, _, _ => none
  | n + 1, v2, τ =>
  if p1 ≤ v2 then (some τ) else (if (p1 < 0 ∨ ml 17 ≤ p1.toNatClampNeg) then none else (if (v2 < 0 ∨ ml 17 ≤ v2.toNatClampNeg) then none else (if (τ 17 v2.toNatClampNeg) = 0 then none else (if ((τ 17 p1.toNatClampNeg) - (τ 17 p1.toNatClampNeg) / (τ 17 v2.toNatClampNeg) * (τ 17 v2.toNatClampNeg)) = 0 then (if (p1 < 0 ∨ ml 17 ≤ p1.toNatClampNeg) then none else (if (v2 < 0 ∨ ml 17 ≤ v2.toNatClampNeg) then none else (if (τ 17 v2.toNatClampNeg) = 0 then none else ((fX12_isPrime ((τ 17 p1.toNatClampNeg) / (τ 17 v2.toNatClampNeg))).bind fun xq27 => (if xq27 = 0 then (fX12_laysChain_J82 p1 (fX12_laysChain_L38 p1 n) v2 τ) else (fX12_laysChain_J83 p1 (fX12_laysChain_L38 p1 n) v2 1 τ)))))) else (fX12_laysChain_J82 p1 (fX12_laysChain_L38 p1 n) v2 τ)))))
def fX12_laysChain_J20 (p1 : Int32) (s0 : Nat) (s1 : Int32) (s2 : Int32) (τ : QMem) : Option (QMem) :=
  if (s1 < 0 ∨ ml s0 ≤ s1.toNatClampNeg) then none else ((fX12_copies 5 (4 * p1) 20 0 (ms τ s0 s1.toNatClampNeg s2)).bind fun xq31 => (fX12_laysChain_L38 p1 FU 0 xq31))
def fX12_laysChain (p1 : Int32) (σ : QMem) : Option (QMem) :=
  if (p1 < 0 ∨ ml 17 ≤ p1.toNatClampNeg) then none else (if (σ 17 p1.toNatClampNeg) = 1 then (fX12_laysChain_J20 p1 18 p1 1 σ) else (fX12_laysChain_J20 p1 18 p1 0 σ))
set_option maxHeartbeats 4000000 in
set_option maxRecDepth 100000 in
theorem kX12_laysChain (l : Launch) (D : va_G) (G : xG) (σ : QMem) (p1 : Int32) (res : QMem) (h : fX12_laysChain p1 σ = some res) : Met l yX12_laysChain (.code yX12_laysChain cX12_laysChain 4 none :: lwW) (rmD 3) (mPc D G σ [.ref (G.1 28), .int p1]) (mQv D G res) 0 0 (mA G) := by
  refine Met.ofW (cc := cX12_laysChain) (maxL := 4) (ret := none) (by decide) rfl ?_
  intro p e s m args below meth c s₁ B hml hv
  obtain ⟨rfl, h0⟩ := hv
  have hx := B.exec
  have hb := B.bytes
  have hr := B.returns
  have hts := fun (w : Cond) (hw : w ∈ lwW) => atoms_spec (ws := (.code yX12_laysChain cX12_laysChain 4 none :: lwW)) B.pre w (List.mem_cons_of_mem _ hw)
  have hown : s.vm.findClass RX12 = some m.cls := findClass_of_methodNamed B.named
  have hlocks := B.notSynchronized
  have hP := h0.1
  have hK := h0.2.1
  have hi := h0.2.2
  have hS : va_S (mA G) s.heap s.heap [] := va_S.rf
  have hl := lv_entry ([.ref (G.1 28), .int p1]) (n := 4) (Nat.le_of_ble_eq_true rfl)
  rw [lg_entry_eq]
  generalize (lg_sl ([.ref (G.1 28), .int p1]) ++ List.replicate (4 - (lg_sl ([.ref (G.1 28), .int p1])).length) Slot.unset).toArray = ls at hl ⊢
  have hl : lv_has ls 4 [(0, .ref (G.1 28)), (1, .int p1)] := hl
  unfold fX12_laysChain at h
  have L38 : ∀ (n38 : Nat) (v2 : Int32) (τ : QMem) (H : Heap) (locs : List Loc) (ls : Array Slot), fX12_laysChain_L38 p1 n38 v2 τ = some res → va_P D vwCl (mW G τ) H → va_S (mA G) s.heap H locs → lv_has ls 4 [(0, .ref (G.1 28)), (1, .int p1), (2, .int v2)] → W p l e (headSpec (.code yX12_laysChain cX12_laysChain 4 none :: lwW) (rmD 3)).room s m ([.ref (G.1 28), .int p1] : List Value).toArray below meth c H locs 0 0 (MQ below (mQv D G res) ([.ref (G.1 28), .int p1] : List Value).toArray s 0 0 (mA G)) (F0 m 38 ls []) := by
    intro n38
    induction n38 with
    | zero => intro v2 τ H locs ls h; rw [fX12_laysChain_L38] at h; cases h
    | succ n38 ih38 =>
      intro v2 τ H locs ls h hP hS hl
      rw [fX12_laysChain_L38] at h
      have J140 : ∀ (v2 : Int32) (τ : QMem) (H : Heap) (locs : List Loc) (ls : Array Slot), fX12_laysChain_J140 p1 (fX12_laysChain_L38 p1 n38) v2 τ = some res → va_P D vwCl (mW G τ) H → va_S (mA G) s.heap H locs → lv_has ls 4 [(0, .ref (G.1 28)), (1, .int p1), (2, .int v2)] → W p l e (headSpec (.code yX12_laysChain cX12_laysChain 4 none :: lwW) (rmD 3)).room s m ([.ref (G.1 28), .int p1] : List Value).toArray below meth c H locs 0 0 (MQ below (mQv D G res) ([.ref (G.1 28), .int p1] : List Value).toArray s 0 0 (mA G)) (F0 m 140 ls []) := by
        intro v2 τ H locs ls h hP hS hl
        unfold fX12_laysChain_J140 at h
        refine lv_iinc (v := v2 + 1) (lv' := [(2, .int (v2 + 1)), (0, .ref (G.1 28)), (1, .int p1)]) hx hb dX12_laysChain_140 hl (k := 2) rfl rfl (by decide) rfl (fun ls hl => ?_)
        refine lv_goto (tgt := 38) hx hb dX12_laysChain_143 (by decide) ?_
        exact ih38 (v2 + 1) _ _ _ _ h hP hS (lv_sub hl [1, 2, 0] rfl)
      have J138 : ∀ (v2 : Int32) (s0 : Nat) (hs0 : mk s0 = 0) (s1 : Int32) (s2 : Int32) (s3 : Int32) (τ : QMem) (H : Heap) (locs : List Loc) (ls : Array Slot), fX12_laysChain_J138 p1 (fX12_laysChain_L38 p1 n38) v2 s0 s1 s2 s3 τ = some res → va_P D vwCl (mW G τ) H → va_S (mA G) s.heap H locs → lv_has ls 4 [(0, .ref (G.1 28)), (1, .int p1), (2, .int v2)] → W p l e (headSpec (.code yX12_laysChain cX12_laysChain 4 none :: lwW) (rmD 3)).room s m ([.ref (G.1 28), .int p1] : List Value).toArray below meth c H locs 0 0 (MQ below (mQv D G res) ([.ref (G.1 28), .int p1] : List Value).toArray s 0 0 (mA G)) (F0 m 138 ls [.int s3, .int s2, .int s1, .ref (G.1 s0)]) := by
        intro v2 s0 hs0 s1 s2 s3 τ H locs ls h hP hS hl
        unfold fX12_laysChain_J138 at h
        refine lv_iadd hx hb dX12_laysChain_138 ?_
        obtain ⟨hiq2, h⟩ := nif h
        refine va_iast hx hb hK hP (mD hi) hS s0 0 (mg_0 hs0) rfl hiq2 dX12_laysChain_139 (fun H locs hP hD hS => ?_)
        have hP : va_P D vwCl (mW G (ms τ s0 s1.toNatClampNeg (s2 + s3))) H := by rw [← ms_0x hs0]; exact hP
        exact J140 v2 _ _ _ _ h hP hS (lv_sub hl [0, 1, 2] rfl)
      have J83 : ∀ (v2 : Int32) (s0 : Int32) (τ : QMem) (H : Heap) (locs : List Loc) (ls : Array Slot), fX12_laysChain_J83 p1 (fX12_laysChain_L38 p1 n38) v2 s0 τ = some res → va_P D vwCl (mW G τ) H → va_S (mA G) s.heap H locs → lv_has ls 4 [(0, .ref (G.1 28)), (1, .int p1), (2, .int v2)] → W p l e (headSpec (.code yX12_laysChain cX12_laysChain 4 none :: lwW) (rmD 3)).room s m ([.ref (G.1 28), .int p1] : List Value).toArray below meth c H locs 0 0 (MQ below (mQv D G res) ([.ref (G.1 28), .int p1] : List Value).toArray s 0 0 (mA G)) (F0 m 83 ls [.int s0]) := by
        intro v2 s0 τ H locs ls h hP hS hl
        unfold fX12_laysChain_J83 at h
        refine lv_istore_n (lv' := [(3, .int s0), (0, .ref (G.1 28)), (1, .int p1), (2, .int v2)]) hx hb dX12_laysChain_83 rfl hl (by decide) rfl (fun ls hl => ?_)
        refine lv_iload_n hx hb dX12_laysChain_84 rfl (lv_at hl 0 rfl) ?_
        refine lv_if_eq (tgt := 140) hx hb dX12_laysChain_85 (by decide) (fun hcq11 => ?_) (fun hcq11 => ?_)
        · have h := ifp hcq11 h
          exact J140 v2 _ _ _ _ h hP hS (lv_sub hl [1, 2, 3] rfl)
        have h := ifn hcq11 h
        refine lv_aload_n hx hb dX12_laysChain_88 rfl (lv_at hl 1 rfl) ?_
        refine va_get (D := D) (ci := 12) (v := .ref (G.1 5)) (C := RX12) (T := TX12) (N := 34) hx hb hts iwX12 hown hK hP 28 (mg_2 rfl) rfl 5 (by decide) (hts _ mw_963) (fun _ h9 => h9) rfl dX12_laysChain_89 ?_
        refine lv_iconst (v := 4) hx hb dX12_laysChain_92 (by decide) ?_
        refine lv_iload_n hx hb dX12_laysChain_93 rfl (lv_at hl 3 rfl) ?_
        refine lv_imul hx hb dX12_laysChain_94 ?_
        refine lv_aload_n hx hb dX12_laysChain_95 rfl (lv_at hl 1 rfl) ?_
        refine va_get (D := D) (ci := 12) (v := .ref (G.1 19)) (C := RX12) (T := TX12) (N := 34) hx hb hts iwX12 hown hK hP 28 (mg_2 rfl) rfl 21 (by decide) (hts _ mw_979) (fun _ h9 => h9) rfl dX12_laysChain_96 ?_
        refine lv_iconst (v := 0) hx hb dX12_laysChain_99 (by decide) ?_
        obtain ⟨xq12, hfq13, h⟩ := obd h
        refine va_callv (va_runS (As := [.ref (G.1 5), .int (4 * v2), .ref (G.1 19), .int 0]) (rest := []) ⟨hx, hb, hml, hown, hts⟩ (kX12_copies l D G _ 5 rfl (4 * v2) 19 rfl 0 xq12 hfq13) (va_cwS 4 hts (lwW_gS mw_955 mw_956 mw_14 mw_957) rfl rfl rfl (by decide +kernel) ⟨Nat.le_of_ble_eq_true rfl, Nat.le_of_ble_eq_true rfl⟩) ⟨fun a U g mk q => ⟨q.1, mPre_call q.2⟩, fun U hU hW => ⟨rfl, mPre_at h0 hS hP hU hW⟩⟩ rfl rfl hl.1 rfl (lv_room (Nat.le_of_ble_eq_true rfl)) dX12_laysChain_100 ⟨Nat.zero_le _, Nat.zero_le _⟩) hS (fun q _ h => h) (fun q h => h) (fun u t H1 locs ht hvm hw hB hz1 hq1 hS => ?_)
        obtain rfl := hw.symm
        have hP := hB.1
        rw [ht] at hP
        refine W.widen (k := 0) (n := 0) (Nat.le_refl _) (Nat.le_refl _) ?_
        refine lv_aload_n hx hb dX12_laysChain_103 rfl (lv_at hl 1 rfl) ?_
        refine va_get (D := D) (ci := 12) (v := .ref (G.1 18)) (C := RX12) (T := TX12) (N := 34) hx hb hts iwX12 hown hK hP 28 (mg_2 rfl) rfl 20 (by decide) (hts _ mw_978) (fun _ h9 => h9) rfl dX12_laysChain_104 ?_
        refine lv_iload_n hx hb dX12_laysChain_107 rfl (lv_at hl 2 rfl) ?_
        refine lv_dup2_11 hx hb dX12_laysChain_108 rfl rfl ?_
        obtain ⟨hiq14, h⟩ := nif h
        refine va_iald hx hb hK hP 18 0 (mg_0 rfl) rfl hiq14 dX12_laysChain_109 ?_
        refine lv_aload_n hx hb dX12_laysChain_110 rfl (lv_at hl 1 rfl) ?_
        refine lv_aload_n hx hb dX12_laysChain_111 rfl (lv_at hl 1 rfl) ?_
        refine va_get (D := D) (ci := 12) (v := .ref (G.1 19)) (C := RX12) (T := TX12) (N := 34) hx hb hts iwX12 hown hK hP 28 (mg_2 rfl) rfl 21 (by decide) (hts _ mw_979) (fun _ h9 => h9) rfl dX12_laysChain_112 ?_
        refine lv_iconst (v := 0) hx hb dX12_laysChain_115 (by decide) ?_
        refine lv_aload_n hx hb dX12_laysChain_116 rfl (lv_at hl 1 rfl) ?_
        refine va_get (D := D) (ci := 12) (v := .ref (G.1 20)) (C := RX12) (T := TX12) (N := 34) hx hb hts iwX12 hown hK hP 28 (mg_2 rfl) rfl 22 (by decide) (hts _ mw_980) (fun _ h9 => h9) rfl dX12_laysChain_117 ?_
        refine lv_iconst (v := 0) hx hb dX12_laysChain_120 (by decide) ?_
        refine lv_iconst (v := 0) hx hb dX12_laysChain_121 (by decide) ?_
        obtain ⟨xq15, hfq16, h⟩ := obd h
        refine va_calli (va_runV (As := [.ref (G.1 19), .int 0, .ref (G.1 20), .int 0, .int 0]) (rest := [.int (xq12 18 p1.toNatClampNeg), .int p1, .ref (G.1 18)]) ⟨hx, hb, hml, hown, hts⟩ (kX12_isDivisor l D G _ 19 rfl 0 20 rfl 0 0 xq15 hfq16) (cwV 5 hts (lwW_gV mw_932 mw_934 ms_28 mw_14 mw_935) rfl rfl rfl (by decide +kernel) ⟨Nat.le_of_ble_eq_true rfl, Nat.le_of_ble_eq_true rfl⟩) ⟨fun a U g mk q => ⟨q.1, mPre_call q.2⟩, va_recv hK hP rfl (mg_2 rfl), fun U hU hW => ⟨rfl, mPre_at h0 hS hP hU hW⟩⟩ rfl rfl hl.1 rfl (lv_room (Nat.le_of_ble_eq_true rfl)) dX12_laysChain_122 ⟨Nat.zero_le _, Nat.zero_le _⟩) hS (fun q _ h => h) (fun q h => h) (fun r u t H1 locs ht hvm hw hB hz1 hq1 hS => ?_)
        obtain ⟨rfl, rfl⟩ := hw
        have hP := hB.1
        rw [ht] at hP
        refine W.widen (k := 0) (n := 0) (Nat.le_refl _) (Nat.le_refl _) ?_
        refine lv_if_eq (tgt := 137) hx hb dX12_laysChain_125 (by decide) (fun hcq17 => ?_) (fun hcq17 => ?_)
        · have h := ifp hcq17 h
          refine lv_iconst (v := 0) hx hb dX12_laysChain_137 (by decide) ?_
          exact J138 v2 18 rfl p1 (xq12 18 p1.toNatClampNeg) 0 _ _ _ _ h hP hS (lv_sub hl [1, 2, 3] rfl)
        have h := ifn hcq17 h
        refine lv_aload_n hx hb dX12_laysChain_128 rfl (lv_at hl 1 rfl) ?_
        refine va_get (D := D) (ci := 12) (v := .ref (G.1 18)) (C := RX12) (T := TX12) (N := 34) hx hb hts iwX12 hown hK hP 28 (mg_2 rfl) rfl 20 (by decide) (hts _ mw_978) (fun _ h9 => h9) rfl dX12_laysChain_129 ?_
        refine lv_iload_n hx hb dX12_laysChain_132 rfl (lv_at hl 3 rfl) ?_
        obtain ⟨hiq18, h⟩ := nif h
        refine va_iald hx hb hK hP 18 0 (mg_0 rfl) rfl hiq18 dX12_laysChain_133 ?_
        refine lv_goto (tgt := 138) hx hb dX12_laysChain_134 (by decide) ?_
        exact J138 v2 18 rfl p1 (xq12 18 p1.toNatClampNeg) (xq15.2 18 v2.toNatClampNeg) _ _ _ _ h hP hS (lv_sub hl [1, 2, 3] rfl)
      have J82 : ∀ (v2 : Int32) (τ : QMem) (H : Heap) (locs : List Loc) (ls : Array Slot), fX12_laysChain_J82 p1 (fX12_laysChain_L38 p1 n38) v2 τ = some res → va_P D vwCl (mW G τ) H → va_S (mA G) s.heap H locs → lv_has ls 4 [(0, .ref (G.1 28)), (1, .int p1), (2, .int v2)] → W p l e (headSpec (.code yX12_laysChain cX12_laysChain 4 none :: lwW) (rmD 3)).room s m ([.ref (G.1 28), .int p1] : List Value).toArray below meth c H locs 0 0 (MQ below (mQv D G res) ([.ref (G.1 28), .int p1] : List Value).toArray s 0 0 (mA G)) (F0 m 82 ls []) := by
        intro v2 τ H locs ls h hP hS hl
        unfold fX12_laysChain_J82 at h
        refine lv_iconst (v := 0) hx hb dX12_laysChain_82 (by decide) ?_
        exact J83 v2 0 _ _ _ _ h hP hS (lv_sub hl [0, 1, 2] rfl)
      refine lv_iload_n hx hb dX12_laysChain_38 rfl (lv_at hl 2 rfl) ?_
      refine lv_iload_n hx hb dX12_laysChain_39 rfl (lv_at hl 1 rfl) ?_
      refine lv_icmp_ge (tgt := 146) hx hb dX12_laysChain_40 (by decide) (fun hcq19 => ?_) (fun hcq19 => ?_)
      · have h := ifp hcq19 h
        obtain rfl := Option.some.inj h
        exact W.vret hx hb hr (fun t ht hW => ⟨⟨_, rfl, rfl, mPre_at h0 hS hP ht hW⟩, hS.F ht⟩) hS.2.2 dX12_laysChain_146
      have h := ifn hcq19 h
      refine lv_aload_n hx hb dX12_laysChain_43 rfl (lv_at hl 0 rfl) ?_
      refine va_get (D := D) (ci := 12) (v := .ref (G.1 17)) (C := RX12) (T := TX12) (N := 34) hx hb hts iwX12 hown hK hP 28 (mg_2 rfl) rfl 19 (by decide) (hts _ mw_977) (fun _ h9 => h9) rfl dX12_laysChain_44 ?_
      refine lv_iload_n hx hb dX12_laysChain_47 rfl (lv_at hl 1 rfl) ?_
      obtain ⟨hiq20, h⟩ := nif h
      refine va_iald hx hb hK hP 17 0 (mg_0 rfl) rfl hiq20 dX12_laysChain_48 ?_
      refine lv_aload_n hx hb dX12_laysChain_49 rfl (lv_at hl 0 rfl) ?_
      refine va_get (D := D) (ci := 12) (v := .ref (G.1 17)) (C := RX12) (T := TX12) (N := 34) hx hb hts iwX12 hown hK hP 28 (mg_2 rfl) rfl 19 (by decide) (hts _ mw_977) (fun _ h9 => h9) rfl dX12_laysChain_50 ?_
      refine lv_iload_n hx hb dX12_laysChain_53 rfl (lv_at hl 2 rfl) ?_
      obtain ⟨hiq21, h⟩ := nif h
      refine va_iald hx hb hK hP 17 0 (mg_0 rfl) rfl hiq21 dX12_laysChain_54 ?_
      obtain ⟨hdq22, h⟩ := nif h
      refine lv_irem hx hb dX12_laysChain_55 hdq22 ?_
      refine lv_if_ne (tgt := 82) hx hb dX12_laysChain_56 (by decide) (fun hcq23 => ?_) (fun hcq23 => ?_)
      · have h := ifn hcq23 h
        exact J82 v2 _ _ _ _ h hP hS (lv_sub hl [0, 1, 2] rfl)
      have h := ifp hcq23 h
      refine lv_aload_n hx hb dX12_laysChain_59 rfl (lv_at hl 0 rfl) ?_
      refine va_get (D := D) (ci := 12) (v := .ref (G.1 17)) (C := RX12) (T := TX12) (N := 34) hx hb hts iwX12 hown hK hP 28 (mg_2 rfl) rfl 19 (by decide) (hts _ mw_977) (fun _ h9 => h9) rfl dX12_laysChain_60 ?_
      refine lv_iload_n hx hb dX12_laysChain_63 rfl (lv_at hl 1 rfl) ?_
      obtain ⟨hiq24, h⟩ := nif h
      refine va_iald hx hb hK hP 17 0 (mg_0 rfl) rfl hiq24 dX12_laysChain_64 ?_
      refine lv_aload_n hx hb dX12_laysChain_65 rfl (lv_at hl 0 rfl) ?_
      refine va_get (D := D) (ci := 12) (v := .ref (G.1 17)) (C := RX12) (T := TX12) (N := 34) hx hb hts iwX12 hown hK hP 28 (mg_2 rfl) rfl 19 (by decide) (hts _ mw_977) (fun _ h9 => h9) rfl dX12_laysChain_66 ?_
      refine lv_iload_n hx hb dX12_laysChain_69 rfl (lv_at hl 2 rfl) ?_
      obtain ⟨hiq25, h⟩ := nif h
      refine va_iald hx hb hK hP 17 0 (mg_0 rfl) rfl hiq25 dX12_laysChain_70 ?_
      obtain ⟨hdq26, h⟩ := nif h
      refine lv_idiv hx hb dX12_laysChain_71 hdq26 ?_
      obtain ⟨xq27, hfq28, h⟩ := obd h
      refine va_calli (va_runS (As := [.int ((τ 17 p1.toNatClampNeg) / (τ 17 v2.toNatClampNeg))]) (rest := []) ⟨hx, hb, hml, hown, hts⟩ (kX12_isPrime l ((τ 17 p1.toNatClampNeg) / (τ 17 v2.toNatClampNeg)) xq27 hfq28) (va_cwS 1 hts (lwW_gS mw_1107 mw_1108 mw_14 mw_1109) rfl rfl rfl (by decide +kernel) ⟨Nat.le_of_ble_eq_true rfl, Nat.le_of_ble_eq_true rfl⟩) ⟨fun a U g mk q => ⟨q.1, trivial⟩, fun U hU hW => ⟨rfl, trivial⟩⟩ rfl rfl hl.1 rfl (lv_room (Nat.le_of_ble_eq_true rfl)) dX12_laysChain_72 ⟨Nat.zero_le _, Nat.zero_le _⟩) hS (fun q _ h => h.elim) (fun q h => h.elim) (fun r u t H1 locs ht hvm hw hB hz1 hq1 hS => ?_)
      obtain rfl := hw.symm
      have hP := mP_kept hP hq1
      refine W.widen (k := 0) (n := 0) (Nat.le_refl _) (Nat.le_refl _) ?_
      refine lv_if_eq (tgt := 82) hx hb dX12_laysChain_75 (by decide) (fun hcq29 => ?_) (fun hcq29 => ?_)
      · have h := ifp hcq29 h
        exact J82 v2 _ _ _ _ h hP hS (lv_sub hl [0, 1, 2] rfl)
      have h := ifn hcq29 h
      refine lv_iconst (v := 1) hx hb dX12_laysChain_78 (by decide) ?_
      refine lv_goto (tgt := 83) hx hb dX12_laysChain_79 (by decide) ?_
      exact J83 v2 1 _ _ _ _ h hP hS (lv_sub hl [0, 1, 2] rfl)
  have J20 : ∀ (s0 : Nat) (hs0 : mk s0 = 0) (s1 : Int32) (s2 : Int32) (τ : QMem) (H : Heap) (locs : List Loc) (ls : Array Slot), fX12_laysChain_J20 p1 s0 s1 s2 τ = some res → va_P D vwCl (mW G τ) H → va_S (mA G) s.heap H locs → lv_has ls 4 [(0, .ref (G.1 28)), (1, .int p1)] → W p l e (headSpec (.code yX12_laysChain cX12_laysChain 4 none :: lwW) (rmD 3)).room s m ([.ref (G.1 28), .int p1] : List Value).toArray below meth c H locs 0 0 (MQ below (mQv D G res) ([.ref (G.1 28), .int p1] : List Value).toArray s 0 0 (mA G)) (F0 m 20 ls [.int s2, .int s1, .ref (G.1 s0)]) := by
    intro s0 hs0 s1 s2 τ H locs ls h hP hS hl
    unfold fX12_laysChain_J20 at h
    obtain ⟨hiq33, h⟩ := nif h
    refine va_iast hx hb hK hP (mD hi) hS s0 0 (mg_0 hs0) rfl hiq33 dX12_laysChain_20 (fun H locs hP hD hS => ?_)
    have hP : va_P D vwCl (mW G (ms τ s0 s1.toNatClampNeg s2)) H := by rw [← ms_0x hs0]; exact hP
    refine lv_aload_n hx hb dX12_laysChain_21 rfl (lv_at hl 0 rfl) ?_
    refine va_get (D := D) (ci := 12) (v := .ref (G.1 5)) (C := RX12) (T := TX12) (N := 34) hx hb hts iwX12 hown hK hP 28 (mg_2 rfl) rfl 5 (by decide) (hts _ mw_963) (fun _ h9 => h9) rfl dX12_laysChain_22 ?_
    refine lv_iconst (v := 4) hx hb dX12_laysChain_25 (by decide) ?_
    refine lv_iload_n hx hb dX12_laysChain_26 rfl (lv_at hl 1 rfl) ?_
    refine lv_imul hx hb dX12_laysChain_27 ?_
    refine lv_aload_n hx hb dX12_laysChain_28 rfl (lv_at hl 0 rfl) ?_
    refine va_get (D := D) (ci := 12) (v := .ref (G.1 20)) (C := RX12) (T := TX12) (N := 34) hx hb hts iwX12 hown hK hP 28 (mg_2 rfl) rfl 22 (by decide) (hts _ mw_980) (fun _ h9 => h9) rfl dX12_laysChain_29 ?_
    refine lv_iconst (v := 0) hx hb dX12_laysChain_32 (by decide) ?_
    obtain ⟨xq34, hfq35, h⟩ := obd h
    refine va_callv (va_runS (As := [.ref (G.1 5), .int (4 * p1), .ref (G.1 20), .int 0]) (rest := []) ⟨hx, hb, hml, hown, hts⟩ (kX12_copies l D G _ 5 rfl (4 * p1) 20 rfl 0 xq34 hfq35) (va_cwS 4 hts (lwW_gS mw_955 mw_956 mw_14 mw_957) rfl rfl rfl (by decide +kernel) ⟨Nat.le_of_ble_eq_true rfl, Nat.le_of_ble_eq_true rfl⟩) ⟨fun a U g mk q => ⟨q.1, mPre_call q.2⟩, fun U hU hW => ⟨rfl, mPre_at h0 hS hP hU hW⟩⟩ rfl rfl hl.1 rfl (lv_room (Nat.le_of_ble_eq_true rfl)) dX12_laysChain_33 ⟨Nat.zero_le _, Nat.zero_le _⟩) hS (fun q _ h => h) (fun q h => h) (fun u t H1 locs ht hvm hw hB hz1 hq1 hS => ?_)
    obtain rfl := hw.symm
    have hP := hB.1
    rw [ht] at hP
    refine W.widen (k := 0) (n := 0) (Nat.le_refl _) (Nat.le_refl _) ?_
    refine lv_iconst (v := 0) hx hb dX12_laysChain_36 (by decide) ?_
    refine lv_istore_n (lv' := [(2, .int 0), (0, .ref (G.1 28)), (1, .int p1)]) hx hb dX12_laysChain_37 rfl hl (by decide) rfl (fun ls hl => ?_)
    exact L38 FU 0 _ _ _ _ h hP hS (lv_sub hl [1, 2, 0] rfl)
  refine lv_aload_n hx hb dX12_laysChain_0 rfl (lv_at hl 0 rfl) ?_
  refine va_get (D := D) (ci := 12) (v := .ref (G.1 18)) (C := RX12) (T := TX12) (N := 34) hx hb hts iwX12 hown hK hP 28 (mg_2 rfl) rfl 20 (by decide) (hts _ mw_978) (fun _ h9 => h9) rfl dX12_laysChain_1 ?_
  refine lv_iload_n hx hb dX12_laysChain_4 rfl (lv_at hl 1 rfl) ?_
  refine lv_aload_n hx hb dX12_laysChain_5 rfl (lv_at hl 0 rfl) ?_
  refine va_get (D := D) (ci := 12) (v := .ref (G.1 17)) (C := RX12) (T := TX12) (N := 34) hx hb hts iwX12 hown hK hP 28 (mg_2 rfl) rfl 19 (by decide) (hts _ mw_977) (fun _ h9 => h9) rfl dX12_laysChain_6 ?_
  refine lv_iload_n hx hb dX12_laysChain_9 rfl (lv_at hl 1 rfl) ?_
  obtain ⟨hiq36, h⟩ := nif h
  refine va_iald hx hb hK hP 17 0 (mg_0 rfl) rfl hiq36 dX12_laysChain_10 ?_
  refine lv_iconst (v := 1) hx hb dX12_laysChain_11 (by decide) ?_
  refine lv_icmp_ne (tgt := 19) hx hb dX12_laysChain_12 (by decide) (fun hcq37 => ?_) (fun hcq37 => ?_)
  · have h := ifn hcq37 h
    refine lv_iconst (v := 0) hx hb dX12_laysChain_19 (by decide) ?_
    exact J20 18 rfl p1 0 _ _ _ _ h hP hS (lv_sub hl [0, 1] rfl)
  have h := ifp hcq37 h
  refine lv_iconst (v := 1) hx hb dX12_laysChain_15 (by decide) ?_
  refine lv_goto (tgt := 20) hx hb dX12_laysChain_16 (by decide) ?_
  exact J20 18 rfl p1 1 _ _ _ _ h hP hS (lv_sub hl [0, 1] rfl)
