theorem mw_1061 : Cond.arrayClass .boolean ∈ lwW := lwW_at 1061 (by decide +kernel) rfl
theorem mw_916 : Cond.methodLink RX12 1 objectInit ∈ lwW := lwW_at 916 (by decide +kernel) rfl
/-! THE REFERENCE AS MADE -/
abbrev vX12 (T : Nat → ClassId) (f : Nat → Nat) : va_W := [(f 28, .inr (12, [.ref (f 0), .ref (f 1), .ref (f 2), .ref (f 3), .ref (f 4), .ref (f 5), .int 0, .ref (f 6), .ref (f 7), .ref (f 8), .ref (f 9), .ref (f 10), .ref (f 11), .ref (f 12), .ref (f 13), .int 0, .ref (f 14), .ref (f 15), .ref (f 16), .ref (f 17), .ref (f 18), .ref (f 19), .ref (f 20), .ref (f 21), .ref (f 22), .ref (f 23), .int 0, .int 0, .int 0, .ref (f 24), .ref (f 25), .ref (f 26), .ref (f 27), .int 0])), (f 0, eI T 601), (f 1, eI T 96), (f 2, eI T 4), (f 3, eI T 4), (f 4, eI T 4), (f 5, eI T 2400), (f 6, eI T 4), (f 7, eI T 8), (f 8, eI T 4), (f 9, eI T 4), (f 10, eI T 4), (f 11, eI T 4), (f 12, eI T 4), (f 13, eI T 24), (f 14, eI T 192), (f 15, .inl (T 1, 2, .inl (fun _ => 0))), (f 16, eI T 48), (f 17, eI T 600), (f 18, eI T 600), (f 19, eI T 4), (f 20, eI T 4), (f 21, eI T 4), (f 22, eI T 4), (f 23, eI T 200), (f 24, eI T 24), (f 25, eI T 120), (f 26, eI T 3), (f 27, eI T 18)]
theorem vX12_fst (T : Nat → ClassId) (f : Nat → Nat) : (vX12 T f).map Prod.fst = ([28, 0, 1, 2, 3, 4, 5, 6, 7, 8, 9, 10, 11, 12, 13, 14, 15, 16, 17, 18, 19, 20, 21, 22, 23, 24, 25, 26, 27] : List Nat).map f := rfl
theorem mW_inj {A : Nat → Prop} {T : Nat → ClassId} {f : Nat → Nat} (hD : va_D A (vX12 T f)) : wInj 29 f ∧ ∀ k, k < 29 → A (f k) := inj_of hD (vX12_fst T f) (by decide +kernel)
set_option maxHeartbeats 4000000 in
set_option maxRecDepth 100000 in
theorem mW_mk {D : va_G} {T : Nat → ClassId} {f : Nat → Nat} {H : Heap} (hP : va_P D vwCl (vX12 T f) H) : va_P D vwCl (mW (f, T) (fun _ _ => 0)) H := by
  have z0 : va_at D vwCl (f 0, mE (f, T) 0 (fun _ => 0)) H := by rw [mE_0 rfl]; exact hP 1 _ rfl
  have z1 : va_at D vwCl (f 1, mE (f, T) 1 (fun _ => 0)) H := by rw [mE_0 rfl]; exact hP 2 _ rfl
  have z2 : va_at D vwCl (f 2, mE (f, T) 2 (fun _ => 0)) H := by rw [mE_0 rfl]; exact hP 3 _ rfl
  have z3 : va_at D vwCl (f 3, mE (f, T) 3 (fun _ => 0)) H := by rw [mE_0 rfl]; exact hP 4 _ rfl
  have z4 : va_at D vwCl (f 4, mE (f, T) 4 (fun _ => 0)) H := by rw [mE_0 rfl]; exact hP 5 _ rfl
  have z5 : va_at D vwCl (f 5, mE (f, T) 5 (fun _ => 0)) H := by rw [mE_0 rfl]; exact hP 6 _ rfl
  have z6 : va_at D vwCl (f 6, mE (f, T) 6 (fun _ => 0)) H := by rw [mE_0 rfl]; exact hP 7 _ rfl
  have z7 : va_at D vwCl (f 7, mE (f, T) 7 (fun _ => 0)) H := by rw [mE_0 rfl]; exact hP 8 _ rfl
  have z8 : va_at D vwCl (f 8, mE (f, T) 8 (fun _ => 0)) H := by rw [mE_0 rfl]; exact hP 9 _ rfl
  have z9 : va_at D vwCl (f 9, mE (f, T) 9 (fun _ => 0)) H := by rw [mE_0 rfl]; exact hP 10 _ rfl
  have z10 : va_at D vwCl (f 10, mE (f, T) 10 (fun _ => 0)) H := by rw [mE_0 rfl]; exact hP 11 _ rfl
  have z11 : va_at D vwCl (f 11, mE (f, T) 11 (fun _ => 0)) H := by rw [mE_0 rfl]; exact hP 12 _ rfl
  have z12 : va_at D vwCl (f 12, mE (f, T) 12 (fun _ => 0)) H := by rw [mE_0 rfl]; exact hP 13 _ rfl
  have z13 : va_at D vwCl (f 13, mE (f, T) 13 (fun _ => 0)) H := by rw [mE_0 rfl]; exact hP 14 _ rfl
  have z14 : va_at D vwCl (f 14, mE (f, T) 14 (fun _ => 0)) H := by rw [mE_0 rfl]; exact hP 15 _ rfl
  have z15 : va_at D vwCl (f 15, mE (f, T) 15 (fun _ => 0)) H := by rw [mE_1 rfl]; exact hP 16 _ rfl
  have z16 : va_at D vwCl (f 16, mE (f, T) 16 (fun _ => 0)) H := by rw [mE_0 rfl]; exact hP 17 _ rfl
  have z17 : va_at D vwCl (f 17, mE (f, T) 17 (fun _ => 0)) H := by rw [mE_0 rfl]; exact hP 18 _ rfl
  have z18 : va_at D vwCl (f 18, mE (f, T) 18 (fun _ => 0)) H := by rw [mE_0 rfl]; exact hP 19 _ rfl
  have z19 : va_at D vwCl (f 19, mE (f, T) 19 (fun _ => 0)) H := by rw [mE_0 rfl]; exact hP 20 _ rfl
  have z20 : va_at D vwCl (f 20, mE (f, T) 20 (fun _ => 0)) H := by rw [mE_0 rfl]; exact hP 21 _ rfl
  have z21 : va_at D vwCl (f 21, mE (f, T) 21 (fun _ => 0)) H := by rw [mE_0 rfl]; exact hP 22 _ rfl
  have z22 : va_at D vwCl (f 22, mE (f, T) 22 (fun _ => 0)) H := by rw [mE_0 rfl]; exact hP 23 _ rfl
  have z23 : va_at D vwCl (f 23, mE (f, T) 23 (fun _ => 0)) H := by rw [mE_0 rfl]; exact hP 24 _ rfl
  have z24 : va_at D vwCl (f 24, mE (f, T) 24 (fun _ => 0)) H := by rw [mE_0 rfl]; exact hP 25 _ rfl
  have z25 : va_at D vwCl (f 25, mE (f, T) 25 (fun _ => 0)) H := by rw [mE_0 rfl]; exact hP 26 _ rfl
  have z26 : va_at D vwCl (f 26, mE (f, T) 26 (fun _ => 0)) H := by rw [mE_0 rfl]; exact hP 27 _ rfl
  have z27 : va_at D vwCl (f 27, mE (f, T) 27 (fun _ => 0)) H := by rw [mE_0 rfl]; exact hP 28 _ rfl
  have z28 : va_at D vwCl (f 28, mE (f, T) 28 (fun _ => 0)) H := by rw [mE_2 rfl]; exact hP 0 _ rfl
  have zz : ∀ k, k < 29 → va_at D vwCl (f k, mE (f, T) k (fun _ => 0)) H := (lt_up 28 (lt_up 27 (lt_up 26 (lt_up 25 (lt_up 24 (lt_up 23 (lt_up 22 (lt_up 21 (lt_up 20 (lt_up 19 (lt_up 18 (lt_up 17 (lt_up 16 (lt_up 15 (lt_up 14 (lt_up 13 (lt_up 12 (lt_up 11 (lt_up 10 (lt_up 9 (lt_up 8 (lt_up 7 (lt_up 6 (lt_up 5 (lt_up 4 (lt_up 3 (lt_up 2 (lt_up 1 (lt_up 0 lt_no z0) z1) z2) z3) z4) z5) z6) z7) z8) z9) z10) z11) z12) z13) z14) z15) z16) z17) z18) z19) z20) z21) z22) z23) z24) z25) z26) z27) z28)
  intro k q h
  obtain ⟨hk, -⟩ := wW_inv h
  have h2 := (wW_get (N := 29) (ad := f) (E := mE (f, T)) (σ := fun _ _ => 0) hk).symm.trans h
  cases h2
  exact zz k hk
def iA (k : Nat) (μ : QMem) : Prop := (∀ c j, ¬ c = 0 → μ c j = 0) ∧ ∀ i, i < k → μ 0 i = -1
def iB (k : Nat) (μ : QMem) : Prop := (∀ c j, ¬ c = 0 → μ c j = 0) ∧ ∀ i, i < 601 → μ 0 i = rtU k i
def iC (μ : QMem) : Prop := mRt μ ∧ (∀ j, j < 96 → μ 5 j = xU j) ∧ (∀ c j, 7 ≤ c → c < 28 → μ c j = 0) ∧ ∀ j, ¬ j = 6 → μ 28 j = 0
def iD (k : Nat) (μ : QMem) : Prop := iC μ ∧ ∀ i, i < k → μ 1 i = xU i
def iE (k : Nat) (μ : QMem) : Prop := mRt μ ∧ mUn μ ∧ (∀ c j, 7 ≤ c → c < 28 → ¬ c = 26 → μ c j = 0) ∧ (∀ j, ¬ j = 6 → μ 28 j = 0) ∧ ∀ i, i < k → μ 26 i = -1
theorem ms_o {μ : QMem} {k j c : Nat} {v : Int32} (h : ¬ c = k) : ms μ k j v c = μ c := by unfold ms mu; rw [if_neg h]
theorem ms_k {μ : QMem} {k j i : Nat} {v : Int32} : ms μ k j v k i = if i = j then v else μ k i := by unfold ms mu; rw [if_pos rfl]; rfl
theorem iA_up {k : Nat} {μ : QMem} (h : iA k μ) (hk : k < 601) : iA (k + 1) (ms μ 0 (nI k).toNatClampNeg (-1)) := by
  rw [nI_clamp (by omega)]
  refine ⟨fun c j hc => by rw [ms_o hc]; exact h.1 c j hc, fun i hi => ?_⟩
  rw [ms_k]
  by_cases e : i = k
  · rw [if_pos e]
  · rw [if_neg e]; exact h.2 i (by omega)
theorem iB_up {k : Nat} {μ : QMem} (h : iB k μ) (hk : k < 25) : iB (k + 1) (ms μ 0 (nI k * nI k).toNatClampNeg (nI k)) := by
  have h2 : k * k ≤ 24 * 24 := Nat.mul_le_mul (by omega) (by omega)
  rw [nI_mulM, nI_clamp (by omega)]
  refine ⟨fun c j hc => by rw [ms_o hc]; exact h.1 c j hc, fun i hi => ?_⟩
  rw [ms_k]
  show _ = if i = k * k then nI k else rtU k i
  by_cases e : i = k * k
  · rw [if_pos e, if_pos e]
  · rw [if_neg e, if_neg e]; exact h.2 i hi
theorem iD_up {k : Nat} {μ : QMem} (h : iD k μ) (hk : k < 96) : iD (k + 1) (ms μ 1 (nI k).toNatClampNeg (μ 5 (nI k).toNatClampNeg)) := by
  rw [nI_clamp (by omega)]
  obtain ⟨⟨h1, h2, h3, h4⟩, h5⟩ := h
  refine ⟨⟨fun j hj => by rw [ms_o (by decide)]; exact h1 j hj, fun j hj => by rw [ms_o (by decide)]; exact h2 j hj, fun c j ha hb => by rw [ms_o (by omega)]; exact h3 c j ha hb, fun j hj => by rw [ms_o (by decide)]; exact h4 j hj⟩, fun i hi => ?_⟩
  rw [ms_k]
  by_cases e : i = k
  · rw [if_pos e, e]; exact h2 k hk
  · rw [if_neg e]; exact h5 i (by omega)
theorem iE_up {k : Nat} {μ : QMem} (h : iE k μ) (hk : k < 3) : iE (k + 1) (ms μ 26 (nI k).toNatClampNeg (-1)) := by
  rw [nI_clamp (by omega)]
  obtain ⟨h1, h2, h3, h4, h5⟩ := h
  refine ⟨fun j hj => by rw [ms_o (by decide)]; exact h1 j hj, fun j hj => by rw [ms_o (by decide)]; exact h2 j hj, fun c j ha hb hc => by rw [ms_o hc]; exact h3 c j ha hb hc, fun j hj => by rw [ms_o (by decide)]; exact h4 j hj, fun i hi => ?_⟩
  rw [ms_k]
  by_cases e : i = k
  · rw [if_pos e]
  · rw [if_neg e]; exact h5 i (by omega)
theorem iB_mRt {μ : QMem} (h : iB 25 μ) : mRt μ := fun j hj => (h.2 j hj).trans (rtU_ok j hj)
theorem iC_of {μ τ : QMem} (h : iB 25 μ) (h5 : ∀ j, j < 96 → τ 5 j = xU j) (hf : fr gaP (ms μ 28 6 0) τ) : iC τ := by
  have e0 : τ 0 = μ 0 := (hf.1 0 (by unfold gaP; omega) (by decide)).trans (ms_o (by decide))
  refine ⟨fun j hj => by rw [e0]; exact iB_mRt h j hj, h5, fun c j ha hb => ?_, fun j hj => ?_⟩
  · rw [hf.1 c (by unfold gaP; omega) (by omega), ms_o (by omega)]; exact h.1 c j (by omega)
  · rw [hf.2 j hj, ms_k, if_neg hj]; exact h.1 28 j (by decide)
theorem iE_of {μ : QMem} (h : iD 96 μ) : iE 0 μ := ⟨h.1.1, h.2, fun c j ha hb _ => h.1.2.2.1 c j ha hb, h.1.2.2.2, fun i hi => absurd hi (Nat.not_lt_zero i)⟩
set_option maxHeartbeats 4000000 in
theorem mi_A {p : Program} {l : Launch} {e : Env} {s : State} {m : MethodId} {args : Array Value} {below : List Frame} {meth : Method} {c : Code} {Q : State → Prop} {D : va_G} {T : Nat → ClassId} {u : Nat → Nat} {A : Nat → Prop} (hx : p.tables.exec = Jvm.exec) (hb : c.code = cX12_init) (hml : c.maxLocals = 2) (hown : s.vm.findClass RX12 = some m.cls) (hts : ∀ w ∈ lwW, w.before args s = true) (hK : va_K D vwCl (mT (u, T)) s) (hDm : ∀ σ, va_D A (mW (u, T) σ)) (kk : ∀ (μ : QMem) (H : Heap) (locs : List Loc) (ls : Array Slot), iA 601 μ → va_P D vwCl (mW (u, T) μ) H → va_S A s.heap H locs → lv_has ls 2 [(0, .ref (u 28))] → W p l e (headSpec (.code yX12_init cX12_init 2 none :: lwW) (rmC 6 28 4988)).room s m args below meth c H locs 28 4988 Q (F0 m 241 ls [])) : ∀ (j k : Nat) (μ : QMem) (H : Heap) (locs : List Loc) (ls : Array Slot), k + j = 601 → iA k μ → va_P D vwCl (mW (u, T) μ) H → va_S A s.heap H locs → lv_has ls 2 [(1, .int (nI k)), (0, .ref (u 28))] → W p l e (headSpec (.code yX12_init cX12_init 2 none :: lwW) (rmC 6 28 4988)).room s m args below meth c H locs 28 4988 Q (F0 m 221 ls []) := by
  intro j
  induction j with
  | zero =>
    intro k μ H locs ls hk hI hP hS hl
    obtain rfl : k = 601 := by omega
    refine lv_iload_n hx hb dX12_init_221 rfl (lv_at hl 0 rfl) ?_
    refine lv_sipush (v := nI 601) hx hb dX12_init_222 (by decide) ?_
    refine lv_icmp_ge (tgt := 241) hx hb dX12_init_225 (by decide) (fun _ => ?_) (fun hc => absurd (nI_le (Nat.le_refl _) (by omega)) hc)
    exact kk μ H locs ls hI hP hS (lv_sub hl [1] rfl)
  | succ j ih =>
    intro k μ H locs ls hk hI hP hS hl
    refine lv_iload_n hx hb dX12_init_221 rfl (lv_at hl 0 rfl) ?_
    refine lv_sipush (v := nI 601) hx hb dX12_init_222 (by decide) ?_
    refine lv_icmp_ge (tgt := 241) hx hb dX12_init_225 (by decide) (fun hc => absurd hc (nI_ge (by omega) (by omega))) (fun _ => ?_)
    refine lv_aload_n hx hb dX12_init_228 rfl (lv_at hl 1 rfl) ?_
    refine va_get (D := D) (ci := 12) (v := .ref (u 0)) (C := RX12) (T := TX12) (N := 34) hx hb hts iwX12 hown hK hP 28 (mg_2 rfl) rfl 0 (by decide) (hts _ mw_958) (fun _ h9 => h9) rfl dX12_init_229 ?_
    refine lv_iload_n hx hb dX12_init_232 rfl (lv_at hl 0 rfl) ?_
    refine lv_iconst (v := -1) hx hb dX12_init_233 (by decide) ?_
    refine va_iast hx hb hK hP (hDm _) hS 0 0 (mg_0 rfl) rfl (vp_in_nI (by show k < 601; omega) (by decide)) dX12_init_234 (fun H locs hP hD hS => ?_)
    have hP : va_P D vwCl (mW (u, T) (ms μ 0 (nI k).toNatClampNeg (-1))) H := by rw [← ms_0x rfl]; exact hP
    refine lv_iinc (v := nI (k + 1)) (lv' := [(1, .int (nI (k + 1))), (0, .ref (u 28))]) hx hb dX12_init_235 hl (k := 0) rfl (nI_1 k) (by decide) rfl (fun ls hl => ?_)
    refine lv_goto (tgt := 221) hx hb dX12_init_238 (by decide) ?_
    exact ih (k + 1) _ H locs ls (by omega) (iA_up hI (by omega)) hP hS hl
set_option maxHeartbeats 4000000 in
theorem mi_B {p : Program} {l : Launch} {e : Env} {s : State} {m : MethodId} {args : Array Value} {below : List Frame} {meth : Method} {c : Code} {Q : State → Prop} {D : va_G} {T : Nat → ClassId} {u : Nat → Nat} {A : Nat → Prop} (hx : p.tables.exec = Jvm.exec) (hb : c.code = cX12_init) (hml : c.maxLocals = 2) (hown : s.vm.findClass RX12 = some m.cls) (hts : ∀ w ∈ lwW, w.before args s = true) (hK : va_K D vwCl (mT (u, T)) s) (hDm : ∀ σ, va_D A (mW (u, T) σ)) (kk : ∀ (μ : QMem) (H : Heap) (locs : List Loc) (ls : Array Slot), iB 25 μ → va_P D vwCl (mW (u, T) μ) H → va_S A s.heap H locs → lv_has ls 2 [(0, .ref (u 28))] → W p l e (headSpec (.code yX12_init cX12_init 2 none :: lwW) (rmC 6 28 4988)).room s m args below meth c H locs 28 4988 Q (F0 m 264 ls [])) : ∀ (j k : Nat) (μ : QMem) (H : Heap) (locs : List Loc) (ls : Array Slot), k + j = 25 → iB k μ → va_P D vwCl (mW (u, T) μ) H → va_S A s.heap H locs → lv_has ls 2 [(1, .int (nI k)), (0, .ref (u 28))] → W p l e (headSpec (.code yX12_init cX12_init 2 none :: lwW) (rmC 6 28 4988)).room s m args below meth c H locs 28 4988 Q (F0 m 243 ls []) := by
  intro j
  induction j with
  | zero =>
    intro k μ H locs ls hk hI hP hS hl
    obtain rfl : k = 25 := by omega
    refine lv_iload_n hx hb dX12_init_243 rfl (lv_at hl 0 rfl) ?_
    refine lv_bipush (v := nI 25) hx hb dX12_init_244 (by decide) ?_
    refine lv_icmp_ge (tgt := 264) hx hb dX12_init_246 (by decide) (fun _ => ?_) (fun hc => absurd (nI_le (Nat.le_refl _) (by omega)) hc)
    exact kk μ H locs ls hI hP hS (lv_sub hl [1] rfl)
  | succ j ih =>
    intro k μ H locs ls hk hI hP hS hl
    refine lv_iload_n hx hb dX12_init_243 rfl (lv_at hl 0 rfl) ?_
    refine lv_bipush (v := nI 25) hx hb dX12_init_244 (by decide) ?_
    refine lv_icmp_ge (tgt := 264) hx hb dX12_init_246 (by decide) (fun hc => absurd hc (nI_ge (by omega) (by omega))) (fun _ => ?_)
    refine lv_aload_n hx hb dX12_init_249 rfl (lv_at hl 1 rfl) ?_
    refine va_get (D := D) (ci := 12) (v := .ref (u 0)) (C := RX12) (T := TX12) (N := 34) hx hb hts iwX12 hown hK hP 28 (mg_2 rfl) rfl 0 (by decide) (hts _ mw_958) (fun _ h9 => h9) rfl dX12_init_250 ?_
    refine lv_iload_n hx hb dX12_init_253 rfl (lv_at hl 0 rfl) ?_
    refine lv_iload_n hx hb dX12_init_254 rfl (lv_at hl 0 rfl) ?_
    refine lv_imul hx hb dX12_init_255 ?_
    refine lv_iload_n hx hb dX12_init_256 rfl (lv_at hl 0 rfl) ?_
    have h24 : k * k ≤ 24 * 24 := Nat.mul_le_mul (by omega) (by omega)
    refine va_iast hx hb hK hP (hDm _) hS 0 0 (mg_0 rfl) rfl (by rw [nI_mulM]; exact vp_in_nI (by show k * k < 601; omega) (by decide)) dX12_init_257 (fun H locs hP hD hS => ?_)
    have hP : va_P D vwCl (mW (u, T) (ms μ 0 (nI k * nI k).toNatClampNeg (nI k))) H := by rw [← ms_0x rfl]; exact hP
    refine lv_iinc (v := nI (k + 1)) (lv' := [(1, .int (nI (k + 1))), (0, .ref (u 28))]) hx hb dX12_init_258 hl (k := 0) rfl (nI_1 k) (by decide) rfl (fun ls hl => ?_)
    refine lv_goto (tgt := 243) hx hb dX12_init_261 (by decide) ?_
    exact ih (k + 1) _ H locs ls (by omega) (iB_up hI (by omega)) hP hS hl
set_option maxHeartbeats 4000000 in
theorem mi_D {p : Program} {l : Launch} {e : Env} {s : State} {m : MethodId} {args : Array Value} {below : List Frame} {meth : Method} {c : Code} {Q : State → Prop} {D : va_G} {T : Nat → ClassId} {u : Nat → Nat} {A : Nat → Prop} (hx : p.tables.exec = Jvm.exec) (hb : c.code = cX12_init) (hml : c.maxLocals = 2) (hown : s.vm.findClass RX12 = some m.cls) (hts : ∀ w ∈ lwW, w.before args s = true) (hK : va_K D vwCl (mT (u, T)) s) (hDm : ∀ σ, va_D A (mW (u, T) σ)) (kk : ∀ (μ : QMem) (H : Heap) (locs : List Loc) (ls : Array Slot), iD 96 μ → va_P D vwCl (mW (u, T) μ) H → va_S A s.heap H locs → lv_has ls 2 [(0, .ref (u 28))] → W p l e (headSpec (.code yX12_init cX12_init 2 none :: lwW) (rmC 6 28 4988)).room s m args below meth c H locs 28 4988 Q (F0 m 305 ls [])) : ∀ (j k : Nat) (μ : QMem) (H : Heap) (locs : List Loc) (ls : Array Slot), k + j = 96 → iD k μ → va_P D vwCl (mW (u, T) μ) H → va_S A s.heap H locs → lv_has ls 2 [(1, .int (nI k)), (0, .ref (u 28))] → W p l e (headSpec (.code yX12_init cX12_init 2 none :: lwW) (rmC 6 28 4988)).room s m args below meth c H locs 28 4988 Q (F0 m 281 ls []) := by
  intro j
  induction j with
  | zero =>
    intro k μ H locs ls hk hI hP hS hl
    obtain rfl : k = 96 := by omega
    refine lv_iload_n hx hb dX12_init_281 rfl (lv_at hl 0 rfl) ?_
    refine lv_bipush (v := nI 96) hx hb dX12_init_282 (by decide) ?_
    refine lv_icmp_ge (tgt := 305) hx hb dX12_init_284 (by decide) (fun _ => ?_) (fun hc => absurd (nI_le (Nat.le_refl _) (by omega)) hc)
    exact kk μ H locs ls hI hP hS (lv_sub hl [1] rfl)
  | succ j ih =>
    intro k μ H locs ls hk hI hP hS hl
    refine lv_iload_n hx hb dX12_init_281 rfl (lv_at hl 0 rfl) ?_
    refine lv_bipush (v := nI 96) hx hb dX12_init_282 (by decide) ?_
    refine lv_icmp_ge (tgt := 305) hx hb dX12_init_284 (by decide) (fun hc => absurd hc (nI_ge (by omega) (by omega))) (fun _ => ?_)
    refine lv_aload_n hx hb dX12_init_287 rfl (lv_at hl 1 rfl) ?_
    refine va_get (D := D) (ci := 12) (v := .ref (u 1)) (C := RX12) (T := TX12) (N := 34) hx hb hts iwX12 hown hK hP 28 (mg_2 rfl) rfl 1 (by decide) (hts _ mw_959) (fun _ h9 => h9) rfl dX12_init_288 ?_
    refine lv_iload_n hx hb dX12_init_291 rfl (lv_at hl 0 rfl) ?_
    refine lv_aload_n hx hb dX12_init_292 rfl (lv_at hl 1 rfl) ?_
    refine va_get (D := D) (ci := 12) (v := .ref (u 5)) (C := RX12) (T := TX12) (N := 34) hx hb hts iwX12 hown hK hP 28 (mg_2 rfl) rfl 5 (by decide) (hts _ mw_963) (fun _ h9 => h9) rfl dX12_init_293 ?_
    refine lv_iload_n hx hb dX12_init_296 rfl (lv_at hl 0 rfl) ?_
    refine va_iald hx hb hK hP 5 0 (mg_0 rfl) rfl (vp_in_nI (by show k < 2400; omega) (by decide)) dX12_init_297 ?_
    refine va_iast hx hb hK hP (hDm _) hS 1 0 (mg_0 rfl) rfl (vp_in_nI (by show k < 96; omega) (by decide)) dX12_init_298 (fun H locs hP hD hS => ?_)
    have hP : va_P D vwCl (mW (u, T) (ms μ 1 (nI k).toNatClampNeg (μ 5 (nI k).toNatClampNeg))) H := by rw [← ms_0x rfl]; exact hP
    refine lv_iinc (v := nI (k + 1)) (lv' := [(1, .int (nI (k + 1))), (0, .ref (u 28))]) hx hb dX12_init_299 hl (k := 0) rfl (nI_1 k) (by decide) rfl (fun ls hl => ?_)
    refine lv_goto (tgt := 281) hx hb dX12_init_302 (by decide) ?_
    exact ih (k + 1) _ H locs ls (by omega) (iD_up hI (by omega)) hP hS hl
set_option maxHeartbeats 4000000 in
theorem mi_E {p : Program} {l : Launch} {e : Env} {s : State} {m : MethodId} {args : Array Value} {below : List Frame} {meth : Method} {c : Code} {Q : State → Prop} {D : va_G} {T : Nat → ClassId} {u : Nat → Nat} {A : Nat → Prop} (hx : p.tables.exec = Jvm.exec) (hb : c.code = cX12_init) (hml : c.maxLocals = 2) (hown : s.vm.findClass RX12 = some m.cls) (hts : ∀ w ∈ lwW, w.before args s = true) (hK : va_K D vwCl (mT (u, T)) s) (hDm : ∀ σ, va_D A (mW (u, T) σ)) (kk : ∀ (μ : QMem) (H : Heap) (locs : List Loc) (ls : Array Slot), iE 3 μ → va_P D vwCl (mW (u, T) μ) H → va_S A s.heap H locs → lv_has ls 2 [(0, .ref (u 28))] → W p l e (headSpec (.code yX12_init cX12_init 2 none :: lwW) (rmC 6 28 4988)).room s m args below meth c H locs 28 4988 Q (F0 m 325 ls [])) : ∀ (j k : Nat) (μ : QMem) (H : Heap) (locs : List Loc) (ls : Array Slot), k + j = 3 → iE k μ → va_P D vwCl (mW (u, T) μ) H → va_S A s.heap H locs → lv_has ls 2 [(1, .int (nI k)), (0, .ref (u 28))] → W p l e (headSpec (.code yX12_init cX12_init 2 none :: lwW) (rmC 6 28 4988)).room s m args below meth c H locs 28 4988 Q (F0 m 307 ls []) := by
  intro j
  induction j with
  | zero =>
    intro k μ H locs ls hk hI hP hS hl
    obtain rfl : k = 3 := by omega
    refine lv_iload_n hx hb dX12_init_307 rfl (lv_at hl 0 rfl) ?_
    refine lv_iconst (v := nI 3) hx hb dX12_init_308 (by decide) ?_
    refine lv_icmp_ge (tgt := 325) hx hb dX12_init_309 (by decide) (fun _ => ?_) (fun hc => absurd (nI_le (Nat.le_refl _) (by omega)) hc)
    exact kk μ H locs ls hI hP hS (lv_sub hl [1] rfl)
  | succ j ih =>
    intro k μ H locs ls hk hI hP hS hl
    refine lv_iload_n hx hb dX12_init_307 rfl (lv_at hl 0 rfl) ?_
    refine lv_iconst (v := nI 3) hx hb dX12_init_308 (by decide) ?_
    refine lv_icmp_ge (tgt := 325) hx hb dX12_init_309 (by decide) (fun hc => absurd hc (nI_ge (by omega) (by omega))) (fun _ => ?_)
    refine lv_aload_n hx hb dX12_init_312 rfl (lv_at hl 1 rfl) ?_
    refine va_get (D := D) (ci := 12) (v := .ref (u 26)) (C := RX12) (T := TX12) (N := 34) hx hb hts iwX12 hown hK hP 28 (mg_2 rfl) rfl 31 (by decide) (hts _ mw_989) (fun _ h9 => h9) rfl dX12_init_313 ?_
    refine lv_iload_n hx hb dX12_init_316 rfl (lv_at hl 0 rfl) ?_
    refine lv_iconst (v := -1) hx hb dX12_init_317 (by decide) ?_
    refine va_iast hx hb hK hP (hDm _) hS 26 0 (mg_0 rfl) rfl (vp_in_nI (by show k < 3; omega) (by decide)) dX12_init_318 (fun H locs hP hD hS => ?_)
    have hP : va_P D vwCl (mW (u, T) (ms μ 26 (nI k).toNatClampNeg (-1))) H := by rw [← ms_0x rfl]; exact hP
    refine lv_iinc (v := nI (k + 1)) (lv' := [(1, .int (nI (k + 1))), (0, .ref (u 28))]) hx hb dX12_init_319 hl (k := 0) rfl (nI_1 k) (by decide) rfl (fun ls hl => ?_)
    refine lv_goto (tgt := 307) hx hb dX12_init_322 (by decide) ?_
    exact ih (k + 1) _ H locs ls (by omega) (iE_up hI (by omega)) hP hS hl
set_option maxHeartbeats 4000000 in
theorem mi_C {p : Program} {l : Launch} {e : Env} {s : State} {m : MethodId} {args : Array Value} {below : List Frame} {meth : Method} {c : Code} {Q : State → Prop} {D : va_G} {T : Nat → ClassId} {u : Nat → Nat} {A : Nat → Prop} (hx : p.tables.exec = Jvm.exec) (hb : c.code = cX12_init) (hml : c.maxLocals = 2) (hown : s.vm.findClass RX12 = some m.cls) (hts : ∀ w ∈ lwW, w.before args s = true) (hK : va_K D vwCl (mT (u, T)) s) (hDm : ∀ σ, va_D A (mW (u, T) σ)) (hi : wInj 29 u) (hAm : ∀ q, mA (u, T) q → A q) (kk : ∀ (μ : QMem) (H : Heap) (locs : List Loc) (ls : Array Slot), iC μ → va_P D vwCl (mW (u, T) μ) H → va_S A s.heap H locs → lv_has ls 2 [(0, .ref (u 28))] → W p l e (headSpec (.code yX12_init cX12_init 2 none :: lwW) (rmC 6 28 4988)).room s m args below meth c H locs 28 4988 Q (F0 m 279 ls [])) (μ : QMem) (H : Heap) (locs : List Loc) (ls : Array Slot) (hI : iB 25 μ) (hP : va_P D vwCl (mW (u, T) μ) H) (hS : va_S A s.heap H locs) (hl : lv_has ls 2 [(0, .ref (u 28))]) : W p l e (headSpec (.code yX12_init cX12_init 2 none :: lwW) (rmC 6 28 4988)).room s m args below meth c H locs 28 4988 Q (F0 m 264 ls []) := by
  refine lv_aload_n hx hb dX12_init_264 rfl (lv_at hl 0 rfl) ?_
  refine lv_iconst (v := 0) hx hb dX12_init_265 (by decide) ?_
  refine va_put (D := D) (ci := 12) (v := .int 0) (ty := .int) (C := RX12) (T := TX12) (N := 34) hx hb hts iwX12 tyX12 tyX12_ok nmX12 hown hK hP (hDm _) hS 28 (mg_2 rfl) rfl 6 (by decide) (hts _ mw_964) (fun _ h9 => h9) rfl (by decide +kernel) rfl rfl (Nat.le_of_ble_eq_true rfl) dX12_init_266 (fun H locs hP hD hS => ?_)
  have hP : va_P D vwCl (mW (u, T) (ms μ 28 6 0)) H := by rw [← ms_2_6 rfl]; exact hP
  obtain ⟨τ, hτ, h5, hf⟩ := m_start (μ := ms μ 28 6 0) (fun j hj => by rw [ms_o (by decide)]; exact iB_mRt hI j hj) (by rw [ms_k, if_pos rfl])
  refine lv_aload_n hx hb dX12_init_269 rfl (lv_at hl 0 rfl) ?_
  refine lv_iconst (v := 1) hx hb dX12_init_270 (by decide) ?_
  refine lv_iconst (v := 0) hx hb dX12_init_271 (by decide) ?_
  refine lv_iconst (v := 0) hx hb dX12_init_272 (by decide) ?_
  refine lv_iconst (v := 0) hx hb dX12_init_273 (by decide) ?_
  refine lv_bipush (v := 24) hx hb dX12_init_274 (by decide) ?_
  refine va_callv (va_runV (As := [.int 1, .int 0, .int 0, .int 0, .int 24]) (rest := []) ⟨hx, hb, hml, hown, hts⟩ (kX12_gathers l D (u, T) _ 1 0 0 0 24 τ hτ) (cwV 5 hts (lwW_gV mw_917 mw_919 ms_25 mw_14 mw_920) rfl rfl rfl (by decide +kernel) ⟨Nat.le_of_ble_eq_true rfl, Nat.le_of_ble_eq_true rfl⟩) ⟨fun a U g mk q => ⟨q.1, mPre_call q.2⟩, va_recv hK hP rfl (mg_2 rfl), fun U hU hW => ⟨rfl, ⟨by rw [hU]; exact hP, va_K.moved hW.alike hK, hi⟩⟩⟩ rfl rfl hl.1 rfl (lv_room (Nat.le_of_ble_eq_true rfl)) dX12_init_276 ⟨Nat.le_of_ble_eq_true rfl, Nat.le_of_ble_eq_true rfl⟩) hS (fun q _ h => hAm q h) (fun q h => hAm q h) (fun v t H1 locs ht hvm hw hB hz1 hq1 hS => ?_)
  obtain rfl := hw.symm
  have hP := hB.1
  rw [ht] at hP
  refine W.widen (k := 28) (n := 4988) (Nat.le_refl _) (Nat.le_refl _) ?_
  exact kk _ H1 locs ls (iC_of hI h5 hf) hP hS hl
set_option maxHeartbeats 4000000 in
theorem mi_all {p : Program} {l : Launch} {e : Env} {s : State} {m : MethodId} {args : Array Value} {below : List Frame} {meth : Method} {c : Code} {Q : State → Prop} {D : va_G} {T : Nat → ClassId} {u : Nat → Nat} {A : Nat → Prop} (hx : p.tables.exec = Jvm.exec) (hb : c.code = cX12_init) (hml : c.maxLocals = 2) (hown : s.vm.findClass RX12 = some m.cls) (hts : ∀ w ∈ lwW, w.before args s = true) (hK : va_K D vwCl (mT (u, T)) s) (hDm : ∀ σ, va_D A (mW (u, T) σ)) (hi : wInj 29 u) (hAm : ∀ q, mA (u, T) q → A q) (kk : ∀ (μ : QMem) (H : Heap) (locs : List Loc) (ls : Array Slot), iE 3 μ → va_P D vwCl (mW (u, T) μ) H → va_S A s.heap H locs → lv_has ls 2 [(0, .ref (u 28))] → W p l e (headSpec (.code yX12_init cX12_init 2 none :: lwW) (rmC 6 28 4988)).room s m args below meth c H locs 28 4988 Q (F0 m 325 ls [])) (H : Heap) (locs : List Loc) (ls : Array Slot) (hP : va_P D vwCl (mW (u, T) (fun _ _ => 0)) H) (hS : va_S A s.heap H locs) (hl : lv_has ls 2 [(0, .ref (u 28))]) : W p l e (headSpec (.code yX12_init cX12_init 2 none :: lwW) (rmC 6 28 4988)).room s m args below meth c H locs 28 4988 Q (F0 m 219 ls []) := by
  refine lv_iconst (v := nI 0) hx hb dX12_init_219 (by decide) ?_
  refine lv_istore_n (lv' := [(1, .int (nI 0)), (0, .ref (u 28))]) hx hb dX12_init_220 rfl hl (by decide) rfl (fun ls hl => ?_)
  refine mi_A hx hb hml hown hts hK hDm ?_ 601 0 _ H locs ls (by omega) ⟨fun _ _ _ => rfl, fun i hi => absurd hi (Nat.not_lt_zero i)⟩ hP hS hl
  intro μ H locs ls hI hP hS hl
  refine lv_iconst (v := nI 0) hx hb dX12_init_241 (by decide) ?_
  refine lv_istore_n (lv' := [(1, .int (nI 0)), (0, .ref (u 28))]) hx hb dX12_init_242 rfl hl (by decide) rfl (fun ls hl => ?_)
  refine mi_B hx hb hml hown hts hK hDm ?_ 25 0 _ H locs ls (by omega) ⟨hI.1, hI.2⟩ hP hS hl
  intro μ H locs ls hI hP hS hl
  refine mi_C hx hb hml hown hts hK hDm hi hAm ?_ μ H locs ls hI hP hS hl
  intro μ H locs ls hI hP hS hl
  refine lv_iconst (v := nI 0) hx hb dX12_init_279 (by decide) ?_
  refine lv_istore_n (lv' := [(1, .int (nI 0)), (0, .ref (u 28))]) hx hb dX12_init_280 rfl hl (by decide) rfl (fun ls hl => ?_)
  refine mi_D hx hb hml hown hts hK hDm ?_ 96 0 _ H locs ls (by omega) ⟨hI, fun i hi => absurd hi (Nat.not_lt_zero i)⟩ hP hS hl
  intro μ H locs ls hI hP hS hl
  refine lv_iconst (v := nI 0) hx hb dX12_init_305 (by decide) ?_
  refine lv_istore_n (lv' := [(1, .int (nI 0)), (0, .ref (u 28))]) hx hb dX12_init_306 rfl hl (by decide) rfl (fun ls hl => ?_)
  refine mi_E hx hb hml hown hts hK hDm ?_ 3 0 _ H locs ls (by omega) (iE_of hI) hP hS hl
  intro μ H locs ls hI hP hS hl
  exact kk μ H locs ls hI hP hS hl
