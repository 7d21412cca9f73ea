/-- class and reference answer alike, and go on alike: what stage 2 owes -/
def Agree (St : QMem → QMem → Prop) : Prop :=
  (∀ (σ μ : QMem) (a1 : Int32), St σ μ → ∃ (r : Int32) (σ2 μ2 : QMem), fX11_write a1 σ = some (r, σ2) ∧ fX12_write a1 μ = some (r, μ2) ∧ St σ2 μ2) ∧
  (∀ (σ μ : QMem), St σ μ → ∃ (r : Int32) (σ2 μ2 : QMem), fX11_erase σ = some (r, σ2) ∧ fX12_erase μ = some (r, μ2) ∧ St σ2 μ2) ∧
  (∀ (σ μ : QMem), St σ μ → ∃ (r : Int32) (σ2 μ2 : QMem), fX11_fault σ = some (r, σ2) ∧ fX12_fault μ = some (r, μ2) ∧ St σ2 μ2) ∧
  (∀ (σ μ : QMem), St σ μ → ∃ (r : Int32) (σ2 μ2 : QMem), fX11_desk σ = some (r, σ2) ∧ fX12_desk μ = some (r, μ2) ∧ St σ2 μ2) ∧
  (∀ (σ μ : QMem) (a1 : Int32) (a2 : Int32), St σ μ → ∃ (r : Int32) (σ2 μ2 : QMem), fX11_number a1 a2 σ = some (r, σ2) ∧ fX12_number a1 a2 μ = some (r, μ2) ∧ St σ2 μ2) ∧
  (∀ (σ μ : QMem) (a1 : Int32) (a2 : Int32), St σ μ → ∃ (r : Int32) (σ2 μ2 : QMem), fX11_of a1 a2 σ = some (r, σ2) ∧ fX12_of a1 a2 μ = some (r, μ2) ∧ St σ2 μ2) ∧
  (∀ (σ μ : QMem) (a1 : Int32) (a2 : Int32), St σ μ → ∃ (r : Int32) (σ2 μ2 : QMem), fX11_unit a1 a2 σ = some (r, σ2) ∧ fX12_unit a1 a2 μ = some (r, μ2) ∧ St σ2 μ2) ∧
  (∀ (σ μ : QMem) (a1 : Int32) (a2 : Int32) (a3 : Int32) (a4 : Int32) (a5 : Int32), St σ μ → ∃ (r : Int32) (σ2 μ2 : QMem), fX11_set a1 a2 a3 a4 a5 σ = some (r, σ2) ∧ fX12_set a1 a2 a3 a4 a5 μ = some (r, μ2) ∧ St σ2 μ2) ∧
  (∀ (σ μ : QMem) (a1 : Int32) (a2 : Int32), St σ μ → ∃ (r : Int32) (σ2 μ2 : QMem), fX11_add a1 a2 σ = some (r, σ2) ∧ fX12_add a1 a2 μ = some (r, μ2) ∧ St σ2 μ2) ∧
  (∀ (σ μ : QMem) (a1 : Int32) (a2 : Int32) (a3 : Int32), St σ μ → ∃ (r : Int32) (σ2 μ2 : QMem), fX11_times a1 a2 a3 σ = some (r, σ2) ∧ fX12_times a1 a2 a3 μ = some (r, μ2) ∧ St σ2 μ2) ∧
  (∀ (σ μ : QMem) (a1 : Int32) (a2 : Int32), St σ μ → ∃ (r : Int32) (σ2 μ2 : QMem), fX11_turn a1 a2 σ = some (r, σ2) ∧ fX12_turn a1 a2 μ = some (r, μ2) ∧ St σ2 μ2) ∧
  (∀ (σ μ : QMem) (a1 : Int32) (a2 : Int32) (a3 : Int32) (a4 : Int32), St σ μ → ∃ (r : Int32) (σ2 μ2 : QMem), fX11_divide a1 a2 a3 a4 σ = some (r, σ2) ∧ fX12_divide a1 a2 a3 a4 μ = some (r, μ2) ∧ St σ2 μ2) ∧
  (∀ (σ μ : QMem) (a1 : Int32) (a2 : Int32) (a3 : Int32), St σ μ → ∃ (r : Int32) (σ2 μ2 : QMem), fX11_common a1 a2 a3 σ = some (r, σ2) ∧ fX12_common a1 a2 a3 μ = some (r, μ2) ∧ St σ2 μ2) ∧
  (∀ (σ μ : QMem), St σ μ → ∃ (r : Int32) (σ2 μ2 : QMem), fX11_undo σ = some (r, σ2) ∧ fX12_undo μ = some (r, μ2) ∧ St σ2 μ2) ∧
  (∀ (σ μ : QMem) (a1 : Int32), St σ μ → ∃ (r : Int32) (σ2 μ2 : QMem), fX11_keep a1 σ = some (r, σ2) ∧ fX12_keep a1 μ = some (r, μ2) ∧ St σ2 μ2) ∧
  (∀ (σ μ : QMem) (a1 : Int32), St σ μ → ∃ (r : Int32) (σ2 μ2 : QMem), fX11_back a1 σ = some (r, σ2) ∧ fX12_back a1 μ = some (r, μ2) ∧ St σ2 μ2) ∧
  (∀ (σ μ : QMem) (a1 : Int32) (a2 : Int32) (a3 : Int32), St σ μ → ∃ (r : Int32) (σ2 μ2 : QMem), fX11_divides a1 a2 a3 σ = some (r, σ2) ∧ fX12_divides a1 a2 a3 μ = some (r, μ2) ∧ St σ2 μ2) ∧
  (∀ (σ μ : QMem) (a1 : Int32) (a2 : Int32) (a3 : Int32) (a4 : Int32), St σ μ → ∃ (r : Int32) (σ2 μ2 : QMem), fX11_nearest a1 a2 a3 a4 σ = some (r, σ2) ∧ fX12_nearest a1 a2 a3 a4 μ = some (r, μ2) ∧ St σ2 μ2) ∧
  (∀ (σ μ : QMem) (a1 : Int32) (a2 : Int32) (a3 : Int32), St σ μ → ∃ (r : Int32) (σ2 μ2 : QMem), fX11_steps a1 a2 a3 σ = some (r, σ2) ∧ fX12_steps a1 a2 a3 μ = some (r, μ2) ∧ St σ2 μ2) ∧
  (∀ (σ μ : QMem) (a1 : Int32) (a2 : Int32) (a3 : Int32) (a4 : Int32), St σ μ → ∃ (r : Int32) (σ2 μ2 : QMem), fX11_mate a1 a2 a3 a4 σ = some (r, σ2) ∧ fX12_mate a1 a2 a3 a4 μ = some (r, μ2) ∧ St σ2 μ2) ∧
  (∀ (σ μ : QMem) (a1 : Int32) (a2 : Int32) (a3 : Int32), St σ μ → ∃ (r : Int32) (σ2 μ2 : QMem), fX11_factor a1 a2 a3 σ = some (r, σ2) ∧ fX12_factor a1 a2 a3 μ = some (r, μ2) ∧ St σ2 μ2) ∧
  (∀ (σ μ : QMem) (a1 : Int32) (a2 : Int32) (a3 : Int32) (a4 : Int32), St σ μ → ∃ (r : Int32) (σ2 μ2 : QMem), fX11_prime a1 a2 a3 a4 σ = some (r, σ2) ∧ fX12_prime a1 a2 a3 a4 μ = some (r, μ2) ∧ St σ2 μ2) ∧
  (∀ (σ μ : QMem) (a1 : Int32) (a2 : Int32) (a3 : Int32) (a4 : Int32), St σ μ → ∃ (r : Int32) (σ2 μ2 : QMem), fX11_list a1 a2 a3 a4 σ = some (r, σ2) ∧ fX12_list a1 a2 a3 a4 μ = some (r, μ2) ∧ St σ2 μ2) ∧
  (∀ (σ μ : QMem) (a1 : Int32) (a2 : Int32) (a3 : Int32), St σ μ → ∃ (r : Int32) (σ2 μ2 : QMem), fX11_squares a1 a2 a3 σ = some (r, σ2) ∧ fX12_squares a1 a2 a3 μ = some (r, μ2) ∧ St σ2 μ2) ∧
  (∀ (σ μ : QMem) (a1 : Int32) (a2 : Int32) (a3 : Int32), St σ μ → ∃ (r : Int32) (σ2 μ2 : QMem), fX11_turned a1 a2 a3 σ = some (r, σ2) ∧ fX12_turned a1 a2 a3 μ = some (r, μ2) ∧ St σ2 μ2) ∧
  (∀ (σ μ : QMem) (a1 : Int32), St σ μ → ∃ (r : Int32) (σ2 μ2 : QMem), fX11_rank a1 σ = some (r, σ2) ∧ fX12_rank a1 μ = some (r, μ2) ∧ St σ2 μ2) ∧
  (∀ (σ μ : QMem) (a1 : Int32) (a2 : Int32), St σ μ → ∃ (r : Int32) (σ2 μ2 : QMem), fX11_tally a1 a2 σ = some (r, σ2) ∧ fX12_tally a1 a2 μ = some (r, μ2) ∧ St σ2 μ2) ∧
  (∀ (σ μ : QMem) (a1 : Int32) (a2 : Int32) (a3 : Int32), St σ μ → ∃ (r : Int32) (σ2 μ2 : QMem), fX11_load a1 a2 a3 σ = some (r, σ2) ∧ fX12_load a1 a2 a3 μ = some (r, μ2) ∧ St σ2 μ2) ∧
  (∀ (σ μ : QMem) (a1 : Int32) (a2 : Int32) (a3 : Int32) (a4 : Int32), St σ μ → ∃ (r : Int32) (σ2 μ2 : QMem), fX11_work a1 a2 a3 a4 σ = some (r, σ2) ∧ fX12_work a1 a2 a3 a4 μ = some (r, μ2) ∧ St σ2 μ2) ∧
  (∀ (σ μ : QMem), St σ μ → ∃ (r : Int32) (σ2 μ2 : QMem), fX11_latest σ = some (r, σ2) ∧ fX12_latest μ = some (r, μ2) ∧ St σ2 μ2) ∧
  (∀ (σ μ : QMem) (a1 : Int32), St σ μ → ∃ (r : Int32) (σ2 μ2 : QMem), fX11_drop a1 σ = some (r, σ2) ∧ fX12_drop a1 μ = some (r, μ2) ∧ St σ2 μ2) ∧
  (∀ (σ μ : QMem) (a1 : Int32), St σ μ → ∃ (r : Int32) (σ2 μ2 : QMem), fX11_count a1 σ = some (r, σ2) ∧ fX12_count a1 μ = some (r, μ2) ∧ St σ2 μ2)
set_option maxHeartbeats 4000000 in
set_option maxRecDepth 100000 in
theorem law_loop {p : Program} {l : Launch} {e : Env} {s : State} {m : MethodId} {below : List Frame} {meth : Method} {c : Code} {D : va_G} {G G2 : xG} {ub : xB} {b L : Nat} {xs : Nat → Int32} {St : QMem → QMem → Prop} (C0 : lw_At p s m meth c b L xs) (F : lwF D G G2 ub s) (hL : L ≤ 3072) (hA : Agree St) :
    ∀ (n i : Nat), L + 6 ≤ i + 6 * n → i ≤ L → ∀ (σ μ : QMem) (H : Heap) (locs : List Loc) (ls : Array Slot), St σ μ → va_P D vwCl (xW G σ) H → va_P D vwCl (mW G2 μ) H → va_S (fun q : Nat => s.heap.size ≤ q) s.heap H locs → lv_has ls 4 [(0, .ref b), (1, .ref (G.1 105)), (2, .ref (G2.1 28)), (3, .int (nI i))] → W p l e room_1 s m #[Value.ref b] below meth c H locs 600000 7302250 (lw_Z below #[Value.ref b] s) (F0 m 18 ls []) := by
  obtain ⟨hx, hb, hr, hml, hown, hts0, hX, hbl, hlocks, hgv⟩ := id C0
  have hbA : ¬ (fun q : Nat => s.heap.size ≤ q) b := Nat.not_le.mpr hbl
  intro n
  induction n with
  | zero => intro i h1 h2; exact absurd h1 (by omega)
  | succ n ih =>
    intro i hn hi σ μ H locs ls hSt hP hM hS hl
    refine lv_iload_n hx hb dL_law_18 rfl (lv_at hl 3 rfl) ?_
    refine lv_aload_n hx hb dL_law_19 rfl (lv_at hl 0 rfl) ?_
    refine va_slen hx hb hX hbl hbA hS dL_law_20 ?_
    refine lv_bipush (v := nI 6) hx hb dL_law_21 (by decide) ?_
    refine lv_isub hx hb dL_law_23 ?_
    refine lv_icmp_gt (tgt := 1308) hx hb dL_law_24 (by decide) (fun hc => ?_) (fun hc => ?_)
    · refine lv_iconst (v := 1) hx hb dL_law_1308 (by decide) ?_
      refine va_forget (fun q hq => hS.2.2 q hq) ?_
      exact lw_ret hx hb hr hlocks dL_law_1309
    · have hi6 : i + 6 ≤ L := by
        rcases Nat.lt_or_ge L (i + 6) with q | q
        · refine absurd ?_ hc
          show nI L - nI 6 < nI i
          rw [Int32.lt_iff_toInt_lt, pk_sub_toInt (by omega) (by omega), nI_toInt (by omega)]
          omega
        · exact q
      have kk : ∀ (σ μ : QMem) (H : Heap) (locs : List Loc) (ls : Array Slot), St σ μ → va_P D vwCl (xW G σ) H → va_P D vwCl (mW G2 μ) H → va_S (fun q : Nat => s.heap.size ≤ q) s.heap H locs → lv_has ls 4 [(0, .ref b), (1, .ref (G.1 105)), (2, .ref (G2.1 28)), (3, .int (nI i))] → W p l e room_1 s m #[Value.ref b] below meth c H locs 600000 7302250 (lw_Z below #[Value.ref b] s) (F0 m 1302 ls []) := by
        intro σ μ H locs ls hSt hP hM hS hl
        refine lv_iinc (v := nI (i + 6)) (lv' := [(3, .int (nI (i + 6))), (0, .ref b), (1, .ref (G.1 105)), (2, .ref (G2.1 28))]) hx hb dL_law_1302 hl (k := 3) rfl (nI_add i 6) (by decide) rfl (fun ls hl => ?_)
        refine lv_goto (tgt := 18) hx hb dL_law_1305 (by decide) ?_
        exact ih (i + 6) (by omega) hi6 σ μ H locs ls hSt hP hM hS (lv_sub hl [1, 2, 3, 0] rfl)
      refine lv_aload_n hx hb dL_law_27 rfl (lv_at hl 0 rfl) ?_
      refine lv_iload_n hx hb dL_law_28 rfl (lv_at hl 3 rfl) ?_
      refine va_sld hx hb hX hbl hbA hS (vp_in_nI (by omega) (by omega)) dL_law_29 ?_
      refine lv_bipush (v := 31) hx hb dL_law_30 (by decide) ?_
      refine lv_iand hx hb dL_law_32 ?_
      obtain ⟨j, hj, ej⟩ := pk_andE (xs (nI i).toNatClampNeg) (m := 31) 5 (by decide)
      rw [ej]
      by_cases hq0 : j = 0
      · subst hq0
        refine lv_tableIn (off := 143) (tgt := 176) hx hb dL_law_33 (by decide) (by decide) (by decide) (by decide) ?_
        exact lc_0 C0 F hL hA.1 i hi6 σ μ hSt H locs ls hP hM hS hl kk
      by_cases hq1 : j = 1
      · subst hq1
        refine lv_tableIn (off := 166) (tgt := 199) hx hb dL_law_33 (by decide) (by decide) (by decide) (by decide) ?_
        exact lc_1 C0 F hL hA.2.1 i hi6 σ μ hSt H locs ls hP hM hS hl kk
      by_cases hq2 : j = 2
      · subst hq2
        refine lv_tableIn (off := 179) (tgt := 212) hx hb dL_law_33 (by decide) (by decide) (by decide) (by decide) ?_
        exact lc_2 C0 F hL hA.2.2.1 i hi6 σ μ hSt H locs ls hP hM hS hl kk
      by_cases hq3 : j = 3
      · subst hq3
        refine lv_tableIn (off := 192) (tgt := 225) hx hb dL_law_33 (by decide) (by decide) (by decide) (by decide) ?_
        exact lc_3 C0 F hL hA.2.2.2.1 i hi6 σ μ hSt H locs ls hP hM hS hl kk
      by_cases hq4 : j = 4
      · subst hq4
        refine lv_tableIn (off := 205) (tgt := 238) hx hb dL_law_33 (by decide) (by decide) (by decide) (by decide) ?_
        exact lc_4 C0 F hL hA.2.2.2.2.1 i hi6 σ μ hSt H locs ls hP hM hS hl kk
      by_cases hq5 : j = 5
      · subst hq5
        refine lv_tableIn (off := 238) (tgt := 271) hx hb dL_law_33 (by decide) (by decide) (by decide) (by decide) ?_
        exact lc_5 C0 F hL hA.2.2.2.2.2.1 i hi6 σ μ hSt H locs ls hP hM hS hl kk
      by_cases hq6 : j = 6
      · subst hq6
        refine lv_tableIn (off := 271) (tgt := 304) hx hb dL_law_33 (by decide) (by decide) (by decide) (by decide) ?_
        exact lc_6 C0 F hL hA.2.2.2.2.2.2.1 i hi6 σ μ hSt H locs ls hP hM hS hl kk
      by_cases hq7 : j = 7
      · subst hq7
        refine lv_tableIn (off := 304) (tgt := 337) hx hb dL_law_33 (by decide) (by decide) (by decide) (by decide) ?_
        exact lc_7 C0 F hL hA.2.2.2.2.2.2.2.1 i hi6 σ μ hSt H locs ls hP hM hS hl kk
      by_cases hq8 : j = 8
      · subst hq8
        refine lv_tableIn (off := 367) (tgt := 400) hx hb dL_law_33 (by decide) (by decide) (by decide) (by decide) ?_
        exact lc_8 C0 F hL hA.2.2.2.2.2.2.2.2.1 i hi6 σ μ hSt H locs ls hP hM hS hl kk
      by_cases hq9 : j = 9
      · subst hq9
        refine lv_tableIn (off := 400) (tgt := 433) hx hb dL_law_33 (by decide) (by decide) (by decide) (by decide) ?_
        exact lc_9 C0 F hL hA.2.2.2.2.2.2.2.2.2.1 i hi6 σ μ hSt H locs ls hP hM hS hl kk
      by_cases hq10 : j = 10
      · subst hq10
        refine lv_tableIn (off := 443) (tgt := 476) hx hb dL_law_33 (by decide) (by decide) (by decide) (by decide) ?_
        exact lc_10 C0 F hL hA.2.2.2.2.2.2.2.2.2.2.1 i hi6 σ μ hSt H locs ls hP hM hS hl kk
      by_cases hq11 : j = 11
      · subst hq11
        refine lv_tableIn (off := 476) (tgt := 509) hx hb dL_law_33 (by decide) (by decide) (by decide) (by decide) ?_
        exact lc_11 C0 F hL hA.2.2.2.2.2.2.2.2.2.2.2.1 i hi6 σ μ hSt H locs ls hP hM hS hl kk
      by_cases hq12 : j = 12
      · subst hq12
        refine lv_tableIn (off := 529) (tgt := 562) hx hb dL_law_33 (by decide) (by decide) (by decide) (by decide) ?_
        exact lc_12 C0 F hL hA.2.2.2.2.2.2.2.2.2.2.2.2.1 i hi6 σ μ hSt H locs ls hP hM hS hl kk
      by_cases hq13 : j = 13
      · subst hq13
        refine lv_tableIn (off := 572) (tgt := 605) hx hb dL_law_33 (by decide) (by decide) (by decide) (by decide) ?_
        exact lc_13 C0 F hL hA.2.2.2.2.2.2.2.2.2.2.2.2.2.1 i hi6 σ μ hSt H locs ls hP hM hS hl kk
      by_cases hq14 : j = 14
      · subst hq14
        refine lv_tableIn (off := 585) (tgt := 618) hx hb dL_law_33 (by decide) (by decide) (by decide) (by decide) ?_
        exact lc_14 C0 F hL hA.2.2.2.2.2.2.2.2.2.2.2.2.2.2.1 i hi6 σ μ hSt H locs ls hP hM hS hl kk
      by_cases hq15 : j = 15
      · subst hq15
        refine lv_tableIn (off := 608) (tgt := 641) hx hb dL_law_33 (by decide) (by decide) (by decide) (by decide) ?_
        exact lc_15 C0 F hL hA.2.2.2.2.2.2.2.2.2.2.2.2.2.2.2.1 i hi6 σ μ hSt H locs ls hP hM hS hl kk
      by_cases hq16 : j = 16
      · subst hq16
        refine lv_tableIn (off := 631) (tgt := 664) hx hb dL_law_33 (by decide) (by decide) (by decide) (by decide) ?_
        exact lc_16 C0 F hL hA.2.2.2.2.2.2.2.2.2.2.2.2.2.2.2.2.1 i hi6 σ μ hSt H locs ls hP hM hS hl kk
      by_cases hq17 : j = 17
      · subst hq17
        refine lv_tableIn (off := 674) (tgt := 707) hx hb dL_law_33 (by decide) (by decide) (by decide) (by decide) ?_
        exact lc_17 C0 F hL hA.2.2.2.2.2.2.2.2.2.2.2.2.2.2.2.2.2.1 i hi6 σ μ hSt H locs ls hP hM hS hl kk
      by_cases hq18 : j = 18
      · subst hq18
        refine lv_tableIn (off := 727) (tgt := 760) hx hb dL_law_33 (by decide) (by decide) (by decide) (by decide) ?_
        exact lc_18 C0 F hL hA.2.2.2.2.2.2.2.2.2.2.2.2.2.2.2.2.2.2.1 i hi6 σ μ hSt H locs ls hP hM hS hl kk
      by_cases hq19 : j = 19
      · subst hq19
        refine lv_tableIn (off := 770) (tgt := 803) hx hb dL_law_33 (by decide) (by decide) (by decide) (by decide) ?_
        exact lc_19 C0 F hL hA.2.2.2.2.2.2.2.2.2.2.2.2.2.2.2.2.2.2.2.1 i hi6 σ μ hSt H locs ls hP hM hS hl kk
      by_cases hq20 : j = 20
      · subst hq20
        refine lv_tableIn (off := 823) (tgt := 856) hx hb dL_law_33 (by decide) (by decide) (by decide) (by decide) ?_
        exact lc_20 C0 F hL hA.2.2.2.2.2.2.2.2.2.2.2.2.2.2.2.2.2.2.2.2.1 i hi6 σ μ hSt H locs ls hP hM hS hl kk
      by_cases hq21 : j = 21
      · subst hq21
        refine lv_tableIn (off := 866) (tgt := 899) hx hb dL_law_33 (by decide) (by decide) (by decide) (by decide) ?_
        exact lc_21 C0 F hL hA.2.2.2.2.2.2.2.2.2.2.2.2.2.2.2.2.2.2.2.2.2.1 i hi6 σ μ hSt H locs ls hP hM hS hl kk
      by_cases hq22 : j = 22
      · subst hq22
        refine lv_tableIn (off := 919) (tgt := 952) hx hb dL_law_33 (by decide) (by decide) (by decide) (by decide) ?_
        exact lc_22 C0 F hL hA.2.2.2.2.2.2.2.2.2.2.2.2.2.2.2.2.2.2.2.2.2.2.1 i hi6 σ μ hSt H locs ls hP hM hS hl kk
      by_cases hq23 : j = 23
      · subst hq23
        refine lv_tableIn (off := 972) (tgt := 1005) hx hb dL_law_33 (by decide) (by decide) (by decide) (by decide) ?_
        exact lc_23 C0 F hL hA.2.2.2.2.2.2.2.2.2.2.2.2.2.2.2.2.2.2.2.2.2.2.2.1 i hi6 σ μ hSt H locs ls hP hM hS hl kk
      by_cases hq24 : j = 24
      · subst hq24
        refine lv_tableIn (off := 1015) (tgt := 1048) hx hb dL_law_33 (by decide) (by decide) (by decide) (by decide) ?_
        exact lc_24 C0 F hL hA.2.2.2.2.2.2.2.2.2.2.2.2.2.2.2.2.2.2.2.2.2.2.2.2.1 i hi6 σ μ hSt H locs ls hP hM hS hl kk
      by_cases hq25 : j = 25
      · subst hq25
        refine lv_tableIn (off := 1058) (tgt := 1091) hx hb dL_law_33 (by decide) (by decide) (by decide) (by decide) ?_
        exact lc_25 C0 F hL hA.2.2.2.2.2.2.2.2.2.2.2.2.2.2.2.2.2.2.2.2.2.2.2.2.2.1 i hi6 σ μ hSt H locs ls hP hM hS hl kk
      by_cases hq26 : j = 26
      · subst hq26
        refine lv_tableIn (off := 1081) (tgt := 1114) hx hb dL_law_33 (by decide) (by decide) (by decide) (by decide) ?_
        exact lc_26 C0 F hL hA.2.2.2.2.2.2.2.2.2.2.2.2.2.2.2.2.2.2.2.2.2.2.2.2.2.2.1 i hi6 σ μ hSt H locs ls hP hM hS hl kk
      by_cases hq27 : j = 27
      · subst hq27
        refine lv_tableIn (off := 1114) (tgt := 1147) hx hb dL_law_33 (by decide) (by decide) (by decide) (by decide) ?_
        exact lc_27 C0 F hL hA.2.2.2.2.2.2.2.2.2.2.2.2.2.2.2.2.2.2.2.2.2.2.2.2.2.2.2.1 i hi6 σ μ hSt H locs ls hP hM hS hl kk
      by_cases hq28 : j = 28
      · subst hq28
        refine lv_tableIn (off := 1157) (tgt := 1190) hx hb dL_law_33 (by decide) (by decide) (by decide) (by decide) ?_
        exact lc_28 C0 F hL hA.2.2.2.2.2.2.2.2.2.2.2.2.2.2.2.2.2.2.2.2.2.2.2.2.2.2.2.2.1 i hi6 σ μ hSt H locs ls hP hM hS hl kk
      by_cases hq29 : j = 29
      · subst hq29
        refine lv_tableIn (off := 1210) (tgt := 1243) hx hb dL_law_33 (by decide) (by decide) (by decide) (by decide) ?_
        exact lc_29 C0 F hL hA.2.2.2.2.2.2.2.2.2.2.2.2.2.2.2.2.2.2.2.2.2.2.2.2.2.2.2.2.2.1 i hi6 σ μ hSt H locs ls hP hM hS hl kk
      by_cases hq30 : j = 30
      · subst hq30
        refine lv_tableIn (off := 1223) (tgt := 1256) hx hb dL_law_33 (by decide) (by decide) (by decide) (by decide) ?_
        exact lc_30 C0 F hL hA.2.2.2.2.2.2.2.2.2.2.2.2.2.2.2.2.2.2.2.2.2.2.2.2.2.2.2.2.2.2.1 i hi6 σ μ hSt H locs ls hP hM hS hl kk
      by_cases hq31 : j = 31
      · subst hq31
        refine lv_tableIn (off := 1246) (tgt := 1279) hx hb dL_law_33 (by decide) (by decide) (by decide) (by decide) ?_
        exact lc_31 C0 F hL hA.2.2.2.2.2.2.2.2.2.2.2.2.2.2.2.2.2.2.2.2.2.2.2.2.2.2.2.2.2.2.2 i hi6 σ μ hSt H locs ls hP hM hS hl kk
      exact absurd hj (by omega)
