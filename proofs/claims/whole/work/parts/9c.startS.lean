/-! THE START: what the Statement gives of it -/
def gFl : List Cond := flatC (Jvm.Cond.and given_1 narrow_1)
theorem gFl_at {b : Addr} {s : State} (hgv : (Jvm.Cond.and given_1 narrow_1).before #[Value.ref b] s = true) {w : Cond} (h : w ∈ gFl) : w.before #[Value.ref b] s = true := flat_of_before _ hgv w h
theorem tb_at {b : Addr} {s : State} (hts : ∀ w ∈ lw_tbl, w.before #[Value.ref b] s = true) {w : Cond} (i : Nat) (h : tables_1[i]? = some w) : w.before #[Value.ref b] s = true := hts w (List.mem_append_right _ (List.mem_of_getElem? h))
theorem st_arr {s : State} {args : Array Value} {ty : FieldType} (h : (Cond.arrayClass ty).before args s = true) (hno : ∀ C, ty ≠ .object C) : ∃ cA, ArrOfT s cA ty ∧ va_RA s cA ty := by
  obtain ⟨cA, kA, comp, h1, h2, h3⟩ := Cond.arrayClass_spec h
  refine ⟨cA, fun n z => ⟨fun k h => (by cases h), kA, h2, comp, h3⟩, ?_⟩
  cases ty with
  | object C => exact absurd rfl (hno C)
  | _ => exact h1
theorem st_arq {s : State} {args : Array Value} {C : String} (h : (Cond.arrayOver (.object C)).before args s = true) : ∃ cA, ArrOfT s cA (.object C) ∧ va_RA s cA (.object C) := by
  obtain ⟨comp, c, k, h1, -, h3, h4, h5⟩ := Cond.arrayOver_spec h
  exact ⟨c, fun n z => ⟨fun k h => (by cases h), k, h3, comp, h4⟩, k, comp, h3, h4, h1, h5⟩
theorem st_cls {b : Addr} {s : State} (hts : ∀ w ∈ lw_tbl, w.before #[Value.ref b] s = true) : ∃ D : va_G, ∀ (c : Nat) (q : vw_C), vwCl[c]? = some q → u_Kn s q.1 q.2.1 q.2.2 (D.1 c) (D.2 c) := by
  have h0 : ∀ w ∈ lwW, w.before #[Value.ref b] s = true := fun w hw => hts w (lwW_ok hw)
  have h : ∀ c : Nat, ∃ z : ClassId × (Nat → Nat), ∀ q : vw_C, vwCl[c]? = some q → u_Kn s q.1 q.2.1 q.2.2 z.1 z.2 := by
    intro c
    by_cases hc : c < 13
    · rcases (show c = 0 ∨ c = 1 ∨ c = 2 ∨ c = 3 ∨ c = 4 ∨ c = 5 ∨ c = 6 ∨ c = 7 ∨ c = 8 ∨ c = 9 ∨ c = 10 ∨ c = 11 ∨ c = 12 by omega) with rfl | rfl | rfl | rfl | rfl | rfl | rfl | rfl | rfl | rfl | rfl | rfl | rfl
      · obtain ⟨c0, i0, hk⟩ := u_known (C := RX0) (T := TX0) (N := 1) (n := 1) h0 iwX0 (tb_at hts 270 (by decide +kernel)); exact ⟨(c0, i0), fun q hq => by cases hq; exact hk⟩
      · obtain ⟨c0, i0, hk⟩ := u_known (C := RX1) (T := TX1) (N := 8) (n := 8) h0 iwX1 (tb_at hts 143 (by decide +kernel)); exact ⟨(c0, i0), fun q hq => by cases hq; exact hk⟩
      · obtain ⟨c0, i0, hk⟩ := u_known (C := RX2) (T := TX2) (N := 5) (n := 5) h0 iwX2 (tb_at hts 180 (by decide +kernel)); exact ⟨(c0, i0), fun q hq => by cases hq; exact hk⟩
      · obtain ⟨c0, i0, hk⟩ := u_known (C := RX3) (T := TX3) (N := 4) (n := 4) h0 iwX3 (tb_at hts 245 (by decide +kernel)); exact ⟨(c0, i0), fun q hq => by cases hq; exact hk⟩
      · obtain ⟨c0, i0, hk⟩ := u_known (C := RX4) (T := TX4) (N := 4) (n := 4) h0 iwX4 (tb_at hts 95 (by decide +kernel)); exact ⟨(c0, i0), fun q hq => by cases hq; exact hk⟩
      · obtain ⟨c0, i0, hk⟩ := u_known (C := RX5) (T := TX5) (N := 4) (n := 4) h0 iwX5 (tb_at hts 220 (by decide +kernel)); exact ⟨(c0, i0), fun q hq => by cases hq; exact hk⟩
      · obtain ⟨c0, i0, hk⟩ := u_known (C := RX6) (T := TX6) (N := 4) (n := 4) h0 iwX6 (tb_at hts 35 (by decide +kernel)); exact ⟨(c0, i0), fun q hq => by cases hq; exact hk⟩
      · obtain ⟨c0, i0, hk⟩ := u_known (C := RX7) (T := TX7) (N := 2) (n := 2) h0 iwX7 (tb_at hts 186 (by decide +kernel)); exact ⟨(c0, i0), fun q hq => by cases hq; exact hk⟩
      · obtain ⟨c0, i0, hk⟩ := u_known (C := RX8) (T := TX8) (N := 7) (n := 7) h0 iwX8 (tb_at hts 115 (by decide +kernel)); exact ⟨(c0, i0), fun q hq => by cases hq; exact hk⟩
      · obtain ⟨c0, i0, hk⟩ := u_known (C := RX9) (T := TX9) (N := 2) (n := 2) h0 iwX9 (tb_at hts 63 (by decide +kernel)); exact ⟨(c0, i0), fun q hq => by cases hq; exact hk⟩
      · obtain ⟨c0, i0, hk⟩ := u_known (C := RX10) (T := TX10) (N := 3) (n := 3) h0 iwX10 (tb_at hts 78 (by decide +kernel)); exact ⟨(c0, i0), fun q hq => by cases hq; exact hk⟩
      · obtain ⟨c0, i0, hk⟩ := u_known (C := RX11) (T := TX11) (N := 13) (n := 13) h0 iwX11 (tb_at hts 20 (by decide +kernel)); exact ⟨(c0, i0), fun q hq => by cases hq; exact hk⟩
      · obtain ⟨c0, i0, hk⟩ := u_known (C := RX12) (T := TX12) (N := 34) (n := 34) h0 iwX12 (tb_at hts 912 (by decide +kernel)); exact ⟨(c0, i0), fun q hq => by cases hq; exact hk⟩
    · exact ⟨(0, fun _ => 0), fun q hq => absurd (List.getElem?_eq_some_iff.mp hq).1 (by show ¬ c < 13; exact hc)⟩
  obtain ⟨z, hz⟩ := Classical.axiomOfChoice h
  exact ⟨(fun c => (z c).1, fun c => (z c).2), fun c q hq => hz c q hq⟩
/-- classes and array classes of both worlds -/
theorem st_K {b : Addr} {s : State} (hts : ∀ w ∈ lw_tbl, w.before #[Value.ref b] s = true) : ∃ (D : va_G) (T1 T2 : Nat → ClassId), (∀ f : Nat → Nat, va_K D vwCl (xT (f, T1)) s) ∧ ∀ f : Nat → Nat, va_K D vwCl (mT (f, T2)) s := by
  obtain ⟨D, hD⟩ := st_cls hts
  obtain ⟨cI, hI⟩ := st_arr (ty := .int) (tb_at hts 93 (by decide +kernel)) (fun C h => by cases h)
  obtain ⟨cB, hB⟩ := st_arr (ty := .boolean) (tb_at hts 1061 (by decide +kernel)) (fun C h => by cases h)
  obtain ⟨cQ, hQ⟩ := st_arq (C := RX6) (tb_at hts 34 (by decide +kernel))
  obtain ⟨cS, hS⟩ := st_arq (C := RX9) (tb_at hts 62 (by decide +kernel))
  obtain ⟨cT1, hT⟩ := st_arq (C := RX10) (tb_at hts 77 (by decide +kernel))
  obtain ⟨cP1, hP⟩ := st_arq (C := RX5) (tb_at hts 251 (by decide +kernel))
  refine ⟨D, fun i => ([cI, cQ, cS, cT1, cP1] : List ClassId).getD i 0, fun i => ([cI, cB] : List ClassId).getD i 0, fun f => ⟨hD, fun k q hk => ?_⟩, fun f => ⟨hD, fun k q hk => ?_⟩⟩
  · have hl : k < 5 := (List.getElem?_eq_some_iff.mp hk).1
    rcases (show k = 0 ∨ k = 1 ∨ k = 2 ∨ k = 3 ∨ k = 4 by omega) with rfl | rfl | rfl | rfl | rfl <;> cases hk
    · exact hI
    · exact hQ
    · exact hS
    · exact hT
    · exact hP
  · have hl : k < 2 := (List.getElem?_eq_some_iff.mp hk).1
    rcases (show k = 0 ∨ k = 1 by omega) with rfl | rfl <;> cases hk
    · exact hI
    · exact hB
theorem st_N {b : Addr} {s : State} (hts : ∀ w ∈ lw_tbl, w.before #[Value.ref b] s = true) : xN s := by
  have h1 : ∀ q ∈ xNF, Cond.fieldLinkNest q.1 q.2.1 q.2.2.1 q.2.2.2.1 q.2.2.2.2.1 q.2.2.2.2.2 ∈ tables_1 := by decide +kernel
  have h2 : ∀ q ∈ xNM, Cond.methodLinkNest q.1 q.2.1 q.2.2.1 q.2.2.2 ∈ tables_1 := by decide +kernel
  exact ⟨fun q hq => va_Nw.of rfl (hts _ (List.mem_append_right _ (h1 q hq))), fun q hq => va_Nw.of rfl (hts _ (List.mem_append_right _ (h2 q hq)))⟩
theorem st_O {b : Addr} {s : State} (hts : ∀ w ∈ lw_tbl, w.before #[Value.ref b] s = true) : cO s := ⟨va_AO.of (tb_at hts 34 (by decide +kernel)), va_AO.of (tb_at hts 62 (by decide +kernel)), va_AO.of (tb_at hts 77 (by decide +kernel)), va_AO.of (tb_at hts 251 (by decide +kernel))⟩
/-- the units' row -/
theorem st_U {b : Addr} {s : State} (hts : ∀ w ∈ lw_tbl, w.before #[Value.ref b] s = true) (hgv : (Jvm.Cond.and given_1 narrow_1).before #[Value.ref b] s = true) {A : Nat → Prop} (hA : ∀ a : Nat, a < s.heap.size → ¬ A a) : ∃ t : Nat, va_Z RX11 "UNIT_PARTS" "[I" (.ref t) A s s.heap ∧ va_X t 96 xU s s.heap ∧ t < s.heap.size := by
  have hlen : (Term.length (.static RX11 "UNIT_PARTS" "[I")).eval #[Value.ref b] s none [] s = some (.int 96) := va_eqt (gFl_at hgv (List.mem_of_getElem? (i := 11) (by decide +kernel)))
  have hels : ∀ j, j < 96 → gFl[12 + j]? = some (Cond.eq (.elem (.static RX11 "UNIT_PARTS" "[I") (.int (Int32.ofNat j))) (.int (xU j))) := by decide +kernel
  have hel : ∀ j : Nat, j < 96 → (Term.elem (.static RX11 "UNIT_PARTS" "[I") (.int (Int32.ofNat j))).eval #[Value.ref b] s none [] s = some (.int (xU j)) := fun j hj => va_eqt (gFl_at hgv (List.mem_of_getElem? (hels j hj)))
  obtain ⟨t, ht, cell, h1, h2, h3, h4, h5, h6, h7⟩ := va_Tof (ty := .int) (N := 96) (f := fun j => .int (xU j)) (A := A) (by decide) (gFl_at hgv (List.mem_of_getElem? (i := 10) (by decide +kernel))) hlen hel hA
  obtain ⟨t', cell', e1, e2, e3⟩ := Term.length_spec hlen
  obtain rfl : t = t' := by have := ht.symm.trans e1; simpa using this
  obtain ⟨e4, -, -, -⟩ := State.arrayAt?_spec e2
  obtain rfl : cell = cell' := Option.some.inj (h1.symm.trans e4)
  have hsz : cell.slots.size < 2 ^ 31 := by
    simp only [Term.eval, Option.bind_eq_bind] at hlen ht
    by_cases hlt : cell.slots.size < 2147483648
    · exact hlt
    · simp [ht, e2, hlt] at hlen
  refine ⟨t, va_Zref (tb_at hts 478 (by decide +kernel)) (tb_at hts 1 (by decide +kernel)) ht hA, ⟨cell, h1, h2, h3, ?_, h6⟩, (Array.getElem?_eq_some_iff.mp h1).1⟩
  exact (nI_eq hsz (by decide)).mp h5
def sIx : List Nat := [49, 55, 64, 66]
def sTm (i : Nat) : Term := .string RX8 (sIx.getD i 0)
/-- the texts -/
theorem st_S {b : Addr} {s : State} (hgv : (Jvm.Cond.and given_1 narrow_1).before #[Value.ref b] s = true) {A : Nat → Prop} (hA : ∀ a : Nat, a < s.heap.size → ¬ A a) : ∃ adK adV : Nat → Nat, vk_S 4 xSl xSb adK adV A s s.heap ∧ ∀ i : Nat, i < 4 → (sTm i).eval #[Value.ref b] s none [] s = some (.ref (adK i)) := by
  have k1 : ∀ i, i < 4 → Cond.exactly (sTm i) "java/lang/String" ∈ gFl := by decide +kernel
  have k2 : ∀ i, i < 4 → Cond.eq (.field (sTm i) "java/lang/String" "coder" "B") (.int 0) ∈ gFl := by decide +kernel
  have k3 : ∀ i, i < 4 → Cond.arrayOf (.field (sTm i) "java/lang/String" "value" "[B") .byte ∈ gFl := by decide +kernel
  have k4 : ∀ i, i < 4 → Cond.eq (.length (.field (sTm i) "java/lang/String" "value" "[B")) (.int (Int32.ofNat (xSl.getD i 0))) ∈ gFl := by decide +kernel
  have k5 : ∀ i, i < 4 → ∀ j, j < xSl.getD i 0 → Cond.eq (.elem (.field (sTm i) "java/lang/String" "value" "[B") (.int (Int32.ofNat j))) (.int ((xSb.getD i []).getD j 0)) ∈ gFl := by decide +kernel
  have k6 : ∀ i, i < 4 → ∀ j, j < 4 → i ≠ j → Cond.not (Cond.eq (sTm i) (sTm j)) ∈ gFl ∨ Cond.not (Cond.eq (sTm j) (sTm i)) ∈ gFl := by decide +kernel
  have k7 : ∀ i, i < 4 → xSl.getD i 0 < 2 ^ 31 := by decide +kernel
  exact vk_Sof (tm := sTm) k7 (fun i hi => gFl_at hgv (k1 i hi)) (fun i hi => gFl_at hgv (k2 i hi)) (fun i hi => gFl_at hgv (k3 i hi)) (fun i hi => gFl_at hgv (k4 i hi)) (fun i hi j hj => gFl_at hgv (k5 i hi j hj)) (fun i j hi hj hij => (k6 i hi j hj hij).imp (gFl_at hgv) (gFl_at hgv)) hA
theorem st_xS {b : Addr} {s : State} (hts : ∀ w ∈ lw_tbl, w.before #[Value.ref b] s = true) (hgv : (Jvm.Cond.and given_1 narrow_1).before #[Value.ref b] s = true) : ∃ ub : xB, ∀ G : xG, (∀ k, k < 115 → s.heap.size ≤ G.1 k) → xS G ub s := by
  have hA : ∀ a : Nat, a < s.heap.size → ¬ (fun q : Nat => s.heap.size ≤ q) a := fun a h => Nat.not_le.mpr h
  obtain ⟨t, u1, u2, u3⟩ := st_U hts hgv hA
  obtain ⟨aK, aV, v1, v2⟩ := st_S hgv hA
  have z1 : va_Z RJ0 "COMPACT_STRINGS" "Z" (.int 1) (fun q : Nat => s.heap.size ≤ q) s s.heap := va_Zof (tb_at hts 388 (by decide +kernel)) (tb_at hts 15 (by decide +kernel)) (va_eqi (gFl_at hgv (List.mem_of_getElem? (i := 4) (by decide +kernel)))) hA
  have z2 : va_Zq RJ3 "SIOOBE_FORMATTER" "Ljava/util/function/BiFunction;" (fun q : Nat => s.heap.size ≤ q) s s.heap := va_Zqof (tb_at hts 404 (by decide +kernel)) (tb_at hts 17 (by decide +kernel)) (gFl_at hgv (List.mem_of_getElem? (i := 5) (by decide +kernel))) hA
  refine ⟨(t, aK, aV), fun G hG => ?_⟩
  have hn : ∀ q : Nat, xA G q → s.heap.size ≤ q := by
    rintro q ⟨k, hk, rfl⟩
    exact hG k hk
  exact ⟨u1.narrow hn, u2, u3, fun q => absurd (hn _ q) (Nat.not_le.mpr u3), st_N hts, v1.narrow hn, vk_R.of (tb_at hts 374 (by decide +kernel)) (v2 0 (by decide)), vk_R.of (tb_at hts 427 (by decide +kernel)) (v2 1 (by decide)), vk_R.of (tb_at hts 444 (by decide +kernel)) (v2 2 (by decide)), vk_R.of (tb_at hts 445 (by decide +kernel)) (v2 3 (by decide)), z1.narrow hn, z2.narrow hn⟩
