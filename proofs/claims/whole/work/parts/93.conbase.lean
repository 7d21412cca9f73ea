/-! THE CONSTRUCTORS: the world of one that makes a cell is the list of what it has made -/
abbrev cnT (T : Nat → ClassId) : List (ClassId × FieldType) := xT ((fun _ => 0), T)
def cO (U : State) : Prop := va_AO RX6 U ∧ va_AO RX9 U ∧ va_AO RX10 U ∧ va_AO RX5 U
def cX (D : va_G) (T : Nat → ClassId) (U : State) : Prop := va_K D vwCl (cnT T) U ∧ xN U ∧ cO U
theorem cX.warm {D : va_G} {T : Nat → ClassId} {s U : State} (hW : s.WarmedH U.vm) (h : cX D T s) : cX D T U := ⟨va_K.moved hW.alike h.1, h.2.1.warm hW, h.2.2.1.moved hW.alike, h.2.2.2.1.moved hW.alike, h.2.2.2.2.1.moved hW.alike, h.2.2.2.2.2.moved hW.alike⟩
theorem cX.call {D : va_G} {T : Nat → ClassId} {U : State} {g : JFrame} {mk : MethodId} {a : Array Value} (h : cX D T U) : cX D T (U.calling g mk a) := by
  have hA : U.vm.Alike (U.calling g mk a).vm := Vm.Alike.refl U.vm
  exact ⟨va_K.moved hA h.1, h.2.1.same rfl, h.2.2.1.moved hA, h.2.2.2.1.moved hA, h.2.2.2.2.1.moved hA, h.2.2.2.2.2.moved hA⟩
def rmC (d mc ms : Nat) : Room := { frames := d, cells := mc, slots := ms, locals := 48 * d }
abbrev eQ : va_E := .inr (6, [.int 0, .int 0, .int 0, .int 0])
abbrev eI (T : Nat → ClassId) (n : Nat) : va_E := .inl (T 0, n, .inl (fun _ => 0))
abbrev eR (T : Nat → ClassId) (t n : Nat) (f : Nat → Option Nat) : va_E := .inl (T t, n, .inr (.inr (.inr (.inr f))))
abbrev cPc (D : va_G) (T : Nat → ClassId) (sz : Nat) (ws : va_W) (av : List Value) : Array Value → State → Prop := va_Pc av (fun U => U.heap.size = sz ∧ va_P D vwCl ws U.heap ∧ cX D T U)
abbrev cQv (D : va_G) (ws : va_W) (sz : Nat) (V : (Nat → Nat) → va_W) : Array Value → State → Outcome → State → Prop := va_Qv (fun _ : Nat → Nat => True) (fun f t => va_P D vwCl (V f) t.heap ∧ va_D (va_A ws sz) (V f)) (va_A ws sz)
abbrev cQr (D : va_G) (sz : Nat) (V : Nat → (Nat → Nat) → va_W) : Array Value → State → Outcome → State → Prop := va_Qr (fun _ : Nat → Nat => True) (fun f a t => va_P D vwCl (V a f) t.heap ∧ va_D (va_A [] sz) (V a f)) (va_A [] sz)
theorem cD1 {a sz : Nat} {e : va_E} : va_D (va_A [(a, e)] sz) [(a, e)] := by
  refine ⟨fun i j p q h1 h2 _ => ?_, fun k q h => va_A.in h⟩
  have z1 := (List.getElem?_eq_some_iff.mp h1).1
  have z2 := (List.getElem?_eq_some_iff.mp h2).1
  simp at z1 z2
  omega
theorem cF {A : Nat → Prop} {ws wc : va_W} {sz : Nat} (hD : va_D A (ws ++ wc)) (hA : ∀ q, sz ≤ q → A q) : ∀ q, va_A wc sz q → A q := by
  intro q h
  rcases h with ⟨k, e, h⟩ | h
  · exact hD.2 (ws.length + k) (q, e) (by rw [List.getElem?_append_right (by omega), Nat.add_sub_cancel_left]; exact h)
  · exact hA q h
/-- behind a constructor's call: what stood before it, and what it made out of the last cells -/
theorem cjn {A : Nat → Prop} {D : va_G} {cl : List vw_C} {ws wc w1 : va_W} {H H1 : Heap} (hP : va_P D cl (ws ++ wc) H) (hD : va_D A (ws ++ wc)) (hA : ∀ q, H.size ≤ q → A q) (hk : ∀ q : Nat, q < H.size → ¬ va_A wc H.size q → H1[q]? = H[q]?) (hP1 : va_P D cl w1 H1) (hD1 : va_D (va_A wc H.size) w1) : va_P D cl (ws ++ w1) H1 ∧ va_D A (ws ++ w1) := by
  have hl : ∀ (k : Nat) (q : Nat × va_E), ws[k]? = some q → (ws ++ wc)[k]? = some q := fun k q h => by
    rw [List.getElem?_append_left (List.getElem?_eq_some_iff.mp h).1]; exact h
  have hap : ∀ (k : Nat) (q : Nat × va_E), ws[k]? = some q → q.1 < H.size ∧ ¬ va_A wc H.size q.1 := by
    intro k q h
    have h1 := (hP k q (hl k q h)).lt
    refine ⟨h1, ?_⟩
    rintro (⟨j, e, h2⟩ | h2)
    · have h3 := hD.1 k (ws.length + j) q (q.1, e) (hl k q h) (by rw [List.getElem?_append_right (by omega), Nat.add_sub_cancel_left]; exact h2) rfl
      have h4 := (List.getElem?_eq_some_iff.mp h).1
      omega
    · omega
  have cs : ∀ (k : Nat) (q : Nat × va_E), (ws ++ w1)[k]? = some q → (k < ws.length ∧ ws[k]? = some q) ∨ (ws.length ≤ k ∧ w1[k - ws.length]? = some q) := by
    intro k q h
    by_cases hkl : k < ws.length
    · rw [List.getElem?_append_left hkl] at h; exact Or.inl ⟨hkl, h⟩
    · rw [List.getElem?_append_right (by omega)] at h; exact Or.inr ⟨by omega, h⟩
  refine ⟨fun k q h => ?_, fun i j p q h1 h2 e => ?_, fun k q h => ?_⟩
  · rcases cs k q h with ⟨-, h1⟩ | ⟨-, h1⟩
    · exact (hP k q (hl k q h1)).kept (hk q.1 (hap k q h1).1 (hap k q h1).2)
    · exact hP1 _ q h1
  · rcases cs i p h1 with ⟨a1, b1⟩ | ⟨a1, b1⟩ <;> rcases cs j q h2 with ⟨a2, b2⟩ | ⟨a2, b2⟩
    · exact hD.1 i j p q (hl i p b1) (hl j q b2) e
    · exact absurd (by rw [e]; exact hD1.2 _ q b2) (hap i p b1).2
    · exact absurd (by rw [← e]; exact hD1.2 _ p b1) (hap j q b2).2
    · have := hD1.1 _ _ p q b1 b2 e; omega
  · rcases cs k q h with ⟨-, h1⟩ | ⟨-, h1⟩
    · exact hD.2 k q (hl k q h1)
    · exact cF hD hA _ (hD1.2 _ q h1)
/-- a row of references, told anew where it is the same below its length -/
theorem cRow {D : va_G} {cl : List vw_C} {H : Heap} {a n : Nat} {c : ClassId} {f g : Nat → Option Nat} (h : va_at D cl (a, .inl (c, n, .inr (.inr (.inr (.inr f))))) H) (he : ∀ i, i < n → f i = g i) : va_at D cl (a, .inl (c, n, .inr (.inr (.inr (.inr g))))) H := by
  have h1 : H[a]? = some (vp_cell c (n, .inr (.inr (.inr (.inr f))))) := h
  show H[a]? = some (vp_cell c (n, .inr (.inr (.inr (.inr g)))))
  rw [h1, vp_cell_q, vp_cell_q]
  have : arrV c n (fun j => va_rf (f j)) = arrV c n (fun j => va_rf (g j)) := by
    unfold arrV
    congr 1
    apply Array.ext
    · simp
    · intro i hi1 hi2
      simp at hi1
      simp [he i hi1]
  rw [this]
theorem cRowP {D : va_G} {cl : List vw_C} {H : Heap} {ws : va_W} {p a n : Nat} {c : ClassId} {f : Nat → Option Nat} (g : Nat → Option Nat) (hP : va_P D cl ws H) (hp : ws[p]? = some (a, .inl (c, n, .inr (.inr (.inr (.inr f)))))) (he : ∀ i, i < n → f i = g i) : va_P D cl (ws.set p (a, .inl (c, n, .inr (.inr (.inr (.inr g)))))) H := by
  intro k q h
  rw [List.getElem?_set] at h
  by_cases hk : p = k
  · rw [if_pos hk] at h
    split at h
    · cases h
      exact cRow (hP p _ hp) he
    · cases h
  · rw [if_neg hk] at h
    exact hP k q h
/-- a row of ints whose array class is already known -/
theorem cn_newa {p : Program} {l : Launch} {e : Env} {R : Room} {s : State} {m : MethodId} {args : Array Value} {below : List Frame} {meth : Method} {c : Code} {H : Heap} {locs : List Loc} {cells slots : Nat} {Q : State → Prop} {cc : ByteArray} {pc : Nat} {ls : Array Slot} {rest : List Value} {D : va_G} {cl : List vw_C} {tys : List (ClassId × FieldType)} {ws : va_W} {A : Nat → Prop} {H0 : Heap} (hexec : p.tables.exec = Jvm.exec) (hb : c.code = cc) {atype : ArrayType} (harr : (Cond.arrayClass (newarray.typeOf atype)).before args s = true) {ty : FieldType} (hty : newarray.typeOf atype = ty) (hK : va_K D cl tys s) (t0 : Nat) {cI : ClassId} (ht0 : tys[t0]? = some (cI, ty)) (hno : ∀ C, ty ≠ .object C) (hP : va_P D cl ws H) (hD : va_D A ws) (hS : va_S A H0 H locs) (hA : ∀ q, H0.size ≤ q → A q)
    {n : Int32} {N' : Nat} {a0 : vp_A} (ha : ∀ cA : ClassId, vp_cell cA a0 = arrV cA N' (fun _ => defaultValue ty)) (hn : ¬ n < 0) (hN : n.toNatClampNeg = N') (hbytes : N' * componentBytes ty ≤ 536870912) (hcells : cells + 1 ≤ R.cells) (hslots : slots + N' ≤ R.slots) (hdg : decode cc pc = .ok (.newarray atype, 2))
    (kk : ∀ (q : Nat) (H1 : Heap), va_P D cl (ws ++ [(q, .inl (cI, a0))]) H1 → va_D A (ws ++ [(q, .inl (cI, a0))]) → va_S A H0 H1 locs →
      W p l e R s m args below meth c H1 locs (cells + 1) (slots + N') Q (F0 m (pc + 2) ls (.ref q :: rest))) : W p l e R s m args below meth c H locs cells slots Q (F0 m pc ls (.int n :: rest)) := by
  refine va_newa hexec hb harr hty hK hP hD hS hA ha hn hN hbytes hcells hslots hdg (fun q cA H1 hK1 hP1 hD1 hS1 => ?_)
  have h1 := (hK.2 t0 _ ht0).2
  have h2 := (hK1.2 tys.length (cA, ty) (by rw [List.getElem?_append_right (Nat.le_refl _), Nat.sub_self]; rfl)).2
  have he : cA = cI := by
    cases ty with
    | object C => exact absurd rfl (hno C)
    | _ => exact Option.some.inj (h2.symm.trans h1)
  subst he
  exact kk q H1 hP1 hD1 hS1
/-- a row of references whose array class is already known -/
theorem cn_newq {p : Program} {l : Launch} {e : Env} {R : Room} {s : State} {m : MethodId} {args : Array Value} {below : List Frame} {meth : Method} {c : Code} {H : Heap} {locs : List Loc} {cells slots : Nat} {Q : State → Prop} {cc : ByteArray} {pc : Nat} {ls : Array Slot} {rest : List Value} {D : va_G} {cl : List vw_C} {tys : List (ClassId × FieldType)} {ws : va_W} {A : Nat → Prop} {H0 : Heap} (hexec : p.tables.exec = Jvm.exec) (hb : c.code = cc) {own C : String} {index : Nat} (hown : s.vm.findClass own = some m.cls) (hclink : (Cond.classLink own index C).before args s = true) (hover : va_AO C s) (hK : va_K D cl tys s) (t0 : Nat) {cI : ClassId} (ht0 : tys[t0]? = some (cI, .object C)) (hP : va_P D cl ws H) (hD : va_D A ws) (hS : va_S A H0 H locs) (hA : ∀ q, H0.size ≤ q → A q)
    {n : Int32} {N' : Nat} (hn : ¬ n < 0) (hN : n.toNatClampNeg = N') (hbytes : N' * 4 ≤ 536870912) (hcells : cells + 1 ≤ R.cells) (hslots : slots + N' ≤ R.slots) (hdg : decode cc pc = .ok (.anewarray index, 3))
    (kk : ∀ (q : Nat) (H1 : Heap), va_P D cl (ws ++ [(q, .inl (cI, N', .inr (.inr (.inr (.inr (fun _ => none))))))]) H1 → va_D A (ws ++ [(q, .inl (cI, N', .inr (.inr (.inr (.inr (fun _ => none))))))]) → va_S A H0 H1 locs →
      W p l e R s m args below meth c H1 locs (cells + 1) (slots + N') Q (F0 m (pc + 3) ls (.ref q :: rest))) : W p l e R s m args below meth c H locs cells slots Q (F0 m pc ls (.int n :: rest)) := by
  refine va_newq hexec hb hown hclink hover hK hP hD hS hA hn hN hbytes hcells hslots hdg (fun q cA H1 hK1 hP1 hD1 hS1 => ?_)
  obtain ⟨k1, c1, -, -, -, h1⟩ := (hK.2 t0 _ ht0).2
  obtain ⟨k2, c2, -, -, -, h2⟩ := (hK1.2 tys.length (cA, .object C) (by rw [List.getElem?_append_right (Nat.le_refl _), Nat.sub_self]; rfl)).2
  have he : cA = cI := Option.some.inj (h2.symm.trans h1)
  subst he
  exact kk q H1 hP1 hD1 hS1
