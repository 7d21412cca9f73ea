theorem mm_RX11_303 : Cond.methodLink RX11 303 Lib.Math.max.name ∈ lwW := lwW_all (ws := [Cond.methodLink RX11 303 Lib.Math.max.name]) (by decide +kernel) _ (List.mem_singleton.mpr rfl)
theorem mm_RX7_7 : Cond.methodLink RX7 7 Lib.Math.max.name ∈ lwW := lwW_all (ws := [Cond.methodLink RX7 7 Lib.Math.max.name]) (by decide +kernel) _ (List.mem_singleton.mpr rfl)
theorem mw_114 : Cond.classLink RX11 38 RX8 ∈ lwW := lwW_at 114 (by decide +kernel) rfl
theorem mw_115 : Cond.instantiable RX8 7 ∈ lwW := lwW_at 115 (by decide +kernel) rfl
theorem mw_117 : Cond.instanceMethod yX8_init ∈ lwW := lwW_at 117 (by decide +kernel) rfl
theorem mw_118 : Cond.code yX8_init cX8_init 1 none ∈ lwW := lwW_at 118 (by decide +kernel) rfl
theorem mw_119 : Cond.methodLink RX8 3 objectInit ∈ lwW := lwW_at 119 (by decide +kernel) rfl
theorem mw_142 : Cond.classLink RX11 45 RX1 ∈ lwW := lwW_at 142 (by decide +kernel) rfl
theorem mw_143 : Cond.instantiable RX1 8 ∈ lwW := lwW_at 143 (by decide +kernel) rfl
theorem mw_145 : Cond.instanceMethod yX1_init ∈ lwW := lwW_at 145 (by decide +kernel) rfl
theorem mw_146 : Cond.code yX1_init cX1_init 1 none ∈ lwW := lwW_at 146 (by decide +kernel) rfl
theorem mw_147 : Cond.methodLink RX1 1 objectInit ∈ lwW := lwW_at 147 (by decide +kernel) rfl
theorem mw_148 : Cond.classLink RX1 7 RX6 ∈ lwW := lwW_at 148 (by decide +kernel) rfl
theorem mw_179 : Cond.classLink RX11 52 RX2 ∈ lwW := lwW_at 179 (by decide +kernel) rfl
theorem mw_180 : Cond.instantiable RX2 5 ∈ lwW := lwW_at 180 (by decide +kernel) rfl
theorem mw_181 : Cond.methodLink RX11 54 yX2_init ∈ lwW := lwW_at 181 (by decide +kernel) rfl
theorem mw_182 : Cond.instanceMethod yX2_init ∈ lwW := lwW_at 182 (by decide +kernel) rfl
theorem mw_183 : Cond.code yX2_init cX2_init 3 none ∈ lwW := lwW_at 183 (by decide +kernel) rfl
theorem mw_184 : Cond.methodLink RX2 3 objectInit ∈ lwW := lwW_at 184 (by decide +kernel) rfl
theorem mw_185 : Cond.classLink RX2 9 RX7 ∈ lwW := lwW_at 185 (by decide +kernel) rfl
theorem mw_186 : Cond.instantiable RX7 2 ∈ lwW := lwW_at 186 (by decide +kernel) rfl
theorem mw_187 : Cond.methodLink RX2 13 yX7_init ∈ lwW := lwW_at 187 (by decide +kernel) rfl
theorem mw_188 : Cond.instanceMethod yX7_init ∈ lwW := lwW_at 188 (by decide +kernel) rfl
theorem mw_189 : Cond.code yX7_init cX7_init 2 none ∈ lwW := lwW_at 189 (by decide +kernel) rfl
theorem mw_190 : Cond.methodLink RX7 1 objectInit ∈ lwW := lwW_at 190 (by decide +kernel) rfl
theorem mw_199 : Cond.classLink RX2 20 RX6 ∈ lwW := lwW_at 199 (by decide +kernel) rfl
theorem mw_219 : Cond.classLink RX11 59 RX5 ∈ lwW := lwW_at 219 (by decide +kernel) rfl
theorem mw_220 : Cond.instantiable RX5 4 ∈ lwW := lwW_at 220 (by decide +kernel) rfl
theorem mw_221 : Cond.methodLink RX11 61 yX5_init ∈ lwW := lwW_at 221 (by decide +kernel) rfl
theorem mw_222 : Cond.instanceMethod yX5_init ∈ lwW := lwW_at 222 (by decide +kernel) rfl
theorem mw_223 : Cond.code yX5_init cX5_init 3 none ∈ lwW := lwW_at 223 (by decide +kernel) rfl
theorem mw_224 : Cond.methodLink RX5 3 objectInit ∈ lwW := lwW_at 224 (by decide +kernel) rfl
theorem mw_225 : Cond.classLink RX5 9 RX7 ∈ lwW := lwW_at 225 (by decide +kernel) rfl
theorem mw_226 : Cond.methodLink RX5 13 yX7_init ∈ lwW := lwW_at 226 (by decide +kernel) rfl
theorem mw_227 : Cond.classLink RX5 20 RX6 ∈ lwW := lwW_at 227 (by decide +kernel) rfl
theorem mw_24 : Cond.methodLink RX11 1 objectInit ∈ lwW := lwW_at 24 (by decide +kernel) rfl
theorem mw_244 : Cond.classLink RX11 68 RX3 ∈ lwW := lwW_at 244 (by decide +kernel) rfl
theorem mw_245 : Cond.instantiable RX3 4 ∈ lwW := lwW_at 245 (by decide +kernel) rfl
theorem mw_246 : Cond.methodLink RX11 70 yX3_init ∈ lwW := lwW_at 246 (by decide +kernel) rfl
theorem mw_247 : Cond.instanceMethod yX3_init ∈ lwW := lwW_at 247 (by decide +kernel) rfl
theorem mw_248 : Cond.code yX3_init cX3_init 4 none ∈ lwW := lwW_at 248 (by decide +kernel) rfl
theorem mw_249 : Cond.methodLink RX3 3 objectInit ∈ lwW := lwW_at 249 (by decide +kernel) rfl
theorem mw_25 : Cond.instanceMethod objectInit ∈ lwW := lwW_at 25 (by decide +kernel) rfl
theorem mw_250 : Cond.classLink RX3 9 RX5 ∈ lwW := lwW_at 250 (by decide +kernel) rfl
theorem mw_253 : Cond.classLink RX3 25 RX6 ∈ lwW := lwW_at 253 (by decide +kernel) rfl
theorem mw_255 : Cond.methodLink RX3 36 yX5_init ∈ lwW := lwW_at 255 (by decide +kernel) rfl
theorem mw_26 : Cond.code objectInit ⟨#[0xb1]⟩ 1 none ∈ lwW := lwW_at 26 (by decide +kernel) rfl
theorem mw_269 : Cond.classLink RX11 75 RX0 ∈ lwW := lwW_at 269 (by decide +kernel) rfl
theorem mw_27 : Cond.methodLink RX11 9 yX11_newQuats ∈ lwW := lwW_at 27 (by decide +kernel) rfl
theorem mw_270 : Cond.instantiable RX0 1 ∈ lwW := lwW_at 270 (by decide +kernel) rfl
theorem mw_272 : Cond.instanceMethod yX0_init ∈ lwW := lwW_at 272 (by decide +kernel) rfl
theorem mw_273 : Cond.code yX0_init cX0_init 1 none ∈ lwW := lwW_at 273 (by decide +kernel) rfl
theorem mw_274 : Cond.methodLink RX0 1 objectInit ∈ lwW := lwW_at 274 (by decide +kernel) rfl
theorem mw_275 : Cond.classLink RX0 7 RX7 ∈ lwW := lwW_at 275 (by decide +kernel) rfl
theorem mw_276 : Cond.methodLink RX0 11 yX7_init ∈ lwW := lwW_at 276 (by decide +kernel) rfl
theorem mw_28 : Cond.static yX11_newQuats ∈ lwW := lwW_at 28 (by decide +kernel) rfl
theorem mw_29 : Cond.code yX11_newQuats cX11_newQuats 3 (some (.array (.object "QuaternionDesk$Quat"))) ∈ lwW := lwW_at 29 (by decide +kernel) rfl
theorem mw_33 : Cond.classLink RX11 82 RX6 ∈ lwW := lwW_at 33 (by decide +kernel) rfl
theorem mw_35 : Cond.instantiable RX6 4 ∈ lwW := lwW_at 35 (by decide +kernel) rfl
theorem mw_37 : Cond.instanceMethod yX6_init ∈ lwW := lwW_at 37 (by decide +kernel) rfl
theorem mw_38 : Cond.code yX6_init cX6_init 1 none ∈ lwW := lwW_at 38 (by decide +kernel) rfl
theorem mw_39 : Cond.methodLink RX6 3 objectInit ∈ lwW := lwW_at 39 (by decide +kernel) rfl
theorem mw_61 : Cond.classLink RX11 17 RX9 ∈ lwW := lwW_at 61 (by decide +kernel) rfl
theorem mw_63 : Cond.instantiable RX9 2 ∈ lwW := lwW_at 63 (by decide +kernel) rfl
theorem mw_65 : Cond.instanceMethod yX9_init ∈ lwW := lwW_at 65 (by decide +kernel) rfl
theorem mw_66 : Cond.code yX9_init cX9_init 1 none ∈ lwW := lwW_at 66 (by decide +kernel) rfl
theorem mw_67 : Cond.methodLink RX9 3 objectInit ∈ lwW := lwW_at 67 (by decide +kernel) rfl
theorem mw_76 : Cond.classLink RX11 24 RX10 ∈ lwW := lwW_at 76 (by decide +kernel) rfl
theorem mw_78 : Cond.instantiable RX10 3 ∈ lwW := lwW_at 78 (by decide +kernel) rfl
theorem mw_80 : Cond.instanceMethod yX10_init ∈ lwW := lwW_at 80 (by decide +kernel) rfl
theorem mw_81 : Cond.code yX10_init cX10_init 1 none ∈ lwW := lwW_at 81 (by decide +kernel) rfl
theorem mw_82 : Cond.methodLink RX10 3 objectInit ∈ lwW := lwW_at 82 (by decide +kernel) rfl
theorem mw_93 : Cond.arrayClass .int ∈ lwW := lwW_at 93 (by decide +kernel) rfl
theorem mw_94 : Cond.classLink RX11 31 RX4 ∈ lwW := lwW_at 94 (by decide +kernel) rfl
theorem mw_95 : Cond.instantiable RX4 4 ∈ lwW := lwW_at 95 (by decide +kernel) rfl
theorem mw_97 : Cond.instanceMethod yX4_init ∈ lwW := lwW_at 97 (by decide +kernel) rfl
theorem mw_98 : Cond.code yX4_init cX4_init 1 none ∈ lwW := lwW_at 98 (by decide +kernel) rfl
theorem mw_99 : Cond.methodLink RX4 3 objectInit ∈ lwW := lwW_at 99 (by decide +kernel) rfl
theorem nfX0 : ∀ j, j < 1 → defaultValue (tyX0 j) = vp_V [.null] j := fun j hj => by rcases (show j = 0 by omega) with rfl <;> rfl
theorem nfX1 : ∀ j, j < 8 → defaultValue (tyX1 j) = vp_V [.null, .null, .null, .null, .null, .null, .null, .null] j := fun j hj => by rcases (show j = 0 ∨ j = 1 ∨ j = 2 ∨ j = 3 ∨ j = 4 ∨ j = 5 ∨ j = 6 ∨ j = 7 by omega) with rfl|rfl|rfl|rfl|rfl|rfl|rfl|rfl <;> rfl
theorem nfX2 : ∀ j, j < 5 → defaultValue (tyX2 j) = vp_V [.null, .null, .null, .null, .null] j := fun j hj => by rcases (show j = 0 ∨ j = 1 ∨ j = 2 ∨ j = 3 ∨ j = 4 by omega) with rfl|rfl|rfl|rfl|rfl <;> rfl
theorem nfX3 : ∀ j, j < 4 → defaultValue (tyX3 j) = vp_V [.null, .null, .null, .null] j := fun j hj => by rcases (show j = 0 ∨ j = 1 ∨ j = 2 ∨ j = 3 by omega) with rfl|rfl|rfl|rfl <;> rfl
theorem nfX4 : ∀ j, j < 4 → defaultValue (tyX4 j) = vp_V [.null, .null, .int 0, .int 0] j := fun j hj => by rcases (show j = 0 ∨ j = 1 ∨ j = 2 ∨ j = 3 by omega) with rfl|rfl|rfl|rfl <;> rfl
theorem nfX5 : ∀ j, j < 4 → defaultValue (tyX5 j) = vp_V [.null, .null, .null, .null] j := fun j hj => by rcases (show j = 0 ∨ j = 1 ∨ j = 2 ∨ j = 3 by omega) with rfl|rfl|rfl|rfl <;> rfl
theorem nfX6 : ∀ j, j < 4 → defaultValue (tyX6 j) = vp_V [.int 0, .int 0, .int 0, .int 0] j := fun j hj => by rcases (show j = 0 ∨ j = 1 ∨ j = 2 ∨ j = 3 by omega) with rfl|rfl|rfl|rfl <;> rfl
theorem nfX7 : ∀ j, j < 2 → defaultValue (tyX7 j) = vp_V [.null, .int 0] j := fun j hj => by rcases (show j = 0 ∨ j = 1 by omega) with rfl|rfl <;> rfl
theorem nfX8 : ∀ j, j < 7 → defaultValue (tyX8 j) = vp_V [.null, .null, .int 0, .int 0, .int 0, .int 0, .int 0] j := fun j hj => by rcases (show j = 0 ∨ j = 1 ∨ j = 2 ∨ j = 3 ∨ j = 4 ∨ j = 5 ∨ j = 6 by omega) with rfl|rfl|rfl|rfl|rfl|rfl|rfl <;> rfl
theorem nfX9 : ∀ j, j < 2 → defaultValue (tyX9 j) = vp_V [.null, .int 0] j := fun j hj => by rcases (show j = 0 ∨ j = 1 by omega) with rfl|rfl <;> rfl
theorem nfX10 : ∀ j, j < 3 → defaultValue (tyX10 j) = vp_V [.null, .int 0, .int 0] j := fun j hj => by rcases (show j = 0 ∨ j = 1 ∨ j = 2 by omega) with rfl|rfl|rfl <;> rfl
theorem nfX11 : ∀ j, j < 13 → defaultValue (tyX11 j) = vp_V [.null, .null, .null, .null, .null, .null, .null, .null, .null, .null, .null, .null, .int 0] j := fun j hj => by rcases (show j = 0 ∨ j = 1 ∨ j = 2 ∨ j = 3 ∨ j = 4 ∨ j = 5 ∨ j = 6 ∨ j = 7 ∨ j = 8 ∨ j = 9 ∨ j = 10 ∨ j = 11 ∨ j = 12 by omega) with rfl|rfl|rfl|rfl|rfl|rfl|rfl|rfl|rfl|rfl|rfl|rfl|rfl <;> rfl
theorem nfX12 : ∀ j, j < 34 → defaultValue (tyX12 j) = vp_V [.null, .null, .null, .null, .null, .null, .int 0, .null, .null, .null, .null, .null, .null, .null, .null, .int 0, .null, .null, .null, .null, .null, .null, .null, .null, .null, .null, .int 0, .int 0, .int 0, .null, .null, .null, .null, .int 0] j := fun j hj => by rcases (show j = 0 ∨ j = 1 ∨ j = 2 ∨ j = 3 ∨ j = 4 ∨ j = 5 ∨ j = 6 ∨ j = 7 ∨ j = 8 ∨ j = 9 ∨ j = 10 ∨ j = 11 ∨ j = 12 ∨ j = 13 ∨ j = 14 ∨ j = 15 ∨ j = 16 ∨ j = 17 ∨ j = 18 ∨ j = 19 ∨ j = 20 ∨ j = 21 ∨ j = 22 ∨ j = 23 ∨ j = 24 ∨ j = 25 ∨ j = 26 ∨ j = 27 ∨ j = 28 ∨ j = 29 ∨ j = 30 ∨ j = 31 ∨ j = 32 ∨ j = 33 by omega) with rfl|rfl|rfl|rfl|rfl|rfl|rfl|rfl|rfl|rfl|rfl|rfl|rfl|rfl|rfl|rfl|rfl|rfl|rfl|rfl|rfl|rfl|rfl|rfl|rfl|rfl|rfl|rfl|rfl|rfl|rfl|rfl|rfl|rfl <;> rfl
theorem cDe {A : Nat → Prop} {ws ws' : va_W} (h : va_D A ws) (he : ws.map Prod.fst = ws'.map Prod.fst) : va_D A ws' := by
  have hg : ∀ (k : Nat) (q : Nat × va_E), ws'[k]? = some q → ∃ p, ws[k]? = some p ∧ p.1 = q.1 := by
    intro k q hk
    have h1 : (ws'.map Prod.fst)[k]? = some q.1 := by rw [List.getElem?_map, hk]; rfl
    rw [← he, List.getElem?_map] at h1
    cases hp : ws[k]? with
    | none => rw [hp] at h1; cases h1
    | some p => rw [hp] at h1; exact ⟨p, rfl, Option.some.inj h1⟩
  refine ⟨fun i j p q h1 h2 e => ?_, fun k q h1 => ?_⟩
  · obtain ⟨p', a1, b1⟩ := hg i p h1
    obtain ⟨q', a2, b2⟩ := hg j q h2
    exact h.1 i j p' q' a1 a2 (by rw [b1, b2, e])
  · obtain ⟨p', a1, b1⟩ := hg k q h1
    rw [← b1]
    exact h.2 k p' a1
abbrev vX6 (T : Nat → ClassId) (a : Nat) (f : Nat → Nat) : va_W := [(a, eQ)]
set_option maxHeartbeats 4000000 in
set_option maxRecDepth 100000 in
theorem nX6_init (l : Launch) (D : va_G) (T : Nat → ClassId) (a sz : Nat) : Met l yX6_init (.code yX6_init cX6_init 1 none :: lwW) (rmC 1 0 0) (cPc D T sz [(a, eQ)] [.ref a]) (cQv D [(a, eQ)] sz (vX6 T a)) 0 0 (va_A [(a, eQ)] sz) := by
  refine Met.ofW (cc := cX6_init) (maxL := 1) (ret := none) (by decide) rfl ?_
  intro p e s m args below meth c s₁ B hml hv
  unfold cQv
  obtain ⟨rfl, rfl, hP, hX⟩ := hv
  have hx := B.exec
  have hb := B.bytes
  have hr := B.returns
  have hts := fun (w : Cond) (hw : w ∈ lwW) => atoms_spec (ws := (.code yX6_init cX6_init 1 none :: lwW)) B.pre w (List.mem_cons_of_mem _ hw)
  have hown : s.vm.findClass RX6 = some m.cls := findClass_of_methodNamed B.named
  have hlocks := B.notSynchronized
  have hin : meth.name = "<init>" := (name_of_methodNamed B.named B.method).1
  obtain ⟨hK, hN, hO⟩ := id hX
  have hD : va_D (va_A [(a, eQ)] s.heap.size) [(a, eQ)] := cD1
  have hA : ∀ q : Nat, s.heap.size ≤ q → va_A [(a, eQ)] s.heap.size q := fun q h => Or.inr h
  have hS : va_S (va_A [(a, eQ)] s.heap.size) s.heap s.heap [] := va_S.rf
  generalize va_A [(a, eQ)] s.heap.size = A at hD hA hS ⊢
  have hl := lv_entry ([.ref a]) (n := 1) (Nat.le_of_ble_eq_true rfl)
  rw [lg_entry_eq]
  generalize (lg_sl ([.ref a]) ++ List.replicate (1 - (lg_sl ([.ref a])).length) Slot.unset).toArray = ls at hl ⊢
  have hl : lv_has ls 1 [(0, .ref a)] := hl
  refine lv_aload_n hx hb dX6_init_0 rfl (lv_at hl 0 rfl) ?_
  refine W.objInit hx hb hown (hts _ mw_39) (hts _ mw_25) (hts _ mw_26) rfl (by rw [hml]; exact hl.1) rfl dX6_init_1 (Nat.le_of_ble_eq_true rfl) (Nat.le_of_ble_eq_true rfl) ?_
  refine W.eq (g2 := F0 m 4 ls []) rfl ?_
  have hD0 := hD
  have hP : va_P D vwCl (vX6 T a (fun k => (([] : List Nat).getD k 0))) _ := hP
  have hD : va_D A (vX6 T a (fun k => (([] : List Nat).getD k 0))) := cDe hD0 rfl
  exact W.vret hx hb hr (fun t ht hW => ⟨⟨fun k => (([] : List Nat).getD k 0), rfl, trivial, by rw [ht]; exact hP, hD⟩, hS.F ht⟩) hS.2.2 dX6_init_4
abbrev vX7 (T : Nat → ClassId) (a : Nat) (n : Nat) (f : Nat → Nat) : va_W := [(a, .inr (7, [.ref (f 0), .int 0])), (f 0, eI T n)]
set_option maxHeartbeats 4000000 in
set_option maxRecDepth 100000 in
theorem nX7_init (l : Launch) (D : va_G) (T : Nat → ClassId) (a sz : Nat) (v : Int32) (n : Nat) (h1 : ¬ 4 * (if v < 0 then 0 else v) < 0) (h2 : (4 * (if v < 0 then 0 else v)).toNatClampNeg = n) (h3 : n ≤ 1000) : Met l yX7_init (.code yX7_init cX7_init 2 none :: lwW) (rmC 1 1 n) (cPc D T sz [(a, .inr (7, [.null, .int 0]))] [.ref a, .int v]) (cQv D [(a, .inr (7, [.null, .int 0]))] sz (vX7 T a n)) 1 n (va_A [(a, .inr (7, [.null, .int 0]))] sz) := by
  refine Met.ofW (cc := cX7_init) (maxL := 2) (ret := none) (by decide) rfl ?_
  intro p e s m args below meth c s₁ B hml hv
  unfold cQv
  obtain ⟨rfl, rfl, hP, hX⟩ := hv
  have hx := B.exec
  have hb := B.bytes
  have hr := B.returns
  have hts := fun (w : Cond) (hw : w ∈ lwW) => atoms_spec (ws := (.code yX7_init cX7_init 2 none :: lwW)) B.pre w (List.mem_cons_of_mem _ hw)
  have hown : s.vm.findClass RX7 = some m.cls := findClass_of_methodNamed B.named
  have hlocks := B.notSynchronized
  have hin : meth.name = "<init>" := (name_of_methodNamed B.named B.method).1
  obtain ⟨hK, hN, hO⟩ := id hX
  have hD : va_D (va_A [(a, .inr (7, [.null, .int 0]))] s.heap.size) [(a, .inr (7, [.null, .int 0]))] := cD1
  have hA : ∀ q : Nat, s.heap.size ≤ q → va_A [(a, .inr (7, [.null, .int 0]))] s.heap.size q := fun q h => Or.inr h
  have hS : va_S (va_A [(a, .inr (7, [.null, .int 0]))] s.heap.size) s.heap s.heap [] := va_S.rf
  generalize va_A [(a, .inr (7, [.null, .int 0]))] s.heap.size = A at hD hA hS ⊢
  have hl := lv_entry ([.ref a, .int v]) (n := 2) (Nat.le_of_ble_eq_true rfl)
  rw [lg_entry_eq]
  generalize (lg_sl ([.ref a, .int v]) ++ List.replicate (2 - (lg_sl ([.ref a, .int v])).length) Slot.unset).toArray = ls at hl ⊢
  have hl : lv_has ls 2 [(0, .ref a), (1, .int v)] := hl
  refine lv_aload_n hx hb dX7_init_0 rfl (lv_at hl 0 rfl) ?_
  refine W.objInit hx hb hown (hts _ mw_190) (hts _ mw_25) (hts _ mw_26) rfl (by rw [hml]; exact hl.1) rfl dX7_init_1 (Nat.le_of_ble_eq_true rfl) (Nat.le_of_ble_eq_true rfl) ?_
  refine W.eq (g2 := F0 m 4 ls []) rfl ?_
  refine lv_aload_n hx hb dX7_init_4 rfl (lv_at hl 0 rfl) ?_
  refine lv_iconst (v := 4) hx hb dX7_init_5 (by decide) ?_
  refine lv_iload_n hx hb dX7_init_6 rfl (lv_at hl 1 rfl) ?_
  refine lv_iconst (v := 0) hx hb dX7_init_7 (by decide) ?_
  refine va_mmax hx hb (by rw [hml]; exact hl.1.symm) hown (hts _ mm_RX7_7) (hts _ mms_max) (hts _ mw_2) (hts _ mmc_max) (Nat.le_of_ble_eq_true rfl) (Nat.le_of_ble_eq_true rfl) (Nat.zero_le _) (Nat.zero_le _) dX7_init_8 ?_
  refine lv_imul hx hb dX7_init_11 ?_
  refine cn_newa (atype := .int) (a0 := (n, .inl (fun _ => 0))) hx hb (hts _ mw_93) rfl hK 0 rfl (fun C h9 => by cases h9) hP hD hS hA (fun cA => vp_cell_i cA _ _) h1 h2 (by show n * 4 ≤ 536870912; omega) (Nat.le_of_ble_eq_true rfl) (by show 0 + n ≤ n; omega) dX7_init_12 (fun q0 H hP hD hS => ?_)
  have hP : va_P D vwCl [(a, .inr (7, [.null, .int 0])), (q0, eI T n)] H := hP
  have hD : va_D A [(a, .inr (7, [.null, .int 0])), (q0, eI T n)] := hD
  refine W.widen (k := 1) (n := n) (by omega) (by omega) ?_
  refine va_putF (D := D) (ci := 7) (v := .ref q0) (ty := .array .int) (C := RX7) (T := TX7) (N := 2) hx hb hts iwX7 tyX7 tyX7_ok nmX7 hown hK hP hD hS 0 rfl rfl 0 (by decide) (hts _ mw_192) (fun _ h9 => h9) rfl hin rfl (by decide +kernel) rfl rfl (Nat.le_of_ble_eq_true rfl) dX7_init_14 (fun H locs hP hD hS => ?_)
  have hP : va_P D vwCl [(a, .inr (7, [.ref q0, .int 0])), (q0, eI T n)] H := hP
  have hD : va_D A [(a, .inr (7, [.ref q0, .int 0])), (q0, eI T n)] := hD
  refine lv_aload_n hx hb dX7_init_17 rfl (lv_at hl 0 rfl) ?_
  refine lv_iconst (v := 0) hx hb dX7_init_18 (by decide) ?_
  refine va_put (D := D) (ci := 7) (v := .int 0) (ty := .int) (C := RX7) (T := TX7) (N := 2) hx hb hts iwX7 tyX7 tyX7_ok nmX7 hown hK hP hD hS 0 rfl rfl 1 (by decide) (hts _ mw_193) (fun _ h9 => h9) rfl (by decide +kernel) rfl rfl (Nat.le_of_ble_eq_true rfl) dX7_init_19 (fun H locs hP hD hS => ?_)
  have hP : va_P D vwCl [(a, .inr (7, [.ref q0, .int 0])), (q0, eI T n)] H := hP
  have hD : va_D A [(a, .inr (7, [.ref q0, .int 0])), (q0, eI T n)] := hD
  have hD0 := hD
  have hP : va_P D vwCl (vX7 T a n (fun k => (([q0] : List Nat).getD k 0))) _ := hP
  have hD : va_D A (vX7 T a n (fun k => (([q0] : List Nat).getD k 0))) := cDe hD0 rfl
  exact W.vret hx hb hr (fun t ht hW => ⟨⟨fun k => (([q0] : List Nat).getD k 0), rfl, trivial, by rw [ht]; exact hP, hD⟩, hS.F ht⟩) hS.2.2 dX7_init_22
