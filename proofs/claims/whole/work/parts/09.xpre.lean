/-! the words of nest mates -/
def xNF : List (String × Nat × String × String × String × String) := [("QuaternionDesk$Division", 53, "QuaternionDesk$Quat", "a", "I", "QuaternionDesk"), ("QuaternionDesk$Primes", 65, "QuaternionDesk$Quat", "a", "I", "QuaternionDesk"), ("QuaternionDesk$Division", 61, "QuaternionDesk$Quat", "b", "I", "QuaternionDesk"), ("QuaternionDesk$Primes", 69, "QuaternionDesk$Quat", "b", "I", "QuaternionDesk"), ("QuaternionDesk$Division", 64, "QuaternionDesk$Quat", "c", "I", "QuaternionDesk"), ("QuaternionDesk$Primes", 72, "QuaternionDesk$Quat", "c", "I", "QuaternionDesk"), ("QuaternionDesk$Division", 67, "QuaternionDesk$Quat", "d", "I", "QuaternionDesk"), ("QuaternionDesk$Primes", 75, "QuaternionDesk$Quat", "d", "I", "QuaternionDesk"), ("QuaternionDesk$Parting", 70, "QuaternionDesk$Division", "quotient", "LQuaternionDesk$Quat;", "QuaternionDesk"), ("QuaternionDesk", 201, "QuaternionDesk$Division", "quotient", "LQuaternionDesk$Quat;", "QuaternionDesk"), ("QuaternionDesk", 204, "QuaternionDesk$Division", "rest", "LQuaternionDesk$Quat;", "QuaternionDesk"), ("QuaternionDesk", 211, "QuaternionDesk$Division", "high", "LQuaternionDesk$Quat;", "QuaternionDesk"), ("QuaternionDesk$Primes", 52, "QuaternionDesk$Heads", "rows", "LQuaternionDesk$Rows;", "QuaternionDesk"), ("QuaternionDesk", 262, "QuaternionDesk$Heads", "rows", "LQuaternionDesk$Rows;", "QuaternionDesk"), ("QuaternionDesk$Parting", 55, "QuaternionDesk$Primes", "rows", "LQuaternionDesk$Rows;", "QuaternionDesk"), ("QuaternionDesk", 249, "QuaternionDesk$Primes", "rows", "LQuaternionDesk$Rows;", "QuaternionDesk"), ("QuaternionDesk", 268, "QuaternionDesk$Bases", "rows", "LQuaternionDesk$Rows;", "QuaternionDesk"), ("QuaternionDesk$Quat", 32, "QuaternionDesk", "UNIT_PARTS", "[I", "QuaternionDesk")]
def xNM : List (String × Nat × MethodName × String) := [("QuaternionDesk", 84, yX6_init, "QuaternionDesk"), ("QuaternionDesk", 23, yX9_init, "QuaternionDesk"), ("QuaternionDesk$Shelf", 9, yX11_newQuats, "QuaternionDesk"), ("QuaternionDesk", 30, yX10_init, "QuaternionDesk"), ("QuaternionDesk", 33, yX4_init, "QuaternionDesk"), ("QuaternionDesk$Past", 15, yX11_newQuats, "QuaternionDesk"), ("QuaternionDesk", 40, yX8_init, "QuaternionDesk"), ("QuaternionDesk", 47, yX1_init, "QuaternionDesk"), ("QuaternionDesk$Division", 9, yX6_init, "QuaternionDesk"), ("QuaternionDesk$Heads", 22, yX6_init, "QuaternionDesk"), ("QuaternionDesk$Primes", 22, yX6_init, "QuaternionDesk"), ("QuaternionDesk$Parting", 17, yX11_newQuats, "QuaternionDesk"), ("QuaternionDesk$Parting", 27, yX6_init, "QuaternionDesk"), ("QuaternionDesk", 77, yX0_init, "QuaternionDesk"), ("QuaternionDesk$Quat", 28, yX11_isUnit, "QuaternionDesk"), ("QuaternionDesk", 155, yX3_chains, "QuaternionDesk"), ("QuaternionDesk$Rows", 23, yX11_isPart, "QuaternionDesk")]
def xN (U : State) : Prop := (∀ q ∈ xNF, va_Nw (.fieldLinkNest q.1 q.2.1 q.2.2.1 q.2.2.2.1 q.2.2.2.2.1 q.2.2.2.2.2) U) ∧ ∀ q ∈ xNM, va_Nw (.methodLinkNest q.1 q.2.1 q.2.2.1 q.2.2.2) U
theorem xN.warm {s U : State} (hW : s.WarmedH U.vm) (h : xN s) : xN U := ⟨fun q hq => va_Nw.warmF hW (h.1 q hq), fun q hq => va_Nw.warmM hW (h.2 q hq)⟩
theorem xN.same {s U : State} (hv : s.vm = U.vm) (h : xN s) : xN U := ⟨fun q hq => va_Nw.same rfl hv (h.1 q hq), fun q hq => va_Nw.same rfl hv (h.2 q hq)⟩
theorem xN.F {U : State} {a b n d g : String} {i : Nat} (h : xN U) (k : Nat) (hk : xNF[k]? = some (a, i, b, n, d, g)) : va_Nw (.fieldLinkNest a i b n d g) U := h.1 _ (List.mem_of_getElem? hk)
theorem xN.M {U : State} {a g : String} {i : Nat} {y : MethodName} (h : xN U) (k : Nat) (hk : xNM[k]? = some (a, i, y, g)) : va_Nw (.methodLinkNest a i y g) U := h.2 _ (List.mem_of_getElem? hk)
/-- the units' ints, as the class's own row has them -/
def xUl : List Int32 := [2, 0, 0, 0, 1, 1, 1, 1, 1, 1, 1, -1, 1, 1, -1, 1, 1, 1, -1, -1, 1, -1, 1, 1, 1, -1, 1, -1, 1, -1, -1, 1, 1, -1, -1, -1, 0, 2, 0, 0, 0, 0, 2, 0, 0, 0, 0, 2, 0, 0, 0, -2, 0, 0, -2, 0, 0, -2, 0, 0, -1, 1, 1, 1, -1, 1, 1, -1, -1, 1, -1, 1, -1, 1, -1, -1, -1, -1, 1, 1, -1, -1, 1, -1, -1, -1, -1, 1, -1, -1, -1, -1, -2, 0, 0, 0]
def xU (j : Nat) : Int32 := xUl.getD j 0
abbrev xB : Type := Nat × (Nat → Nat) × (Nat → Nat)
/-- the texts "all", "put", "unit", "copy" -/
def xSl : List Nat := [3, 3, 4, 4]
def xSb : List (List Int32) := [[97, 108, 108], [112, 117, 116], [117, 110, 105, 116], [99, 111, 112, 121]]
/-- what does not change: the units' row, the texts, the nest mates' words -/
def xS (G : xG) (ub : xB) (U : State) : Prop :=
  va_Z RX11 "UNIT_PARTS" "[I" (.ref ub.1) (xA G) U U.heap ∧ va_X ub.1 96 xU U U.heap ∧ ub.1 < U.heap.size ∧ ¬ xA G ub.1 ∧ xN U
  ∧ vk_S 4 xSl xSb ub.2.1 ub.2.2 (xA G) U U.heap ∧ vk_R RX8 49 "all" (ub.2.1 0) U ∧ vk_R RX8 55 "put" (ub.2.1 1) U ∧ vk_R RX8 64 "unit" (ub.2.1 2) U ∧ vk_R RX8 66 "copy" (ub.2.1 3) U
  ∧ va_Z RJ0 "COMPACT_STRINGS" "Z" (.int 1) (xA G) U U.heap ∧ va_Zq RJ3 "SIOOBE_FORMATTER" "Ljava/util/function/BiFunction;" (xA G) U U.heap
def xPre (D : va_G) (G : xG) (ub : xB) (σ : QMem) (U : State) : Prop := va_P D vwCl (xW G σ) U.heap ∧ va_K D vwCl (xT G) U ∧ wInj 115 G.1 ∧ xS G ub U
theorem xPre_at {D : va_G} {G : xG} {ub : xB} {σ0 σ : QMem} {s U : State} {H : Heap} {locs : List Loc} (h0 : xPre D G ub σ0 s) (hS : va_S (xA G) s.heap H locs) (hP : va_P D vwCl (xW G σ) H) (hU : U.heap = H) (hW : s.WarmedH U.vm) : xPre D G ub σ U := by
  obtain ⟨-, hK, hi, z1, z2, z3, z4, z5, z6, z7, z8, z9, z10, z11, z12⟩ := h0
  have hq : ∀ a : Nat, a < s.heap.size → ¬ xA G a → U.heap[a]? = s.heap[a]? := fun a h1 h2 => by rw [hU]; exact hS.2.1 a h1 h2
  exact ⟨by rw [hU]; exact hP, va_K.moved hW.alike hK, hi, (z1.kept hq).moved hW.alike, (z2.kept (hq _ z3 z4)).moved hW.alike, Nat.lt_of_lt_of_le z3 (by rw [hU]; exact hS.1), z4, z5.warm hW, (z6.kept hq).moved hW.alike, z7.warm hW, z8.warm hW, z9.warm hW, z10.warm hW, (z11.kept hq).moved hW.alike, (z12.kept hq).moved hW.alike⟩
theorem xPre_call {D : va_G} {G : xG} {ub : xB} {σ : QMem} {U : State} {g : JFrame} {mk : MethodId} {a : Array Value} (h0 : xPre D G ub σ U) : xPre D G ub σ (U.calling g mk a) := by
  obtain ⟨hP, hK, hi, z1, z2, z3, z4, z5, z6, z7, z8, z9, z10, z11, z12⟩ := h0
  have hA : U.vm.Alike (U.calling g mk a).vm := Vm.Alike.refl U.vm
  exact ⟨hP, va_K.moved hA hK, hi, z1.moved hA, z2.moved hA, z3, z4, z5.same rfl, z6.moved hA, z7.same rfl, z8.same rfl, z9.same rfl, z10.same rfl, z11.moved hA, z12.moved hA⟩
abbrev xPc (D : va_G) (G : xG) (ub : xB) (σ : QMem) (av : List Value) : Array Value → State → Prop := va_Pc av (xPre D G ub σ)
abbrev xQi (D : va_G) (G : xG) (ub : xB) (res : Int32 × QMem) : Array Value → State → Outcome → State → Prop := va_Qi (fun (r : Int32) (τ : QMem) => r = res.1 ∧ τ = res.2) (xPre D G ub) (xA G)
abbrev xQl (D : va_G) (G : xG) (ub : xB) (res : Int64 × QMem) : Array Value → State → Outcome → State → Prop := va_Ql (fun (r : Int64) (τ : QMem) => r = res.1 ∧ τ = res.2) (xPre D G ub) (xA G)
abbrev xQv (D : va_G) (G : xG) (ub : xB) (res : QMem) : Array Value → State → Outcome → State → Prop := va_Qv (fun (τ : QMem) => τ = res) (xPre D G ub) (xA G)
/-- a contract that knows no world: static, over numbers alone -/
abbrev nPc (av : List Value) : Array Value → State → Prop := va_Pc av (fun _ => True)
abbrev nQi (res : Int32) : Array Value → State → Outcome → State → Prop := va_Qi (fun (r : Int32) (_ : Unit) => r = res) (fun _ _ => True) (fun _ => False)
abbrev nQl (res : Int64) : Array Value → State → Outcome → State → Prop := va_Ql (fun (r : Int64) (_ : Unit) => r = res) (fun _ _ => True) (fun _ => False)
theorem xP_kept {D : va_G} {G : xG} {σ : QMem} {H H1 : Heap} (hP : va_P D vwCl (xW G σ) H) (hk : ∀ q : Nat, q < H.size → ¬ False → H1[q]? = H[q]?) : va_P D vwCl (xW G σ) H1 := by
  refine hP.kept (fun k q h => hk _ ?_ id)
  have h2 := hP k q h
  unfold va_at at h2
  cases hq : q.2 with
  | inl a => rw [hq] at h2; exact (Array.getElem?_eq_some_iff.mp h2).1
  | inr o => rw [hq] at h2; obtain ⟨r, -, h3⟩ := h2; obtain ⟨cell, h4, -⟩ := h3; exact (Array.getElem?_eq_some_iff.mp h4).1

