/-! the words that every method carries: those of the tables that a call may hand on -/
def lwW : List Cond := lw_tbl.filter goodWord
theorem lwW_in {w : Cond} (h : w ∈ lw_tbl) (hg : goodWord w = true) : w ∈ lwW := List.mem_filter.mpr ⟨h, hg⟩
theorem lwW_at {w : Cond} (i : Nat) (h : tables_1[i]? = some w) (hg : goodWord w = true) : w ∈ lwW := lwW_in (List.mem_append_right _ (List.mem_of_getElem? h)) hg
theorem lwW_good {w : Cond} (h : w ∈ lwW) : goodWord w = true := (List.mem_filter.mp h).2
theorem lwW_ok {w : Cond} (h : w ∈ lwW) : w ∈ lw_tbl := (List.mem_filter.mp h).1
theorem lwW_gi {ws : List Cond} (h : ∀ w ∈ ws, w ∈ lwW) : GoodIn lwW ws := fun w hw => ⟨h w hw, good_of_word (lwW_good (h w hw))⟩
theorem lwW_gc {y : MethodName} {b : ByteArray} {n : Nat} {r : Option FieldType} (h5 : Cond.code y b n r ∈ lwW) : GoodIn lwW (Cond.code y b n r :: lwW) := lwW_gi (fun w hw => by
  rcases List.mem_cons.mp hw with q | q
  · rw [q]; exact h5
  · exact q)
theorem lwW_gV {own : String} {idx : Nat} {C : String} {y : MethodName} {b : ByteArray} {n : Nat} {r : Option FieldType} (h1 : Cond.methodLink own idx y ∈ lwW) (h2 : Cond.instanceMethod y ∈ lwW) (h3 : Cond.selects C y y ∈ lwW) (h4 : Cond.initialized C ∈ lwW) (h5 : Cond.code y b n r ∈ lwW) : GoodIn lwW (wsV own idx C y (Cond.code y b n r :: lwW)) := lwW_gi (fun w hw => by
  unfold wsV at hw
  rcases List.mem_append.mp hw with q | q
  · simp only [List.mem_cons, List.not_mem_nil, or_false] at q
    rcases q with q | q | q | q <;> rw [q] <;> assumption
  · rcases List.mem_cons.mp q with q | q
    · rw [q]; exact h5
    · exact q)
theorem lwW_gS {own : String} {idx : Nat} {y : MethodName} {b : ByteArray} {n : Nat} {r : Option FieldType} (h1 : Cond.methodLink own idx y ∈ lwW) (h2 : Cond.static y ∈ lwW) (h4 : Cond.initialized y.cls ∈ lwW) (h5 : Cond.code y b n r ∈ lwW) : GoodIn lwW (va_wsS own idx y (Cond.code y b n r :: lwW)) := lwW_gi (fun w hw => by
  unfold va_wsS at hw
  rcases List.mem_append.mp hw with q | q
  · simp only [List.mem_cons, List.not_mem_nil, or_false] at q
    rcases q with q | q | q <;> rw [q] <;> assumption
  · rcases List.mem_cons.mp q with q | q
    · rw [q]; exact h5
    · exact q)
/-! a memory: the ints of cell k, by their places -/
abbrev QMem : Type := Nat → Nat → Int32
def mu (σ : QMem) (k : Nat) (f : Nat → Int32) : QMem := fun q => if q = k then f else σ q
def ms (σ : QMem) (k j : Nat) (v : Int32) : QMem := mu σ k (upd (σ k) j v)
/-! a world: N cells at the addresses ad, cell k holds what E makes of its ints -/
def wW (N : Nat) (ad : Nat → Nat) (E : Nat → (Nat → Int32) → va_E) (σ : QMem) : va_W := (List.range N).map (fun k => (ad k, E k (σ k)))
def wA (N : Nat) (ad : Nat → Nat) : Nat → Prop := fun q => ∃ k, k < N ∧ q = ad k
def wInj (N : Nat) (ad : Nat → Nat) : Prop := ∀ i j, i < N → j < N → ad i = ad j → i = j
theorem wW_get {N : Nat} {ad : Nat → Nat} {E : Nat → (Nat → Int32) → va_E} {σ : QMem} {k : Nat} (h : k < N) : (wW N ad E σ)[k]? = some (ad k, E k (σ k)) := by simp [wW, h]
theorem wW_len {N : Nat} {ad : Nat → Nat} {E : Nat → (Nat → Int32) → va_E} {σ : QMem} : (wW N ad E σ).length = N := by simp [wW]
theorem wW_set {N : Nat} {ad : Nat → Nat} {E : Nat → (Nat → Int32) → va_E} {σ : QMem} {k : Nat} {f : Nat → Int32} : (wW N ad E σ).set k (ad k, E k f) = wW N ad E (mu σ k f) := by
  apply List.ext_getElem?
  intro j
  by_cases hj : j < N
  · rw [wW_get hj, List.getElem?_set]
    by_cases e : k = j
    · subst e; simp [wW, hj, mu]
    · have e' : ¬ j = k := fun q => e q.symm
      simp [wW, hj, mu, e, e']
  · rw [List.getElem?_eq_none (by rw [List.length_set, wW_len]; omega), List.getElem?_eq_none (by rw [wW_len]; omega)]
theorem wW_inv {N : Nat} {ad : Nat → Nat} {E : Nat → (Nat → Int32) → va_E} {σ : QMem} {k : Nat} {q : Nat × va_E} (h : (wW N ad E σ)[k]? = some q) : k < N ∧ q.1 = ad k := by
  by_cases hk : k < N
  · rw [wW_get hk] at h; cases h; exact ⟨hk, rfl⟩
  · rw [List.getElem?_eq_none (by rw [wW_len]; omega)] at h; cases h
theorem wW_D {N : Nat} {ad : Nat → Nat} {E : Nat → (Nat → Int32) → va_E} {σ : QMem} (hi : wInj N ad) : va_D (wA N ad) (wW N ad E σ) := by
  refine ⟨fun i j p q h1 h2 e => ?_, fun k q h => ?_⟩
  · obtain ⟨a1, a2⟩ := wW_inv h1
    obtain ⟨b1, b2⟩ := wW_inv h2
    exact hi i j a1 b1 (by rw [← a2, ← b2, e])
  · obtain ⟨a1, a2⟩ := wW_inv h
    exact ⟨k, a1, a2⟩
/-! what the functions of a method's body say -/
theorem nif {α : Type} {c : Prop} [Decidable c] {x : Option α} {r : α} (h : (if c then none else x) = some r) : ¬ c ∧ x = some r := by
  by_cases hc : c
  · rw [if_pos hc] at h; cases h
  · rw [if_neg hc] at h; exact ⟨hc, h⟩
theorem ifp {α : Type} {c : Prop} [Decidable c] {x y : Option α} {r : α} (hc : c) (h : (if c then x else y) = some r) : x = some r := by rw [if_pos hc] at h; exact h
theorem ifn {α : Type} {c : Prop} [Decidable c] {x y : Option α} {r : α} (hc : ¬ c) (h : (if c then x else y) = some r) : y = some r := by rw [if_neg hc] at h; exact h
theorem obd {α β : Type} {o : Option α} {f : α → Option β} {r : β} (h : o.bind f = some r) : ∃ x, o = some x ∧ f x = some r := by
  cases o with
  | none => cases h
  | some x => exact ⟨x, rfl, h⟩
theorem nar01 {v : Int32} (h : v = 0 ∨ v = 1) : narrow .boolean (.int v) = .int v := by rcases h with h | h <;> rw [h] <;> rfl
theorem fit01 {v : Int32} (h : v = 0 ∨ v = 1) : fits .boolean (.int v) = true := by rcases h with h | h <;> rw [h] <;> rfl
theorem vpn01 {v : Int32} (h : v = 0 ∨ v = 1) : vp_nar .boolean v = v := by rcases h with h | h <;> rw [h] <;> rfl
theorem toI_ne {x y : Int32} (h : ¬ x = y) : ¬ x.toInt = y.toInt := fun q => h (Int32.toInt_inj.mp q)
def rmD (d : Nat) : Room := { frames := d, cells := 0, slots := 0, locals := 48 * d }
