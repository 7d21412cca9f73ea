/-! HOW MANY QUATERNIONS A NORM HAS: read off the fourth power of one great number -/
/-- powers of X added up; how many of a power -/
def pS (X : Nat) : List Nat → Nat
  | [] => 0
  | e :: T => X ^ e + pS X T
def pC (m : Nat) : List Nat → Nat
  | [] => 0
  | e :: T => (if e = m then 1 else 0) + pC m T
theorem pS_cons (X e : Nat) (T : List Nat) : pS X (e :: T) = X ^ e + pS X T := rfl
theorem pC_cons (m e : Nat) (T : List Nat) : pC m (e :: T) = (if e = m then 1 else 0) + pC m T := rfl
theorem pC_le (m : Nat) (T : List Nat) : pC m T ≤ T.length := by
  induction T with
  | nil => exact Nat.le_refl _
  | cons e T ih => unfold pC; rw [List.length_cons]; split <;> omega
theorem pS_cut {X : Nat} (hX : 0 < X) (m : Nat) (T : List Nat) : ∃ lo hi, pS X T = lo + X ^ m * (pC m T + X * hi) ∧ lo * X ≤ T.length * X ^ m := by
  induction T with
  | nil => exact ⟨0, 0, by simp [pS, pC], by simp⟩
  | cons e T ih =>
    obtain ⟨lo, hi, h1, h2⟩ := ih
    unfold pS pC
    rw [h1, List.length_cons]
    rcases Nat.lt_trichotomy e m with h | h | h
    · refine ⟨X ^ e + lo, hi, by rw [if_neg (by omega)]; rw [Nat.zero_add]; omega, ?_⟩
      have : X ^ e * X ≤ X ^ m := by
        rw [← Nat.pow_succ]
        exact Nat.pow_le_pow_right hX h
      rw [Nat.add_mul, Nat.add_mul, Nat.one_mul]
      omega
    · subst h
      refine ⟨lo, hi, ?_, ?_⟩
      · rw [if_pos rfl, Nat.add_assoc 1, Nat.mul_add _ 1, Nat.mul_one]
        omega
      · rw [Nat.add_mul, Nat.one_mul]
        omega
    · refine ⟨lo, hi + X ^ (e - m - 1), ?_, ?_⟩
      · rw [if_neg (by omega), Nat.zero_add]
        have e1 : X ^ e = X ^ m * (X * X ^ (e - m - 1)) := by
          rw [← Nat.mul_assoc, ← Nat.pow_succ, ← Nat.pow_add]
          congr 1
          omega
        have e2 : X ^ m * (pC m T + (X * hi + X * X ^ (e - m - 1))) = X ^ m * (pC m T + X * hi) + X ^ m * (X * X ^ (e - m - 1)) := by
          rw [← Nat.mul_add (X ^ m), Nat.add_assoc]
        rw [e1, Nat.mul_add X, e2]
        omega
      · rw [Nat.add_mul, Nat.one_mul]
        omega
theorem pS_get {X : Nat} {T : List Nat} (h : T.length < X) (m : Nat) : pS X T / X ^ m % X = pC m T := by
  obtain ⟨lo, hi, h1, h2⟩ := pS_cut (show 0 < X by omega) m T
  have hp : 0 < X ^ m := Nat.pow_pos (by omega)
  have hl : lo < X ^ m := by
    have : lo * X < X * X ^ m := Nat.lt_of_le_of_lt h2 (Nat.mul_lt_mul_of_pos_right h hp)
    rw [Nat.mul_comm] at this
    exact Nat.lt_of_mul_lt_mul_left this
  rw [h1, Nat.add_mul_div_left _ _ hp, Nat.div_eq_of_lt hl, Nat.zero_add, Nat.add_mul_mod_self_left]
  exact Nat.mod_eq_of_lt (Nat.lt_of_le_of_lt (pC_le m T) h)
theorem pS_app (X : Nat) (S T : List Nat) : pS X (S ++ T) = pS X S + pS X T := by
  induction S with
  | nil => simp [pS]
  | cons e S ih => rw [List.cons_append, pS_cons, pS_cons, ih]; omega
theorem pC_app (m : Nat) (S T : List Nat) : pC m (S ++ T) = pC m S + pC m T := by
  induction S with
  | nil => simp [pC]
  | cons e S ih => rw [List.cons_append, pC_cons, pC_cons, ih]; omega
/-- all sums of two -/
def pM (S T : List Nat) : List Nat := S.flatMap fun s => T.map fun t => s + t
theorem pS_add (X s : Nat) (T : List Nat) : pS X (T.map fun t => s + t) = X ^ s * pS X T := by
  induction T with
  | nil => simp [pS]
  | cons e T ih => rw [List.map_cons, pS_cons, pS_cons, ih, Nat.pow_add, Nat.mul_add]
theorem pS_M (X : Nat) (S T : List Nat) : pS X (pM S T) = pS X S * pS X T := by
  unfold pM
  induction S with
  | nil => simp [pS]
  | cons s S ih => rw [List.flatMap_cons, pS_app, ih, pS_add, pS_cons, Nat.add_mul]
theorem pM_len (S T : List Nat) : (pM S T).length = S.length * T.length := by
  unfold pM
  induction S with
  | nil => simp
  | cons s S ih => rw [List.flatMap_cons, List.length_append, ih, List.length_map, List.length_cons, Nat.add_mul, Nat.one_mul, Nat.add_comm]
/-- a list without like ones that lies in another one is not longer -/
theorem nd_len {α : Type} [DecidableEq α] : ∀ (l1 l2 : List α), l1.Nodup → (∀ x, x ∈ l1 → x ∈ l2) → l1.length ≤ l2.length := by
  intro l1
  induction l1 with
  | nil => intro l2 _ _; exact Nat.zero_le _
  | cons x l1 ih =>
    intro l2 h1 h2
    obtain ⟨a1, a2⟩ := List.nodup_cons.mp h1
    have hx : x ∈ l2 := h2 x (List.mem_cons_self ..)
    have k := ih (l2.erase x) a2 (fun y hy => by
      have : y ≠ x := fun e => a1 (e ▸ hy)
      exact (List.mem_erase_of_ne this).mpr (h2 y (List.mem_cons_of_mem _ hy)))
    rw [List.length_erase_of_mem hx] at k
    have : 0 < l2.length := List.length_pos_of_mem hx
    rw [List.length_cons]
    omega
theorem pw_nd {l : List ZQ} (h : l.Pairwise zGt) : l.Nodup := by
  unfold List.Nodup
  exact h.imp (fun {a b} (k : zGt a b) (e : a = b) => zGt_irr b (e ▸ k))
/-- all fours of a list -/
def tup (L : List Int) : List ZQ := L.flatMap fun a => L.flatMap fun b => L.flatMap fun c => L.map fun d => (a, b, c, d)
def sqL (L : List Int) : List Nat := L.map fun a => (a * a).toNat
theorem tup_mem {L : List Int} {q : ZQ} : q ∈ tup L ↔ q.1 ∈ L ∧ q.2.1 ∈ L ∧ q.2.2.1 ∈ L ∧ q.2.2.2 ∈ L := by
  unfold tup
  simp only [List.mem_flatMap, List.mem_map]
  constructor
  · rintro ⟨a, ha, b, hb, c, hc, d, hd, rfl⟩
    exact ⟨ha, hb, hc, hd⟩
  · rintro ⟨ha, hb, hc, hd⟩
    exact ⟨_, ha, _, hb, _, hc, _, hd, rfl⟩
theorem tup_sq (L : List Int) : (tup L).map (fun q => (zN4 q).toNat) = pM (sqL L) (pM (sqL L) (pM (sqL L) (sqL L))) := by
  unfold tup pM sqL
  simp only [List.map_flatMap, List.map_map, List.flatMap_map]
  congr 1
  funext a
  congr 1
  funext b
  congr 1
  funext c
  apply List.map_congr_left
  intro d hd
  have h1 := sq_nn a
  have h2 := sq_nn b
  have h3 := sq_nn c
  have h4 := sq_nn d
  show (zN4 (a, b, c, d)).toNat = _
  unfold zN4
  simp only [Function.comp]
  omega
theorem pC_filter (m : Nat) (f : ZQ → Nat) (l : List ZQ) : (l.filter fun q => f q = m).length = pC m (l.map f) := by
  induction l with
  | nil => rfl
  | cons x l ih =>
    rw [List.filter_cons, List.map_cons]
    unfold pC
    by_cases h : f x = m
    · simp only [h, decide_true, if_true, List.length_cons, ih]; omega
    · simp [h, ih]
def evL : List Int := [-24, -22, -20, -18, -16, -14, -12, -10, -8, -6, -4, -2, 0, 2, 4, 6, 8, 10, 12, 14, 16, 18, 20, 22, 24]
def odL : List Int := [-23, -21, -19, -17, -15, -13, -11, -9, -7, -5, -3, -1, 1, 3, 5, 7, 9, 11, 13, 15, 17, 19, 21, 23]
def evN : Nat := pS 4294967296 (sqL evL)
def odN : Nat := pS 4294967296 (sqL odL)
/-- how many of the norm n there are, by the powers of evN and odN -/
def cN (n : Nat) : Nat := (evN * (evN * (evN * evN))) / 4294967296 ^ (4 * n) % 4294967296 + (odN * (odN * (odN * odN))) / 4294967296 ^ (4 * n) % 4294967296
theorem cN_eq (n : Nat) : cN n = pC (4 * n) ((tup evL).map fun q => (zN4 q).toNat) + pC (4 * n) ((tup odL).map fun q => (zN4 q).toNat) := by
  unfold cN evN odN
  rw [← pS_M, ← pS_M, ← pS_M, ← pS_M, ← pS_M, ← pS_M, pS_get, pS_get, tup_sq, tup_sq]
  · rw [pM_len, pM_len, pM_len]; decide
  · rw [pM_len, pM_len, pM_len]; decide
theorem in_ev {a : Int} (h : -24 ≤ a ∧ a ≤ 24) (hp : a % 2 = 0) : a ∈ evL := by
  have : ∀ k : Nat, k < 25 → ((2 * k : Nat) : Int) - 24 ∈ evL := by decide +kernel
  have k := this ((a + 24) / 2).toNat (by omega)
  have e : ((2 * ((a + 24) / 2).toNat : Nat) : Int) - 24 = a := by omega
  rwa [e] at k
theorem in_od {a : Int} (h : -24 ≤ a ∧ a ≤ 24) (hp : a % 2 = 1) : a ∈ odL := by
  have : ∀ k : Nat, k < 24 → ((2 * k : Nat) : Int) - 23 ∈ odL := by decide +kernel
  have k := this ((a + 23) / 2).toNat (by omega)
  have e : ((2 * ((a + 23) / 2).toNat : Nat) : Int) - 23 = a := by omega
  rwa [e] at k
theorem sq25 {a : Int} (h : a * a ≤ 600) : -24 ≤ a ∧ a ≤ 24 := by
  have := sq_le (a := a) (n := 25) (by decide) (by omega)
  have h1 : a ≠ 25 := fun e => by subst e; omega
  have h2 : a ≠ -25 := fun e => by subst e; omega
  omega
theorem qV_24 {q : ZQ} (h : zN4 q ≤ 600) : (-24 ≤ q.1 ∧ q.1 ≤ 24) ∧ (-24 ≤ q.2.1 ∧ q.2.1 ≤ 24) ∧ (-24 ≤ q.2.2.1 ∧ q.2.2.1 ≤ 24) ∧ -24 ≤ q.2.2.2 ∧ q.2.2.2 ≤ 24 := by
  unfold zN4 at h
  have h1 := sq_nn q.1
  have h2 := sq_nn q.2.1
  have h3 := sq_nn q.2.2.1
  have h4 := sq_nn q.2.2.2
  exact ⟨sq25 (by omega), sq25 (by omega), sq25 (by omega), sq25 (by omega)⟩
/-- a list without like ones, all of the norm n -/
theorem nd_cN {n : Nat} (hn : n ≤ 150) {l : List ZQ} (h : l.Nodup) (hl : ∀ q, q ∈ l → zL q ∧ zN q = n) : l.length ≤ cN n := by
  have k := nd_len l (((tup evL).filter fun q => (zN4 q).toNat = 4 * n) ++ (tup odL).filter fun q => (zN4 q).toNat = 4 * n) h (fun q hq => by
    obtain ⟨h1, h2⟩ := hl q hq
    have h4 := zN4_four h1
    obtain ⟨b1, b2, b3, b4⟩ := qV_24 (q := q) (by omega)
    have hL := h1
    unfold zL at hL
    rw [List.mem_append]
    rcases Int.emod_two_eq q.1 with e | e
    · left
      rw [List.mem_filter, tup_mem]
      exact ⟨⟨in_ev b1 e, in_ev b2 (by omega), in_ev b3 (by omega), in_ev b4 (by omega)⟩, decide_eq_true (by omega)⟩
    · right
      rw [List.mem_filter, tup_mem]
      exact ⟨⟨in_od b1 e, in_od b2 (by omega), in_od b3 (by omega), in_od b4 (by omega)⟩, decide_eq_true (by omega)⟩)
  rw [List.length_append, pC_filter, pC_filter, ← cN_eq] at k
  exact k
/-- heads of a norm: one in twenty-four -/
theorem hd_24 {s : Int32} {n : Nat} (hn : n ≤ 150) (h0 : 0 < n) {l : List ZQ} (h : l.Nodup) (hl : ∀ q, q ∈ l → zL q ∧ zN q = n ∧ zHd s q) : 24 * l.length ≤ cN n := by
  have hz : ∀ q, q ∈ l → q ≠ z0 := fun q hq e => by
    have := (hl q hq).2.1
    rw [e, zN_z0] at this
    omega
  have nd : (l.flatMap fun q => zUl.map (zK s q)).Nodup := by
    unfold List.Nodup
    rw [List.pairwise_flatMap]
    constructor
    · intro q hq
      rw [List.pairwise_map]
      have hu : zUl.Pairwise (· ≠ ·) := by decide +kernel
      exact List.Pairwise.imp_of_mem (fun {u v} hu hv k e => k (zK_cancel (hl q hq).1 (hz q hq) (zUl_L hu) (zUl_L hv) e)) hu
    · exact List.Pairwise.imp_of_mem (fun {x y} hx hy k a ha b hb e => by
        obtain ⟨u, hu, rfl⟩ := List.mem_map.mp ha
        obtain ⟨v, hv, rfl⟩ := List.mem_map.mp hb
        have a1 : zA s x (zK s x u) := ⟨u, hu, rfl⟩
        have a2 : zA s (zK s x u) y := by
          rw [e]
          exact zA.symm (hl y hy).1 ⟨v, hv, rfl⟩
        exact k (zHd_uniq (hl x hx).1 (a1.trans (hl x hx).1 a2) (hl x hx).2.2 (hl y hy).2.2)) h
  have k := nd_cN hn nd (fun q hq => by
    obtain ⟨x, hx, hq⟩ := List.mem_flatMap.mp hq
    obtain ⟨u, hu, rfl⟩ := List.mem_map.mp hq
    refine ⟨zK_L (hl x hx).1 (zUl_L hu), ?_⟩
    rw [zK_N (hl x hx).1 (zUl_L hu), zUl_N hu, (hl x hx).2.1, Int.mul_one])
  have e : (l.flatMap fun q => zUl.map (zK s q)).length = 24 * l.length := by
    clear k nd hz hl h
    induction l with
    | nil => rfl
    | cons x l ih => rw [List.flatMap_cons, List.length_append, ih, List.length_map, zUl_len, List.length_cons]; omega
  omega
def cH (n : Nat) : Nat := cN n / 24
theorem hd_cH {s : Int32} {n : Nat} (hn : n ≤ 150) (h0 : 0 < n) {l : List ZQ} (h : l.Nodup) (hl : ∀ q, q ∈ l → zL q ∧ zN q = n ∧ zHd s q) : l.length ≤ cH n := by
  have := hd_24 hn h0 h hl
  unfold cH
  omega
theorem cH_240 : ∀ n, n < 151 → cH n ≤ 240 := by decide +kernel
theorem zCl_240 {s : Int32} {n : Nat} (hn : n ≤ 150) (h0 : 0 < n) : (zCl s n).length ≤ 240 :=
  Nat.le_trans (hd_cH hn h0 (pw_nd (zCl_pw hn)) (fun _ hq => (zCl_mem hn h0).mp hq)) (cH_240 n (by omega))
