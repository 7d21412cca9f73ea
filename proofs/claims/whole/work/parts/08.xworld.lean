/-! THE CLASS'S WORLD: 115 cells. 0-56 Quat (0-5 slots, 6-17 shelves, 18-25 past, 26-33 left, 34 result, 35 helper, 36-43 division, 44-46 heads, 47 primes' head, 48-55 parting's primes' heads, 56 taken), 57-67 Rows (heads, bases, primes, parting's), 68-78 their ints, 79-81 tallies' ints, 82 past's places, 83 letters, 84 words, 85 roots, 86-94 Primes, 95-97 Tally, 98-99 Shelf, 100-101 shelves' rows of Quat, 102 slots, 103 past's, 104 left, 105 the desk, 106 shelves, 107 tallies, 108 past, 109 script, 110 division, 111 heads, 112 parting, 113 parting's primes, 114 bases -/
abbrev xG : Type := (Nat → Nat) × (Nat → ClassId)
def xk (k : Nat) : Nat := if k < 57 then 0 else if k < 68 then 1 else if k < 86 then 2 else if k < 95 then 3 else if k < 98 then 4 else if k < 100 then 5 else if k < 105 then 6 else k - 98
def xl (k : Nat) : Nat := if k = 68 then 960 else if k = 69 then 160 else if k < 79 then 64 else if k < 82 then 6 else if k = 82 then 8 else if k = 83 then 200 else if k = 84 then 144 else if k = 85 then 601 else if k < 103 then 6 else if k < 105 then 8 else if k = 106 then 2 else if k = 107 then 3 else 8
def xb (k : Nat) : Nat := if k = 100 then 6 else if k = 101 then 12 else if k = 102 then 0 else if k = 103 then 18 else if k = 104 then 26 else if k = 106 then 98 else if k = 107 then 95 else 87
def xRow (G : xG) (k : Nat) : Nat → Option Nat := fun i => some (G.1 (xb k + i))
def xE (G : xG) (k : Nat) (f : Nat → Int32) : va_E :=
  if xk k = 0 then .inr (6, [.int (f 0), .int (f 1), .int (f 2), .int (f 3)])
  else if xk k = 1 then .inr (7, [.ref (G.1 (k + 11)), .int (f 1)])
  else if xk k = 2 then .inl (G.2 0, xl k, .inl f)
  else if xk k = 3 then .inr (5, [.ref (G.1 (k - 27)), .ref (G.1 111), .ref (G.1 110), .ref (G.1 (k - 39))])
  else if xk k = 4 then .inr (10, [.ref (G.1 (k - 16)), .int (f 1), .int (f 2)])
  else if xk k = 5 then .inr (9, [.ref (G.1 (k + 2)), .int (f 1)])
  else if xk k = 6 then .inl (G.2 1, xl k, .inr (.inr (.inr (.inr (xRow G k)))))
  else if xk k = 7 then .inr (11, [.ref (G.1 102), .ref (G.1 106), .ref (G.1 107), .ref (G.1 108), .ref (G.1 109), .ref (G.1 110), .ref (G.1 111), .ref (G.1 86), .ref (G.1 112), .ref (G.1 114), .ref (G.1 34), .ref (G.1 35), .int (f 12)])
  else if xk k = 8 then .inl (G.2 2, xl k, .inr (.inr (.inr (.inr (xRow G k)))))
  else if xk k = 9 then .inl (G.2 3, xl k, .inr (.inr (.inr (.inr (xRow G k)))))
  else if xk k = 10 then .inr (4, [.ref (G.1 82), .ref (G.1 103), .int (f 2), .int (f 3)])
  else if xk k = 11 then .inr (8, [.ref (G.1 83), .ref (G.1 84), .int (f 2), .int (f 3), .int (f 4), .int (f 5), .int (f 6)])
  else if xk k = 12 then .inr (1, [.ref (G.1 36), .ref (G.1 37), .ref (G.1 38), .ref (G.1 39), .ref (G.1 40), .ref (G.1 41), .ref (G.1 42), .ref (G.1 43)])
  else if xk k = 13 then .inr (2, [.ref (G.1 57), .ref (G.1 44), .ref (G.1 45), .ref (G.1 46), .ref (G.1 85)])
  else if xk k = 14 then .inr (3, [.ref (G.1 110), .ref (G.1 113), .ref (G.1 104), .ref (G.1 56)])
  else if xk k = 15 then .inl (G.2 4, xl k, .inr (.inr (.inr (.inr (xRow G k)))))
  else .inr (0, [.ref (G.1 58)])
def xW (G : xG) (σ : QMem) : va_W := wW 115 G.1 (xE G) σ
def xA (G : xG) : Nat → Prop := wA 115 G.1
abbrev xT (G : xG) : List (ClassId × FieldType) := [(G.2 0, .int), (G.2 1, .object RX6), (G.2 2, .object RX9), (G.2 3, .object RX10), (G.2 4, .object RX5)]
theorem xk_lt {k n : Nat} (h : xk k = n) (hn : n < 17) : k < 115 := by unfold xk at h; (repeat' split at h) <;> omega
theorem xk0 {k : Nat} (h : k < 57) : xk k = 0 := by unfold xk; rw [if_pos h]
theorem xk0_lt {k : Nat} (h : xk k = 0) : k < 57 := by unfold xk at h; (repeat' split at h) <;> omega
theorem xk1 {k : Nat} (h : 57 ≤ k) (h2 : k < 68) : xk k = 1 := by unfold xk; (repeat' split) <;> omega
theorem xk1_lt {k : Nat} (h : xk k = 1) : 57 ≤ k ∧ k < 68 := by unfold xk at h; (repeat' split at h) <;> omega
theorem xk2 {k : Nat} (h : 68 ≤ k) (h2 : k < 86) : xk k = 2 := by unfold xk; (repeat' split) <;> omega
theorem xk3 {k : Nat} (h : 86 ≤ k) (h2 : k < 95) : xk k = 3 := by unfold xk; (repeat' split) <;> omega
theorem xk3_lt {k : Nat} (h : xk k = 3) : 86 ≤ k ∧ k < 95 := by unfold xk at h; (repeat' split at h) <;> omega
theorem xk4 {k : Nat} (h : 95 ≤ k) (h2 : k < 98) : xk k = 4 := by unfold xk; (repeat' split) <;> omega
theorem xk4_lt {k : Nat} (h : xk k = 4) : 95 ≤ k ∧ k < 98 := by unfold xk at h; (repeat' split at h) <;> omega
theorem xk5 {k : Nat} (h : 98 ≤ k) (h2 : k < 100) : xk k = 5 := by unfold xk; (repeat' split) <;> omega
theorem xk5_lt {k : Nat} (h : xk k = 5) : 98 ≤ k ∧ k < 100 := by unfold xk at h; (repeat' split at h) <;> omega
theorem xk6_lt {k : Nat} (h : xk k = 6) : 100 ≤ k ∧ k < 105 := by unfold xk at h; (repeat' split at h) <;> omega
theorem xk6 {k : Nat} (h : 100 ≤ k) (h2 : k < 105) : xk k = 6 := by unfold xk; (repeat' split) <;> omega
-- what a reference field of a cell of a kind leads to
theorem xf1_0 {k : Nat} (h : xk k = 1) : xk (k + 11) = 2 := by have := xk1_lt h; exact xk2 (by omega) (by omega)
theorem xf3_0 {k : Nat} (h : xk k = 3) : xk (k - 27) = 1 := by have := xk3_lt h; exact xk1 (by omega) (by omega)
theorem xf3_3 {k : Nat} (h : xk k = 3) : xk (k - 39) = 0 := by have := xk3_lt h; exact xk0 (by omega)
theorem xf4_0 {k : Nat} (h : xk k = 4) : xk (k - 16) = 2 := by have := xk4_lt h; exact xk2 (by omega) (by omega)
theorem xf5_0 {k : Nat} (h : xk k = 5) : xk (k + 2) = 6 := by have := xk5_lt h; exact xk6 (by omega) (by omega)
theorem xr6 {k n : Nat} (h : xk k = 6) (hn : n < xl k) : xk (xb k + n) = 0 := by
  have h1 := xk6_lt h
  refine xk0 ?_
  unfold xl at hn; unfold xb
  (repeat' split at hn) <;> (repeat' split) <;> omega
theorem xr8 {k n : Nat} (h : xk k = 8) (hn : n < xl k) : xk (xb k + n) = 5 := by
  have h1 : k = 106 := by unfold xk at h; (repeat' split at h) <;> omega
  subst h1
  exact xk5 (show 98 ≤ 98 + n by omega) (show 98 + n < 100 by have : n < 2 := hn; omega)
theorem xr9 {k n : Nat} (h : xk k = 9) (hn : n < xl k) : xk (xb k + n) = 4 := by
  have h1 : k = 107 := by unfold xk at h; (repeat' split at h) <;> omega
  subst h1
  exact xk4 (show 95 ≤ 95 + n by omega) (show 95 + n < 98 by have : n < 3 := hn; omega)
theorem xr15 {k n : Nat} (h : xk k = 15) (hn : n < xl k) : xk (xb k + n) = 3 := by
  have h1 : k = 113 := by unfold xk at h; (repeat' split at h) <;> omega
  subst h1
  exact xk3 (show 86 ≤ 87 + n by omega) (show 87 + n < 95 by have : n < 8 := hn; omega)
theorem vp_lt {i : Int32} {n : Nat} (h : ¬ (i < 0 ∨ n ≤ i.toNatClampNeg)) : i.toNatClampNeg < n := Nat.not_le.mp fun q => h (Or.inr q)
theorem xE_0 {G : xG} {k : Nat} {f : Nat → Int32} (h : xk k = 0) : xE G k f = .inr (6, [.int (f 0), .int (f 1), .int (f 2), .int (f 3)]) := by simp [xE, h]
theorem xg_0 {G : xG} {σ : QMem} {k : Nat} (h : xk k = 0) : (xW G σ)[k]? = some (G.1 k, .inr (6, [.int (σ k 0), .int (σ k 1), .int (σ k 2), .int (σ k 3)])) := (wW_get (xk_lt h (by omega))).trans (by rw [xE_0 h])
theorem xE_1 {G : xG} {k : Nat} {f : Nat → Int32} (h : xk k = 1) : xE G k f = .inr (7, [.ref (G.1 (k + 11)), .int (f 1)]) := by simp [xE, h]
theorem xg_1 {G : xG} {σ : QMem} {k : Nat} (h : xk k = 1) : (xW G σ)[k]? = some (G.1 k, .inr (7, [.ref (G.1 (k + 11)), .int (σ k 1)])) := (wW_get (xk_lt h (by omega))).trans (by rw [xE_1 h])
theorem xE_2 {G : xG} {k : Nat} {f : Nat → Int32} (h : xk k = 2) : xE G k f = .inl (G.2 0, xl k, .inl (f)) := by simp [xE, h]
theorem xg_2 {G : xG} {σ : QMem} {k : Nat} (h : xk k = 2) : (xW G σ)[k]? = some (G.1 k, .inl (G.2 0, xl k, .inl (σ k))) := (wW_get (xk_lt h (by omega))).trans (by rw [xE_2 h])
theorem xE_3 {G : xG} {k : Nat} {f : Nat → Int32} (h : xk k = 3) : xE G k f = .inr (5, [.ref (G.1 (k - 27)), .ref (G.1 111), .ref (G.1 110), .ref (G.1 (k - 39))]) := by simp [xE, h]
theorem xg_3 {G : xG} {σ : QMem} {k : Nat} (h : xk k = 3) : (xW G σ)[k]? = some (G.1 k, .inr (5, [.ref (G.1 (k - 27)), .ref (G.1 111), .ref (G.1 110), .ref (G.1 (k - 39))])) := (wW_get (xk_lt h (by omega))).trans (by rw [xE_3 h])
theorem xE_4 {G : xG} {k : Nat} {f : Nat → Int32} (h : xk k = 4) : xE G k f = .inr (10, [.ref (G.1 (k - 16)), .int (f 1), .int (f 2)]) := by simp [xE, h]
theorem xg_4 {G : xG} {σ : QMem} {k : Nat} (h : xk k = 4) : (xW G σ)[k]? = some (G.1 k, .inr (10, [.ref (G.1 (k - 16)), .int (σ k 1), .int (σ k 2)])) := (wW_get (xk_lt h (by omega))).trans (by rw [xE_4 h])
theorem xE_5 {G : xG} {k : Nat} {f : Nat → Int32} (h : xk k = 5) : xE G k f = .inr (9, [.ref (G.1 (k + 2)), .int (f 1)]) := by simp [xE, h]
theorem xg_5 {G : xG} {σ : QMem} {k : Nat} (h : xk k = 5) : (xW G σ)[k]? = some (G.1 k, .inr (9, [.ref (G.1 (k + 2)), .int (σ k 1)])) := (wW_get (xk_lt h (by omega))).trans (by rw [xE_5 h])
theorem xE_6 {G : xG} {k : Nat} {f : Nat → Int32} (h : xk k = 6) : xE G k f = .inl (G.2 1, xl k, .inr (.inr (.inr (.inr (xRow G k))))) := by simp [xE, h]
theorem xg_6 {G : xG} {σ : QMem} {k : Nat} (h : xk k = 6) : (xW G σ)[k]? = some (G.1 k, .inl (G.2 1, xl k, .inr (.inr (.inr (.inr (xRow G k)))))) := (wW_get (xk_lt h (by omega))).trans (by rw [xE_6 h])
theorem xE_7 {G : xG} {k : Nat} {f : Nat → Int32} (h : xk k = 7) : xE G k f = .inr (11, [.ref (G.1 102), .ref (G.1 106), .ref (G.1 107), .ref (G.1 108), .ref (G.1 109), .ref (G.1 110), .ref (G.1 111), .ref (G.1 86), .ref (G.1 112), .ref (G.1 114), .ref (G.1 34), .ref (G.1 35), .int (f 12)]) := by simp [xE, h]
theorem xg_7 {G : xG} {σ : QMem} {k : Nat} (h : xk k = 7) : (xW G σ)[k]? = some (G.1 k, .inr (11, [.ref (G.1 102), .ref (G.1 106), .ref (G.1 107), .ref (G.1 108), .ref (G.1 109), .ref (G.1 110), .ref (G.1 111), .ref (G.1 86), .ref (G.1 112), .ref (G.1 114), .ref (G.1 34), .ref (G.1 35), .int (σ k 12)])) := (wW_get (xk_lt h (by omega))).trans (by rw [xE_7 h])
theorem xE_8 {G : xG} {k : Nat} {f : Nat → Int32} (h : xk k = 8) : xE G k f = .inl (G.2 2, xl k, .inr (.inr (.inr (.inr (xRow G k))))) := by simp [xE, h]
theorem xg_8 {G : xG} {σ : QMem} {k : Nat} (h : xk k = 8) : (xW G σ)[k]? = some (G.1 k, .inl (G.2 2, xl k, .inr (.inr (.inr (.inr (xRow G k)))))) := (wW_get (xk_lt h (by omega))).trans (by rw [xE_8 h])
theorem xE_9 {G : xG} {k : Nat} {f : Nat → Int32} (h : xk k = 9) : xE G k f = .inl (G.2 3, xl k, .inr (.inr (.inr (.inr (xRow G k))))) := by simp [xE, h]
theorem xg_9 {G : xG} {σ : QMem} {k : Nat} (h : xk k = 9) : (xW G σ)[k]? = some (G.1 k, .inl (G.2 3, xl k, .inr (.inr (.inr (.inr (xRow G k)))))) := (wW_get (xk_lt h (by omega))).trans (by rw [xE_9 h])
theorem xE_10 {G : xG} {k : Nat} {f : Nat → Int32} (h : xk k = 10) : xE G k f = .inr (4, [.ref (G.1 82), .ref (G.1 103), .int (f 2), .int (f 3)]) := by simp [xE, h]
theorem xg_10 {G : xG} {σ : QMem} {k : Nat} (h : xk k = 10) : (xW G σ)[k]? = some (G.1 k, .inr (4, [.ref (G.1 82), .ref (G.1 103), .int (σ k 2), .int (σ k 3)])) := (wW_get (xk_lt h (by omega))).trans (by rw [xE_10 h])
theorem xE_11 {G : xG} {k : Nat} {f : Nat → Int32} (h : xk k = 11) : xE G k f = .inr (8, [.ref (G.1 83), .ref (G.1 84), .int (f 2), .int (f 3), .int (f 4), .int (f 5), .int (f 6)]) := by simp [xE, h]
theorem xg_11 {G : xG} {σ : QMem} {k : Nat} (h : xk k = 11) : (xW G σ)[k]? = some (G.1 k, .inr (8, [.ref (G.1 83), .ref (G.1 84), .int (σ k 2), .int (σ k 3), .int (σ k 4), .int (σ k 5), .int (σ k 6)])) := (wW_get (xk_lt h (by omega))).trans (by rw [xE_11 h])
theorem xE_12 {G : xG} {k : Nat} {f : Nat → Int32} (h : xk k = 12) : xE G k f = .inr (1, [.ref (G.1 36), .ref (G.1 37), .ref (G.1 38), .ref (G.1 39), .ref (G.1 40), .ref (G.1 41), .ref (G.1 42), .ref (G.1 43)]) := by simp [xE, h]
theorem xg_12 {G : xG} {σ : QMem} {k : Nat} (h : xk k = 12) : (xW G σ)[k]? = some (G.1 k, .inr (1, [.ref (G.1 36), .ref (G.1 37), .ref (G.1 38), .ref (G.1 39), .ref (G.1 40), .ref (G.1 41), .ref (G.1 42), .ref (G.1 43)])) := (wW_get (xk_lt h (by omega))).trans (by rw [xE_12 h])
theorem xE_13 {G : xG} {k : Nat} {f : Nat → Int32} (h : xk k = 13) : xE G k f = .inr (2, [.ref (G.1 57), .ref (G.1 44), .ref (G.1 45), .ref (G.1 46), .ref (G.1 85)]) := by simp [xE, h]
theorem xg_13 {G : xG} {σ : QMem} {k : Nat} (h : xk k = 13) : (xW G σ)[k]? = some (G.1 k, .inr (2, [.ref (G.1 57), .ref (G.1 44), .ref (G.1 45), .ref (G.1 46), .ref (G.1 85)])) := (wW_get (xk_lt h (by omega))).trans (by rw [xE_13 h])
theorem xE_14 {G : xG} {k : Nat} {f : Nat → Int32} (h : xk k = 14) : xE G k f = .inr (3, [.ref (G.1 110), .ref (G.1 113), .ref (G.1 104), .ref (G.1 56)]) := by simp [xE, h]
theorem xg_14 {G : xG} {σ : QMem} {k : Nat} (h : xk k = 14) : (xW G σ)[k]? = some (G.1 k, .inr (3, [.ref (G.1 110), .ref (G.1 113), .ref (G.1 104), .ref (G.1 56)])) := (wW_get (xk_lt h (by omega))).trans (by rw [xE_14 h])
theorem xE_15 {G : xG} {k : Nat} {f : Nat → Int32} (h : xk k = 15) : xE G k f = .inl (G.2 4, xl k, .inr (.inr (.inr (.inr (xRow G k))))) := by simp [xE, h]
theorem xg_15 {G : xG} {σ : QMem} {k : Nat} (h : xk k = 15) : (xW G σ)[k]? = some (G.1 k, .inl (G.2 4, xl k, .inr (.inr (.inr (.inr (xRow G k)))))) := (wW_get (xk_lt h (by omega))).trans (by rw [xE_15 h])
theorem xE_16 {G : xG} {k : Nat} {f : Nat → Int32} (h : xk k = 16) : xE G k f = .inr (0, [.ref (G.1 58)]) := by simp [xE, h]
theorem xg_16 {G : xG} {σ : QMem} {k : Nat} (h : xk k = 16) : (xW G σ)[k]? = some (G.1 k, .inr (0, [.ref (G.1 58)])) := (wW_get (xk_lt h (by omega))).trans (by rw [xE_16 h])
theorem xs_0_0 {G : xG} {σ : QMem} {k : Nat} {v : Int32} (h : xk k = 0) : (xW G σ).set k (G.1 k, .inr (6, [.int (σ k 0), .int (σ k 1), .int (σ k 2), .int (σ k 3)].set 0 (.int v))) = xW G (ms σ k 0 v) := by
  unfold xW ms; rw [← wW_set (E := xE G), xE_0 h]; rfl
theorem xs_0_1 {G : xG} {σ : QMem} {k : Nat} {v : Int32} (h : xk k = 0) : (xW G σ).set k (G.1 k, .inr (6, [.int (σ k 0), .int (σ k 1), .int (σ k 2), .int (σ k 3)].set 1 (.int v))) = xW G (ms σ k 1 v) := by
  unfold xW ms; rw [← wW_set (E := xE G), xE_0 h]; rfl
theorem xs_0_2 {G : xG} {σ : QMem} {k : Nat} {v : Int32} (h : xk k = 0) : (xW G σ).set k (G.1 k, .inr (6, [.int (σ k 0), .int (σ k 1), .int (σ k 2), .int (σ k 3)].set 2 (.int v))) = xW G (ms σ k 2 v) := by
  unfold xW ms; rw [← wW_set (E := xE G), xE_0 h]; rfl
theorem xs_0_3 {G : xG} {σ : QMem} {k : Nat} {v : Int32} (h : xk k = 0) : (xW G σ).set k (G.1 k, .inr (6, [.int (σ k 0), .int (σ k 1), .int (σ k 2), .int (σ k 3)].set 3 (.int v))) = xW G (ms σ k 3 v) := by
  unfold xW ms; rw [← wW_set (E := xE G), xE_0 h]; rfl
theorem xs_1_1 {G : xG} {σ : QMem} {k : Nat} {v : Int32} (h : xk k = 1) : (xW G σ).set k (G.1 k, .inr (7, [.ref (G.1 (k + 11)), .int (σ k 1)].set 1 (.int v))) = xW G (ms σ k 1 v) := by
  unfold xW ms; rw [← wW_set (E := xE G), xE_1 h]; rfl
theorem xs_4_1 {G : xG} {σ : QMem} {k : Nat} {v : Int32} (h : xk k = 4) : (xW G σ).set k (G.1 k, .inr (10, [.ref (G.1 (k - 16)), .int (σ k 1), .int (σ k 2)].set 1 (.int v))) = xW G (ms σ k 1 v) := by
  unfold xW ms; rw [← wW_set (E := xE G), xE_4 h]; rfl
theorem xs_4_2 {G : xG} {σ : QMem} {k : Nat} {v : Int32} (h : xk k = 4) : (xW G σ).set k (G.1 k, .inr (10, [.ref (G.1 (k - 16)), .int (σ k 1), .int (σ k 2)].set 2 (.int v))) = xW G (ms σ k 2 v) := by
  unfold xW ms; rw [← wW_set (E := xE G), xE_4 h]; rfl
theorem xs_5_1 {G : xG} {σ : QMem} {k : Nat} {v : Int32} (h : xk k = 5) : (xW G σ).set k (G.1 k, .inr (9, [.ref (G.1 (k + 2)), .int (σ k 1)].set 1 (.int v))) = xW G (ms σ k 1 v) := by
  unfold xW ms; rw [← wW_set (E := xE G), xE_5 h]; rfl
theorem xs_7_12 {G : xG} {σ : QMem} {k : Nat} {v : Int32} (h : xk k = 7) : (xW G σ).set k (G.1 k, .inr (11, [.ref (G.1 102), .ref (G.1 106), .ref (G.1 107), .ref (G.1 108), .ref (G.1 109), .ref (G.1 110), .ref (G.1 111), .ref (G.1 86), .ref (G.1 112), .ref (G.1 114), .ref (G.1 34), .ref (G.1 35), .int (σ k 12)].set 12 (.int v))) = xW G (ms σ k 12 v) := by
  unfold xW ms; rw [← wW_set (E := xE G), xE_7 h]; rfl
theorem xs_10_2 {G : xG} {σ : QMem} {k : Nat} {v : Int32} (h : xk k = 10) : (xW G σ).set k (G.1 k, .inr (4, [.ref (G.1 82), .ref (G.1 103), .int (σ k 2), .int (σ k 3)].set 2 (.int v))) = xW G (ms σ k 2 v) := by
  unfold xW ms; rw [← wW_set (E := xE G), xE_10 h]; rfl
theorem xs_10_3 {G : xG} {σ : QMem} {k : Nat} {v : Int32} (h : xk k = 10) : (xW G σ).set k (G.1 k, .inr (4, [.ref (G.1 82), .ref (G.1 103), .int (σ k 2), .int (σ k 3)].set 3 (.int v))) = xW G (ms σ k 3 v) := by
  unfold xW ms; rw [← wW_set (E := xE G), xE_10 h]; rfl
theorem xs_11_2 {G : xG} {σ : QMem} {k : Nat} {v : Int32} (h : xk k = 11) : (xW G σ).set k (G.1 k, .inr (8, [.ref (G.1 83), .ref (G.1 84), .int (σ k 2), .int (σ k 3), .int (σ k 4), .int (σ k 5), .int (σ k 6)].set 2 (.int v))) = xW G (ms σ k 2 v) := by
  unfold xW ms; rw [← wW_set (E := xE G), xE_11 h]; rfl
theorem xs_11_3 {G : xG} {σ : QMem} {k : Nat} {v : Int32} (h : xk k = 11) : (xW G σ).set k (G.1 k, .inr (8, [.ref (G.1 83), .ref (G.1 84), .int (σ k 2), .int (σ k 3), .int (σ k 4), .int (σ k 5), .int (σ k 6)].set 3 (.int v))) = xW G (ms σ k 3 v) := by
  unfold xW ms; rw [← wW_set (E := xE G), xE_11 h]; rfl
theorem xs_11_4 {G : xG} {σ : QMem} {k : Nat} {v : Int32} (h : xk k = 11) : (xW G σ).set k (G.1 k, .inr (8, [.ref (G.1 83), .ref (G.1 84), .int (σ k 2), .int (σ k 3), .int (σ k 4), .int (σ k 5), .int (σ k 6)].set 4 (.int v))) = xW G (ms σ k 4 v) := by
  unfold xW ms; rw [← wW_set (E := xE G), xE_11 h]; rfl
theorem xs_11_5 {G : xG} {σ : QMem} {k : Nat} {v : Int32} (h : xk k = 11) : (xW G σ).set k (G.1 k, .inr (8, [.ref (G.1 83), .ref (G.1 84), .int (σ k 2), .int (σ k 3), .int (σ k 4), .int (σ k 5), .int (σ k 6)].set 5 (.int v))) = xW G (ms σ k 5 v) := by
  unfold xW ms; rw [← wW_set (E := xE G), xE_11 h]; rfl
theorem xs_11_6 {G : xG} {σ : QMem} {k : Nat} {v : Int32} (h : xk k = 11) : (xW G σ).set k (G.1 k, .inr (8, [.ref (G.1 83), .ref (G.1 84), .int (σ k 2), .int (σ k 3), .int (σ k 4), .int (σ k 5), .int (σ k 6)].set 6 (.int v))) = xW G (ms σ k 6 v) := by
  unfold xW ms; rw [← wW_set (E := xE G), xE_11 h]; rfl
theorem xs_2 {G : xG} {σ : QMem} {k j : Nat} {v : Int32} (h : xk k = 2) : (xW G σ).set k (G.1 k, .inl (G.2 0, xl k, .inl (upd (σ k) j v))) = xW G (ms σ k j v) := by
  unfold xW ms; rw [← wW_set (E := xE G), xE_2 h]
