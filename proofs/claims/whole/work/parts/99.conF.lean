/-! THE DESK AS MADE: its cells are a world -/
def cS0 : QMem := fun k => if k = 85 then (fun i => if i < 601 then nI (zSq i) else 0) else fun _ => 0
theorem lt_up {P : Nat → Prop} (n : Nat) (h : ∀ k, k < n → P k) (hn : P n) : ∀ k, k < n + 1 → P k := by
  intro k hk
  by_cases e : k = n
  · subst e; exact hn
  · exact h k (by omega)
theorem lt_no {P : Nat → Prop} : ∀ k, k < 0 → P k := fun k h => absurd h (Nat.not_lt_zero k)
theorem inj_of {A : Nat → Prop} {ws : va_W} {pl : List Nat} {f : Nat → Nat} {n : Nat} (hD : va_D A ws) (he : ws.map Prod.fst = pl.map f) (hp : ∀ k, k < n → k ∈ pl) : wInj n f ∧ ∀ k, k < n → A (f k) := by
  have hg : ∀ k, k < n → ∃ (i : Nat) (q : Nat × va_E), pl[i]? = some k ∧ ws[i]? = some q ∧ q.1 = f k := by
    intro k hk
    obtain ⟨i, hi⟩ := List.getElem?_of_mem (hp k hk)
    have h1 : (ws.map Prod.fst)[i]? = some (f k) := by rw [he, List.getElem?_map, hi]; rfl
    rw [List.getElem?_map] at h1
    cases hq : ws[i]? with
    | none => rw [hq] at h1; cases h1
    | some q => rw [hq] at h1; exact ⟨i, q, hi, hq, Option.some.inj h1⟩
  refine ⟨fun i j hi hj e => ?_, fun k hk => ?_⟩
  · obtain ⟨a1, q1, b1, c1, d1⟩ := hg i hi
    obtain ⟨a2, q2, b2, c2, d2⟩ := hg j hj
    have := hD.1 a1 a2 q1 q2 c1 c2 (by rw [d1, d2, e])
    subst this
    exact Option.some.inj (b1.symm.trans b2)
  · obtain ⟨a1, q1, b1, c1, d1⟩ := hg k hk
    rw [← d1]; exact hD.2 a1 q1 c1
def cPl : List Nat := [105, 102, 0, 1, 2, 3, 4, 5, 106, 98, 100, 6, 7, 8, 9, 10, 11, 99, 101, 12, 13, 14, 15, 16, 17, 107, 95, 79, 96, 80, 97, 81, 108, 82, 103, 18, 19, 20, 21, 22, 23, 24, 25, 109, 83, 84, 110, 36, 37, 38, 39, 40, 41, 42, 43, 111, 57, 68, 44, 45, 46, 85, 86, 59, 70, 47, 112, 113, 104, 26, 27, 28, 29, 30, 31, 32, 33, 56, 87, 60, 71, 48, 88, 61, 72, 49, 89, 62, 73, 50, 90, 63, 74, 51, 91, 64, 75, 52, 92, 65, 76, 53, 93, 66, 77, 54, 94, 67, 78, 55, 114, 58, 69, 34, 35]
theorem cPl_ok : ∀ k, k < 115 → k ∈ cPl := by decide +kernel
theorem xW_inj {A : Nat → Prop} {T : Nat → ClassId} {f : Nat → Nat} (hD : va_D A (vX11 T f)) : wInj 115 f ∧ ∀ k, k < 115 → A (f k) := inj_of hD (vX11_fst T f) cPl_ok
set_option maxHeartbeats 4000000 in
set_option maxRecDepth 100000 in
theorem xW_mk {D : va_G} {T : Nat → ClassId} {f : Nat → Nat} {H : Heap} (hP : va_P D vwCl (vX11 T f) H) : va_P D vwCl (xW (f, T) cS0) H := by
  have z0 : va_at D vwCl (f 0, xE (f, T) 0 (cS0 0)) H := by rw [xE_0 rfl]; exact hP 2 _ rfl
  have z1 : va_at D vwCl (f 1, xE (f, T) 1 (cS0 1)) H := by rw [xE_0 rfl]; exact hP 3 _ rfl
  have z2 : va_at D vwCl (f 2, xE (f, T) 2 (cS0 2)) H := by rw [xE_0 rfl]; exact hP 4 _ rfl
  have z3 : va_at D vwCl (f 3, xE (f, T) 3 (cS0 3)) H := by rw [xE_0 rfl]; exact hP 5 _ rfl
  have z4 : va_at D vwCl (f 4, xE (f, T) 4 (cS0 4)) H := by rw [xE_0 rfl]; exact hP 6 _ rfl
  have z5 : va_at D vwCl (f 5, xE (f, T) 5 (cS0 5)) H := by rw [xE_0 rfl]; exact hP 7 _ rfl
  have z6 : va_at D vwCl (f 6, xE (f, T) 6 (cS0 6)) H := by rw [xE_0 rfl]; exact hP 11 _ rfl
  have z7 : va_at D vwCl (f 7, xE (f, T) 7 (cS0 7)) H := by rw [xE_0 rfl]; exact hP 12 _ rfl
  have z8 : va_at D vwCl (f 8, xE (f, T) 8 (cS0 8)) H := by rw [xE_0 rfl]; exact hP 13 _ rfl
  have z9 : va_at D vwCl (f 9, xE (f, T) 9 (cS0 9)) H := by rw [xE_0 rfl]; exact hP 14 _ rfl
  have z10 : va_at D vwCl (f 10, xE (f, T) 10 (cS0 10)) H := by rw [xE_0 rfl]; exact hP 15 _ rfl
  have z11 : va_at D vwCl (f 11, xE (f, T) 11 (cS0 11)) H := by rw [xE_0 rfl]; exact hP 16 _ rfl
  have z12 : va_at D vwCl (f 12, xE (f, T) 12 (cS0 12)) H := by rw [xE_0 rfl]; exact hP 19 _ rfl
  have z13 : va_at D vwCl (f 13, xE (f, T) 13 (cS0 13)) H := by rw [xE_0 rfl]; exact hP 20 _ rfl
  have z14 : va_at D vwCl (f 14, xE (f, T) 14 (cS0 14)) H := by rw [xE_0 rfl]; exact hP 21 _ rfl
  have z15 : va_at D vwCl (f 15, xE (f, T) 15 (cS0 15)) H := by rw [xE_0 rfl]; exact hP 22 _ rfl
  have z16 : va_at D vwCl (f 16, xE (f, T) 16 (cS0 16)) H := by rw [xE_0 rfl]; exact hP 23 _ rfl
  have z17 : va_at D vwCl (f 17, xE (f, T) 17 (cS0 17)) H := by rw [xE_0 rfl]; exact hP 24 _ rfl
  have z18 : va_at D vwCl (f 18, xE (f, T) 18 (cS0 18)) H := by rw [xE_0 rfl]; exact hP 35 _ rfl
  have z19 : va_at D vwCl (f 19, xE (f, T) 19 (cS0 19)) H := by rw [xE_0 rfl]; exact hP 36 _ rfl
  have z20 : va_at D vwCl (f 20, xE (f, T) 20 (cS0 20)) H := by rw [xE_0 rfl]; exact hP 37 _ rfl
  have z21 : va_at D vwCl (f 21, xE (f, T) 21 (cS0 21)) H := by rw [xE_0 rfl]; exact hP 38 _ rfl
  have z22 : va_at D vwCl (f 22, xE (f, T) 22 (cS0 22)) H := by rw [xE_0 rfl]; exact hP 39 _ rfl
  have z23 : va_at D vwCl (f 23, xE (f, T) 23 (cS0 23)) H := by rw [xE_0 rfl]; exact hP 40 _ rfl
  have z24 : va_at D vwCl (f 24, xE (f, T) 24 (cS0 24)) H := by rw [xE_0 rfl]; exact hP 41 _ rfl
  have z25 : va_at D vwCl (f 25, xE (f, T) 25 (cS0 25)) H := by rw [xE_0 rfl]; exact hP 42 _ rfl
  have z26 : va_at D vwCl (f 26, xE (f, T) 26 (cS0 26)) H := by rw [xE_0 rfl]; exact hP 69 _ rfl
  have z27 : va_at D vwCl (f 27, xE (f, T) 27 (cS0 27)) H := by rw [xE_0 rfl]; exact hP 70 _ rfl
  have z28 : va_at D vwCl (f 28, xE (f, T) 28 (cS0 28)) H := by rw [xE_0 rfl]; exact hP 71 _ rfl
  have z29 : va_at D vwCl (f 29, xE (f, T) 29 (cS0 29)) H := by rw [xE_0 rfl]; exact hP 72 _ rfl
  have z30 : va_at D vwCl (f 30, xE (f, T) 30 (cS0 30)) H := by rw [xE_0 rfl]; exact hP 73 _ rfl
  have z31 : va_at D vwCl (f 31, xE (f, T) 31 (cS0 31)) H := by rw [xE_0 rfl]; exact hP 74 _ rfl
  have z32 : va_at D vwCl (f 32, xE (f, T) 32 (cS0 32)) H := by rw [xE_0 rfl]; exact hP 75 _ rfl
  have z33 : va_at D vwCl (f 33, xE (f, T) 33 (cS0 33)) H := by rw [xE_0 rfl]; exact hP 76 _ rfl
  have z34 : va_at D vwCl (f 34, xE (f, T) 34 (cS0 34)) H := by rw [xE_0 rfl]; exact hP 113 _ rfl
  have z35 : va_at D vwCl (f 35, xE (f, T) 35 (cS0 35)) H := by rw [xE_0 rfl]; exact hP 114 _ rfl
  have z36 : va_at D vwCl (f 36, xE (f, T) 36 (cS0 36)) H := by rw [xE_0 rfl]; exact hP 47 _ rfl
  have z37 : va_at D vwCl (f 37, xE (f, T) 37 (cS0 37)) H := by rw [xE_0 rfl]; exact hP 48 _ rfl
  have z38 : va_at D vwCl (f 38, xE (f, T) 38 (cS0 38)) H := by rw [xE_0 rfl]; exact hP 49 _ rfl
  have z39 : va_at D vwCl (f 39, xE (f, T) 39 (cS0 39)) H := by rw [xE_0 rfl]; exact hP 50 _ rfl
  have z40 : va_at D vwCl (f 40, xE (f, T) 40 (cS0 40)) H := by rw [xE_0 rfl]; exact hP 51 _ rfl
  have z41 : va_at D vwCl (f 41, xE (f, T) 41 (cS0 41)) H := by rw [xE_0 rfl]; exact hP 52 _ rfl
  have z42 : va_at D vwCl (f 42, xE (f, T) 42 (cS0 42)) H := by rw [xE_0 rfl]; exact hP 53 _ rfl
  have z43 : va_at D vwCl (f 43, xE (f, T) 43 (cS0 43)) H := by rw [xE_0 rfl]; exact hP 54 _ rfl
  have z44 : va_at D vwCl (f 44, xE (f, T) 44 (cS0 44)) H := by rw [xE_0 rfl]; exact hP 58 _ rfl
  have z45 : va_at D vwCl (f 45, xE (f, T) 45 (cS0 45)) H := by rw [xE_0 rfl]; exact hP 59 _ rfl
  have z46 : va_at D vwCl (f 46, xE (f, T) 46 (cS0 46)) H := by rw [xE_0 rfl]; exact hP 60 _ rfl
  have z47 : va_at D vwCl (f 47, xE (f, T) 47 (cS0 47)) H := by rw [xE_0 rfl]; exact hP 65 _ rfl
  have z48 : va_at D vwCl (f 48, xE (f, T) 48 (cS0 48)) H := by rw [xE_0 rfl]; exact hP 81 _ rfl
  have z49 : va_at D vwCl (f 49, xE (f, T) 49 (cS0 49)) H := by rw [xE_0 rfl]; exact hP 85 _ rfl
  have z50 : va_at D vwCl (f 50, xE (f, T) 50 (cS0 50)) H := by rw [xE_0 rfl]; exact hP 89 _ rfl
  have z51 : va_at D vwCl (f 51, xE (f, T) 51 (cS0 51)) H := by rw [xE_0 rfl]; exact hP 93 _ rfl
  have z52 : va_at D vwCl (f 52, xE (f, T) 52 (cS0 52)) H := by rw [xE_0 rfl]; exact hP 97 _ rfl
  have z53 : va_at D vwCl (f 53, xE (f, T) 53 (cS0 53)) H := by rw [xE_0 rfl]; exact hP 101 _ rfl
  have z54 : va_at D vwCl (f 54, xE (f, T) 54 (cS0 54)) H := by rw [xE_0 rfl]; exact hP 105 _ rfl
  have z55 : va_at D vwCl (f 55, xE (f, T) 55 (cS0 55)) H := by rw [xE_0 rfl]; exact hP 109 _ rfl
  have z56 : va_at D vwCl (f 56, xE (f, T) 56 (cS0 56)) H := by rw [xE_0 rfl]; exact hP 77 _ rfl
  have z57 : va_at D vwCl (f 57, xE (f, T) 57 (cS0 57)) H := by rw [xE_1 rfl]; exact hP 56 _ rfl
  have z58 : va_at D vwCl (f 58, xE (f, T) 58 (cS0 58)) H := by rw [xE_1 rfl]; exact hP 111 _ rfl
  have z59 : va_at D vwCl (f 59, xE (f, T) 59 (cS0 59)) H := by rw [xE_1 rfl]; exact hP 63 _ rfl
  have z60 : va_at D vwCl (f 60, xE (f, T) 60 (cS0 60)) H := by rw [xE_1 rfl]; exact hP 79 _ rfl
  have z61 : va_at D vwCl (f 61, xE (f, T) 61 (cS0 61)) H := by rw [xE_1 rfl]; exact hP 83 _ rfl
  have z62 : va_at D vwCl (f 62, xE (f, T) 62 (cS0 62)) H := by rw [xE_1 rfl]; exact hP 87 _ rfl
  have z63 : va_at D vwCl (f 63, xE (f, T) 63 (cS0 63)) H := by rw [xE_1 rfl]; exact hP 91 _ rfl
  have z64 : va_at D vwCl (f 64, xE (f, T) 64 (cS0 64)) H := by rw [xE_1 rfl]; exact hP 95 _ rfl
  have z65 : va_at D vwCl (f 65, xE (f, T) 65 (cS0 65)) H := by rw [xE_1 rfl]; exact hP 99 _ rfl
  have z66 : va_at D vwCl (f 66, xE (f, T) 66 (cS0 66)) H := by rw [xE_1 rfl]; exact hP 103 _ rfl
  have z67 : va_at D vwCl (f 67, xE (f, T) 67 (cS0 67)) H := by rw [xE_1 rfl]; exact hP 107 _ rfl
  have z68 : va_at D vwCl (f 68, xE (f, T) 68 (cS0 68)) H := by rw [xE_2 rfl]; exact hP 57 _ rfl
  have z69 : va_at D vwCl (f 69, xE (f, T) 69 (cS0 69)) H := by rw [xE_2 rfl]; exact hP 112 _ rfl
  have z70 : va_at D vwCl (f 70, xE (f, T) 70 (cS0 70)) H := by rw [xE_2 rfl]; exact hP 64 _ rfl
  have z71 : va_at D vwCl (f 71, xE (f, T) 71 (cS0 71)) H := by rw [xE_2 rfl]; exact hP 80 _ rfl
  have z72 : va_at D vwCl (f 72, xE (f, T) 72 (cS0 72)) H := by rw [xE_2 rfl]; exact hP 84 _ rfl
  have z73 : va_at D vwCl (f 73, xE (f, T) 73 (cS0 73)) H := by rw [xE_2 rfl]; exact hP 88 _ rfl
  have z74 : va_at D vwCl (f 74, xE (f, T) 74 (cS0 74)) H := by rw [xE_2 rfl]; exact hP 92 _ rfl
  have z75 : va_at D vwCl (f 75, xE (f, T) 75 (cS0 75)) H := by rw [xE_2 rfl]; exact hP 96 _ rfl
  have z76 : va_at D vwCl (f 76, xE (f, T) 76 (cS0 76)) H := by rw [xE_2 rfl]; exact hP 100 _ rfl
  have z77 : va_at D vwCl (f 77, xE (f, T) 77 (cS0 77)) H := by rw [xE_2 rfl]; exact hP 104 _ rfl
  have z78 : va_at D vwCl (f 78, xE (f, T) 78 (cS0 78)) H := by rw [xE_2 rfl]; exact hP 108 _ rfl
  have z79 : va_at D vwCl (f 79, xE (f, T) 79 (cS0 79)) H := by rw [xE_2 rfl]; exact hP 27 _ rfl
  have z80 : va_at D vwCl (f 80, xE (f, T) 80 (cS0 80)) H := by rw [xE_2 rfl]; exact hP 29 _ rfl
  have z81 : va_at D vwCl (f 81, xE (f, T) 81 (cS0 81)) H := by rw [xE_2 rfl]; exact hP 31 _ rfl
  have z82 : va_at D vwCl (f 82, xE (f, T) 82 (cS0 82)) H := by rw [xE_2 rfl]; exact hP 33 _ rfl
  have z83 : va_at D vwCl (f 83, xE (f, T) 83 (cS0 83)) H := by rw [xE_2 rfl]; exact hP 44 _ rfl
  have z84 : va_at D vwCl (f 84, xE (f, T) 84 (cS0 84)) H := by rw [xE_2 rfl]; exact hP 45 _ rfl
  have z85 : va_at D vwCl (f 85, xE (f, T) 85 (cS0 85)) H := by rw [xE_2 rfl]; exact hP 61 _ rfl
  have z86 : va_at D vwCl (f 86, xE (f, T) 86 (cS0 86)) H := by rw [xE_3 rfl]; exact hP 62 _ rfl
  have z87 : va_at D vwCl (f 87, xE (f, T) 87 (cS0 87)) H := by rw [xE_3 rfl]; exact hP 78 _ rfl
  have z88 : va_at D vwCl (f 88, xE (f, T) 88 (cS0 88)) H := by rw [xE_3 rfl]; exact hP 82 _ rfl
  have z89 : va_at D vwCl (f 89, xE (f, T) 89 (cS0 89)) H := by rw [xE_3 rfl]; exact hP 86 _ rfl
  have z90 : va_at D vwCl (f 90, xE (f, T) 90 (cS0 90)) H := by rw [xE_3 rfl]; exact hP 90 _ rfl
  have z91 : va_at D vwCl (f 91, xE (f, T) 91 (cS0 91)) H := by rw [xE_3 rfl]; exact hP 94 _ rfl
  have z92 : va_at D vwCl (f 92, xE (f, T) 92 (cS0 92)) H := by rw [xE_3 rfl]; exact hP 98 _ rfl
  have z93 : va_at D vwCl (f 93, xE (f, T) 93 (cS0 93)) H := by rw [xE_3 rfl]; exact hP 102 _ rfl
  have z94 : va_at D vwCl (f 94, xE (f, T) 94 (cS0 94)) H := by rw [xE_3 rfl]; exact hP 106 _ rfl
  have z95 : va_at D vwCl (f 95, xE (f, T) 95 (cS0 95)) H := by rw [xE_4 rfl]; exact hP 26 _ rfl
  have z96 : va_at D vwCl (f 96, xE (f, T) 96 (cS0 96)) H := by rw [xE_4 rfl]; exact hP 28 _ rfl
  have z97 : va_at D vwCl (f 97, xE (f, T) 97 (cS0 97)) H := by rw [xE_4 rfl]; exact hP 30 _ rfl
  have z98 : va_at D vwCl (f 98, xE (f, T) 98 (cS0 98)) H := by rw [xE_5 rfl]; exact hP 9 _ rfl
  have z99 : va_at D vwCl (f 99, xE (f, T) 99 (cS0 99)) H := by rw [xE_5 rfl]; exact hP 17 _ rfl
  have z100 : va_at D vwCl (f 100, xE (f, T) 100 (cS0 100)) H := by rw [xE_6 rfl]; exact hP 10 _ rfl
  have z101 : va_at D vwCl (f 101, xE (f, T) 101 (cS0 101)) H := by rw [xE_6 rfl]; exact hP 18 _ rfl
  have z102 : va_at D vwCl (f 102, xE (f, T) 102 (cS0 102)) H := by rw [xE_6 rfl]; exact hP 1 _ rfl
  have z103 : va_at D vwCl (f 103, xE (f, T) 103 (cS0 103)) H := by rw [xE_6 rfl]; exact hP 34 _ rfl
  have z104 : va_at D vwCl (f 104, xE (f, T) 104 (cS0 104)) H := by rw [xE_6 rfl]; exact hP 68 _ rfl
  have z105 : va_at D vwCl (f 105, xE (f, T) 105 (cS0 105)) H := by rw [xE_7 rfl]; exact hP 0 _ rfl
  have z106 : va_at D vwCl (f 106, xE (f, T) 106 (cS0 106)) H := by rw [xE_8 rfl]; exact hP 8 _ rfl
  have z107 : va_at D vwCl (f 107, xE (f, T) 107 (cS0 107)) H := by rw [xE_9 rfl]; exact hP 25 _ rfl
  have z108 : va_at D vwCl (f 108, xE (f, T) 108 (cS0 108)) H := by rw [xE_10 rfl]; exact hP 32 _ rfl
  have z109 : va_at D vwCl (f 109, xE (f, T) 109 (cS0 109)) H := by rw [xE_11 rfl]; exact hP 43 _ rfl
  have z110 : va_at D vwCl (f 110, xE (f, T) 110 (cS0 110)) H := by rw [xE_12 rfl]; exact hP 46 _ rfl
  have z111 : va_at D vwCl (f 111, xE (f, T) 111 (cS0 111)) H := by rw [xE_13 rfl]; exact hP 55 _ rfl
  have z112 : va_at D vwCl (f 112, xE (f, T) 112 (cS0 112)) H := by rw [xE_14 rfl]; exact hP 66 _ rfl
  have z113 : va_at D vwCl (f 113, xE (f, T) 113 (cS0 113)) H := by rw [xE_15 rfl]; exact hP 67 _ rfl
  have z114 : va_at D vwCl (f 114, xE (f, T) 114 (cS0 114)) H := by rw [xE_16 rfl]; exact hP 110 _ rfl
  have zz : ∀ k, k < 115 → va_at D vwCl (f k, xE (f, T) k (cS0 k)) H := (lt_up 114 (lt_up 113 (lt_up 112 (lt_up 111 (lt_up 110 (lt_up 109 (lt_up 108 (lt_up 107 (lt_up 106 (lt_up 105 (lt_up 104 (lt_up 103 (lt_up 102 (lt_up 101 (lt_up 100 (lt_up 99 (lt_up 98 (lt_up 97 (lt_up 96 (lt_up 95 (lt_up 94 (lt_up 93 (lt_up 92 (lt_up 91 (lt_up 90 (lt_up 89 (lt_up 88 (lt_up 87 (lt_up 86 (lt_up 85 (lt_up 84 (lt_up 83 (lt_up 82 (lt_up 81 (lt_up 80 (lt_up 79 (lt_up 78 (lt_up 77 (lt_up 76 (lt_up 75 (lt_up 74 (lt_up 73 (lt_up 72 (lt_up 71 (lt_up 70 (lt_up 69 (lt_up 68 (lt_up 67 (lt_up 66 (lt_up 65 (lt_up 64 (lt_up 63 (lt_up 62 (lt_up 61 (lt_up 60 (lt_up 59 (lt_up 58 (lt_up 57 (lt_up 56 (lt_up 55 (lt_up 54 (lt_up 53 (lt_up 52 (lt_up 51 (lt_up 50 (lt_up 49 (lt_up 48 (lt_up 47 (lt_up 46 (lt_up 45 (lt_up 44 (lt_up 43 (lt_up 42 (lt_up 41 (lt_up 40 (lt_up 39 (lt_up 38 (lt_up 37 (lt_up 36 (lt_up 35 (lt_up 34 (lt_up 33 (lt_up 32 (lt_up 31 (lt_up 30 (lt_up 29 (lt_up 28 (lt_up 27 (lt_up 26 (lt_up 25 (lt_up 24 (lt_up 23 (lt_up 22 (lt_up 21 (lt_up 20 (lt_up 19 (lt_up 18 (lt_up 17 (lt_up 16 (lt_up 15 (lt_up 14 (lt_up 13 (lt_up 12 (lt_up 11 (lt_up 10 (lt_up 9 (lt_up 8 (lt_up 7 (lt_up 6 (lt_up 5 (lt_up 4 (lt_up 3 (lt_up 2 (lt_up 1 (lt_up 0 lt_no z0) z1) z2) z3) z4) z5) z6) z7) z8) z9) z10) z11) z12) z13) z14) z15) z16) z17) z18) z19) z20) z21) z22) z23) z24) z25) z26) z27) z28) z29) z30) z31) z32) z33) z34) z35) z36) z37) z38) z39) z40) z41) z42) z43) z44) z45) z46) z47) z48) z49) z50) z51) z52) z53) z54) z55) z56) z57) z58) z59) z60) z61) z62) z63) z64) z65) z66) z67) z68) z69) z70) z71) z72) z73) z74) z75) z76) z77) z78) z79) z80) z81) z82) z83) z84) z85) z86) z87) z88) z89) z90) z91) z92) z93) z94) z95) z96) z97) z98) z99) z100) z101) z102) z103) z104) z105) z106) z107) z108) z109) z110) z111) z112) z113) z114)
  intro k q h
  obtain ⟨hk, -⟩ := wW_inv h
  have h2 := (wW_get (N := 115) (ad := f) (E := xE (f, T)) (σ := cS0) hk).symm.trans h
  cases h2
  exact zz k hk
