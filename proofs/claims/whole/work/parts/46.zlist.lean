/-! LISTS OF A NORM, as the reference and as the desk go through them -/
/-- the greatest whole number whose square is not above n; the root of a square, else -1 -/
def zSq : Nat → Nat
  | 0 => 0
  | n + 1 => if (zSq n + 1) * (zSq n + 1) ≤ n + 1 then zSq n + 1 else zSq n
def zRt (n : Nat) : Int := if zSq n * zSq n = n then (zSq n : Int) else -1
theorem zSq_spec (n : Nat) : zSq n * zSq n ≤ n ∧ n < (zSq n + 1) * (zSq n + 1) := by
  induction n with
  | zero => exact ⟨by decide, by decide⟩
  | succ n ih =>
    unfold zSq
    obtain ⟨h1, h2⟩ := ih
    have e : (zSq n + 1 + 1) * (zSq n + 1 + 1) = (zSq n + 1) * (zSq n + 1) + 2 * zSq n + 3 := by grind
    split
    · exact ⟨by assumption, by omega⟩
    · exact ⟨by omega, by omega⟩
theorem zSq_sq {n k : Nat} (h : k * k = n) : zSq n = k := by
  obtain ⟨h1, h2⟩ := zSq_spec n
  rw [← h] at h1 h2
  have a : ¬ k < zSq (k * k) := fun q => by
    have := Nat.mul_self_lt_mul_self q
    omega
  have b : ¬ zSq (k * k) + 1 ≤ k := fun q => by
    have := Nat.mul_self_le_mul_self q
    omega
  rw [← h]
  omega
theorem zRt_sq {n : Nat} {d : Int} (h : d * d = n) : zRt n = d.natAbs := by
  have e : d.natAbs * d.natAbs = n := by
    have h2 := Int.natAbs_mul_self (a := d)
    omega
  unfold zRt
  rw [zSq_sq e, if_pos e]
theorem zRt_nn {n : Nat} (h : 0 ≤ zRt n) : zRt n * zRt n = n := by
  unfold zRt at *
  split at h
  · rename_i q
    rw [if_pos q]
    have : (zSq n : Int) * (zSq n : Int) = ((zSq n * zSq n : Nat) : Int) := by simp
    omega
  · omega
/-- from f down to -f -/
def zRng (f : Nat) : List Int := (List.range (2 * f + 1)).map fun (i : Nat) => (f : Int) - (i : Int)
theorem zRng_mem {f : Nat} {a : Int} : a ∈ zRng f ↔ -(f : Int) ≤ a ∧ a ≤ f := by
  unfold zRng
  rw [List.mem_map]
  constructor
  · rintro ⟨i, hi, rfl⟩
    have := List.mem_range.mp hi
    omega
  · intro h
    exact ⟨((f : Int) - a).toNat, List.mem_range.mpr (by omega), by omega⟩
theorem pw_range (n : Nat) : (List.range n).Pairwise (· < ·) := List.pairwise_lt_range
theorem zRng_pw (f : Nat) : (zRng f).Pairwise (fun a b => b < a) := by
  unfold zRng
  rw [List.pairwise_map]
  exact (pw_range _).imp (fun h => by omega)
/-- the last number: a root and its opposite -/
def zLast (a b c l : Int) : List ZQ :=
  let d : Int := if l < 0 then -1 else zRt l.toNat
  (if d ≥ 0 ∧ ((a - b) % 2 = 0 ∧ (a - c) % 2 = 0 ∧ (a - d) % 2 = 0) then [(a, b, c, d)] else []) ++ (if d > 0 ∧ ((a - b) % 2 = 0 ∧ (a - c) % 2 = 0 ∧ (a - -d) % 2 = 0) then [(a, b, c, -d)] else [])
theorem zLast_mem {a b c l : Int} {q : ZQ} : q ∈ zLast a b c l ↔ q.1 = a ∧ q.2.1 = b ∧ q.2.2.1 = c ∧ zL q ∧ q.2.2.2 * q.2.2.2 = l := by
  unfold zLast
  rw [List.mem_append]
  by_cases hl : l < 0
  · simp only [if_pos hl]
    rw [if_neg (by omega), if_neg (by omega)]
    constructor
    · rintro (h | h) <;> exact absurd h (by simp)
    · rintro ⟨-, -, -, -, h⟩
      have := sq_nn q.2.2.2
      omega
  · simp only [if_neg hl]
    have hN : (l.toNat : Int) = l := by omega
    constructor
    · rintro (h | h)
      · split at h
        · rename_i k
          rw [List.mem_singleton] at h
          subst h
          have := zRt_nn k.1
          exact ⟨rfl, rfl, rfl, k.2, by simp only; omega⟩
        · exact absurd h (by simp)
      · split at h
        · rename_i k
          rw [List.mem_singleton] at h
          subst h
          have := zRt_nn (n := l.toNat) (by omega)
          refine ⟨rfl, rfl, rfl, k.2, ?_⟩
          simp only
          rw [Int.neg_mul_neg]
          omega
        · exact absurd h (by simp)
    · rintro ⟨h1, h2, h3, h4, h5⟩
      obtain ⟨a', b', c', d⟩ := q
      simp only at h1 h2 h3 h5
      subst h1; subst h2; subst h3
      have e := zRt_sq (n := l.toNat) (d := d) (by omega)
      rw [e]
      unfold zL at h4
      simp only at h4
      by_cases hd : 0 ≤ d
      · left
        rw [if_pos (by omega), List.mem_singleton]
        have : (d.natAbs : Int) = d := by omega
        rw [this]
      · right
        rw [if_pos (by omega), List.mem_singleton]
        have : -(d.natAbs : Int) = d := by omega
        rw [this]
theorem zGt_last {a b c d e : Int} (h : d > e) : zGt (a, b, c, d) (a, b, c, e) := Or.inr ⟨rfl, Or.inr ⟨rfl, Or.inr ⟨rfl, h⟩⟩⟩
theorem pw_two {P Q : Prop} [Decidable P] [Decidable Q] {x y : ZQ} (h : P → Q → zGt x y) : ((if P then [x] else []) ++ (if Q then [y] else [])).Pairwise zGt := by
  by_cases p : P
  · by_cases q : Q
    · rw [if_pos p, if_pos q]
      simp [h p q]
    · rw [if_pos p, if_neg q]
      simp
  · by_cases q : Q
    · rw [if_neg p, if_pos q]
      simp
    · rw [if_neg p, if_neg q]
      simp
theorem zLast_pw (a b c l : Int) : (zLast a b c l).Pairwise zGt := by
  unfold zLast
  generalize (if l < 0 then -1 else zRt l.toNat) = d
  exact pw_two (fun _ k => zGt_last (by omega))
/-- all of a norm, from the greatest on -/
def zAll (n : Nat) : List ZQ :=
  (zRng (zSq (4 * n))).flatMap fun a => (zRng (zSq (4 * n))).flatMap fun b => (zRng (zSq (4 * n))).flatMap fun c => zLast a b c (4 * (n : Int) - a * a - b * b - c * c)
theorem zSq_bd {n : Nat} {a : Int} (h : a * a ≤ (n : Int)) : -(zSq n : Int) ≤ a ∧ a ≤ (zSq n : Int) := by
  have h2 := (zSq_spec n).2
  have h3 : a * a < ((zSq n + 1 : Nat) : Int) * ((zSq n + 1 : Nat) : Int) := by
    have : ((zSq n + 1 : Nat) : Int) * ((zSq n + 1 : Nat) : Int) = (((zSq n + 1) * (zSq n + 1) : Nat) : Int) := by simp
    omega
  have k := sq_le (a := a) (n := (zSq n : Int) + 1) (by omega) (by
    have : ((zSq n + 1 : Nat) : Int) = (zSq n : Int) + 1 := by omega
    rw [this] at h3
    omega)
  have k1 : a ≠ (zSq n : Int) + 1 := fun e => by
    rw [e] at h3
    have : ((zSq n + 1 : Nat) : Int) = (zSq n : Int) + 1 := by omega
    rw [this] at h3
    omega
  have k2 : a ≠ -((zSq n : Int) + 1) := fun e => by
    rw [e, Int.neg_mul_neg] at h3
    have : ((zSq n + 1 : Nat) : Int) = (zSq n : Int) + 1 := by omega
    rw [this] at h3
    omega
  omega
theorem zAll_mem {n : Nat} {q : ZQ} : q ∈ zAll n ↔ zL q ∧ zN q = n := by
  unfold zAll
  simp only [List.mem_flatMap, zLast_mem, zRng_mem]
  constructor
  · rintro ⟨a, ha, b, hb, c, hc, h1, h2, h3, h4, h5⟩
    subst h1; subst h2; subst h3
    refine ⟨h4, ?_⟩
    have := zN4_four h4
    unfold zN4 at this
    omega
  · rintro ⟨h1, h2⟩
    have e := zN4_four h1
    unfold zN4 at e
    have s1 := sq_nn q.1
    have s2 := sq_nn q.2.1
    have s3 := sq_nn q.2.2.1
    have s4 := sq_nn q.2.2.2
    exact ⟨q.1, zSq_bd (by omega), q.2.1, zSq_bd (by omega), q.2.2.1, zSq_bd (by omega), rfl, rfl, rfl, h1, by omega⟩
theorem pw_flat {f : Int → List ZQ} {l : List Int} (hl : l.Pairwise (fun a b => b < a)) (hf : ∀ a, (f a).Pairwise zGt) (h : ∀ a b, b < a → ∀ x, x ∈ f a → ∀ y, y ∈ f b → zGt x y) : (l.flatMap f).Pairwise zGt := by
  rw [List.pairwise_flatMap]
  exact ⟨fun a _ => hf a, hl.imp (fun {a b} k x hx y hy => h a b k x hx y hy)⟩
theorem zAll_pw (n : Nat) : (zAll n).Pairwise zGt := by
  unfold zAll
  refine pw_flat (zRng_pw _) (fun a => pw_flat (zRng_pw _) (fun b => pw_flat (zRng_pw _) (fun c => zLast_pw _ _ _ _) ?_) ?_) ?_
  · intro c1 c2 hc x hx y hy
    obtain ⟨x1, x2, x3, -⟩ := zLast_mem.mp hx
    obtain ⟨y1, y2, y3, -⟩ := zLast_mem.mp hy
    unfold zGt
    omega
  · intro b1 b2 hb x hx y hy
    simp only [List.mem_flatMap, zLast_mem] at hx hy
    obtain ⟨_, _, x1, x2, -⟩ := hx
    obtain ⟨_, _, y1, y2, -⟩ := hy
    unfold zGt
    omega
  · intro a1 a2 ha x hx y hy
    simp only [List.mem_flatMap, zLast_mem] at hx hy
    obtain ⟨_, _, _, _, x1, -⟩ := hx
    obtain ⟨_, _, _, _, y1, -⟩ := hy
    unfold zGt
    omega
/-! the desk's own way through the heads of a norm -/
def zHb (s : Int32) (q : ZQ) : Bool := zUl.all fun u => !zGb (zK s q u) q
theorem zHb_iff (s : Int32) (q : ZQ) : zHb s q = true ↔ zHd s q := by
  unfold zHb zHd
  rw [List.all_eq_true]
  constructor
  · intro h u hu g
    have := h u hu
    rw [(zGb_iff _ _).mpr g] at this
    exact absurd this (by decide)
  · intro h u hu
    rw [(zGb_not _ _).mpr (h u hu)]
    rfl
def zSf (n : Nat) : Nat :=
  let a := if 256 ≤ n then 16 else 0
  let b := if (a + 8) * (a + 8) ≤ n then a + 8 else a
  let c := if (b + 4) * (b + 4) ≤ n then b + 4 else b
  let d := if (c + 2) * (c + 2) ≤ n then c + 2 else c
  if (d + 1) * (d + 1) ≤ n then d + 1 else d
theorem zSf_ok {n : Nat} (h : n < 601) : zSf n = zSq n := by
  have k : zSf n * zSf n ≤ n ∧ n < (zSf n + 1) * (zSf n + 1) := by
    have : ∀ n, n < 601 → zSf n * zSf n ≤ n ∧ n < (zSf n + 1) * (zSf n + 1) := by decide +kernel
    exact this n h
  obtain ⟨h1, h2⟩ := zSq_spec n
  have a : ¬ zSf n < zSq n := fun q => by
    have : (zSf n + 1) * (zSf n + 1) ≤ zSq n * zSq n := Nat.mul_self_le_mul_self q
    omega
  have b : ¬ zSq n < zSf n := fun q => by
    have : (zSq n + 1) * (zSq n + 1) ≤ zSf n * zSf n := Nat.mul_self_le_mul_self q
    omega
  omega
/-- the greatest number as a is, whose square is not above r; -1: none -/
def zLr (r a : Int) : Int := if r < 0 then -1 else if r < 601 then (if ((zSf r.toNat : Int) - a) % 2 = 0 then (zSf r.toNat : Int) else (zSf r.toNat : Int) - 1) else -1
/-- m, m - 2 .. down to -m -/
def zDn (m : Int) : List Int := (List.range (m + 1).toNat).map fun (i : Nat) => m - 2 * (i : Int)
def zAb (b : Int) : Int := if 0 ≤ b then b else 0 - b
def zOff (s : Int32) (a b c r : Int) : List ZQ :=
  if zLr r a < 0 then [] else if zLr r a * zLr r a = r then (if zAb b + zAb c + zLr r a ≤ a then (if zAb b + zAb c + zLr r a < a ∨ zHb s (a, b, c, zLr r a) = true then [(a, b, c, zLr r a)] else []) ++ (if 0 < zLr r a ∧ (zAb b + zAb c + zLr r a < a ∨ zHb s (a, b, c, -zLr r a) = true) then [(a, b, c, -zLr r a)] else []) else []) else []
def zClc (s : Int32) (a b r : Int) : List ZQ := (zDn (zLr r a)).flatMap fun c => zOff s a b c (r - c * c)
def zClb (s : Int32) (a r : Int) : List ZQ := (zDn (zLr r a)).flatMap fun b => zClc s a b (r - b * b)
def zCla (s : Int32) (n a : Int) : List ZQ := if 4 * n - a * a < 0 then [] else if 4 * n - a * a ≤ a * a then zClb s a (4 * n - a * a) else []
def zAs : List Int := [24, 23, 22, 21, 20, 19, 18, 17, 16, 15, 14, 13, 12, 11, 10, 9, 8, 7, 6, 5, 4, 3, 2, 1]
def zCl (s : Int32) (n : Nat) : List ZQ := zAs.flatMap fun a => zCla s n a
theorem zLr_spec {r a : Int} (h : r < 601) : (zLr r a < 0 ∧ ∀ d : Int, 0 ≤ d → (a - d) % 2 = 0 → ¬ d * d ≤ r) ∨ (0 ≤ zLr r a ∧ (a - zLr r a) % 2 = 0 ∧ zLr r a * zLr r a ≤ r ∧ ∀ d : Int, (a - d) % 2 = 0 → d * d ≤ r → -zLr r a ≤ d ∧ d ≤ zLr r a) := by
  unfold zLr
  by_cases hr : r < 0
  · rw [if_pos hr]
    exact Or.inl ⟨by decide, fun d _ _ q => by have := sq_nn d; omega⟩
  · rw [if_neg hr, if_pos h, zSf_ok (by omega)]
    have hN : (r.toNat : Int) = r := by omega
    have h1 := (zSq_spec r.toNat).1
    have h1' : (zSq r.toNat : Int) * (zSq r.toNat : Int) ≤ r := by
      have : (zSq r.toNat : Int) * (zSq r.toNat : Int) = ((zSq r.toNat * zSq r.toNat : Nat) : Int) := by simp
      omega
    have bd : ∀ d : Int, d * d ≤ r → -(zSq r.toNat : Int) ≤ d ∧ d ≤ zSq r.toNat := fun d q => zSq_bd (by omega)
    split
    · rename_i k
      exact Or.inr ⟨by omega, by omega, h1', fun d _ q => bd d q⟩
    · rename_i k
      by_cases hz : zSq r.toNat = 0
      · left
        rw [hz] at k bd ⊢
        refine ⟨by decide, fun d hd hp q => ?_⟩
        have := bd d q
        omega
      · right
        refine ⟨by omega, by omega, ?_, fun d hp q => ?_⟩
        · have e : ((zSq r.toNat : Int) - 1) * ((zSq r.toNat : Int) - 1) = (zSq r.toNat : Int) * (zSq r.toNat : Int) - 2 * (zSq r.toNat : Int) + 1 := by grind
          omega
        · have := bd d q
          omega
theorem zDn_mem {m x : Int} : x ∈ zDn m ↔ -m ≤ x ∧ x ≤ m ∧ (m - x) % 2 = 0 := by
  unfold zDn
  rw [List.mem_map]
  constructor
  · rintro ⟨i, hi, rfl⟩
    have := List.mem_range.mp hi
    omega
  · intro h
    exact ⟨((m - x) / 2).toNat, List.mem_range.mpr (by omega), by omega⟩
theorem zDn_pw (m : Int) : (zDn m).Pairwise (fun a b => b < a) := by
  unfold zDn
  rw [List.pairwise_map]
  exact (pw_range _).imp (fun h => by omega)
theorem zLr_dn {r a x : Int} (h : r < 601) : x ∈ zDn (zLr r a) ↔ (a - x) % 2 = 0 ∧ x * x ≤ r := by
  rw [zDn_mem]
  rcases zLr_spec (a := a) h with ⟨h1, h2⟩ | ⟨h1, h2, h3, h4⟩
  · constructor
    · rintro ⟨a1, a2, -⟩; omega
    · rintro ⟨a1, a2⟩
      exfalso
      rcases Int.le_total 0 x with k | k
      · exact h2 x k a1 a2
      · exact h2 (-x) (by omega) (by omega) (by rw [Int.neg_mul_neg]; exact a2)
  · constructor
    · rintro ⟨a1, a2, a3⟩
      refine ⟨by omega, Int.le_trans ?_ h3⟩
      have k1 := Int.mul_nonneg (show 0 ≤ zLr r a - x by omega) (show 0 ≤ zLr r a + x by omega)
      have e : (zLr r a - x) * (zLr r a + x) = zLr r a * zLr r a - x * x := by grind
      omega
    · rintro ⟨a1, a2⟩
      obtain ⟨b1, b2⟩ := h4 x a1 a2
      exact ⟨b1, b2, by omega⟩
theorem zAb_eq (b : Int) : zAb b = b.natAbs := by unfold zAb; split <;> omega
theorem zOff_mem {s : Int32} {a b c r : Int} (hr : r < 601) (hb : (a - b) % 2 = 0) (hc : (a - c) % 2 = 0) {q : ZQ} : q ∈ zOff s a b c r ↔ q.1 = a ∧ q.2.1 = b ∧ q.2.2.1 = c ∧ zL q ∧ q.2.2.2 * q.2.2.2 = r ∧ zHd s q := by
  unfold zOff
  have ab1 := zAb_eq b
  have ac1 := zAb_eq c
  rcases zLr_spec (a := a) hr with ⟨h1, h2⟩ | ⟨h1, h2, h3, h4⟩
  · rw [if_pos h1]
    constructor
    · intro h; exact absurd h (by simp)
    · rintro ⟨q1, q2, q3, q4, q5, -⟩
      exfalso
      unfold zL at q4
      rcases Int.le_total 0 q.2.2.2 with k | k
      · exact h2 _ k (by omega) (by omega)
      · exact h2 (-q.2.2.2) (by omega) (by omega) (by rw [Int.neg_mul_neg]; omega)
  · rw [if_neg (by omega)]
    by_cases hs : zLr r a * zLr r a = r
    · rw [if_pos hs]
      by_cases ho : zAb b + zAb c + zLr r a ≤ a
      · rw [if_pos ho, List.mem_append]
        have key : ∀ d : Int, (d.natAbs : Int) = zLr r a → ((zAb b + zAb c + zLr r a < a ∨ zHb s (a, b, c, d) = true) ↔ zHd s (a, b, c, d)) := by
          intro d hd
          constructor
          · rintro (k | k)
            · refine zHd_lt ?_ ?_
              · unfold zL; simp only; omega
              · unfold zOt; simp only; omega
            · exact (zHb_iff _ _).mp k
          · intro k; exact Or.inr ((zHb_iff _ _).mpr k)
        have k1 := key (zLr r a) (by omega)
        have k2 := key (-zLr r a) (by omega)
        constructor
        · rintro (h | h)
          · split at h
            · rename_i k
              rw [List.mem_singleton] at h
              subst h
              exact ⟨rfl, rfl, rfl, by unfold zL; simp only; omega, hs, k1.mp k⟩
            · exact absurd h (by simp)
          · split at h
            · rename_i k
              rw [List.mem_singleton] at h
              subst h
              exact ⟨rfl, rfl, rfl, by unfold zL; simp only; omega, by simp only; rw [Int.neg_mul_neg]; exact hs, k2.mp k.2⟩
            · exact absurd h (by simp)
        · obtain ⟨a', b', c', d⟩ := q
          rintro ⟨q1, q2, q3, q4, q5, q6⟩
          simp only at q1 q2 q3 q5
          subst q1; subst q2; subst q3
          unfold zL at q4
          simp only at q4
          have q7 := h4 d (by omega) (by omega)
          have q8 : d = zLr r a' ∨ d = -zLr r a' := by
            have e : (zLr r a' - d) * (zLr r a' + d) = 0 := by
              have : (zLr r a' - d) * (zLr r a' + d) = zLr r a' * zLr r a' - d * d := by grind
              omega
            rcases Int.mul_eq_zero.mp e with z | z
            · left; omega
            · right; omega
          by_cases hp : 0 ≤ d
          · left
            have : d = zLr r a' := by omega
            subst this
            rw [if_pos (k1.mpr q6)]
            exact List.mem_singleton.mpr rfl
          · right
            have : d = -zLr r a' := by omega
            subst this
            rw [if_pos ⟨by omega, k2.mpr q6⟩]
            exact List.mem_singleton.mpr rfl
      · rw [if_neg ho]
        constructor
        · intro h; exact absurd h (by simp)
        · obtain ⟨a', b', c', d⟩ := q
          rintro ⟨q1, q2, q3, q4, q5, q6⟩
          simp only at q1 q2 q3 q5
          subst q1; subst q2; subst q3
          exfalso
          have o := zHd_ot q4 q6
          unfold zOt at o
          unfold zL at q4
          simp only at o q4
          have q7 := h4 d (by omega) (by omega)
          have q8 : (d.natAbs : Int) = zLr r a' := by
            have e : (zLr r a' - d) * (zLr r a' + d) = 0 := by
              have : (zLr r a' - d) * (zLr r a' + d) = zLr r a' * zLr r a' - d * d := by grind
              omega
            rcases Int.mul_eq_zero.mp e with z | z <;> omega
          omega
    · rw [if_neg hs]
      constructor
      · intro h; exact absurd h (by simp)
      · rintro ⟨q1, q2, q3, q4, q5, q6⟩
        exfalso
        unfold zL at q4
        have q7 := h4 q.2.2.2 (by omega) (by omega)
        have q9 : q.2.2.2 * q.2.2.2 = zLr r a * zLr r a ∨ True := Or.inr trivial
        have e1 : zLr r a * zLr r a ≤ r := h3
        -- |d| is the bound itself, for d d = r and the bound's square is at most r
        have e2 : q.2.2.2 * q.2.2.2 ≤ zLr r a * zLr r a := by
          have k1 := Int.mul_nonneg (show 0 ≤ zLr r a - q.2.2.2 by omega) (show 0 ≤ zLr r a + q.2.2.2 by omega)
          have e : (zLr r a - q.2.2.2) * (zLr r a + q.2.2.2) = zLr r a * zLr r a - q.2.2.2 * q.2.2.2 := by grind
          omega
        omega
theorem zOff_pw (s : Int32) (a b c r : Int) : (zOff s a b c r).Pairwise zGt := by
  unfold zOff
  split
  · exact List.Pairwise.nil
  · split
    · split
      · exact pw_two (fun _ k => zGt_last (by omega))
      · exact List.Pairwise.nil
    · exact List.Pairwise.nil
theorem zClc_mem {s : Int32} {a b r : Int} (hr : r < 601) (hb : (a - b) % 2 = 0) {q : ZQ} : q ∈ zClc s a b r ↔ q.1 = a ∧ q.2.1 = b ∧ zL q ∧ q.2.2.1 * q.2.2.1 + q.2.2.2 * q.2.2.2 = r ∧ zHd s q := by
  unfold zClc
  rw [List.mem_flatMap]
  constructor
  · rintro ⟨c, hc, h⟩
    rw [zLr_dn hr] at hc
    rw [zOff_mem (by have := sq_nn c; omega) hb hc.1] at h
    obtain ⟨h1, h2, h3, h4, h5, h6⟩ := h
    subst h3
    exact ⟨h1, h2, h4, by omega, h6⟩
  · rintro ⟨h1, h2, h3, h4, h5⟩
    have s1 := sq_nn q.2.2.1
    have s2 := sq_nn q.2.2.2
    have h3' := h3
    unfold zL at h3'
    refine ⟨q.2.2.1, (zLr_dn hr).mpr ⟨by omega, by omega⟩, ?_⟩
    rw [zOff_mem (by omega) hb (by omega)]
    exact ⟨h1, h2, rfl, h3, by omega, h5⟩
theorem zClb_mem {s : Int32} {a r : Int} (hr : r < 601) {q : ZQ} : q ∈ zClb s a r ↔ q.1 = a ∧ zL q ∧ q.2.1 * q.2.1 + q.2.2.1 * q.2.2.1 + q.2.2.2 * q.2.2.2 = r ∧ zHd s q := by
  unfold zClb
  rw [List.mem_flatMap]
  constructor
  · rintro ⟨b, hb, h⟩
    rw [zLr_dn hr] at hb
    rw [zClc_mem (by have := sq_nn b; omega) hb.1] at h
    obtain ⟨h1, h2, h3, h4, h5⟩ := h
    subst h2
    exact ⟨h1, h3, by omega, h5⟩
  · rintro ⟨h1, h2, h3, h4⟩
    have s1 := sq_nn q.2.1
    have s2 := sq_nn q.2.2.1
    have s3 := sq_nn q.2.2.2
    have h2' := h2
    unfold zL at h2'
    refine ⟨q.2.1, (zLr_dn hr).mpr ⟨by omega, by omega⟩, ?_⟩
    rw [zClc_mem (by omega) (by omega)]
    exact ⟨h1, rfl, h2, by omega, h4⟩
theorem zAs_mem {a : Int} : a ∈ zAs ↔ 1 ≤ a ∧ a ≤ 24 := by
  constructor
  · intro h
    have : ∀ a ∈ zAs, 1 ≤ a ∧ a ≤ 24 := by decide +kernel
    exact this a h
  · intro h
    have : ∀ k : Nat, k < 25 → 1 ≤ k → (k : Int) ∈ zAs := by decide +kernel
    have k := this a.toNat (by omega) (by omega)
    have e : (a.toNat : Int) = a := by omega
    rwa [e] at k
/-- a head's first number's square is not below the others' squares together -/
theorem zOt_sq {b c d a : Int} (h : (b.natAbs : Int) + (c.natAbs : Int) + (d.natAbs : Int) ≤ a) : b * b + c * c + d * d ≤ a * a := by
  have e1 : b * b = (b.natAbs : Int) * (b.natAbs : Int) := Int.natAbs_mul_self.symm
  have e2 : c * c = (c.natAbs : Int) * (c.natAbs : Int) := Int.natAbs_mul_self.symm
  have e3 : d * d = (d.natAbs : Int) * (d.natAbs : Int) := Int.natAbs_mul_self.symm
  rw [e1, e2, e3]
  generalize hx : (b.natAbs : Int) = x at *
  generalize hy : (c.natAbs : Int) = y at *
  generalize hz : (d.natAbs : Int) = z at *
  have x0 : 0 ≤ x := by omega
  have y0 : 0 ≤ y := by omega
  have w0 : 0 ≤ z := by omega
  have k1 := Int.mul_nonneg x0 y0
  have k2 := Int.mul_nonneg x0 w0
  have k3 := Int.mul_nonneg y0 w0
  have k4 : (x + y + z) * (x + y + z) ≤ a * a := Int.mul_self_le_mul_self (by omega) h
  have e : (x + y + z) * (x + y + z) = x * x + y * y + z * z + 2 * (x * y) + 2 * (x * z) + 2 * (y * z) := by grind
  omega
theorem zCl_mem {s : Int32} {n : Nat} (hn : n ≤ 150) (h0 : 0 < n) {q : ZQ} : q ∈ zCl s n ↔ zL q ∧ zN q = n ∧ zHd s q := by
  unfold zCl
  rw [List.mem_flatMap]
  constructor
  · rintro ⟨a, ha, h⟩
    rw [zAs_mem] at ha
    unfold zCla at h
    split at h
    · exact absurd h (by simp)
    · split at h
      · have s1 := sq_nn a
        rw [zClb_mem (by omega)] at h
        obtain ⟨h1, h2, h3, h4⟩ := h
        subst h1
        have e := zN4_four h2
        unfold zN4 at e
        exact ⟨h2, by omega, h4⟩
      · exact absurd h (by simp)
  · rintro ⟨h1, h2, h3⟩
    have e := zN4_four h1
    unfold zN4 at e
    have ot := zHd_ot h1 h3
    have s1 := sq_nn q.1
    have s2 := sq_nn q.2.1
    have s3 := sq_nn q.2.2.1
    have s4 := sq_nn q.2.2.2
    have sq := zOt_sq ot
    have hp : 0 < q.1 := by
      apply Classical.byContradiction
      intro c
      unfold zOt at ot
      have : q.1 = 0 := by omega
      rw [this] at e sq
      omega
    have hm : q.1 ≤ 24 := by
      apply Classical.byContradiction
      intro c
      have := Int.mul_self_le_mul_self (show (0 : Int) ≤ 25 by decide) (show 25 ≤ q.1 by omega)
      omega
    refine ⟨q.1, zAs_mem.mpr ⟨by omega, hm⟩, ?_⟩
    unfold zCla
    rw [if_neg (by omega), if_pos (by omega), zClb_mem (by omega)]
    exact ⟨rfl, h1, by omega, h3⟩
theorem zAs_pw : zAs.Pairwise (fun a b => b < a) := by decide +kernel
theorem zCl_pw {s : Int32} {n : Nat} (hn : n ≤ 150) : (zCl s n).Pairwise zGt := by
  have hc : ∀ a b r, r < 601 → (zClc s a b r).Pairwise zGt := by
    intro a b r hr
    unfold zClc
    refine pw_flat (zDn_pw _) (fun c => zOff_pw _ _ _ _ _) ?_
    intro c1 c2 hc x hx y hy
    have px : x.1 = a ∧ x.2.1 = b ∧ x.2.2.1 = c1 := by
      unfold zOff at hx
      split at hx
      · exact absurd hx (by simp)
      · split at hx
        · split at hx
          · rw [List.mem_append] at hx
            rcases hx with hx | hx <;> (split at hx; rw [List.mem_singleton] at hx; subst hx; exact ⟨rfl, rfl, rfl⟩; exact absurd hx (by simp))
          · exact absurd hx (by simp)
        · exact absurd hx (by simp)
    have py : y.1 = a ∧ y.2.1 = b ∧ y.2.2.1 = c2 := by
      unfold zOff at hy
      split at hy
      · exact absurd hy (by simp)
      · split at hy
        · split at hy
          · rw [List.mem_append] at hy
            rcases hy with hy | hy <;> (split at hy; rw [List.mem_singleton] at hy; subst hy; exact ⟨rfl, rfl, rfl⟩; exact absurd hy (by simp))
          · exact absurd hy (by simp)
        · exact absurd hy (by simp)
    unfold zGt
    omega
  have fb : ∀ a b r (x : ZQ), x ∈ zClc s a b r → x.1 = a ∧ x.2.1 = b := by
    intro a b r x hx
    unfold zClc at hx
    obtain ⟨c, -, hx⟩ := List.mem_flatMap.mp hx
    unfold zOff at hx
    split at hx
    · exact absurd hx (by simp)
    · split at hx
      · split at hx
        · rw [List.mem_append] at hx
          rcases hx with hx | hx <;> (split at hx; rw [List.mem_singleton] at hx; subst hx; exact ⟨rfl, rfl⟩; exact absurd hx (by simp))
        · exact absurd hx (by simp)
      · exact absurd hx (by simp)
  have hb : ∀ a r, r < 601 → (zClb s a r).Pairwise zGt := by
    intro a r hr
    unfold zClb
    refine pw_flat (zDn_pw _) (fun b => hc _ _ _ (by have := sq_nn b; omega)) ?_
    intro b1 b2 hb x hx y hy
    have px := fb _ _ _ _ hx
    have py := fb _ _ _ _ hy
    unfold zGt
    omega
  unfold zCl
  refine pw_flat zAs_pw (fun a => ?_) ?_
  · unfold zCla
    split
    · exact List.Pairwise.nil
    · split
      · exact hb _ _ (by have := sq_nn a; omega)
      · exact List.Pairwise.nil
  · intro a1 a2 ha x hx y hy
    have fa : ∀ a (x : ZQ), x ∈ zCla s n a → x.1 = a := by
      intro a x hx
      unfold zCla at hx
      split at hx
      · exact absurd hx (by simp)
      · split at hx
        · unfold zClb at hx
          obtain ⟨b, -, hx⟩ := List.mem_flatMap.mp hx
          exact (fb _ _ _ _ hx).1
        · exact absurd hx (by simp)
    have px := fa _ _ hx
    have py := fa _ _ hy
    unfold zGt
    omega
/-- those of a list that are as told -/
noncomputable def zF (P : ZQ → Prop) (l : List ZQ) : List ZQ := l.filter fun q => @decide (P q) (Classical.propDecidable _)
theorem zF_mem {P : ZQ → Prop} {l : List ZQ} {q : ZQ} : q ∈ zF P l ↔ q ∈ l ∧ P q := by
  unfold zF
  rw [List.mem_filter]
  exact and_congr_right (fun _ => @decide_eq_true_iff _ (Classical.propDecidable _))
theorem zF_pw {P : ZQ → Prop} {l : List ZQ} (h : l.Pairwise zGt) : (zF P l).Pairwise zGt := h.filter _
/-- the two ways lead to the same list -/
theorem zCl_zAll {s : Int32} {n : Nat} (hn : n ≤ 150) (h0 : 0 < n) : zF (zHd s) (zAll n) = zCl s n :=
  fall_ext _ _ (zF_pw (zAll_pw n)) (zCl_pw hn) (fun q => by rw [zF_mem, zAll_mem, zCl_mem hn h0, and_assoc])
