/-! THE TEXT, on the desk's side: letters, kinds, tokens -/
def gOk (n : Nat) (g : Nat → Nat) : Prop := n ≤ 200 ∧ ∀ i, i < n → g i < 256
def xTx (σ : QMem) (n : Nat) (g : Nat → Nat) : Prop := σ 109 2 = nI n ∧ ∀ i, i < n → σ 83 i = nI (g i)
def mTx (μ : QMem) (n : Nat) (g : Nat → Nat) : Prop := μ 28 26 = nI n ∧ ∀ i, i < n → μ 23 i = nI (g i)
def gk (n : Nat) (g : Nat → Nat) (i : Nat) : Nat := if n ≤ i then 0 else if 97 ≤ g i ∧ g i ≤ 122 then 1 else if 48 ≤ g i ∧ g i ≤ 57 then 2 else 3
/-- behind the blanks -/
def gsk (n : Nat) (g : Nat → Nat) : Nat → Nat → Nat
  | 0, i => i
  | m + 1, i => if i < n ∧ g i = 32 then gsk n g m (i + 1) else i
def gs (n : Nat) (g : Nat → Nat) (i : Nat) : Nat := gsk n g (n - i) i
/-- behind letters of one kind -/
def gtk (n : Nat) (g : Nat → Nat) (k : Nat) : Nat → Nat → Nat
  | 0, i => i
  | m + 1, i => if gk n g i = k then gtk n g k m (i + 1) else i
def gte (n : Nat) (g : Nat → Nat) (s : Nat) : Nat := if gk n g s = 0 then s else if gk n g s = 3 then s + 1 else gtk n g (gk n g s) (n - (s + 1)) (s + 1)
theorem gsk_b {n : Nat} {g : Nat → Nat} : ∀ m i, i + m = n → i ≤ gsk n g m i ∧ gsk n g m i ≤ n ∧ (gsk n g m i < n → ¬ g (gsk n g m i) = 32) := by
  intro m
  induction m with
  | zero => intro i hi; unfold gsk; exact ⟨Nat.le_refl _, by omega, fun h => by omega⟩
  | succ m ih =>
    intro i hi
    unfold gsk
    split
    · have := ih (i + 1) (by omega)
      exact ⟨by omega, this.2.1, this.2.2⟩
    · rename_i h
      exact ⟨Nat.le_refl _, by omega, fun _ e => h ⟨by omega, e⟩⟩
theorem gs_b {n : Nat} {g : Nat → Nat} {i : Nat} (hi : i ≤ n) : i ≤ gs n g i ∧ gs n g i ≤ n ∧ (gs n g i < n → ¬ g (gs n g i) = 32) := gsk_b (n - i) i (by omega)
theorem gs_stay {n : Nat} {g : Nat → Nat} {i : Nat} (h : ¬ (i < n ∧ g i = 32)) : gs n g i = i := by
  unfold gs
  cases n - i with
  | zero => rfl
  | succ m => unfold gsk; rw [if_neg h]
theorem gs_step {n : Nat} {g : Nat → Nat} {i : Nat} (h : i < n ∧ g i = 32) : gs n g i = gs n g (i + 1) := by
  unfold gs
  obtain ⟨m, hm⟩ : ∃ m, n - i = m + 1 := ⟨n - i - 1, by omega⟩
  rw [hm, show n - (i + 1) = m by omega, gsk, if_pos h]
theorem gk_0 {n : Nat} {g : Nat → Nat} {i : Nat} : gk n g i = 0 ↔ n ≤ i := by
  unfold gk
  constructor
  · intro h
    apply Classical.byContradiction
    intro c
    rw [if_neg c] at h
    split at h
    · omega
    · split at h <;> omega
  · intro h; rw [if_pos h]
theorem gk_3 (n : Nat) (g : Nat → Nat) (i : Nat) : gk n g i ≤ 3 := by
  unfold gk
  split
  · omega
  · split
    · omega
    · split <;> omega
theorem gtk_b {n : Nat} {g : Nat → Nat} {k : Nat} : ∀ m i, i + m = n → i ≤ gtk n g k m i ∧ gtk n g k m i ≤ n := by
  intro m
  induction m with
  | zero => intro i hi; unfold gtk; omega
  | succ m ih =>
    intro i hi
    unfold gtk
    split
    · have := ih (i + 1) (by omega); omega
    · omega
theorem gte_b {n : Nat} {g : Nat → Nat} {s : Nat} (h : s ≤ n) : s ≤ gte n g s ∧ gte n g s ≤ n := by
  unfold gte
  split
  · omega
  · rename_i h0
    have : ¬ n ≤ s := fun z => h0 (gk_0.mpr z)
    split
    · omega
    · have := gtk_b (n := n) (g := g) (k := gk n g s) (n - (s + 1)) (s + 1) (by omega)
      omega
theorem c_letter {σ : QMem} {n : Nat} {g : Nat → Nat} (ho : gOk n g) (hx : xTx σ n g) {i : Nat} (hi : i ≤ 10000) : fX8_letterAt (nI i) σ = some (if i < n then nI (g i) else -1, σ) := by
  have x83 : xl 83 = 200 := rfl
  unfold fX8_letterAt
  rw [if_neg (nI_pos (by omega)), hx.1]
  by_cases h : i < n
  · have h200 := ho.1
    have c200 : ¬ (200 : Int32) ≤ nI i := nI_ge (b := 200) (by omega) (by decide)
    rw [if_neg (nI_ge h (by omega)), if_neg c200, if_neg (nI_in (by rw [x83]; omega) (by decide)), nI_clamp (by omega), hx.2 i h, if_pos h]
  · rw [if_pos (nI_le (by omega) (by omega)), if_neg h]
theorem c_kind {σ : QMem} {n : Nat} {g : Nat → Nat} (ho : gOk n g) (hx : xTx σ n g) {i : Nat} (hi : i ≤ 10000) : fX8_kindAt (nI i) σ = some (nI (gk n g i), σ) := by
  unfold fX8_kindAt
  rw [c_letter ho hx hi, Option.bind_some]
  simp only
  unfold gk
  by_cases h : i < n
  · have b := ho.2 i h
    have ne : ¬ nI (g i) = -1 := by
      intro e
      have : (nI (g i)).toInt = -1 := by rw [e]; decide
      rw [nI_toInt (by omega)] at this
      omega
    rw [if_pos h, if_neg ne, if_neg (show ¬ n ≤ i by omega)]
    unfold fX8_kindAt_J27
    have q1 : (nI (g i) < (97 : Int32)) = (g i < 97) := propext ⟨fun z => Nat.lt_of_not_le fun y => nI_nlt (a := g i) (b := 97) y (by omega) z, fun z => nI_lt (b := 97) z (by decide)⟩
    have q2 : ((122 : Int32) < nI (g i)) = (122 < g i) := propext ⟨fun z => Nat.lt_of_not_le fun y => nI_nlt (a := 122) (b := g i) y (by decide) z, fun z => nI_lt (a := 122) z (by omega)⟩
    have q3 : (nI (g i) < (48 : Int32)) = (g i < 48) := propext ⟨fun z => Nat.lt_of_not_le fun y => nI_nlt (a := g i) (b := 48) y (by omega) z, fun z => nI_lt (b := 48) z (by decide)⟩
    have q4 : ((57 : Int32) < nI (g i)) = (57 < g i) := propext ⟨fun z => Nat.lt_of_not_le fun y => nI_nlt (a := 57) (b := g i) y (by decide) z, fun z => nI_lt (a := 57) z (by omega)⟩
    simp only [q1, q2, q3, q4]
    by_cases h1 : g i < 97
    · rw [if_pos h1, if_neg (show ¬ (97 ≤ g i ∧ g i ≤ 122) by omega)]
      by_cases h3 : g i < 48
      · rw [if_pos h3, if_neg (show ¬ (48 ≤ g i ∧ g i ≤ 57) by omega)]; rfl
      · rw [if_neg h3]
        by_cases h4 : 57 < g i
        · rw [if_pos h4, if_neg (show ¬ (48 ≤ g i ∧ g i ≤ 57) by omega)]; rfl
        · rw [if_neg h4, if_pos (show 48 ≤ g i ∧ g i ≤ 57 by omega)]; rfl
    · rw [if_neg h1]
      by_cases h2 : 122 < g i
      · rw [if_pos h2, if_neg (show ¬ (97 ≤ g i ∧ g i ≤ 122) by omega), if_neg (show ¬ g i < 48 by omega), if_pos (show 57 < g i by omega), if_neg (show ¬ (48 ≤ g i ∧ g i ≤ 57) by omega)]; rfl
      · rw [if_neg h2, if_pos (show 97 ≤ g i ∧ g i ≤ 122 by omega)]; rfl
  · rw [if_neg h, if_pos rfl, if_pos (show n ≤ i by omega)]; rfl
def tkF (P : Nat → Prop) (σ τ : QMem) : Prop := (∀ c, ¬ c = 109 → τ c = σ c) ∧ ∀ j, ¬ P j → τ 109 j = σ 109 j
theorem tkF.refl (P : Nat → Prop) (σ : QMem) : tkF P σ σ := ⟨fun _ _ => rfl, fun _ _ => rfl⟩
theorem tkF.trans {P : Nat → Prop} {σ τ ρ : QMem} (h1 : tkF P σ τ) (h2 : tkF P τ ρ) : tkF P σ ρ := ⟨fun c hc => (h2.1 c hc).trans (h1.1 c hc), fun j hj => (h2.2 j hj).trans (h1.2 j hj)⟩
theorem tkF.weaken {P Q : Nat → Prop} {σ τ : QMem} (h : tkF P σ τ) (hPQ : ∀ j, P j → Q j) : tkF Q σ τ := ⟨h.1, fun j hj => h.2 j fun p => hj (hPQ j p)⟩
theorem tkF_ms {P : Nat → Prop} (σ : QMem) {j : Nat} (v : Int32) (h : P j) : tkF P σ (ms σ 109 j v) := ⟨fun c hc => ms_cell σ hc _ _, fun i hi => by rw [ms_get, if_neg]; rintro ⟨-, rfl⟩; exact hi h⟩
theorem xTx_F {P : Nat → Prop} {σ τ : QMem} {n : Nat} {g : Nat → Nat} (h : xTx σ n g) (hs : tkF P σ τ) (h2 : ¬ P 2) : xTx τ n g := ⟨by rw [hs.2 2 h2]; exact h.1, by rw [hs.1 83 (by decide)]; exact h.2⟩
theorem c_skip {n : Nat} {g : Nat → Nat} (ho : gOk n g) : ∀ (m i v f : Nat) (σ : QMem), i + m = n → v + m ≤ 200 → m < f → σ 109 5 = nI i → xTx σ n g → ∃ τ, fX8_nextToken_L10 f (nI v) σ = fX8_nextToken_J46 τ ∧ τ 109 5 = nI (gs n g i) ∧ tkF (fun j => j = 5) σ τ := by
  have h200 := ho.1
  intro m
  induction m with
  | zero =>
    intro i v f σ hi hv hf h5 hx
    obtain ⟨f, rfl⟩ : ∃ k, f = k + 1 := ⟨f - 1, by omega⟩
    have hin : ¬ i < n := by omega
    rw [fX8_nextToken_L10, gs_stay (fun z => hin z.1)]
    by_cases e : v = 200
    · rw [if_pos (by rw [e]; decide)]
      exact ⟨σ, rfl, h5, tkF.refl _ _⟩
    · have c : ¬ (200 : Int32) ≤ nI v := nI_ge (b := 200) (by omega) (by decide)
      rw [if_neg c, h5, c_letter ho hx (by omega), Option.bind_some]
      simp only
      rw [if_neg hin, if_neg (by decide)]
      exact ⟨σ, rfl, h5, tkF.refl _ _⟩
  | succ m ih =>
    intro i v f σ hi hv hf h5 hx
    obtain ⟨f, rfl⟩ : ∃ k, f = k + 1 := ⟨f - 1, by omega⟩
    have hin : i < n := by omega
    have b := ho.2 i hin
    have c : ¬ (200 : Int32) ≤ nI v := nI_ge (b := 200) (by omega) (by decide)
    have q : (nI (g i) = (32 : Int32)) = (g i = 32) := propext (nI_eq (a := g i) (b := 32) (by omega) (by decide))
    rw [fX8_nextToken_L10, if_neg c, h5, c_letter ho hx (by omega), Option.bind_some]
    simp only
    rw [if_pos hin]
    simp only [q]
    by_cases h32 : g i = 32
    · rw [if_pos h32, h5, show nI i + 1 = nI (i + 1) from nI_1 i, show nI v + 1 = nI (v + 1) from nI_1 v, gs_step ⟨hin, h32⟩]
      have fr1 : tkF (fun j => j = 5) σ (ms σ 109 5 (nI (i + 1))) := tkF_ms σ _ rfl
      obtain ⟨τ, t1, t2, t3⟩ := ih (i + 1) (v + 1) f (ms σ 109 5 (nI (i + 1))) (by omega) (by omega) (by omega) (ms_same _ _ _ _) (xTx_F hx fr1 (by decide))
      exact ⟨τ, t1, t2, fr1.trans t3⟩
    · rw [if_neg h32, gs_stay (fun z => h32 z.2)]
      exact ⟨σ, rfl, h5, tkF.refl _ _⟩
theorem c_tend {n : Nat} {g : Nat → Nat} (ho : gOk n g) {k : Nat} (hk : 1 ≤ k ∧ k ≤ 2) : ∀ (m i v f : Nat) (σ : QMem), i + m = n → v + m ≤ 200 → m < f → σ 109 6 = nI i → σ 109 4 = nI k → xTx σ n g → ∃ τ, fX8_nextToken_L95 f (nI v) σ = some τ ∧ τ 109 6 = nI (gtk n g k m i) ∧ tkF (fun j => j = 6) σ τ := by
  have h200 := ho.1
  intro m
  induction m with
  | zero =>
    intro i v f σ hi hv hf h6 h4 hx
    obtain ⟨f, rfl⟩ : ∃ k, f = k + 1 := ⟨f - 1, by omega⟩
    rw [fX8_nextToken_L95]
    by_cases e : v = 200
    · rw [if_pos (by rw [e]; decide)]
      exact ⟨σ, rfl, h6, tkF.refl _ _⟩
    · have c : ¬ (200 : Int32) ≤ nI v := nI_ge (b := 200) (by omega) (by decide)
      have z : gk n g i = 0 := gk_0.mpr (by omega)
      rw [if_neg c, h6, c_kind ho hx (by omega), Option.bind_some]
      simp only
      have ne : ¬ nI 0 = nI k := fun e => by
        have := (nI_eq (a := 0) (b := k) (by decide) (by omega)).mp e
        omega
      rw [z, h4, if_neg ne]
      exact ⟨σ, rfl, h6, tkF.refl _ _⟩
  | succ m ih =>
    intro i v f σ hi hv hf h6 h4 hx
    obtain ⟨f, rfl⟩ : ∃ k, f = k + 1 := ⟨f - 1, by omega⟩
    have c : ¬ (200 : Int32) ≤ nI v := nI_ge (b := 200) (by omega) (by decide)
    have b := gk_3 n g i
    have q : (nI (gk n g i) = nI k) = (gk n g i = k) := propext (nI_eq (by omega) (by omega))
    rw [fX8_nextToken_L95, if_neg c, h6, c_kind ho hx (by omega), Option.bind_some]
    simp only
    rw [h4]
    simp only [q]
    unfold gtk
    by_cases e : gk n g i = k
    · rw [if_pos e, if_pos e, h6, show nI i + 1 = nI (i + 1) from nI_1 i, show nI v + 1 = nI (v + 1) from nI_1 v]
      have fr1 : tkF (fun j => j = 6) σ (ms σ 109 6 (nI (i + 1))) := tkF_ms σ _ rfl
      obtain ⟨τ, t1, t2, t3⟩ := ih (i + 1) (v + 1) f (ms σ 109 6 (nI (i + 1))) (by omega) (by omega) (by omega) (ms_same _ _ _ _) (by rw [fr1.2 4 (by decide)]; exact h4) (xTx_F hx fr1 (by decide))
      exact ⟨τ, t1, t2, fr1.trans t3⟩
    · rw [if_neg e, if_neg e]
      exact ⟨σ, rfl, h6, tkF.refl _ _⟩
def tk456 (j : Nat) : Prop := j = 4 ∨ j = 5 ∨ j = 6
/-- the token at s -/
def xTk (σ : QMem) (n : Nat) (g : Nat → Nat) (s : Nat) : Prop := σ 109 4 = nI (gk n g s) ∧ σ 109 5 = nI s ∧ σ 109 6 = nI (gte n g s)
theorem c_next {n : Nat} {g : Nat → Nat} (ho : gOk n g) {σ : QMem} (hx : xTx σ n g) {e : Nat} (he : e ≤ n) (h6 : σ 109 6 = nI e) : ∃ τ, fX8_nextToken σ = some τ ∧ xTk τ n g (gs n g e) ∧ tkF tk456 σ τ := by
  have h200 := ho.1
  unfold fX8_nextToken
  rw [h6]
  have f0 : tkF tk456 σ (ms σ 109 5 (nI e)) := tkF_ms σ _ (Or.inr (Or.inl rfl))
  have n2 : ¬ tk456 2 := by unfold tk456; decide
  obtain ⟨ρ, r1, r2, r3⟩ := c_skip ho (n - e) e 0 FU (ms σ 109 5 (nI e)) (by omega) (by omega) (by unfold FU; omega) (ms_same _ _ _ _) (xTx_F hx f0 n2)
  have f1 : tkF tk456 σ ρ := f0.trans (r3.weaken (fun j h => Or.inr (Or.inl h)))
  obtain ⟨b1, b2, b3⟩ := gs_b (g := g) he
  generalize gs n g e = s at r2 b1 b2 b3
  rw [show (0 : Int32) = nI 0 from rfl, r1]
  unfold fX8_nextToken_J46
  generalize hα : ms ρ 109 6 (ρ 109 5) = α
  have fα : tkF tk456 σ α := f1.trans (by rw [← hα]; exact tkF_ms ρ _ (Or.inr (Or.inr rfl)))
  have α5 : α 109 5 = nI s := by rw [← hα, ms_get, if_neg (by decide)]; exact r2
  have α6 : α 109 6 = nI s := by rw [← hα, ms_same]; exact r2
  have k3 := gk_3 n g s
  rw [α5, c_kind ho (xTx_F hx fα n2) (by omega), Option.bind_some]
  simp only
  generalize hβ : ms α 109 4 (nI (gk n g s)) = β
  have fβ : tkF tk456 σ β := fα.trans (by rw [← hβ]; exact tkF_ms α _ (Or.inl rfl))
  have β4 : β 109 4 = nI (gk n g s) := by rw [← hβ, ms_same]
  have β5 : β 109 5 = nI s := by rw [← hβ, ms_get, if_neg (by decide)]; exact α5
  have β6 : β 109 6 = nI s := by rw [← hβ, ms_get, if_neg (by decide)]; exact α6
  rw [β4]
  by_cases k0 : gk n g s = 0
  · have c : nI (gk n g s) = 0 := by rw [k0]; rfl
    rw [if_pos c]
    refine ⟨β, rfl, ⟨β4, β5, ?_⟩, fβ⟩
    unfold gte
    rw [if_pos k0]
    exact β6
  · have c : ¬ nI (gk n g s) = 0 := nI_ne0 (by omega) (by omega)
    rw [if_neg c, β6, show nI s + 1 = nI (s + 1) from nI_1 s]
    generalize hγ : ms β 109 6 (nI (s + 1)) = γ
    have fγ : tkF tk456 σ γ := fβ.trans (by rw [← hγ]; exact tkF_ms β _ (Or.inr (Or.inr rfl)))
    have γ4 : γ 109 4 = nI (gk n g s) := by rw [← hγ, ms_get, if_neg (by decide)]; exact β4
    have γ5 : γ 109 5 = nI s := by rw [← hγ, ms_get, if_neg (by decide)]; exact β5
    have γ6 : γ 109 6 = nI (s + 1) := by rw [← hγ, ms_same]
    have sn : s < n := Nat.lt_of_not_le fun z => k0 (gk_0.mpr z)
    rw [γ4]
    by_cases k3' : gk n g s = 3
    · have c3 : nI (gk n g s) = 3 := by rw [k3']; rfl
      rw [if_pos c3]
      refine ⟨γ, rfl, ⟨γ4, γ5, ?_⟩, fγ⟩
      unfold gte
      rw [if_neg k0, if_pos k3']
      exact γ6
    · have c3 : ¬ nI (gk n g s) = 3 := fun e => k3' ((nI_eq (a := gk n g s) (b := 3) (by omega) (by decide)).mp e)
      rw [if_neg c3]
      obtain ⟨τ, t1, t2, t3⟩ := c_tend ho (k := gk n g s) (by omega) (n - (s + 1)) (s + 1) 0 FU γ (by omega) (by omega) (by unfold FU; omega) γ6 γ4 (xTx_F hx fγ n2)
      refine ⟨τ, t1, ⟨by rw [t3.2 4 (by decide)]; exact γ4, by rw [t3.2 5 (by decide)]; exact γ5, ?_⟩, fγ.trans (t3.weaken (fun j h => Or.inr (Or.inr h)))⟩
      unfold gte
      rw [if_neg k0, if_neg k3']
      exact t2
