/-! PRIMES GATHERED, on both sides -/
set_option maxRecDepth 20000 in
theorem m_isPrime : ∀ p, p < 151 → fX12_isPrime (nI p) = some (bI (ipN p)) := by decide +kernel
def rp : Nat → Nat → Nat → Nat
  | 0, _, l => l
  | f + 1, p, l => if l % p = 0 then rp f p (l / p) else l
def cpL : Nat → Nat → Nat → List Nat
  | 0, _, _ => []
  | f + 1, p, l => if 150 < p then [] else if l ≤ 1 then [] else if l % p = 0 then p :: cpL f (p + 1) (rp 8 p l) else cpL f (p + 1) (rp 8 p l)
def prG : Nat → Nat → Nat → List Nat
  | 0, _, _ => []
  | m + 1, p, n => if n % p = 0 ∧ ipN p = true then p :: prG m (p + 1) n else prG m (p + 1) n
theorem cpL_ok : ∀ n, n < 151 → 0 < n → cpL 160 2 n = prL n := by decide +kernel
theorem prG_ok : ∀ n, n < 151 → 0 < n → prG (n - 1) 2 n = prL n := by decide +kernel
theorem rp_1 {p : Nat} (hp : 2 ≤ p) (f : Nat) : rp f p 1 = 1 := by
  cases f with
  | zero => rfl
  | succ f => unfold rp; rw [if_neg (by rw [Nat.mod_eq_of_lt (by omega)]; decide)]
theorem rp_pos {p : Nat} (hp : 2 ≤ p) : ∀ (f l : Nat), 0 < l → 0 < rp f p l ∧ rp f p l ≤ l := by
  intro f
  induction f with
  | zero => intro l h; exact ⟨h, Nat.le_refl _⟩
  | succ f ih =>
    intro l h
    unfold rp
    by_cases hm : l % p = 0
    · rw [if_pos hm]
      have h1 : 0 < l / p := Nat.div_pos (Nat.le_of_dvd h (Nat.dvd_of_mod_eq_zero hm)) (by omega)
      obtain ⟨a, b⟩ := ih (l / p) h1
      have := Nat.div_le_self l p
      exact ⟨a, by omega⟩
    · rw [if_neg hm]; exact ⟨h, Nat.le_refl _⟩
theorem nI_div {a b : Nat} (ha : a < 2000000) (hb : 0 < b ∧ b < 2000000) : nI a / nI b = nI (a / b) := by
  rw [qj_nat, qj_nat, qj_nat, qj_div (qR_of (by omega) (by omega)) (qR_of (by omega) (by omega)) (by omega), Int.tdiv_eq_ediv_of_nonneg (by omega)]
  rfl
theorem nI_dvd {a b : Nat} (ha : a < 2000000) (hb : 0 < b ∧ b < 2000000) : (nI a - nI a / nI b * nI b = 0) = (a % b = 0) := by
  rw [nI_div ha hb, nI_mulM, qj_nat, qj_nat, qj_sub]
  apply propext
  rw [← qj_0, qj_eq _ (qR_of (by decide) (by decide))]
  · have := Nat.div_add_mod a b
    rw [Nat.mul_comm] at this
    omega
  · have := Nat.div_mul_le_self a b
    exact qR_of (by omega) (by omega)
theorem c_inner {k0 k1 : Nat} {s : Int32} (K : Int32 → Int32 → QMem → Option QMem) {p : Nat} (hp : 2 ≤ p ∧ p < 1000) (τ : QMem) : ∀ (f i l n : Nat), f + i = 8 → f < n → l < 1000 → fX5_gather_L54 k0 k1 s K n (nI l) (nI p) (nI i) τ = K (nI (rp f p l)) (nI (p + 1)) τ := by
  intro f
  induction f with
  | zero =>
    intro i l n hi hn hl
    obtain ⟨n, rfl⟩ : ∃ m, n = m + 1 := ⟨n - 1, by omega⟩
    have : i = 8 := by omega
    subst this
    rw [fX5_gather_L54, if_pos (show (8 : Int32) ≤ nI 8 by decide)]
    unfold fX5_gather_J79
    rw [show nI p + 1 = nI (p + 1) from nI_1 p]
    rfl
  | succ f ih =>
    intro i l n hi hn hl
    obtain ⟨n, rfl⟩ : ∃ m, n = m + 1 := ⟨n - 1, by omega⟩
    have c8 : ¬ (8 : Int32) ≤ nI i := nI_ge (b := 8) (by omega) (by decide)
    have p0 : ¬ nI p = 0 := nI_ne0 (by omega) (by omega)
    rw [fX5_gather_L54, if_neg c8, if_neg p0, if_neg p0]
    simp only [nI_dvd (show l < 2000000 by omega) (show 0 < p ∧ p < 2000000 by omega)]
    unfold rp
    by_cases hm : l % p = 0
    · rw [if_pos hm, if_pos hm, nI_div (by omega) (by omega), show nI i + 1 = nI (i + 1) from nI_1 i]
      have := Nat.div_le_self l p
      exact ih (i + 1) (l / p) n (by omega) (by omega) (by omega)
    · rw [if_neg hm, if_neg hm]
      unfold fX5_gather_J79
      rw [show nI p + 1 = nI (p + 1) from nI_1 p]
def pgP (k0 : Nat) (c : Nat) : Prop := c = k0 - 27 ∨ c = k0 - 27 + 11 ∨ c = k0 - 39 ∨ c = 38 ∨ c = 39 ∨ (44 ≤ c ∧ c ≤ 46) ∨ c = 57 ∨ c = 68
theorem xl_rows {k0 : Nat} (hk : 86 ≤ k0 ∧ k0 < 95) : xl (k0 - 27 + 11) = 64 := by
  unfold xl
  rw [if_neg (by omega), if_neg (by omega), if_pos (by omega)]
theorem c_take {k0 k1 : Nat} (s : Int32) {q : ZQ} (hk : 86 ≤ k0 ∧ k0 < 95) (hk1 : ¬ pgP k0 k1) (vq : qV q) {H : List ZQ} (hH : ∀ x, x ∈ H → qV x) (h1000 : H.length < 1000) : ∀ (m i n : Nat) (σ : QMem) (L : List ZQ), i + m = H.length → m < n → xRw σ 57 H → xRw σ (k0 - 27) L → qAt σ k1 q → L.length + (zF (fun x => zD s x q) (H.drop i)).length ≤ 16 →
    ∃ τ, fX5_takeDivisors_L14 k0 k1 s n (nI H.length) (nI i) σ = some τ ∧ xRw τ (k0 - 27) (L ++ zF (fun x => zD s x q) (H.drop i)) ∧ qSame (pgP k0) σ τ := by
  have x64 := xl_rows hk
  unfold pgP at hk1
  intro m
  induction m with
  | zero =>
    intro i n σ L hi hn hR hL hq hl
    obtain ⟨n, rfl⟩ : ∃ m, n = m + 1 := ⟨n - 1, by omega⟩
    have : i = H.length := by omega
    subst this
    rw [fX5_takeDivisors_L14, if_pos (nI_le (Nat.le_refl _) (by omega)), List.drop_length]
    exact ⟨σ, rfl, by unfold zF; rw [List.filter_nil, List.append_nil]; exact hL, qSame.refl _ _⟩
  | succ m ih =>
    intro i n σ L hi hn hR hL hq hl
    obtain ⟨n, rfl⟩ : ∃ m, n = m + 1 := ⟨n - 1, by omega⟩
    have hiL : i < H.length := by omega
    have ci : ¬ nI H.length ≤ nI i := nI_ge hiL (by omega)
    have hx := hH _ (getD_mem hiL)
    have hdrop : H.drop i = H.getD i z0 :: H.drop (i + 1) := by
      rw [List.drop_eq_getElem_cons hiL]
      congr 1
      rw [List.getD_eq_getElem?_getD, List.getElem?_eq_getElem hiL, Option.getD_some]
    rw [fX5_takeDivisors_L14, if_neg ci, c_putRow hR (k0 - 39) hiL, Option.bind_some]
    generalize hxx : H.getD i z0 = x at hx hdrop
    have f1 : qSame (pgP k0) σ (qPut σ (k0 - 39) x) := qPut_sm _ (by unfold pgP; omega)
    obtain ⟨ρ, r1, r2⟩ := c_isDiv (k1 := k0 - 39) (k2 := k1) s (by unfold dtP; omega) (by unfold dtP; omega) (qPut_at σ (k0 - 39) x) (qAt_ne (k := k1) (k2 := k0 - 39) (by omega) hq) hx vq
    have f2 : qSame (pgP k0) σ ρ := f1.trans (r2.weaken (fun c h => by unfold dtP at h; unfold pgP; omega))
    have R2 : xRw ρ 57 H := xRw_same (xRw_same hR (qPut_same σ (k0 - 39) x) (by omega) (by omega)) r2 (by unfold dtP; omega) (by unfold dtP; omega)
    have L2 : xRw ρ (k0 - 27) L := xRw_same (xRw_same hL (qPut_same σ (k0 - 39) x) (by omega) (by omega)) r2 (by unfold dtP; omega) (by unfold dtP; omega)
    have q2 : qAt ρ k1 q := r2.at (by unfold dtP; omega) (qAt_ne (by omega) hq)
    rw [r1, Option.bind_some]
    simp only [bI_0]
    unfold fX5_takeDivisors_J87
    rw [show nI i + 1 = nI (i + 1) from nI_1 i]
    rw [hdrop] at hl ⊢
    cases hd : zDb s x q
    · have nd : ¬ zD s x q := fun z => by
        have := zDb_iff.mpr z
        rw [hd] at this
        exact absurd this (by decide)
      have e : zF (fun x => zD s x q) (x :: H.drop (i + 1)) = zF (fun x => zD s x q) (H.drop (i + 1)) := by unfold zF; rw [List.filter_cons, if_neg (by simpa using nd)]
      rw [e] at hl ⊢
      rw [if_pos rfl]
      obtain ⟨τ, t1, t2, t3⟩ := ih (i + 1) n ρ L (by omega) (by omega) R2 L2 q2 hl
      exact ⟨τ, t1, t2, f2.trans t3⟩
    · have yd : zD s x q := zDb_iff.mp hd
      have e : zF (fun x => zD s x q) (x :: H.drop (i + 1)) = x :: zF (fun x => zD s x q) (H.drop (i + 1)) := by unfold zF; rw [List.filter_cons, if_pos (by simpa using yd)]
      rw [e] at hl ⊢
      rw [List.length_cons] at hl
      rw [if_neg (by decide)]
      obtain ⟨w1, w2, w3, w4⟩ : qAt ρ (k0 - 39) x := r2.at (by unfold dtP; omega) (qPut_at _ _ _)
      rw [w1, w2, w3, w4]
      obtain ⟨π, p1, p2, p3⟩ := c_append L2 x.1 x.2.1 x.2.2.1 x.2.2.2 (show 4 * (L.length + 1) ≤ xl (k0 - 27 + 11) by rw [x64]; omega)
      rw [p1, Option.bind_some]
      have fp : qSame (pgP k0) ρ π := p3.weaken (fun c h => by unfold pgP; omega)
      obtain ⟨τ, t1, t2, t3⟩ := ih (i + 1) n π (L ++ [x]) (by omega) (by omega) (xRw_same R2 p3 (by omega) (by omega)) p2 (p3.at (by omega) q2) (by rw [List.length_append, List.length_singleton]; omega)
      refine ⟨τ, t1, ?_, (f2.trans fp).trans t3⟩
      rw [List.append_assoc] at t2
      exact t2
theorem zCl_qV {s : Int32} {p : Nat} (hp : p < 151) (h0 : 0 < p) : ∀ x, x ∈ zCl s p → qV x := by
  intro x hx
  obtain ⟨h1, h2, -⟩ := (zCl_mem (by omega) h0).mp hx
  exact qV_of h1 (by omega)
theorem zPl_cons (s : Int32) (q : ZQ) (p : Nat) (ps : List Nat) : zPl s q (p :: ps) = zF (fun x => zD s x q) (zCl s p) ++ zPl s q ps := by unfold zPl; rw [List.flatMap_cons]
theorem c_pg_loop {k0 k1 : Nat} (s : Int32) {q : ZQ} (hk : 86 ≤ k0 ∧ k0 < 95) (hk1 : ¬ pgP k0 k1) (vq : qV q) : ∀ (f p l n : Nat) (σ : QMem) (L : List ZQ), p + f = 162 → f < n → 2 ≤ p → 0 < l → l < 1000 → xRt σ → xRw σ (k0 - 27) L → qAt σ k1 q → L.length + (zPl s q (cpL f p l)).length ≤ 16 →
    ∃ τ, fX5_gather_L15 k0 k1 s n (nI l) (nI p) σ = some τ ∧ xRw τ (k0 - 27) (L ++ zPl s q (cpL f p l)) ∧ qSame (pgP k0) σ τ := by
  have hk1' := hk1
  unfold pgP at hk1'
  intro f
  induction f with
  | zero =>
    intro p l n σ L hp hn h2 hl0 hl hR hL hq hlen
    obtain ⟨n, rfl⟩ : ∃ m, n = m + 1 := ⟨n - 1, by omega⟩
    rw [fX5_gather_L15, if_pos (show (150 : Int32) < nI p from nI_lt (a := 150) (by omega) (by omega))]
    exact ⟨σ, rfl, by unfold cpL zPl; rw [List.flatMap_nil, List.append_nil]; exact hL, qSame.refl _ _⟩
  | succ f ih =>
    intro p l n σ L hp hn h2 hl0 hl hR hL hq hlen
    obtain ⟨n, rfl⟩ : ∃ m, n = m + 1 := ⟨n - 1, by omega⟩
    rw [fX5_gather_L15]
    have unf : cpL (f + 1) p l = if 150 < p then [] else if l ≤ 1 then [] else if l % p = 0 then p :: cpL f (p + 1) (rp 8 p l) else cpL f (p + 1) (rp 8 p l) := rfl
    rw [unf] at hlen ⊢
    by_cases hp150 : 150 < p
    · rw [if_pos (show (150 : Int32) < nI p from nI_lt (a := 150) hp150 (by omega)), if_pos hp150]
      exact ⟨σ, rfl, by unfold zPl; rw [List.flatMap_nil, List.append_nil]; exact hL, qSame.refl _ _⟩
    rw [if_neg (show ¬ (150 : Int32) < nI p from nI_nlt (a := 150) (by omega) (by decide)), if_neg hp150]
    rw [if_neg hp150] at hlen
    by_cases hl1 : l ≤ 1
    · rw [if_pos (show nI l ≤ 1 from nI_le (b := 1) hl1 (by decide)), if_pos hl1]
      exact ⟨σ, rfl, by unfold zPl; rw [List.flatMap_nil, List.append_nil]; exact hL, qSame.refl _ _⟩
    rw [if_neg (show ¬ nI l ≤ 1 from nI_ge (a := 1) (by omega) (by omega)), if_neg hl1, if_neg (nI_ne0 (n := p) (by omega) (by omega))]
    rw [if_neg hl1] at hlen
    simp only [nI_dvd (show l < 2000000 by omega) (show 0 < p ∧ p < 2000000 by omega)]
    obtain ⟨rp1, rp2⟩ := rp_pos h2 8 l hl0
    unfold fX5_gather_J51
    by_cases hm : l % p = 0
    · rw [if_pos hm, if_pos hm, zPl_cons]
      rw [if_pos hm, zPl_cons, List.length_append] at hlen
      obtain ⟨ρ, r1, r2, r3⟩ := c_gather s (n := p) (by omega) (by omega) hR
      have fr3 : qSame (pgP k0) σ ρ := r3.weaken (fun c h => by unfold hgP at h; unfold pgP; omega)
      rw [r1, Option.bind_some]
      have Lρ : xRw ρ (k0 - 27) L := xRw_same hL r3 (by unfold hgP; omega) (by unfold hgP; omega)
      have qρ : qAt ρ k1 q := r3.at (by unfold hgP; omega) hq
      obtain ⟨π, p1, p2, p3⟩ := c_take s hk hk1 vq (zCl_qV (s := s) (p := p) (by omega) (by omega)) (by have := zCl_240 (s := s) (n := p) (by omega) (by omega); omega) (zCl s p).length 0 FU ρ L (by omega) (by have := zCl_240 (s := s) (n := p) (by omega) (by omega); unfold FU; omega) r2 Lρ qρ (by rw [List.drop_zero]; omega)
      rw [List.drop_zero] at p2
      unfold fX5_takeDivisors
      rw [c_size r2, Option.bind_some]
      simp only
      rw [show (0 : Int32) = nI 0 from rfl, p1, Option.bind_some, c_inner _ (by omega) π 8 0 l FU rfl (by unfold FU; omega) (by omega)]
      have fp := fr3.trans p3
      obtain ⟨τ, t1, t2, t3⟩ := ih (p + 1) (rp 8 p l) n π _ (by omega) (by omega) (by omega) rp1 (by omega) (xRt_same hR fp (by unfold pgP; omega)) p2 (fp.at hk1 hq) (by rw [List.length_append]; omega)
      refine ⟨τ, t1, ?_, fp.trans t3⟩
      rw [List.append_assoc] at t2
      exact t2
    · rw [if_neg hm, if_neg hm, show (0 : Int32) = nI 0 from rfl, c_inner _ (by omega) σ 8 0 l FU rfl (by unfold FU; omega) (by omega)]
      rw [if_neg hm] at hlen
      exact ih (p + 1) (rp 8 p l) n σ L (by omega) (by omega) (by omega) rp1 (by omega) hR hL hq hlen
theorem c_pg {σ : QMem} {k0 k1 : Nat} (s : Int32) {q : ZQ} {n : Nat} (hk : 86 ≤ k0 ∧ k0 < 95) (hk1 : ¬ pgP k0 k1) (vq : qV q) (hn : zN q = n) (h0 : 0 < n) (hR : xRt σ) (hq : qAt σ k1 q) :
    ∃ τ, fX5_gather k0 k1 s σ = some τ ∧ xRw τ (k0 - 27) (zPl s q (prL n)) ∧ qSame (pgP k0) σ τ := by
  have h150 := qV_N vq
  obtain ⟨ρ, r1, r2, r3⟩ := c_clear (k0 - 27) σ
  have fr3 : qSame (pgP k0) σ ρ := r3.weaken (fun c h => by unfold pgP; omega)
  have qρ : qAt ρ k1 q := fr3.at hk1 hq
  have len := zPl_len (s := s) hn h0 (by omega)
  obtain ⟨τ, t1, t2, t3⟩ := c_pg_loop s hk hk1 vq 160 2 n FU ρ [] rfl (by unfold FU; omega) (by decide) h0 (by omega) (xRt_same hR fr3 (by unfold pgP; omega)) r2 qρ (by rw [cpL_ok n (by omega) h0, List.length_nil]; omega)
  rw [cpL_ok n (by omega) h0, List.nil_append] at t2
  unfold fX5_gather
  rw [r1, Option.bind_some, c_norm qρ (Int.le_trans vq.2 (by decide)), Option.bind_some, hn, ← qj_nat]
  exact ⟨τ, t1, t2, fr3.trans t3⟩
/-! the reference -/
theorem zF_dh {s : Int32} {q t1 : ZQ} {p : Nat} (hp : p ≤ 150) (h0 : 0 < p) : zF (gP s true 1 q t1) (zAll p) = zF (fun x => zD s x q) (zCl s p) := by
  refine fall_ext _ _ (zF_pw (zAll_pw p)) (zF_pw (zCl_pw hp)) (fun x => ?_)
  rw [zF_mem, zF_mem, zAll_mem, zCl_mem hp h0]
  unfold gP
  constructor
  · rintro ⟨⟨h1, h2⟩, h3, -, h5⟩
    exact ⟨⟨h1, h2, h5 rfl⟩, h3 (by decide)⟩
  · rintro ⟨⟨h1, h2, h3⟩, h4⟩
    exact ⟨⟨h1, h2⟩, fun _ => h4, fun z => by omega, fun _ => h3⟩
theorem m_pr_loop {s : Nat} (sd p3 p4 : Int32) {q : ZQ} {nn : Nat} (hs : s < 6) (vq : qV q) (hn : zN q = nn) (h150 : nn < 151) : ∀ (m p n : Nat) (μ : QMem) (L : List ZQ), p + m = nn + 1 → m < n → 2 ≤ p → gI0 μ 1 q z0 → mFd μ L → mAt μ 13 (4 * s) q → L.length + (zPl sd q (prG m p nn)).length ≤ 16 →
    ∃ τ, fX12_prime_L76 (nI s) sd p3 p4 n (nI p) μ = ((fX12_tells p3 p4 τ).bind fun xq4 => (some (xq4.1, xq4.2))) ∧ mFd τ (L ++ zPl sd q (prG m p nn)) ∧ fr gaP μ τ := by
  intro m
  induction m with
  | zero =>
    intro p n μ L hp hn' h2 hI hF hq hl
    obtain ⟨n, rfl⟩ : ∃ m, n = m + 1 := ⟨n - 1, by omega⟩
    have nrm : fX12_norm (nI s) μ = some (nI nn, μ) := by
      unfold fX12_norm
      rw [nI_mul4, m_norm hq (show 4 * s + 3 < ml 13 by rw [ml13']; omega) (Int.le_trans vq.2 (by decide)), hn, ← qj_nat]
      rfl
    rw [fX12_prime_L76, nrm, Option.bind_some]
    simp only
    rw [if_pos (nI_lt (show nn < p by omega) (by omega))]
    exact ⟨μ, rfl, by unfold prG zPl; rw [List.flatMap_nil, List.append_nil]; exact hF, fr.refl _ _⟩
  | succ m ih =>
    intro p n μ L hp hn' h2 hI hF hq hl
    obtain ⟨n, rfl⟩ : ∃ m, n = m + 1 := ⟨n - 1, by omega⟩
    have nrm : fX12_norm (nI s) μ = some (nI nn, μ) := by
      unfold fX12_norm
      rw [nI_mul4, m_norm hq (show 4 * s + 3 < ml 13 by rw [ml13']; omega) (Int.le_trans vq.2 (by decide)), hn, ← qj_nat]
      rfl
    have p0 : ¬ nI p = 0 := nI_ne0 (by omega) (by omega)
    have unf : prG (m + 1) p nn = if nn % p = 0 ∧ ipN p = true then p :: prG m (p + 1) nn else prG m (p + 1) nn := rfl
    rw [unf] at hl ⊢
    rw [fX12_prime_L76, nrm, Option.bind_some]
    simp only
    rw [if_neg (nI_nlt (show p ≤ nn by omega) (by omega)), nrm, Option.bind_some]
    simp only
    rw [if_neg p0]
    simp only [nI_dvd (show nn < 2000000 by omega) (show 0 < p ∧ p < 2000000 by omega)]
    unfold fX12_prime_J117
    rw [show nI p + 1 = nI (p + 1) from nI_1 p]
    by_cases hm : nn % p = 0
    · rw [if_pos hm, m_isPrime p (by omega), Option.bind_some]
      simp only [bI_0]
      by_cases hi : ipN p = true
      · have pp : nn % p = 0 ∧ ipN p = true := ⟨hm, hi⟩
        have nf : ¬ ipN p = false := by rw [hi]; decide
        rw [if_pos pp, zPl_cons, List.length_append] at hl
        rw [if_pos pp, zPl_cons, if_neg nf]
        obtain ⟨ρ, r1, r2, r3⟩ := m_gathers sd true (tg := 1) (most := 600) (nn := p) (by decide) (by omega) (by omega) hI hF (by omega)
        rw [zF_dh (by omega) (by omega), List.take_of_length_le (by omega)] at r2
        rw [show (1 : Int32) = bI true from rfl, show fX12_gathers (nI p) sd (bI true) (bI true) 600 μ = some ρ from r1, Option.bind_some]
        obtain ⟨τ, t1, t2, t3⟩ := ih (p + 1) n ρ _ (by omega) (by omega) (by omega) (gI0_fr hI r3) r2 (r3.at (by unfold gaP; decide) (by decide) hq) (by rw [List.length_append]; omega)
        refine ⟨τ, t1, ?_, r3.trans t3⟩
        rw [List.append_assoc] at t2
        exact t2
      · have pp : ¬ (nn % p = 0 ∧ ipN p = true) := fun z => hi z.2
        have nf : ipN p = false := by cases h : ipN p; rfl; exact absurd h hi
        rw [if_neg pp] at hl
        rw [if_neg pp, if_pos nf]
        exact ih (p + 1) n μ L (by omega) (by omega) (by omega) hI hF hq hl
    · have pp : ¬ (nn % p = 0 ∧ ipN p = true) := fun z => hm z.1
      rw [if_neg pp] at hl
      rw [if_neg pp, if_neg hm]
      exact ih (p + 1) n μ L (by omega) (by omega) (by omega) hI hF hq hl
theorem ag_prime (σ μ : QMem) (a1 a2 a3 a4 : Int32) (h : RR σ μ) : ∃ (r : Int32) (σ2 μ2 : QMem), fX11_prime a1 a2 a3 a4 σ = some (r, σ2) ∧ fX12_prime a1 a2 a3 a4 μ = some (r, μ2) ∧ RR σ2 μ2 := by
  unfold fX11_prime fX12_prime
  rcases slot_cases a1 with ⟨e1, e2⟩ | ⟨s, hs, rfl, e1, e2⟩
  · rw [e1, e2, Option.bind_some, Option.bind_some, if_pos rfl, if_pos rfl]; exact ag_same h _
  rw [e1, e2, Option.bind_some, Option.bind_some, if_neg i10, if_neg i10]
  rcases side_cases a2 with ⟨e5, e6⟩ | ⟨-, e5, e6⟩
  · rw [e5, e6, Option.bind_some, Option.bind_some, if_pos rfl, if_pos rfl]; exact ag_same h _
  rw [e5, e6, Option.bind_some, Option.bind_some, if_neg i10, if_neg i10]
  have body : (a3 = -1 ∨ (0 ≤ a3.toInt ∧ ∃ j, j < 4 ∧ a4 = nI j)) → ∃ (r : Int32) (σ2 μ2 : QMem), fX11_prime_J39 (nI s) a2 a3 a4 σ = some (r, σ2) ∧ fX12_prime_J41 (nI s) a2 a3 a4 μ = some (r, μ2) ∧ RR σ2 μ2 := by
    intro hp
    obtain ⟨S, hS⟩ := h
    obtain ⟨v, q, mq⟩ := hS.1 s hs
    obtain ⟨hU, hR, hx⟩ := hS.2.2.2.2.2.2
    have os : 4 * s + 3 < ml 13 := by rw [ml13']; omega
    unfold fX11_prime_J39 fX12_prime_J41
    rw [if_neg (gs6 hs), es6 hs, c_zero q (qV_S v), m_empty hs v mq, Option.bind_some, Option.bind_some]
    simp only [bI_0]
    by_cases h0 : S s = z0
    · have tf : ¬ (true = false) := by decide
      rw [decide_eq_true h0, if_neg tf, if_neg tf]
      exact ag_same ⟨S, hS⟩ _
    · rw [decide_eq_false h0, if_pos rfl, if_pos rfl, if_neg (gs6 hs)]
      obtain ⟨nn, hnn⟩ : ∃ nn : Nat, zN (S s) = nn := ⟨(zN (S s)).toNat, by have := zN_nn (S s); omega⟩
      have hpos := zN_pos v.1 h0
      have h150 := qV_N v
      obtain ⟨τ, t1, t2, t3⟩ := c_pg a2 (k0 := 86) (k1 := s) (by decide) (by unfold pgP; omega) v hnn (by omega) hx q
      obtain ⟨y1, y2⟩ := m_many0 (mPut μ 7 0 (S s))
      generalize hν : ms (mPut μ 7 0 (S s)) 28 6 0 = ν at y1 y2
      have f7 : fr (fun c => c = 7) μ ν := ((fq_put (P := fun c => c = 7) (k := 7) 0 _ rfl).fr (by decide)).trans (y2.weaken (fun c hc => hc.elim))
      have hI : gI0 ν 1 (S s) z0 := ⟨mUn_fr hU f7 (by decide), ⟨by decide, fun _ => ⟨y2.at (fun z => z) (by decide) (mPut_at _ _ _ _), v⟩, fun z => by omega⟩, mRt_fr hR f7 (by decide)⟩
      have len := zPl_len (s := a2) hnn (by omega) (by omega)
      have e2' : prG (nn - 1) 2 nn = prL nn := prG_ok nn (by omega) (by omega)
      obtain ⟨π, p1, p2, p3⟩ := m_pr_loop a2 a3 a4 hs v hnn (by omega) (nn - 1) 2 FU ν [] (by omega) (by unfold FU; omega) (by decide) hI y1 (f7.at (by decide) (by decide) mq) (by rw [e2', List.length_nil]; omega)
      rw [e2', List.nil_append] at p2
      obtain ⟨r, r1, r2⟩ := tell_ok t2 p2 (by omega) a3 a4 hp
      rw [t1, Option.bind_some, nI_mul4, show (0 : Int32) = nI 0 from rfl, m_copies mq os (show 0 + 3 < ml 7 by decide) (Or.inl (by decide)), Option.bind_some, show nI 0 = 0 from rfl, hν, show fX12_prime_L76 (nI s) a2 a3 a4 FU 2 ν = _ from p1]
      refine ⟨r, τ, π, ?_, r2, ⟨S, RRS_keep hS (t3.sX (fun c hc => by unfold pgP at hc; unfold eX; omega)) ((f7.sM (fun c hc => by unfold eM; omega)).trans (p3.sM (fun c hc => by unfold gaP at hc; unfold eM; omega)))⟩⟩
      exact r1
  by_cases g1 : a3 < -1
  · rw [if_pos g1, if_pos g1]; exact ag_same h _
  rw [if_neg g1, if_neg g1]
  by_cases g2 : a3 < 0
  · rw [if_pos g2, if_pos g2]
    apply body
    left
    rw [← Int32.toInt_inj]
    rw [Int32.lt_iff_toInt_lt] at g1 g2
    have e1 : (-1 : Int32).toInt = -1 := by decide
    have e2 : (0 : Int32).toInt = 0 := by decide
    omega
  · rw [if_neg g2, if_neg g2]
    rcases part_cases a4 with ⟨e7, e8⟩ | ⟨j, hj, rfl, e7, e8⟩
    · rw [e7, e8, Option.bind_some, Option.bind_some, if_pos rfl, if_pos rfl]; exact ag_same h _
    · rw [e7, e8, Option.bind_some, Option.bind_some, if_neg i10, if_neg i10]
      apply body
      right
      rw [Int32.lt_iff_toInt_lt] at g2
      have e2 : (0 : Int32).toInt = 0 := by decide
      exact ⟨by omega, j, hj, rfl⟩
