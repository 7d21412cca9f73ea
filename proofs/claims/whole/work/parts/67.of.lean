/-! the call of -/
theorem Fl_last {q : ZQ} {n : Nat} (lq : zL q) (hn : zN q = n) (h0 : 0 < n) (h150 : n < 151) : 0 < (Fl q n n).length ∧ zT ((Fl q n n).getD ((Fl q n n).length - 1) z0) = zT q := by
  have hA := zHead_A (s := 0) lq
  have hN := hA.N lq
  have hm : zHead 0 q ∈ Fl q n n := (Fl_mem (by omega)).mpr ⟨zHead_L lq, zHead_Hd lq, (hA.symm lq).D, n, by rw [hN, hn], by omega, Nat.le_refl n, Nat.mod_self n⟩
  obtain ⟨j, hj, ej⟩ := List.mem_iff_getElem.mp hm
  have hpos : 0 < (Fl q n n).length := by omega
  refine ⟨hpos, ?_⟩
  have hlast : (Fl q n n).length - 1 < (Fl q n n).length := by omega
  have hx := getD_mem hlast
  have eg : (Fl q n n).getD ((Fl q n n).length - 1) z0 = (Fl q n n)[(Fl q n n).length - 1] := by
    rw [List.getD_eq_getElem?_getD, List.getElem?_eq_getElem hlast, Option.getD_some]
  have le : zN (zHead 0 q) ≤ zN ((Fl q n n).getD ((Fl q n n).length - 1) z0) := by
    rw [eg]
    rcases Nat.lt_or_eq_of_le (show j ≤ (Fl q n n).length - 1 by omega) with z | z
    · have := List.pairwise_iff_getElem.mp (Fl_pw (q := q) (n := n) (m := n) (by omega)).1 j ((Fl q n n).length - 1) hj hlast z
      rw [ej] at this
      exact this
    · subst z
      rw [ej]
      exact Int.le_refl _
  generalize (Fl q n n).getD ((Fl q n n).length - 1) z0 = x at hx le
  obtain ⟨x1, x2, x3, k, x4, x5, x6, x7⟩ := (Fl_mem (by omega)).mp hx
  have x0 : x ≠ z0 := fun e => by rw [e, zN_z0] at x4; omega
  exact zT_mate x1 (x3.A x1 x0 (by omega))
theorem m_l60 {M : Nat} (p1 : Int32) (K : Int32 → Int32 → QMem → Option (Int32 × QMem)) (v2 v3 : Int32) (hM : M ≤ 600) : ∀ (m j f : Nat) (μ : QMem), j + m = M → m < f → μ 28 6 = nI M →
    ∃ τ, fX12_chainsOf_L60 p1 K f v2 v3 (nI j) μ = K v2 (v3 + 1) τ ∧ (∀ i, τ 17 i = if j ≤ i ∧ i < M then v3 else μ 17 i) ∧ fq (fun c => c = 17) μ τ := by
  have m17 : ml 17 = 600 := rfl
  intro m
  induction m with
  | zero =>
    intro j f μ hj hf h28
    obtain ⟨f, rfl⟩ : ∃ m, f = m + 1 := ⟨f - 1, by omega⟩
    rw [fX12_chainsOf_L60, h28, if_pos (nI_le (by omega) (by omega))]
    exact ⟨μ, rfl, fun i => by rw [if_neg (by omega)], fq.refl _ _⟩
  | succ m ih =>
    intro j f μ hj hf h28
    obtain ⟨f, rfl⟩ : ∃ m, f = m + 1 := ⟨f - 1, by omega⟩
    have kk : (nI j).toNatClampNeg = j := nI_clamp (by omega)
    obtain ⟨τ, t1, t2, t3⟩ := ih (j + 1) f (ms μ 17 j v3) (by omega) (by omega) (by rw [ms_cell _ (by decide)]; exact h28)
    rw [fX12_chainsOf_L60, h28, if_neg (nI_ge (show j < M by omega) (by omega)), if_neg (nI_in (by rw [m17]; omega) (by decide)), kk, show nI j + 1 = nI (j + 1) from nI_1 j, t1]
    refine ⟨τ, rfl, fun i => ?_, fun c hc => ?_⟩
    · rw [t2 i, ms_get]
      by_cases e : i = j
      · subst e
        rw [if_neg (by omega), if_pos ⟨rfl, rfl⟩, if_pos ⟨Nat.le_refl _, by omega⟩]
      · by_cases e2 : j + 1 ≤ i ∧ i < M
        · rw [if_pos e2, if_pos ⟨by omega, e2.2⟩]
        · rw [if_neg e2, if_neg (by omega), if_neg (by omega)]
    · rw [t3 c hc, ms_cell _ hc]
def cnP (c : Nat) : Prop := (2 ≤ c ∧ c ≤ 7) ∨ (17 ≤ c ∧ c ≤ 20)
theorem m_l28 {q : ZQ} {n : Nat} (p1 : Int32) (lq : zL q) (hn : zN q = n) (h0 : 0 < n) (h150 : n < 151) : ∀ (m d f : Nat) (μ : QMem), d + m = n → m + 1 < f → gI0 μ 1 q z0 → mFd μ (Fl q n d) → (∀ i, i < (Fl q n d).length → μ 17 i = qj (zN ((Fl q n d).getD i z0))) →
    ∃ τ, fX12_chainsOf_L28 p1 f (nI n) (nI (d + 1)) μ = some (nI (zT q), τ) ∧ fr cnP μ τ := by
  intro m
  induction m with
  | zero =>
    intro d f μ hd hf hI h5 h17
    obtain ⟨f, rfl⟩ : ∃ m, f = m + 1 := ⟨f - 1, by omega⟩
    have : d = n := by omega
    subst this
    obtain ⟨p, e⟩ := Fl_last lq hn h0 h150
    have hl := Fl_600 (q := q) h150 (Nat.le_refl d)
    obtain ⟨τ, t1, t2⟩ := m_lcs (q := q) p1 h150 p (Fl q d d).length 0 FU μ (by omega) (by unfold FU; omega) h5 h17 (fun i hi => by omega)
    rw [e] at t1
    rw [fX12_chainsOf_L28, if_pos (nI_lt (show d < d + 1 by omega) (by omega))]
    exact ⟨τ, t1, (t2.weaken (Q := cnP) (fun c hc => by unfold cnP; omega)).fr (by unfold cnP; decide)⟩
  | succ m ih =>
    intro d f μ hd hf hI h5 h17
    obtain ⟨f, rfl⟩ : ∃ m, f = m + 1 := ⟨f - 1, by omega⟩
    have d0 : ¬ nI (d + 1) = 0 := nI_ne0 (by omega) (by omega)
    have unf : Fl q n (d + 1) = Fl q n d ++ (if n % (d + 1) = 0 then zF (fun x => zD 0 x q) (zCl 0 (d + 1)) else []) := rfl
    have hl := Fl_600 (q := q) h150 (show d + 1 ≤ n by omega)
    have tail : ∀ (ρ : QMem), fr gaP μ ρ → mFd ρ (Fl q n (d + 1)) → (∀ i, i < (Fl q n d).length → (Fl q n (d + 1)).getD i z0 = (Fl q n d).getD i z0) → (∀ i, (Fl q n d).length ≤ i → i < (Fl q n (d + 1)).length → zN ((Fl q n (d + 1)).getD i z0) = ((d + 1 : Nat) : Int)) → (Fl q n d).length ≤ (Fl q n (d + 1)).length →
        ∃ τ, fX12_chainsOf_J56 p1 (fX12_chainsOf_L28 p1 f) (nI n) (nI (d + 1)) (nI (Fl q n d).length) ρ = some (nI (zT q), τ) ∧ fr cnP μ τ := by
      intro ρ r1 r2 r3 r4 r5
      unfold fX12_chainsOf_J56
      obtain ⟨ω, w1, w2, w3⟩ := m_l60 (M := (Fl q n (d + 1)).length) p1 (fX12_chainsOf_L28 p1 f) (nI n) (nI (d + 1)) hl ((Fl q n (d + 1)).length - (Fl q n d).length) (Fl q n d).length FU ρ (by omega) (by unfold FU; omega) r2.1
      have g7 : gI0 ρ 1 q z0 := gI0_fr hI r1
      have f17 : fr (fun c => c = 17) ρ ω := w3.fr (by decide)
      have gω : gI0 ω 1 q z0 := ⟨mUn_fr g7.1 f17 (by decide), mTg_fr g7.2.1 f17 (by decide), mRt_fr g7.2.2 f17 (by decide)⟩
      obtain ⟨τ, t1, t2⟩ := ih (d + 1) f ω (by omega) (by omega) gω ⟨by rw [w3 28 (by decide)]; exact r2.1, r2.2.1, by rw [w3 5 (by decide)]; exact r2.2.2⟩ (fun i hi => by
        rw [w2 i]
        by_cases e : (Fl q n d).length ≤ i
        · rw [if_pos ⟨e, hi⟩, r4 i e hi]; exact qj_nat _
        · rw [if_neg (by omega), r3 i (by omega), r1.1 17 (by unfold gaP; omega) (by decide)]
          exact h17 i (by omega))
      rw [w1, show nI (d + 1) + 1 = nI (d + 1 + 1) from nI_1 (d + 1), t1]
      exact ⟨τ, rfl, ((r1.weaken (fun c hc => by unfold gaP at hc; unfold cnP; omega)).trans (f17.weaken (fun c hc => by unfold cnP; omega))).trans t2⟩
    rw [fX12_chainsOf_L28, if_neg (nI_nlt (show d + 1 ≤ n by omega) (by omega)), if_neg d0]
    simp only [nI_dvd (show n < 2000000 by omega) (show 0 < d + 1 ∧ d + 1 < 2000000 by omega)]
    by_cases hm : n % (d + 1) = 0
    · rw [if_pos hm] at unf
      have lenE : (Fl q n (d + 1)).length = (Fl q n d).length + (zF (fun x => zD 0 x q) (zCl 0 (d + 1))).length := by rw [unf, List.length_append]
      obtain ⟨ρ, r1, r2, r3⟩ := m_gathers 0 true (tg := 1) (most := 600) (nn := d + 1) (by decide) (by omega) (by omega) hI h5 h5.2.1
      rw [zF_dh (by omega) (by omega), List.take_of_length_le (by omega), ← unf] at r2
      rw [if_pos hm, show fX12_gathers (nI (d + 1)) 0 1 1 600 μ = some ρ from r1, Option.bind_some, h5.1]
      refine tail ρ r3 r2 (fun i hi => ?_) (fun i hi1 hi2 => ?_) (by omega)
      · rw [unf]; exact getD_app1 hi
      · rw [unf, List.getD_eq_getElem?_getD, List.getElem?_append_right hi1, ← List.getD_eq_getElem?_getD]
        have mem := getD_mem (L := zF (fun x => zD 0 x q) (zCl 0 (d + 1))) (i := i - (Fl q n d).length) (by omega)
        rw [zF_mem, zCl_mem (by omega) (by omega)] at mem
        exact mem.1.2.1
    · rw [if_neg hm, List.append_nil] at unf
      rw [if_neg hm, h5.1]
      refine tail μ (fr.refl _ _) (by rw [unf]; exact h5) (fun i hi => by rw [unf]) (fun i hi1 hi2 => ?_) (by rw [unf]; exact Nat.le_refl _)
      rw [unf] at hi2
      omega
theorem m_chains {s : Nat} {q : ZQ} {n : Nat} (hs : s < 6) (vq : qV q) (hn : zN q = n) (h0 : 0 < n) {μ : QMem} (hU : mUn μ) (hR : mRt μ) (mq : mAt μ 13 (4 * s) q) :
    ∃ τ, fX12_chainsOf (nI s) μ = some (nI (zBc q), τ) ∧ fr cnP μ τ := by
  have h150 := qV_N vq
  have os : 4 * s + 3 < ml 13 := by rw [ml13']; omega
  obtain ⟨y1, y2⟩ := m_many0 (mPut μ 7 0 q)
  generalize hν : ms (mPut μ 7 0 q) 28 6 0 = ν at y1 y2
  have f7 : fr (fun c => c = 7) μ ν := ((fq_put (P := fun c => c = 7) (k := 7) 0 _ rfl).fr (by decide)).trans (y2.weaken (fun c hc => hc.elim))
  have hI : gI0 ν 1 q z0 := ⟨mUn_fr hU f7 (by decide), ⟨by decide, fun _ => ⟨y2.at (fun z => z) (by decide) (mPut_at _ _ _ _), vq⟩, fun z => by omega⟩, mRt_fr hR f7 (by decide)⟩
  have nq : mAt ν 13 (4 * s) q := f7.at (by decide) (by decide) mq
  obtain ⟨τ, t1, t2⟩ := m_l28 (nI s) vq.1 hn h0 (by omega) n 0 FU ν (by omega) (by unfold FU; omega) hI y1 (fun i hi => absurd hi (by show ¬ i < ([] : List ZQ).length; simp))
  rw [zT_B n q vq.1 hn (by omega) (by omega)] at t1
  unfold fX12_chainsOf
  rw [nI_mul4, show (0 : Int32) = nI 0 from rfl, m_copies mq os (show 0 + 3 < ml 7 by decide) (Or.inl (by decide)), Option.bind_some, show nI 0 = 0 from rfl, hν]
  unfold fX12_norm
  rw [nI_mul4, m_norm nq os (Int.le_trans vq.2 (by decide)), hn, ← qj_nat, Option.bind_some, Option.bind_some]
  simp only
  rw [show (1 : Int32) = nI (0 + 1) from rfl, t1]
  exact ⟨τ, rfl, (f7.weaken (fun c hc => by unfold cnP; omega)).trans t2⟩
