/-! PURE: things laid in an order -/
def UL (M : MD) : Nat := bs (mC M) (mT M)
def NL (M : MD) : Nat := mT M - cnt (UL M).testBit (mT M)
def lo (M : MD) (p : Nat) : Bool := !mC M (mL M p)
def lc (M : MD) (p : Nat) : Nat := cnt (lo M) p
def uc (M : MD) (j : Nat) : Nat := cnt (fun j => !mC M j) j
def laK (M : MD) (k p : Nat) : Nat := if mC M (mL M p) then mL M p else kF (NL M) (UL M) k (lc M p)
theorem UL_bit {M : MD} (hW : WF M) (j : Nat) : (UL M).testBit j = mC M j := by
  unfold UL
  rw [bs_bit]
  by_cases z : j < mT M
  · simp [z]
  · rw [hW.2.2.2.2.2.2.1 j (by omega)]; simp
theorem UL_lt (M : MD) : UL M < 2 ^ mT M := bs_lt _ _
theorem UL_64 {M : MD} (hW : WF M) : UL M < 64 := by
  have h5 := hW.1.r5
  have := Nat.pow_le_pow_right (n := 2) (by omega) h5.2.1
  have := UL_lt M
  omega
theorem NL_u {M : MD} (hW : WF M) : uc M (mT M) = NL M := by
  unfold NL uc
  have h := cnt_not (mC M) (mT M)
  rw [cnt_cong (p := (UL M).testBit) (q := mC M) (fun k _ => UL_bit hW k)]
  omega
theorem NL_l {M : MD} (hW : WF M) : lc M (mT M) = NL M := by
  rw [← NL_u hW]
  exact cnt_perm (fun j => !mC M j) (mT M) (mL M) hW.2.1
theorem NL_6 {M : MD} (hW : WF M) : NL M ≤ 6 := by
  have h5 := hW.1.r5
  unfold NL
  omega
theorem lc_lt {M : MD} (hW : WF M) {p : Nat} (hp : p < mT M) (hl : lo M p = true) : lc M p < NL M := by
  rw [← NL_l hW]; exact cnt_lt _ hp hl
theorem lc_inj {M : MD} {p q : Nat} (hp : lo M p = true) (hq : lo M q = true) (h : lc M p = lc M q) : p = q := by
  rcases Nat.lt_trichotomy p q with z | z | z
  · have := cnt_lt (lo M) z hp; unfold lc at h; omega
  · exact z
  · have := cnt_lt (lo M) z hq; unfold lc at h; omega
theorem cnt_ex (f : Nat → Bool) : ∀ (n c : Nat), c < cnt f n → ∃ p, p < n ∧ f p = true ∧ cnt f p = c
  | 0, c, h => by exact absurd h (Nat.not_lt_zero _)
  | n + 1, c, h => by
    have e : cnt f (n + 1) = cnt f n + (f n).toNat := rfl
    by_cases z : c < cnt f n
    · obtain ⟨p, h1, h2, h3⟩ := cnt_ex f n c z
      exact ⟨p, by omega, h2, h3⟩
    · cases hf : f n
      · rw [hf] at e
        have : (false : Bool).toNat = 0 := rfl
        omega
      · rw [hf] at e
        have : (true : Bool).toNat = 1 := rfl
        exact ⟨n, by omega, hf, by omega⟩
theorem lo_f {M : MD} {p : Nat} : lo M p = false ↔ mC M (mL M p) = true := by unfold lo; cases mC M (mL M p) <;> simp
theorem lo_t {M : MD} {p : Nat} : lo M p = true ↔ mC M (mL M p) = false := by unfold lo; cases mC M (mL M p) <;> simp
theorem laK_t {M : MD} {k p : Nat} (h : lo M p = true) : laK M k p = kF (NL M) (UL M) k (lc M p) := by unfold laK; rw [lo_t.mp h]; rfl
theorem laK_f {M : MD} {k p : Nat} (h : lo M p = false) : laK M k p = mL M p := by unfold laK; rw [lo_f.mp h]; rfl
theorem kF_ok {M : MD} (hW : WF M) {k : Nat} (hk : k < fa (NL M)) : (∀ c, c < NL M → kF (NL M) (UL M) k c < mT M ∧ mC M (kF (NL M) (UL M) k c) = false ∧ ∀ d, d < c → kF (NL M) (UL M) k d ≠ kF (NL M) (UL M) k c) ∧ (k + 1 < fa (NL M) → ∀ c, c < NL M → nxF (NL M) (kF (NL M) (UL M) k) c = kF (NL M) (UL M) (k + 1) c) := by
  have h5 := hW.1.r5
  have h := tab_k h5.2.1 (UL_lt M) hk
  refine ⟨fun c hc => ?_, h.2⟩
  obtain ⟨h1, h2, h3⟩ := h.1 c hc
  rw [UL_bit hW] at h2
  exact ⟨h1, h2, h3⟩
theorem laK_WP {M : MD} (hW : WF M) {k : Nat} (hk : k < fa (NL M)) : WP (mT M) (laK M k) := by
  have hT := (kF_ok hW hk).1
  refine ⟨fun p hp => ?_, fun p q hp hq h => ?_⟩
  · cases hl : lo M p
    · rw [laK_f hl]; exact hW.2.1.1 p hp
    · rw [laK_t hl]; exact (hT _ (lc_lt hW hp hl)).1
  · cases hl : lo M p <;> cases hl2 : lo M q
    · rw [laK_f hl, laK_f hl2] at h
      exact hW.2.1.2 p q hp hq h
    · rw [laK_f hl, laK_t hl2] at h
      have h1 := (hT _ (lc_lt hW hq hl2)).2.1
      rw [← h, lo_f.mp hl] at h1
      cases h1
    · rw [laK_t hl, laK_f hl2] at h
      have h1 := (hT _ (lc_lt hW hp hl)).2.1
      rw [h, lo_f.mp hl2] at h1
      cases h1
    · rw [laK_t hl, laK_t hl2] at h
      refine lc_inj hl hl2 ?_
      rcases Nat.lt_trichotomy (lc M p) (lc M q) with z | z | z
      · exact absurd h ((hT _ (lc_lt hW hq hl2)).2.2 _ z)
      · exact z
      · exact absurd h.symm ((hT _ (lc_lt hW hp hl)).2.2 _ z)
/-- what the class's orders stand on -/
def GO (M : MD) (σ : gs_H) (k : Nat) (s : gs_H) : Prop :=
  SE σ s ∧ RC 9 M s ∧ s 40 9 = nI (NL M) ∧ s 40 10 = nI (fa (NL M)) ∧ (∀ p, p < mT M → lo M p = true → s 48 (lc M p) = nI p) ∧ (k < fa (NL M) → ∀ c, c < NL M → s 49 c = nI (kF (NL M) (UL M) k c)) ∧ (∀ p, p < mT M → s 46 p = wtS M (mH M) p) ∧ (∀ w, w < mR M → s 45 w = bI (TH M w)) ∧ (∀ p, p < mT M → lo M p = false → s 47 p = nI (mL M p))
theorem p_beg1 {M : MD} {σ : gs_H} (hW : WF M) (hR : RC 9 M σ) (h47 : ∀ p, p < mT M → σ 47 p = nI (mL M p)) (h9 : σ 40 9 = nI 0) (h10 : σ 40 10 = nI 1) : ∃ s, lp b_X2_beginOrders_29 1000 ((0 : Int32), σ) = some s ∧ (Same [40, 48] σ s ∧ s 40 9 = nI (NL M) ∧ s 40 10 = nI (fa (NL M)) ∧ ∀ p, p < mT M → lo M p = true → s 48 (lc M p) = nI p) := by
  have h5 := hW.1.r5
  refine lp_ok (fun i y => y.1 = nI i ∧ Same [40, 48] σ y.2 ∧ y.2 40 9 = nI (lc M i) ∧ y.2 40 10 = nI (fa (lc M i)) ∧ ∀ p, p < i → lo M p = true → y.2 48 (lc M p) = nI p) (mT M) (by omega) _ ?_ ⟨rfl, Same.rf, h9, h10, fun p hp => by omega⟩
  rintro i ⟨y, s⟩ hi ⟨rfl, g1, g2, g3, g4⟩
  dsimp only at g1 g2 g3 g4
  have hRs : RC 9 M s := hR.same g1 (by simp)
  have e91 : s 9 1 = nI (mT M) := hRs.2.1
  by_cases hc : i < mT M
  · left
    refine ⟨hc, ?_⟩
    have hlt := hW.2.1.1 i hc
    have e47 : s 47 i = nI (mL M i) := by rw [g1 47 (by simp)]; exact h47 i hc
    have e15 : s 15 (mL M i) = bI (mC M (mL M i)) := hRs.2.2.2.2.2.1 _ (by omega)
    have hle : lc M i ≤ i := cnt_le _ _
    have q1 : ¬ mT M ≤ i := by omega
    have q2 : i < 6 := by omega
    have q3 : mL M i < 6 := by omega
    have q4 : lc M i < 6 := by omega
    have hs : lc M (i + 1) = lc M i + (lo M i).toNat := rfl
    unfold b_X2_beginOrders_29
    cases hl : lo M i
    · rw [hl] at hs
      have hs' : lc M (i + 1) = lc M i := hs
      rw [lo_f.mp hl] at e15
      simp (disch := omega) only [c0, c1, c2, c3, c4, c5, c6, c7, c8, c9, c10, c11, c12, c15, c20, c24, c30, c31, c45, c46, c48, c49, c57, c60, c97, c98, c99, c100, c101, c102, c108, c111, c126, c720, c999, c10000, nI_add, pk_mul, k_cl, k_lt, k_le, k_eq, k_sub, k_div, k_m1, e91, e47, e15, q1, q2, q3, inb_N, bI_0, ↓reduceIte, Bool.true_eq_false]
      refine ⟨_, rfl, rfl, g1, by rw [hs']; exact g2, by rw [hs']; exact g3, fun p hp hlp => ?_⟩
      refine g4 p ?_ hlp
      rcases Nat.lt_or_ge p i with z | z
      · exact z
      · have : p = i := by omega
        subst this; rw [hl] at hlp; cases hlp
    · rw [hl] at hs
      have hs' : lc M (i + 1) = lc M i + 1 := hs
      rw [lo_t.mp hl] at e15
      simp (disch := omega) only [c0, c1, c2, c3, c4, c5, c6, c7, c8, c9, c10, c11, c12, c15, c20, c24, c30, c31, c45, c46, c48, c49, c57, c60, c97, c98, c99, c100, c101, c102, c108, c111, c126, c720, c999, c10000, nI_add, pk_mul, k_cl, k_lt, k_le, k_eq, k_sub, k_div, k_m1, e91, e47, e15, g2, g3, q1, q2, q3, q4, inb_N, bI_0, ↓reduceIte]
      refine ⟨_, rfl, rfl, ((g1.up (by simp)).up (by simp)).up (by simp), ?_, ?_, fun p hp hlp => ?_⟩
      · dsimp only; rw [up2_n2 _ (by omega), up2_same, hs']
      · dsimp only; rw [up2_same, hs', fa, Nat.mul_comm]
      · dsimp only
        rw [up2_n1 _ (by omega), up2_n1 _ (by omega)]
        by_cases z : p = i
        · subst z; rw [up2_same]
        · rw [up2_n2 _ (fun q => z (lc_inj hlp hl q))]
          exact g4 p (by omega) hlp
  · right
    have : i = mT M := by omega
    subst this
    refine ⟨s, ?_, g1, ?_, ?_, g4⟩
    · unfold b_X2_beginOrders_29
      simp only [e91]
      rw [if_pos (Int32.le_refl _)]
    · rw [g2, NL_l hW]
    · rw [g3, NL_l hW]
theorem p_beg2 {M : MD} {σ : gs_H} (hW : WF M) (hR : RC 9 M σ) (h9 : σ 40 9 = nI (NL M)) : ∃ s, lp b_X2_beginOrders_94 1000 ((0 : Int32), (0 : Int32), σ) = some s ∧ (Same [49] σ s ∧ ∀ j, j < mT M → mC M j = false → s 49 (uc M j) = nI j) := by
  have h5 := hW.1.r5
  have hNL := NL_6 hW
  refine lp_ok (fun i y => y.1 = nI (uc M i) ∧ y.2.1 = nI i ∧ Same [49] σ y.2.2 ∧ ∀ j, j < i → mC M j = false → y.2.2 49 (uc M j) = nI j) (mT M) (by omega) _ ?_ ⟨rfl, rfl, Same.rf, fun p hp => by omega⟩
  rintro i ⟨y1, y2, s⟩ hi ⟨rfl, rfl, g1, g2⟩
  dsimp only at g1 g2
  have hRs : RC 9 M s := hR.same g1 (by simp)
  have e91 : s 9 1 = nI (mT M) := hRs.2.1
  have e9 : s 40 9 = nI (NL M) := by rw [g1 40 (by simp)]; exact h9
  have hle : uc M i ≤ i := cnt_le _ _
  unfold b_X2_beginOrders_94
  by_cases hc : i < mT M
  · have q1 : ¬ mT M ≤ i := by omega
    by_cases hn : NL M ≤ uc M i
    · right
      simp (disch := omega) only [e91, e9, k_le, q1, hn, ↓reduceIte]
      refine ⟨_, rfl, g1, fun j hj hjc => ?_⟩
      rcases Nat.lt_or_ge j i with z | z
      · exact g2 j z hjc
      · have a1 := cnt_mono (fun j => !mC M j) z
        have a2 := cnt_lt (fun j => !mC M j) hj (by simp [hjc])
        have a3 := NL_u hW
        unfold uc at hn a3
        omega
    · left
      refine ⟨hc, ?_⟩
      have e15 : s 15 i = bI (mC M i) := hRs.2.2.2.2.2.1 _ (by omega)
      have q2 : i < 6 := by omega
      have q4 : uc M i < 6 := by omega
      have hs : uc M (i + 1) = uc M i + (!mC M i).toNat := rfl
      cases hl : mC M i
      · rw [hl] at hs e15
        have hs' : uc M (i + 1) = uc M i + 1 := hs
        simp (disch := omega) only [c0, c1, c2, c3, c4, c5, c6, c7, c8, c9, c10, c11, c12, c15, c20, c24, c30, c31, c45, c46, c48, c49, c57, c60, c97, c98, c99, c100, c101, c102, c108, c111, c126, c720, c999, c10000, nI_add, pk_mul, k_cl, k_lt, k_le, k_eq, k_sub, k_div, k_m1, e91, e9, e15, q1, q2, q4, hn, inb_N, bI_0, ↓reduceIte]
        refine ⟨_, rfl, by rw [hs'], rfl, g1.up (by simp), fun j hj hjc => ?_⟩
        dsimp only
        by_cases z : j = i
        · subst z; rw [up2_same]
        · have := cnt_lt (fun j => !mC M j) (show j < i by omega) (by simp [hjc])
          rw [up2_n2 _ (by unfold uc; omega)]
          exact g2 j (by omega) hjc
      · rw [hl] at hs e15
        have hs' : uc M (i + 1) = uc M i := hs
        simp (disch := omega) only [c0, c1, c2, c3, c4, c5, c6, c7, c8, c9, c10, c11, c12, c15, c20, c24, c30, c31, c45, c46, c48, c49, c57, c60, c97, c98, c99, c100, c101, c102, c108, c111, c126, c720, c999, c10000, nI_add, pk_mul, k_cl, k_lt, k_le, k_eq, k_sub, k_div, k_m1, e91, e9, e15, q1, q2, hn, inb_N, bI_0, ↓reduceIte, Bool.true_eq_false]
        refine ⟨_, rfl, by rw [hs'], rfl, g1, fun j hj hjc => ?_⟩
        refine g2 j ?_ hjc
        rcases Nat.lt_or_ge j i with z | z
        · exact z
        · have : j = i := by omega
          subst this; rw [hl] at hjc; cases hjc
  · right
    have : i = mT M := by omega
    subst this
    simp only [e91]
    rw [if_pos (Int32.le_refl _)]
    exact ⟨_, rfl, g1, g2⟩
theorem p_begO {M : MD} {σ : gs_H} (hW : WF M) (hR : RC 9 M σ) : ∃ s, f_X2_beginOrders σ = some s ∧ GO M σ 0 s := by
  have h5 := hW.1.r5
  have e92 : σ 9 2 = nI (mH M) := hR.2.2.1
  obtain ⟨s1, a1, a2, a3, a4⟩ := p_prep (S := 42) (H := mH M) (by omega) hW hR
  have sc1 : SE σ s1 := SE.of a2 (by simp)
  obtain ⟨s2, b1, b2, b3⟩ := p_copyLaid (σ := s1)
  have sc2 : SE s1 s2 := SE.of b2 (by simp)
  have hR2 := sc2.RC9 (sc1.RC9 hR)
  obtain ⟨s3, hs3⟩ : ∃ s3, s3 = up2 (up2 s2 40 9 (0 : Int32)) 40 10 (1 : Int32) := ⟨_, rfl⟩
  have es3 : ∀ k, k ≠ 40 → s3 k = s2 k := fun k h => by rw [hs3, up2_ne _ _ _ h, up2_ne _ _ _ h]
  have sc3 : SE s2 s3 := fun k hk => es3 k (by omega)
  have e47 : ∀ p, p < mT M → s2 47 p = nI (mL M p) := fun p hp => by rw [b3 p (by omega)]; exact ((sc1.RC9 hR).2.2.2.2.1 p hp).1
  obtain ⟨s4, d1, d2, d3, d4, d5⟩ := p_beg1 hW (sc3.RC9 hR2) (fun p hp => by rw [es3 47 (by omega)]; exact e47 p hp) (by rw [hs3, up2_n2 _ (by omega), up2_same]; rfl) (by rw [hs3, up2_same]; rfl)
  have sc4 : SE s3 s4 := SE.of d2 (by simp)
  obtain ⟨s5, f1, f2, f3⟩ := p_beg2 hW (sc4.RC9 (sc3.RC9 hR2)) d3
  have sc5 : SE s4 s5 := SE.of f2 (by simp)
  refine ⟨s5, ?_, (((sc1.tr sc2).tr sc3).tr sc4).tr sc5, sc5.RC9 (sc4.RC9 (sc3.RC9 hR2)), ?_, ?_, fun p hp hl => ?_, fun _ c hc => ?_, fun p hp => ?_, fun w hw => ?_, fun p hp _ => ?_⟩
  · unfold f_X2_beginOrders
    rw [e92, a1, Option.bind_some, b1, Option.bind_some, ← hs3, d1, Option.bind_some, f1]
    rfl
  · rw [f2 40 (by simp)]; exact d3
  · rw [f2 40 (by simp)]; exact d4
  · rw [f2 48 (by simp)]; exact d5 p hp hl
  · have h0 := (kF_ok hW (k := 0) (fa_pos _)).1 c hc
    have h1 : uc M (kF (NL M) (UL M) 0 c) = c := by
      have := tab_0 h5.2.1 (UL_lt M) hc
      rw [cnt_cong (p := fun j => !(UL M).testBit j) (q := fun j => !mC M j) (fun k _ => by simp only [UL_bit hW])] at this
      exact this
    have := f3 _ h0.1 h0.2.1
    rw [h1] at this
    exact this
  · rw [f2 46 (by simp), d2 46 (by simp), es3 46 (by omega), b2 46 (by simp)]; exact a3 p hp
  · rw [f2 45 (by simp), d2 45 (by simp), es3 45 (by omega), b2 45 (by simp)]; exact a4 w hw
  · rw [f2 47 (by simp), d2 47 (by simp), es3 47 (by omega)]; exact e47 p hp
/-- what's in order is laid at the places that are loose -/
theorem p_put {M : MD} {σ : gs_H} {π : Nat → Nat} {C : Nat} {B : Int32 × gs_H → Option ((Int32 × gs_H) ⊕ gs_H)} (hB : B = b_X2_layInOrder_2 ∧ C = 47 ∨ B = b_X2_keepIfBetter_58 ∧ C = 41) (hW : WF M) (h9 : σ 40 9 = nI (NL M)) (h48 : ∀ p, p < mT M → lo M p = true → σ 48 (lc M p) = nI p) (h49 : ∀ c, c < NL M → σ 49 c = nI (π c)) : ∃ s, lp B 1000 ((0 : Int32), σ) = some s ∧ (Same [C] σ s ∧ (∀ p, p < mT M → lo M p = true → s C p = nI (π (lc M p))) ∧ (∀ p, p < mT M → lo M p = false → s C p = σ C p) ∧ ∀ p, mT M ≤ p → s C p = σ C p) := by
  have h5 := hW.1.r5
  have hNL := NL_6 hW
  have hC : C ≠ 40 ∧ C ≠ 48 ∧ C ≠ 49 := by rcases hB with ⟨-, h⟩ | ⟨-, h⟩ <;> omega
  refine lp_ok (fun c y => y.1 = nI c ∧ Same [C] σ y.2 ∧ (∀ p, p < mT M → lo M p = true → lc M p < c → y.2 C p = nI (π (lc M p))) ∧ (∀ p, p < mT M → lo M p = false → y.2 C p = σ C p) ∧ ∀ p, mT M ≤ p → y.2 C p = σ C p) (NL M) (by omega) _ ?_ ⟨rfl, Same.rf, fun p _ _ h => by omega, fun _ _ _ => rfl, fun _ _ => rfl⟩
  rintro c ⟨y, s⟩ hi ⟨rfl, g1, g2, g3, g4⟩
  dsimp only at g1 g2 g3 g4
  have e9 : s 40 9 = nI (NL M) := by rw [g1 40 (by simp; omega)]; exact h9
  by_cases hc : c < NL M
  · left
    refine ⟨hc, ?_⟩
    obtain ⟨p, hp, hlp, hcp⟩ := cnt_ex (lo M) (mT M) c (by rw [← NL_l hW] at hc; exact hc)
    have e48 : s 48 c = nI p := by rw [g1 48 (by simp; omega), ← hcp]; exact h48 p hp hlp
    have e49 : s 49 c = nI (π c) := by rw [g1 49 (by simp; omega)]; exact h49 c hc
    have q1 : ¬ NL M ≤ c := by omega
    have q2 : c < 6 := by omega
    have q3 : p < 6 := by omega
    have hb : B (nI c, s) = some (.inl (nI (c + 1), up2 s C p (nI (π c)))) := by
      rcases hB with ⟨rfl, rfl⟩ | ⟨rfl, rfl⟩
      · unfold b_X2_layInOrder_2
        simp (disch := omega) only [c0, c1, c2, c3, c4, c5, c6, c7, c8, c9, c10, c11, c12, c15, c20, c24, c30, c31, c45, c46, c48, c49, c57, c60, c97, c98, c99, c100, c101, c102, c108, c111, c126, c720, c999, c10000, nI_add, pk_mul, k_cl, k_lt, k_le, k_eq, k_sub, k_div, k_m1, e9, e48, e49, q1, q2, q3, inb_N, ↓reduceIte]
      · unfold b_X2_keepIfBetter_58
        simp (disch := omega) only [c0, c1, c2, c3, c4, c5, c6, c7, c8, c9, c10, c11, c12, c15, c20, c24, c30, c31, c45, c46, c48, c49, c57, c60, c97, c98, c99, c100, c101, c102, c108, c111, c126, c720, c999, c10000, nI_add, pk_mul, k_cl, k_lt, k_le, k_eq, k_sub, k_div, k_m1, e9, e48, e49, q1, q2, q3, inb_N, ↓reduceIte]
    refine ⟨_, hb, rfl, g1.up (by simp), fun q hq hlq hcq => ?_, fun q hq hlq => ?_, fun q hq => ?_⟩
    · dsimp only
      by_cases z : q = p
      · subst z
        have : lc M q = c := hcp
        rw [up2_same, this]
      · rw [up2_n2 _ z]
        refine g2 q hq hlq ?_
        rcases Nat.lt_or_ge (lc M q) c with z2 | z2
        · exact z2
        · exact absurd (lc_inj hlq hlp (by show lc M q = cnt (lo M) p; omega)) z
    · dsimp only
      rw [up2_n2 _ (fun z => by subst z; rw [hlp] at hlq; cases hlq)]
      exact g3 q hq hlq
    · dsimp only
      rw [up2_n2 _ (by omega)]
      exact g4 q hq
  · right
    have : c = NL M := by omega
    subst this
    have hb : B (nI (NL M), s) = some (.inr s) := by
      rcases hB with ⟨rfl, rfl⟩ | ⟨rfl, rfl⟩
      · unfold b_X2_layInOrder_2
        simp only [e9]
        rw [if_pos (Int32.le_refl _)]
      · unfold b_X2_keepIfBetter_58
        simp only [e9]
        rw [if_pos (Int32.le_refl _)]
    exact ⟨_, hb, g1, fun p hp hl => g2 p hp hl (lc_lt hW hp hl), g3, g4⟩
theorem p_layIn {M : MD} {σ s : gs_H} {k : Nat} (hW : WF M) (hG : GO M σ k s) (hk : k < fa (NL M)) : ∃ u, f_X2_layInOrder s = some u ∧ RL0 47 (mT M) (laK M k) u ∧ GO M σ k u ∧ u 40 = s 40 ∧ u 41 = s 41 := by
  obtain ⟨g1, g2, g3, g4, g5, g6, g7, g8, g9⟩ := hG
  obtain ⟨u, a1, a2, a3, a4, -⟩ := p_put (σ := s) (Or.inl ⟨rfl, rfl⟩) hW g3 g5 (g6 hk)
  have sc : SE s u := SE.of a2 (by simp)
  refine ⟨u, ?_, fun p hp => ?_, ⟨g1.tr sc, sc.RC9 g2, ?_, ?_, fun p hp hl => ?_, fun _ c hc => ?_, fun p hp => ?_, fun w hw => ?_, fun p hp hl => ?_⟩, a2 40 (by simp), a2 41 (by simp)⟩
  · unfold f_X2_layInOrder
    rw [a1]
    rfl
  · cases hl : lo M p
    · rw [a4 p hp hl, laK_f hl]; exact g9 p hp hl
    · rw [a3 p hp hl, laK_t hl]
  · rw [a2 40 (by simp)]; exact g3
  · rw [a2 40 (by simp)]; exact g4
  · rw [a2 48 (by simp)]; exact g5 p hp hl
  · rw [a2 49 (by simp)]; exact g6 hk c hc
  · rw [a2 46 (by simp)]; exact g7 p hp
  · rw [a2 45 (by simp)]; exact g8 w hw
  · rw [a4 p hp hl]; exact g9 p hp hl
theorem GO.same {M : MD} {σ s u : gs_H} {k : Nat} {X : List Nat} (hG : GO M σ k s) (hS : Same X s u) (hX : ∀ k, k ∈ X → k = 41 ∨ k = 43 ∨ k = 44) : GO M σ k u := by
  obtain ⟨g1, g2, g3, g4, g5, g6, g7, g8, g9⟩ := hG
  have e : ∀ k, k ≠ 41 → k ≠ 43 → k ≠ 44 → u k = s k := fun k a b c => hS k (fun q => by have := hX k q; omega)
  have sc : SE s u := fun k hk => e k (by omega) (by omega) (by omega)
  refine ⟨g1.tr sc, sc.RC9 g2, ?_⟩
  rw [e 40 (by omega) (by omega) (by omega), e 45 (by omega) (by omega) (by omega), e 46 (by omega) (by omega) (by omega), e 47 (by omega) (by omega) (by omega), e 48 (by omega) (by omega) (by omega), e 49 (by omega) (by omega) (by omega)]
  exact ⟨g3, g4, g5, g6, g7, g8, g9⟩
theorem GO.u40 {M : MD} {σ s : gs_H} {k j : Nat} {v : Int32} (hG : GO M σ k s) (hj : j < 9) : GO M σ k (up2 s 40 j v) := by
  obtain ⟨g1, g2, g3, g4, g5, g6, g7, g8, g9⟩ := hG
  have sc : SE s (up2 s 40 j v) := fun k hk => up2_ne _ _ _ (by omega)
  refine ⟨g1.tr sc, sc.RC9 g2, ?_⟩
  rw [up2_n2 _ (by omega), up2_n2 _ (by omega), up2_ne _ _ _ (show (45 : Nat) ≠ 40 by omega), up2_ne _ _ _ (show (46 : Nat) ≠ 40 by omega), up2_ne _ _ _ (show (47 : Nat) ≠ 40 by omega), up2_ne _ _ _ (show (48 : Nat) ≠ 40 by omega), up2_ne _ _ _ (show (49 : Nat) ≠ 40 by omega)]
  exact ⟨g3, g4, g5, g6, g7, g8, g9⟩
theorem p_nextG {M : MD} {σ s : gs_H} {k : Nat} (hW : WF M) (hG : GO M σ k s) (hk : k < fa (NL M)) : ∃ u, f_X2_nextOrder s = some u ∧ Same [49] s u ∧ GO M σ (k + 1) u := by
  have h5 := hW.1.r5
  obtain ⟨g1, g2, g3, g4, g5, g6, g7, g8, g9⟩ := hG
  have hT := kF_ok hW hk
  obtain ⟨u, a1, a2, a3⟩ := p_next (NL_6 hW) g3 (π := kF (NL M) (UL M) k) (fun i hi => ⟨g6 hk i hi, by have := (hT.1 i hi).1; omega⟩)
  have sc : SE s u := SE.of a2 (by simp)
  refine ⟨u, a1, a2, g1.tr sc, sc.RC9 g2, ?_, ?_, fun p hp hl => ?_, fun hk1 c hc => ?_, fun p hp => ?_, fun w hw => ?_, fun p hp hl => ?_⟩
  · rw [a2 40 (by simp)]; exact g3
  · rw [a2 40 (by simp)]; exact g4
  · rw [a2 48 (by simp)]; exact g5 p hp hl
  · rw [a3 c hc, hT.2 hk1 c hc]
  · rw [a2 46 (by simp)]; exact g7 p hp
  · rw [a2 45 (by simp)]; exact g8 w hw
  · rw [a2 47 (by simp)]; exact g9 p hp hl
