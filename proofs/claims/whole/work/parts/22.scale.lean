/-! PURE: the class's scale -/
theorem p_prep1 {S H : Nat} {M : MD} {σ : gs_H} (hS : 35 ≤ S ∧ S ≤ 51) (hW : WF M) (hR : RC 9 M σ) : ∃ s, lp (b_X6_prepare_2 S (nI H)) 1000 ((0 : Int32), σ) = some s ∧ (Same [S + 4] σ s ∧ ∀ p, p < mT M → s (S + 4) p = wtS M H p) := by
  have h5 := hW.1.r5
  refine lp_ok (fun i y => y.1 = nI i ∧ Same [S + 4] σ y.2 ∧ ∀ p, p < i → y.2 (S + 4) p = wtS M H p) (mT M) (by omega) _ ?_ ⟨rfl, Same.rf, fun p hp => by omega⟩
  rintro i ⟨y, s⟩ hi ⟨rfl, h1, h2⟩
  dsimp only at h1 h2
  have hR2 := hR.same (s := s) h1 (by simp; omega)
  have e91 := hR2.2.1
  by_cases hc : i < mT M
  · left
    refine ⟨hc, ?_⟩
    obtain ⟨-, e13, e14⟩ := hR2.2.2.2.2.1 i hc
    have e15 := hR2.2.2.2.2.2.1 i (by omega)
    have hb : b_X6_prepare_2 S (nI H) (nI i, s) = some (.inl (nI (i + 1), up2 s (S + 4) i (wtS M H i))) := by
      unfold b_X6_prepare_2 j_X6_prepare_48
      have q1 : ¬ mT M ≤ i := by omega
      have q2 : i < 6 := by omega
      cases hC : mC M i <;> simp (disch := omega) only [c0, c1, c2, c3, c4, c5, c6, c7, c8, c9, c10, c11, c12, c15, c20, c24, c30, c31, c45, c46, c48, c49, c57, c60, c97, c98, c99, c100, c101, c102, c108, c111, c126, c720, c999, c10000, nI_add, pk_mul, k_cl, k_lt, k_le, k_eq, k_sub, k_div, k_m1, e91, e13, e14, e15, inb_N, q1, q2, hC, bI_0, wtS, ↓reduceIte, Bool.true_eq_false, Bool.false_eq_true]
    exact ⟨_, hb, rfl, h1.up (by simp), fun p hp => by
      by_cases hp2 : p = i
      · subst hp2; exact up2_same _ _ _ _
      · dsimp only; rw [up2_n2 _ hp2]; exact h2 p (by omega)⟩
  · right
    have hb : b_X6_prepare_2 S (nI H) (nI i, s) = some (.inr s) := by
      unfold b_X6_prepare_2
      have q1 : mT M ≤ i := by omega
      simp (disch := omega) only [c0, c1, c2, c3, c4, c5, c6, c7, c8, c9, c10, c11, c12, c15, c20, c24, c30, c31, c45, c46, c48, c49, c57, c60, c97, c98, c99, c100, c101, c102, c108, c111, c126, c720, c999, c10000, nI_add, pk_mul, k_cl, k_lt, k_le, k_eq, k_sub, k_div, k_m1, e91, q1, ↓reduceIte]
    exact ⟨_, hb, h1, fun p hp => h2 p (by omega)⟩
theorem p_prep2 {S : Nat} {M : MD} {σ : gs_H} (hS : 35 ≤ S ∧ S ≤ 51) (hW : WF M) (hR : RC 9 M σ) (h0 : σ (S + 3) 0 = bI true) : ∃ s, lp (b_X6_prepare_64 S) 1000 ((0 : Int32), σ) = some s ∧ (Same [S + 3] σ s ∧ ∀ w, w < mR M → s (S + 3) w = bI (TH M w)) := by
  have h5 := hW.1.r5
  refine lp_ok (fun i y => y.1 = nI i ∧ Same [S + 3] σ y.2 ∧ ∀ w, w < mR M → (w = 0 ∨ ∃ b, b < i ∧ mE M b = w) → y.2 (S + 3) w = bI (thF M i w)) (2 * mR M) (by omega) _ ?_ ⟨rfl, Same.rf, fun w hw hb => by
    rcases hb with rfl | ⟨b, hb, -⟩
    · exact h0
    · omega⟩
  rintro i ⟨y, s⟩ hi ⟨rfl, h1, h2⟩
  dsimp only at h1 h2
  have hR2 := hR.same (s := s) h1 (by simp; omega)
  have e90 := hR2.1
  by_cases hc : i < 2 * mR M
  · left
    refine ⟨hc, ?_⟩
    have e11 := (hR2.2.2.2.1 i hc).2
    have hw := hW.1.ew hc
    have q0 : ¬ 2 * mR M ≤ i := by omega
    have q1 : i < 10 := by omega
    by_cases he : 10 ≤ mE M i
    · have hb : b_X6_prepare_64 S (nI i, s) = some (.inl (nI (i + 1), s)) := by
        unfold b_X6_prepare_64
        simp (disch := omega) only [c0, c1, c2, c3, c4, c5, c6, c7, c8, c9, c10, c11, c12, c15, c20, c24, c30, c31, c45, c46, c48, c49, c57, c60, c97, c98, c99, c100, c101, c102, c108, c111, c126, c720, c999, c10000, nI_add, pk_mul, k_cl, k_lt, k_le, k_eq, k_sub, k_div, k_m1, e90, e11, inb_N, q0, q1, he, ↓reduceIte]
      refine ⟨_, hb, rfl, h1, fun w hw2 hb2 => ?_⟩
      have e : thF M (i + 1) w = thF M i w := if_neg (fun q => by omega)
      rw [e]
      refine h2 w hw2 ?_
      rcases hb2 with rfl | ⟨b, hb3, hb4⟩
      · exact Or.inl rfl
      · refine Or.inr ⟨b, ?_, hb4⟩
        rcases Nat.lt_or_ge b i with z | z
        · exact z
        · have : b = i := by omega
          subst this; omega
    · have hw2 := hw.1 (by omega)
      have hp : s (S + 3) (i / 2) = bI (thF M i (i / 2)) := by
        refine h2 (i / 2) (by omega) ?_
        rcases Nat.eq_zero_or_pos (i / 2) with z | z
        · exact Or.inl z
        · obtain ⟨a, ha, ha2⟩ := hW.1.2.2.1 (i / 2) z (by omega)
          exact Or.inr ⟨a, by omega, ha2⟩
      have e16 := hR2.2.2.2.2.2.2.1 (mE M i) (by omega)
      have hb : b_X6_prepare_64 S (nI i, s) = some (.inl (nI (i + 1), up2 s (S + 3) (mE M i) (bI (thF M i (i / 2) && !mD M (mE M i))))) := by
        unfold b_X6_prepare_64 j_X6_prepare_120 j_X6_prepare_121
        have q2 : ¬ 10 ≤ mE M i := he
        have q3 : i / 2 < 5 := by omega
        have q4 : mE M i < 5 := by omega
        cases hA : thF M i (i / 2) <;> cases hB : mD M (mE M i) <;> simp (disch := omega) only [c0, c1, c2, c3, c4, c5, c6, c7, c8, c9, c10, c11, c12, c15, c20, c24, c30, c31, c45, c46, c48, c49, c57, c60, c97, c98, c99, c100, c101, c102, c108, c111, c126, c720, c999, c10000, nI_add, pk_mul, k_cl, k_lt, k_le, k_eq, k_sub, k_div, k_m1, e90, e11, e16, hp, inb_N, q0, q1, q2, q3, q4, hA, hB, bI_0, bI, Bool.true_eq_false, Bool.false_eq_true, Bool.not_true, Bool.not_false, Bool.and_true, Bool.and_false, Bool.true_and, Bool.false_and, Bool.toNat_true, Bool.toNat_false, ↓reduceIte, or_true, true_or, Nat.one_ne_zero, Nat.zero_ne_one, or_false, false_or]
      refine ⟨_, hb, rfl, h1.up (by simp), fun w hw3 hb2 => ?_⟩
      by_cases hz : w = mE M i
      · subst hz
        dsimp only
        rw [up2_same]
        have e : thF M (i + 1) (mE M i) = (thF M i (i / 2) && !mD M (mE M i)) := if_pos ⟨by omega, rfl⟩
        rw [e]
      · dsimp only
        rw [up2_n2 _ hz]
        have e : thF M (i + 1) w = thF M i w := if_neg (fun q => hz q.2)
        rw [e]
        refine h2 w hw3 ?_
        rcases hb2 with rfl | ⟨b, hb3, hb4⟩
        · exact Or.inl rfl
        · refine Or.inr ⟨b, ?_, hb4⟩
          rcases Nat.lt_or_ge b i with z | z
          · exact z
          · have : b = i := by omega
            subst this; exact absurd hb4.symm hz
  · right
    have hb : b_X6_prepare_64 S (nI i, s) = some (.inr s) := by
      unfold b_X6_prepare_64
      have q1 : 2 * mR M ≤ i := by omega
      simp (disch := omega) only [c0, c1, c2, c3, c4, c5, c6, c7, c8, c9, c10, c11, c12, c15, c20, c24, c30, c31, c45, c46, c48, c49, c57, c60, c97, c98, c99, c100, c101, c102, c108, c111, c126, c720, c999, c10000, nI_add, pk_mul, k_cl, k_lt, k_le, k_eq, k_sub, k_div, k_m1, e90, q1, ↓reduceIte]
    refine ⟨_, hb, h1, fun w hw => ?_⟩
    have hi2 : i = 2 * mR M := by omega
    subst hi2
    refine h2 w hw ?_
    rcases Nat.eq_zero_or_pos w with z | z
    · exact Or.inl z
    · obtain ⟨a, ha, ha2⟩ := hW.1.2.2.1 w z hw
      exact Or.inr ⟨a, by omega, ha2⟩
theorem p_prep {S H : Nat} {M : MD} {σ : gs_H} (hS : 35 ≤ S ∧ S ≤ 51) (hW : WF M) (hR : RC 9 M σ) : ∃ s, f_X6_prepare S (nI H) σ = some s ∧ (Same [S + 3, S + 4] σ s ∧ (∀ p, p < mT M → s (S + 4) p = wtS M H p) ∧ ∀ w, w < mR M → s (S + 3) w = bI (TH M w)) := by
  obtain ⟨s1, h1, h2, h3⟩ := p_prep1 (H := H) hS hW hR
  have hS1 : Same [S + 3, S + 4] σ (up2 s1 (S + 3) 0 1) := (h2.mono (by simp)).up (by simp)
  have hR1 := hR.same hS1 (by simp; omega)
  obtain ⟨s2, g1, g2, g3⟩ := p_prep2 hS hW hR1 (up2_same _ _ _ _)
  refine ⟨s2, ?_, hS1.tr (g2.mono (by simp)), fun p hp => ?_, g3⟩
  · unfold f_X6_prepare
    have e : (0 : Int32).toNatClampNeg = 0 := rfl
    have i5 : inb (0 : Int32) 5 := inb_I (a := 0) (n := 5) (by omega) (by omega)
    rw [h1, Option.bind_some, if_pos i5, e, g1, Option.bind_some]
  · rw [g2 (S + 4) (by simp), up2_n1 _ (by omega)]
    exact h3 p hp
/-- a place's thing, by the cell that holds what is laid -/
def RL0 (cr : Nat) (t : Nat) (la : Nat → Nat) (σ : gs_H) : Prop := ∀ p, p < t → σ cr p = nI (la p)
theorem am1 (x : Int32) : x + (-1) = x - 1 := by rw [Int32.sub_eq_add_neg]
theorem p_load {S cr H : Nat} {M : MD} {la : Nat → Nat} {σ : gs_H} (hW : WF M) (hR : RC 9 M σ) (hP : WP (mT M) la) (hl : RL0 cr (mT M) la σ) (hw : ∀ p, p < mT M → σ (S + 4) p = wtS M H p) {a : Nat} (ha : a < 2 * mR M) (hL : ∀ b, a / 2 < b / 2 → b < 2 * mR M → σ (S + 1) b = LD M la H b) : f_X6_loadOf S cr (nI a) σ = some (LD M la H a) := by
  have h5 := hW.1.r5
  have hew := hW.1.ew ha
  have e11 := (hR.2.2.2.1 a ha).2
  have q1 : a < 10 := by omega
  rw [LD_eq hW.1 la H ha]
  unfold f_X6_loadOf
  by_cases he : 10 ≤ mE M a
  · have q2 : ¬ mE M a < 10 := by omega
    have q3 : mE M a - 10 < 6 := by have := hew.2.1 he; omega
    have hp : mE M a - 10 < mT M := by have := hew.2.1 he; omega
    have el := hl _ hp
    have q4 := hP.1 _ hp
    have q5 : la (mE M a - 10) < 6 := by omega
    have ew := hw _ q4
    simp (disch := omega) only [c0, c1, c2, c3, c4, c5, c6, c7, c8, c9, c10, c11, c12, c15, c20, c24, c30, c31, c45, c46, c48, c49, c57, c60, c97, c98, c99, c100, c101, c102, c108, c111, c126, c720, c999, c10000, nI_add, pk_mul, k_cl, k_lt, k_le, k_eq, k_sub, k_div, k_m1, e11, el, ew, inb_N, q1, q2, q3, q5, he, ↓reduceIte]
  · have q2 : mE M a < 10 := by omega
    have q3 := hew.1 q2
    have q4 : mE M a < 5 := by omega
    have e16 := hR.2.2.2.2.2.2.1 (mE M a) q4
    have l1 := hL (2 * mE M a) (by omega) (by omega)
    have l2 := hL (2 * mE M a + 1) (by omega) (by omega)
    have q6 : 2 * mE M a < 10 := by omega
    have q7 : 2 * mE M a + 1 < 10 := by omega
    cases hD : mD M (mE M a) <;> simp (disch := omega) only [c0, c1, c2, c3, c4, c5, c6, c7, c8, c9, c10, c11, c12, c15, c20, c24, c30, c31, c45, c46, c48, c49, c57, c60, c97, c98, c99, c100, c101, c102, c108, c111, c126, c720, c999, c10000, nI_add, pk_mul, k_cl, k_lt, k_le, k_eq, k_sub, k_div, k_m1, e11, e16, l1, l2, inb_N, q1, q2, q4, q6, q7, he, hD, bI_0, ↓reduceIte, Bool.true_eq_false, Bool.false_eq_true]
theorem p_hangRod {S cr H : Nat} {M : MD} {la : Nat → Nat} {σ : gs_H} (hS : 35 ≤ S ∧ S ≤ 51) (hcr : cr ≠ S + 1 ∧ cr ≠ S + 2) (hW : WF M) (hR : RC 9 M σ) (hP : WP (mT M) la) (hl : RL0 cr (mT M) la σ) (hw : ∀ p, p < mT M → σ (S + 4) p = wtS M H p) {w : Nat} (hwr : w < mR M) (hL : ∀ b, w < b / 2 → b < 2 * mR M → σ (S + 1) b = LD M la H b) :
    f_X6_hangRod S cr (nI w) σ = some (up2 (up2 (up2 σ (S + 1) (2 * w) (LD M la H (2 * w))) (S + 1) (2 * w + 1) (LD M la H (2 * w + 1))) (S + 2) w (TI M la H w)) := by
  have h5 := hW.1.r5
  have l1 := p_load (S := S) (H := H) hW hR hP hl hw (a := 2 * w) (by omega) (fun b h1 h2 => hL b (by omega) h2)
  have hS1 : Same [S + 1] σ (up2 σ (S + 1) (2 * w) (LD M la H (2 * w))) := Same.rf.up (by simp)
  have l2 := p_load (S := S) (H := H) (σ := up2 σ (S + 1) (2 * w) (LD M la H (2 * w))) hW (hR.same hS1 (by simp; omega)) hP (fun p hp => by rw [up2_n1 _ hcr.1]; exact hl p hp) (fun p hp => by rw [up2_n1 _ (by omega)]; exact hw p hp) (a := 2 * w + 1) (by omega) (fun b h1 h2 => by rw [up2_n2 _ (by omega)]; exact hL b (by omega) h2)
  have e1 := (hR.2.2.2.1 (2 * w) (by omega)).1
  have e2 := (hR.2.2.2.1 (2 * w + 1) (by omega)).1
  have q1 : 2 * w < 10 := by omega
  have q2 : 2 * w + 1 < 10 := by omega
  have q3 : w < 5 := by omega
  have q4 : 10 ≠ S + 1 := by omega
  have q5 : 2 * w ≠ 2 * w + 1 := by omega
  unfold f_X6_hangRod TI
  simp (disch := omega) only [c0, c1, c2, c3, c4, c5, c6, c7, c8, c9, c10, c11, c12, c15, c20, c24, c30, c31, c45, c46, c48, c49, c57, c60, c97, c98, c99, c100, c101, c102, c108, c111, c126, c720, c999, c10000, nI_add, pk_mul, k_cl, k_lt, k_le, k_eq, k_sub, k_div, k_m1, l1, l2, Option.bind_some, inb_N, q1, q2, q3, ↓reduceIte, up2_n1 _ q4, up2_n2 _ q5, up2_same, e1, e2]
theorem y_neg (k : Nat) (hk : k < 1000) : nI k - 1 < 0 ↔ k = 0 := by
  rw [Int32.lt_iff_toInt_lt, show (1 : Int32) = nI 1 from rfl, pk_sub_toInt (by omega) (by omega)]
  have : (0 : Int32).toInt = 0 := rfl
  omega
theorem p_hang {S cr H : Nat} {M : MD} {la : Nat → Nat} {σ : gs_H} (hS : 35 ≤ S ∧ S ≤ 51) (hcr : cr ≠ S + 1 ∧ cr ≠ S + 2) (hW : WF M) (hR : RC 9 M σ) (hP : WP (mT M) la) (hl : RL0 cr (mT M) la σ) (hw : ∀ p, p < mT M → σ (S + 4) p = wtS M H p) :
    ∃ s, f_X6_hang S cr σ = some s ∧ (Same [S + 1, S + 2] σ s ∧ (∀ a, a < 2 * mR M → s (S + 1) a = LD M la H a) ∧ ∀ w, w < mR M → s (S + 2) w = TI M la H w) := by
  have h5 := hW.1.r5
  have key : ∃ s, lp (b_X6_hang_7 S cr) 1000 (((σ 9 0) - (1 : Int32)), σ) = some s ∧ (Same [S + 1, S + 2] σ s ∧ (∀ a, a < 2 * mR M → s (S + 1) a = LD M la H a) ∧ ∀ w, w < mR M → s (S + 2) w = TI M la H w) := by
    refine lp_ok (fun i y => y.1 = nI (mR M - i) - 1 ∧ Same [S + 1, S + 2] σ y.2 ∧ (∀ a, 2 * (mR M - i) ≤ a → a < 2 * mR M → y.2 (S + 1) a = LD M la H a) ∧ ∀ w, mR M - i ≤ w → w < mR M → y.2 (S + 2) w = TI M la H w) (mR M) (by omega) _ ?_ ⟨by rw [hR.1]; rfl, Same.rf, fun a _ _ => by omega, fun w _ _ => by omega⟩
    rintro i ⟨y, s⟩ hi ⟨rfl, h1, h2, h3⟩
    dsimp only at h1 h2 h3
    by_cases hc : i < mR M
    · left
      refine ⟨hc, ?_⟩
      obtain ⟨k, hk⟩ : ∃ k, mR M - i = k + 1 := ⟨mR M - i - 1, by omega⟩
      rw [hk] at h2 h3
      have hr := p_hangRod (S := S) (cr := cr) (H := H) (σ := s) hS hcr hW (hR.same h1 (by simp; omega)) hP (fun p hp => by rw [h1 cr (by simp; omega)]; exact hl p hp) (fun p hp => by rw [h1 (S + 4) (by simp)]; exact hw p hp) (w := k) (by omega) (fun b g1 g2 => h2 b (by omega) g2)
      have hb : b_X6_hang_7 S cr (nI (mR M - i) - 1, s) = some (.inl (nI (mR M - (i + 1)) - 1, up2 (up2 (up2 s (S + 1) (2 * k) (LD M la H (2 * k))) (S + 1) (2 * k + 1) (LD M la H (2 * k + 1))) (S + 2) k (TI M la H k))) := by
        unfold b_X6_hang_7
        have q : ¬ nI (k + 1) - 1 < 0 := by rw [y_neg _ (by omega)]; omega
        rw [hk, show mR M - (i + 1) = k by omega]
        dsimp only
        rw [if_neg q, nI_pred, hr, am1]
        rfl
      refine ⟨_, hb, rfl, ((h1.up (by simp)).up (by simp)).up (by simp), fun a g1 g2 => ?_, fun w g1 g2 => ?_⟩
      · dsimp only
        rw [up2_n1 _ (by omega)]
        by_cases z : a = 2 * k + 1
        · subst z; exact up2_same _ _ _ _
        · rw [up2_n2 _ z]
          by_cases z2 : a = 2 * k
          · subst z2; exact up2_same _ _ _ _
          · rw [up2_n2 _ z2]; exact h2 a (by omega) g2
      · dsimp only
        by_cases z : w = k
        · subst z; exact up2_same _ _ _ _
        · rw [up2_n2 _ z, up2_n1 _ (by omega), up2_n1 _ (by omega)]
          exact h3 w (by omega) g2
    · right
      have hb : b_X6_hang_7 S cr (nI (mR M - i) - 1, s) = some (.inr s) := by
        unfold b_X6_hang_7
        rw [if_pos ((y_neg _ (by omega)).mpr (by omega))]
      exact ⟨_, hb, h1, fun a ha => h2 a (by omega) ha, fun w hw => h3 w (by omega) hw⟩
  obtain ⟨s, h1, h2⟩ := key
  exact ⟨s, by unfold f_X6_hang; rw [h1]; rfl, h2⟩
theorem p_hangsLevel {S cr H : Nat} {M : MD} {la : Nat → Nat} {σ : gs_H} (hS : 35 ≤ S ∧ S ≤ 51) (hcr : cr ≠ S + 1 ∧ cr ≠ S + 2) (hW : WF M) (hR : RC 9 M σ) (hP : WP (mT M) la) (hl : RL0 cr (mT M) la σ) (hw : ∀ p, p < mT M → σ (S + 4) p = wtS M H p) (ht : ∀ w, w < mR M → σ (S + 3) w = bI (TH M w)) :
    ∃ s, f_X6_hangsLevel S cr σ = some (bI (AL M la H), s) ∧ Same [S + 1, S + 2] σ s := by
  have h5 := hW.1.r5
  have key : ∃ q, lp (b_X6_hangsLevel_7 S cr) 1000 (((σ 9 0) - (1 : Int32)), σ) = some q ∧ ((∃ s, q = .inl s ∧ Same [S + 1, S + 2] σ s ∧ AL M la H = false) ∨ (∃ s, q = .inr s ∧ Same [S + 1, S + 2] σ s ∧ AL M la H = true)) := by
    refine lp_ok (fun i y => y.1 = nI (mR M - i) - 1 ∧ Same [S + 1, S + 2] σ y.2 ∧ (∀ a, 2 * (mR M - i) ≤ a → a < 2 * mR M → y.2 (S + 1) a = LD M la H a) ∧ ∀ w, mR M - i ≤ w → w < mR M → TH M w = true → TI M la H w = 0) (mR M) (by omega) _ ?_ ⟨by rw [hR.1]; rfl, Same.rf, fun a _ _ => by omega, fun w _ _ => by omega⟩
    rintro i ⟨y, s⟩ hi ⟨rfl, h1, h2, h3⟩
    dsimp only at h1 h2 h3
    by_cases hc : i < mR M
    · obtain ⟨k, hk⟩ : ∃ k, mR M - i = k + 1 := ⟨mR M - i - 1, by omega⟩
      rw [hk] at h2 h3
      have hr := p_hangRod (S := S) (cr := cr) (H := H) (σ := s) hS hcr hW (hR.same h1 (by simp; omega)) hP (fun p hp => by rw [h1 cr (by simp; omega)]; exact hl p hp) (fun p hp => by rw [h1 (S + 4) (by simp)]; exact hw p hp) (w := k) (by omega) (fun b g1 g2 => h2 b (by omega) g2)
      have hT : (up2 (up2 (up2 s (S + 1) (2 * k) (LD M la H (2 * k))) (S + 1) (2 * k + 1) (LD M la H (2 * k + 1))) (S + 2) k (TI M la H k)) (S + 3) k = bI (TH M k) := by
        rw [up2_n1 _ (by omega), up2_n1 _ (by omega), up2_n1 _ (by omega), h1 (S + 3) (by simp)]
        exact ht k (by omega)
      have hT2 : (up2 (up2 (up2 s (S + 1) (2 * k) (LD M la H (2 * k))) (S + 1) (2 * k + 1) (LD M la H (2 * k + 1))) (S + 2) k (TI M la H k)) (S + 2) k = TI M la H k := up2_same _ _ _ _
      have hSm : Same [S + 1, S + 2] σ (up2 (up2 (up2 s (S + 1) (2 * k) (LD M la H (2 * k))) (S + 1) (2 * k + 1) (LD M la H (2 * k + 1))) (S + 2) k (TI M la H k)) := ((h1.up (by simp)).up (by simp)).up (by simp)
      have hL2 : ∀ a, 2 * k ≤ a → a < 2 * mR M → (up2 (up2 (up2 s (S + 1) (2 * k) (LD M la H (2 * k))) (S + 1) (2 * k + 1) (LD M la H (2 * k + 1))) (S + 2) k (TI M la H k)) (S + 1) a = LD M la H a := by
        intro a g1 g2
        rw [up2_n1 _ (by omega)]
        by_cases z : a = 2 * k + 1
        · subst z; exact up2_same _ _ _ _
        · rw [up2_n2 _ z]
          by_cases z2 : a = 2 * k
          · subst z2; exact up2_same _ _ _ _
          · rw [up2_n2 _ z2]; exact h2 a (by omega) g2
      generalize (up2 (up2 (up2 s (S + 1) (2 * k) (LD M la H (2 * k))) (S + 1) (2 * k + 1) (LD M la H (2 * k + 1))) (S + 2) k (TI M la H k)) = u at hr hT hT2 hSm hL2
      have q : ¬ nI (k + 1) - 1 < 0 := by rw [y_neg _ (by omega)]; omega
      have q5 : inb (nI k) 5 := inb_I (by omega) (by omega)
      have e5 : (nI k).toNatClampNeg = k := k_cl (by omega)
      have hu : b_X6_hangsLevel_7 S cr (nI (mR M - i) - 1, s) = if bI (TH M k) = 0 then some (.inl (nI (mR M - (i + 1)) - 1, u)) else if TI M la H k = 0 then some (.inl (nI (mR M - (i + 1)) - 1, u)) else some (.inr (.inl u)) := by
        unfold b_X6_hangsLevel_7
        rw [hk, show mR M - (i + 1) = k by omega]
        dsimp only
        rw [if_neg q, nI_pred, hr, Option.bind_some, if_pos q5, if_pos q5, e5, hT, hT2, am1]
      by_cases c1 : bI (TH M k) = 0
      · left
        refine ⟨hc, _, by rw [hu, if_pos c1], rfl, hSm, fun a g1 g2 => hL2 a (by omega) g2, fun w g1 g2 g3 => ?_⟩
        by_cases z : w = k
        · subst z; rw [(bI_0 _).mp c1] at g3; cases g3
        · exact h3 w (by omega) g2 g3
      · by_cases c2 : TI M la H k = 0
        · left
          refine ⟨hc, _, by rw [hu, if_neg c1, if_pos c2], rfl, hSm, fun a g1 g2 => hL2 a (by omega) g2, fun w g1 g2 g3 => ?_⟩
          by_cases z : w = k
          · subst z; exact c2
          · exact h3 w (by omega) g2 g3
        · right
          refine ⟨_, by rw [hu, if_neg c1, if_neg c2], Or.inl ⟨u, rfl, hSm, ?_⟩⟩
          cases hA : AL M la H with
          | false => rfl
          | true =>
            have := AL_iff.mp hA k (by omega) (by cases hz : TH M k with
              | true => rfl
              | false => exact absurd (by rw [hz]; rfl) c1)
            exact absurd this c2
    · right
      have hb : b_X6_hangsLevel_7 S cr (nI (mR M - i) - 1, s) = some (.inr (.inr s)) := by
        unfold b_X6_hangsLevel_7
        rw [if_pos ((y_neg _ (by omega)).mpr (by omega))]
      exact ⟨_, hb, Or.inr ⟨s, rfl, h1, AL_iff.mpr (fun w g1 g2 => h3 w (by omega) g1 g2)⟩⟩
  obtain ⟨q, h1, ⟨s, rfl, h2, h3⟩ | ⟨s, rfl, h2, h3⟩⟩ := key
  · exact ⟨s, by unfold f_X6_hangsLevel; rw [h1, h3]; rfl, h2⟩
  · exact ⟨s, by unfold f_X6_hangsLevel; rw [h1, h3]; rfl, h2⟩
/-- the counts over a scale that has been laid -/
theorem p_rodsLevel {S H : Nat} {M : MD} {la : Nat → Nat} {σ : gs_H} (hW : WF M) (hR : RC 9 M σ) (ht : ∀ w, w < mR M → σ (S + 3) w = bI (TH M w)) (hT : ∀ w, w < mR M → σ (S + 2) w = TI M la H w) : f_X6_rodsLevel S σ = some (nI (LV M la H)) := by
  have h5 := hW.1.r5
  unfold f_X6_rodsLevel
  refine (bind_s (lp_st (fun i => (nI (cnt (fun w => TH M w && decide (TI M la H w = 0)) i), nI i)) (e := nI (LV M la H)) (mR M) (by omega) (fun i hi => ?_) ?_ rfl)).trans rfl
  · have e1 := ht i hi
    have e2 := hT i hi
    have e3 := hR.1
    have q1 : ¬ mR M ≤ i := by omega
    have q2 : i < 5 := by omega
    unfold b_X6_rodsLevel_4
    by_cases c2 : TI M la H i = nI 0 <;> cases hA : TH M i <;> simp (disch := omega) only [c0, c1, c2, c3, c4, c5, c6, c7, c8, c9, c10, c11, c12, c15, c20, c24, c30, c31, c45, c46, c48, c49, c57, c60, c97, c98, c99, c100, c101, c102, c108, c111, c126, c720, c999, c10000, nI_add, pk_mul, k_cl, k_lt, k_le, k_eq, k_sub, k_div, k_m1, e1, e2, e3, inb_N, q1, q2, hA, c2, bI_0, cnt, ↓reduceIte, Bool.true_eq_false, Bool.false_eq_true, Bool.true_and, Bool.false_and, decide_true, decide_false, Bool.toNat_true, Bool.toNat_false]
  · unfold b_X6_rodsLevel_4
    have e3 := hR.1
    have q1 : mR M ≤ mR M := Nat.le_refl _
    simp (disch := omega) only [c0, c1, c2, c3, c4, c5, c6, c7, c8, c9, c10, c11, c12, c15, c20, c24, c30, c31, c45, c46, c48, c49, c57, c60, c97, c98, c99, c100, c101, c102, c108, c111, c126, c720, c999, c10000, nI_add, pk_mul, k_cl, k_lt, k_le, k_eq, k_sub, k_div, k_m1, e3, q1, ↓reduceIte, LV]
theorem p_rodsThere {M : MD} {σ : gs_H} (hW : WF M) (hR : RC 9 M σ) (ht : ∀ w, w < mR M → σ 38 w = bI (TH M w)) : f_X6_rodsThere σ = some (nI (NT M)) := by
  have h5 := hW.1.r5
  unfold f_X6_rodsThere
  refine (bind_s (lp_st (fun i => (nI (cnt (TH M) i), nI i)) (e := nI (NT M)) (mR M) (by omega) (fun i hi => ?_) ?_ rfl)).trans rfl
  · have e1 := ht i hi
    have e3 := hR.1
    have q1 : ¬ mR M ≤ i := by omega
    have q2 : i < 5 := by omega
    unfold b_X6_rodsThere_4
    cases hA : TH M i <;> simp (disch := omega) only [c0, c1, c2, c3, c4, c5, c6, c7, c8, c9, c10, c11, c12, c15, c20, c24, c30, c31, c45, c46, c48, c49, c57, c60, c97, c98, c99, c100, c101, c102, c108, c111, c126, c720, c999, c10000, nI_add, pk_mul, k_cl, k_lt, k_le, k_eq, k_sub, k_div, k_m1, e1, e3, inb_N, q1, q2, hA, bI_0, cnt, ↓reduceIte, Bool.true_eq_false, Bool.false_eq_true, Bool.toNat_true, Bool.toNat_false]
  · unfold b_X6_rodsThere_4
    have e3 := hR.1
    have q1 : mR M ≤ mR M := Nat.le_refl _
    simp (disch := omega) only [c0, c1, c2, c3, c4, c5, c6, c7, c8, c9, c10, c11, c12, c15, c20, c24, c30, c31, c45, c46, c48, c49, c57, c60, c97, c98, c99, c100, c101, c102, c108, c111, c126, c720, c999, c10000, nI_add, pk_mul, k_cl, k_lt, k_le, k_eq, k_sub, k_div, k_m1, e3, q1, ↓reduceIte, NT]
theorem p_tiltTogether {H : Nat} {M : MD} {la : Nat → Nat} {σ : gs_H} (hW : WF M) (hR : RC 9 M σ) (ht : ∀ w, w < mR M → σ 45 w = bI (TH M w)) (hT : ∀ w, w < mR M → σ 44 w = TI M la H w) : f_X6_tiltTogether σ = some (TT M la H (mR M)) := by
  have h5 := hW.1.r5
  unfold f_X6_tiltTogether
  refine (bind_s (lp_st (fun i => (TT M la H i, nI i)) (e := TT M la H (mR M)) (mR M) (by omega) (fun i hi => ?_) ?_ rfl)).trans rfl
  · have e1 := ht i hi
    have e2 := hT i hi
    have e3 := hR.1
    have q1 : ¬ mR M ≤ i := by omega
    have q2 : i < 5 := by omega
    unfold b_X6_tiltTogether_4
    cases hA : TH M i <;> simp (disch := omega) only [c0, c1, c2, c3, c4, c5, c6, c7, c8, c9, c10, c11, c12, c15, c20, c24, c30, c31, c45, c46, c48, c49, c57, c60, c97, c98, c99, c100, c101, c102, c108, c111, c126, c720, c999, c10000, nI_add, pk_mul, k_cl, k_lt, k_le, k_eq, k_sub, k_div, k_m1, e1, e2, e3, inb_N, q1, q2, hA, bI_0, TT, abI, ↓reduceIte, Bool.true_eq_false, Bool.false_eq_true] <;> rfl
  · unfold b_X6_tiltTogether_4
    have e3 := hR.1
    have q1 : mR M ≤ mR M := Nat.le_refl _
    simp (disch := omega) only [c0, c1, c2, c3, c4, c5, c6, c7, c8, c9, c10, c11, c12, c15, c20, c24, c30, c31, c45, c46, c48, c49, c57, c60, c97, c98, c99, c100, c101, c102, c108, c111, c126, c720, c999, c10000, nI_add, pk_mul, k_cl, k_lt, k_le, k_eq, k_sub, k_div, k_m1, e3, q1, ↓reduceIte]
/-- weigh: all of it -/
theorem p_weigh {S : Nat} {M : MD} {σ : gs_H} (hS : 35 ≤ S ∧ S ≤ 51) (hW : WF M) (hR : RC 9 M σ) : ∃ s, f_X6_weigh S σ = some s ∧ (Same [S + 1, S + 2, S + 3, S + 4] σ s ∧ (∀ p, p < mT M → s (S + 4) p = wtS M (mH M) p) ∧ (∀ w, w < mR M → s (S + 3) w = bI (TH M w)) ∧ (∀ a, a < 2 * mR M → s (S + 1) a = LD M (mL M) (mH M) a) ∧ ∀ w, w < mR M → s (S + 2) w = TI M (mL M) (mH M) w) := by
  obtain ⟨s1, h1, h2, h3, h4⟩ := p_prep (H := mH M) hS hW hR
  have hR1 := hR.same h2 (by simp; omega)
  obtain ⟨s2, g1, g2, g3, g4⟩ := p_hang (S := S) (cr := 12) (H := mH M) (la := mL M) hS (by omega) hW hR1 hW.2.1 (fun p hp => (hR1.2.2.2.2.1 p hp).1) h3
  refine ⟨s2, ?_, (h2.mono (by simp)).tr (g2.mono (by simp)), fun p hp => ?_, fun w hw => ?_, g3, g4⟩
  · unfold f_X6_weigh
    rw [hR.2.2.1, h1, Option.bind_some, g1, Option.bind_some]
  · rw [g2 (S + 4) (by simp)]; exact h3 p hp
  · rw [g2 (S + 3) (by simp)]; exact h4 w hw
