/-! PURE: the model's scale -/
/-- the model's cells of the mobile now -/
def RM (M : MD) (σ : gs_H) : Prop :=
  σ 57 4 = nI (mR M) ∧ σ 57 5 = nI (mT M) ∧ σ 57 6 = nI (mH M) ∧ (∀ a, a < 2 * mR M → σ 59 a = nI (mN M a) ∧ σ 60 a = nI (mE M a)) ∧ (∀ p, p < mT M → σ 64 p = nI (mL M p) ∧ σ 62 p = nI (mK M p) ∧ σ 63 p = nI (mZ M p) ∧ ∃ a, a < 2 * mR M ∧ mE M a = 10 + p ∧ σ 61 p = nI a) ∧ (∃ B, B < 64 ∧ σ 57 9 = nI B ∧ ∀ p, p < 6 → B.testBit p = mC M p) ∧ (∃ B, B < 32 ∧ σ 57 8 = nI B ∧ ∀ w, w < 5 → B.testBit w = mD M w) ∧ σ 57 21 = nI (mS M) ∧ (∀ i, i < mS M → σ 68 (4 * i) = nI (mV M i 0) ∧ σ 68 (4 * i + 1) = nI (mV M i 1) ∧ σ 68 (4 * i + 2) = nI (mV M i 2) ∧ σ 68 (4 * i + 3) = nI (mV M i 3))
/-- the slots of the model's own cell that say what the mobile is -/
def mslots : List Nat := [4, 5, 6, 8, 9, 21]
theorem RM.same {M : MD} {σ s : gs_H} (h : RM M σ) (h1 : ∀ k, k ∈ [59, 60, 61, 62, 63, 64, 68] → s k = σ k) (h2 : ∀ j, j ∈ mslots → s 57 j = σ 57 j) : RM M s := by
  unfold RM
  rw [h2 4 (by decide), h2 5 (by decide), h2 6 (by decide), h2 8 (by decide), h2 9 (by decide), h2 21 (by decide), h1 59 (by decide), h1 60 (by decide), h1 61 (by decide), h1 62 (by decide), h1 63 (by decide), h1 64 (by decide), h1 68 (by decide)]
  exact h
theorem bit6 : ∀ B : Fin 64, ∀ p : Fin 10, ((nI B.val >>> (nI p.val &&& 31)) &&& (1 : Int32)) = bI (B.val.testBit p.val) := by decide +kernel
theorem bitI {B p : Nat} (hB : B < 64) (hp : p < 10) : ((nI B >>> (nI p &&& 31)) &&& (1 : Int32)) = bI (B.testBit p) := bit6 ⟨B, hB⟩ ⟨p, hp⟩
theorem bit_set : ∀ B : Fin 64, ∀ p : Fin 6, (nI B.val ||| ((1 : Int32) <<< (nI p.val &&& 31))) = nI (B.val ||| 2 ^ p.val) := by decide +kernel
theorem bit_or {B p i : Nat} : (B ||| 2 ^ p).testBit i = (B.testBit i || decide (i = p)) := by
  rw [Nat.testBit_or, Nat.testBit_two_pow]
  congr 1
  simp [eq_comm]
theorem ones6 : ∀ B : Fin 64, f_X9_ones (nI B.val) = some (nI (cnt (fun i => B.val.testBit i) 6)) := by decide +kernel
theorem wt_drop {z h : Nat} (hz : z ≤ 9) (hh : h ≤ 1100) : (if (2 : Int32) * nI z ≤ nI h then (0 : Int32) else (2 : Int32) * nI z - nI h) = (if (0 : Int32) < ((2 : Int32) * nI z) - nI h then ((2 : Int32) * nI z) - nI h else (0 : Int32)) := by
  have e : (2 : Int32) * nI z = nI (2 * z) := by rw [c2, pk_mul]
  rw [e]
  have e2 : (0 : Int32) < nI (2 * z) - nI h ↔ h < 2 * z := by
    rw [Int32.lt_iff_toInt_lt, pk_sub_toInt (by omega) (by omega)]
    have : (0 : Int32).toInt = 0 := rfl
    omega
  by_cases c : 2 * z ≤ h
  · rw [if_pos ((nI_leI (by omega) (by omega)).mpr c), if_neg (fun q => by have := e2.mp q; omega)]
  · rw [if_neg (fun q => c ((nI_leI (by omega) (by omega)).mp q)), if_pos (e2.mpr (by omega))]
theorem wt_eq {k z h : Nat} (hk : k ≤ 4) (hz : z ≤ 9) (hh : h ≤ 1100) : f_X9_weighsBy (nI k) (nI z) (nI h) = f_X1_weight (nI k) (nI z) (nI h) := by
  unfold f_X9_weighsBy f_X1_weight
  by_cases h1 : nI k = 1
  · rw [if_pos h1, if_pos h1]
  · rw [if_neg h1, if_neg h1]
    by_cases h2 : nI k = 2
    · rw [if_pos h2, if_pos h2]
    · rw [if_neg h2, if_neg h2]
      by_cases h3 : nI k = 3
      · rw [if_pos h3, if_pos h3]
        have e : ∀ z : Fin 10, ((0 : Int32) - nI z.val) = -nI z.val := by decide +kernel
        exact e ⟨z, by omega⟩
      · rw [if_neg h3, if_neg h3]
        by_cases h4 : nI k = 4
        · rw [if_pos h4, if_pos h4]; exact wt_drop hz hh
        · rw [if_neg h4, if_neg h4]
/-- the class's cells of the model's scale: copy -/
theorem p_copy {a b : Nat} {σ : gs_H} (hab : a ≠ b) (hl : al a = al b) (hn : al a < 100) : ∃ s, f_X9_copy a b σ = some s ∧ (Same [b] σ s ∧ ∀ j, j < al a → s b j = σ a j) := by
  have key : ∃ s, lp (b_X9_copy_2 a b) 1000 ((0 : Int32), σ) = some s ∧ (Same [b] σ s ∧ ∀ j, j < al a → s b j = σ a j) := by
    refine lp_ok (fun i y => y.1 = nI i ∧ Same [b] σ y.2 ∧ ∀ j, j < i → y.2 b j = σ a j) (al a) (by omega) _ ?_ ⟨rfl, Same.rf, fun j hj => by omega⟩
    rintro i ⟨y, s⟩ hi ⟨rfl, h1, h2⟩
    dsimp only at h1 h2
    have ea : s a = σ a := h1 a (by simp; exact hab)
    have el : Int32.ofNat (al a) = nI (al a) := rfl
    by_cases hc : i < al a
    · left
      refine ⟨hc, ?_⟩
      have hb : b_X9_copy_2 a b (nI i, s) = some (.inl (nI (i + 1), up2 s b i (σ a i))) := by
        unfold b_X9_copy_2
        have q1 : ¬ al a ≤ i := by omega
        have q2 : i < al b := by omega
        simp (disch := omega) only [c0, c1, c2, c3, c4, c5, c6, c7, c8, c9, c10, c11, c12, c15, c20, c24, c30, c31, c45, c46, c48, c49, c57, c60, c97, c98, c99, c100, c101, c102, c108, c111, c126, c720, c999, c10000, nI_add, pk_mul, k_cl, k_lt, k_le, k_eq, k_sub, k_div, k_m1, el, ea, inb_N, q1, q2, hc, ↓reduceIte]
      refine ⟨_, hb, rfl, h1.up (by simp), fun j hj => ?_⟩
      dsimp only
      by_cases z : j = i
      · subst z; exact up2_same _ _ _ _
      · rw [up2_n2 _ z]; exact h2 j (by omega)
    · right
      have hb : b_X9_copy_2 a b (nI i, s) = some (.inr s) := by
        unfold b_X9_copy_2
        have q1 : al a ≤ i := by omega
        simp (disch := omega) only [c0, c1, c2, c3, c4, c5, c6, c7, c8, c9, c10, c11, c12, c15, c20, c24, c30, c31, c45, c46, c48, c49, c57, c60, c97, c98, c99, c100, c101, c102, c108, c111, c126, c720, c999, c10000, nI_add, pk_mul, k_cl, k_lt, k_le, k_eq, k_sub, k_div, k_m1, el, q1, ↓reduceIte]
      exact ⟨_, hb, h1, fun j hj => h2 j (by omega)⟩
  obtain ⟨s, h1, h2⟩ := key
  exact ⟨s, by unfold f_X9_copy; rw [h1]; rfl, h2⟩
/-- what the model's scale stands on: 65 holds la, 57 17 the hour -/
def RB (M : MD) (la : Nat → Nat) (hr : Nat) (σ : gs_H) : Prop := RM M σ ∧ (∀ p, p < mT M → σ 65 p = nI (la p)) ∧ σ 57 17 = nI hr
theorem p_begin {M : MD} {σ : gs_H} (hW : WF M) (hR : RM M σ) : ∃ s, f_X9_begin σ = some s ∧ RB M (mL M) (mH M) s ∧ (∀ k, k ≠ 57 → k ≠ 65 → s k = σ k) ∧ (∀ j, j ≠ 17 → s 57 j = σ 57 j) := by
  have h5 := hW.1.r5
  obtain ⟨s1, h1, h2, h3⟩ := p_copy (a := 64) (b := 65) (σ := σ) (by decide) rfl (by decide)
  have e57 : s1 57 = σ 57 := h2 57 (by decide)
  have hk : ∀ k, k ≠ 57 → k ≠ 65 → up2 s1 57 17 (s1 57 6) k = σ k := fun k q1 q2 => by rw [up2_ne _ _ _ q1]; exact h2 k (by simp; exact q2)
  have hj : ∀ j, j ≠ 17 → up2 s1 57 17 (s1 57 6) 57 j = σ 57 j := fun j q => by rw [up2_n2 _ q, e57]
  refine ⟨_, by unfold f_X9_begin; rw [h1]; rfl, ⟨hR.same (fun k hk2 => hk k (by rintro rfl; revert hk2; decide) (by rintro rfl; revert hk2; decide)) (fun j hj2 => hj j (by rintro rfl; revert hj2; decide)), fun p hp => ?_, ?_⟩, hk, hj⟩
  · rw [up2_n1 _ (by decide), h3 p (by show p < 6; omega)]
    exact (hR.2.2.2.2.1 p hp).1
  · rw [up2_same, e57]; exact hR.2.2.1
theorem p_thingThen {M : MD} {la : Nat → Nat} {hr : Nat} {σ : gs_H} (hW : WF M) (hB : RB M la hr σ) (hh : hr ≤ 1100) {p : Nat} (hp : p < mT M) : f_X9_thingThen (nI p) σ = some (wtS M hr p) := by
  have h5 := hW.1.r5
  obtain ⟨B, b1, b2, b3⟩ := hB.1.2.2.2.2.2.1
  obtain ⟨-, e62, e63, -⟩ := hB.1.2.2.2.2.1 p hp
  have hkz := hW.2.2.2.2.1 p hp
  have q1 : p < 6 := by omega
  have e := bitI b1 (p := p) (by omega)
  rw [b3 p q1] at e
  unfold f_X9_thingThen
  rw [b2, e, hB.2.2]
  rw [if_pos (inb_I q1 (by omega)), if_pos (inb_I q1 (by omega)), k_cl (by omega), e62, e63, wt_eq hkz.1 hkz.2 hh]
  unfold wtS
  cases hC : mC M p
  · rw [if_neg (by decide)]; rfl
  · rw [if_pos (by decide)]; rfl
theorem p_hungThen {M : MD} {la : Nat → Nat} {hr : Nat} {σ : gs_H} (hW : WF M) (hP : WP (mT M) la) (hB : RB M la hr σ) (hh : hr ≤ 1100) {a : Nat} (ha : a < 2 * mR M) (hL : ∀ w, a / 2 < w → w < mR M → σ 66 w = LD M la hr (2 * w) + LD M la hr (2 * w + 1)) : f_X9_hungThen (nI a) σ = some (LD M la hr a) := by
  have h5 := hW.1.r5
  have hew := hW.1.ew ha
  have e60 := (hB.1.2.2.2.1 a ha).2
  have q1 : a < 10 := by omega
  rw [LD_eq hW.1 la hr ha]
  unfold f_X9_hungThen
  by_cases he : 10 ≤ mE M a
  · have q2 : ¬ mE M a < 10 := by omega
    have q3 : mE M a - 10 < 6 := by have := hew.2.1 he; omega
    have hp : mE M a - 10 < mT M := by have := hew.2.1 he; omega
    have el := hB.2.1 _ hp
    have et := p_thingThen hW hB hh (hP.1 _ hp)
    simp (disch := omega) only [c0, c1, c2, c3, c4, c5, c6, c7, c8, c9, c10, c11, c12, c15, c20, c24, c30, c31, c45, c46, c48, c49, c57, c60, c97, c98, c99, c100, c101, c102, c108, c111, c126, c720, c999, c10000, nI_add, pk_mul, k_cl, k_lt, k_le, k_eq, k_sub, k_div, k_m1, e60, el, et, Option.bind_some, inb_N, q1, q2, q3, he, ↓reduceIte]
  · have q2 : mE M a < 10 := by omega
    have q3 := hew.1 q2
    have q4 : mE M a < 5 := by omega
    obtain ⟨B, b1, b2, b3⟩ := hB.1.2.2.2.2.2.2.1
    have e := bitI (B := B) (by omega) (p := mE M a) (by omega)
    rw [b3 _ q4] at e
    have l1 := hL (mE M a) (by omega) (by omega)
    have h10 : nI (mE M a) < (10 : Int32) := by rw [c10]; exact (k_lt (by omega) (by omega)).mpr q2
    rw [if_pos (inb_I q1 (by omega)), k_cl (by omega), e60, if_pos h10, b2, e, if_pos (inb_I q4 (by omega)), k_cl (by omega), l1, if_neg he]
    cases hD : mD M (mE M a)
    · rw [if_neg (by decide), if_neg (by decide)]
    · rw [if_pos (by decide), if_pos rfl]; rfl
theorem p_layTilts {M : MD} {la : Nat → Nat} {hr : Nat} {σ : gs_H} (hW : WF M) (hP : WP (mT M) la) (hB : RB M la hr σ) (hh : hr ≤ 1100) : ∃ s, f_X9_layTilts σ = some s ∧ (Same [66, 67] σ s ∧ (∀ w, w < mR M → s 66 w = LD M la hr (2 * w) + LD M la hr (2 * w + 1)) ∧ ∀ w, w < mR M → s 67 w = TI M la hr w) := by
  have h5 := hW.1.r5
  have key : ∃ s, lp (b_X9_layTilts_7) 1000 (((σ 57 4) - (1 : Int32)), σ) = some s ∧ (Same [66, 67] σ s ∧ (∀ w, w < mR M → s 66 w = LD M la hr (2 * w) + LD M la hr (2 * w + 1)) ∧ ∀ w, w < mR M → s 67 w = TI M la hr w) := by
    refine lp_ok (fun i y => y.1 = nI (mR M - i) - 1 ∧ Same [66, 67] σ y.2 ∧ (∀ w, mR M - i ≤ w → w < mR M → y.2 66 w = LD M la hr (2 * w) + LD M la hr (2 * w + 1)) ∧ ∀ w, mR M - i ≤ w → w < mR M → y.2 67 w = TI M la hr w) (mR M) (by omega) _ ?_ ⟨by rw [hB.1.1]; rfl, Same.rf, fun w _ _ => by omega, fun w _ _ => by omega⟩
    rintro i ⟨y, s⟩ hi ⟨rfl, h1, h2, h3⟩
    dsimp only at h1 h2 h3
    have hB2 : RB M la hr s := ⟨hB.1.same (fun k hk => h1 k (by rintro hz; revert hk hz; simp; omega)) (fun j _ => by rw [h1 57 (by decide)]), fun p hp => by rw [h1 65 (by decide)]; exact hB.2.1 p hp, by rw [h1 57 (by decide)]; exact hB.2.2⟩
    by_cases hc : i < mR M
    · left
      refine ⟨hc, ?_⟩
      obtain ⟨k, hk⟩ : ∃ k, mR M - i = k + 1 := ⟨mR M - i - 1, by omega⟩
      rw [hk] at h2 h3
      have l1 := p_hungThen hW hP hB2 hh (a := 2 * k) (by omega) (fun w g1 g2 => h2 w (by omega) g2)
      have l2 := p_hungThen hW hP hB2 hh (a := 2 * k + 1) (by omega) (fun w g1 g2 => h2 w (by omega) g2)
      have e1 := (hB2.1.2.2.2.1 (2 * k) (by omega)).1
      have e2 := (hB2.1.2.2.2.1 (2 * k + 1) (by omega)).1
      have hb : b_X9_layTilts_7 (nI (mR M - i) - 1, s) = some (.inl (nI (mR M - (i + 1)) - 1, up2 (up2 s 66 k (LD M la hr (2 * k) + LD M la hr (2 * k + 1))) 67 k (TI M la hr k))) := by
        unfold b_X9_layTilts_7 TI
        have q : ¬ nI (k + 1) - 1 < 0 := by rw [y_neg _ (by omega)]; omega
        have q1 : 2 * k < 10 := by omega
        have q2 : 2 * k + 1 < 10 := by omega
        have q3 : k < 5 := by omega
        rw [hk, show mR M - (i + 1) = k by omega]
        dsimp only
        rw [if_neg q, nI_pred, am1]
        have c1' : (1 : Int32) = nI 1 := rfl
        have c2' : (2 : Int32) = nI 2 := rfl
        rw [c2', pk_mul]
        rw [l1, Option.bind_some, c1', nI_add, l2, Option.bind_some, if_pos (inb_I q3 (by omega)), if_pos (inb_I q2 (by omega)), if_pos (inb_I q1 (by omega)), if_pos (inb_I q3 (by omega)), k_cl (a := k) (by omega), k_cl (a := 2 * k) (by omega), k_cl (a := 2 * k + 1) (by omega), e1, e2]
      refine ⟨_, hb, rfl, (h1.up (by simp)).up (by simp), fun w g1 g2 => ?_, fun w g1 g2 => ?_⟩
      · dsimp only
        rw [up2_n1 _ (by decide)]
        by_cases z : w = k
        · subst z; exact up2_same _ _ _ _
        · rw [up2_n2 _ z]; exact h2 w (by omega) g2
      · dsimp only
        by_cases z : w = k
        · subst z; exact up2_same _ _ _ _
        · rw [up2_n2 _ z, up2_n1 _ (by decide)]; exact h3 w (by omega) g2
    · right
      have hb : b_X9_layTilts_7 (nI (mR M - i) - 1, s) = some (.inr s) := by
        unfold b_X9_layTilts_7
        rw [if_pos ((y_neg _ (by omega)).mpr (by omega))]
      exact ⟨_, hb, h1, fun a ha => h2 a (by omega) ha, fun w hw => h3 w (by omega) hw⟩
  obtain ⟨s, h1, h2⟩ := key
  exact ⟨s, by unfold f_X9_layTilts; rw [h1]; rfl, h2⟩
theorem th_bits {M : MD} {B : Nat} : ∀ B : Fin 32, ∀ p : Fin 5, (nI B.val ||| ((1 : Int32) <<< (nI p.val &&& 31))) = nI (B.val ||| 2 ^ p.val) ∧ B.val ||| 2 ^ p.val < 32 := by decide +kernel
theorem or_0 : ∀ B : Fin 64, (nI B.val ||| (0 : Int32)) = nI B.val := by decide +kernel
theorem p_there {M : MD} {σ : gs_H} (hW : WF M) (hR : RM M σ) : ∃ B, f_X9_there σ = some (nI B) ∧ B < 32 ∧ (∀ w, w < mR M → B.testBit w = TH M w) ∧ ∀ w, mR M ≤ w → B.testBit w = false := by
  have h5 := hW.1.r5
  obtain ⟨D, d1, d2, d3⟩ := hR.2.2.2.2.2.2.1
  have key : ∀ B0, B0 < 32 → (∀ w, w < 5 → B0.testBit w = (decide (w = 0) && decide (0 < mR M))) → ∃ q, lp (b_X9_there_15 σ) 1000 (nI B0, (0 : Int32)) = some q ∧ ∃ B, q = nI B ∧ B < 32 ∧ (∀ w, w < mR M → B.testBit w = TH M w) ∧ ∀ w, mR M ≤ w → B.testBit w = false := by
    intro B0 b0 b1
    refine lp_ok (fun i y => y.2 = nI i ∧ ∃ B, y.1 = nI B ∧ B < 32 ∧ (∀ w, w < mR M → B.testBit w = thF M i w) ∧ ∀ w, mR M ≤ w → B.testBit w = false) (2 * mR M) (by omega) _ ?_ ⟨rfl, B0, rfl, b0, fun w hw => ?_, fun w hw => ?_⟩
    · rintro i ⟨y, z⟩ hi ⟨rfl, B, h0, h1, h2, h3⟩
      dsimp only at h0
      subst h0
      by_cases hc : i < 2 * mR M
      · left
        refine ⟨hc, ?_⟩
        have e60 := (hR.2.2.2.1 i hc).2
        have hew := hW.1.ew hc
        have q0 : ¬ 2 * mR M ≤ i := by omega
        have q1 : i < 10 := by omega
        by_cases he : 10 ≤ mE M i
        · have hb : b_X9_there_15 σ (nI B, nI i) = some (.inl (nI B, nI (i + 1))) := by
            unfold b_X9_there_15 j_X9_there_64 j_X9_there_65
            have o := or_0 ⟨B, by omega⟩
            rw [c0] at o
            dsimp only at o
            simp (disch := omega) only [c0, c1, c2, c3, c4, c5, c6, c7, c8, c9, c10, c11, c12, c15, c20, c24, c30, c31, c45, c46, c48, c49, c57, c60, c97, c98, c99, c100, c101, c102, c108, c111, c126, c720, c999, c10000, nI_add, pk_mul, k_cl, k_lt, k_le, k_eq, k_sub, k_div, k_m1, hR.1, e60, inb_N, q0, q1, he, ↓reduceIte, o]
          refine ⟨_, hb, rfl, B, rfl, h1, fun w hw => ?_, h3⟩
          have e : thF M (i + 1) w = thF M i w := if_neg (fun q => by omega)
          rw [e]; exact h2 w hw
        · have hw2 := hew.1 (by omega)
          have q4 : mE M i < 5 := by omega
          have eb := bitI (B := B) (p := i / 2) (by omega) (by omega)
          rw [h2 (i / 2) (by omega)] at eb
          have ed := bitI (B := D) (p := mE M i) (by omega) (by omega)
          rw [d3 _ q4] at ed
          have hb : b_X9_there_15 σ (nI B, nI i) = some (.inl (nI (if thF M i (i / 2) && !mD M (mE M i) then B ||| 2 ^ mE M i else B), nI (i + 1))) := by
            unfold b_X9_there_15 j_X9_there_64 j_X9_there_65
            have o := or_0 ⟨B, by omega⟩
            have o2 := (th_bits (M := M) (B := 0) ⟨B, by omega⟩ ⟨mE M i, by omega⟩).1
            rw [c0] at o
            rw [c1] at o2 eb ed
            dsimp only at o o2
            have q2 : ¬ 10 ≤ mE M i := he
            have q7 : nI i / nI 2 = nI (i / 2) := k_div (by omega) (by omega) (by omega)
            rw [c31] at eb ed o2
            cases hA : thF M i (i / 2) <;> cases hB : mD M (mE M i) <;> rw [hA] at eb <;> rw [hB] at ed <;> simp (disch := omega) only [c0, c1, c2, c3, c4, c5, c6, c7, c8, c9, c10, c11, c12, c15, c20, c24, c30, c31, c45, c46, c48, c49, c57, c60, c97, c98, c99, c100, c101, c102, c108, c111, c126, c720, c999, c10000, nI_add, pk_mul, k_cl, k_lt, k_le, k_eq, k_sub, k_div, k_m1, hR.1, d2, e60, inb_N, q0, q1, q2, q7, eb, ed, hA, hB, bI_0, bI_1, Bool.true_eq_false, Bool.false_eq_true, Bool.not_true, Bool.not_false, Bool.and_true, Bool.and_false, Bool.true_and, Bool.false_and, ↓reduceIte, o, o2, Nat.one_ne_zero]
          refine ⟨_, hb, rfl, _, rfl, ?_, fun w hw => ?_, fun w hw => ?_⟩
          · split
            · exact (th_bits (M := M) (B := 0) ⟨B, by omega⟩ ⟨mE M i, by omega⟩).2
            · exact h1
          · by_cases hz : w = mE M i
            · have e : thF M (i + 1) w = (thF M i (i / 2) && !mD M w) := if_pos ⟨by omega, hz⟩
              rw [e, hz]
              have hn : B.testBit (mE M i) = false := by
                rw [h2 _ (by omega)]
                refine thF_no (by omega) i (fun b hb q => ?_)
                have := hW.1.2.2.2.1 b i (by omega) hc q
                omega
              cases hA : thF M i (i / 2) && !mD M (mE M i)
              · rw [if_neg (by decide)]; exact hn
              · rw [if_pos rfl, bit_or]; simp
            · have e : thF M (i + 1) w = thF M i w := if_neg (fun q => hz q.2)
              rw [e, ← h2 w hw]
              split
              · rw [bit_or]; simp [hz]
              · rfl
          · split
            · rw [bit_or, h3 w hw]; simp; omega
            · exact h3 w hw
      · right
        have hb : b_X9_there_15 σ (nI B, nI i) = some (.inr (nI B)) := by
          unfold b_X9_there_15
          have q1 : 2 * mR M ≤ i := by omega
          simp (disch := omega) only [c0, c1, c2, c3, c4, c5, c6, c7, c8, c9, c10, c11, c12, c15, c20, c24, c30, c31, c45, c46, c48, c49, c57, c60, c97, c98, c99, c100, c101, c102, c108, c111, c126, c720, c999, c10000, nI_add, pk_mul, k_cl, k_lt, k_le, k_eq, k_sub, k_div, k_m1, hR.1, q1, ↓reduceIte]
        have hi2 : i = 2 * mR M := by omega
        subst hi2
        exact ⟨_, hb, B, rfl, h1, h2, h3⟩
    · show B0.testBit w = decide (w = 0)
      rw [b1 w (by omega)]
      have : 0 < mR M := by omega
      simp [this]
    · rcases Nat.lt_or_ge w 5 with z | z
      · rw [b1 w z]
        by_cases z0 : w = 0
        · subst z0; have : ¬ 0 < mR M := by omega
          simp [this]
        · simp [z0]
      · exact Nat.testBit_lt_two_pow (Nat.lt_of_lt_of_le b0 (Nat.pow_le_pow_right (n := 2) (by omega) z))
  unfold f_X9_there
  rw [hR.1]
  by_cases h0 : mR M = 0
  · obtain ⟨q, g1, B, rfl, g2, g3⟩ := key 0 (by omega) (fun w _ => by rw [h0]; simp)
    refine ⟨B, ?_, g2, g3⟩
    rw [if_pos (by rw [h0]; decide)]
    exact (bind_s g1).trans rfl
  · obtain ⟨q, g1, B, rfl, g2, g3⟩ := key 1 (by omega) (fun w hw => by
      have : 0 < mR M := by omega
      rcases (show w = 0 ∨ w = 1 ∨ w = 2 ∨ w = 3 ∨ w = 4 by omega) with rfl | rfl | rfl | rfl | rfl <;> simp [this] <;> decide)
    refine ⟨B, ?_, g2, g3⟩
    rw [if_neg (by rw [c0, k_le (by omega) (by omega)]; omega)]
    exact (bind_s g1).trans rfl
