/-! PURE: count -/
def tth (M : MD) (p : Nat) : Bool := !mC M p && TH M (AR M p / 2)
def cnA (M : MD) (L c y : Nat) : Nat → Int32
  | 0 => nI (mR M)
  | 1 => nI (mT M)
  | 2 => nI (NT M)
  | 3 => nI (LV M (mL M) (mH M))
  | 4 => nI (cnt (tth M) (mT M))
  | 5 => nI (mH M)
  | 6 => (if mR M = 0 then nI 0 else LD M (mL M) (mH M) 0 + LD M (mL M) (mH M) 1) + 10000
  | 7 => nI (mS M)
  | 8 => nI L
  | 9 => nI c
  | _ => nI y
theorem p_thingsThere {M : MD} {s : gs_H} (hW : WF M) (hR : RC 9 M s) (hth : ∀ w, w < mR M → s 38 w = bI (TH M w)) : f_X6_thingsThere s = some (nI (cnt (tth M) (mT M))) := by
  have h5 := hW.1.r5
  unfold f_X6_thingsThere
  refine (bind_s (lp_st (fun i => (nI (cnt (tth M) i), nI i)) (e := nI (cnt (tth M) (mT M))) (mT M) (by omega) (fun i hi => ?_) ?_ rfl)).trans rfl
  · have e1 : s 9 1 = nI (mT M) := hR.2.1
    have e2 : s 15 i = bI (mC M i) := hR.2.2.2.2.2.1 i (by omega)
    obtain ⟨ha, hc, -⟩ := p_AR hW hi
    have e3 := hc s hR
    have e4 := hth (AR M i / 2) (by omega)
    have q1 : ¬ mT M ≤ i := by omega
    have q2 : i < 6 := by omega
    have q3 : AR M i / 2 < 5 := by omega
    have et : tth M i = (!mC M i && TH M (AR M i / 2)) := rfl
    unfold b_X6_thingsThere_4
    cases z1 : mC M i <;> rw [z1] at e2 et
    · cases z2 : TH M (AR M i / 2) <;> rw [z2] at e4 et
      · simp (disch := omega) only [c0, c1, c2, c3, c4, c5, c6, c7, c8, c9, c10, c11, c12, c15, c20, c24, c30, c31, c45, c46, c48, c49, c57, c60, c97, c98, c99, c100, c101, c102, c108, c111, c126, c720, c999, c10000, nI_add, pk_mul, k_cl, k_lt, k_le, k_eq, k_sub, k_div, k_m1, e1, e2, e3, e4, q1, q2, q3, inb_N, bI_0, Option.bind_some, ↓reduceIte, j_X6_thingsThere_40, j_X6_thingsThere_41, cnt, et, Bool.not_false, Bool.true_and, Bool.toNat_false]
      · simp +decide (disch := omega) only [c0, c1, c2, c3, c4, c5, c6, c7, c8, c9, c10, c11, c12, c15, c20, c24, c30, c31, c45, c46, c48, c49, c57, c60, c97, c98, c99, c100, c101, c102, c108, c111, c126, c720, c999, c10000, nI_add, pk_mul, k_cl, k_lt, k_le, k_eq, k_sub, k_div, k_m1, e1, e2, e3, e4, q1, q2, q3, inb_N, bI_0, Option.bind_some, ↓reduceIte, j_X6_thingsThere_40, j_X6_thingsThere_41, cnt, et, Bool.not_false, Bool.true_and, Bool.toNat_true]
    · simp (disch := omega) only [c0, c1, c2, c3, c4, c5, c6, c7, c8, c9, c10, c11, c12, c15, c20, c24, c30, c31, c45, c46, c48, c49, c57, c60, c97, c98, c99, c100, c101, c102, c108, c111, c126, c720, c999, c10000, nI_add, pk_mul, k_cl, k_lt, k_le, k_eq, k_sub, k_div, k_m1, e1, e2, q1, q2, inb_N, bI_0, ↓reduceIte, j_X6_thingsThere_40, j_X6_thingsThere_41, cnt, et, Bool.true_eq_false, Bool.not_true, Bool.false_and, Bool.toNat_false]
  · unfold b_X6_thingsThere_4
    have e1 : s 9 1 = nI (mT M) := hR.2.1
    rw [e1, if_pos (Int32.le_refl _)]
theorem p_mthingsThere {M : MD} {s : gs_H} (hW : WF M) (hR : RM M s) : f_X9_thingsThere s = some (nI (cnt (tth M) (mT M))) := by
  have h5 := hW.1.r5
  obtain ⟨B, b1, b2, b3, b4⟩ := p_there hW hR
  unfold f_X9_thingsThere
  rw [b1, Option.bind_some]
  refine (bind_s (lp_st (fun i => (nI (cnt (tth M) i), nI i)) (e := nI (cnt (tth M) (mT M))) (mT M) (by omega) (fun i hi => ?_) ?_ rfl)).trans rfl
  · have e1 := hR.2.1
    have e2 := isCut_eq hR (p := i) (by omega)
    obtain ⟨ha, -, hc⟩ := p_AR hW hi
    have e3 := hc s hR
    have e4 := bitI (B := B) (p := AR M i / 2) (by omega) (by omega)
    rw [b3 _ (by omega), c1, c31] at e4
    have q1 : ¬ mT M ≤ i := by omega
    have et : tth M i = (!mC M i && TH M (AR M i / 2)) := rfl
    unfold b_X9_thingsThere_9
    cases z1 : mC M i <;> rw [z1] at e2 et
    · cases z2 : TH M (AR M i / 2) <;> rw [z2] at e4 et
      · simp (disch := omega) only [c0, c1, c2, c3, c4, c5, c6, c7, c8, c9, c10, c11, c12, c15, c20, c24, c30, c31, c45, c46, c48, c49, c57, c60, c97, c98, c99, c100, c101, c102, c108, c111, c126, c720, c999, c10000, nI_add, pk_mul, k_cl, k_lt, k_le, k_eq, k_sub, k_div, k_m1, e1, e2, e3, e4, q1, bI_0, bI_1, Option.bind_some, ↓reduceIte, cnt, et, Bool.false_eq_true, Bool.not_false, Bool.true_and, Bool.toNat_false]
      · simp (disch := omega) only [c0, c1, c2, c3, c4, c5, c6, c7, c8, c9, c10, c11, c12, c15, c20, c24, c30, c31, c45, c46, c48, c49, c57, c60, c97, c98, c99, c100, c101, c102, c108, c111, c126, c720, c999, c10000, nI_add, pk_mul, k_cl, k_lt, k_le, k_eq, k_sub, k_div, k_m1, e1, e2, e3, e4, q1, bI_0, bI_1, Option.bind_some, ↓reduceIte, cnt, et, Bool.not_false, Bool.true_and, Bool.toNat_true]
    · simp (disch := omega) only [c0, c1, c2, c3, c4, c5, c6, c7, c8, c9, c10, c11, c12, c15, c20, c24, c30, c31, c45, c46, c48, c49, c57, c60, c97, c98, c99, c100, c101, c102, c108, c111, c126, c720, c999, c10000, nI_add, pk_mul, k_cl, k_lt, k_le, k_eq, k_sub, k_div, k_m1, e1, e2, q1, bI_0, ↓reduceIte, cnt, et, Bool.true_eq_false, Bool.not_true, Bool.false_and, Bool.toNat_false]
  · unfold b_X9_thingsThere_9
    rw [hR.2.1, if_pos (Int32.le_refl _)]
theorem p_countOf {M : MD} {s : gs_H} {L c y k : Nat} (hW : WF M) (hR : RC 9 M s) (hk : k < 11) (hth : ∀ w, w < mR M → s 38 w = bI (TH M w)) (hL : ∀ a, a < 2 * mR M → s 36 a = LD M (mL M) (mH M) a) (hT : ∀ w, w < mR M → s 37 w = TI M (mL M) (mH M) w) (h1 : s 1 1 = nI L) (h8 : s 0 8 = nI c) (h9 : s 0 9 = nI y) : f_X8_countOf (nI k) s = some (cnA M L c y k) := by
  have h5 := hW.1.r5
  have e0 : s 9 0 = nI (mR M) := hR.1
  have e1 : s 9 1 = nI (mT M) := hR.2.1
  have e2 : s 9 2 = nI (mH M) := hR.2.2.1
  have e17 : s 17 0 = nI (mS M) := hR.2.2.2.2.2.2.2.1
  have g1 := p_rodsThere hW hR hth
  have g2 := p_rodsLevel (S := 35) (H := mH M) (la := mL M) hW hR hth hT
  have g3 := p_thingsThere hW hR hth
  have eh : f_X8_hasMobile s = if mR M = 0 then 0 else 1 := by
    unfold f_X8_hasMobile
    rw [e0]
    by_cases z : mR M = 0
    · rw [z, if_pos (by decide), if_pos rfl]
    · rw [if_neg z, if_neg (by rw [c0, k_le (by omega) (by omega)]; omega)]
  rcases lt11 hk with rfl | rfl | rfl | rfl | rfl | rfl | rfl | rfl | rfl | rfl | rfl <;> unfold f_X8_countOf
  · simp +decide (disch := omega) only [c0, c1, c2, c3, c4, c5, c6, c7, c8, c9, c10, c11, c12, c15, c20, c24, c30, c31, c45, c46, c48, c49, c57, c60, c97, c98, c99, c100, c101, c102, c108, c111, c126, c720, c999, c10000, nI_add, pk_mul, k_cl, k_lt, k_le, k_eq, k_sub, k_div, k_m1, e0, ↓reduceIte, cnA]
  · simp +decide (disch := omega) only [c0, c1, c2, c3, c4, c5, c6, c7, c8, c9, c10, c11, c12, c15, c20, c24, c30, c31, c45, c46, c48, c49, c57, c60, c97, c98, c99, c100, c101, c102, c108, c111, c126, c720, c999, c10000, nI_add, pk_mul, k_cl, k_lt, k_le, k_eq, k_sub, k_div, k_m1, e1, ↓reduceIte, cnA]
  · simp +decide (disch := omega) only [c0, c1, c2, c3, c4, c5, c6, c7, c8, c9, c10, c11, c12, c15, c20, c24, c30, c31, c45, c46, c48, c49, c57, c60, c97, c98, c99, c100, c101, c102, c108, c111, c126, c720, c999, c10000, nI_add, pk_mul, k_cl, k_lt, k_le, k_eq, k_sub, k_div, k_m1, g1, Option.bind_some, ↓reduceIte, cnA]
  · simp +decide (disch := omega) only [c0, c1, c2, c3, c4, c5, c6, c7, c8, c9, c10, c11, c12, c15, c20, c24, c30, c31, c45, c46, c48, c49, c57, c60, c97, c98, c99, c100, c101, c102, c108, c111, c126, c720, c999, c10000, nI_add, pk_mul, k_cl, k_lt, k_le, k_eq, k_sub, k_div, k_m1, g2, Option.bind_some, ↓reduceIte, cnA]
  · simp +decide (disch := omega) only [c0, c1, c2, c3, c4, c5, c6, c7, c8, c9, c10, c11, c12, c15, c20, c24, c30, c31, c45, c46, c48, c49, c57, c60, c97, c98, c99, c100, c101, c102, c108, c111, c126, c720, c999, c10000, nI_add, pk_mul, k_cl, k_lt, k_le, k_eq, k_sub, k_div, k_m1, g3, Option.bind_some, ↓reduceIte, cnA]
  · simp +decide (disch := omega) only [c0, c1, c2, c3, c4, c5, c6, c7, c8, c9, c10, c11, c12, c15, c20, c24, c30, c31, c45, c46, c48, c49, c57, c60, c97, c98, c99, c100, c101, c102, c108, c111, c126, c720, c999, c10000, nI_add, pk_mul, k_cl, k_lt, k_le, k_eq, k_sub, k_div, k_m1, e2, ↓reduceIte, cnA]
  · simp +decide (disch := omega) only [eh, c0, c1, c2, c3, c4, c5, c6, c7, c8, c9, c10, c11, c12, c15, c20, c24, c30, c31, c45, c46, c48, c49, c57, c60, c97, c98, c99, c100, c101, c102, c108, c111, c126, c720, c999, c10000, nI_add, pk_mul, k_cl, k_lt, k_le, k_eq, k_sub, k_div, k_m1, ↓reduceIte, cnA]
    by_cases z : mR M = 0
    · rw [if_pos z, if_pos z]
      rfl
    · have l0 := hL 0 (by omega)
      have l1 := hL 1 (by omega)
      rw [if_neg z, if_neg z, l0, l1]
      rfl
  · simp +decide (disch := omega) only [c0, c1, c2, c3, c4, c5, c6, c7, c8, c9, c10, c11, c12, c15, c20, c24, c30, c31, c45, c46, c48, c49, c57, c60, c97, c98, c99, c100, c101, c102, c108, c111, c126, c720, c999, c10000, nI_add, pk_mul, k_cl, k_lt, k_le, k_eq, k_sub, k_div, k_m1, e17, ↓reduceIte, cnA]
  · simp +decide (disch := omega) only [c0, c1, c2, c3, c4, c5, c6, c7, c8, c9, c10, c11, c12, c15, c20, c24, c30, c31, c45, c46, c48, c49, c57, c60, c97, c98, c99, c100, c101, c102, c108, c111, c126, c720, c999, c10000, nI_add, pk_mul, k_cl, k_lt, k_le, k_eq, k_sub, k_div, k_m1, h1, ↓reduceIte, cnA]
  · simp +decide (disch := omega) only [c0, c1, c2, c3, c4, c5, c6, c7, c8, c9, c10, c11, c12, c15, c20, c24, c30, c31, c45, c46, c48, c49, c57, c60, c97, c98, c99, c100, c101, c102, c108, c111, c126, c720, c999, c10000, nI_add, pk_mul, k_cl, k_lt, k_le, k_eq, k_sub, k_div, k_m1, h8, ↓reduceIte, cnA]
  · simp +decide (disch := omega) only [c0, c1, c2, c3, c4, c5, c6, c7, c8, c9, c10, c11, c12, c15, c20, c24, c30, c31, c45, c46, c48, c49, c57, c60, c97, c98, c99, c100, c101, c102, c108, c111, c126, c720, c999, c10000, nI_add, pk_mul, k_cl, k_lt, k_le, k_eq, k_sub, k_div, k_m1, h9, ↓reduceIte, cnA]
theorem p_weighsAll {M : MD} {σ : gs_H} (hW : WF M) (hR : RM M σ) : ∃ s, f_X9_weighsAll σ = some ((if mR M = 0 then nI 0 else LD M (mL M) (mH M) 0 + LD M (mL M) (mH M) 1) + 10000, s) ∧ SM σ s := by
  have h5 := hW.1.r5
  have hh := hW.2.2.1
  obtain ⟨s1, a1, a2, a3, a4⟩ := p_begin hW hR
  obtain ⟨s2, b1, b2, b3, b4⟩ := p_layTilts hW hW.2.1 a2 (by omega)
  have hB := a2.same b2
  refine ⟨s2, ?_, SM.tr ⟨fun k a b _ _ => a3 k a b, fun j hj => a4 j (by rintro rfl; revert hj; decide)⟩ (SM.of b2 (by simp))⟩
  unfold f_X9_weighsAll
  rw [a1, Option.bind_some, b1, Option.bind_some]
  have el : f_X9_lacks s2 = if mR M = 0 then 1 else 0 := by
    unfold f_X9_lacks
    rw [hB.1.1]
    by_cases z : mR M = 0
    · rw [z, if_pos (by decide), if_pos rfl]
    · rw [if_neg z, if_neg (by rw [c0, k_eq (by omega) (by omega)]; omega)]
  rw [el]
  by_cases z : mR M = 0
  · rw [if_pos z, if_pos z]
    rfl
  · have l0 := b3 0 (by omega)
    rw [if_neg z, if_neg z, if_pos rfl, if_pos (show inb (0 : Int32) 5 from inb_I (a := 0) (by omega) (by omega))]
    show some (10000 + s2 66 0, s2) = _
    rw [l0, Int32.add_comm]
theorem p_mcountOf {M : MD} {σ : gs_H} {L c y : Nat} (hW : WF M) (hR : RM M σ) (h1 : σ 57 1 = nI L) (h8 : σ 57 7 = nI c) (h9 : σ 57 20 = nI y) : (∀ k, k < 11 → ∃ s, f_X9_countOf (nI k) σ = some (cnA M L c y k, s) ∧ SM σ s) ∧ ∀ x : Int32, (∀ k, k < 11 → x ≠ nI k) → f_X9_countOf x σ = some (-102, σ) := by
  have h5 := hW.1.r5
  have e0 := hR.1
  have e1 := hR.2.1
  have e2 := hR.2.2.1
  have e17 := hR.2.2.2.2.2.2.2.1
  obtain ⟨B, b1, b2, b3, b4⟩ := p_there hW hR
  have g1 := ones_B (M := M) (B := B) (f := TH M) (n := mR M) (by omega) b3 (by omega) b4
  obtain ⟨s3, g2, g2'⟩ := p_mlevel' hW hR
  have g3 := p_mthingsThere hW hR
  obtain ⟨s6, g4, g4'⟩ := p_weighsAll hW hR
  refine ⟨fun k hk => ?_, fun x hx => ?_⟩
  · rcases lt11 hk with rfl | rfl | rfl | rfl | rfl | rfl | rfl | rfl | rfl | rfl | rfl
    · exact ⟨σ, by unfold f_X9_countOf; simp +decide (disch := omega) only [c0, c1, c2, c3, c4, c5, c6, c7, c8, c9, c10, c11, c12, c15, c20, c24, c30, c31, c45, c46, c48, c49, c57, c60, c97, c98, c99, c100, c101, c102, c108, c111, c126, c720, c999, c10000, nI_add, pk_mul, k_cl, k_lt, k_le, k_eq, k_sub, k_div, k_m1, e0, ↓reduceIte, cnA], SM.rf⟩
    · exact ⟨σ, by unfold f_X9_countOf; simp +decide (disch := omega) only [c0, c1, c2, c3, c4, c5, c6, c7, c8, c9, c10, c11, c12, c15, c20, c24, c30, c31, c45, c46, c48, c49, c57, c60, c97, c98, c99, c100, c101, c102, c108, c111, c126, c720, c999, c10000, nI_add, pk_mul, k_cl, k_lt, k_le, k_eq, k_sub, k_div, k_m1, e1, ↓reduceIte, cnA], SM.rf⟩
    · exact ⟨σ, by unfold f_X9_countOf; simp +decide (disch := omega) only [c0, c1, c2, c3, c4, c5, c6, c7, c8, c9, c10, c11, c12, c15, c20, c24, c30, c31, c45, c46, c48, c49, c57, c60, c97, c98, c99, c100, c101, c102, c108, c111, c126, c720, c999, c10000, nI_add, pk_mul, k_cl, k_lt, k_le, k_eq, k_sub, k_div, k_m1, b1, g1, Option.bind_some, ↓reduceIte, cnA]; rfl, SM.rf⟩
    · exact ⟨s3, by unfold f_X9_countOf; simp +decide (disch := omega) only [c0, c1, c2, c3, c4, c5, c6, c7, c8, c9, c10, c11, c12, c15, c20, c24, c30, c31, c45, c46, c48, c49, c57, c60, c97, c98, c99, c100, c101, c102, c108, c111, c126, c720, c999, c10000, nI_add, pk_mul, k_cl, k_lt, k_le, k_eq, k_sub, k_div, k_m1, g2, Option.bind_some, ↓reduceIte, cnA], g2'⟩
    · exact ⟨σ, by unfold f_X9_countOf; simp +decide (disch := omega) only [c0, c1, c2, c3, c4, c5, c6, c7, c8, c9, c10, c11, c12, c15, c20, c24, c30, c31, c45, c46, c48, c49, c57, c60, c97, c98, c99, c100, c101, c102, c108, c111, c126, c720, c999, c10000, nI_add, pk_mul, k_cl, k_lt, k_le, k_eq, k_sub, k_div, k_m1, g3, Option.bind_some, ↓reduceIte, cnA], SM.rf⟩
    · exact ⟨σ, by unfold f_X9_countOf; simp +decide (disch := omega) only [c0, c1, c2, c3, c4, c5, c6, c7, c8, c9, c10, c11, c12, c15, c20, c24, c30, c31, c45, c46, c48, c49, c57, c60, c97, c98, c99, c100, c101, c102, c108, c111, c126, c720, c999, c10000, nI_add, pk_mul, k_cl, k_lt, k_le, k_eq, k_sub, k_div, k_m1, e2, ↓reduceIte, cnA], SM.rf⟩
    · refine ⟨s6, ?_, g4'⟩
      unfold f_X9_countOf
      rw [if_neg (by decide), if_neg (by decide), if_neg (by decide), if_neg (by decide), if_neg (by decide), if_neg (by decide), if_pos (by decide), g4]
      rfl
    · exact ⟨σ, by unfold f_X9_countOf; simp +decide (disch := omega) only [c0, c1, c2, c3, c4, c5, c6, c7, c8, c9, c10, c11, c12, c15, c20, c24, c30, c31, c45, c46, c48, c49, c57, c60, c97, c98, c99, c100, c101, c102, c108, c111, c126, c720, c999, c10000, nI_add, pk_mul, k_cl, k_lt, k_le, k_eq, k_sub, k_div, k_m1, e17, ↓reduceIte, cnA], SM.rf⟩
    · exact ⟨σ, by unfold f_X9_countOf; simp +decide (disch := omega) only [c0, c1, c2, c3, c4, c5, c6, c7, c8, c9, c10, c11, c12, c15, c20, c24, c30, c31, c45, c46, c48, c49, c57, c60, c97, c98, c99, c100, c101, c102, c108, c111, c126, c720, c999, c10000, nI_add, pk_mul, k_cl, k_lt, k_le, k_eq, k_sub, k_div, k_m1, h1, ↓reduceIte, cnA], SM.rf⟩
    · exact ⟨σ, by unfold f_X9_countOf; simp +decide (disch := omega) only [c0, c1, c2, c3, c4, c5, c6, c7, c8, c9, c10, c11, c12, c15, c20, c24, c30, c31, c45, c46, c48, c49, c57, c60, c97, c98, c99, c100, c101, c102, c108, c111, c126, c720, c999, c10000, nI_add, pk_mul, k_cl, k_lt, k_le, k_eq, k_sub, k_div, k_m1, h8, ↓reduceIte, cnA], SM.rf⟩
    · exact ⟨σ, by unfold f_X9_countOf; simp +decide (disch := omega) only [c0, c1, c2, c3, c4, c5, c6, c7, c8, c9, c10, c11, c12, c15, c20, c24, c30, c31, c45, c46, c48, c49, c57, c60, c97, c98, c99, c100, c101, c102, c108, c111, c126, c720, c999, c10000, nI_add, pk_mul, k_cl, k_lt, k_le, k_eq, k_sub, k_div, k_m1, h9, ↓reduceIte, cnA], SM.rf⟩
  · unfold f_X9_countOf
    rw [if_neg (show ¬ x = (0 : Int32) from hx 0 (by omega)), if_neg (show ¬ x = (1 : Int32) from hx 1 (by omega)), if_neg (show ¬ x = (2 : Int32) from hx 2 (by omega)), if_neg (show ¬ x = (3 : Int32) from hx 3 (by omega)), if_neg (show ¬ x = (4 : Int32) from hx 4 (by omega)), if_neg (show ¬ x = (5 : Int32) from hx 5 (by omega)), if_neg (show ¬ x = (6 : Int32) from hx 6 (by omega)), if_neg (show ¬ x = (7 : Int32) from hx 7 (by omega)), if_neg (show ¬ x = (8 : Int32) from hx 8 (by omega)), if_neg (show ¬ x = (9 : Int32) from hx 9 (by omega)), if_neg (show ¬ x = (10 : Int32) from hx 10 (by omega))]
theorem pu_count {N : Nat} {σ : gs_H} (hI : Inv N σ) (x1 : Int32) : ∃ (r : Int32) (s1 : gs_H) (s2 : gs_H), f_X8_count x1 σ = some (r, s1) ∧ f_X9_count x1 s1 = some (r, s2) ∧ Inv (N + 1) s2 := by
  have hI0 := hI
  obtain ⟨M, L, pg, hW, hC, hM, hP, hQ⟩ := hI
  obtain ⟨c, y, hc, hy, y1, y2, y3, y4, -⟩ := hQ
  have h5 := hW.1.r5
  rcases nm_of (x := x1) (n := 11) (by omega) with ⟨k, hk, rfl⟩ | ⟨hx, -⟩
  · obtain ⟨s1, g1, g2, -, g4, g5, g6⟩ := p_weigh (S := 35) (by omega) hW hC
    have gS : SC σ s1 := SC.of g2 (by simp)
    have hI1 := hI0.sc gS
    obtain ⟨f1, -⟩ := p_mcountOf (L := L) (c := c) (y := y) hW (gS.RMs hM) (by rw [gS 57 (by omega)]; exact hP.2.2.1) (by rw [gS 57 (by omega)]; exact y2) (by rw [gS 57 (by omega)]; exact y4)
    obtain ⟨s2, f2, f3⟩ := f1 k hk
    refine ⟨cnA M L c y k, s1, s2, ?_, ?_, Inv_up (hI1.sm f3)⟩
    · unfold f_X8_count
      rw [if_neg (nI_pos (by omega)), if_pos (show nI k < 11 from (nI_ltI (b := 11) (by omega) (by omega)).mpr hk), g1, Option.bind_some, p_countOf (L := L) (c := c) (y := y) hW (gS.RC9 hC) hk g4 g5 g6 (by rw [gS 1 (by omega)]; exact hP.2.1) (by rw [gS 0 (by omega)]; exact y1) (by rw [gS 0 (by omega)]; exact y3)]
      rfl
    · unfold f_X9_count
      rw [f2]
      rfl
  · obtain ⟨-, f1⟩ := p_mcountOf (L := L) (c := c) (y := y) hW hM hP.2.2.1 y2 y4
    refine ⟨-102, σ, σ, ?_, ?_, Inv_up hI0⟩
    · unfold f_X8_count
      by_cases z : x1 < 0
      · rw [if_pos z]
      · rw [if_neg z, if_neg (show ¬ x1 < 11 from Int32.not_lt.mpr (hx.resolve_left z))]
    · unfold f_X9_count
      rw [f1 x1 (nm_no (by omega) hx)]
      rfl
