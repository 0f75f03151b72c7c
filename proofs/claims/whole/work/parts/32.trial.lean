/-! PURE: sizes that a thing may have, trials -/
/-- how rod w tilts, with a bead of size x on its other arm, if thing p has size z -/
def HW (M : MD) (p w x z : Nat) : Int32 := f_X7_wayOf (nI x * nI (mN M (2 * w + 1)) - f_X1_weight (nI (mK M p)) (nI z) (nI (mH M)) * nI (mN M (2 * w)))
/-- size z of p is as the first of what was seen says -/
def szF (M : MD) (p z : Nat) : Nat → Bool
  | 0 => true
  | i + 1 => szF M p z i && (decide (mV M i 0 ≠ p) || decide (HW M p (mV M i 1) (mV M i 2) z = nI (mV M i 3)))
def SZ (M : MD) (p z : Nat) : Bool := szF M p z (mS M)
theorem p_howIf {M : MD} {s : gs_H} (hW : WF M) (hR : RM M s) {p w x z : Nat} (hp : p < mT M) (hw : w < mR M) (hz : z ≤ 9) : f_X9_howIf (nI p) (nI z) (nI w) (nI x) s = some (HW M p w x z) := by
  have h5 := hW.1.r5
  have hh := hW.2.2.1
  have e1 : s 59 (2 * w) = nI (mN M (2 * w)) := (hR.2.2.2.1 (2 * w) (by omega)).1
  have e2 : s 59 (2 * w + 1) = nI (mN M (2 * w + 1)) := (hR.2.2.2.1 (2 * w + 1) (by omega)).1
  have e3 : s 62 p = nI (mK M p) := (hR.2.2.2.2.1 p hp).2.1
  have e4 := hR.2.2.1
  have hk := (hW.2.2.2.2.1 p hp).1
  have ew := wt_eq (k := mK M p) (z := z) (h := mH M) hk hz (by omega)
  unfold f_X9_howIf HW f_X7_wayOf
  have a1 : (2 : Int32) * nI w = nI (2 * w) := by rw [c2, pk_mul]
  have a2 : nI (2 * w) + (1 : Int32) = nI (2 * w + 1) := nI_1 _
  rw [a1, a2, if_pos (inb_I (show 2 * w + 1 < 10 by omega) (by omega)), if_pos (inb_I (show p < 6 by omega) (by omega)), if_pos (inb_I (show 2 * w < 10 by omega) (by omega)), k_cl (by omega), k_cl (by omega), k_cl (by omega), e1, e2, e3, e4, ew]
  generalize nI x * nI (mN M (2 * w + 1)) - f_X1_weight (nI (mK M p)) (nI z) (nI (mH M)) * nI (mN M (2 * w)) = t
  by_cases t0 : t = 0
  · subst t0; rfl
  · by_cases t1 : 0 ≤ t
    · rw [if_pos t1, if_neg t0, if_neg t0, if_pos t1]
    · rw [if_neg t1, if_neg t0, if_neg t1]
theorem p_tilting {M : MD} {s : gs_H} (hW : WF M) (hR : RC 9 M s) {p w x : Nat} {y : Int32} (hp : p < mT M) (hw : w < mR M) : f_X7_sizesTilting (nI p) (nI w) (nI x) y s = some (nI (bs (fun z => decide (HW M p w x z = y)) 10)) := by
  have h5 := hW.1.r5
  have e1 : s 10 (2 * w) = nI (mN M (2 * w)) := (hR.2.2.2.1 (2 * w) (by omega)).1
  have e2 : s 10 (2 * w + 1) = nI (mN M (2 * w + 1)) := (hR.2.2.2.1 (2 * w + 1) (by omega)).1
  have e3 : s 13 p = nI (mK M p) := (hR.2.2.2.2.1 p hp).2.1
  have e4 : s 9 2 = nI (mH M) := hR.2.2.1
  have a1 : (2 : Int32) * nI w = nI (2 * w) := by rw [c2, pk_mul]
  have a2 : nI (2 * w) + (1 : Int32) = nI (2 * w + 1) := nI_1 _
  unfold f_X7_sizesTilting
  rw [a1, a2, if_pos (inb_I (show 2 * w + 1 < 10 by omega) (by omega)), k_cl (by omega), e2]
  refine (bind_s (lp_st (fun i => (nI (bs (fun z => decide (HW M p w x z = y)) i), nI i)) (e := nI (bs (fun z => decide (HW M p w x z = y)) 10)) 10 (by omega) (fun i hi => ?_) ?_ rfl)).trans rfl
  · unfold b_X7_sizesTilting_20
    dsimp only
    have q : ¬ (10 : Int32) ≤ nI i := by rw [c10, k_le (by omega) (by omega)]; omega
    rw [if_neg q, a1, if_pos (inb_I (show p < 6 by omega) (by omega)), if_pos (inb_I (show 2 * w < 10 by omega) (by omega)), k_cl (by omega), k_cl (by omega), e3, e4, e1, nI_1, bs_st hi]
    by_cases z : HW M p w x i = y
    · have z' := z
      unfold HW at z'
      rw [if_pos z', if_pos (by simp only [z, decide_true])]
    · have z' := z
      unfold HW at z'
      rw [if_neg z', if_neg (by simp only [z, decide_false]; exact Bool.false_ne_true)]
  · rfl
theorem p_sizesOf {M : MD} {s : gs_H} (hW : WF M) (hR : RC 9 M s) {p : Nat} (hp : p < mT M) : f_X7_sizesOf (nI p) s = some (nI (bs (SZ M p) 10)) := by
  have h5 := hW.1.r5
  have h6 := hW.2.2.2.1
  unfold f_X7_sizesOf
  refine (bind_s (lp_st (fun i => (nI (bs (fun z => szF M p z i) 10), nI i)) (e := nI (bs (SZ M p) 10)) (mS M) (by omega) (fun i hi => ?_) ?_ ?_)).trans rfl
  · obtain ⟨v0, v1, v2, v3⟩ := hW.2.2.2.2.2.2.2.2.2 i hi
    obtain ⟨e0, e1, e2, e3⟩ := hR.2.2.2.2.2.2.2.2 i hi
    have e0' : s 18 i = nI (mV M i 0) := e0
    have e1' : s 19 i = nI (mV M i 1) := e1
    have e2' : s 20 i = nI (mV M i 2) := e2
    have e3' : s 21 i = nI (mV M i 3) := e3
    have e17 : s 17 0 = nI (mS M) := hR.2.2.2.2.2.2.2.1
    have q1 : ¬ mS M ≤ i := by omega
    have q2 : i < 6 := by omega
    have ht := p_tilting hW hR (x := mV M i 2) (y := nI (mV M i 3)) hp v1
    unfold b_X7_sizesOf_7
    by_cases z : mV M i 0 = p
    · rw [z] at e0'
      simp (disch := omega) only [c0, c1, c2, c3, c4, c5, c6, c7, c8, c9, c10, c11, c12, c15, c20, c24, c30, c31, c45, c46, c48, c49, c57, c60, c97, c98, c99, c100, c101, c102, c108, c111, c126, c720, c999, c10000, nI_add, pk_mul, k_cl, k_lt, k_le, k_eq, k_sub, k_div, k_m1, e0', e1', e2', e3', e17, q1, q2, inb_N, ht, Option.bind_some, nI_and, bs_and, ↓reduceIte]
      have e9 : bs (fun j => szF M p j i && decide (HW M p (mV M i 1) (mV M i 2) j = nI (mV M i 3))) 10 = bs (fun z => szF M p z (i + 1)) 10 := bs_cong (fun j _ => by
        rw [szF]
        simp [z])
      rw [e9]
    · simp (disch := omega) only [c0, c1, c2, c3, c4, c5, c6, c7, c8, c9, c10, c11, c12, c15, c20, c24, c30, c31, c45, c46, c48, c49, c57, c60, c97, c98, c99, c100, c101, c102, c108, c111, c126, c720, c999, c10000, nI_add, pk_mul, k_cl, k_lt, k_le, k_eq, k_sub, k_div, k_m1, e0', e17, q1, q2, inb_N, z, ↓reduceIte]
      have e9 : bs (fun z => szF M p z i) 10 = bs (fun z => szF M p z (i + 1)) 10 := bs_cong (fun j _ => by
        rw [szF]
        simp [z])
      rw [e9]
  · unfold b_X7_sizesOf_7
    have e17 : s 17 0 = nI (mS M) := hR.2.2.2.2.2.2.2.1
    rw [e17, if_pos (Int32.le_refl _)]
    rfl
  · have e : bs (fun z => szF M p z 0) 10 = 1023 := (bs_eq (f := fun _ => true) (B := 1023) (n := 10) (by decide) (by decide)).symm
    rw [e]
    rfl
theorem p_msizes {M : MD} {s : gs_H} (hW : WF M) (hR : RM M s) {p : Nat} (hp : p < mT M) : f_X9_sizesOf (nI p) s = some (nI (bs (SZ M p) 10)) := by
  have h5 := hW.1.r5
  have h6 := hW.2.2.2.1
  unfold f_X9_sizesOf
  refine (bind_s (lp_st (fun i => (nI (bs (SZ M p) i), nI i)) (e := nI (bs (SZ M p) 10)) 10 (by omega) (fun z hz => ?_) ?_ ?_)).trans rfl
  · have key : lp (b_X9_sizesOf_16 (nI p) (nI z) s) 1000 ((1 : Int32), (0 : Int32)) = some (bI (SZ M p z)) := by
      refine lp_st (fun i => (bI (szF M p z i), nI (4 * i))) (mS M) (by omega) (fun i hi => ?_) ?_ rfl
      · obtain ⟨v0, v1, v2, v3⟩ := hW.2.2.2.2.2.2.2.2.2 i hi
        obtain ⟨e0, e1, e2, e3⟩ := hR.2.2.2.2.2.2.2.2 i hi
        have e17 : s 57 21 = nI (mS M) := hR.2.2.2.2.2.2.2.1
        have q1 : ¬ 4 * mS M ≤ 4 * i := by omega
        have q2 : 4 * i < 24 := by omega
        have q3 : 4 * i + 1 < 24 := by omega
        have q4 : 4 * i + 2 < 24 := by omega
        have q5 : 4 * i + 3 < 24 := by omega
        have n4 : 4 * i + 4 = 4 * (i + 1) := by omega
        have ht := p_howIf hW hR (x := mV M i 2) hp v1 (z := z) (by omega)
        unfold b_X9_sizesOf_16
        cases hs : szF M p z i
        · simp (disch := omega) only [c0, c1, c2, c3, c4, c5, c6, c7, c8, c9, c10, c11, c12, c15, c20, c24, c30, c31, c45, c46, c48, c49, c57, c60, c97, c98, c99, c100, c101, c102, c108, c111, c126, c720, c999, c10000, nI_add, pk_mul, k_cl, k_lt, k_le, k_eq, k_sub, k_div, k_m1, e17, q1, bI_0, n4, ↓reduceIte]
          have e9 : szF M p z (i + 1) = false := by rw [szF, hs]; rfl
          rw [e9]
          rfl
        · by_cases z0 : mV M i 0 = p
          · rw [z0] at e0
            simp (disch := omega) only [c0, c1, c2, c3, c4, c5, c6, c7, c8, c9, c10, c11, c12, c15, c20, c24, c30, c31, c45, c46, c48, c49, c57, c60, c97, c98, c99, c100, c101, c102, c108, c111, c126, c720, c999, c10000, nI_add, pk_mul, k_cl, k_lt, k_le, k_eq, k_sub, k_div, k_m1, e17, q1, q2, q3, q4, q5, inb_N, e0, e1, e2, e3, ht, Option.bind_some, bI_0, n4, ↓reduceIte, Bool.true_eq_false]
            by_cases z1 : HW M p (mV M i 1) (mV M i 2) z = nI (mV M i 3)
            · have e9 : szF M p z (i + 1) = true := by rw [szF, hs]; simp [z0, z1]
              rw [e9, if_pos z1]
              rfl
            · have e9 : szF M p z (i + 1) = false := by rw [szF, hs]; simp [z0, z1]
              rw [e9, if_neg z1]
              rfl
          · simp (disch := omega) only [c0, c1, c2, c3, c4, c5, c6, c7, c8, c9, c10, c11, c12, c15, c20, c24, c30, c31, c45, c46, c48, c49, c57, c60, c97, c98, c99, c100, c101, c102, c108, c111, c126, c720, c999, c10000, nI_add, pk_mul, k_cl, k_lt, k_le, k_eq, k_sub, k_div, k_m1, e17, q1, q2, inb_N, e0, z0, bI_0, n4, ↓reduceIte, Bool.true_eq_false]
            have e9 : szF M p z (i + 1) = true := by rw [szF, hs]; simp [z0]
            rw [e9]
            rfl
      · unfold b_X9_sizesOf_16
        have e17 : s 57 21 = nI (mS M) := hR.2.2.2.2.2.2.2.1
        have q1 : 4 * mS M ≤ 4 * mS M := Nat.le_refl _
        simp (disch := omega) only [c0, c1, c2, c3, c4, c5, c6, c7, c8, c9, c10, c11, c12, c15, c20, c24, c30, c31, c45, c46, c48, c49, c57, c60, c97, c98, c99, c100, c101, c102, c108, c111, c126, c720, c999, c10000, nI_add, pk_mul, k_cl, k_lt, k_le, k_eq, k_sub, k_div, k_m1, e17, q1, ↓reduceIte]
        rfl
    unfold b_X9_sizesOf_4
    dsimp only
    have q : ¬ (10 : Int32) ≤ nI z := by rw [c10, k_le (by omega) (by omega)]; omega
    rw [if_neg q, key, Option.bind_some, nI_1, bs_st hz]
    cases SZ M p z
    · have o0 : nI (bs (SZ M p) z) ||| (0 : Int32) = nI (bs (SZ M p) z) := by rw [c0, nI_or, Nat.or_zero]
      rw [if_pos (show bI false = 0 from rfl), o0]
      rfl
    · rw [if_neg (show ¬ bI true = 0 by decide)]
      rfl
  · rfl
  · rfl
def thA (M : MD) (p : Nat) : Nat → Int32
  | 0 => nI (mK M p)
  | 1 => nI (mZ M p)
  | 2 => f_X1_weight (nI (mK M p)) (nI (mZ M p)) (nI (mH M)) + 10000
  | 3 => bI (mC M p)
  | 4 => nI (AR M p / 2)
  | 5 => nI (AR M p % 2)
  | _ => nI (bs (SZ M p) 10)
theorem lt7 {k : Nat} (h : k < 7) : k = 0 ∨ k = 1 ∨ k = 2 ∨ k = 3 ∨ k = 4 ∨ k = 5 ∨ k = 6 := by omega
theorem p_aboutThing {M : MD} {s : gs_H} {p k : Nat} (hW : WF M) (hR : RC 9 M s) (hp : p < mT M) (hk : k < 7) : f_X8_aboutThing (nI p) (nI k) s = some (thA M p k) := by
  have h5 := hW.1.r5
  have e1 : s 13 p = nI (mK M p) := (hR.2.2.2.2.1 p hp).2.1
  have e2 : s 14 p = nI (mZ M p) := (hR.2.2.2.2.1 p hp).2.2
  have e3 : s 15 p = bI (mC M p) := hR.2.2.2.2.2.1 p (by omega)
  have e4 : s 9 2 = nI (mH M) := hR.2.2.1
  obtain ⟨ha, hc, -⟩ := p_AR hW hp
  have e5 := hc s hR
  have e6 := p_sizesOf hW hR hp
  have q6 : p < 6 := by omega
  have ek : AR M p - AR M p / 2 * 2 = AR M p % 2 := by omega
  rcases lt7 hk with rfl | rfl | rfl | rfl | rfl | rfl | rfl <;> unfold f_X8_aboutThing
  · simp +decide (disch := omega) only [c0, c1, c2, c3, c4, c5, c6, c7, c8, c9, c10, c11, c12, c15, c20, c24, c30, c31, c45, c46, c48, c49, c57, c60, c97, c98, c99, c100, c101, c102, c108, c111, c126, c720, c999, c10000, nI_add, pk_mul, k_cl, k_lt, k_le, k_eq, k_sub, k_div, k_m1, e1, inb_N, q6, ↓reduceIte, thA]
  · simp +decide (disch := omega) only [c0, c1, c2, c3, c4, c5, c6, c7, c8, c9, c10, c11, c12, c15, c20, c24, c30, c31, c45, c46, c48, c49, c57, c60, c97, c98, c99, c100, c101, c102, c108, c111, c126, c720, c999, c10000, nI_add, pk_mul, k_cl, k_lt, k_le, k_eq, k_sub, k_div, k_m1, e2, inb_N, q6, ↓reduceIte, thA]
  · simp +decide (disch := omega) only [c0, c1, c2, c3, c4, c5, c6, c7, c8, c9, c10, c11, c12, c15, c20, c24, c30, c31, c45, c46, c48, c49, c57, c60, c97, c98, c99, c100, c101, c102, c108, c111, c126, c720, c999, c10000, nI_add, pk_mul, k_cl, k_lt, k_le, k_eq, k_sub, k_div, k_m1, e1, e2, e4, inb_N, q6, ↓reduceIte, thA]
  · simp +decide (disch := omega) only [c0, c1, c2, c3, c4, c5, c6, c7, c8, c9, c10, c11, c12, c15, c20, c24, c30, c31, c45, c46, c48, c49, c57, c60, c97, c98, c99, c100, c101, c102, c108, c111, c126, c720, c999, c10000, nI_add, pk_mul, k_cl, k_lt, k_le, k_eq, k_sub, k_div, k_m1, e3, inb_N, q6, ↓reduceIte, thA]
    cases mC M p <;> rfl
  · simp +decide (disch := omega) only [c0, c1, c2, c3, c4, c5, c6, c7, c8, c9, c10, c11, c12, c15, c20, c24, c30, c31, c45, c46, c48, c49, c57, c60, c97, c98, c99, c100, c101, c102, c108, c111, c126, c720, c999, c10000, nI_add, pk_mul, k_cl, k_lt, k_le, k_eq, k_sub, k_div, k_m1, e5, Option.bind_some, ↓reduceIte, thA]
  · simp +decide (disch := omega) only [c0, c1, c2, c3, c4, c5, c6, c7, c8, c9, c10, c11, c12, c15, c20, c24, c30, c31, c45, c46, c48, c49, c57, c60, c97, c98, c99, c100, c101, c102, c108, c111, c126, c720, c999, c10000, nI_add, pk_mul, k_cl, k_lt, k_le, k_eq, k_sub, k_div, k_m1, e5, Option.bind_some, ↓reduceIte, thA, ek]
  · simp +decide (disch := omega) only [c0, c1, c2, c3, c4, c5, c6, c7, c8, c9, c10, c11, c12, c15, c20, c24, c30, c31, c45, c46, c48, c49, c57, c60, c97, c98, c99, c100, c101, c102, c108, c111, c126, c720, c999, c10000, nI_add, pk_mul, k_cl, k_lt, k_le, k_eq, k_sub, k_div, k_m1, e6, Option.bind_some, ↓reduceIte, thA]
theorem p_tellThing {M : MD} {s : gs_H} {p : Nat} (hW : WF M) (hR : RM M s) (hp : p < mT M) : (∀ k, k < 7 → f_X9_tellThing (nI p) (nI k) s = some (thA M p k)) ∧ ∀ x : Int32, (∀ k, k < 7 → x ≠ nI k) → f_X9_tellThing (nI p) x s = some (-102) := by
  have h5 := hW.1.r5
  have hh := hW.2.2.1
  have e1 : s 62 p = nI (mK M p) := (hR.2.2.2.2.1 p hp).2.1
  have e2 : s 63 p = nI (mZ M p) := (hR.2.2.2.2.1 p hp).2.2.1
  have e4 := hR.2.2.1
  obtain ⟨ha, -, hc⟩ := p_AR hW hp
  have e5 := hc s hR
  have e6 := p_msizes hW hR hp
  have q6 : p < 6 := by omega
  have hk := hW.2.2.2.2.1 p hp
  have ew := wt_eq (k := mK M p) (z := mZ M p) (h := mH M) hk.1 hk.2 (by omega)
  have ek : AR M p - AR M p / 2 * 2 = AR M p % 2 := by omega
  obtain ⟨B, b1, b2, b3⟩ := hR.2.2.2.2.2.1
  have eb := bitI (B := B) (p := p) (by omega) (by omega)
  rw [b3 p (by omega), c1, c31] at eb
  refine ⟨fun k hk => ?_, fun x hx => ?_⟩
  · rcases lt7 hk with rfl | rfl | rfl | rfl | rfl | rfl | rfl <;> unfold f_X9_tellThing
    · simp +decide (disch := omega) only [c0, c1, c2, c3, c4, c5, c6, c7, c8, c9, c10, c11, c12, c15, c20, c24, c30, c31, c45, c46, c48, c49, c57, c60, c97, c98, c99, c100, c101, c102, c108, c111, c126, c720, c999, c10000, nI_add, pk_mul, k_cl, k_lt, k_le, k_eq, k_sub, k_div, k_m1, e1, inb_N, q6, ↓reduceIte, thA]
    · simp +decide (disch := omega) only [c0, c1, c2, c3, c4, c5, c6, c7, c8, c9, c10, c11, c12, c15, c20, c24, c30, c31, c45, c46, c48, c49, c57, c60, c97, c98, c99, c100, c101, c102, c108, c111, c126, c720, c999, c10000, nI_add, pk_mul, k_cl, k_lt, k_le, k_eq, k_sub, k_div, k_m1, e2, inb_N, q6, ↓reduceIte, thA]
    · simp +decide (disch := omega) only [c0, c1, c2, c3, c4, c5, c6, c7, c8, c9, c10, c11, c12, c15, c20, c24, c30, c31, c45, c46, c48, c49, c57, c60, c97, c98, c99, c100, c101, c102, c108, c111, c126, c720, c999, c10000, nI_add, pk_mul, k_cl, k_lt, k_le, k_eq, k_sub, k_div, k_m1, e1, e2, e4, ew, inb_N, q6, ↓reduceIte, thA]
      rw [Int32.add_comm]
    · simp +decide (disch := omega) only [c0, c1, c2, c3, c4, c5, c6, c7, c8, c9, c10, c11, c12, c15, c20, c24, c30, c31, c45, c46, c48, c49, c57, c60, c97, c98, c99, c100, c101, c102, c108, c111, c126, c720, c999, c10000, nI_add, pk_mul, k_cl, k_lt, k_le, k_eq, k_sub, k_div, k_m1, b2, eb, ↓reduceIte, thA]
    · simp +decide (disch := omega) only [c0, c1, c2, c3, c4, c5, c6, c7, c8, c9, c10, c11, c12, c15, c20, c24, c30, c31, c45, c46, c48, c49, c57, c60, c97, c98, c99, c100, c101, c102, c108, c111, c126, c720, c999, c10000, nI_add, pk_mul, k_cl, k_lt, k_le, k_eq, k_sub, k_div, k_m1, e5, Option.bind_some, ↓reduceIte, thA]
    · simp +decide (disch := omega) only [c0, c1, c2, c3, c4, c5, c6, c7, c8, c9, c10, c11, c12, c15, c20, c24, c30, c31, c45, c46, c48, c49, c57, c60, c97, c98, c99, c100, c101, c102, c108, c111, c126, c720, c999, c10000, nI_add, pk_mul, k_cl, k_lt, k_le, k_eq, k_sub, k_div, k_m1, e5, Option.bind_some, ↓reduceIte, thA, ek]
    · simp +decide (disch := omega) only [c0, c1, c2, c3, c4, c5, c6, c7, c8, c9, c10, c11, c12, c15, c20, c24, c30, c31, c45, c46, c48, c49, c57, c60, c97, c98, c99, c100, c101, c102, c108, c111, c126, c720, c999, c10000, nI_add, pk_mul, k_cl, k_lt, k_le, k_eq, k_sub, k_div, k_m1, e6, Option.bind_some, ↓reduceIte, thA]
  · unfold f_X9_tellThing
    rw [if_neg (show ¬ x = (0 : Int32) from hx 0 (by omega)), if_neg (show ¬ x = (1 : Int32) from hx 1 (by omega)), if_neg (show ¬ x = (2 : Int32) from hx 2 (by omega)), if_neg (show ¬ x = (3 : Int32) from hx 3 (by omega)), if_neg (show ¬ x = (4 : Int32) from hx 4 (by omega)), if_neg (show ¬ x = (5 : Int32) from hx 5 (by omega)), if_neg (show ¬ x = (6 : Int32) from hx 6 (by omega))]
theorem pu_thing {N : Nat} {σ : gs_H} (hI : Inv N σ) (x1 x2 : Int32) : ∃ (r : Int32), f_X8_thing x1 x2 σ = some r ∧ f_X9_thing x1 x2 σ = some r ∧ Inv (N + 1) σ := by
  have hI0 := hI
  obtain ⟨M, L, pg, hW, hC, hM, hP, hQ⟩ := hI
  have h5 := hW.1.r5
  rcases is_thing hC.2.1 hM.2.1 (by omega) x1 with ⟨p, hp, rfl, h1, h2⟩ | ⟨h1, h2⟩
  · obtain ⟨t1, t2⟩ := p_tellThing hW hM hp
    rcases nm_of (x := x2) (n := 7) (by omega) with ⟨k, hk, rfl⟩ | ⟨hx, -⟩
    · refine ⟨thA M p k, ?_, ?_, Inv_up hI0⟩
      · unfold f_X8_thing
        rw [h1, if_neg (by decide), if_neg (nI_pos (by omega)), if_pos (show nI k < 7 from (nI_ltI (b := 7) (by omega) (by omega)).mpr hk), p_aboutThing hW hC hp hk]
        rfl
      · unfold f_X9_thing
        rw [h2, Option.bind_some, if_neg (by decide), t1 k hk]
        rfl
    · refine ⟨-102, ?_, ?_, Inv_up hI0⟩
      · unfold f_X8_thing
        rw [h1, if_neg (by decide)]
        by_cases z : x2 < 0
        · rw [if_pos z]
        · rw [if_neg z, if_neg (show ¬ x2 < 7 from Int32.not_lt.mpr (hx.resolve_left z))]
      · unfold f_X9_thing
        rw [h2, Option.bind_some, if_neg (by decide), t2 x2 (nm_no (by omega) hx)]
        rfl
  · refine ⟨-101, ?_, ?_, Inv_up hI0⟩
    · unfold f_X8_thing
      rw [h1, if_pos rfl]
    · unfold f_X9_thing
      rw [h2, Option.bind_some, if_pos rfl]
/-- how many sizes are left, at most, by how it tilts -/
def tc (M : MD) (p w x y : Nat) : Nat := cnt (fun z => SZ M p z && decide (HW M p w x z = nI y)) 10
def tm (M : MD) (p w x : Nat) : Nat → Nat
  | 0 => 0
  | y + 1 => if tm M p w x y < tc M p w x y then tc M p w x y else tm M p w x y
def tr (M : MD) (p w : Nat) : Nat → Nat × Nat
  | 0 => (0, 11)
  | x + 1 => if (tr M p w x).2 ≤ tm M p w x 3 then tr M p w x else (x, tm M p w x 3)
theorem tm_le (M : MD) (p w x : Nat) : ∀ y, tm M p w x y ≤ 10
  | 0 => by show 0 ≤ 10; omega
  | y + 1 => by
    rw [tm]
    by_cases h : tm M p w x y < tc M p w x y
    · rw [if_pos h]; exact cnt_le _ _
    · rw [if_neg h]; exact tm_le M p w x y
theorem tr_le (M : MD) (p w : Nat) : ∀ x, (tr M p w x).2 ≤ 11
  | 0 => Nat.le_refl _
  | x + 1 => by
    rw [tr]
    by_cases h : (tr M p w x).2 ≤ tm M p w x 3
    · rw [if_pos h]; exact tr_le M p w x
    · rw [if_neg h]; have := tm_le M p w x 3; show tm M p w x 3 ≤ 11; omega
def trA (M : MD) (p w : Nat) : Int32 := if bs (SZ M p) 10 = 0 then -1 else nI (tr M p w 10).1
theorem p_try {M : MD} {s : gs_H} (hW : WF M) (hR : RC 9 M s) {p w : Nat} (hp : p < mT M) (hw : w < mR M) : f_X7_beadToTry (nI p) (nI w) s = some (trA M p w) := by
  have h5 := hW.1.r5
  have hlt := bs_lt (SZ M p) 10
  have h1024 : (2 : Nat) ^ 10 = 1024 := rfl
  unfold f_X7_beadToTry trA
  rw [p_sizesOf hW hR hp, Option.bind_some]
  by_cases z : bs (SZ M p) 10 = 0
  · rw [z, if_pos rfl]
    exact if_pos rfl
  · have z' : ¬ nI (bs (SZ M p) 10) = 0 := fun q => z ((nI_eq (b := 0) (by omega) (by omega)).mp q)
    rw [if_neg z', if_neg z]
    refine (bind_s (lp_st (fun i => (nI (tr M p w i).1, nI (tr M p w i).2, nI i)) (e := nI (tr M p w 10).1) 10 (by omega) (fun x hx => ?_) ?_ rfl)).trans rfl
    · have key : lp (b_X7_beadToTry_38 (nI p) (nI w) (nI (bs (SZ M p) 10)) (nI x) s) 1000 ((0 : Int32), (0 : Int32)) = some (nI (tm M p w x 3)) := by
        refine lp_st (fun i => (nI (tm M p w x i), nI i)) 3 (by omega) (fun y hy => ?_) ?_ rfl
        · unfold b_X7_beadToTry_38
          have q : ¬ (2 : Int32) < nI y := by rw [c2, k_lt (by omega) (by omega)]; omega
          have l1 := tm_le M p w x y
          have l2 : tc M p w x y ≤ 10 := cnt_le _ _
          dsimp only
          rw [if_neg q, p_tilting hW hR hp hw, Option.bind_some, nI_and, bs_and, bs_cnt, nI_1]
          show some (Sum.inl ((if nI (tm M p w x y) < nI (tc M p w x y) then nI (tc M p w x y) else nI (tm M p w x y)), nI (y + 1))) = _
          rw [tm]
          by_cases g : tm M p w x y < tc M p w x y
          · rw [if_pos g, if_pos ((k_lt (by omega) (by omega)).mpr g)]
          · rw [if_neg g, if_neg (fun q => g ((k_lt (by omega) (by omega)).mp q))]
        · rfl
      unfold b_X7_beadToTry_25
      dsimp only
      have q : ¬ (10 : Int32) ≤ nI x := by rw [c10, k_le (by omega) (by omega)]; omega
      have l1 := tm_le M p w x 3
      have l2 := tr_le M p w x
      rw [if_neg q, key, Option.bind_some, nI_1, tr]
      by_cases g : (tr M p w x).2 ≤ tm M p w x 3
      · rw [if_pos g, if_pos ((k_le (by omega) (by omega)).mpr g)]
      · rw [if_neg g, if_neg (fun q => g ((k_le (by omega) (by omega)).mp q))]
    · rfl
theorem p_mtry {M : MD} {s : gs_H} (hW : WF M) (hR : RM M s) {p w : Nat} (hp : p < mT M) (hw : w < mR M) : f_X9_trialOf (nI p) (nI w) s = some (trA M p w) := by
  have h5 := hW.1.r5
  have hlt := bs_lt (SZ M p) 10
  have h1024 : (2 : Nat) ^ 10 = 1024 := rfl
  unfold f_X9_trialOf trA
  rw [p_msizes hW hR hp, Option.bind_some]
  by_cases z : bs (SZ M p) 10 = 0
  · rw [z, if_pos rfl]
    refine (bind_s (lp_st (fun i => ((-1 : Int32), (11 : Int32), nI i)) (e := (-1 : Int32)) 0 (by omega) (fun x hx => by omega) ?_ rfl)).trans rfl
    rfl
  · have z' : ¬ nI (bs (SZ M p) 10) = 0 := fun q => z ((nI_eq (b := 0) (by omega) (by omega)).mp q)
    rw [if_neg z]
    refine (bind_s (lp_st (fun i => ((if i = 0 then -1 else nI (tr M p w i).1), nI (tr M p w i).2, nI i)) (e := nI (tr M p w 10).1) 10 (by omega) (fun x hx => ?_) ?_ rfl)).trans rfl
    · have key : lp (b_X9_trialOf_33 (nI p) (nI w) (nI (bs (SZ M p) 10)) (nI x) s) 1000 ((0 : Int32), (0 : Int32)) = some (nI (tm M p w x 3)) := by
        refine lp_st (fun i => (nI (tm M p w x i), nI i)) 3 (by omega) (fun y hy => ?_) ?_ rfl
        · have key2 : lp (b_X9_trialOf_45 (nI p) (nI w) (nI (bs (SZ M p) 10)) (nI x) (nI y) s) 1000 ((0 : Int32), (0 : Int32)) = some (nI (tc M p w x y)) := by
            refine lp_st (fun i => (nI (cnt (fun z => SZ M p z && decide (HW M p w x z = nI y)) i), nI i)) 10 (by omega) (fun j hj => ?_) ?_ rfl
            · unfold b_X9_trialOf_45
              have q : ¬ (10 : Int32) ≤ nI j := by rw [c10, k_le (by omega) (by omega)]; omega
              dsimp only
              rw [if_neg q, p_howIf hW hR hp hw (by omega), Option.bind_some, bs_bitI hj, nI_1, cnt]
              by_cases g : HW M p w x j = nI y
              · rw [if_pos g]
                have e : (SZ M p j && decide (HW M p w x j = nI y)) = SZ M p j := by simp [g]
                rw [e]
                show some (Sum.inl (nI _ + nI (SZ M p j).toNat, _)) = _
                rw [nI_add]
              · rw [if_neg g]
                have e : (SZ M p j && decide (HW M p w x j = nI y)) = false := by simp [g]
                rw [e]
                show some (Sum.inl (nI _ + nI 0, _)) = _
                rw [nI_add]
                rfl
            · rfl
          unfold b_X9_trialOf_33
          have q : ¬ (3 : Int32) ≤ nI y := by rw [c3, k_le (by omega) (by omega)]; omega
          have l1 := tm_le M p w x y
          have l2 : tc M p w x y ≤ 10 := cnt_le _ _
          dsimp only
          rw [if_neg q, key2, Option.bind_some, nI_1, tm]
          by_cases g : tm M p w x y < tc M p w x y
          · rw [if_pos g, if_neg (fun q => by have := (k_le (by omega) (by omega)).mp q; omega)]
          · rw [if_neg g, if_pos ((k_le (by omega) (by omega)).mpr (by omega))]
        · rfl
      unfold b_X9_trialOf_16
      dsimp only
      have q : ¬ (10 : Int32) ≤ nI x := by rw [c10, k_le (by omega) (by omega)]; omega
      have l1 := tm_le M p w x 3
      have l2 := tr_le M p w x
      rw [if_neg q, if_neg z', key, Option.bind_some]
      unfold j_X9_trialOf_124
      rw [nI_1, if_neg (show ¬ x + 1 = 0 by omega), tr]
      by_cases g : (tr M p w x).2 ≤ tm M p w x 3
      · have x0 : ¬ x = 0 := by
          rintro rfl
          have g' : 11 ≤ tm M p w 0 3 := g
          omega
        rw [if_pos g, if_pos ((k_le (by omega) (by omega)).mpr g), if_pos ((k_le (by omega) (by omega)).mpr g), if_neg x0]
      · have g2 : ¬ nI (tr M p w x).2 ≤ nI (tm M p w x 3) := fun q => g ((k_le (by omega) (by omega)).mp q)
        rw [if_neg g, if_neg g2, if_neg g2]
    · rfl
theorem pu_trial {N : Nat} {σ : gs_H} (hI : Inv N σ) (x1 x2 : Int32) : ∃ (r : Int32), f_X8_trial x1 x2 σ = some r ∧ f_X9_trial x1 x2 σ = some r ∧ Inv (N + 1) σ := by
  have hI0 := hI
  obtain ⟨M, L, pg, hW, hC, hM, hP, hQ⟩ := hI
  have h5 := hW.1.r5
  unfold f_X8_trial f_X9_trial
  rcases is_thing hC.2.1 hM.2.1 (by omega) x1 with ⟨p, hp, rfl, h1, h2⟩ | ⟨h1, h2⟩
  · rcases is_rod hC.1 hM.1 (by omega) x2 with ⟨w, hw, rfl, h3, h4⟩ | ⟨h3, h4⟩
    · refine ⟨trA M p w, ?_, ?_, Inv_up hI0⟩
      · rw [h1, if_neg (by decide), h3, if_neg (by decide), p_try hW hC hp hw]
        rfl
      · rw [h2, Option.bind_some, if_neg (by decide), h4, Option.bind_some, if_neg (by decide), p_mtry hW hM hp hw]
        rfl
    · refine ⟨-101, ?_, ?_, Inv_up hI0⟩
      · rw [h1, if_neg (by decide), h3, if_pos rfl]
      · rw [h2, Option.bind_some, if_neg (by decide), h4, Option.bind_some, if_pos rfl]
  · refine ⟨-101, ?_, ?_, Inv_up hI0⟩
    · rw [h1, if_pos rfl]
    · rw [h2, Option.bind_some, if_pos rfl]
