/-! PURE: rod -/
theorem hgS_c {M : MD} {s : gs_H} {a : Nat} (hW : WF M) (hR : RC 9 M s) (ha : a < 2 * mR M) : f_X3_hangingFrom (nI a) s = some (hgS M a) := by
  have h5 := hW.1.r5
  have h6 := hW.1.ew ha
  have e1 : s 11 a = nI (mE M a) := (hR.2.2.2.1 a ha).2
  have q1 : a < 10 := by omega
  unfold f_X3_hangingFrom hgS
  by_cases z : 10 ≤ mE M a
  · have q2 : mE M a - 10 < mT M := by omega
    have e2 : s 12 (mE M a - 10) = nI (mL M (mE M a - 10)) := (hR.2.2.2.2.1 _ q2).1
    have q3 : mE M a - 10 < 6 := by omega
    simp (disch := omega) only [c0, c1, c2, c3, c4, c5, c6, c7, c8, c9, c10, c11, c12, c15, c20, c24, c30, c31, c45, c46, c48, c49, c57, c60, c97, c98, c99, c100, c101, c102, c108, c111, c126, c720, c999, c10000, nI_add, pk_mul, k_cl, k_lt, k_le, k_eq, k_sub, k_div, k_m1, e1, e2, inb_N, q1, q3, z, ↓reduceIte]
  · simp (disch := omega) only [c0, c1, c2, c3, c4, c5, c6, c7, c8, c9, c10, c11, c12, c15, c20, c24, c30, c31, c45, c46, c48, c49, c57, c60, c97, c98, c99, c100, c101, c102, c108, c111, c126, c720, c999, c10000, nI_add, pk_mul, k_cl, k_lt, k_le, k_eq, k_sub, k_div, k_m1, e1, inb_N, q1, z, ↓reduceIte]
theorem hgS_m {M : MD} {s : gs_H} {a : Nat} (hW : WF M) (hR : RM M s) (ha : a < 2 * mR M) : f_X9_hangsOf (nI a) s = some (hgS M a) := by
  have h5 := hW.1.r5
  have h6 := hW.1.ew ha
  have e1 : s 60 a = nI (mE M a) := (hR.2.2.2.1 a ha).2
  have q1 : a < 10 := by omega
  unfold f_X9_hangsOf hgS
  by_cases z : 10 ≤ mE M a
  · have q2 : mE M a - 10 < mT M := by omega
    have e2 : s 64 (mE M a - 10) = nI (mL M (mE M a - 10)) := (hR.2.2.2.2.1 _ q2).1
    have q3 : mE M a - 10 < 6 := by omega
    simp (disch := omega) only [c0, c1, c2, c3, c4, c5, c6, c7, c8, c9, c10, c11, c12, c15, c20, c24, c30, c31, c45, c46, c48, c49, c57, c60, c97, c98, c99, c100, c101, c102, c108, c111, c126, c720, c999, c10000, nI_add, pk_mul, k_cl, k_lt, k_le, k_eq, k_sub, k_div, k_m1, e1, e2, inb_N, q1, q3, z, ↓reduceIte]
  · simp (disch := omega) only [c0, c1, c2, c3, c4, c5, c6, c7, c8, c9, c10, c11, c12, c15, c20, c24, c30, c31, c45, c46, c48, c49, c57, c60, c97, c98, c99, c100, c101, c102, c108, c111, c126, c720, c999, c10000, nI_add, pk_mul, k_cl, k_lt, k_le, k_eq, k_sub, k_div, k_m1, e1, inb_N, q1, z, ↓reduceIte]
theorem lt11 {k : Nat} (h : k < 11) : k = 0 ∨ k = 1 ∨ k = 2 ∨ k = 3 ∨ k = 4 ∨ k = 5 ∨ k = 6 ∨ k = 7 ∨ k = 8 ∨ k = 9 ∨ k = 10 := by omega
theorem p_aboutRod {M : MD} {s : gs_H} {w k : Nat} (hW : WF M) (hR : RC 9 M s) (hw : w < mR M) (hk : k < 11) (hth : ∀ w, w < mR M → s 38 w = bI (TH M w)) (hL : ∀ a, a < 2 * mR M → s 36 a = LD M (mL M) (mH M) a) (hT : ∀ w, w < mR M → s 37 w = TI M (mL M) (mH M) w) : f_X8_aboutRod (nI w) (nI k) s = some (rodA M w k) := by
  have h5 := hW.1.r5
  have e1 : s 10 (2 * w) = nI (mN M (2 * w)) := (hR.2.2.2.1 (2 * w) (by omega)).1
  have e2 : s 10 (2 * w + 1) = nI (mN M (2 * w + 1)) := (hR.2.2.2.1 (2 * w + 1) (by omega)).1
  have l0 := hth w hw
  have l1 := hL (2 * w) (by omega)
  have l2 := hL (2 * w + 1) (by omega)
  have l3 := hT w hw
  have q0 : w < 5 := by omega
  have q1 : 2 * w < 10 := by omega
  have q2 : 2 * w + 1 < 10 := by omega
  have g1 := hgS_c hW hR (a := 2 * w) (by omega)
  have g2 := hgS_c hW hR (a := 2 * w + 1) (by omega)
  have g3 := p_hookFor hW hR hw hL
  have g4 := p_beadToAdd hW hR hw hT
  rcases lt11 hk with rfl | rfl | rfl | rfl | rfl | rfl | rfl | rfl | rfl | rfl | rfl <;> unfold f_X8_aboutRod
  · simp +decide (disch := omega) only [c0, c1, c2, c3, c4, c5, c6, c7, c8, c9, c10, c11, c12, c15, c20, c24, c30, c31, c45, c46, c48, c49, c57, c60, c97, c98, c99, c100, c101, c102, c108, c111, c126, c720, c999, c10000, nI_add, pk_mul, k_cl, k_lt, k_le, k_eq, k_sub, k_div, k_m1, e1, inb_N, q1, ↓reduceIte, rodA]
  · simp +decide (disch := omega) only [c0, c1, c2, c3, c4, c5, c6, c7, c8, c9, c10, c11, c12, c15, c20, c24, c30, c31, c45, c46, c48, c49, c57, c60, c97, c98, c99, c100, c101, c102, c108, c111, c126, c720, c999, c10000, nI_add, pk_mul, k_cl, k_lt, k_le, k_eq, k_sub, k_div, k_m1, e2, inb_N, q2, ↓reduceIte, rodA]
  · simp +decide (disch := omega) only [c0, c1, c2, c3, c4, c5, c6, c7, c8, c9, c10, c11, c12, c15, c20, c24, c30, c31, c45, c46, c48, c49, c57, c60, c97, c98, c99, c100, c101, c102, c108, c111, c126, c720, c999, c10000, nI_add, pk_mul, k_cl, k_lt, k_le, k_eq, k_sub, k_div, k_m1, g1, Option.bind_some, ↓reduceIte, rodA]
  · simp +decide (disch := omega) only [c0, c1, c2, c3, c4, c5, c6, c7, c8, c9, c10, c11, c12, c15, c20, c24, c30, c31, c45, c46, c48, c49, c57, c60, c97, c98, c99, c100, c101, c102, c108, c111, c126, c720, c999, c10000, nI_add, pk_mul, k_cl, k_lt, k_le, k_eq, k_sub, k_div, k_m1, g2, Option.bind_some, ↓reduceIte, rodA]
  · simp +decide (disch := omega) only [c0, c1, c2, c3, c4, c5, c6, c7, c8, c9, c10, c11, c12, c15, c20, c24, c30, c31, c45, c46, c48, c49, c57, c60, c97, c98, c99, c100, c101, c102, c108, c111, c126, c720, c999, c10000, nI_add, pk_mul, k_cl, k_lt, k_le, k_eq, k_sub, k_div, k_m1, l1, inb_N, q1, ↓reduceIte, rodA]
  · simp +decide (disch := omega) only [c0, c1, c2, c3, c4, c5, c6, c7, c8, c9, c10, c11, c12, c15, c20, c24, c30, c31, c45, c46, c48, c49, c57, c60, c97, c98, c99, c100, c101, c102, c108, c111, c126, c720, c999, c10000, nI_add, pk_mul, k_cl, k_lt, k_le, k_eq, k_sub, k_div, k_m1, l2, inb_N, q2, ↓reduceIte, rodA]
  · simp +decide (disch := omega) only [c0, c1, c2, c3, c4, c5, c6, c7, c8, c9, c10, c11, c12, c15, c20, c24, c30, c31, c45, c46, c48, c49, c57, c60, c97, c98, c99, c100, c101, c102, c108, c111, c126, c720, c999, c10000, nI_add, pk_mul, k_cl, k_lt, k_le, k_eq, k_sub, k_div, k_m1, l3, inb_N, q0, ↓reduceIte, rodA]
  · simp +decide (disch := omega) only [c0, c1, c2, c3, c4, c5, c6, c7, c8, c9, c10, c11, c12, c15, c20, c24, c30, c31, c45, c46, c48, c49, c57, c60, c97, c98, c99, c100, c101, c102, c108, c111, c126, c720, c999, c10000, nI_add, pk_mul, k_cl, k_lt, k_le, k_eq, k_sub, k_div, k_m1, l3, inb_N, q0, ↓reduceIte, rodA]
    by_cases z : TI M (mL M) (mH M) w = nI 0
    · simp only [z, ↓reduceIte]
    · simp only [z, ↓reduceIte]
  · simp +decide (disch := omega) only [c0, c1, c2, c3, c4, c5, c6, c7, c8, c9, c10, c11, c12, c15, c20, c24, c30, c31, c45, c46, c48, c49, c57, c60, c97, c98, c99, c100, c101, c102, c108, c111, c126, c720, c999, c10000, nI_add, pk_mul, k_cl, k_lt, k_le, k_eq, k_sub, k_div, k_m1, l0, inb_N, q0, ↓reduceIte, rodA]
    cases TH M w <;> rfl
  · simp +decide (disch := omega) only [c0, c1, c2, c3, c4, c5, c6, c7, c8, c9, c10, c11, c12, c15, c20, c24, c30, c31, c45, c46, c48, c49, c57, c60, c97, c98, c99, c100, c101, c102, c108, c111, c126, c720, c999, c10000, nI_add, pk_mul, k_cl, k_lt, k_le, k_eq, k_sub, k_div, k_m1, g3, Option.bind_some, ↓reduceIte]
  · simp +decide (disch := omega) only [c0, c1, c2, c3, c4, c5, c6, c7, c8, c9, c10, c11, c12, c15, c20, c24, c30, c31, c45, c46, c48, c49, c57, c60, c97, c98, c99, c100, c101, c102, c108, c111, c126, c720, c999, c10000, nI_add, pk_mul, k_cl, k_lt, k_le, k_eq, k_sub, k_div, k_m1, g4, Option.bind_some, ↓reduceIte]
theorem p_tellRod {M : MD} {σ : gs_H} {w : Nat} (hW : WF M) (hR : RM M σ) (hw : w < mR M) (x : Int32) : ∃ s, SM σ s ∧ (∀ k, k < 11 → x = nI k → f_X9_tellRod (nI w) x σ = some (rodA M w k, s)) ∧ ((∀ k, k < 11 → x ≠ nI k) → f_X9_tellRod (nI w) x σ = some (-102, s)) := by
  have h5 := hW.1.r5
  have hh := hW.2.2.1
  obtain ⟨s1, a1, a2, a3, a4⟩ := p_begin hW hR
  obtain ⟨s2, b1, b2, b3, b4⟩ := p_layTilts hW hW.2.1 a2 (by omega)
  have hB := a2.same b2
  refine ⟨s2, SM.tr ⟨fun k a b _ _ => a3 k a b, fun j hj => a4 j (by rintro rfl; revert hj; decide)⟩ (SM.of b2 (by simp)), fun k hk => ?_, fun hx => ?_⟩
  · have e1 : s2 59 (2 * w) = nI (mN M (2 * w)) := (hB.1.2.2.2.1 (2 * w) (by omega)).1
    have e2 : s2 59 (2 * w + 1) = nI (mN M (2 * w + 1)) := (hB.1.2.2.2.1 (2 * w + 1) (by omega)).1
    have l1 := p_hungThen hW hW.2.1 hB (by omega) (a := 2 * w) (by omega) (fun v g1 g2 => b3 v g2)
    have l2 := p_hungThen hW hW.2.1 hB (by omega) (a := 2 * w + 1) (by omega) (fun v g1 g2 => b3 v g2)
    have l3 := b4 w hw
    obtain ⟨B, t1, t2, t3, t4⟩ := p_there hW hB.1
    have l0 := bitI (B := B) (p := w) (by omega) (by omega)
    rw [t3 w hw] at l0
    have q0 : w < 5 := by omega
    have q1 : 2 * w < 10 := by omega
    have q2 : 2 * w + 1 < 10 := by omega
    have g1 := hgS_m hW hB.1 (a := 2 * w) (by omega)
    have g2 := hgS_m hW hB.1 (a := 2 * w + 1) (by omega)
    have g3 := p_hookOf hW hB hw b3
    have g4 := p_addOf hW hB.1 hw b4
    have y2 : 2 * w + 2 - 2 = 2 * w := by omega
    have y3 : 2 * w + 3 - 2 = 2 * w + 1 := by omega
    have y4 : 2 * w + 4 - 4 = 2 * w := by omega
    have y5 : 2 * w + 5 - 4 = 2 * w + 1 := by omega
    rintro rfl
    unfold f_X9_tellRod
    rw [a1, Option.bind_some, b1, Option.bind_some]
    rcases lt11 hk with rfl | rfl | rfl | rfl | rfl | rfl | rfl | rfl | rfl | rfl | rfl
    · simp +decide (disch := omega) only [c0, c1, c2, c3, c4, c5, c6, c7, c8, c9, c10, c11, c12, c15, c20, c24, c30, c31, c45, c46, c48, c49, c57, c60, c97, c98, c99, c100, c101, c102, c108, c111, c126, c720, c999, c10000, nI_add, pk_mul, k_cl, k_lt, k_le, k_eq, k_sub, k_div, k_m1, Nat.add_zero, e1, inb_N, q1, ↓reduceIte, rodA]
    · simp +decide (disch := omega) only [c0, c1, c2, c3, c4, c5, c6, c7, c8, c9, c10, c11, c12, c15, c20, c24, c30, c31, c45, c46, c48, c49, c57, c60, c97, c98, c99, c100, c101, c102, c108, c111, c126, c720, c999, c10000, nI_add, pk_mul, k_cl, k_lt, k_le, k_eq, k_sub, k_div, k_m1, e2, inb_N, q2, ↓reduceIte, rodA]
    · simp +decide (disch := omega) only [c0, c1, c2, c3, c4, c5, c6, c7, c8, c9, c10, c11, c12, c15, c20, c24, c30, c31, c45, c46, c48, c49, c57, c60, c97, c98, c99, c100, c101, c102, c108, c111, c126, c720, c999, c10000, nI_add, pk_mul, k_cl, k_lt, k_le, k_eq, k_sub, k_div, k_m1, y2, g1, Option.bind_some, ↓reduceIte, rodA]
    · simp +decide (disch := omega) only [c0, c1, c2, c3, c4, c5, c6, c7, c8, c9, c10, c11, c12, c15, c20, c24, c30, c31, c45, c46, c48, c49, c57, c60, c97, c98, c99, c100, c101, c102, c108, c111, c126, c720, c999, c10000, nI_add, pk_mul, k_cl, k_lt, k_le, k_eq, k_sub, k_div, k_m1, y3, g2, Option.bind_some, ↓reduceIte, rodA]
    · simp +decide (disch := omega) only [c0, c1, c2, c3, c4, c5, c6, c7, c8, c9, c10, c11, c12, c15, c20, c24, c30, c31, c45, c46, c48, c49, c57, c60, c97, c98, c99, c100, c101, c102, c108, c111, c126, c720, c999, c10000, nI_add, pk_mul, k_cl, k_lt, k_le, k_eq, k_sub, k_div, k_m1, y4, l1, Option.bind_some, ↓reduceIte, rodA]
      rw [Int32.add_comm]
    · simp +decide (disch := omega) only [c0, c1, c2, c3, c4, c5, c6, c7, c8, c9, c10, c11, c12, c15, c20, c24, c30, c31, c45, c46, c48, c49, c57, c60, c97, c98, c99, c100, c101, c102, c108, c111, c126, c720, c999, c10000, nI_add, pk_mul, k_cl, k_lt, k_le, k_eq, k_sub, k_div, k_m1, y5, l2, Option.bind_some, ↓reduceIte, rodA]
      rw [Int32.add_comm]
    · simp +decide (disch := omega) only [c0, c1, c2, c3, c4, c5, c6, c7, c8, c9, c10, c11, c12, c15, c20, c24, c30, c31, c45, c46, c48, c49, c57, c60, c97, c98, c99, c100, c101, c102, c108, c111, c126, c720, c999, c10000, nI_add, pk_mul, k_cl, k_lt, k_le, k_eq, k_sub, k_div, k_m1, l3, inb_N, q0, ↓reduceIte, rodA]
      rw [Int32.add_comm]
    · simp +decide (disch := omega) only [c0, c1, c2, c3, c4, c5, c6, c7, c8, c9, c10, c11, c12, c15, c20, c24, c30, c31, c45, c46, c48, c49, c57, c60, c97, c98, c99, c100, c101, c102, c108, c111, c126, c720, c999, c10000, nI_add, pk_mul, k_cl, k_lt, k_le, k_eq, k_sub, k_div, k_m1, l3, inb_N, q0, ↓reduceIte, rodA]
      by_cases z : TI M (mL M) (mH M) w = nI 0
      · simp only [z, ↓reduceIte]
      · simp only [z, ↓reduceIte]
    · rw [c1, c31] at l0
      simp +decide (disch := omega) only [c0, c1, c2, c3, c4, c5, c6, c7, c8, c9, c10, c11, c12, c15, c20, c24, c30, c31, c45, c46, c48, c49, c57, c60, c97, c98, c99, c100, c101, c102, c108, c111, c126, c720, c999, c10000, nI_add, pk_mul, k_cl, k_lt, k_le, k_eq, k_sub, k_div, k_m1, t1, l0, Option.bind_some, ↓reduceIte, rodA]
    · simp +decide (disch := omega) only [c0, c1, c2, c3, c4, c5, c6, c7, c8, c9, c10, c11, c12, c15, c20, c24, c30, c31, c45, c46, c48, c49, c57, c60, c97, c98, c99, c100, c101, c102, c108, c111, c126, c720, c999, c10000, nI_add, pk_mul, k_cl, k_lt, k_le, k_eq, k_sub, k_div, k_m1, g3, Option.bind_some, ↓reduceIte]
    · simp +decide (disch := omega) only [c0, c1, c2, c3, c4, c5, c6, c7, c8, c9, c10, c11, c12, c15, c20, c24, c30, c31, c45, c46, c48, c49, c57, c60, c97, c98, c99, c100, c101, c102, c108, c111, c126, c720, c999, c10000, nI_add, pk_mul, k_cl, k_lt, k_le, k_eq, k_sub, k_div, k_m1, g4, Option.bind_some, ↓reduceIte]
  · unfold f_X9_tellRod
    rw [a1, Option.bind_some, b1, Option.bind_some]
    rw [if_neg (show ¬ x = (0 : Int32) from hx 0 (by omega)), if_neg (show ¬ x = (1 : Int32) from hx 1 (by omega)), if_neg (show ¬ x = (2 : Int32) from hx 2 (by omega)), if_neg (show ¬ x = (3 : Int32) from hx 3 (by omega)), if_neg (show ¬ x = (4 : Int32) from hx 4 (by omega)), if_neg (show ¬ x = (5 : Int32) from hx 5 (by omega)), if_neg (show ¬ x = (6 : Int32) from hx 6 (by omega)), if_neg (show ¬ x = (7 : Int32) from hx 7 (by omega)), if_neg (show ¬ x = (8 : Int32) from hx 8 (by omega)), if_neg (show ¬ x = (9 : Int32) from hx 9 (by omega)), if_neg (show ¬ x = (10 : Int32) from hx 10 (by omega))]
theorem nm_no {x : Int32} {n : Nat} (hn : n < 1000) (h : x < 0 ∨ nI n ≤ x) : ∀ k, k < n → x ≠ nI k := by
  rintro k hk rfl
  rcases h with h | h
  · exact nI_pos (by omega) h
  · have := (nI_leI (by omega) (by omega)).mp h
    omega
theorem pu_rod {N : Nat} {σ : gs_H} (hI : Inv N σ) (x1 x2 : Int32) : ∃ (r : Int32) (s1 : gs_H) (s2 : gs_H), f_X8_rod x1 x2 σ = some (r, s1) ∧ f_X9_rod x1 x2 s1 = some (r, s2) ∧ Inv (N + 1) s2 := by
  have hI0 := hI
  obtain ⟨M, L, pg, hW, hC, hM, hP, hQ⟩ := hI
  have h5 := hW.1.r5
  rcases is_rod hC.1 hM.1 (by omega) x1 with ⟨w, hw, rfl, h1, h2⟩ | ⟨h1, h2⟩
  · rcases nm_of (x := x2) (n := 11) (by omega) with ⟨k, hk, rfl⟩ | ⟨hx, -⟩
    · obtain ⟨s1, g1, g2, -, g4, g5, g6⟩ := p_weigh (S := 35) (by omega) hW hC
      have gS : SC σ s1 := SC.of g2 (by simp)
      have hI1 := hI0.sc gS
      obtain ⟨s2, f1, f2, -⟩ := p_tellRod hW (gS.RMs hM) hw (nI k)
      refine ⟨rodA M w k, s1, s2, ?_, ?_, Inv_up (hI1.sm f1)⟩
      · unfold f_X8_rod
        rw [h1, if_neg (by decide), if_neg (nI_pos (by omega)), if_pos (show nI k < 11 from (nI_ltI (b := 11) (by omega) (by omega)).mpr hk), g1, Option.bind_some, p_aboutRod hW (gS.RC9 hC) hw hk g4 g5 g6]
        rfl
      · unfold f_X9_rod
        have h2' : f_X9_isRod (nI w) s1 = some 1 := by rw [← h2]; unfold f_X9_isRod; rw [gS 57 (by omega)]
        rw [h2', Option.bind_some, if_neg (by decide), f2 k hk rfl]
        rfl
    · obtain ⟨s2, f1, -, f2⟩ := p_tellRod hW hM hw x2
      refine ⟨-102, σ, s2, ?_, ?_, Inv_up (hI0.sm f1)⟩
      · unfold f_X8_rod
        rw [h1, if_neg (by decide)]
        by_cases z : x2 < 0
        · rw [if_pos z]
        · rw [if_neg z, if_neg (show ¬ x2 < 11 from Int32.not_lt.mpr (hx.resolve_left z))]
      · unfold f_X9_rod
        rw [h2, Option.bind_some, if_neg (by decide), f2 (nm_no (by omega) hx)]
        rfl
  · refine ⟨-101, σ, σ, ?_, ?_, Inv_up hI0⟩
    · unfold f_X8_rod
      rw [h1, if_pos rfl]
    · unfold f_X9_rod
      rw [h2, Option.bind_some, if_pos rfl]
