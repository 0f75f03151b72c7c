/-! PURE: the best exchange -/
/-- the same but at what the class searches with -/
def SE (σ s : gs_H) : Prop := ∀ k, k < 40 ∨ 56 < k → s k = σ k
theorem SE.rf {σ : gs_H} : SE σ σ := fun _ _ => rfl
theorem SE.tr {σ s u : gs_H} (h : SE σ s) (h2 : SE s u) : SE σ u := fun k hk => (h2 k hk).trans (h k hk)
theorem SE.sc {σ s : gs_H} (h : SE σ s) : SC σ s := fun k hk => h k (by omega)
theorem SE.of {X : List Nat} {σ s : gs_H} (h : Same X σ s) (hX : ∀ k, k ∈ X → 40 ≤ k ∧ k ≤ 56) : SE σ s := fun k hk => h k (fun q => by have := hX k q; omega)
theorem SE.RC9 {M : MD} {σ s : gs_H} (h : SE σ s) (hR : RC 9 M σ) : RC 9 M s := h.sc.RC9 hR
theorem SE.RMs {M : MD} {σ s : gs_H} (h : SE σ s) (hR : RM M σ) : RM M s := h.sc.RMs hR
theorem p_copyLaid {σ : gs_H} : ∃ s, f_X2_copyLaid σ = some s ∧ Same [47] σ s ∧ ∀ j, j < 6 → s 47 j = σ 12 j := by
  have key : ∃ s, lp b_X2_copyLaid_2 1000 ((0 : Int32), σ) = some s ∧ (Same [47] σ s ∧ ∀ j, j < 6 → s 47 j = σ 12 j) := by
    refine lp_ok (fun i y => y.1 = nI i ∧ Same [47] σ y.2 ∧ ∀ j, j < i → y.2 47 j = σ 12 j) 6 (by omega) _ ?_ ⟨rfl, Same.rf, fun j hj => by omega⟩
    rintro i ⟨y, s⟩ hi ⟨rfl, h1, h2⟩
    dsimp only at h1 h2
    have ea : s 12 = σ 12 := h1 12 (by simp)
    by_cases hc : i < 6
    · left
      refine ⟨hc, ?_⟩
      have hb : b_X2_copyLaid_2 (nI i, s) = some (.inl (nI (i + 1), up2 s 47 i (σ 12 i))) := by
        unfold b_X2_copyLaid_2
        have q1 : ¬ 6 ≤ i := by omega
        simp (disch := omega) only [c0, c1, c2, c3, c4, c5, c6, c7, c8, c9, c10, c11, c12, c15, c20, c24, c30, c31, c45, c46, c48, c49, c57, c60, c97, c98, c99, c100, c101, c102, c108, c111, c126, c720, c999, c10000, nI_add, pk_mul, k_cl, k_lt, k_le, k_eq, k_sub, k_div, k_m1, ea, inb_N, q1, hc, ↓reduceIte]
      refine ⟨_, hb, rfl, h1.up (by simp), fun j hj => ?_⟩
      dsimp only
      by_cases z : j = i
      · subst z; exact up2_same _ _ _ _
      · rw [up2_n2 _ z]; exact h2 j (by omega)
    · right
      have hb : b_X2_copyLaid_2 (nI i, s) = some (.inr s) := by
        unfold b_X2_copyLaid_2
        have q1 : 6 ≤ i := by omega
        simp (disch := omega) only [c0, c1, c2, c3, c4, c5, c6, c7, c8, c9, c10, c11, c12, c15, c20, c24, c30, c31, c45, c46, c48, c49, c57, c60, c97, c98, c99, c100, c101, c102, c108, c111, c126, c720, c999, c10000, nI_add, pk_mul, k_cl, k_lt, k_le, k_eq, k_sub, k_div, k_m1, q1, ↓reduceIte]
      exact ⟨_, hb, h1, fun j hj => h2 j (by omega)⟩
  obtain ⟨s, h1, h2, h3⟩ := key
  exact ⟨s, by unfold f_X2_copyLaid; rw [h1]; rfl, h2, h3⟩
/-- what the class's searcher stands on -/
def GS (M : MD) (H : Nat) (la : Nat → Nat) (σ s : gs_H) : Prop := RC 9 M s ∧ RL0 47 (mT M) la s ∧ (∀ p, p < mT M → s 46 p = wtS M H p) ∧ (∀ w, w < mR M → s 45 w = bI (TH M w)) ∧ SE σ s
theorem GS.same {M : MD} {H : Nat} {la lb : Nat → Nat} {σ s u : gs_H} {X : List Nat} (h : GS M H la σ s) (hS : Same X s u) (hX : ∀ k, k ∈ X → 40 ≤ k ∧ k ≤ 56 ∧ k ≠ 45 ∧ k ≠ 46) (hl : RL0 47 (mT M) lb u) : GS M H lb σ u := by
  obtain ⟨h1, h2, h3, h4, h5⟩ := h
  have hsc : SE s u := SE.of hS (fun k hk => by have := hX k hk; omega)
  refine ⟨hsc.RC9 h1, hl, fun p hp => ?_, fun w hw => ?_, h5.tr hsc⟩
  · rw [hS 46 (fun q => by have := hX 46 q; omega)]; exact h3 p hp
  · rw [hS 45 (fun q => by have := hX 45 q; omega)]; exact h4 w hw
def lvS (M : MD) (i j : Nat) : Nat := LV M (fun p => swN i j (mL M p)) (mH M)
theorem p_lis {M : MD} {σ s : gs_H} (hW : WF M) (hG : GS M (mH M) (mL M) σ s) {i j : Nat} (hi : i < mT M) (hj : j < mT M) : ∃ u, f_X2_levelIfSwapped (nI i) (nI j) s = some ((if mC M i || mC M j then -1 else nI (lvS M i j)), u) ∧ GS M (mH M) (mL M) σ u := by
  have h5 := hW.1.r5
  have hG0 := hG
  obtain ⟨g1, g2, g3, g4, g5⟩ := hG
  have e1 : s 15 i = bI (mC M i) := g1.2.2.2.2.2.1 i (by omega)
  have e2 : s 15 j = bI (mC M j) := g1.2.2.2.2.2.1 j (by omega)
  unfold f_X2_levelIfSwapped
  rw [if_pos (inb_I (show i < 6 by omega) (by omega)), k_cl (by omega), e1]
  cases z1 : mC M i
  · rw [if_pos (show bI false = 0 from rfl), if_pos (inb_I (show j < 6 by omega) (by omega)), k_cl (by omega), e2]
    cases z2 : mC M j
    · rw [if_pos (show bI false = 0 from rfl)]
      have hlt := hW.2.1.1
      obtain ⟨u1, a1, a2, a3⟩ := p_swapC (c := 47) (x := nI i) (y := nI j) (σ := s)
      have l1 : RL0 47 (mT M) (fun p => swN i j (mL M p)) u1 := fun p hp => by
        have := hlt p hp
        rw [a3 p (by omega), g2 p hp, swI_N (by omega) (by omega) (by omega)]
      have hG1 := hG0.same a2 (by simp) l1
      obtain ⟨u2, b1, b2, b3, b4⟩ := p_hang (S := 42) (cr := 47) (H := mH M) (by omega) (by omega) hW hG1.1 (hW.2.1.sw hi hj) l1 hG1.2.2.1
      have l2 : RL0 47 (mT M) (fun p => swN i j (mL M p)) u2 := fun p hp => by rw [b2 47 (by simp)]; exact l1 p hp
      have hG2 := hG1.same b2 (by simp) l2
      obtain ⟨u3, d1, d2, d3⟩ := p_swapC (c := 47) (x := nI i) (y := nI j) (σ := u2)
      have l3 : RL0 47 (mT M) (mL M) u3 := fun p hp => by
        have := swN_lt hi hj (hlt p hp)
        rw [d3 p (by omega), l2 p hp, swI_N (by omega) (by omega) (show swN i j (mL M p) < 1000 by omega), swN_swN]
      have hG3 := hG2.same d2 (by simp) l3
      refine ⟨u3, ?_, hG3⟩
      have e9 := p_rodsLevel (S := 42) (H := mH M) (la := fun p => swN i j (mL M p)) hW hG3.1 hG3.2.2.2.1 (fun w hw => by rw [d2 44 (by simp)]; exact b4 w hw)
      rw [a1, Option.bind_some, b1, Option.bind_some, d1, Option.bind_some, e9]
      rfl
    · refine ⟨s, ?_, hG0⟩
      rw [if_neg (show ¬ bI true = 0 by decide)]
      rfl
  · refine ⟨s, ?_, hG0⟩
    rw [if_neg (show ¬ bI true = 0 by decide)]
    rfl
/-- the best so far, when so many pairs have been looked at -/
def bx (M : MD) : Nat → Nat × Int32
  | 0 => (LV M (mL M) (mH M), -1)
  | k + 1 => if k / mT M < k % mT M ∧ mC M (k / mT M) = false ∧ mC M (k % mT M) = false ∧ (bx M k).1 < lvS M (k / mT M) (k % mT M) then (lvS M (k / mT M) (k % mT M), nI (10 * (k / mT M) + k % mT M)) else bx M k
theorem LV_le {M : MD} (hW : WF M) (la : Nat → Nat) (hr : Nat) : LV M la hr ≤ 5 := by
  have h5 := hW.1.r5
  have : LV M la hr ≤ mR M := cnt_le _ _
  omega
theorem bx_le {M : MD} (hW : WF M) : ∀ k, (bx M k).1 ≤ 5
  | 0 => LV_le hW _ _
  | k + 1 => by
    rw [bx]
    by_cases h : k / mT M < k % mT M ∧ mC M (k / mT M) = false ∧ mC M (k % mT M) = false ∧ (bx M k).1 < lvS M (k / mT M) (k % mT M)
    · rw [if_pos h]; exact LV_le hW _ _
    · rw [if_neg h]; exact bx_le hW k
theorem bx_at (M : MD) {i j : Nat} (hj : j < mT M) : bx M (i * mT M + j + 1) = if i < j ∧ mC M i = false ∧ mC M j = false ∧ (bx M (i * mT M + j)).1 < lvS M i j then (lvS M i j, nI (10 * i + j)) else bx M (i * mT M + j) := by
  have e1 : (i * mT M + j) / mT M = i := by rw [Nat.mul_comm, Nat.mul_add_div (by omega), Nat.div_eq_of_lt hj, Nat.add_zero]
  have e2 : (i * mT M + j) % mT M = j := by rw [Nat.mul_comm, Nat.mul_add_mod, Nat.mod_eq_of_lt hj]
  rw [bx, e1, e2]
theorem bx_keep (M : MD) {i : Nat} (hi : i < mT M) : ∀ n, n ≤ i + 1 → bx M (i * mT M + n) = bx M (i * mT M)
  | 0, _ => rfl
  | n + 1, hn => by
    rw [← Nat.add_assoc, bx_at M (by omega), if_neg (fun q => by omega)]
    exact bx_keep M hi n (by omega)
theorem p_best {M : MD} {σ : gs_H} (hW : WF M) (hR : RC 9 M σ) : ∃ s, f_X2_bestExchange σ = some ((bx M (mT M * mT M)).2, s) ∧ SE σ s := by
  have h5 := hW.1.r5
  obtain ⟨s1, a1, a2, a3, a4, a5, a6⟩ := p_weigh (S := 42) (by omega) hW hR
  have sc1 : SE σ s1 := SE.of a2 (by simp)
  have a7 := p_rodsLevel (S := 42) (H := mH M) (la := mL M) hW (sc1.RC9 hR) a4 a6
  obtain ⟨s2, b1, b2, b3⟩ := p_copyLaid (σ := s1)
  have hG : GS M (mH M) (mL M) σ s2 := by
    have sc2 : SE s1 s2 := SE.of b2 (by simp)
    refine ⟨sc2.RC9 (sc1.RC9 hR), fun p hp => ?_, fun p hp => ?_, fun w hw => ?_, sc1.tr sc2⟩
    · rw [b3 p (by omega)]; exact ((sc1.RC9 hR).2.2.2.2.1 p hp).1
    · rw [b2 46 (by simp)]; exact a3 p hp
    · rw [b2 45 (by simp)]; exact a4 w hw
  have key : ∃ e, lp b_X2_bestExchange_27 1000 (nI (LV M (mL M) (mH M)), (-1 : Int32), (0 : Int32), s2) = some e ∧ (e.1 = (bx M (mT M * mT M)).2 ∧ SE σ e.2) := by
    refine lp_ok (fun i y => y.1 = nI (bx M (i * mT M)).1 ∧ y.2.1 = (bx M (i * mT M)).2 ∧ y.2.2.1 = nI i ∧ GS M (mH M) (mL M) σ y.2.2.2) (mT M) (by omega) _ ?_ ⟨by rw [Nat.zero_mul]; rfl, by rw [Nat.zero_mul]; rfl, rfl, hG⟩
    rintro i ⟨y1, y2, y3, s⟩ hi ⟨rfl, rfl, rfl, hg⟩
    dsimp only at hg
    have e91 : s 9 1 = nI (mT M) := hg.1.2.1
    by_cases hc : i < mT M
    · left
      refine ⟨hc, ?_⟩
      have inner : ∃ e, lp (b_X2_bestExchange_42 (nI i)) 1000 (nI (bx M (i * mT M)).1, (bx M (i * mT M)).2, nI i + 1, s) = some e ∧ (e.1 = nI (bx M ((i + 1) * mT M)).1 ∧ e.2.1 = (bx M ((i + 1) * mT M)).2 ∧ GS M (mH M) (mL M) σ e.2.2) := by
        refine lp_ok (fun n y => y.1 = nI (bx M (i * mT M + (i + 1 + n))).1 ∧ y.2.1 = (bx M (i * mT M + (i + 1 + n))).2 ∧ y.2.2.1 = nI (i + 1 + n) ∧ GS M (mH M) (mL M) σ y.2.2.2) (mT M - (i + 1)) (by omega) _ ?_ ⟨by rw [Nat.add_zero, bx_keep M hc _ (Nat.le_refl _)], by rw [Nat.add_zero, bx_keep M hc _ (Nat.le_refl _)], nI_1 _, hg⟩
        rintro n ⟨z1, z2, z3, s'⟩ hn ⟨rfl, rfl, rfl, hg'⟩
        dsimp only at hg'
        have e91' : s' 9 1 = nI (mT M) := hg'.1.2.1
        unfold b_X2_bestExchange_42
        simp only [e91']
        by_cases hcn : i + 1 + n < mT M
        · left
          refine ⟨by omega, ?_⟩
          obtain ⟨u, f1, f2⟩ := p_lis hW hg' hc hcn
          have l1 := bx_le hW (i * mT M + (i + 1 + n))
          have l2 : lvS M i (i + 1 + n) ≤ 5 := LV_le hW _ _
          have q1 : ¬ nI (mT M) ≤ nI (i + 1 + n) := by rw [k_le (by omega) (by omega)]; omega
          have em : (10 : Int32) * nI i + nI (i + 1 + n) = nI (10 * i + (i + 1 + n)) := by rw [c10, pk_mul, nI_add]
          rw [if_neg q1, f1, Option.bind_some]
          dsimp only
          have hat := bx_at M (i := i) hcn
          by_cases zc : (mC M i || mC M (i + 1 + n)) = true
          · have hno : ¬ (i < i + 1 + n ∧ mC M i = false ∧ mC M (i + 1 + n) = false ∧ (bx M (i * mT M + (i + 1 + n))).1 < lvS M i (i + 1 + n)) := by
              rintro ⟨-, g1, g2, -⟩
              rw [g1, g2] at zc
              exact Bool.false_ne_true zc
            rw [if_neg hno] at hat
            rw [if_pos zc, if_pos (by rw [Int32.le_iff_toInt_le, nI_toInt (by omega)]; have : (-1 : Int32).toInt = -1 := rfl; omega)]
            refine ⟨_, rfl, ?_, ?_, nI_1 _, f2⟩
            · show _ = nI (bx M (i * mT M + (i + 1 + n) + 1)).1
              rw [hat]
            · show _ = (bx M (i * mT M + (i + 1 + n) + 1)).2
              rw [hat]
          · have zc1 : mC M i = false := Bool.eq_false_iff.mpr (fun h => zc (by rw [h]; rfl))
            have zc2 : mC M (i + 1 + n) = false := Bool.eq_false_iff.mpr (fun h => zc (by rw [h, Bool.or_true]))
            rw [if_neg zc]
            by_cases zl : (bx M (i * mT M + (i + 1 + n))).1 < lvS M i (i + 1 + n)
            · rw [if_pos ⟨by omega, zc1, zc2, zl⟩] at hat
              rw [if_neg (by rw [k_le (by omega) (by omega)]; omega)]
              refine ⟨_, rfl, ?_, ?_, nI_1 _, f2⟩
              · show _ = nI (bx M (i * mT M + (i + 1 + n) + 1)).1
                rw [hat]
              · show _ = (bx M (i * mT M + (i + 1 + n) + 1)).2
                rw [hat]
                exact em
            · rw [if_neg (fun q => zl q.2.2.2)] at hat
              rw [if_pos (by rw [k_le (by omega) (by omega)]; omega)]
              refine ⟨_, rfl, ?_, ?_, nI_1 _, f2⟩
              · show _ = nI (bx M (i * mT M + (i + 1 + n) + 1)).1
                rw [hat]
              · show _ = (bx M (i * mT M + (i + 1 + n) + 1)).2
                rw [hat]
        · right
          have q1 : nI (mT M) ≤ nI (i + 1 + n) := by rw [k_le (by omega) (by omega)]; omega
          rw [if_pos q1]
          have e3 : i * mT M + (i + 1 + n) = (i + 1) * mT M := by rw [Nat.succ_mul]; omega
          rw [e3]
          exact ⟨_, rfl, rfl, rfl, hg'⟩
      obtain ⟨e, f1, f2, f3, f4⟩ := inner
      unfold b_X2_bestExchange_27
      have q1 : ¬ nI (mT M) ≤ nI i := by rw [k_le (by omega) (by omega)]; omega
      simp only [e91]
      rw [if_neg q1, f1, Option.bind_some]
      exact ⟨_, rfl, f2, f3, nI_1 _, f4⟩
    · right
      have : i = mT M := by omega
      subst this
      unfold b_X2_bestExchange_27
      simp only [e91]
      rw [if_pos (Int32.le_refl _)]
      exact ⟨_, rfl, rfl, hg.2.2.2.2⟩
  obtain ⟨e, f1, f2, f3⟩ := key
  refine ⟨e.2, ?_, f3⟩
  unfold f_X2_bestExchange
  rw [a1, Option.bind_some, a7, Option.bind_some, b1, Option.bind_some, f1, Option.bind_some, f2]
theorem p_mbest {M : MD} {σ : gs_H} (hW : WF M) (hR : RM M σ) : ∃ s, f_X9_bestOf σ = some ((bx M (mT M * mT M)).2, s) ∧ SM σ s := by
  have h5 := hW.1.r5
  have hh := hW.2.2.1
  have hlt := hW.2.1.1
  obtain ⟨s1, a1, a2⟩ := p_mlevel' hW hR
  have htt : mT M * mT M ≤ 36 := Nat.mul_le_mul h5.2.1 h5.2.1
  have key : ∃ e, lp b_X9_bestOf_9 1000 (nI (LV M (mL M) (mH M)), (-1 : Int32), (0 : Int32), s1) = some e ∧ (e.1 = (bx M (mT M * mT M)).2 ∧ SM σ e.2) := by
    refine lp_ok (fun k y => y.1 = nI (bx M k).1 ∧ y.2.1 = (bx M k).2 ∧ y.2.2.1 = nI k ∧ SM σ y.2.2.2) (mT M * mT M) (by omega) _ ?_ ⟨rfl, rfl, rfl, a2⟩
    rintro k ⟨y1, y2, y3, s⟩ hk ⟨rfl, rfl, rfl, hs⟩
    dsimp only at hs
    have hRs := hs.RMs hR
    have e5 := hRs.2.1
    unfold b_X9_bestOf_9
    dsimp only
    by_cases hc : k < mT M * mT M
    · left
      refine ⟨hc, ?_⟩
      have h0 : 0 < mT M := by
        rcases Nat.eq_zero_or_pos (mT M) with z | z
        · rw [z] at hc; omega
        · exact z
      have q1 : ¬ mT M * mT M ≤ k := by omega
      have q2 : ¬ mT M = 0 := by omega
      have hi : k / mT M < mT M := Nat.div_lt_of_lt_mul hc
      have hj : k % mT M < mT M := Nat.mod_lt _ h0
      have em : k - k / mT M * mT M = k % mT M := by
        have := Nat.div_add_mod k (mT M)
        rw [Nat.mul_comm] at this
        omega
      have hle : k / mT M * mT M ≤ k := Nat.div_mul_le_self _ _
      have l1 := bx_le hW k
      have l2 : lvS M (k / mT M) (k % mT M) ≤ 5 := LV_le hW _ _
      simp (disch := omega) only [c0, c1, c2, c3, c4, c5, c6, c7, c8, c9, c10, c11, c12, c15, c20, c24, c30, c31, c45, c46, c48, c49, c57, c60, c97, c98, c99, c100, c101, c102, c108, c111, c126, c720, c999, c10000, nI_add, pk_mul, k_cl, k_lt, k_le, k_eq, k_sub, k_div, k_m1, e5, q1, q2, em, ↓reduceIte, not_false_eq_true]
      rw [isCut_eq hRs (p := k / mT M) (by omega), isCut_eq hRs (p := k % mT M) (by omega)]
      have hbx : bx M (k + 1) = if k / mT M < k % mT M ∧ mC M (k / mT M) = false ∧ mC M (k % mT M) = false ∧ (bx M k).1 < lvS M (k / mT M) (k % mT M) then (lvS M (k / mT M) (k % mT M), nI (10 * (k / mT M) + k % mT M)) else bx M k := rfl
      generalize hgi : k / mT M = i at *
      generalize hgj : k % mT M = j at *
      by_cases z0 : j ≤ i
      · rw [if_pos z0]
        rw [if_neg (fun q => by omega)] at hbx
        refine ⟨_, rfl, ?_, ?_, rfl, hs⟩
        · show _ = nI (bx M (k + 1)).1; rw [hbx]
        · show _ = (bx M (k + 1)).2; rw [hbx]
      · rw [if_neg z0]
        cases zc1 : mC M i
        · rw [if_pos (show bI false = nI 0 from rfl)]
          cases zc2 : mC M j
          · rw [if_pos (show bI false = nI 0 from rfl)]
            obtain ⟨u1, b1, b2, b3, b4⟩ := p_begin hW hRs
            obtain ⟨u2, d1, d2, d3⟩ := p_swapM (c := 65) (x := nI i) (y := nI j) (σ := u1)
            have hsm1 : SM s u1 := ⟨fun k a b _ _ => b3 k a b, fun j hj => b4 j (by rintro rfl; revert hj; decide)⟩
            have hsm2 : SM u1 u2 := SM.of d2 (by simp)
            have hB2 : RB M (fun p => swN i j (mL M p)) (mH M) u2 := by
              refine ⟨hsm2.RMs b2.1, fun p hp => ?_, by rw [d2 57 (by simp)]; exact b2.2.2⟩
              have := hlt p hp
              rw [d3 p (by omega), b2.2.1 p hp, swI_N (by omega) (by omega) (by omega)]
            obtain ⟨u3, f1, f2, -⟩ := p_levelThen hW (hW.2.1.sw hi hj) hB2 (by omega)
            have hsm3 : SM u2 u3 := SM.of f2 (by simp)
            have hall : SM σ u3 := ((hs.tr hsm1).tr hsm2).tr hsm3
            rw [b1, Option.bind_some, d1, Option.bind_some, f1, Option.bind_some]
            dsimp only
            unfold j_X9_bestOf_102
            show ∃ s', (if nI (lvS M i j) ≤ nI (bx M k).1 then (if nI (lvS M i j) ≤ nI (bx M k).1 then _ else _) else (if nI (lvS M i j) ≤ nI (bx M k).1 then _ else _)) = _ ∧ _
            by_cases zl : (bx M k).1 < lvS M i j
            · have zl' : ¬ nI (lvS M i j) ≤ nI (bx M k).1 := by rw [k_le (by omega) (by omega)]; omega
              rw [if_pos ⟨by omega, zc1, zc2, zl⟩] at hbx
              rw [if_neg zl', if_neg zl']
              refine ⟨_, rfl, ?_, ?_, nI_1 _, hall⟩
              · show _ = nI (bx M (k + 1)).1; rw [hbx]; rfl
              · show _ = (bx M (k + 1)).2; rw [hbx]
            · have zl' : nI (lvS M i j) ≤ nI (bx M k).1 := by rw [k_le (by omega) (by omega)]; omega
              rw [if_neg (fun q => zl q.2.2.2)] at hbx
              rw [if_pos zl', if_pos zl']
              refine ⟨_, rfl, ?_, ?_, nI_1 _, hall⟩
              · show _ = nI (bx M (k + 1)).1; rw [hbx]
              · show _ = (bx M (k + 1)).2; rw [hbx]
          · rw [if_neg (show ¬ bI true = nI 0 by decide)]
            rw [if_neg (fun q => by rw [zc2] at q; exact Bool.false_ne_true q.2.2.1.symm)] at hbx
            refine ⟨_, rfl, ?_, ?_, rfl, hs⟩
            · show _ = nI (bx M (k + 1)).1; rw [hbx]
            · show _ = (bx M (k + 1)).2; rw [hbx]
        · rw [if_neg (show ¬ bI true = nI 0 by decide)]
          rw [if_neg (fun q => by rw [zc1] at q; exact Bool.false_ne_true q.2.1.symm)] at hbx
          refine ⟨_, rfl, ?_, ?_, rfl, hs⟩
          · show _ = nI (bx M (k + 1)).1; rw [hbx]
          · show _ = (bx M (k + 1)).2; rw [hbx]
    · right
      have : k = mT M * mT M := by omega
      subst this
      simp only [e5, pk_mul]
      rw [if_pos (Int32.le_refl _)]
      exact ⟨_, rfl, rfl, hs⟩
  obtain ⟨e, f1, f2, f3⟩ := key
  refine ⟨e.2, ?_, f3⟩
  unfold f_X9_bestOf
  rw [a1, Option.bind_some, f1, Option.bind_some, f2]
theorem has_m' {M : MD} {σ s : gs_H} (hW : WF M) (hC : RC 9 M σ) (hM : RM M s) : (mR M = 0 ∧ f_X8_hasMobile σ = 0 ∧ f_X9_lacks s = 1) ∨ (0 < mR M ∧ f_X8_hasMobile σ = 1 ∧ f_X9_lacks s = 0) := has_m hW hC hM
theorem pu_best {N : Nat} {σ : gs_H} (hI : Inv N σ) : ∃ (r : Int32) (s1 : gs_H) (s2 : gs_H), f_X8_best σ = some (r, s1) ∧ f_X9_best s1 = some (r, s2) ∧ Inv (N + 1) s2 := by
  have hI0 := hI
  obtain ⟨M, L, pg, hW, hC, hM, hP, hQ⟩ := hI
  obtain ⟨s1, a1, a2⟩ := p_best hW hC
  obtain ⟨s2, b1, b2⟩ := p_mbest hW (a2.RMs hM)
  rcases has_m hW hC hM with ⟨h0, h1, h2⟩ | ⟨h0, h1, h2⟩
  · refine ⟨-103, σ, σ, ?_, ?_, Inv_up hI0⟩
    · unfold f_X8_best; rw [h1, if_pos rfl]
    · unfold f_X9_best; rw [h2, if_neg (by decide)]
  · have h2' : f_X9_lacks s1 = 0 := by rw [← h2]; unfold f_X9_lacks; rw [a2 57 (by omega)]
    refine ⟨(bx M (mT M * mT M)).2, s1, s2, ?_, ?_, Inv_up ((hI0.sc a2.sc).sm b2)⟩
    · unfold f_X8_best
      rw [h1, if_neg (by decide), a1]
      rfl
    · unfold f_X9_best
      rw [h2', if_pos rfl, b1]
      rfl
