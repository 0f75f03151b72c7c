/-! PURE: the best laying -/
def bl (M : MD) : Nat → Nat × Int32 × Nat
  | 0 => (0, 0, 0)
  | k + 1 => if k = 0 ∨ (bl M k).1 < LV M (laK M k) (mH M) ∨ (LV M (laK M k) (mH M) = (bl M k).1 ∧ TT M (laK M k) (mH M) (mR M) < (bl M k).2.1) then (LV M (laK M k) (mH M), TT M (laK M k) (mH M) (mR M), k) else bl M k
theorem bl_le {M : MD} (hW : WF M) : ∀ k, (bl M k).1 ≤ 5 ∧ (bl M k).2.2 ≤ k ∧ (0 < k → (bl M k).2.2 < k)
  | 0 => ⟨by show 0 ≤ 5; omega, Nat.le_refl _, fun h => by omega⟩
  | k + 1 => by
    have ih := bl_le hW k
    rw [bl]
    by_cases h : k = 0 ∨ (bl M k).1 < LV M (laK M k) (mH M) ∨ (LV M (laK M k) (mH M) = (bl M k).1 ∧ TT M (laK M k) (mH M) (mR M) < (bl M k).2.1)
    · rw [if_pos h]
      exact ⟨LV_le hW _ _, by show k ≤ k + 1; omega, fun _ => by show k < k + 1; omega⟩
    · rw [if_neg h]
      exact ⟨ih.1, by omega, fun _ => by omega⟩
def tk (M : MD) (no p : Nat) : Int32 := if p < mT M ∧ lo M p = true then nI (laK M no p) else -1
theorem p_37 {σ : gs_H} : ∃ s, lp b_X2_keepIfBetter_37 1000 ((0 : Int32), σ) = some s ∧ (Same [41] σ s ∧ ∀ j, j < 6 → s 41 j = -1) := by
  refine lp_ok (fun i y => y.1 = nI i ∧ Same [41] σ y.2 ∧ ∀ j, j < i → y.2 41 j = -1) 6 (by omega) _ ?_ ⟨rfl, Same.rf, fun j hj => by omega⟩
  rintro i ⟨y, s⟩ hi ⟨rfl, h1, h2⟩
  dsimp only at h1 h2
  unfold b_X2_keepIfBetter_37
  dsimp only
  by_cases hc : i < 6
  · left
    have q1 : ¬ (6 : Int32) ≤ nI i := by rw [c6, k_le (by omega) (by omega)]; omega
    rw [if_neg q1, if_pos (inb_I hc (by omega)), k_cl (by omega), nI_1]
    refine ⟨hc, _, rfl, rfl, h1.up (by simp), fun j hj => ?_⟩
    dsimp only
    by_cases z : j = i
    · subst z; exact up2_same _ _ _ _
    · rw [up2_n2 _ z]; exact h2 j (by omega)
  · right
    have q1 : (6 : Int32) ≤ nI i := by rw [c6, k_le (by omega) (by omega)]; omega
    rw [if_pos q1]
    exact ⟨_, rfl, h1, fun j hj => h2 j (by omega)⟩
theorem p_repl {M : MD} {σ s : gs_H} {k : Nat} (hW : WF M) (hG : GO M σ k s) (hk : k < fa (NL M)) (x1 x2 : Int32) : ∃ u, ((lp (b_X2_keepIfBetter_37) 1000 ((0 : Int32), (up2 (up2 s 40 0 x1) 40 1 x2))).bind fun q6 => (lp (b_X2_keepIfBetter_58) 1000 ((0 : Int32), q6)).bind fun q7 => some q7) = some u ∧ GO M σ k u ∧ u 40 0 = x1 ∧ u 40 1 = x2 ∧ ∀ p, p < 6 → u 41 p = tk M k p := by
  have h5 := hW.1.r5
  obtain ⟨u1, a1, a2, a3⟩ := p_37 (σ := up2 (up2 s 40 0 x1) 40 1 x2)
  have hG1 : GO M σ k u1 := ((hG.u40 (j := 0) (by omega)).u40 (j := 1) (by omega)).same a2 (by simp)
  obtain ⟨u2, b1, b2, b3, b4, b5⟩ := p_put (σ := u1) (Or.inr ⟨rfl, rfl⟩) hW hG1.2.2.1 hG1.2.2.2.2.1 (hG1.2.2.2.2.2.1 hk)
  refine ⟨u2, ?_, hG1.same b2 (by simp), ?_, ?_, fun p hp => ?_⟩
  · rw [a1, Option.bind_some, b1]
    rfl
  · rw [b2 40 (by simp), a2 40 (by simp), up2_n2 _ (by omega), up2_same]
  · rw [b2 40 (by simp), a2 40 (by simp), up2_same]
  · unfold tk
    by_cases z : p < mT M
    · cases hl : lo M p
      · rw [if_neg (fun q => by cases q.2), b4 p z hl]; exact a3 p hp
      · rw [if_pos ⟨z, rfl⟩, b3 p z hl, laK_t hl]
    · rw [if_neg (fun q => z q.1), b5 p (by omega)]; exact a3 p hp
def KB (M : MD) (k : Nat) (s : gs_H) : Prop := (k = 0 → s 40 0 = -1) ∧ (0 < k → s 40 0 = nI (bl M k).1 ∧ s 40 1 = (bl M k).2.1 ∧ ∀ p, p < 6 → s 41 p = tk M (bl M k).2.2 p)
theorem p_keep {M : MD} {σ s : gs_H} {k : Nat} (hW : WF M) (hG : GO M σ k s) (hk : k < fa (NL M)) (hK : KB M k s) : ∃ u, f_X2_keepIfBetter (nI (LV M (laK M k) (mH M))) (TT M (laK M k) (mH M) (mR M)) s = some u ∧ GO M σ k u ∧ KB M (k + 1) u := by
  have hLV := LV_le hW (laK M k) (mH M)
  obtain ⟨u, a1, a2, a3, a4, a5⟩ := p_repl hW hG hk (nI (LV M (laK M k) (mH M))) (TT M (laK M k) (mH M) (mR M))
  have hbl := bl_le hW k
  have ebl : bl M (k + 1) = if k = 0 ∨ (bl M k).1 < LV M (laK M k) (mH M) ∨ (LV M (laK M k) (mH M) = (bl M k).1 ∧ TT M (laK M k) (mH M) (mR M) < (bl M k).2.1) then (LV M (laK M k) (mH M), TT M (laK M k) (mH M) (mR M), k) else bl M k := rfl
  have yes : bl M (k + 1) = (LV M (laK M k) (mH M), TT M (laK M k) (mH M) (mR M), k) → KB M (k + 1) u := fun e => ⟨fun q => by omega, fun _ => by rw [e]; exact ⟨a3, a4, a5⟩⟩
  unfold f_X2_keepIfBetter
  rcases Nat.eq_zero_or_pos k with z | z
  · have e0 := hK.1 z
    rw [if_pos (Or.inl z)] at ebl
    have n1 : ¬ nI (LV M (laK M k) (mH M)) < s 40 0 := by
      rw [e0, Int32.lt_iff_toInt_lt, nI_toInt (by omega)]
      have : (-1 : Int32).toInt = -1 := rfl
      omega
    have n2 : ¬ nI (LV M (laK M k) (mH M)) = s 40 0 := by
      rw [e0]
      intro q
      have := congrArg Int32.toInt q
      rw [nI_toInt (by omega)] at this
      have : (-1 : Int32).toInt = -1 := rfl
      omega
    rw [if_neg n1, if_neg n2]
    exact ⟨u, a1, a2, yes ebl⟩
  · obtain ⟨k1, k2, k3⟩ := hK.2 z
    rw [k1, k2]
    by_cases z1 : LV M (laK M k) (mH M) < (bl M k).1
    · rw [if_neg (by omega)] at ebl
      rw [if_pos ((k_lt (by omega) (by omega)).mpr z1)]
      exact ⟨s, rfl, hG, fun q => by omega, fun _ => by rw [ebl]; exact ⟨k1, k2, k3⟩⟩
    · rw [if_neg (fun q => z1 ((k_lt (by omega) (by omega)).mp q))]
      by_cases z2 : LV M (laK M k) (mH M) = (bl M k).1
      · rw [if_pos (congrArg nI z2)]
        by_cases z3 : TT M (laK M k) (mH M) (mR M) < (bl M k).2.1
        · rw [if_pos (Or.inr (Or.inr ⟨z2, z3⟩))] at ebl
          rw [if_pos z3]
          exact ⟨u, a1, a2, yes ebl⟩
        · rw [if_neg (fun q => q.elim (fun q => by omega) (fun q => q.elim (fun q => by omega) (fun q => z3 q.2)))] at ebl
          rw [if_neg z3]
          exact ⟨s, rfl, hG, fun q => by omega, fun _ => by rw [ebl]; exact ⟨k1, k2, k3⟩⟩
      · rw [if_pos (Or.inr (Or.inl (by omega)))] at ebl
        rw [if_neg (fun q => z2 ((nI_eq (by omega) (by omega)).mp q))]
        exact ⟨u, a1, a2, yes ebl⟩
theorem p_findBest {M : MD} {σ : gs_H} (hW : WF M) (hR : RC 9 M σ) : ∃ s, f_X2_findBestLaying σ = some s ∧ SE σ s ∧ KB M (fa (NL M)) s := by
  have h5 := hW.1.r5
  have hF := fa_le (NL_6 hW)
  have hF0 := fa_pos (NL M)
  obtain ⟨s1, a1, a2⟩ := p_begO hW hR
  have key : ∃ e, lp b_X2_findBestLaying_12 1000 ((0 : Int32), up2 s1 40 0 (-1 : Int32)) = some e ∧ (GO M σ (fa (NL M)) e ∧ KB M (fa (NL M)) e) := by
    refine lp_ok (fun k y => y.1 = nI k ∧ GO M σ k y.2 ∧ KB M k y.2) (fa (NL M)) (by omega) _ ?_ ⟨rfl, a2.u40 (by omega), fun _ => by dsimp only; exact up2_same _ _ _ _, fun q => by omega⟩
    rintro k ⟨y, s⟩ hk ⟨rfl, hG, hK⟩
    dsimp only at hG hK
    have e10 := hG.2.2.2.1
    unfold b_X2_findBestLaying_12
    by_cases hc : k < fa (NL M)
    · left
      refine ⟨hc, ?_⟩
      obtain ⟨u1, b1, b2, b3, b4, b5⟩ := p_layIn hW hG hc
      obtain ⟨u2, d1, d2, d3, d4⟩ := p_hang (S := 42) (cr := 47) (H := mH M) (by omega) (by omega) hW b3.2.1 (laK_WP hW hc) b2 b3.2.2.2.2.2.2.1
      have hG2 := b3.same d2 (by simp)
      have hK2 : KB M k u2 := by
        unfold KB
        rw [d2 40 (by simp), d2 41 (by simp), b4, b5]
        exact hK
      have e1 := p_rodsLevel (S := 42) (H := mH M) (la := laK M k) hW hG2.2.1 hG2.2.2.2.2.2.2.2.1 d4
      have e2 := p_tiltTogether (H := mH M) (la := laK M k) hW hG2.2.1 hG2.2.2.2.2.2.2.2.1 d4
      obtain ⟨u3, m1, m2, m3⟩ := p_keep hW hG2 hc hK2
      obtain ⟨u4, f1, f2, f3⟩ := p_nextG hW m2 hc
      have q1 : ¬ nI (fa (NL M)) ≤ nI k := by rw [k_le (by omega) (by omega)]; omega
      simp only [e10]
      rw [if_neg q1, b1, Option.bind_some, d1, Option.bind_some, e1, Option.bind_some, e2, Option.bind_some, m1, Option.bind_some, f1, Option.bind_some]
      refine ⟨_, rfl, nI_1 _, f3, ?_⟩
      unfold KB
      dsimp only
      rw [f2 40 (by simp), f2 41 (by simp)]
      exact m3
    · right
      have : k = fa (NL M) := by omega
      subst this
      simp only [e10]
      rw [if_pos (Int32.le_refl _)]
      exact ⟨_, rfl, hG, hK⟩
  obtain ⟨e, f1, f2, f3⟩ := key
  refine ⟨e, ?_, f2.1, f3⟩
  unfold f_X2_findBestLaying
  rw [a1, Option.bind_some, f1]
  rfl
theorem p_tiltsAll {M : MD} {la : Nat → Nat} {hr : Nat} {s : gs_H} (hW : WF M) (hR : RM M s) (hT : ∀ w, w < mR M → s 67 w = TI M la hr w) : f_X9_tiltsAll s = some (TT M la hr (mR M)) := by
  have h5 := hW.1.r5
  obtain ⟨B, b1, b2, b3, b4⟩ := p_there hW hR
  unfold f_X9_tiltsAll
  rw [b1, Option.bind_some]
  refine (bind_s (lp_st (fun i => (TT M la hr i, nI i)) (e := TT M la hr (mR M)) (mR M) (by omega) (fun i hi => ?_) ?_ rfl)).trans rfl
  · have e2 := hT i hi
    have e3 := hR.1
    have eb := bitI (B := B) (p := i) (by omega) (by omega)
    rw [b3 i hi] at eb
    have q1 : ¬ nI (mR M) ≤ nI i := by rw [k_le (by omega) (by omega)]; omega
    unfold b_X9_tiltsAll_9 j_X9_tiltsAll_43
    simp only [e3, k_cl (show i < 2147483648 by omega), e2, eb]
    rw [if_neg q1, if_pos (inb_I (show i < 5 by omega) (by omega)), if_pos (inb_I (show i < 5 by omega) (by omega)), nI_1, TT]
    unfold abI
    by_cases z : 0 ≤ TI M la hr i
    · rw [if_pos z, if_pos z]
      cases TH M i
      · rw [if_neg (show ¬ bI false = 1 by decide)]; rfl
      · rw [if_pos (show bI true = 1 by decide)]; rfl
    · rw [if_neg z, if_neg z, if_pos (inb_I (show i < 5 by omega) (by omega))]
      cases TH M i
      · rw [if_neg (show ¬ bI false = 1 by decide)]; rfl
      · rw [if_pos (show bI true = 1 by decide)]; rfl
  · unfold b_X9_tiltsAll_9
    rw [hR.1, if_pos (Int32.le_refl _)]
def IB (M : MD) (k : Nat) (y : Int32 × Int32 × Int32) : Prop := (k = 0 → y = (0, -1, 0)) ∧ (0 < k → y = (nI (bl M k).2.2, nI (bl M k).1, (bl M k).2.1))
theorem p_mbestLay {M : MD} {σ : gs_H} (hW : WF M) (hR : RM M σ) : ∃ s, lp b_X9_layOf_10 1000 ((0 : Int32), (-1 : Int32), (0 : Int32), (0 : Int32), σ) = some (nI (bl M (fa (NL M))).2.2, nI (bl M (fa (NL M))).1, (bl M (fa (NL M))).2.1, s) ∧ SM σ s := by
  have h5 := hW.1.r5
  have hh := hW.2.2.1
  have hF := fa_le (NL_6 hW)
  have hF0 := fa_pos (NL M)
  have efa := fa_lp ⟨NL M, by have := NL_6 hW; omega⟩
  dsimp only at efa
  have key : ∃ e, lp b_X9_layOf_10 1000 ((0 : Int32), (-1 : Int32), (0 : Int32), (0 : Int32), σ) = some e ∧ (e.1 = nI (bl M (fa (NL M))).2.2 ∧ e.2.1 = nI (bl M (fa (NL M))).1 ∧ e.2.2.1 = (bl M (fa (NL M))).2.1 ∧ SM σ e.2.2.2) := by
    refine lp_ok (fun k y => IB M k (y.1, y.2.1, y.2.2.1) ∧ y.2.2.2.1 = nI k ∧ SM σ y.2.2.2.2) (fa (NL M)) (by omega) _ ?_ ⟨⟨fun _ => rfl, fun q => by omega⟩, rfl, SM.rf⟩
    rintro k ⟨y1, y2, y3, y4, s⟩ hk ⟨hB, rfl, hs⟩
    dsimp only at hB hs
    have hRs := hs.RMs hR
    obtain ⟨l1, l2⟩ := p_loose hW hRs
    unfold b_X9_layOf_10
    dsimp only
    rw [l2, Option.bind_some, efa, Option.bind_some]
    by_cases hc : k < fa (NL M)
    · left
      refine ⟨hc, ?_⟩
      have q1 : ¬ nI (fa (NL M)) ≤ nI k := by rw [k_le (by omega) (by omega)]; omega
      obtain ⟨u1, d1, d2, d3⟩ := p_layOrder hW hRs hc
      obtain ⟨u2, f1, f2, f3, f4⟩ := p_levelThen hW (laK_WP hW hc) d2 (by omega)
      have hall : SM σ u2 := (hs.tr d3).tr (SM.of f2 (by simp))
      have f5 := p_tiltsAll hW (hall.RMs hR) f4
      have hLV := LV_le hW (laK M k) (mH M)
      have hbl := bl_le hW k
      have ebl : bl M (k + 1) = if k = 0 ∨ (bl M k).1 < LV M (laK M k) (mH M) ∨ (LV M (laK M k) (mH M) = (bl M k).1 ∧ TT M (laK M k) (mH M) (mR M) < (bl M k).2.1) then (LV M (laK M k) (mH M), TT M (laK M k) (mH M) (mR M), k) else bl M k := rfl
      rw [if_neg q1, d1, Option.bind_some, f1, Option.bind_some]
      dsimp only
      rw [f5, Option.bind_some]
      rcases Nat.eq_zero_or_pos k with z | z
      · have e0 := hB.1 z
        have e1 : y2 = -1 := congrArg (fun t => t.2.1) e0
        rw [if_pos (Or.inl z)] at ebl
        rw [if_pos (show y2 < nI (LV M (laK M k) (mH M)) by
          rw [e1, Int32.lt_iff_toInt_lt, nI_toInt (by omega)]
          have : (-1 : Int32).toInt = -1 := rfl
          omega)]
        exact ⟨_, rfl, ⟨fun q => by omega, fun _ => by rw [ebl]⟩, nI_1 _, hall⟩
      · have e0 := hB.2 z
        obtain ⟨rfl, e01⟩ := Prod.mk.inj e0
        obtain ⟨rfl, rfl⟩ := Prod.mk.inj e01
        by_cases z1 : (bl M k).1 < LV M (laK M k) (mH M)
        · rw [if_pos (Or.inr (Or.inl z1))] at ebl
          rw [if_pos ((k_lt (by omega) (by omega)).mpr z1)]
          exact ⟨_, rfl, ⟨fun q => by omega, fun _ => by rw [ebl]⟩, nI_1 _, hall⟩
        · rw [if_neg (fun q => z1 ((k_lt (by omega) (by omega)).mp q))]
          by_cases z2 : LV M (laK M k) (mH M) = (bl M k).1
          · rw [if_pos (congrArg nI z2)]
            by_cases z3 : TT M (laK M k) (mH M) (mR M) < (bl M k).2.1
            · rw [if_pos (Or.inr (Or.inr ⟨z2, z3⟩))] at ebl
              rw [if_neg (Int32.not_le.mpr z3)]
              exact ⟨_, rfl, ⟨fun q => by omega, fun _ => by rw [ebl]⟩, nI_1 _, hall⟩
            · rw [if_neg (fun q => q.elim (fun q => by omega) (fun q => q.elim (fun q => by omega) (fun q => z3 q.2)))] at ebl
              rw [if_pos (Int32.not_lt.mp z3)]
              exact ⟨_, rfl, ⟨fun q => by omega, fun _ => by rw [ebl]⟩, nI_1 _, hall⟩
          · rw [if_neg (by omega)] at ebl
            rw [if_neg (fun q => z2 ((nI_eq (by omega) (by omega)).mp q))]
            exact ⟨_, rfl, ⟨fun q => by omega, fun _ => by rw [ebl]⟩, nI_1 _, hall⟩
    · right
      have : k = fa (NL M) := by omega
      subst this
      rw [if_pos (Int32.le_refl _)]
      have e0 := hB.2 hF0
      obtain ⟨rfl, e01⟩ := Prod.mk.inj e0
      obtain ⟨rfl, rfl⟩ := Prod.mk.inj e01
      exact ⟨_, rfl, rfl, rfl, rfl, hs⟩
  obtain ⟨⟨e1, e2, e3, e4⟩, f1, f2, f3, f4, f5⟩ := key
  dsimp only at f2 f3 f4 f5
  subst f2 f3 f4
  exact ⟨e4, f1, f5⟩
theorem SE.u57 {a b : gs_H} {j : Nat} {v : Int32} (h : SE a b) : SE (up2 a 57 j v) (up2 b 57 j v) := by
  intro k hk
  funext i
  rw [up2_at, up2_at, h k hk]
theorem Inv_lay {N y : Nat} {σ : gs_H} (hI : Inv N σ) (h9 : σ 0 9 = nI y) (hy : y < 20) : Inv N (up2 (up2 σ 0 9 (nI (y + 1))) 57 20 (nI (y + 1))) := by
  obtain ⟨M, L, pg, hW, hC, hM, hP, c, y', h1, h2, h3, h4, h5, h6, h7⟩ := hI
  have ec : ∀ k, k ≠ 0 → k ≠ 57 → up2 (up2 σ 0 9 (nI (y + 1))) 57 20 (nI (y + 1)) k = σ k := fun k a b => by rw [up2_ne _ _ _ b, up2_ne _ _ _ a]
  have ej : ∀ j, j ≠ 20 → up2 (up2 σ 0 9 (nI (y + 1))) 57 20 (nI (y + 1)) 57 j = σ 57 j := fun j a => by rw [up2_n2 _ a, up2_n1 _ (by omega)]
  have e0 : ∀ j, j ≠ 9 → up2 (up2 σ 0 9 (nI (y + 1))) 57 20 (nI (y + 1)) 0 j = σ 0 j := fun j a => by rw [up2_n1 _ (by omega), up2_n2 _ a]
  refine ⟨M, L, pg, hW, hC.eq9 (fun k h1 h2 => ec k (by omega) (by omega)), hM.eqs (fun k h1 h2 => ec k (by omega) (by omega)) (fun j hj => ej j (by omega)), hP.same (ec 1 (by omega) (by omega)) (ec 2 (by omega) (by omega)) (ec 58 (by omega) (by omega)) (ej 1 (by omega)), c, y + 1, h1, by omega, by rw [e0 8 (by omega)]; exact h3, by rw [ej 7 (by omega)]; exact h4, by rw [up2_n1 _ (by omega), up2_same], by rw [up2_same], ?_⟩
  rw [e0 7 (by omega), ej 24 (by omega)]
  rcases h7 with ⟨a1, a2, K, a3, a4, a5, a6, a7, a8⟩ | h7
  · refine Or.inl ⟨a1, a2, K, a3, a4, a5, a6, ?_, ?_⟩
    · exact a7.same (X := [0, 57]) (fun k hk => ec k (by rintro rfl; simp at hk) (by rintro rfl; simp at hk)) (by simp)
    · unfold RK
      rw [ej 25 (by omega), ej 26 (by omega), ej 27 (by omega), ej 28 (by omega), ec 69 (by omega) (by omega), ec 70 (by omega) (by omega), ec 71 (by omega) (by omega), ec 72 (by omega) (by omega), ec 73 (by omega) (by omega)]
      exact a8
  · exact Or.inr h7
theorem in1015 (x : Int32) : f_X9_in x.toInt64 (10 : Int64) (15 : Int64) = if 10 ≤ x ∧ x ≤ 15 then 1 else 0 := in_eq x 10 15
def lyA (M : MD) (x : Nat) : Int32 := if x = 0 then nI (bl M (fa (NL M))).1 else if x = 1 then (bl M (fa (NL M))).2.1 else tk M (bl M (fa (NL M))).2.2 (x - 10)
theorem p_layOf {M : MD} {σ : gs_H} (hW : WF M) (hR : RM M σ) {x : Nat} (hx : x ≤ 1 ∨ (10 ≤ x ∧ x ≤ 15)) : ∃ s, f_X9_layOf (nI x) σ = some (lyA M x, s) ∧ SM σ s := by
  have h5 := hW.1.r5
  have hF0 := fa_pos (NL M)
  obtain ⟨s1, a1, a2⟩ := p_mbestLay hW hR
  have hbl := (bl_le hW (fa (NL M))).2.2 hF0
  unfold f_X9_layOf lyA
  rw [a1, Option.bind_some]
  dsimp only
  rcases (show x = 0 ∨ x = 1 ∨ (10 ≤ x ∧ x ≤ 15) by omega) with rfl | rfl | hx2
  · exact ⟨s1, rfl, a2⟩
  · exact ⟨s1, rfl, a2⟩
  · obtain ⟨s2, b1, b2, b3⟩ := p_layOrder hW (a2.RMs hR) hbl
    refine ⟨s2, ?_, a2.tr b3⟩
    have q2 : (2 : Int32) ≤ nI x := by rw [c2, k_le (by omega) (by omega)]; omega
    have ex : nI x - 10 = nI (x - 10) := by rw [c10, k_sub (by omega)]
    rw [if_pos q2, b1, Option.bind_some, ex, b2.1.2.1, if_neg (show ¬ x = 0 by omega), if_neg (show ¬ x = 1 by omega)]
    unfold tk
    by_cases z : x - 10 < mT M
    · have hlt := hW.2.1.1 (x - 10) z
      have e64 : s2 64 (x - 10) = nI (mL M (x - 10)) := (b2.1.2.2.2.2.1 _ z).1
      have e65 := b2.2.1 (x - 10) z
      rw [if_neg (by rw [k_le (by omega) (by omega)]; omega), if_pos (inb_I (show x - 10 < 6 by omega) (by omega))]
      simp only [k_cl (show x - 10 < 2147483648 by omega), e64, isCut_eq b2.1 (show mL M (x - 10) < 6 by omega), e65]
      cases hl : lo M (x - 10)
      · rw [lo_f.mp hl, if_neg (show ¬ bI true = 0 by decide), if_neg (fun q => by cases q.2)]
      · rw [lo_t.mp hl, if_pos (show bI false = 0 from rfl), if_pos (inb_I (show x - 10 < 6 by omega) (by omega)), if_pos ⟨z, rfl⟩]
    · rw [if_pos (by rw [k_le (by omega) (by omega)]; omega), if_neg (fun q => z q.1)]
theorem pu_lay {N : Nat} {σ : gs_H} (hI : Inv N σ) (x1 : Int32) : ∃ (r : Int32) (s1 : gs_H) (s2 : gs_H), f_X8_lay x1 σ = some (r, s1) ∧ f_X9_lay x1 s1 = some (r, s2) ∧ Inv (N + 1) s2 := by
  have hI0 := hI
  obtain ⟨M, L, pg, hW, hC, hM, hP, hQ⟩ := hI
  have hF0 := fa_pos (NL M)
  obtain ⟨c, y, h1, h2, h3, h4, h5, h6, -⟩ := hQ
  by_cases hx : (0 ≤ x1 ∧ x1 ≤ 1) ∨ (10 ≤ x1 ∧ x1 ≤ 15)
  · obtain ⟨x, hx2, rfl⟩ : ∃ x : Nat, (x ≤ 1 ∨ (10 ≤ x ∧ x ≤ 15)) ∧ x1 = nI x := by
      rcases hx with ⟨g1, g2⟩ | ⟨g1, g2⟩
      · obtain ⟨j, -, hj, rfl⟩ := rng (a := 0) (b := 1) g1 g2 (by omega) (by omega)
        exact ⟨j, Or.inl hj, rfl⟩
      · obtain ⟨j, hj0, hj, rfl⟩ := rng (a := 10) (b := 15) g1 g2 (by omega) (by omega)
        exact ⟨j, Or.inr ⟨hj0, hj⟩, rfl⟩
    have ec : f_X8_lay (nI x) σ = j_X8_lay_34 (nI x) (if x ≤ 1 then 0 else 1) σ := by
      unfold f_X8_lay j_X8_lay_16 j_X8_lay_17
      rcases (show x = 0 ∨ x = 1 ∨ (10 ≤ x ∧ x ≤ 15) by omega) with rfl | rfl | hx3
      · rfl
      · rfl
      · have q1 : ¬ nI x < 10 := by rw [c10, k_lt (by omega) (by omega)]; omega
        have q2 : ¬ (16 : Int32) ≤ nI x := by rw [show (16 : Int32) = nI 16 from rfl, k_le (by omega) (by omega)]; omega
        have q3 : ¬ nI x = 0 := by rw [c0, k_eq (by omega) (by omega)]; omega
        have q4 : ¬ nI x = 1 := by rw [c1, k_eq (by omega) (by omega)]; omega
        rw [if_neg q1, if_neg q2, if_neg q3, if_neg q4, if_neg (by decide), if_neg (show ¬ x ≤ 1 by omega)]
    have em : ∀ s, f_X9_lay (nI x) s = j_X9_lay_27 (nI x) s := by
      intro s
      unfold f_X9_lay
      rw [in01, in1015]
      by_cases g : (0 : Int32) ≤ nI x ∧ nI x ≤ 1
      · rw [if_pos g, if_neg (by decide)]
      · rw [if_neg g, if_pos rfl, if_pos (hx.resolve_left g), if_neg (by decide)]
    rw [ec]
    unfold j_X8_lay_34
    rcases has_m hW hC hM with ⟨g0, g1, g2⟩ | ⟨g0, g1, g2⟩
    · refine ⟨-103, σ, σ, ?_, ?_, Inv_up hI0⟩
      · rw [g1, if_pos rfl]
      · rw [em]; unfold j_X9_lay_27; rw [g2, if_neg (by decide)]
    · rw [g1, if_neg (by decide), h5]
      by_cases hy : y < 20
      · have hI1 := Inv_lay hI0 h5 hy
        have hC1 : RC 9 M (up2 σ 0 9 (nI (y + 1))) := hC.eq9 (fun k h1 h2 => up2_ne _ _ _ (by omega))
        obtain ⟨s1, a1, a2, -, a3⟩ := p_findBest hW hC1
        obtain ⟨k1, k2, k3⟩ := a3 hF0
        have hI2 := hI1.sc (SE.u57 (j := 20) (v := nI (y + 1)) a2).sc
        have e57 : s1 57 = σ 57 := by rw [a2 57 (by omega), up2_ne _ _ _ (by omega)]
        have hM2 : RM M (up2 s1 57 20 (nI (y + 1))) := hM.eqs (fun k h1 h2 => by rw [up2_ne _ _ _ (by omega), a2 k (by omega), up2_ne _ _ _ (by omega)]) (fun j hj => by rw [up2_n2 _ (by omega), e57])
        obtain ⟨s2, b1, b2⟩ := p_layOf hW hM2 hx2
        refine ⟨lyA M x, s1, s2, ?_, ?_, Inv_up (hI2.sm b2)⟩
        · rw [if_pos (show nI y < 20 from (nI_ltI (b := 20) (by omega) (by omega)).mpr hy), nI_1, a1, Option.bind_some]
          unfold lyA
          rcases (show x = 0 ∨ x = 1 ∨ (10 ≤ x ∧ x ≤ 15) by omega) with rfl | rfl | hx3
          · rw [if_pos (show (if (0 : Nat) ≤ 1 then (0 : Int32) else 1) = 0 from rfl), if_pos (show nI 0 = 0 from rfl), k1]
            rfl
          · rw [if_pos (show (if (1 : Nat) ≤ 1 then (0 : Int32) else 1) = 0 from rfl), if_neg (show ¬ nI 1 = 0 by decide), k2]
            rfl
          · have ex : nI x - 10 = nI (x - 10) := by rw [c10, k_sub (by omega)]
            rw [if_neg (show ¬ x ≤ 1 by omega), if_neg (by decide), ex, if_pos (inb_I (show x - 10 < 6 by omega) (by omega)), k_cl (by omega), k3 (x - 10) (by omega), if_neg (show ¬ x = 0 by omega), if_neg (show ¬ x = 1 by omega)]
        · rw [em]
          unfold j_X9_lay_27
          have g2' : f_X9_lacks s1 = 0 := by rw [← g2]; unfold f_X9_lacks; rw [e57]
          rw [g2', if_pos rfl, e57, h6, if_neg (show ¬ nI y = 20 from fun q => by have := (nI_eq (b := 20) (by omega) (by omega)).mp q; omega), nI_1, b1]
          rfl
      · have : y = 20 := by omega
        subst this
        refine ⟨-103, σ, σ, ?_, ?_, Inv_up hI0⟩
        · rw [if_neg (show ¬ nI 20 < 20 by decide)]
        · rw [em]; unfold j_X9_lay_27; rw [g2, if_pos rfl, h6, if_pos (show nI 20 = 20 from rfl)]
  · have hx1 : ¬ (0 ≤ x1 ∧ x1 ≤ 1) := fun q => hx (Or.inl q)
    have hx3 : ¬ (10 ≤ x1 ∧ x1 ≤ 15) := fun q => hx (Or.inr q)
    have hx0 : ¬ x1 = 0 := fun q => hx1 ((is01 x1).mpr (Or.inl q))
    have hx9 : ¬ x1 = 1 := fun q => hx1 ((is01 x1).mpr (Or.inr q))
    refine ⟨-102, σ, σ, ?_, ?_, Inv_up hI0⟩
    · unfold f_X8_lay j_X8_lay_16 j_X8_lay_17
      rw [if_neg hx0, if_neg hx9, if_pos rfl]
      by_cases z1 : x1 < 10
      · rw [if_pos z1]
      · rw [if_neg z1, if_pos ?_]
        have z2 : ¬ x1 ≤ 15 := fun q => hx3 ⟨Int32.not_lt.mp z1, q⟩
        have e1 : (15 : Int32).toInt = 15 := rfl
        have e2 : (16 : Int32).toInt = 16 := rfl
        rw [Int32.le_iff_toInt_le] at z2 ⊢
        omega
    · unfold f_X9_lay
      rw [in01, in1015, if_neg hx1, if_pos rfl, if_neg hx3, if_pos rfl]
