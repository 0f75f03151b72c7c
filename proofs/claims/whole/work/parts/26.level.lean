/-! PURE: calls that answer how many are level -/
theorem p_clevel {M : MD} {σ : gs_H} (hW : WF M) (hR : RC 9 M σ) : ∃ s, f_X8_levelNow σ = some (nI (LV M (mL M) (mH M)), s) ∧ SC σ s := by
  obtain ⟨s, h1, h2, -, h4, -, h6⟩ := p_weigh (S := 35) (by omega) hW hR
  have hR2 := hR.same h2 (by simp)
  refine ⟨s, ?_, SC.of h2 (by simp)⟩
  unfold f_X8_levelNow
  rw [h1, Option.bind_some, p_rodsLevel hW hR2 h4 h6, Option.bind_some]
theorem RB.same {M : MD} {la : Nat → Nat} {hr : Nat} {σ s : gs_H} (h : RB M la hr σ) (hS : Same [66, 67] σ s) : RB M la hr s :=
  ⟨h.1.same (fun k hk => hS k (by rintro hz; revert hk hz; simp; omega)) (fun j _ => by rw [hS 57 (by decide)]), fun p hp => by rw [hS 65 (by decide)]; exact h.2.1 p hp, by rw [hS 57 (by decide)]; exact h.2.2⟩
theorem p_levelThen {M : MD} {la : Nat → Nat} {hr : Nat} {σ : gs_H} (hW : WF M) (hP : WP (mT M) la) (hB : RB M la hr σ) (hh : hr ≤ 1100) : ∃ s, f_X9_levelThen σ = some (nI (LV M la hr), s) ∧ Same [66, 67] σ s ∧ (∀ w, w < mR M → s 66 w = LD M la hr (2 * w) + LD M la hr (2 * w + 1)) ∧ ∀ w, w < mR M → s 67 w = TI M la hr w := by
  have h5 := hW.1.r5
  obtain ⟨s, h1, h2, h3, h4⟩ := p_layTilts hW hP hB hh
  have hB2 := hB.same h2
  obtain ⟨B, b1, b2, b3, b4⟩ := p_there hW hB2.1
  refine ⟨s, ?_, h2, h3, h4⟩
  unfold f_X9_levelThen
  rw [h1, Option.bind_some, b1, Option.bind_some]
  refine (bind_s (lp_st (fun i => (nI (cnt (fun w => TH M w && decide (TI M la hr w = 0)) i), nI i)) (e := nI (LV M la hr)) (mR M) (by omega) (fun i hi => ?_) ?_ rfl)).trans rfl
  · have e2 := h4 i hi
    have e3 := hB2.1.1
    have q1 : ¬ mR M ≤ i := by omega
    have q2 : i < 5 := by omega
    have eb := bitI (B := B) (p := i) (by omega) (by omega)
    rw [b3 i hi, c1, c31] at eb
    unfold b_X9_levelThen_13
    by_cases c2 : TI M la hr i = nI 0 <;> cases hA : TH M i <;> rw [hA] at eb <;> simp (disch := omega) only [c0, c1, c2, c3, c4, c5, c6, c7, c8, c9, c10, c11, c12, c15, c20, c24, c30, c31, c45, c46, c48, c49, c57, c60, c97, c98, c99, c100, c101, c102, c108, c111, c126, c720, c999, c10000, nI_add, pk_mul, k_cl, k_lt, k_le, k_eq, k_sub, k_div, k_m1, e2, e3, eb, inb_N, q1, q2, hA, c2, bI_1, cnt, ↓reduceIte, Bool.true_eq_false, Bool.false_eq_true, Bool.true_and, Bool.false_and, decide_true, decide_false, Bool.toNat_true, Bool.toNat_false]
  · unfold b_X9_levelThen_13
    have e3 := hB2.1.1
    have q1 : mR M ≤ mR M := Nat.le_refl _
    simp (disch := omega) only [c0, c1, c2, c3, c4, c5, c6, c7, c8, c9, c10, c11, c12, c15, c20, c24, c30, c31, c45, c46, c48, c49, c57, c60, c97, c98, c99, c100, c101, c102, c108, c111, c126, c720, c999, c10000, nI_add, pk_mul, k_cl, k_lt, k_le, k_eq, k_sub, k_div, k_m1, e3, q1, ↓reduceIte, LV]
theorem p_mlevel {M : MD} {σ : gs_H} (hW : WF M) (hR : RM M σ) : ∃ s, f_X9_levelNow σ = some (nI (LV M (mL M) (mH M)), s) ∧ SM σ s ∧ RB M (mL M) (mH M) s ∧ (∀ w, w < mR M → s 66 w = LD M (mL M) (mH M) (2 * w) + LD M (mL M) (mH M) (2 * w + 1)) ∧ ∀ w, w < mR M → s 67 w = TI M (mL M) (mH M) w := by
  obtain ⟨s1, h1, h2, h3, h4⟩ := p_begin hW hR
  have hh := hW.2.2.1
  obtain ⟨s2, g1, g2, g3, g4⟩ := p_levelThen hW hW.2.1 h2 (by omega)
  refine ⟨s2, ?_, ?_, h2.same g2, g3, g4⟩
  · unfold f_X9_levelNow
    rw [h1, Option.bind_some, g1, Option.bind_some]
  · refine SM.tr ⟨fun k a b _ _ => h3 k a b, fun j hj => h4 j (by rintro rfl; revert hj; decide)⟩ (SM.of g2 (by simp))
theorem p_mlevel' {M : MD} {σ : gs_H} (hW : WF M) (hR : RM M σ) : ∃ s, f_X9_levelNow σ = some (nI (LV M (mL M) (mH M)), s) ∧ SM σ s := by
  obtain ⟨s, h1, h2, -⟩ := p_mlevel hW hR
  exact ⟨s, h1, h2⟩
theorem isCut_eq {M : MD} {σ : gs_H} (hR : RM M σ) {p : Nat} (hp : p < 6) : f_X9_isCut (nI p) σ = bI (mC M p) := by
  obtain ⟨B, b1, b2, b3⟩ := hR.2.2.2.2.2.1
  have eb := bitI (B := B) (p := p) (by omega) (by omega)
  rw [b3 p hp] at eb
  unfold f_X9_isCut
  rw [b2, eb]
  cases mC M p <;> decide
theorem pu_cut {N : Nat} {σ : gs_H} (hI : Inv N σ) (x1 : Int32) : ∃ (r : Int32) (s1 : gs_H) (s2 : gs_H), f_X8_cut x1 σ = some (r, s1) ∧ f_X9_cut x1 s1 = some (r, s2) ∧ Inv (N + 1) s2 := by
  have hI0 := hI
  obtain ⟨M, L, pg, hW, hC, hM, hP, hQ⟩ := hI
  have h5 := hW.1.r5
  rcases is_thing hC.2.1 hM.2.1 (by omega) x1 with ⟨p, hp, rfl, h1, h2⟩ | ⟨h1, h2⟩
  · have q6 : inb (nI p) 6 := inb_I (by omega) (by omega)
    have ek : (nI p).toNatClampNeg = p := k_cl (by omega)
    have k1 : σ 15 p = bI (mC M p) := hC.2.2.2.2.2.1 p (by omega)
    have kc := isCut_eq hM (p := p) (by omega)
    cases hcut : mC M p
    · rw [hcut] at k1 kc
      -- the mobile with p cut
      obtain ⟨M', hM'⟩ : ∃ M' : MD, M' = (M.1, M.2.1, (upB (mC M) p true, mD M), M.2.2.2) := ⟨_, rfl⟩
      have f1 : mR M' = mR M := by rw [hM']; rfl
      have f2 : mT M' = mT M := by rw [hM']; rfl
      have f3 : mE M' = mE M := by rw [hM']; rfl
      have hW' : WF M' := by
        obtain ⟨a1, a2, a3, a4, a5, a6, a7, a8⟩ := hW
        rw [hM']
        refine ⟨a1, a2, a3, a4, a5, a6, fun q hq => ?_, a8⟩
        show upB (mC M) p true q = false
        have hq2 : mT M ≤ q := hq
        rw [upB_n _ _ (by omega)]; exact a7 q hq2
      have e1 : ∀ k, k ≠ 15 → (up2 σ 15 p (1 : Int32)) k = σ k := fun k h => up2_ne _ _ _ h
      have e1' : ∀ k, k ≠ 15 → k ≠ 1000 → (up2 σ 15 p (1 : Int32)) k = σ k := fun k h _ => up2_ne _ _ _ h
      have hC' : RC 9 M' (up2 σ 15 p (1 : Int32)) := by
        obtain ⟨a1, a2, a3, a4, a5, a6, a7⟩ := hC
        unfold RC
        rw [e1' 9 (by omega) (by omega), e1' (9 + 1) (by omega) (by omega), e1' (9 + 2) (by omega) (by omega), e1' (9 + 3) (by omega) (by omega), e1' (9 + 4) (by omega) (by omega), e1' (9 + 5) (by omega) (by omega), e1' (9 + 7) (by omega) (by omega), e1' (9 + 8) (by omega) (by omega), e1' (9 + 9) (by omega) (by omega), e1' (9 + 10) (by omega) (by omega), e1' (9 + 11) (by omega) (by omega), e1' (9 + 12) (by omega) (by omega), hM']
        refine ⟨a1, a2, a3, a4, a5, fun q hq => ?_, a7⟩
        show (up2 σ 15 p (1 : Int32)) 15 q = bI (upB (mC M) p true q)
        by_cases z : q = p
        · subst z; rw [up2_same, upB_s]; rfl
        · rw [up2_n2 _ z, upB_n _ _ z]; exact a6 q hq
      obtain ⟨s1, g1, g2⟩ := p_clevel hW' hC'
      have es1 : ∀ k, k < 3 ∨ (8 < k ∧ k < 35 ∧ k ≠ 15) ∨ 56 < k → s1 k = σ k := fun k h => (g2 k (by omega)).trans (e1 k (by omega))
      obtain ⟨B, b1, b2, b3⟩ := hM.2.2.2.2.2.1
      have hset := bit_set ⟨B, b1⟩ ⟨p, by omega⟩
      dsimp only at hset
      have e2 : ∀ k, k ≠ 57 → (up2 s1 57 9 (nI (B ||| 2 ^ p))) k = s1 k := fun k h => up2_ne _ _ _ h
      have hM2 : RM M' (up2 s1 57 9 (nI (B ||| 2 ^ p))) := by
        have ec : ∀ k, 59 ≤ k → k ≤ 68 → (up2 s1 57 9 (nI (B ||| 2 ^ p))) k = σ k := fun k h1 h2 => by rw [e2 k (by omega), es1 k (by omega)]
        have ej : ∀ j, j ≠ 9 → (up2 s1 57 9 (nI (B ||| 2 ^ p))) 57 j = σ 57 j := fun j h => by rw [up2_n2 _ h, es1 57 (by omega)]
        obtain ⟨a1, a2, a3, a4, a5, a6, a7⟩ := hM
        unfold RM
        rw [ec 59 (by omega) (by omega), ec 60 (by omega) (by omega), ec 61 (by omega) (by omega), ec 62 (by omega) (by omega), ec 63 (by omega) (by omega), ec 64 (by omega) (by omega), ec 68 (by omega) (by omega), ej 4 (by omega), ej 5 (by omega), ej 6 (by omega), ej 8 (by omega), ej 21 (by omega), hM']
        refine ⟨a1, a2, a3, a4, a5, ⟨B ||| 2 ^ p, ?_, up2_same _ _ _ _, fun q hq => ?_⟩, a7⟩
        · have key : ∀ B : Fin 64, ∀ p : Fin 6, B.val ||| 2 ^ p.val < 64 := by decide +kernel
          exact key ⟨B, b1⟩ ⟨p, by omega⟩
        · rw [bit_or, b3 q hq]
          show _ = upB (mC M) p true q
          by_cases z : q = p
          · subst z; rw [upB_s]; simp
          · rw [upB_n _ _ z]; simp [z]
      obtain ⟨s2, g3, g4⟩ := p_mlevel' hW' hM2
      have hI1 : Inv (N + 1) (up2 s1 57 9 (nI (B ||| 2 ^ p))) := Inv_of hW' ((g2.RC9 hC').eq9 (fun k h1 h2 => e2 k (by omega))) hM2 hP hQ f1 f2 f3 (fun k hk => by rw [e2 k (by omega)]; exact es1 k (by omega)) (fun j hj => by rw [up2_n2 _ (by omega), es1 57 (by omega)])
      refine ⟨nI (LV M' (mL M') (mH M')), s1, s2, ?_, ?_, hI1.sm g4⟩
      · unfold f_X8_cut
        simp only [h1, d10, if_pos q6, ek, k1, ↓reduceIte]
        rw [if_pos (show bI false = 0 from rfl), g1]
        rfl
      · unfold f_X9_cut
        have h2' : f_X9_isThing (nI p) s1 = some 1 := by rw [← h2]; unfold f_X9_isThing; rw [es1 57 (by omega)]
        have kc' : f_X9_isCut (nI p) s1 = bI false := by rw [← kc]; unfold f_X9_isCut; rw [es1 57 (by omega)]
        simp only [h2', Option.bind_some, d10, kc', ↓reduceIte]
        rw [if_pos (show bI false = 0 from rfl), es1 57 (by omega), b2, hset, g3]
        rfl
    · rw [hcut] at k1 kc
      refine ⟨-103, σ, σ, ?_, ?_, Inv_up hI0⟩
      · unfold f_X8_cut
        simp only [h1, d10, if_pos q6, ek, k1, ↓reduceIte]
        rw [if_neg (show ¬ bI true = 0 by decide)]
      · unfold f_X9_cut
        simp only [h2, Option.bind_some, d10, kc, ↓reduceIte]
        rw [if_neg (show ¬ bI true = 0 by decide)]
  · refine ⟨-101, σ, σ, ?_, ?_, Inv_up hI0⟩
    · unfold f_X8_cut
      simp only [h1, d00, ↓reduceIte]
    · unfold f_X9_cut
      simp only [h2, Option.bind_some, d00, ↓reduceIte]
theorem ones_B {M : MD} {B : Nat} {f : Nat → Bool} {n : Nat} (hB : B < 64) (hb : ∀ i, i < n → B.testBit i = f i) (hn : n ≤ 6) (hz : ∀ i, n ≤ i → B.testBit i = false) : f_X9_ones (nI B) = some (nI (cnt f n)) := by
  rw [ones6 ⟨B, hB⟩]
  dsimp only
  have e : ∀ m, cnt (fun i => B.testBit i) (n + m) = cnt f n := by
    intro m
    induction m with
    | zero => exact cnt_cong hb
    | succ m ih =>
      show cnt (fun i => B.testBit i) (n + m) + (B.testBit (n + m)).toNat = _
      rw [ih, hz (n + m) (by omega)]; rfl
  have := e (6 - n)
  rw [show n + (6 - n) = 6 by omega] at this
  rw [this]
theorem pu_drop {N : Nat} {σ : gs_H} (hI : Inv N σ) (x1 : Int32) : ∃ (r : Int32) (s1 : gs_H) (s2 : gs_H), f_X8_drop x1 σ = some (r, s1) ∧ f_X9_drop x1 s1 = some (r, s2) ∧ Inv (N + 1) s2 := by
  have hI0 := hI
  obtain ⟨M, L, pg, hW, hC, hM, hP, hQ⟩ := hI
  have h5 := hW.1.r5
  rcases is_rod hC.1 hM.1 (by omega) x1 with ⟨p, hp, rfl, h1, h2⟩ | ⟨h1, h2⟩
  · have q6 : inb (nI p) 5 := inb_I (by omega) (by omega)
    have ek : (nI p).toNatClampNeg = p := k_cl (by omega)
    have k1 : σ 16 p = bI (mD M p) := hC.2.2.2.2.2.2.1 p (by omega)
    obtain ⟨B, b1, b2, b3⟩ := hM.2.2.2.2.2.2.1
    have eb := bitI (B := B) (p := p) (by omega) (by omega)
    rw [b3 p (by omega)] at eb
    by_cases hp0 : p = 0
    · subst hp0
      refine ⟨-101, σ, σ, ?_, ?_, Inv_up hI0⟩
      · unfold f_X8_drop
        simp only [h1, d10, ↓reduceIte]
        rw [if_pos (show nI 0 = 0 from rfl)]
      · unfold f_X9_drop
        simp only [h2, Option.bind_some, d10, ↓reduceIte]
        rw [if_pos (show nI 0 = 0 from rfl)]
    · have hn0 : ¬ nI p = 0 := fun q => hp0 ((nI_eq (b := 0) (by omega) (by omega)).mp q)
      cases hcut : mD M p
      · rw [hcut] at k1 eb
        obtain ⟨M', hM'⟩ : ∃ M' : MD, M' = (M.1, M.2.1, (mC M, upB (mD M) p true), M.2.2.2) := ⟨_, rfl⟩
        have f1 : mR M' = mR M := by rw [hM']; rfl
        have f2 : mT M' = mT M := by rw [hM']; rfl
        have f3 : mE M' = mE M := by rw [hM']; rfl
        have hW' : WF M' := by
          obtain ⟨a1, a2, a3, a4, a5, a6, a7, a8, a9, a10⟩ := hW
          rw [hM']
          refine ⟨a1, a2, a3, a4, a5, a6, a7, fun q hq => ?_, ?_, a10⟩
          · show upB (mD M) p true q = false
            have hq2 : mR M ≤ q := hq
            rw [upB_n _ _ (by omega)]; exact a8 q hq2
          · show upB (mD M) p true 0 = false
            rw [upB_n _ _ (Ne.symm hp0)]; exact a9
        have e1 : ∀ k, k ≠ 16 → (up2 σ 16 p (1 : Int32)) k = σ k := fun k h => up2_ne _ _ _ h
        have e1' : ∀ k, k ≠ 16 → k ≠ 1000 → (up2 σ 16 p (1 : Int32)) k = σ k := fun k h _ => up2_ne _ _ _ h
        have hC' : RC 9 M' (up2 σ 16 p (1 : Int32)) := by
          obtain ⟨a1, a2, a3, a4, a5, a6, a7, a8⟩ := hC
          unfold RC
          rw [e1' 9 (by omega) (by omega), e1' (9 + 1) (by omega) (by omega), e1' (9 + 2) (by omega) (by omega), e1' (9 + 3) (by omega) (by omega), e1' (9 + 4) (by omega) (by omega), e1' (9 + 5) (by omega) (by omega), e1' (9 + 6) (by omega) (by omega), e1' (9 + 8) (by omega) (by omega), e1' (9 + 9) (by omega) (by omega), e1' (9 + 10) (by omega) (by omega), e1' (9 + 11) (by omega) (by omega), e1' (9 + 12) (by omega) (by omega), hM']
          refine ⟨a1, a2, a3, a4, a5, a6, fun q hq => ?_, a8⟩
          show (up2 σ 16 p (1 : Int32)) 16 q = bI (upB (mD M) p true q)
          by_cases z : q = p
          · subst z; rw [up2_same, upB_s]; rfl
          · rw [up2_n2 _ z, upB_n _ _ z]; exact a7 q hq
        obtain ⟨s1, g1, g2, -, g4, -⟩ := p_weigh (S := 35) (by omega) hW' hC'
        have gS : SC (up2 σ 16 p (1 : Int32)) s1 := SC.of g2 (by simp)
        have hth := p_rodsThere hW' (gS.RC9 hC') g4
        have es1 : ∀ k, k < 3 ∨ (8 < k ∧ k < 35 ∧ k ≠ 16) ∨ 56 < k → s1 k = σ k := fun k h => (gS k (by omega)).trans (e1 k (by omega))
        have hset := bit_set ⟨B, by omega⟩ ⟨p, by omega⟩
        dsimp only at hset
        have e2 : ∀ k, k ≠ 57 → (up2 s1 57 8 (nI (B ||| 2 ^ p))) k = s1 k := fun k h => up2_ne _ _ _ h
        have hM2 : RM M' (up2 s1 57 8 (nI (B ||| 2 ^ p))) := by
          have ec : ∀ k, 59 ≤ k → k ≤ 68 → (up2 s1 57 8 (nI (B ||| 2 ^ p))) k = σ k := fun k h1 h2 => by rw [e2 k (by omega), es1 k (by omega)]
          have ej : ∀ j, j ≠ 8 → (up2 s1 57 8 (nI (B ||| 2 ^ p))) 57 j = σ 57 j := fun j h => by rw [up2_n2 _ h, es1 57 (by omega)]
          obtain ⟨a1, a2, a3, a4, a5, a6, a7, a8⟩ := hM
          unfold RM
          rw [ec 59 (by omega) (by omega), ec 60 (by omega) (by omega), ec 61 (by omega) (by omega), ec 62 (by omega) (by omega), ec 63 (by omega) (by omega), ec 64 (by omega) (by omega), ec 68 (by omega) (by omega), ej 4 (by omega), ej 5 (by omega), ej 6 (by omega), ej 9 (by omega), ej 21 (by omega), hM']
          refine ⟨a1, a2, a3, a4, a5, a6, ⟨B ||| 2 ^ p, ?_, up2_same _ _ _ _, fun q hq => ?_⟩, a8⟩
          · have key : ∀ B : Fin 32, ∀ p : Fin 5, B.val ||| 2 ^ p.val < 32 := by decide +kernel
            exact key ⟨B, b1⟩ ⟨p, by omega⟩
          · rw [bit_or, b3 q hq]
            show _ = upB (mD M) p true q
            by_cases z : q = p
            · subst z; rw [upB_s]; simp
            · rw [upB_n _ _ z]; simp [z]
        obtain ⟨T, t1, t2, t3, t4⟩ := p_there hW' hM2
        have hon := ones_B (M := M) (B := T) (f := TH M') (n := mR M') (by omega) t3 (by omega) t4
        have hI1 : Inv (N + 1) (up2 s1 57 8 (nI (B ||| 2 ^ p))) := Inv_of hW' ((gS.RC9 hC').eq9 (fun k h1 h2 => e2 k (by omega))) hM2 hP hQ f1 f2 f3 (fun k hk => by rw [e2 k (by omega)]; exact es1 k (by omega)) (fun j hj => by rw [up2_n2 _ (by omega), es1 57 (by omega)])
        refine ⟨nI (NT M'), s1, up2 s1 57 8 (nI (B ||| 2 ^ p)), ?_, ?_, hI1⟩
        · unfold f_X8_drop
          simp only [h1, d10, if_neg hn0, if_pos q6, ek, k1, ↓reduceIte]
          rw [if_pos (show bI false = 0 from rfl), g1, Option.bind_some, hth]
          rfl
        · unfold f_X9_drop
          have h2' : f_X9_isRod (nI p) s1 = some 1 := by rw [← h2]; unfold f_X9_isRod; rw [es1 57 (by omega)]
          simp only [h2', Option.bind_some, d10, if_neg hn0, ↓reduceIte]
          rw [es1 57 (by omega), b2, eb, if_neg (show ¬ bI false = 1 by decide), hset, t1, Option.bind_some, hon]
          rfl
      · rw [hcut] at k1 eb
        refine ⟨-103, σ, σ, ?_, ?_, Inv_up hI0⟩
        · unfold f_X8_drop
          simp only [h1, d10, if_neg hn0, if_pos q6, ek, k1, ↓reduceIte]
          rw [if_neg (show ¬ bI true = 0 by decide)]
        · unfold f_X9_drop
          simp only [h2, Option.bind_some, d10, if_neg hn0, ↓reduceIte]
          rw [b2, eb, if_pos (show bI true = 1 from rfl)]
  · refine ⟨-101, σ, σ, ?_, ?_, Inv_up hI0⟩
    · unfold f_X8_drop
      simp only [h1, d00, ↓reduceIte]
    · unfold f_X9_drop
      simp only [h2, Option.bind_some, d00, ↓reduceIte]
