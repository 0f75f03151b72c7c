/-! PURE: digest -/
def dg (f : Nat → Int32) : Nat → Int64 → Int64
  | 0, a => a
  | n + 1, a => (31 : Int64) * dg f n a + (f n).toInt64
def dgR (M : MD) : Nat → Int64 → Int64
  | 0, a => a
  | w + 1, a => dg (rodA M w) 11 (dgR M w a)
def dgT (M : MD) : Nat → Int64 → Int64
  | 0, a => a
  | p + 1, a => (31 : Int64) * dg (thA M p) 7 (dgT M p a) + (trA M p 0).toInt64
theorem d_rods {M : MD} {s : gs_H} (hW : WF M) (hR : RC 9 M s) (hth : ∀ w, w < mR M → s 38 w = bI (TH M w)) (hL : ∀ a, a < 2 * mR M → s 36 a = LD M (mL M) (mH M) a) (hT : ∀ w, w < mR M → s 37 w = TI M (mL M) (mH M) w) (a : Int64) : lp (b_X8_digest_17 s) 1000 (a, (0 : Int32)) = some (dgR M (mR M) a) := by
  have h5 := hW.1.r5
  refine lp_st (fun i => (dgR M i a, nI i)) (mR M) (by omega) (fun w hw => ?_) ?_ rfl
  · have key : lp (b_X8_digest_31 (nI w) s) 1000 (dgR M w a, (0 : Int32)) = some (dg (rodA M w) 11 (dgR M w a)) := by
      refine lp_st (fun i => (dg (rodA M w) i (dgR M w a), nI i)) 11 (by omega) (fun i hi => ?_) ?_ rfl
      · unfold b_X8_digest_31
        dsimp only
        have q : ¬ (11 : Int32) ≤ nI i := by rw [c11, k_le (by omega) (by omega)]; omega
        rw [if_neg q, p_aboutRod hW hR hw hi hth hL hT, Option.bind_some, nI_1]
        rfl
      · rfl
    unfold b_X8_digest_17
    have e9 : s 9 0 = nI (mR M) := hR.1
    have q : ¬ nI (mR M) ≤ nI w := by rw [k_le (by omega) (by omega)]; omega
    simp only [e9]
    rw [if_neg q, key, Option.bind_some, nI_1]
    rfl
  · unfold b_X8_digest_17
    have e9 : s 9 0 = nI (mR M) := hR.1
    simp only [e9]
    rw [if_pos (Int32.le_refl _)]
theorem d_things {M : MD} {s : gs_H} (hW : WF M) (hR : RC 9 M s) (a : Int64) : lp (b_X8_digest_67 s) 1000 (a, (0 : Int32)) = some (dgT M (mT M) a) := by
  have h5 := hW.1.r5
  refine lp_st (fun i => (dgT M i a, nI i)) (mT M) (by omega) (fun p hp => ?_) ?_ rfl
  · have key : lp (b_X8_digest_81 (nI p) s) 1000 (dgT M p a, (0 : Int32)) = some (dg (thA M p) 7 (dgT M p a)) := by
      refine lp_st (fun i => (dg (thA M p) i (dgT M p a), nI i)) 7 (by omega) (fun i hi => ?_) ?_ rfl
      · unfold b_X8_digest_81
        dsimp only
        have q : ¬ (7 : Int32) ≤ nI i := by rw [c7, k_le (by omega) (by omega)]; omega
        rw [if_neg q, p_aboutThing hW hR hp hi, Option.bind_some, nI_1]
        rfl
      · rfl
    have kt := p_try hW hR hp (w := 0) (by omega)
    unfold b_X8_digest_67
    have e9 : s 9 1 = nI (mT M) := hR.2.1
    have q : ¬ nI (mT M) ≤ nI p := by rw [k_le (by omega) (by omega)]; omega
    simp only [e9]
    rw [if_neg q, key, Option.bind_some, c0, kt, Option.bind_some, nI_1]
    rfl
  · unfold b_X8_digest_67
    have e9 : s 9 1 = nI (mT M) := hR.2.1
    simp only [e9]
    rw [if_pos (Int32.le_refl _)]
theorem d_page {L : Nat} {pg : Nat → Nat} {s : gs_H} (hP : RP L pg s) (a : Int64) : lp (b_X8_digest_213 s) 1000 (a, (0 : Int32)) = some (dg (fun i => nI (pg i)) L a) ∧ lp (b_X9_digest_147 s) 1000 ((0 : Int32), a) = some (dg (fun i => nI (pg i)) L a) := by
  obtain ⟨h1, h2, h3, h4⟩ := hP
  constructor
  · refine lp_st (fun i => (dg (fun i => nI (pg i)) i a, nI i)) L (by omega) (fun i hi => ?_) ?_ rfl
    · unfold b_X8_digest_213
      have q : ¬ nI L ≤ nI i := by rw [k_le (by omega) (by omega)]; omega
      simp only [h2]
      rw [if_neg q, if_pos (inb_I (show i < 46 by omega) (by omega)), k_cl (by omega), (h4 i hi).1, nI_1]
      rfl
    · unfold b_X8_digest_213
      simp only [h2]
      rw [if_pos (Int32.le_refl _)]
  · refine lp_st (fun i => (nI i, dg (fun i => nI (pg i)) i a)) L (by omega) (fun i hi => ?_) ?_ rfl
    · unfold b_X9_digest_147 f_X9_say
      have q : ¬ nI L ≤ nI i := by rw [k_le (by omega) (by omega)]; omega
      simp only [h3]
      rw [if_neg q, if_pos (inb_I (show i < 46 by omega) (by omega)), k_cl (by omega), (h4 i hi).2.1, nI_1]
      rfl
    · unfold b_X9_digest_147
      simp only [h3]
      rw [if_pos (Int32.le_refl _)]
theorem d_counts {M : MD} {s : gs_H} {L c y : Nat} (hW : WF M) (hR : RC 9 M s) (hth : ∀ w, w < mR M → s 38 w = bI (TH M w)) (hL : ∀ a, a < 2 * mR M → s 36 a = LD M (mL M) (mH M) a) (hT : ∀ w, w < mR M → s 37 w = TI M (mL M) (mH M) w) (h1 : s 1 1 = nI L) (h8 : s 0 8 = nI c) (h9 : s 0 9 = nI y) (a : Int64) : lp (b_X8_digest_249 s) 1000 (a, (0 : Int32)) = some (dg (cnA M L c y) 11 a) := by
  refine lp_st (fun i => (dg (cnA M L c y) i a, nI i)) 11 (by omega) (fun i hi => ?_) ?_ rfl
  · unfold b_X8_digest_249
    dsimp only
    have q : ¬ (11 : Int32) ≤ nI i := by rw [c11, k_le (by omega) (by omega)]; omega
    rw [if_neg q, p_countOf hW hR hi hth hL hT h1 h8 h9, Option.bind_some, nI_1]
    rfl
  · rfl
theorem d_mrods {M : MD} {σ : gs_H} (hW : WF M) (hR : RM M σ) (a : Int64) : ∃ s, lp b_X9_digest_9 1000 ((0 : Int32), σ, a) = some (s, dgR M (mR M) a) ∧ SM σ s := by
  have h5 := hW.1.r5
  have key : ∃ e, lp b_X9_digest_9 1000 ((0 : Int32), σ, a) = some e ∧ (e.2 = dgR M (mR M) a ∧ SM σ e.1) := by
    refine lp_ok (fun w y => y.1 = nI w ∧ SM σ y.2.1 ∧ y.2.2 = dgR M w a) (mR M) (by omega) _ ?_ ⟨rfl, SM.rf, rfl⟩
    rintro w ⟨y1, s, g⟩ hk ⟨rfl, hs, rfl⟩
    dsimp only at hs
    have e4 := (hs.RMs hR).1
    by_cases hc : w < mR M
    · left
      refine ⟨hc, ?_⟩
      have inner : ∃ e, lp (b_X9_digest_19 (nI w)) 1000 ((0 : Int32), s, dgR M w a) = some e ∧ (e.2 = dg (rodA M w) 11 (dgR M w a) ∧ SM σ e.1) := by
        refine lp_ok (fun i y => y.1 = nI i ∧ SM σ y.2.1 ∧ y.2.2 = dg (rodA M w) i (dgR M w a)) 11 (by omega) _ ?_ ⟨rfl, hs, rfl⟩
        rintro i ⟨z1, s', g'⟩ hi ⟨rfl, hs', rfl⟩
        dsimp only at hs'
        unfold b_X9_digest_19 f_X9_say
        dsimp only
        by_cases hci : i < 11
        · left
          have q : ¬ (11 : Int32) ≤ nI i := by rw [c11, k_le (by omega) (by omega)]; omega
          obtain ⟨u, f1, f2, -⟩ := p_tellRod hW (hs'.RMs hR) hc (nI i)
          rw [if_neg q, f2 i hci rfl, Option.bind_some]
          exact ⟨hci, _, rfl, nI_1 _, hs'.tr f1, rfl⟩
        · right
          have : i = 11 := by omega
          subst this
          exact ⟨_, rfl, rfl, hs'⟩
      obtain ⟨e, f1, f2, f3⟩ := inner
      unfold b_X9_digest_9
      have q : ¬ nI (mR M) ≤ nI w := by rw [k_le (by omega) (by omega)]; omega
      simp only [e4]
      rw [if_neg q, f1, Option.bind_some]
      exact ⟨_, rfl, nI_1 _, f3, f2⟩
    · right
      have : w = mR M := by omega
      subst this
      unfold b_X9_digest_9
      simp only [e4]
      rw [if_pos (Int32.le_refl _)]
      exact ⟨_, rfl, rfl, hs⟩
  obtain ⟨⟨e1, e2⟩, f1, f2, f3⟩ := key
  dsimp only at f2 f3
  subst f2
  exact ⟨e1, f1, f3⟩
theorem d_mthings {M : MD} {s : gs_H} (hW : WF M) (hR : RM M s) (a : Int64) : lp (b_X9_digest_50 s) 1000 ((0 : Int32), a) = some (dgT M (mT M) a) := by
  have h5 := hW.1.r5
  refine lp_st (fun i => (nI i, dgT M i a)) (mT M) (by omega) (fun p hp => ?_) ?_ rfl
  · have key : lp (b_X9_digest_60 (nI p) s) 1000 ((0 : Int32), dgT M p a) = some (dg (thA M p) 7 (dgT M p a)) := by
      refine lp_st (fun i => (nI i, dg (thA M p) i (dgT M p a))) 7 (by omega) (fun i hi => ?_) ?_ rfl
      · unfold b_X9_digest_60 f_X9_say
        dsimp only
        have q : ¬ (7 : Int32) ≤ nI i := by rw [c7, k_le (by omega) (by omega)]; omega
        rw [if_neg q, (p_tellThing hW hR hp).1 i hi, Option.bind_some, nI_1]
        rfl
      · rfl
    have kt := p_mtry hW hR hp (w := 0) (by omega)
    unfold b_X9_digest_50 f_X9_say
    have e5 := hR.2.1
    have q : ¬ nI (mT M) ≤ nI p := by rw [k_le (by omega) (by omega)]; omega
    simp only [e5]
    rw [if_neg q, key, Option.bind_some, c0, kt, Option.bind_some, nI_1]
    rfl
  · unfold b_X9_digest_50
    have e5 := hR.2.1
    simp only [e5]
    rw [if_pos (Int32.le_refl _)]
theorem d_mcounts {M : MD} {σ : gs_H} {L c y : Nat} (hW : WF M) (hR : RM M σ) (h1 : σ 57 1 = nI L) (h8 : σ 57 7 = nI c) (h9 : σ 57 20 = nI y) (a : Int64) : ∃ s, lp b_X9_digest_174 1000 ((0 : Int32), σ, a) = some (s, dg (cnA M L c y) 11 a) ∧ SM σ s := by
  have key : ∃ e, lp b_X9_digest_174 1000 ((0 : Int32), σ, a) = some e ∧ (e.2 = dg (cnA M L c y) 11 a ∧ SM σ e.1) := by
    refine lp_ok (fun i z => z.1 = nI i ∧ SM σ z.2.1 ∧ z.2.2 = dg (cnA M L c y) i a) 11 (by omega) _ ?_ ⟨rfl, SM.rf, rfl⟩
    rintro i ⟨z1, s', g'⟩ hi ⟨rfl, hs', rfl⟩
    dsimp only at hs'
    unfold b_X9_digest_174 f_X9_say
    dsimp only
    by_cases hci : i < 11
    · left
      have q : ¬ (11 : Int32) ≤ nI i := by rw [c11, k_le (by omega) (by omega)]; omega
      obtain ⟨f1, -⟩ := p_mcountOf (L := L) (c := c) (y := y) hW (hs'.RMs hR) (by rw [hs'.2 1 (by decide)]; exact h1) (by rw [hs'.2 7 (by decide)]; exact h8) (by rw [hs'.2 20 (by decide)]; exact h9)
      obtain ⟨u, f2, f3⟩ := f1 i hci
      rw [if_neg q, f2, Option.bind_some]
      exact ⟨hci, _, rfl, nI_1 _, hs'.tr f3, rfl⟩
    · right
      have : i = 11 := by omega
      subst this
      exact ⟨_, rfl, rfl, hs'⟩
  obtain ⟨⟨e1, e2⟩, f1, f2, f3⟩ := key
  dsimp only at f2 f3
  subst f2
  exact ⟨e1, f1, f3⟩
theorem pu_digest {N : Nat} {σ : gs_H} (hI : Inv N σ) : ∃ (r : Int64) (s1 : gs_H) (s2 : gs_H), f_X8_digest σ = some (r, s1) ∧ (∀ g, ∃ g2, f_X9_digest s1 g = some (r, s2, g2)) ∧ Inv (N + 1) s2 := by
  have hI0 := hI
  obtain ⟨M, L, pg, hW, hC, hM, hP, hQ⟩ := hI
  obtain ⟨c, y, h1, h2, h3, h4, h5, h6, -⟩ := hQ
  obtain ⟨s1, g1, g2, -, g4, g5, g6⟩ := p_weigh (S := 35) (by omega) hW hC
  have gS : SC σ s1 := SC.of g2 (by simp)
  have hC1 := gS.RC9 hC
  have hM1 := gS.RMs hM
  have d1 := d_rods hW hC1 g4 g5 g6 1303
  have d2 := d_things hW hC1 (dgR M (mR M) 1303)
  rcases has_m hW hC1 hM1 with ⟨k0, k1, k2⟩ | ⟨k0, k1, k2⟩
  · have hP1 := gS.RPs hP
    obtain ⟨d3, -⟩ := d_page hP1 (dgT M (mT M) (dgR M (mR M) 1303))
    have d4 := d_counts (L := L) (c := c) (y := y) hW hC1 g4 g5 g6 (by rw [gS 1 (by omega)]; exact hP.2.1) (by rw [gS 0 (by omega)]; exact h3) (by rw [gS 0 (by omega)]; exact h5) (dg (fun i => nI (pg i)) L (dgT M (mT M) (dgR M (mR M) 1303)))
    obtain ⟨s2, e1, e2⟩ := d_mrods hW hM1 1303
    have hM2 := e2.RMs hM1
    have e3 := d_mthings hW hM2 (dgR M (mR M) 1303)
    obtain ⟨-, e4⟩ := d_page (e2.RPs hP1) (dgT M (mT M) (dgR M (mR M) 1303))
    obtain ⟨s3, e5, e6⟩ := d_mcounts (L := L) (c := c) (y := y) hW hM2 (by rw [e2.2 1 (by decide), gS 57 (by omega)]; exact hP.2.2.1) (by rw [e2.2 7 (by decide), gS 57 (by omega)]; exact h4) (by rw [e2.2 20 (by decide), gS 57 (by omega)]; exact h6) (dg (fun i => nI (pg i)) L (dgT M (mT M) (dgR M (mR M) 1303)))
    have k2' : f_X9_lacks s2 = 1 := by
      unfold f_X9_lacks
      rw [hM2.1, k0, if_pos (by decide)]
    refine ⟨dg (cnA M L c y) 11 (dg (fun i => nI (pg i)) L (dgT M (mT M) (dgR M (mR M) 1303))), s1, s3, ?_, fun g => ⟨dg (cnA M L c y) 11 (dg (fun i => nI (pg i)) L (dgT M (mT M) (dgR M (mR M) 1303))), ?_⟩, Inv_up (((hI0.sc gS).sm e2).sm e6)⟩
    · unfold f_X8_digest
      rw [g1, Option.bind_some, d1, Option.bind_some, d2, Option.bind_some, k1, if_pos rfl, d3, Option.bind_some, d4]
      rfl
    · unfold f_X9_digest
      rw [e1, Option.bind_some]
      dsimp only
      rw [e3, Option.bind_some, k2', if_neg (by decide), e4, Option.bind_some, e5]
      rfl
  · obtain ⟨u1, a1, a2⟩ := p_best hW hC1
    obtain ⟨u2, a3, a4⟩ := p_even hW (a2.RC9 hC1)
    obtain ⟨u3, a5, a6, a7, a8⟩ := p_findOdds hW (a4.RC9 (a2.RC9 hC1))
    have sE : SE s1 u3 := (a2.tr a4).tr a6
    have hCu := sE.RC9 hC1
    have hMu := sE.RMs hM1
    have hPu := sE.sc.RPs (gS.RPs hP)
    have k1' : f_X8_hasMobile u1 = 1 := by rw [← k1]; unfold f_X8_hasMobile; rw [a2 9 (by omega)]
    obtain ⟨a, ha⟩ : ∃ a, a = (31 : Int64) * ((31 : Int64) * ((31 : Int64) * ((31 : Int64) * dgT M (mT M) (dgR M (mR M) 1303) + (bx M (mT M * mT M)).2.toInt64) + (evA M).toInt64) + (nI (hcK M (fa (NL M)) / Nat.gcd (hcK M (fa (NL M))) (fa (NL M)))).toInt64) + (nI (fa (NL M) / Nat.gcd (hcK M (fa (NL M))) (fa (NL M)))).toInt64 := ⟨_, rfl⟩
    obtain ⟨d3, -⟩ := d_page hPu a
    have d4 := d_counts (L := L) (c := c) (y := y) hW hCu (fun w hw => by rw [sE 38 (by omega)]; exact g4 w hw) (fun w hw => by rw [sE 36 (by omega)]; exact g5 w hw) (fun w hw => by rw [sE 37 (by omega)]; exact g6 w hw) hPu.2.1 (by rw [sE 0 (by omega), gS 0 (by omega)]; exact h3) (by rw [sE 0 (by omega), gS 0 (by omega)]; exact h5) (dg (fun i => nI (pg i)) L a)
    obtain ⟨v1, e1, e2⟩ := d_mrods hW hMu 1303
    have e3 := d_mthings hW (e2.RMs hMu) (dgR M (mR M) 1303)
    obtain ⟨v2, b1, b2⟩ := p_mbest hW (e2.RMs hMu)
    obtain ⟨v3, b3, b4⟩ := p_meven hW ((e2.tr b2).RMs hMu)
    obtain ⟨v4, b5, b6⟩ := p_moddsOf hW (((e2.tr b2).tr b4).RMs hMu) 0
    obtain ⟨v5, b7, b8⟩ := p_moddsOf hW ((((e2.tr b2).tr b4).tr b6).RMs hMu) 1
    have sM : SM u3 v5 := (((e2.tr b2).tr b4).tr b6).tr b8
    obtain ⟨-, e4⟩ := d_page (sM.RPs hPu) a
    obtain ⟨v6, e5, e6⟩ := d_mcounts (L := L) (c := c) (y := y) hW (sM.RMs hMu) (by rw [sM.2 1 (by decide)]; exact hPu.2.2.1) (by rw [sM.2 7 (by decide), sE 57 (by omega), gS 57 (by omega)]; exact h4) (by rw [sM.2 20 (by decide), sE 57 (by omega), gS 57 (by omega)]; exact h6) (dg (fun i => nI (pg i)) L a)
    have k2' : f_X9_lacks v1 = 0 := by
      have := (e2.RMs hMu).1
      have h55 := hW.1.r5
      unfold f_X9_lacks
      rw [this, if_neg (by rw [c0, k_eq (by omega) (by omega)]; omega)]
    rw [if_pos rfl] at b5
    rw [if_neg (by decide)] at b7
    refine ⟨dg (cnA M L c y) 11 (dg (fun i => nI (pg i)) L a), u3, v6, ?_, fun g => ⟨dg (cnA M L c y) 11 (dg (fun i => nI (pg i)) L a), ?_⟩, Inv_up ((((hI0.sc gS).sc sE.sc).sm sM).sm e6)⟩
    · unfold f_X8_digest f_X8_best f_X8_even
      rw [g1, Option.bind_some, d1, Option.bind_some, d2, Option.bind_some, k1, if_neg (by decide), if_neg (by decide), a1]
      simp only [Option.bind_some]
      rw [k1', if_neg (by decide), a3]
      simp only [Option.bind_some]
      rw [a5, Option.bind_some, a7, a8, ← ha, d3, Option.bind_some, d4]
      rfl
    · unfold f_X9_digest f_X9_say
      rw [e1, Option.bind_some]
      dsimp only
      rw [e3, Option.bind_some, k2', if_pos rfl, b1, Option.bind_some]
      dsimp only
      rw [b3, Option.bind_some]
      dsimp only
      rw [b5, Option.bind_some]
      dsimp only
      rw [b7, Option.bind_some]
      dsimp only
      rw [← ha, e4, Option.bind_some, e5]
      rfl
