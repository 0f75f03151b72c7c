/-! PURE: the page read by both; fault -/
theorem sim {pg : Nat → Nat} {L : Nat} (hL : L ≤ 46) (hpg : ∀ i, i < L → pg i ≤ 126) : ∀ (n k : Nat) (s u : gs_H), k ≤ L → L - k < n → J pg k s u → s 1 1 = nI L → (∀ i, i < L → s 2 i = nI (pg i)) → ∃ (F : Nat) (s' u' : gs_H), F ≤ L ∧ Same [3, 4, 5, 6, 7, 8] s s' ∧ ((F < L ∧ lp b_X5_readLetters_6 n (nI k, s) = some (.inl (nI F, s'))) ∨ (F = L ∧ lp b_X5_readLetters_6 n (nI k, s) = some (.inr s'))) ∧ (F = L → J pg L s' u') ∧ ∀ v, v 57 1 = nI L → (∀ i, i < L → v 58 i = nI (pg i)) → v 57 2 = u 57 2 → v 57 3 = u 57 3 → ∃ v', lp b_X9_faultOf_12 n (nI k, v) = some (nI F, v') ∧ SM v v' ∧ v' 57 2 = u' 57 2 ∧ v' 57 3 = u' 57 3
  | 0, k, s, u, _, h2, _, _, _ => by omega
  | n + 1, k, s, u, h1, h2, hJ, hp, hq => by
    by_cases z : k = L
    · subst z
      refine ⟨k, s, u, Nat.le_refl _, Same.rf, Or.inr ⟨rfl, ?_⟩, fun _ => hJ, fun v v1 v2 v3 v4 => ⟨v, ?_, SM.rf, v3, v4⟩⟩
      · have hb : b_X5_readLetters_6 (nI k, s) = some (.inr (.inr s)) := by
          unfold b_X5_readLetters_6
          dsimp only
          rw [if_pos (show s 1 1 ≤ nI k by rw [hp]; exact (k_le (by omega) (by omega)).mpr (Nat.le_refl _))]
        rw [lp, hb]; rfl
      · have hb : b_X9_faultOf_12 (nI k, v) = some (.inr (nI k, v)) := by
          rw [mst_eq, v1, if_pos ((k_le (by omega) (by omega)).mpr (Nat.le_refl _))]
        rw [lp, hb]; rfl
    · have hk : k < L := by omega
      have nle : ¬ nI L ≤ nI k := fun q => by have := (k_le (by omega) (by omega)).mp q; omega
      obtain ⟨ok, s1, u1, t1, t2, t3, t4⟩ := stp hJ (by omega) (hpg k hk)
      have hb : b_X5_readLetters_6 (nI k, s) = if bI ok = 0 then some (.inr (.inl (nI k, s1))) else some (.inl (nI (k + 1), s1)) := by
        unfold b_X5_readLetters_6
        dsimp only
        rw [if_neg (show ¬ s 1 1 ≤ nI k by rw [hp]; exact nle), if_pos (inb_I (show k < 46 by omega) (by omega)), k_cl (by omega), hq k hk, t1]
        show (if bI ok = 0 then some (Sum.inr (Sum.inl (nI k, s1))) else some (Sum.inl (nI k + 1, s1))) = _
        rw [nI_1]
      have hm : ∀ v : gs_H, v 57 1 = nI L → v 58 k = nI (pg k) → v 57 2 = u 57 2 → v 57 3 = u 57 3 → ∃ v1, b_X9_faultOf_12 (nI k, v) = (if bI ok = 0 then some (.inr (nI k, v1)) else some (.inl (nI (k + 1), v1))) ∧ SM v v1 ∧ v1 57 2 = u1 57 2 ∧ v1 57 3 = u1 57 3 := fun v v1 v2 v3 v4 => by
        obtain ⟨w, w1, w2⟩ := t4 v v3 v4 v2
        refine ⟨w, ?_, w2⟩
        rw [mst_eq, v1, if_neg nle, w1, Option.bind_some, nI_1]
      cases ok
      · refine ⟨k, s1, u1, by omega, t2, Or.inl ⟨hk, ?_⟩, fun q => absurd q z, fun v v1 v2 v3 v4 => ?_⟩
        · rw [if_pos (show bI false = 0 from rfl)] at hb
          rw [lp, hb]; rfl
        · obtain ⟨w, w1, w2, w3, w4⟩ := hm v v1 (v2 k hk) v3 v4
          rw [if_pos (show bI false = 0 from rfl)] at w1
          exact ⟨w, by rw [lp, w1]; rfl, w2, w3, w4⟩
      · rw [if_neg (show ¬ bI true = 0 by decide)] at hb
        obtain ⟨F, s', u', g1, g2, g3, g4, g5⟩ := sim hL hpg n (k + 1) s1 u1 (by omega) (by omega) (t3 rfl) (by rw [t2 1 (by decide)]; exact hp) (fun i hi => by rw [t2 2 (by decide)]; exact hq i hi)
        have el : lp b_X5_readLetters_6 (n + 1) (nI k, s) = lp b_X5_readLetters_6 n (nI (k + 1), s1) := by rw [lp, hb]; rfl
        rw [el]
        refine ⟨F, s', u', g1, t2.tr g2, g3, g4, fun v v1 v2 v3 v4 => ?_⟩
        obtain ⟨w, w1, w2, w3, w4⟩ := hm v v1 (v2 k hk) v3 v4
        rw [if_neg (show ¬ bI true = 0 by decide)] at w1
        obtain ⟨v', y1, y2, y3⟩ := g5 w (by rw [w2.2 1 (by decide)]; exact v1) (fun i hi => by rw [w2.1 58 (by omega) (by omega) (by omega) (by omega)]; exact v2 i hi) w3 w4
        exact ⟨v', by rw [lp, w1]; exact y1, w2.tr y2, y3⟩
theorem p_begin5 (σ : gs_H) : ∃ s, f_X5_begin σ = some s ∧ Same [3, 8] σ s ∧ s 3 7 = nI 0 ∧ s 3 8 = nI 0 ∧ s 3 9 = nI 0 ∧ s 3 5 = nI 0 ∧ s 3 4 = nI 0 ∧ ∀ w, w < 5 → s 8 w = bI (decide (w = 0)) := by
  obtain ⟨s0, hs0⟩ : ∃ s0, s0 = up2 (up2 (up2 (up2 (up2 σ 3 7 (0 : Int32)) 3 8 (0 : Int32)) 3 9 (0 : Int32)) 3 5 (0 : Int32)) 3 4 (0 : Int32) := ⟨_, rfl⟩
  have key : ∃ q, lp (b_X5_begin_27) 1000 ((0 : Int32), s0) = some q ∧ (Same [8] s0 q ∧ ∀ w, w < 5 → q 8 w = bI (decide (w = 0))) := by
    refine lp_ok (fun i y => y.1 = nI i ∧ Same [8] s0 y.2 ∧ ∀ w, w < i → y.2 8 w = bI (decide (w = 0))) 5 (by omega) _ ?_ ⟨rfl, Same.rf, fun w hw => by omega⟩
    rintro i ⟨y, s⟩ hi ⟨rfl, h1, h2⟩
    dsimp only at h1 h2
    by_cases hc : i < 5
    · left
      refine ⟨hc, (nI (i + 1), up2 s 8 i (bI (decide (i = 0)))), ?_, rfl, h1.up (by simp), fun w hw => ?_⟩
      · unfold b_X5_begin_27 j_X5_begin_46
        dsimp only
        rw [if_neg (show ¬ (5 : Int32) ≤ nI i from fun q => by rw [c5] at q; have := (k_le (by omega) (by omega)).mp q; omega), if_pos (inb_I hc (by omega)), if_pos (Or.inr rfl), if_pos (inb_I hc (by omega)), if_pos (Or.inl rfl), k_cl (by omega), nI_1]
        by_cases z : i = 0
        · subst z; rfl
        · rw [if_neg (show ¬ nI i = 0 from fun q => z ((nI_eq (b := 0) (by omega) (by omega)).mp q)), decide_eq_false z]; rfl
      · dsimp only
        by_cases z : w = i
        · subst z; exact up2_same _ _ _ _
        · rw [up2_n2 _ z]; exact h2 w (by omega)
    · right
      have hi5 : i = 5 := by omega
      subst hi5
      have hb : b_X5_begin_27 (nI 5, s) = some (.inr s) := by
        unfold b_X5_begin_27
        rw [if_pos (show (5 : Int32) ≤ nI 5 by decide)]
      exact ⟨_, hb, h1, fun w hw => h2 w hw⟩
  obtain ⟨s, h1, h2, h3⟩ := key
  have e3 : s 3 = s0 3 := h2 3 (by decide)
  refine ⟨s, ?_, ?_, ?_, ?_, ?_, ?_, ?_, h3⟩
  · unfold f_X5_begin
    rw [← hs0, h1]; rfl
  · refine Same.tr ?_ (h2.mono (by simp))
    rw [hs0]
    exact Same.up (Same.up (Same.up (Same.up (Same.up Same.rf (by simp)) (by simp)) (by simp)) (by simp)) (by simp)
  · rw [e3, hs0]; rfl
  · rw [e3, hs0]; rfl
  · rw [e3, hs0]; rfl
  · rw [e3, hs0]; rfl
  · rw [e3, hs0]; rfl
theorem J_0 {pg : Nat → Nat} {s u : gs_H} (h7 : s 3 7 = nI 0) (h8 : s 3 8 = nI 0) (h9 : s 3 9 = nI 0) (h5 : s 3 5 = nI 0) (h4 : s 3 4 = nI 0) (ht : ∀ w, w < 5 → s 8 w = bI (decide (w = 0))) (u2 : u 57 2 = nI 0) (u3 : u 57 3 = nI 0) : J pg 0 s u := by
  refine Or.inl ⟨0, 0, 0, rfl, by omega, ⟨by omega, rfl, fun b hb => ?_, fun b c hb => ?_, fun w hw => ?_, ?_⟩, fun b hb => ?_, ⟨h8, h5, h4, fun w hw => ?_, fun b hb => ?_, fun b hb => ?_⟩, h7, h9, u2, u3, by omega, fun w h1 h2 => ?_, fun q => by omega⟩
  · exact absurd hb (by omega)
  · exact absurd hb (by omega)
  · rw [Nat.zero_testBit] at hw; cases hw
  · show cnt (sT pg) 0 + cnt (Nat.testBit 0) 5 = 0
    have : cnt (Nat.testBit 0) 5 = 0 := by decide
    rw [this]; rfl
  · exact absurd hb (by omega)
  · rw [ht w hw, Nat.zero_testBit, Bool.or_false]
  · exact absurd hb (by omega)
  · exact absurd hb (by omega)
  · omega
theorem p_read {L : Nat} {pg : Nat → Nat} {σ : gs_H} (hP : RP L pg σ) : ∃ (F : Nat) (s1 u' : gs_H), f_X5_readLetters σ = some (nI F, s1) ∧ F ≤ L ∧ Same [3, 4, 5, 6, 7, 8] σ s1 ∧ (F = L → J pg L s1 u') ∧ ∀ v, v 57 1 = nI L → (∀ i, i < L → v 58 i = nI (pg i)) → ∃ v', f_X9_faultOf v = some (nI F, v') ∧ SM v v' ∧ v' 57 2 = u' 57 2 ∧ v' 57 3 = u' 57 3 := by
  obtain ⟨p1, p2, p3, p4⟩ := hP
  obtain ⟨s, b1, b2, b3, b4, b5, b6, b7, b8⟩ := p_begin5 σ
  have hJ : J pg 0 s (up2 (up2 σ 57 2 (0 : Int32)) 57 3 (0 : Int32)) := J_0 b3 b4 b5 b6 b7 b8 rfl rfl
  obtain ⟨F, s', u', g1, g2, g3, g4, g5⟩ := sim p1 (fun i hi => (p4 i hi).2.2.2) 1000 0 s _ (Nat.zero_le _) (by omega) hJ (by rw [b2 1 (by decide)]; exact p2) (fun i hi => by rw [b2 2 (by decide)]; exact (p4 i hi).1)
  refine ⟨F, s', u', ?_, g1, (b2.mono (by simp)).tr g2, g4, fun v v1 v2 => ?_⟩
  · have g3' : (F < L ∧ lp b_X5_readLetters_6 1000 ((0 : Int32), s) = some (.inl (nI F, s'))) ∨ (F = L ∧ lp b_X5_readLetters_6 1000 ((0 : Int32), s) = some (.inr s')) := g3
    unfold f_X5_readLetters
    rw [b1, Option.bind_some]
    rcases g3' with ⟨_, g⟩ | ⟨q, g⟩
    · rw [g]; rfl
    · rw [g, q]
      show some (s' 1 1, s') = _
      rw [g2 1 (by decide), b2 1 (by decide), p2]
  · obtain ⟨v', w1, w2, w3⟩ := g5 (up2 (up2 v 57 2 (0 : Int32)) 57 3 (0 : Int32)) (by rw [up2_n2 _ (by omega), up2_n2 _ (by omega)]; exact v1) (fun i hi => by rw [up2_n1 _ (by omega), up2_n1 _ (by omega)]; exact v2 i hi) rfl rfl
    refine ⟨v', ?_, (SM.u2.tr SM.u3).tr w2, w3⟩
    have w1' : lp b_X9_faultOf_12 1000 ((0 : Int32), up2 (up2 v 57 2 (0 : Int32)) 57 3 (0 : Int32)) = some (nI F, v') := w1
    unfold f_X9_faultOf
    rw [w1']; rfl
theorem pu_fault {N : Nat} {σ : gs_H} (hI : Inv N σ) : ∃ (r : Int32) (s1 : gs_H) (s2 : gs_H), f_X8_fault σ = some (r, s1) ∧ f_X9_fault s1 = some (r, s2) ∧ Inv (N + 1) s2 := by
  have hI0 := hI
  obtain ⟨M, L, pg, hW, hC, hM, hP, hQ⟩ := hI
  obtain ⟨F, s1, u', h1, h2, h3, h4, h5⟩ := p_read hP
  obtain ⟨p1, p2, p3, p4⟩ := hP
  obtain ⟨s2, g1, g2, g3⟩ := h5 s1 (by rw [h3 57 (by decide)]; exact p3) (fun i hi => by rw [h3 58 (by decide)]; exact (p4 i hi).2.1)
  refine ⟨nI F, s1, s2, ?_, ?_, Inv_up ((hI0.sc (SC.of h3 (by simp))).sm g2)⟩
  · unfold f_X8_fault
    rw [h1]; rfl
  · unfold f_X9_fault
    rw [g1]; rfl
