/-! PURE: exchange, mend, see, image, restore -/
def swI (x y v : Int32) : Int32 := if v = x then y else if v = y then x else v
def swN (a b v : Nat) : Nat := if v = a then b else if v = b then a else v
theorem swI_N {a b v : Nat} (ha : a < 1000) (hb : b < 1000) (hv : v < 1000) : swI (nI a) (nI b) (nI v) = nI (swN a b v) := by
  unfold swI swN
  by_cases h1 : v = a
  · rw [if_pos h1, if_pos (by rw [h1])]
  · rw [if_neg h1, if_neg (fun q => h1 ((nI_eq (by omega) (by omega)).mp q))]
    by_cases h2 : v = b
    · rw [if_pos h2, if_pos (by rw [h2])]
    · rw [if_neg h2, if_neg (fun q => h2 ((nI_eq (by omega) (by omega)).mp q))]
theorem swN_swN (a b v : Nat) : swN a b (swN a b v) = v := by
  unfold swN
  by_cases h1 : v = a
  · rw [if_pos h1]
    by_cases h2 : b = a
    · rw [if_pos h2]; omega
    · rw [if_neg h2, if_pos rfl]; omega
  · rw [if_neg h1]
    by_cases h2 : v = b
    · rw [if_pos h2, if_pos rfl]; omega
    · rw [if_neg h2, if_neg h1, if_neg h2]
theorem swN_lt {a b v t : Nat} (ha : a < t) (hb : b < t) (hv : v < t) : swN a b v < t := by
  unfold swN
  split
  · exact hb
  · split
    · exact ha
    · exact hv
theorem WP.sw {t a b : Nat} {la : Nat → Nat} (h : WP t la) (ha : a < t) (hb : b < t) : WP t (fun p => swN a b (la p)) :=
  ⟨fun p hp => swN_lt ha hb (h.1 p hp), fun p q hp hq e => h.2 p q hp hq (by have := congrArg (swN a b) e; rwa [swN_swN, swN_swN] at this)⟩
theorem p_swapC {c : Nat} {x y : Int32} {σ : gs_H} : ∃ s, f_X8_swapThings c x y σ = some s ∧ Same [c] σ s ∧ ∀ p, p < 6 → s c p = swI x y (σ c p) := by
  have key : ∃ s, lp (b_X8_swapThings_2 c x y) 1000 ((0 : Int32), σ) = some s ∧ (Same [c] σ s ∧ ∀ p, p < 6 → s c p = swI x y (σ c p)) := by
    refine lp_ok (fun i u => u.1 = nI i ∧ Same [c] σ u.2 ∧ (∀ p, p < i → u.2 c p = swI x y (σ c p)) ∧ ∀ p, i ≤ p → u.2 c p = σ c p) 6 (by omega) _ ?_ ⟨rfl, Same.rf, fun p hp => by omega, fun p _ => rfl⟩
    rintro i ⟨u, s⟩ hi ⟨rfl, h1, h2, h3⟩
    dsimp only at h1 h2 h3
    by_cases hc : i < 6
    · left
      refine ⟨hc, ?_⟩
      have q1 : ¬ 6 ≤ i := by omega
      have e := h3 i (Nat.le_refl _)
      have hb : ∃ s', b_X8_swapThings_2 c x y (nI i, s) = some (.inl (nI (i + 1), s')) ∧ Same [c] σ s' ∧ s' c i = swI x y (σ c i) ∧ ∀ p, p ≠ i → s' c p = s c p := by
        unfold b_X8_swapThings_2 swI
        by_cases n1 : σ c i = x
        · refine ⟨up2 s c i y, ?_, h1.up (by simp), by rw [up2_same, if_pos n1], fun p hp => up2_n2 _ hp⟩
          simp (disch := omega) only [c0, c1, c2, c3, c4, c5, c6, c7, c8, c9, c10, c11, c12, c15, c20, c24, c30, c31, c45, c46, c48, c49, c57, c60, c97, c98, c99, c100, c101, c102, c108, c111, c126, c720, c999, c10000, nI_add, pk_mul, k_cl, k_lt, k_le, k_eq, k_sub, k_div, k_m1, e, inb_N, q1, hc, n1, ↓reduceIte]
        · by_cases n2 : σ c i = y
          · refine ⟨up2 s c i x, ?_, h1.up (by simp), by rw [up2_same, if_neg n1, if_pos n2], fun p hp => up2_n2 _ hp⟩
            have n3 : ¬ y = x := fun q => n1 (n2.trans q)
            simp (disch := omega) only [c0, c1, c2, c3, c4, c5, c6, c7, c8, c9, c10, c11, c12, c15, c20, c24, c30, c31, c45, c46, c48, c49, c57, c60, c97, c98, c99, c100, c101, c102, c108, c111, c126, c720, c999, c10000, nI_add, pk_mul, k_cl, k_lt, k_le, k_eq, k_sub, k_div, k_m1, e, inb_N, q1, hc, n2, n3, ↓reduceIte]
          · refine ⟨s, ?_, h1, by rw [if_neg n1, if_neg n2]; exact e, fun p _ => rfl⟩
            simp (disch := omega) only [c0, c1, c2, c3, c4, c5, c6, c7, c8, c9, c10, c11, c12, c15, c20, c24, c30, c31, c45, c46, c48, c49, c57, c60, c97, c98, c99, c100, c101, c102, c108, c111, c126, c720, c999, c10000, nI_add, pk_mul, k_cl, k_lt, k_le, k_eq, k_sub, k_div, k_m1, e, inb_N, q1, hc, n1, n2, ↓reduceIte]
      obtain ⟨s', g1, g2, g3, g4⟩ := hb
      refine ⟨_, g1, rfl, g2, fun p hp => ?_, fun p hp => ?_⟩
      · by_cases z : p = i
        · subst z; exact g3
        · dsimp only; rw [g4 p z]; exact h2 p (by omega)
      · dsimp only; rw [g4 p (by omega)]; exact h3 p (by omega)
    · right
      have hb : b_X8_swapThings_2 c x y (nI i, s) = some (.inr s) := by
        unfold b_X8_swapThings_2
        have q1 : 6 ≤ i := by omega
        simp (disch := omega) only [c0, c1, c2, c3, c4, c5, c6, c7, c8, c9, c10, c11, c12, c15, c20, c24, c30, c31, c45, c46, c48, c49, c57, c60, c97, c98, c99, c100, c101, c102, c108, c111, c126, c720, c999, c10000, nI_add, pk_mul, k_cl, k_lt, k_le, k_eq, k_sub, k_div, k_m1, q1, ↓reduceIte]
      exact ⟨_, hb, h1, fun p hp => h2 p (by omega)⟩
  obtain ⟨s, h1, h2, h3⟩ := key
  exact ⟨s, by unfold f_X8_swapThings; rw [h1]; rfl, h2, h3⟩
theorem p_swapM {c : Nat} {x y : Int32} {σ : gs_H} : ∃ s, f_X9_trade c x y σ = some s ∧ Same [c] σ s ∧ ∀ p, p < 6 → s c p = swI x y (σ c p) := by
  have key : ∃ s, lp (b_X9_trade_2 c x y) 1000 ((0 : Int32), σ) = some s ∧ (Same [c] σ s ∧ ∀ p, p < 6 → s c p = swI x y (σ c p)) := by
    refine lp_ok (fun i u => u.1 = nI i ∧ Same [c] σ u.2 ∧ (∀ p, p < i → u.2 c p = swI x y (σ c p)) ∧ ∀ p, i ≤ p → u.2 c p = σ c p) 6 (by omega) _ ?_ ⟨rfl, Same.rf, fun p hp => by omega, fun p _ => rfl⟩
    rintro i ⟨u, s⟩ hi ⟨rfl, h1, h2, h3⟩
    dsimp only at h1 h2 h3
    by_cases hc : i < 6
    · left
      refine ⟨hc, ?_⟩
      have q1 : ¬ 6 ≤ i := by omega
      have e := h3 i (Nat.le_refl _)
      have hb : b_X9_trade_2 c x y (nI i, s) = some (.inl (nI (i + 1), up2 s c i (swI x y (σ c i)))) := by
        unfold b_X9_trade_2 j_X9_trade_35 swI
        by_cases n1 : σ c i = x
        · simp (disch := omega) only [c0, c1, c2, c3, c4, c5, c6, c7, c8, c9, c10, c11, c12, c15, c20, c24, c30, c31, c45, c46, c48, c49, c57, c60, c97, c98, c99, c100, c101, c102, c108, c111, c126, c720, c999, c10000, nI_add, pk_mul, k_cl, k_lt, k_le, k_eq, k_sub, k_div, k_m1, e, inb_N, q1, hc, n1, ↓reduceIte]
        · by_cases n2 : σ c i = y
          · have n3 : ¬ y = x := fun q => n1 (n2.trans q)
            simp (disch := omega) only [c0, c1, c2, c3, c4, c5, c6, c7, c8, c9, c10, c11, c12, c15, c20, c24, c30, c31, c45, c46, c48, c49, c57, c60, c97, c98, c99, c100, c101, c102, c108, c111, c126, c720, c999, c10000, nI_add, pk_mul, k_cl, k_lt, k_le, k_eq, k_sub, k_div, k_m1, e, inb_N, q1, hc, n2, n3, ↓reduceIte]
          · simp (disch := omega) only [c0, c1, c2, c3, c4, c5, c6, c7, c8, c9, c10, c11, c12, c15, c20, c24, c30, c31, c45, c46, c48, c49, c57, c60, c97, c98, c99, c100, c101, c102, c108, c111, c126, c720, c999, c10000, nI_add, pk_mul, k_cl, k_lt, k_le, k_eq, k_sub, k_div, k_m1, e, inb_N, q1, hc, n1, n2, ↓reduceIte]
      refine ⟨_, hb, rfl, h1.up (by simp), fun p hp => ?_, fun p hp => ?_⟩
      · dsimp only
        by_cases z : p = i
        · subst z; exact up2_same _ _ _ _
        · rw [up2_n2 _ z]; exact h2 p (by omega)
      · dsimp only; rw [up2_n2 _ (by omega)]; exact h3 p (by omega)
    · right
      have hb : b_X9_trade_2 c x y (nI i, s) = some (.inr s) := by
        unfold b_X9_trade_2
        have q1 : 6 ≤ i := by omega
        simp (disch := omega) only [c0, c1, c2, c3, c4, c5, c6, c7, c8, c9, c10, c11, c12, c15, c20, c24, c30, c31, c45, c46, c48, c49, c57, c60, c97, c98, c99, c100, c101, c102, c108, c111, c126, c720, c999, c10000, nI_add, pk_mul, k_cl, k_lt, k_le, k_eq, k_sub, k_div, k_m1, q1, ↓reduceIte]
      exact ⟨_, hb, h1, fun p hp => h2 p (by omega)⟩
  obtain ⟨s, h1, h2, h3⟩ := key
  exact ⟨s, by unfold f_X9_trade; rw [h1]; rfl, h2, h3⟩
theorem pu_exchange {N : Nat} {σ : gs_H} (hI : Inv N σ) (x1 x2 : Int32) : ∃ (r : Int32) (s1 : gs_H) (s2 : gs_H), f_X8_exchange x1 x2 σ = some (r, s1) ∧ f_X9_exchange x1 x2 s1 = some (r, s2) ∧ Inv (N + 1) s2 := by
  have hI0 := hI
  obtain ⟨M, L, pg, hW, hC, hM, hP, hQ⟩ := hI
  have h5 := hW.1.r5
  rcases is_thing hC.2.1 hM.2.1 (by omega) x1 with ⟨a, ha, rfl, h1, h2⟩ | ⟨h1, h2⟩
  · rcases is_thing hC.2.1 hM.2.1 (by omega) x2 with ⟨b, hb, rfl, g1, g2⟩ | ⟨g1, g2⟩
    · by_cases hab : nI a = nI b
      · refine ⟨-101, σ, σ, ?_, ?_, Inv_up hI0⟩
        · unfold f_X8_exchange
          simp only [h1, g1, d10, ↓reduceIte]
          rw [if_pos hab]
        · unfold f_X9_exchange
          simp only [h2, g2, Option.bind_some, d10, ↓reduceIte]
          rw [if_pos hab]
      · have q6 : inb (nI a) 6 := inb_I (by omega) (by omega)
        have q7 : inb (nI b) 6 := inb_I (by omega) (by omega)
        have ek : (nI a).toNatClampNeg = a := k_cl (by omega)
        have ek2 : (nI b).toNatClampNeg = b := k_cl (by omega)
        have k1 : σ 15 a = bI (mC M a) := hC.2.2.2.2.2.1 a (by omega)
        have k2 : σ 15 b = bI (mC M b) := hC.2.2.2.2.2.1 b (by omega)
        have kc := isCut_eq hM (p := a) (by omega)
        have kc2 := isCut_eq hM (p := b) (by omega)
        by_cases hcut : mC M a = false ∧ mC M b = false
        · rw [hcut.1] at k1 kc
          rw [hcut.2] at k2 kc2
          obtain ⟨M', hM'⟩ : ∃ M' : MD, M' = (M.1, (mE M, mN M, (fun p => swN a b (mL M p)), mK M, mZ M), M.2.2) := ⟨_, rfl⟩
          have f1 : mR M' = mR M := by rw [hM']; rfl
          have f2 : mT M' = mT M := by rw [hM']; rfl
          have f3 : mE M' = mE M := by rw [hM']; rfl
          have hW' : WF M' := by
            obtain ⟨a1, a2, a3⟩ := hW
            rw [hM']
            exact ⟨a1, a2.sw ha hb, a3⟩
          obtain ⟨u1, v1, v2, v3⟩ := p_swapC (c := 12) (x := nI a) (y := nI b) (σ := σ)
          have e1' : ∀ k, k ≠ 12 → k ≠ 1000 → u1 k = σ k := fun k h _ => v2 k (by simp; exact h)
          have hlt : ∀ p, p < mT M → mL M p < 6 := fun p hp => by have := hW.2.1.1 p hp; omega
          have hC' : RC 9 M' u1 := by
            obtain ⟨a1, a2, a3, a4, a5, a6⟩ := hC
            unfold RC
            rw [e1' 9 (by omega) (by omega), e1' (9 + 1) (by omega) (by omega), e1' (9 + 2) (by omega) (by omega), e1' (9 + 4) (by omega) (by omega), e1' (9 + 5) (by omega) (by omega), e1' (9 + 6) (by omega) (by omega), e1' (9 + 7) (by omega) (by omega), e1' (9 + 8) (by omega) (by omega), e1' (9 + 9) (by omega) (by omega), e1' (9 + 10) (by omega) (by omega), e1' (9 + 11) (by omega) (by omega), e1' (9 + 12) (by omega) (by omega), hM']
            refine ⟨a1, a2, a3, a4, fun q hq => ⟨?_, (a5 q hq).2⟩, a6⟩
            show u1 12 q = nI (swN a b (mL M q))
            have hq2 : q < mT M := hq
            have e5 : σ 12 q = nI (mL M q) := (a5 q hq).1
            rw [v3 q (by omega), e5, swI_N (by omega) (by omega) (by have := hlt q hq2; omega)]
          obtain ⟨s1, w1, w2⟩ := p_clevel hW' hC'
          have es1 : ∀ k, k < 3 ∨ (8 < k ∧ k < 35 ∧ k ≠ 12) ∨ 56 < k → s1 k = σ k := fun k h => (w2 k (by omega)).trans (v2 k (by simp; omega))
          obtain ⟨u2, x1, x2, x3⟩ := p_swapM (c := 64) (x := nI a) (y := nI b) (σ := s1)
          have hM2 : RM M' u2 := by
            have ec : ∀ k, 59 ≤ k → k ≤ 68 ∧ k ≠ 64 → u2 k = σ k := fun k h1 h2 => by rw [x2 k (by simp; omega), es1 k (by omega)]
            have ej : ∀ j, j ≠ 1000 → u2 57 j = σ 57 j := fun j _ => by rw [x2 57 (by simp), es1 57 (by omega)]
            obtain ⟨a1, a2, a3, a4, a5, a6⟩ := hM
            unfold RM
            rw [ec 59 (by omega) (by omega), ec 60 (by omega) (by omega), ec 61 (by omega) (by omega), ec 62 (by omega) (by omega), ec 63 (by omega) (by omega), ec 68 (by omega) (by omega), ej 4 (by omega), ej 5 (by omega), ej 6 (by omega), ej 8 (by omega), ej 9 (by omega), ej 21 (by omega), hM']
            refine ⟨a1, a2, a3, a4, fun q hq => ⟨?_, (a5 q hq).2⟩, a6⟩
            show u2 64 q = nI (swN a b (mL M q))
            have hq2 : q < mT M := hq
            rw [x3 q (by omega), es1 64 (by omega), (a5 q hq).1, swI_N (by omega) (by omega) (by have := hlt q hq2; omega)]
          obtain ⟨s2, y1, y2⟩ := p_mlevel' hW' hM2
          have hI1 : Inv (N + 1) u2 := Inv_of hW' ((w2.RC9 hC').eq9 (fun k h1 h2 => x2 k (by simp; omega))) hM2 hP hQ f1 f2 f3 (fun k hk => by rw [x2 k (by simp; omega)]; exact es1 k (by omega)) (fun j hj => by rw [x2 57 (by simp), es1 57 (by omega)])
          refine ⟨nI (LV M' (mL M') (mH M')), s1, s2, ?_, ?_, hI1.sm y2⟩
          · unfold f_X8_exchange
            simp only [h1, g1, d10, if_neg hab, if_pos q6, if_pos q7, ek, ek2, k1, k2, ↓reduceIte]
            rw [if_pos (show bI false = 0 from rfl), if_pos (show bI false = 0 from rfl), v1, Option.bind_some, w1]
            rfl
          · unfold f_X9_exchange
            have h2' : f_X9_isThing (nI a) s1 = some 1 := by rw [← h2]; unfold f_X9_isThing; rw [es1 57 (by omega)]
            have g2' : f_X9_isThing (nI b) s1 = some 1 := by rw [← g2]; unfold f_X9_isThing; rw [es1 57 (by omega)]
            have kc' : f_X9_isCut (nI a) s1 = bI false := by rw [← kc]; unfold f_X9_isCut; rw [es1 57 (by omega)]
            have kc2' : f_X9_isCut (nI b) s1 = bI false := by rw [← kc2]; unfold f_X9_isCut; rw [es1 57 (by omega)]
            simp only [h2', g2', Option.bind_some, d10, if_neg hab, kc', kc2', ↓reduceIte]
            rw [if_pos (show bI false = 0 from rfl), if_pos (show bI false = 0 from rfl), x1, Option.bind_some, y1]
            rfl
        · refine ⟨-103, σ, σ, ?_, ?_, Inv_up hI0⟩
          · unfold f_X8_exchange
            simp only [h1, g1, d10, if_neg hab, if_pos q6, if_pos q7, ek, ek2, k1, k2, ↓reduceIte]
            cases hx : mC M a
            · cases hy : mC M b
              · exact absurd ⟨hx, hy⟩ hcut
              · rw [if_pos (show bI false = 0 from rfl), if_neg (show ¬ bI true = 0 by decide)]
            · rw [if_neg (show ¬ bI true = 0 by decide)]
          · unfold f_X9_exchange
            simp only [h2, g2, Option.bind_some, d10, if_neg hab, kc, kc2, ↓reduceIte]
            cases hx : mC M a
            · cases hy : mC M b
              · exact absurd ⟨hx, hy⟩ hcut
              · rw [if_pos (show bI false = 0 from rfl), if_neg (show ¬ bI true = 0 by decide)]
            · rw [if_neg (show ¬ bI true = 0 by decide)]
    · refine ⟨-101, σ, σ, ?_, ?_, Inv_up hI0⟩
      · unfold f_X8_exchange
        simp only [h1, g1, d10, d00, ↓reduceIte]
      · unfold f_X9_exchange
        simp only [h2, g2, Option.bind_some, d10, d00, ↓reduceIte]
  · refine ⟨-101, σ, σ, ?_, ?_, Inv_up hI0⟩
    · unfold f_X8_exchange
      simp only [h1, d00, ↓reduceIte]
    · unfold f_X9_exchange
      simp only [h2, Option.bind_some, d00, ↓reduceIte]
theorem p_hangAll {C D : Nat → Bool} {σ : gs_H} (hC : ∀ p, p < 6 → σ 15 p = bI (C p)) (hD : ∀ w, w < 5 → σ 16 w = bI (D w)) : ∃ s, f_X3_hangAllAgain σ = some (nI (cnt C 6 + cnt D 5), s) ∧ Same [15, 16] σ s ∧ (∀ p, p < 6 → s 15 p = bI false) ∧ ∀ w, w < 5 → s 16 w = bI false := by
  have key1 : ∃ q, lp (b_X3_hangAllAgain_4) 1000 ((0 : Int32), (0 : Int32), σ) = some q ∧ (q.1 = nI (cnt C 6) ∧ Same [15] σ q.2 ∧ ∀ p, p < 6 → q.2 15 p = bI false) := by
    refine lp_ok (fun i u => u.1 = nI (cnt C i) ∧ u.2.1 = nI i ∧ Same [15] σ u.2.2 ∧ (∀ p, p < i → u.2.2 15 p = bI false) ∧ ∀ p, i ≤ p → u.2.2 15 p = σ 15 p) 6 (by omega) _ ?_ ⟨rfl, rfl, Same.rf, fun p hp => by omega, fun _ _ => rfl⟩
    rintro i ⟨u, v, s⟩ hi ⟨rfl, rfl, h1, h2, h3⟩
    dsimp only at h1 h2 h3
    by_cases hc : i < 6
    · left
      refine ⟨hc, ?_⟩
      have q1 : ¬ 6 ≤ i := by omega
      have e := (h3 i (Nat.le_refl _)).trans (hC i hc)
      have hb : b_X3_hangAllAgain_4 (nI (cnt C i), nI i, s) = some (.inl (nI (cnt C (i + 1)), nI (i + 1), up2 s 15 i (bI false))) := by
        unfold b_X3_hangAllAgain_4 j_X3_hangAllAgain_25
        cases hA : C i <;> simp (disch := omega) only [c0, c1, c2, c3, c4, c5, c6, c7, c8, c9, c10, c11, c12, c15, c20, c24, c30, c31, c45, c46, c48, c49, c57, c60, c97, c98, c99, c100, c101, c102, c108, c111, c126, c720, c999, c10000, nI_add, pk_mul, k_cl, k_lt, k_le, k_eq, k_sub, k_div, k_m1, e, inb_N, q1, hc, hA, bI_0, bI, cnt, ↓reduceIte, Bool.true_eq_false, Bool.false_eq_true, Bool.toNat_true, Bool.toNat_false, Nat.one_ne_zero]
      refine ⟨_, hb, rfl, rfl, h1.up (by simp), fun p hp => ?_, fun p hp => ?_⟩
      · dsimp only
        by_cases z : p = i
        · subst z; exact up2_same _ _ _ _
        · rw [up2_n2 _ z]; exact h2 p (by omega)
      · dsimp only; rw [up2_n2 _ (by omega)]; exact h3 p (by omega)
    · right
      have hi6 : i = 6 := by omega
      subst hi6
      have hb : b_X3_hangAllAgain_4 (nI (cnt C 6), nI 6, s) = some (.inr (nI (cnt C 6), s)) := by
        unfold b_X3_hangAllAgain_4
        rw [if_pos (show (6 : Int32) ≤ nI 6 by decide)]
      exact ⟨_, hb, rfl, h1, fun p hp => h2 p hp⟩
  obtain ⟨⟨q, s1⟩, h1, rfl, h2, h3⟩ := key1
  dsimp only at h2 h3
  have key2 : ∃ q, lp (b_X3_hangAllAgain_42) 1000 (nI (cnt C 6), (0 : Int32), s1) = some q ∧ (q.1 = nI (cnt C 6 + cnt D 5) ∧ Same [16] s1 q.2 ∧ ∀ p, p < 5 → q.2 16 p = bI false) := by
    refine lp_ok (fun i u => u.1 = nI (cnt C 6 + cnt D i) ∧ u.2.1 = nI i ∧ Same [16] s1 u.2.2 ∧ (∀ p, p < i → u.2.2 16 p = bI false) ∧ ∀ p, i ≤ p → u.2.2 16 p = s1 16 p) 5 (by omega) _ ?_ ⟨rfl, rfl, Same.rf, fun p hp => by omega, fun _ _ => rfl⟩
    rintro i ⟨u, v, s⟩ hi ⟨rfl, rfl, g1, g2, g3⟩
    dsimp only at g1 g2 g3
    by_cases hc : i < 5
    · left
      refine ⟨hc, ?_⟩
      have q1 : ¬ 5 ≤ i := by omega
      have e : s 16 i = bI (D i) := by rw [g3 i (Nat.le_refl _), h2 16 (by decide)]; exact hD i hc
      have hb : b_X3_hangAllAgain_42 (nI (cnt C 6 + cnt D i), nI i, s) = some (.inl (nI (cnt C 6 + cnt D (i + 1)), nI (i + 1), up2 s 16 i (bI false))) := by
        unfold b_X3_hangAllAgain_42 j_X3_hangAllAgain_62
        have ed : cnt D (i + 1) = cnt D i + (D i).toNat := rfl
        rw [ed]
        cases hA : D i <;> simp (disch := omega) only [c0, c1, c2, c3, c4, c5, c6, c7, c8, c9, c10, c11, c12, c15, c20, c24, c30, c31, c45, c46, c48, c49, c57, c60, c97, c98, c99, c100, c101, c102, c108, c111, c126, c720, c999, c10000, nI_add, pk_mul, k_cl, k_lt, k_le, k_eq, k_sub, k_div, k_m1, e, inb_N, q1, hc, hA, bI_0, bI, ↓reduceIte, Bool.true_eq_false, Bool.false_eq_true, Bool.toNat_true, Bool.toNat_false, Nat.one_ne_zero, Nat.add_assoc]
      refine ⟨_, hb, rfl, rfl, g1.up (by simp), fun p hp => ?_, fun p hp => ?_⟩
      · dsimp only
        by_cases z : p = i
        · subst z; exact up2_same _ _ _ _
        · rw [up2_n2 _ z]; exact g2 p (by omega)
      · dsimp only; rw [up2_n2 _ (by omega)]; exact g3 p (by omega)
    · right
      have hi6 : i = 5 := by omega
      subst hi6
      have hb : b_X3_hangAllAgain_42 (nI (cnt C 6 + cnt D 5), nI 5, s) = some (.inr (nI (cnt C 6 + cnt D 5), s)) := by
        unfold b_X3_hangAllAgain_42
        rw [if_pos (show (5 : Int32) ≤ nI 5 by decide)]
      exact ⟨_, hb, rfl, g1, fun p hp => g2 p hp⟩
  obtain ⟨⟨q, s2⟩, g1, rfl, g2, g3⟩ := key2
  dsimp only at g2 g3
  refine ⟨s2, ?_, (h2.mono (by simp)).tr (g2.mono (by simp)), fun p hp => by rw [g2 15 (by decide)]; exact h3 p hp, g3⟩
  unfold f_X3_hangAllAgain
  rw [h1, Option.bind_some, g1, Option.bind_some]
theorem pu_mend {N : Nat} {σ : gs_H} (hI : Inv N σ) : ∃ (r : Int32) (s1 : gs_H) (s2 : gs_H), f_X8_mend σ = some (r, s1) ∧ f_X9_mend s1 = some (r, s2) ∧ Inv (N + 1) s2 := by
  obtain ⟨M, L, pg, hW, hC, hM, hP, hQ⟩ := hI
  have h5 := hW.1.r5
  obtain ⟨s1, h1, h2, h3, h4⟩ := p_hangAll (C := mC M) (D := mD M) (σ := σ) hC.2.2.2.2.2.1 hC.2.2.2.2.2.2.1
  obtain ⟨B, b1, b2, b3⟩ := hM.2.2.2.2.2.1
  obtain ⟨D, d1, d2, d3⟩ := hM.2.2.2.2.2.2.1
  have e57 : s1 57 = σ 57 := h2 57 (by decide)
  have o1 := ones_B (M := M) (B := B) (f := mC M) (n := 6) b1 b3 (by omega) (fun i hi => Nat.testBit_lt_two_pow (Nat.lt_of_lt_of_le b1 (Nat.pow_le_pow_right (n := 2) (by omega) hi)))
  have o2 := ones_B (M := M) (B := D) (f := mD M) (n := 5) (by omega) d3 (by omega) (fun i hi => Nat.testBit_lt_two_pow (Nat.lt_of_lt_of_le d1 (Nat.pow_le_pow_right (n := 2) (by omega) hi)))
  have ec : ∀ k, k ≠ 15 ∧ k ≠ 16 → k ≠ 57 → (up2 (up2 s1 57 9 (0 : Int32)) 57 8 (0 : Int32)) k = σ k := fun k h h' => by rw [up2_ne _ _ _ h', up2_ne _ _ _ h', h2 k (by simp; omega)]
  have ej : ∀ j, j ≠ 8 ∧ j ≠ 9 → (up2 (up2 s1 57 9 (0 : Int32)) 57 8 (0 : Int32)) 57 j = σ 57 j := fun j h => by rw [up2_n2 _ h.1, up2_n2 _ h.2, e57]
  refine ⟨nI (cnt (mC M) 6 + cnt (mD M) 5), s1, up2 (up2 s1 57 9 0) 57 8 0, ?_, ?_, Inv_of (M := M) (M' := (M.1, M.2.1, ((fun _ => false), (fun _ => false)), M.2.2.2)) ?_ ?_ ?_ hP hQ rfl rfl rfl (fun k hk => ec k (by omega) (by omega)) (fun j hj => ej j (by omega))⟩
  · unfold f_X8_mend
    rw [h1]; rfl
  · unfold f_X9_mend
    rw [e57, b2, d2, o1, Option.bind_some, o2, Option.bind_some, nI_add]
  · obtain ⟨a1, a2, a3, a4, a5, a6, a7, a8, a9, a10⟩ := hW
    exact ⟨a1, a2, a3, a4, a5, a6, fun _ _ => rfl, fun _ _ => rfl, rfl, a10⟩
  · obtain ⟨a1, a2, a3, a4, a5, a6, a7, a8⟩ := hC
    unfold RC
    rw [ec 9 (by omega) (by omega), ec (9 + 1) (by omega) (by omega), ec (9 + 2) (by omega) (by omega), ec (9 + 3) (by omega) (by omega), ec (9 + 4) (by omega) (by omega), ec (9 + 5) (by omega) (by omega), ec (9 + 8) (by omega) (by omega), ec (9 + 9) (by omega) (by omega), ec (9 + 10) (by omega) (by omega), ec (9 + 11) (by omega) (by omega), ec (9 + 12) (by omega) (by omega)]
    refine ⟨a1, a2, a3, a4, a5, fun p hp => ?_, fun w hw => ?_, a8⟩
    · show (up2 (up2 s1 57 9 (0 : Int32)) 57 8 (0 : Int32)) 15 p = _
      rw [up2_n1 _ (by omega), up2_n1 _ (by omega)]; exact h3 p hp
    · show (up2 (up2 s1 57 9 (0 : Int32)) 57 8 (0 : Int32)) 16 w = _
      rw [up2_n1 _ (by omega), up2_n1 _ (by omega)]; exact h4 w hw
  · obtain ⟨a1, a2, a3, a4, a5, a6, a7, a8⟩ := hM
    unfold RM
    rw [ec 59 (by omega) (by omega), ec 60 (by omega) (by omega), ec 61 (by omega) (by omega), ec 62 (by omega) (by omega), ec 63 (by omega) (by omega), ec 64 (by omega) (by omega), ec 68 (by omega) (by omega), ej 4 (by omega), ej 5 (by omega), ej 6 (by omega), ej 21 (by omega)]
    exact ⟨a1, a2, a3, a4, a5, ⟨0, by omega, by rw [up2_n2 _ (by omega), up2_same]; rfl, fun p _ => Nat.zero_testBit p⟩, ⟨0, by omega, by rw [up2_same]; rfl, fun p _ => Nat.zero_testBit p⟩, a8⟩
def upV (f : Nat → Nat → Nat) (k : Nat) (g : Nat → Nat) : Nat → Nat → Nat := fun i => if i = k then g else f i
theorem upV_s (f : Nat → Nat → Nat) (k : Nat) (g : Nat → Nat) : upV f k g k = g := if_pos rfl
theorem upV_n (f : Nat → Nat → Nat) {k i : Nat} (g : Nat → Nat) (h : i ≠ k) : upV f k g i = f i := if_neg h
def four (a b c d : Nat) : Nat → Nat := fun j => if j = 0 then a else if j = 1 then b else if j = 2 then c else d
theorem pu_see {N : Nat} {σ : gs_H} (hI : Inv N σ) (x1 x2 x3 x4 : Int32) : ∃ (r : Int32) (s1 : gs_H) (s2 : gs_H), f_X8_see x1 x2 x3 x4 σ = some (r, s1) ∧ f_X9_see x1 x2 x3 x4 s1 = some (r, s2) ∧ Inv (N + 1) s2 := by
  have hI0 := hI
  obtain ⟨M, L, pg, hW, hC, hM, hP, hQ⟩ := hI
  have h5 := hW.1.r5
  have h6 := hW.2.2.2.1
  rcases is_thing hC.2.1 hM.2.1 (by omega) x1 with ⟨a, ha, rfl, h1, h2⟩ | ⟨h1, h2⟩
  · rcases is_rod hC.1 hM.1 (by omega) x2 with ⟨w, hw, rfl, g1, g2⟩ | ⟨g1, g2⟩
    · by_cases hr3 : (0 : Int32) ≤ x3 ∧ x3 ≤ 9
      · have hr3T := eq_true hr3
        by_cases hr4 : (0 : Int32) ≤ x4 ∧ x4 ≤ 2
        · have hr4T := eq_true hr4
          obtain ⟨z, -, hz, rfl⟩ := rng (a := 0) (b := 9) hr3.1 hr3.2 (by omega) (by omega)
          obtain ⟨j, -, hj, rfl⟩ := rng (a := 0) (b := 2) hr4.1 hr4.2 (by omega) (by omega)
          have n1 : ¬ nI j < 0 := Int32.not_lt.mpr hr4.1
          have n2 : nI j ≤ 2 := hr4.2
          have k1 : σ 17 0 = nI (mS M) := hC.2.2.2.2.2.2.2.1
          have m1 : σ 57 21 = nI (mS M) := hM.2.2.2.2.2.2.2.1
          by_cases hf : mS M = 6
          · refine ⟨-104, σ, σ, ?_, ?_, Inv_up hI0⟩
            · unfold f_X8_see
              simp only [h1, g1, d10, isSize_eq, iv_10, hr3T, not_true_eq_false, if_neg n1, if_pos n2, k1, hf, ↓reduceIte]
              rw [if_neg (show ¬ nI 6 < 6 by decide)]
            · unfold f_X9_see
              simp only [h2, g2, Option.bind_some, d10, in09, in02, iv_10, hr3T, hr4T, not_true_eq_false, m1, hf, ↓reduceIte]
              rw [if_pos (show nI 6 = 6 from rfl)]
          · have n3 : nI (mS M) < 6 := (nI_ltI (b := 6) (by omega) (by omega)).mpr (by omega)
            have n4 : ¬ nI (mS M) = 6 := fun q => hf ((nI_eq (b := 6) (by omega) (by omega)).mp q)
            have q6 : inb (nI (mS M)) 6 := inb_I (by omega) (by omega)
            have ek : (nI (mS M)).toNatClampNeg = mS M := k_cl (by omega)
            have e4 : (4 : Int32) * nI (mS M) = nI (4 * mS M) := by rw [c4, pk_mul]
            have e41 : nI (4 * mS M) + (1 : Int32) = nI (4 * mS M + 1) := nI_1 _
            have e42 : nI (4 * mS M) + (2 : Int32) = nI (4 * mS M + 2) := nI_add _ 2
            have e43 : nI (4 * mS M) + (3 : Int32) = nI (4 * mS M + 3) := nI_add _ 3
            have i0 : inb (nI (4 * mS M)) 24 := inb_I (by omega) (by omega)
            have i1 : inb (nI (4 * mS M + 1)) 24 := inb_I (by omega) (by omega)
            have i2 : inb (nI (4 * mS M + 2)) 24 := inb_I (by omega) (by omega)
            have i3 : inb (nI (4 * mS M + 3)) 24 := inb_I (by omega) (by omega)
            have l0 : (nI (4 * mS M)).toNatClampNeg = 4 * mS M := k_cl (by omega)
            have l1 : (nI (4 * mS M + 1)).toNatClampNeg = 4 * mS M + 1 := k_cl (by omega)
            have l2 : (nI (4 * mS M + 2)).toNatClampNeg = 4 * mS M + 2 := k_cl (by omega)
            have l3 : (nI (4 * mS M + 3)).toNatClampNeg = 4 * mS M + 3 := k_cl (by omega)
            have e1 : nI (mS M) + (1 : Int32) = nI (mS M + 1) := nI_1 _
            obtain ⟨s1, hs1⟩ : ∃ s, s = up2 (up2 (up2 (up2 (up2 σ 18 (mS M) (nI a)) 19 (mS M) (nI w)) 20 (mS M) (nI z)) 21 (mS M) (nI j)) 17 0 (nI (mS M + 1)) := ⟨_, rfl⟩
            have t1 : ∀ k, k < 17 ∨ 21 < k → s1 k = σ k := fun k h => by rw [hs1]; rw [up2_ne _ _ _ (by omega), up2_ne _ _ _ (by omega), up2_ne _ _ _ (by omega), up2_ne _ _ _ (by omega), up2_ne _ _ _ (by omega)]
            obtain ⟨s2, hs2⟩ : ∃ s, s = up2 (up2 (up2 (up2 (up2 s1 68 (4 * mS M) (nI a)) 68 (4 * mS M + 1) (nI w)) 68 (4 * mS M + 2) (nI z)) 68 (4 * mS M + 3) (nI j)) 57 21 (nI (mS M + 1)) := ⟨_, rfl⟩
            have t2 : ∀ k, k ≠ 57 → k ≠ 68 → s2 k = s1 k := fun k h h' => by rw [hs2]; rw [up2_ne _ _ _ (by omega), up2_ne _ _ _ (by omega), up2_ne _ _ _ (by omega), up2_ne _ _ _ (by omega), up2_ne _ _ _ (by omega)]
            have t3 : ∀ k, k ≠ 21 → s2 57 k = σ 57 k := fun k h => by rw [hs2]; rw [up2_n2 _ h, up2_n1 _ (by omega), up2_n1 _ (by omega), up2_n1 _ (by omega), up2_n1 _ (by omega), t1 57 (by omega)]
            have hadd : f_X7_add (nI a) (nI w) (nI z) (nI j) σ = some s1 := by
              unfold f_X7_add
              simp only [k1, if_pos n3, if_pos q6, ek, e1, ↓reduceIte]
              rw [hs1]
            have s170 : s1 17 0 = nI (mS M + 1) := by rw [hs1]; exact up2_same _ _ _ _
            refine ⟨nI (mS M + 1), s1, s2, ?_, ?_, Inv_of (M := M) (M' := ((mR M, mT M, mH M, mS M + 1), M.2.1, M.2.2.1, upV (mV M) (mS M) (four a w z j))) ?_ ?_ ?_ hP hQ rfl rfl rfl (fun k hk => by rw [t2 k (by omega) (by omega)]; exact t1 k (by omega)) (fun k hk => t3 k (by omega))⟩
            · unfold f_X8_see
              simp only [h1, g1, d10, isSize_eq, iv_10, hr3T, not_true_eq_false, if_neg n1, if_pos n2, k1, if_pos n3, hadd, Option.bind_some, s170, ↓reduceIte]
            · unfold f_X9_see
              have h2' : f_X9_isThing (nI a) s1 = some 1 := by rw [← h2]; unfold f_X9_isThing; rw [t1 57 (by omega)]
              have g2' : f_X9_isRod (nI w) s1 = some 1 := by rw [← g2]; unfold f_X9_isRod; rw [t1 57 (by omega)]
              have m1' : s1 57 21 = nI (mS M) := by rw [t1 57 (by omega)]; exact m1
              simp only [h2', g2', Option.bind_some, d10, in09, in02, iv_10, hr3T, hr4T, not_true_eq_false, m1', if_neg n4, e4, e41, e42, e43, if_pos i0, if_pos i1, if_pos i2, if_pos i3, l0, l1, l2, l3, e1, ↓reduceIte]
              rw [hs2]
            · obtain ⟨a1, a2, a3, a4, a5, a6, a7, a8, a9, a10⟩ := hW
              refine ⟨a1, a2, a3, by show mS M + 1 ≤ 6; omega, a5, a6, a7, a8, a9, fun i hi => ?_⟩
              have hi2 : i < mS M + 1 := hi
              show upV (mV M) (mS M) (four a w z j) i 0 < mT M ∧ upV (mV M) (mS M) (four a w z j) i 1 < mR M ∧ upV (mV M) (mS M) (four a w z j) i 2 ≤ 9 ∧ upV (mV M) (mS M) (four a w z j) i 3 ≤ 2
              by_cases q : i = mS M
              · rw [q, upV_s]; exact ⟨ha, hw, hz, hj⟩
              · rw [upV_n _ _ q]; exact a10 i (by omega)
            · obtain ⟨a1, a2, a3, a4, a5, a6, a7, a8, a9⟩ := hC
              have ec : ∀ k, k < 17 ∨ 21 < k → k ≠ 57 ∧ k ≠ 68 → s2 k = σ k := fun k h h' => by rw [t2 k h'.1 h'.2]; exact t1 k h
              unfold RC
              rw [ec 9 (by omega) (by omega), ec (9 + 1) (by omega) (by omega), ec (9 + 2) (by omega) (by omega), ec (9 + 3) (by omega) (by omega), ec (9 + 4) (by omega) (by omega), ec (9 + 5) (by omega) (by omega), ec (9 + 6) (by omega) (by omega), ec (9 + 7) (by omega) (by omega)]
              refine ⟨a1, a2, a3, a4, a5, a6, a7, ?_, fun i hi => ?_⟩
              · show s2 17 0 = nI (mS M + 1)
                rw [t2 17 (by omega) (by omega)]; exact s170
              · have hi2 : i < mS M + 1 := hi
                show s2 18 i = nI (upV (mV M) (mS M) (four a w z j) i 0) ∧ s2 19 i = nI (upV (mV M) (mS M) (four a w z j) i 1) ∧ s2 20 i = nI (upV (mV M) (mS M) (four a w z j) i 2) ∧ s2 21 i = nI (upV (mV M) (mS M) (four a w z j) i 3)
                rw [t2 18 (by omega) (by omega), t2 19 (by omega) (by omega), t2 20 (by omega) (by omega), t2 21 (by omega) (by omega), hs1]
                by_cases q : i = mS M
                · rw [q, upV_s]
                  refine ⟨?_, ?_, ?_, ?_⟩
                  · rw [up2_n1 _ (by omega), up2_n1 _ (by omega), up2_n1 _ (by omega), up2_n1 _ (by omega), up2_same]; rfl
                  · rw [up2_n1 _ (by omega), up2_n1 _ (by omega), up2_n1 _ (by omega), up2_same]; rfl
                  · rw [up2_n1 _ (by omega), up2_n1 _ (by omega), up2_same]; rfl
                  · rw [up2_n1 _ (by omega), up2_same]; rfl
                · rw [upV_n _ _ q]
                  obtain ⟨b1, b2, b3, b4⟩ := a9 i (by omega)
                  refine ⟨?_, ?_, ?_, ?_⟩
                  · rw [up2_n1 _ (by omega), up2_n1 _ (by omega), up2_n1 _ (by omega), up2_n1 _ (by omega), up2_n2 _ q]; exact b1
                  · rw [up2_n1 _ (by omega), up2_n1 _ (by omega), up2_n1 _ (by omega), up2_n2 _ q, up2_n1 _ (by omega)]; exact b2
                  · rw [up2_n1 _ (by omega), up2_n1 _ (by omega), up2_n2 _ q, up2_n1 _ (by omega), up2_n1 _ (by omega)]; exact b3
                  · rw [up2_n1 _ (by omega), up2_n2 _ q, up2_n1 _ (by omega), up2_n1 _ (by omega), up2_n1 _ (by omega)]; exact b4
            · obtain ⟨a1, a2, a3, a4, a5, a6, a7, a8, a9⟩ := hM
              have ec : ∀ k, k < 17 ∨ 21 < k → k ≠ 57 ∧ k ≠ 68 → s2 k = σ k := fun k h h' => by rw [t2 k h'.1 h'.2]; exact t1 k h
              unfold RM
              rw [ec 59 (by omega) (by omega), ec 60 (by omega) (by omega), ec 61 (by omega) (by omega), ec 62 (by omega) (by omega), ec 63 (by omega) (by omega), ec 64 (by omega) (by omega), t3 4 (by omega), t3 5 (by omega), t3 6 (by omega), t3 8 (by omega), t3 9 (by omega)]
              refine ⟨a1, a2, a3, a4, a5, a6, a7, ?_, fun i hi => ?_⟩
              · show s2 57 21 = nI (mS M + 1)
                rw [hs2]; exact up2_same _ _ _ _
              · have hi2 : i < mS M + 1 := hi
                have e68 : s1 68 = σ 68 := t1 68 (by omega)
                show s2 68 (4 * i) = nI (upV (mV M) (mS M) (four a w z j) i 0) ∧ s2 68 (4 * i + 1) = nI (upV (mV M) (mS M) (four a w z j) i 1) ∧ s2 68 (4 * i + 2) = nI (upV (mV M) (mS M) (four a w z j) i 2) ∧ s2 68 (4 * i + 3) = nI (upV (mV M) (mS M) (four a w z j) i 3)
                rw [hs2]
                by_cases q : i = mS M
                · rw [q, upV_s]
                  refine ⟨?_, ?_, ?_, ?_⟩
                  · rw [up2_n1 _ (by omega), up2_n2 _ (by omega), up2_n2 _ (by omega), up2_n2 _ (by omega), up2_same]; rfl
                  · rw [up2_n1 _ (by omega), up2_n2 _ (by omega), up2_n2 _ (by omega), up2_same]; rfl
                  · rw [up2_n1 _ (by omega), up2_n2 _ (by omega), up2_same]; rfl
                  · rw [up2_n1 _ (by omega), up2_same]; rfl
                · rw [upV_n _ _ q]
                  obtain ⟨b1, b2, b3, b4⟩ := a9 i (by omega)
                  refine ⟨?_, ?_, ?_, ?_⟩
                  · rw [up2_n1 _ (by omega), up2_n2 _ (by omega), up2_n2 _ (by omega), up2_n2 _ (by omega), up2_n2 _ (by omega), e68]; exact b1
                  · rw [up2_n1 _ (by omega), up2_n2 _ (by omega), up2_n2 _ (by omega), up2_n2 _ (by omega), up2_n2 _ (by omega), e68]; exact b2
                  · rw [up2_n1 _ (by omega), up2_n2 _ (by omega), up2_n2 _ (by omega), up2_n2 _ (by omega), up2_n2 _ (by omega), e68]; exact b3
                  · rw [up2_n1 _ (by omega), up2_n2 _ (by omega), up2_n2 _ (by omega), up2_n2 _ (by omega), up2_n2 _ (by omega), e68]; exact b4
        · have hr4T := eq_false hr4
          refine ⟨-102, σ, σ, ?_, ?_, Inv_up hI0⟩
          · unfold f_X8_see
            simp only [h1, g1, d10, isSize_eq, iv_10, hr3T, not_true_eq_false, ↓reduceIte]
            by_cases q : x4 < 0
            · rw [if_pos q]
            · rw [if_neg q, if_neg (fun z => hr4 ⟨Int32.not_lt.mp q, z⟩)]
          · unfold f_X9_see
            simp only [h2, g2, Option.bind_some, d10, in09, in02, iv_10, hr3T, hr4T, not_true_eq_false, not_false_eq_true, ↓reduceIte]
      · have hr3T := eq_false hr3
        refine ⟨-102, σ, σ, ?_, ?_, Inv_up hI0⟩
        · unfold f_X8_see
          simp only [h1, g1, d10, isSize_eq, iv_10, hr3T, not_false_eq_true, ↓reduceIte]
        · unfold f_X9_see
          simp only [h2, g2, Option.bind_some, d10, in09, in02, iv_10, hr3T, not_false_eq_true, ↓reduceIte]
    · refine ⟨-101, σ, σ, ?_, ?_, Inv_up hI0⟩
      · unfold f_X8_see
        simp only [h1, g1, d10, d00, ↓reduceIte]
      · unfold f_X9_see
        simp only [h2, g2, Option.bind_some, d10, d00, ↓reduceIte]
  · refine ⟨-101, σ, σ, ?_, ?_, Inv_up hI0⟩
    · unfold f_X8_see
      simp only [h1, d00, ↓reduceIte]
    · unfold f_X9_see
      simp only [h2, Option.bind_some, d00, ↓reduceIte]
