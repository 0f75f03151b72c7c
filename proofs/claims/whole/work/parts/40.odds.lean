/-! PURE: odds -/
def hcK (M : MD) (k : Nat) : Nat := cnt (fun i => AL M (laK M i) (mH M)) k
theorem p_gd {h F : Nat} (hF : 0 < F) (hF2 : F ≤ 720) (hh : h ≤ F) : f_X2_greatestDivisor (nI h) (nI F) = some (nI (Nat.gcd h F)) := by
  have hg : Nat.gcd h F ∣ F := Nat.gcd_dvd_right _ _
  have hg1 : Nat.gcd h F ∣ h := Nat.gcd_dvd_left _ _
  have hgle : Nat.gcd h F ≤ F := Nat.le_of_dvd hF hg
  have hgp : 0 < Nat.gcd h F := Nat.gcd_pos_of_pos_right _ hF
  have md : ∀ x y : Nat, 0 < y → x < 1000 → y < 1000 → (nI x - nI x / nI y * nI y = 0 ↔ y ∣ x) := by
    intro x y hy hx hy2
    rw [k_div (by omega) hy (by omega), pk_mul, k_sub (Nat.div_mul_le_self _ _), c0, k_eq (by omega) (by omega)]
    have := Nat.div_add_mod x y
    rw [Nat.mul_comm] at this
    rw [Nat.dvd_iff_mod_eq_zero]
    omega
  have step : ∀ y, Nat.gcd h F < y → y ≤ F → b_X2_greatestDivisor_2 (nI h) (nI F) (nI y) = some (.inl (nI (y - 1))) := by
    intro y h1 h2
    unfold b_X2_greatestDivisor_2
    have q1 : ¬ nI y ≤ 1 := by rw [c1, k_le (by omega) (by omega)]; omega
    have q2 : ¬ nI y = 0 := by rw [c0, k_eq (by omega) (by omega)]; omega
    rw [if_neg q1, if_pos q2, if_pos q2, k_m1 (by omega)]
    by_cases z1 : y ∣ h
    · rw [if_pos ((md h y (by omega) (by omega) (by omega)).mpr z1)]
      have z2 : ¬ y ∣ F := fun z2 => by
        have := Nat.le_of_dvd hgp (Nat.dvd_gcd z1 z2)
        omega
      rw [if_neg (fun q => z2 ((md F y (by omega) (by omega) (by omega)).mp q))]
    · rw [if_neg (fun q => z1 ((md h y (by omega) (by omega) (by omega)).mp q))]
  unfold f_X2_greatestDivisor
  by_cases z : 2 ≤ Nat.gcd h F
  · refine (bind_s (lp_st (fun i => nI (F - i)) (e := .inl (nI (Nat.gcd h F))) (F - Nat.gcd h F) (by omega) (fun i hi => ?_) ?_ rfl)).trans rfl
    · rw [step (F - i) (by omega) (by omega)]
      rfl
    · rw [show F - (F - Nat.gcd h F) = Nat.gcd h F by omega]
      unfold b_X2_greatestDivisor_2
      have q1 : ¬ nI (Nat.gcd h F) ≤ 1 := by rw [c1, k_le (by omega) (by omega)]; omega
      have q2 : ¬ nI (Nat.gcd h F) = 0 := by rw [c0, k_eq (by omega) (by omega)]; omega
      rw [if_neg q1, if_pos q2, if_pos ((md h _ hgp (by omega) (by omega)).mpr hg1), if_pos q2, if_pos ((md F _ hgp (by omega) (by omega)).mpr hg)]
  · have e1 : Nat.gcd h F = 1 := by omega
    rw [e1]
    refine (bind_s (lp_st (fun i => nI (F - i)) (e := .inr ()) (F - 1) (by omega) (fun i hi => ?_) ?_ rfl)).trans rfl
    · rw [step (F - i) (by omega) (by omega)]
      rfl
    · rw [show F - (F - 1) = 1 by omega]
      rfl
theorem p_euclid {h F : Nat} {σ : gs_H} (hF2 : F ≤ 720) (hh : h ≤ F) : lp (b_X9_oddsOf_65 σ) 1000 (nI F, nI h) = some (nI (Nat.gcd h F)) := by
  have key : ∃ e, lp (b_X9_oddsOf_65 σ) 1000 (nI F, nI h) = some e ∧ e = nI (Nat.gcd h F) := by
    refine lp_ok (fun i y => ∃ a b, y = (nI a, nI b) ∧ a ≤ 720 ∧ b ≤ 720 ∧ b + i ≤ 720 ∧ Nat.gcd b a = Nat.gcd h F) 720 (by omega) _ ?_ ⟨F, h, rfl, hF2, by omega, by omega, rfl⟩
    rintro i y hi ⟨a, b, rfl, h1, h2, h3, h4⟩
    unfold b_X9_oddsOf_65
    dsimp only
    by_cases z : b = 0
    · right
      subst z
      rw [if_pos (show nI 0 ≤ 0 by decide)]
      exact ⟨_, rfl, by rw [← h4, Nat.gcd_zero_left]⟩
    · left
      have q1 : ¬ nI b ≤ 0 := by rw [c0, k_le (by omega) (by omega)]; omega
      have q2 : ¬ nI b = 0 := by rw [c0, k_eq (by omega) (by omega)]; omega
      refine ⟨by omega, _, by rw [if_neg q1, if_pos q2], b, a % b, ?_, h2, ?_, ?_, ?_⟩
      · rw [k_div (by omega) (by omega) (by omega), pk_mul, k_sub (Nat.div_mul_le_self _ _)]
        have := Nat.div_add_mod a b
        rw [Nat.mul_comm] at this
        rw [show a - a / b * b = a % b by omega]
      · have := Nat.mod_lt a (show 0 < b by omega); omega
      · have := Nat.mod_lt a (show 0 < b by omega); omega
      · rw [← h4]
        exact (Nat.gcd_rec b a).symm
  obtain ⟨e, h1, h2⟩ := key
  rw [h1, h2]
theorem hcK_le (M : MD) (k : Nat) : hcK M k ≤ k := cnt_le _ _
theorem p_findOdds {M : MD} {σ : gs_H} (hW : WF M) (hR : RC 9 M σ) : ∃ s, f_X2_findOdds σ = some s ∧ SE σ s ∧ s 40 3 = nI (hcK M (fa (NL M)) / Nat.gcd (hcK M (fa (NL M))) (fa (NL M))) ∧ s 40 4 = nI (fa (NL M) / Nat.gcd (hcK M (fa (NL M))) (fa (NL M))) := by
  have h5 := hW.1.r5
  have hF := fa_le (NL_6 hW)
  have hF0 := fa_pos (NL M)
  obtain ⟨s1, a1, a2⟩ := p_begO hW hR
  have key : ∃ e, lp b_X2_findOdds_9 1000 ((0 : Int32), (0 : Int32), s1) = some e ∧ (e.1 = nI (hcK M (fa (NL M))) ∧ GO M σ (fa (NL M)) e.2) := by
    refine lp_ok (fun k y => y.1 = nI (hcK M k) ∧ y.2.1 = nI k ∧ GO M σ k y.2.2) (fa (NL M)) (by omega) _ ?_ ⟨rfl, rfl, a2⟩
    rintro k ⟨y1, y2, s⟩ hk ⟨rfl, rfl, hG⟩
    dsimp only at hG
    have e10 := hG.2.2.2.1
    unfold b_X2_findOdds_9
    by_cases hc : k < fa (NL M)
    · left
      refine ⟨hc, ?_⟩
      obtain ⟨u1, b1, b2, b3, -, -⟩ := p_layIn hW hG hc
      obtain ⟨u2, d1, d2⟩ := p_hangsLevel (S := 42) (cr := 47) (H := mH M) (by omega) (by omega) hW b3.2.1 (laK_WP hW hc) b2 b3.2.2.2.2.2.2.1 b3.2.2.2.2.2.2.2.1
      have hG2 := b3.same d2 (by simp)
      obtain ⟨u3, f1, -, f2⟩ := p_nextG hW hG2 hc
      have q1 : ¬ nI (fa (NL M)) ≤ nI k := by rw [k_le (by omega) (by omega)]; omega
      simp only [e10]
      rw [if_neg q1, b1, Option.bind_some, d1, Option.bind_some]
      have hs : hcK M (k + 1) = hcK M k + (AL M (laK M k) (mH M)).toNat := rfl
      unfold j_X2_findOdds_42
      dsimp only
      rw [f1, nI_1]
      cases z : AL M (laK M k) (mH M)
      · rw [if_pos (show bI false = 0 from rfl)]
        rw [z] at hs
        refine ⟨_, rfl, ?_, rfl, f2⟩
        show nI (hcK M k) + nI 0 = _
        rw [nI_add, hs]
        rfl
      · rw [if_neg (show ¬ bI true = 0 by decide)]
        rw [z] at hs
        refine ⟨_, rfl, ?_, rfl, f2⟩
        show nI (hcK M k) + nI 1 = _
        rw [nI_add, hs]
        rfl
    · right
      have : k = fa (NL M) := by omega
      subst this
      simp only [e10]
      rw [if_pos (Int32.le_refl _)]
      exact ⟨_, rfl, rfl, hG⟩
  obtain ⟨⟨e1, e2⟩, f1, f2, f3⟩ := key
  dsimp only at f2 f3
  subst f2
  have hle := hcK_le M (fa (NL M))
  have hg := p_gd hF0 hF hle
  have hgp : 0 < Nat.gcd (hcK M (fa (NL M))) (fa (NL M)) := Nat.gcd_pos_of_pos_right _ hF0
  have hgle : Nat.gcd (hcK M (fa (NL M))) (fa (NL M)) ≤ fa (NL M) := Nat.le_of_dvd hF0 (Nat.gcd_dvd_right _ _)
  have q2 : ¬ nI (Nat.gcd (hcK M (fa (NL M))) (fa (NL M))) = 0 := by rw [c0, k_eq (by omega) (by omega)]; omega
  refine ⟨up2 (up2 e2 40 3 (nI (hcK M (fa (NL M)) / Nat.gcd (hcK M (fa (NL M))) (fa (NL M))))) 40 4 (nI (fa (NL M) / Nat.gcd (hcK M (fa (NL M))) (fa (NL M)))), ?_, (f3.u40 (by omega)).u40 (by omega) |>.1, ?_, ?_⟩
  · unfold f_X2_findOdds
    rw [a1, Option.bind_some, f1, Option.bind_some]
    dsimp only
    rw [f3.2.2.2.1, hg, Option.bind_some, if_pos q2, if_pos q2, k_div (by omega) hgp (by omega), k_div (by omega) hgp (by omega)]
  · rw [up2_n2 _ (by omega), up2_same]
  · rw [up2_same]
/-- the model's looseMany -/
theorem p_loose {M : MD} {s : gs_H} (hW : WF M) (hR : RM M s) : s 57 9 = nI (UL M) ∧ f_X9_looseMany s = some (nI (NL M)) := by
  have h5 := hW.1.r5
  obtain ⟨B, b1, b2, b3⟩ := hR.2.2.2.2.2.1
  have hB : B = UL M := by
    rw [bs_eq (f := mC M) (n := 6) b1 b3]
    exact (bs_eq (n := 6) (UL_64 hW) (fun i _ => UL_bit hW i)).symm
  subst hB
  refine ⟨b2, ?_⟩
  have h1 := ones_B (M := M) (B := UL M) (f := mC M) (n := mT M) (UL_64 hW) (fun i _ => UL_bit hW i) h5.2.1 (fun i hi => by rw [UL_bit hW]; exact hW.2.2.2.2.2.2.1 i hi)
  unfold f_X9_looseMany
  have hle : cnt (mC M) (mT M) ≤ mT M := cnt_le _ _
  rw [b2, h1, Option.bind_some, hR.2.1, k_sub hle]
  unfold NL
  rw [cnt_cong (p := (UL M).testBit) (q := mC M) (fun k _ => UL_bit hW k)]
theorem it_lt {M : MD} {k : Nat} (hk : k < fa (NL M)) : ∀ c, c ≤ NL M → (it (NL M) (UL M) k c).2 < fa (NL M - c)
  | 0, _ => hk
  | c + 1, h => by
    show _ % fa (NL M - c - 1) < fa (NL M - (c + 1))
    rw [show NL M - (c + 1) = NL M - c - 1 by omega]
    exact Nat.mod_lt _ (fa_pos _)
theorem it_64 {M : MD} (hW : WF M) {k : Nat} (hk : k < fa (NL M)) : ∀ c, c ≤ NL M → (it (NL M) (UL M) k c).1 < 64
  | 0, _ => UL_64 hW
  | c + 1, h => by
    have h5 := hW.1.r5
    have ih := it_64 hW hk c (by omega)
    have hkf := ((kF_ok hW hk).1 c (by omega)).1
    show _ ||| 2 ^ kF (NL M) (UL M) k c < 64
    have h2 : 2 ^ kF (NL M) (UL M) k c < 2 ^ 6 := Nat.pow_lt_pow_right (by omega) (by omega)
    exact Nat.or_lt_two_pow (n := 6) ih h2
theorem p_layOrder {M : MD} {σ : gs_H} {k : Nat} (hW : WF M) (hR : RM M σ) (hk : k < fa (NL M)) : ∃ s, f_X9_layOrder (nI k) σ = some s ∧ RB M (laK M k) (mH M) s ∧ SM σ s := by
  have h5 := hW.1.r5
  have hNL := NL_6 hW
  have hF := fa_le hNL
  obtain ⟨s1, a1, a2, a3, a4⟩ := p_begin hW hR
  obtain ⟨l1, l2⟩ := p_loose hW a2.1
  have key : ∃ e, lp b_X9_layOrder_20 1000 (nI k, nI (UL M), nI (NL M), (0 : Int32), s1) = some e ∧ (Same [65] s1 e ∧ ∀ p, p < mT M → e 65 p = nI (laK M k p)) := by
    refine lp_ok (fun i y => y.1 = nI (it (NL M) (UL M) k (lc M i)).2 ∧ y.2.1 = nI (it (NL M) (UL M) k (lc M i)).1 ∧ y.2.2.1 = nI (NL M - lc M i) ∧ y.2.2.2.1 = nI i ∧ Same [65] s1 y.2.2.2.2 ∧ (∀ p, p < i → y.2.2.2.2 65 p = nI (laK M k p)) ∧ ∀ p, i ≤ p → y.2.2.2.2 65 p = s1 65 p) (mT M) (by omega) _ ?_ ⟨rfl, rfl, rfl, rfl, Same.rf, fun p hp => by omega, fun _ _ => rfl⟩
    rintro i ⟨y1, y2, y3, y4, s⟩ hi ⟨rfl, rfl, rfl, rfl, g1, g2, g3⟩
    dsimp only at g1 g2 g3
    have hRs : RM M s := a2.1.same (fun k hk => g1 k (by rintro hz; revert hk hz; simp; omega)) (fun j _ => by rw [g1 57 (by simp)])
    have e5 := hRs.2.1
    by_cases hc : i < mT M
    · left
      refine ⟨hc, ?_⟩
      have hlt := hW.2.1.1 i hc
      have e64 : s 64 i = nI (mL M i) := (hRs.2.2.2.2.1 i hc).1
      have ecut := isCut_eq hRs (p := mL M i) (by omega)
      have hs : lc M (i + 1) = lc M i + (lo M i).toNat := rfl
      have hlcle : lc M i ≤ NL M := by rw [← NL_l hW]; exact cnt_mono _ (by omega)
      have q1 : ¬ mT M ≤ i := by omega
      have q2 : i < 6 := by omega
      unfold b_X9_layOrder_20
      cases hl : lo M i
      · rw [hl] at hs
        have hs' : lc M (i + 1) = lc M i := hs
        rw [lo_f.mp hl] at ecut
        simp (disch := omega) only [c0, c1, c2, c3, c4, c5, c6, c7, c8, c9, c10, c11, c12, c15, c20, c24, c30, c31, c45, c46, c48, c49, c57, c60, c97, c98, c99, c100, c101, c102, c108, c111, c126, c720, c999, c10000, nI_add, pk_mul, k_cl, k_lt, k_le, k_eq, k_sub, k_div, k_m1, e5, e64, ecut, q1, q2, inb_N, bI_0, ↓reduceIte, Bool.true_eq_false]
        refine ⟨_, rfl, by rw [hs'], by rw [hs'], by rw [hs'], rfl, g1, fun p hp => ?_, fun p hp => g3 p (by omega)⟩
        rcases Nat.lt_or_ge p i with z | z
        · exact g2 p z
        · have : p = i := by omega
          subst this
          show s 65 p = _
          rw [g3 p (Nat.le_refl _), laK_f hl]
          exact a2.2.1 p hc
      · rw [hl] at hs
        have hs' : lc M (i + 1) = lc M i + 1 := hs
        rw [lo_t.mp hl] at ecut
        have hlc := lc_lt hW hc hl
        generalize hgc : lc M i = c at *
        have ekr := it_lt hk c (by omega)
        have eu := it_64 hW hk c (by omega)
        have hkc := (kF_ok hW hk).1 c hlc
        have efa := fa_lp ⟨NL M - c - 1, by omega⟩
        dsimp only at efa
        have hfa0 := fa_pos (NL M - c - 1)
        have hfa1 : fa (NL M - c - 1) ≤ 720 := fa_le (by omega)
        have hfam : fa (NL M - c) = (NL M - c) * fa (NL M - c - 1) := by
          obtain ⟨m, hm⟩ : ∃ m, NL M - c = m + 1 := ⟨NL M - c - 1, by omega⟩
          rw [hm]; rfl
        have hkk : (it (NL M) (UL M) k c).2 < 720 := by
          have := fa_le (n := NL M - c) (by omega); omega
        have hq : (it (NL M) (UL M) k c).2 / fa (NL M - c - 1) < NL M - c := by
          rw [Nat.div_lt_iff_lt_mul hfa0, ← hfam]; exact ekr
        have esl := sl_lp ⟨(it (NL M) (UL M) k c).1, eu⟩ ⟨(it (NL M) (UL M) k c).2 / fa (NL M - c - 1), by omega⟩
        have esl2 : lp (b_X9_layOrder_66 (nI (it (NL M) (UL M) k c).1) s) 1000 (nI ((it (NL M) (UL M) k c).2 / fa (NL M - c - 1)), nI 0) = some (nI (kF (NL M) (UL M) k c)) := esl
        have eset := bit_set ⟨(it (NL M) (UL M) k c).1, eu⟩ ⟨kF (NL M) (UL M) k c, by omega⟩
        dsimp only at eset
        rw [c1, c31] at eset
        have em : (it (NL M) (UL M) k c).2 - (it (NL M) (UL M) k c).2 / fa (NL M - c - 1) * fa (NL M - c - 1) = (it (NL M) (UL M) k c).2 % fa (NL M - c - 1) := by
          have := Nat.div_add_mod (it (NL M) (UL M) k c).2 (fa (NL M - c - 1))
          rw [Nat.mul_comm] at this
          omega
        have hle : (it (NL M) (UL M) k c).2 / fa (NL M - c - 1) * fa (NL M - c - 1) ≤ (it (NL M) (UL M) k c).2 := Nat.div_mul_le_self _ _
        have q0 : ¬ fa (NL M - c - 1) = 0 := by omega
        have km : nI (NL M - c) + -nI 1 = nI (NL M - c - 1) := k_m1 (by omega)
        simp (disch := omega) only [c0, c1, c2, c3, c4, c5, c6, c7, c8, c9, c10, c11, c12, c15, c20, c24, c30, c31, c45, c46, c48, c49, c57, c60, c97, c98, c99, c100, c101, c102, c108, c111, c126, c720, c999, c10000, nI_add, pk_mul, k_cl, k_lt, k_le, k_eq, k_sub, k_div, k_m1, km, e5, e64, ecut, q0, q1, q2, inb_N, bI_0, efa, esl2, eset, em, Option.bind_some, ↓reduceIte, not_false_eq_true]
        refine ⟨_, rfl, by rw [hs']; rfl, by rw [hs']; rfl, by rw [hs']; rfl, rfl, g1.up (by simp), fun p hp => ?_, fun p hp => ?_⟩
        · dsimp only
          by_cases z : p = i
          · subst z; rw [up2_same, laK_t hl, hgc]
          · rw [up2_n2 _ z]; exact g2 p (by omega)
        · dsimp only
          rw [up2_n2 _ (by omega)]; exact g3 p (by omega)
    · right
      have : i = mT M := by omega
      subst this
      unfold b_X9_layOrder_20
      simp only [e5]
      rw [if_pos (Int32.le_refl _)]
      exact ⟨_, rfl, g1, g2⟩
  obtain ⟨e, f1, f2, f3⟩ := key
  refine ⟨e, ?_, ⟨?_, f3, ?_⟩, (SM.beg a3 a4).tr (SM.of f2 (by simp))⟩
  · unfold f_X9_layOrder
    rw [a1, Option.bind_some, l2, Option.bind_some, l1, f1]
    rfl
  · exact a2.1.same (fun k hk => f2 k (by rintro hz; revert hk hz; simp; omega)) (fun j _ => by rw [f2 57 (by simp)])
  · rw [f2 57 (by simp)]; exact a2.2.2
theorem p_moddsOf {M : MD} {σ : gs_H} (hW : WF M) (hR : RM M σ) (x : Int32) : ∃ s, f_X9_oddsOf x σ = some (if x = 0 then nI (hcK M (fa (NL M)) / Nat.gcd (hcK M (fa (NL M))) (fa (NL M))) else nI (fa (NL M) / Nat.gcd (hcK M (fa (NL M))) (fa (NL M))), s) ∧ SM σ s := by
  have h5 := hW.1.r5
  have hh := hW.2.2.1
  have hF := fa_le (NL_6 hW)
  have hF0 := fa_pos (NL M)
  obtain ⟨B, b1, b2, b3, b4⟩ := p_there hW hR
  have b5 := ones_B (M := M) (B := B) (f := TH M) (n := mR M) (by omega) b3 (by omega) b4
  have hNT : cnt (TH M) (mR M) = NT M := rfl
  have hNT5 : NT M ≤ mR M := cnt_le _ _
  rw [hNT] at b5
  obtain ⟨l1, l2⟩ := p_loose hW hR
  have efa := fa_lp ⟨NL M, by have := NL_6 hW; omega⟩
  dsimp only at efa
  have key : ∃ e, lp (b_X9_oddsOf_22 (nI (NT M)) (nI (fa (NL M)))) 1000 ((0 : Int32), (0 : Int32), σ) = some e ∧ (e.1 = nI (hcK M (fa (NL M))) ∧ SM σ e.2) := by
    refine lp_ok (fun k y => y.1 = nI (hcK M k) ∧ y.2.1 = nI k ∧ SM σ y.2.2) (fa (NL M)) (by omega) _ ?_ ⟨rfl, rfl, SM.rf⟩
    rintro k ⟨y1, y2, s⟩ hk ⟨rfl, rfl, hs⟩
    dsimp only at hs
    unfold b_X9_oddsOf_22
    dsimp only
    by_cases hc : k < fa (NL M)
    · left
      refine ⟨hc, ?_⟩
      have q1 : ¬ nI (fa (NL M)) ≤ nI k := by rw [k_le (by omega) (by omega)]; omega
      obtain ⟨u1, d1, d2, d3⟩ := p_layOrder hW (hs.RMs hR) hc
      obtain ⟨u2, f1, f2, -⟩ := p_levelThen hW (laK_WP hW hc) d2 (by omega)
      have hall : SM σ u2 := (hs.tr d3).tr (SM.of f2 (by simp))
      have hLV := LV_le hW (laK M k) (mH M)
      have hcs : hcK M (k + 1) = hcK M k + (AL M (laK M k) (mH M)).toNat := rfl
      rw [if_neg q1, d1, Option.bind_some, f1, Option.bind_some]
      dsimp only
      by_cases z : LV M (laK M k) (mH M) = NT M
      · have z' : AL M (laK M k) (mH M) = true := by unfold AL; exact decide_eq_true z
        rw [z'] at hcs
        rw [if_pos (congrArg nI z)]
        refine ⟨_, rfl, ?_, nI_1 _, hall⟩
        show nI (hcK M k) + nI 1 = _
        rw [nI_add, hcs]
        rfl
      · have z' : AL M (laK M k) (mH M) = false := by unfold AL; exact decide_eq_false z
        rw [z'] at hcs
        rw [if_neg (fun q => z ((nI_eq (by omega) (by omega)).mp q))]
        refine ⟨_, rfl, ?_, nI_1 _, hall⟩
        show nI (hcK M k) + nI 0 = _
        rw [nI_add, hcs]
        rfl
    · right
      have : k = fa (NL M) := by omega
      subst this
      rw [if_pos (Int32.le_refl _)]
      exact ⟨_, rfl, rfl, hs⟩
  obtain ⟨⟨e1, e2⟩, f1, f2, f3⟩ := key
  dsimp only at f2 f3
  subst f2
  have hle := hcK_le M (fa (NL M))
  have hg := p_euclid (σ := e2) hF hle
  have hgp : 0 < Nat.gcd (hcK M (fa (NL M))) (fa (NL M)) := Nat.gcd_pos_of_pos_right _ hF0
  have hgle : Nat.gcd (hcK M (fa (NL M))) (fa (NL M)) ≤ fa (NL M) := Nat.le_of_dvd hF0 (Nat.gcd_dvd_right _ _)
  have q2 : ¬ nI (Nat.gcd (hcK M (fa (NL M))) (fa (NL M))) = 0 := by rw [c0, k_eq (by omega) (by omega)]; omega
  refine ⟨e2, ?_, f3⟩
  unfold f_X9_oddsOf
  rw [b1, Option.bind_some, b5, Option.bind_some, l2, Option.bind_some, efa, Option.bind_some, f1, Option.bind_some]
  dsimp only
  rw [hg, Option.bind_some, if_pos q2, if_pos q2, k_div (by omega) hgp (by omega), k_div (by omega) hgp (by omega)]
  by_cases z : x = 0
  · rw [if_pos z, if_pos z]
  · rw [if_neg z, if_neg z]
theorem in01 (x : Int32) : f_X9_in x.toInt64 (0 : Int64) (1 : Int64) = if 0 ≤ x ∧ x ≤ 1 then 1 else 0 := in_eq x 0 1
theorem is01 (x : Int32) : (0 ≤ x ∧ x ≤ 1) ↔ (x = 0 ∨ x = 1) := by
  constructor
  · rintro ⟨h1, h2⟩
    obtain ⟨j, -, hj, rfl⟩ := rng (a := 0) (b := 1) h1 h2 (by omega) (by omega)
    rcases (show j = 0 ∨ j = 1 by omega) with rfl | rfl
    · exact Or.inl rfl
    · exact Or.inr rfl
  · rintro (rfl | rfl) <;> decide
theorem pu_odds {N : Nat} {σ : gs_H} (hI : Inv N σ) (x1 : Int32) : ∃ (r : Int32) (s1 : gs_H) (s2 : gs_H), f_X8_odds x1 σ = some (r, s1) ∧ f_X9_odds x1 s1 = some (r, s2) ∧ Inv (N + 1) s2 := by
  have hI0 := hI
  obtain ⟨M, L, pg, hW, hC, hM, hP, hQ⟩ := hI
  by_cases hx : x1 = 0 ∨ x1 = 1
  · have ej : f_X8_odds x1 σ = j_X8_odds_12 x1 σ := by
      unfold f_X8_odds
      by_cases z : x1 = 0
      · rw [if_pos z]
      · rw [if_neg z, if_pos (hx.resolve_left z)]
    rw [ej]
    unfold j_X8_odds_12
    rcases has_m hW hC hM with ⟨h0, h1, h2⟩ | ⟨h0, h1, h2⟩
    · refine ⟨-103, σ, σ, ?_, ?_, Inv_up hI0⟩
      · rw [h1, if_pos rfl]
      · unfold f_X9_odds; rw [in01, if_pos ((is01 x1).mpr hx), if_neg (by decide), h2, if_neg (by decide)]
    · obtain ⟨s1, a1, a2, a3, a4⟩ := p_findOdds hW hC
      obtain ⟨s2, b1, b2⟩ := p_moddsOf hW (a2.RMs hM) x1
      have h2' : f_X9_lacks s1 = 0 := by rw [← h2]; unfold f_X9_lacks; rw [a2 57 (by omega)]
      refine ⟨if x1 = 0 then nI (hcK M (fa (NL M)) / Nat.gcd (hcK M (fa (NL M))) (fa (NL M))) else nI (fa (NL M) / Nat.gcd (hcK M (fa (NL M))) (fa (NL M))), s1, s2, ?_, ?_, Inv_up ((hI0.sc a2.sc).sm b2)⟩
      · rw [h1, if_neg (by decide), a1, Option.bind_some, a3, a4]
        by_cases z : x1 = 0
        · rw [if_pos z, if_pos z]
        · rw [if_neg z, if_neg z]
      · unfold f_X9_odds
        rw [in01, if_pos ((is01 x1).mpr hx), if_neg (by decide), h2', if_pos rfl, b1]
        rfl
  · refine ⟨-102, σ, σ, ?_, ?_, Inv_up hI0⟩
    · unfold f_X8_odds
      rw [if_neg (fun q => hx (Or.inl q)), if_neg (fun q => hx (Or.inr q))]
    · unfold f_X9_odds
      rw [in01, if_neg (fun q => hx ((is01 x1).mp q)), if_pos rfl]
