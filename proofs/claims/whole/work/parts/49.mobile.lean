/-! PURE: mobile -/
def kP (pg : Nat → Nat) (r p : Nat) : Nat := (kIx (nI (pg (5 * r + 3 * p)))).toNatClampNeg
def zP (pg : Nat → Nat) (r p : Nat) : Nat := pg (5 * r + 3 * p + 1) - 48
def MP (pg : Nat → Nat) (r : Nat) : MD := ((r, r + 1, 0, 0), (eP pg, nP pg, (fun p => p), kP pg r, zP pg r), ((fun _ => false), (fun _ => false)), (fun _ _ => 0))
theorem WE_P {pg : Nat → Nat} {r B : Nat} (hB : JB pg (2 * r) B) (hr : 1 ≤ r) (hr5 : r ≤ 5) (ht : tp B = r - 1) (hw : ∀ w, 1 ≤ w → w < r → B.testBit w = true) (hc : cnt (sT pg) (2 * r) = r + 1) : WE r (r + 1) (eP pg) := by
  obtain ⟨h1, h2, h3, h4, h5, h6⟩ := hB
  have tm := tp_max ⟨B, h1⟩
  dsimp only at tm
  have et : ∀ a, sT pg a = true → eP pg a = 10 + cnt (sT pg) a := fun a h => by unfold eP; rw [h]; rfl
  have lo : ∀ a, a < 2 * r → sT pg a = false → a / 2 < eP pg a ∧ eP pg a ≤ 4 ∧ eP pg a < r := fun a ha hs => by
    rcases h3 a ha with y | ⟨y1, y2, y3⟩
    · rw [hs] at y; cases y
    · have := tm.2.2 ⟨eP pg a, by omega⟩ y3
      dsimp only at this
      exact ⟨y1, y2, by omega⟩
  refine ⟨Or.inr ⟨hr, hr5, rfl⟩, fun a ha => ?_, fun w hw0 hwr => ?_, fun a b ha hb he => ?_, fun p hp => ?_⟩
  · cases hs : sT pg a
    · have := lo a ha hs
      exact Or.inl ⟨this.1, this.2.2⟩
    · right
      have e := et a hs
      have := cnt_l2 (p := sT pg) ha hs
      omega
  · obtain ⟨b, b1, b2, b3⟩ := h5 w (hw w (by omega) hwr)
    have := lo b b1 b2
    exact ⟨b, by omega, b3⟩
  · cases hs : sT pg a <;> cases hs2 : sT pg b
    · exact h4 a b ha hb hs hs2 he
    · have q1 := lo a ha hs
      have q2 := et b hs2
      omega
    · have q1 := lo b hb hs2
      have q2 := et a hs
      omega
    · have e1 := et a hs
      have e2 := et b hs2
      rcases Nat.lt_trichotomy a b with q | q | q
      · have := cnt_l2 (p := sT pg) q hs
        omega
      · exact q
      · have := cnt_l2 (p := sT pg) q hs2
        omega
  · obtain ⟨a, a1, a2, a3⟩ := cnt_sj (p := sT pg) (n := 2 * r) (q := p) (by omega)
    exact ⟨a, a1, by rw [et a a2, a3]⟩
theorem WF_P {pg : Nat → Nat} {r : Nat} (hE : WE r (r + 1) (eP pg)) (hJ : JL pg (2 * r)) (hk : ∀ p, p < r + 1 → kP pg r p ≤ 4) (hz : ∀ p, p < r + 1 → zP pg r p ≤ 9) : WF (MP pg r) := by
  refine ⟨hE, ⟨fun p hp => hp, fun p q _ _ h => h⟩, Nat.zero_le _, Nat.zero_le _, fun p hp => ⟨hk p hp, hz p hp⟩, fun w hw => ?_, fun _ _ => rfl, fun _ _ => rfl, rfl, fun i hi => absurd hi (Nat.not_lt_zero _)⟩
  have hw' : w < r := hw
  have q1 := hJ (2 * w) (by omega)
  have q2 := hJ (2 * w + 1) (by omega)
  show 1 ≤ nP pg (2 * w) ∧ 1 ≤ nP pg (2 * w + 1) ∧ nP pg (2 * w) + nP pg (2 * w + 1) ≤ 18
  unfold nP
  omega
theorem pu_mobile {N : Nat} {σ : gs_H} (hI : Inv N σ) : ∃ (r : Int32) (s1 : gs_H) (s2 : gs_H), f_X8_mobile σ = some (r, s1) ∧ f_X9_mobile s1 = some (r, s2) ∧ Inv (N + 1) s2 := by
  have hI0 := hI
  obtain ⟨M, L, pg, hW, hC, hM, hP, hQ⟩ := hI
  obtain ⟨F, s, u', h1, h2, h3, h4, h5⟩ := p_read hP
  obtain ⟨p1, p2, p3, p4⟩ := hP
  have s11 : s 1 1 = nI L := by rw [h3 1 (by decide)]; exact p2
  have lFL : nI F < nI L ↔ F < L := k_lt (by omega) (by omega)
  have d10 : ¬ (1 : Int32) = 0 := by decide
  by_cases z : F < L
  · obtain ⟨v, g1, g2, g3, g4⟩ := h5 s (by rw [h3 57 (by decide)]; exact p3) (fun i hi => by rw [h3 58 (by decide)]; exact (p4 i hi).2.1)
    have v1 : v 57 1 = nI L := by rw [g2.2 1 (by decide), h3 57 (by decide)]; exact p3
    refine ⟨-103, s, v, ?_, ?_, Inv_up ((hI0.sc (SC.of h3 (by simp))).sm g2)⟩
    · unfold f_X8_mobile
      rw [h1, Option.bind_some]
      dsimp only
      rw [if_pos (show nI F < s 1 1 by rw [s11]; exact lFL.mpr z)]
    · unfold f_X9_mobile
      rw [g1, Option.bind_some]
      dsimp only
      rw [if_pos (show nI F < v 57 1 by rw [v1]; exact lFL.mpr z)]
  · have hF : F = L := by omega
    have nlt : ¬ nI F < nI L := fun q => z (lFL.mp q)
    rcases J_whole (h4 hF) p1 with ⟨w0, w1⟩ | ⟨r, B, hLr, hJ, w0, er, w1, w2⟩
    · obtain ⟨v, g1, g2, g3, g4⟩ := h5 s (by rw [h3 57 (by decide)]; exact p3) (fun i hi => by rw [h3 58 (by decide)]; exact (p4 i hi).2.1)
      have v1 : v 57 1 = nI L := by rw [g2.2 1 (by decide), h3 57 (by decide)]; exact p3
      refine ⟨-103, s, v, ?_, ?_, Inv_up ((hI0.sc (SC.of h3 (by simp))).sm g2)⟩
      · unfold f_X8_mobile
        rw [h1, Option.bind_some]
        dsimp only
        rw [if_neg (show ¬ nI F < s 1 1 by rw [s11]; exact nlt), if_pos w0]
      · unfold f_X9_mobile
        rw [g1, Option.bind_some]
        dsimp only
        rw [if_neg (show ¬ nI F < v 57 1 by rw [v1]; exact nlt)]
        rw [← g3, ← v1] at w1
        rcases w1 with w1 | ⟨w1, w2⟩
        · rw [if_pos w1]
        · rw [if_neg w1, if_neg w2]
    · obtain ⟨j1, j2, j3, j4, j5, j6, j7, j8, j9, j10, j11, j12, j13, j14⟩ := hJ
      obtain ⟨s', a1, a2, a3, a4, a5, a6, a7, a8, a9, a10⟩ := p_hangRead (s := s) (C := mC M) (D := mD M) (fun p hp => by rw [h3 15 (by decide)]; exact hC.2.2.2.2.2.1 p hp) (fun w hw => by rw [h3 16 (by decide)]; exact hC.2.2.2.2.2.2.1 w hw)
      obtain ⟨sc, hsc⟩ : ∃ sc, sc = up2 (up2 (up2 s' 1 1 (0 : Int32)) 0 7 (0 : Int32)) 0 8 (s' 0 8 + (1 : Int32)) := ⟨_, rfl⟩
      have scK : ∀ k, 2 ≤ k → sc k = s' k := fun k hk => by rw [hsc, up2_ne _ _ _ (by omega), up2_ne _ _ _ (by omega), up2_ne _ _ _ (by omega)]
      have s'K : ∀ k, k < 3 ∨ 18 ≤ k → s' k = σ k := fun k hk => by rw [a2 k (by simp; omega), h3 k (by simp; omega)]
      have pgL : ∀ i, i < 8 * r + 2 → pg i ≤ 126 := fun i hi => (p4 i (by omega)).2.2.2
      obtain ⟨v, g1, g2, g3, g4⟩ := h5 sc (by rw [scK 57 (by omega), s'K 57 (by omega)]; exact p3) (fun i hi => by rw [scK 58 (by omega), s'K 58 (by omega)]; exact (p4 i hi).2.1)
      have vK : ∀ k, 2 ≤ k → k ≠ 57 → k ≠ 65 → k ≠ 66 → k ≠ 67 → v k = s' k := fun k b1 b2 b3 b4 b5 => by rw [g2.1 k b2 b3 b4 b5, scK k b1]
      have vJ : ∀ j, j ∉ [2, 3, 17, 23] → v 57 j = σ 57 j := fun j hj => by rw [g2.2 j hj, scK 57 (by omega), s'K 57 (by omega)]
      have v1 : v 57 1 = nI L := by rw [vJ 1 (by decide)]; exact p3
      obtain ⟨v0, hv0⟩ : ∃ v0, v0 = up2 (up2 v 57 4 (nI r)) 57 5 (nI (r + 1)) := ⟨_, rfl⟩
      have v0K : ∀ k, k ≠ 57 → v0 k = v k := fun k hk => by rw [hv0, up2_ne _ _ _ hk, up2_ne _ _ _ hk]
      have v0J : ∀ j, j ≠ 4 → j ≠ 5 → v0 57 j = v 57 j := fun j q1 q2 => by rw [hv0, up2_n2 _ q2, up2_n2 _ q1]
      have v058 : ∀ i, i < 8 * r + 2 → v0 58 i = nI (pg i) := fun i hi => by rw [v0K 58 (by omega), vK 58 (by omega) (by omega) (by omega) (by omega) (by omega), s'K 58 (by omega)]; exact (p4 i (by omega)).2.1
      have v04 : v0 57 4 = nI r := by rw [hv0, up2_n2 _ (by omega), up2_same]
      have v05 : v0 57 5 = nI (r + 1) := by rw [hv0, up2_same]
      obtain ⟨q, b1, b2, b3, b4⟩ := p_marms (v := v0) j4 j5 j1 j2 j8 pgL v058 v04
      have q57 : q 57 = v0 57 := b2 57 (by decide)
      obtain ⟨t, e1, e2, e3⟩ := p_mthings (v := q) j4 j5 (fun i hi => (j14 i (by omega)).1) pgL (fun i hi => by rw [b2 58 (by decide)]; exact v058 i hi) (by rw [q57, v0J 2 (by omega) (by omega), g3]; exact j12) (by rw [q57]; exact v05)
      have t57 : t 57 = v0 57 := (e2 57 (by decide)).trans q57
      obtain ⟨fin, hfin⟩ : ∃ fin, fin = up2 (up2 (up2 (up2 (up2 (up2 t 57 6 (0 : Int32)) 57 8 (0 : Int32)) 57 9 (0 : Int32)) 57 21 (0 : Int32)) 57 7 (t 57 7 + (1 : Int32))) 57 1 (0 : Int32) := ⟨_, rfl⟩
      have fK : ∀ k, k ≠ 57 → fin k = t k := fun k hk => by rw [hfin, up2_ne _ _ _ hk, up2_ne _ _ _ hk, up2_ne _ _ _ hk, up2_ne _ _ _ hk, up2_ne _ _ _ hk, up2_ne _ _ _ hk]
      have fS : ∀ k, k < 57 → fin k = sc k := fun k hk => by rw [fK k (by omega), e2 k (by simp; omega), b2 k (by simp; omega), v0K k (by omega), g2.1 k (by omega) (by omega) (by omega) (by omega)]
      have f9 : ∀ k, 9 ≤ k → k ≤ 17 → fin k = s' k := fun k q1 q2 => by rw [fS k (by omega), scK k (by omega)]
      have fJ : ∀ j, j ≠ 1 → j ≠ 6 → j ≠ 7 → j ≠ 8 → j ≠ 9 → j ≠ 21 → fin 57 j = v0 57 j := fun j q1 q2 q3 q4 q5 q6 => by rw [hfin, up2_n2 _ q1, up2_n2 _ q3, up2_n2 _ q6, up2_n2 _ q5, up2_n2 _ q4, up2_n2 _ q2, t57]
      have hkk : ∀ p, p < r + 1 → kIx (nI (pg (5 * r + 3 * p))) = nI (kP pg r p) ∧ kP pg r p ≤ 4 := fun p hp => by
        have hpp := pgL (5 * r + 3 * p) (by omega)
        exact kI_4 ⟨pg (5 * r + 3 * p), by omega⟩ (j13 p (by omega)).1
      have hzz : ∀ p, p < r + 1 → zP pg r p ≤ 9 := fun p hp => by
        have := j14 p (by omega)
        unfold zP
        omega
      have hE := WE_P j1 j4 j5 j6 j7 j8
      have hcl : f_X8_mobile σ = some (nI (r + 1), sc) := by
        unfold f_X8_mobile
        rw [h1, Option.bind_some]
        dsimp only
        rw [if_neg (show ¬ nI F < s 1 1 by rw [s11]; exact nlt), if_neg (show ¬ f_X5_isWhole s = 0 by rw [w0]; exact d10), a1, Option.bind_some, ← hsc, a4, j3.2.1, j8]
      have hmo : f_X9_mobile sc = some (nI (r + 1), fin) := by
        unfold f_X9_mobile
        rw [g1, Option.bind_some]
        dsimp only
        rw [if_neg (show ¬ nI F < v 57 1 by rw [v1]; exact nlt), if_neg (show ¬ v 57 2 = 0 by rw [g3]; exact w1), if_pos (show v 57 1 - v 57 2 = (3 : Int32) * ((v 57 2 + (1 : Int32)) / (5 : Int32) + (1 : Int32)) by rw [v1, g3]; exact w2), g3, er, nI_1, ← hv0, b1, Option.bind_some, e1, Option.bind_some, ← hfin, t57, v05]
      refine ⟨nI (r + 1), sc, fin, hcl, hmo, MP pg r, 0, pg, WF_P hE j2 (fun p hp => (hkk p hp).2) hzz, ?_, ?_, ?_, ?_⟩
      · unfold RC
        rw [f9 9 (by omega) (by omega), f9 (9 + 1) (by omega) (by omega), f9 (9 + 2) (by omega) (by omega), f9 (9 + 3) (by omega) (by omega), f9 (9 + 4) (by omega) (by omega), f9 (9 + 5) (by omega) (by omega), f9 (9 + 6) (by omega) (by omega), f9 (9 + 7) (by omega) (by omega), f9 (9 + 8) (by omega) (by omega)]
        refine ⟨?_, ?_, a5, fun a ha => ?_, fun p hp => ?_, a8, a9, a10, fun i hi => absurd hi (Nat.not_lt_zero _)⟩
        · rw [a3, j3.2.2.1, nI_1, j6]
          show nI (r - 1 + 1) = nI r
          rw [show r - 1 + 1 = r by omega]
        · rw [a4, j3.2.1, j8]; rfl
        · have ha' : a < 2 * r := ha
          have q1 := a6 a (by omega)
          exact ⟨q1.1.trans (j3.2.2.2.2.1 a ha'), q1.2.trans (j3.2.2.2.2.2 a ha')⟩
        · have hp' : p < r + 1 := hp
          have q1 := a7 p (by omega)
          exact ⟨q1.1, (q1.2.1.trans (j13 p (by omega)).2).trans (hkk p hp').1, q1.2.2.trans (j14 p (by omega)).2.2⟩
      · unfold RM
        refine ⟨?_, ?_, ?_, fun a ha => ?_, fun p hp => ?_, ⟨0, by omega, ?_, fun p _ => Nat.zero_testBit p⟩, ⟨0, by omega, ?_, fun p _ => Nat.zero_testBit p⟩, ?_, fun i hi => absurd hi (Nat.not_lt_zero _)⟩
        · rw [fJ 4 (by omega) (by omega) (by omega) (by omega) (by omega) (by omega)]; exact v04
        · rw [fJ 5 (by omega) (by omega) (by omega) (by omega) (by omega) (by omega)]; exact v05
        · rw [hfin]; rfl
        · rw [fK 59 (by omega), fK 60 (by omega), e2 59 (by decide), e2 60 (by decide)]; exact b3 a ha
        · have hp' : p < r + 1 := hp
          have q1 := e3 p hp'
          obtain ⟨a, x1, x2, x3⟩ := cnt_sj (p := sT pg) (n := 2 * r) (q := p) (by omega)
          refine ⟨by rw [fK 64 (by omega)]; exact q1.2.2, by rw [fK 62 (by omega)]; exact q1.1.trans (hkk p hp').1, by rw [fK 63 (by omega)]; exact q1.2.1, a, x1, ?_, ?_⟩
          · show eP pg a = 10 + p
            unfold eP
            rw [x2, x3]; rfl
          · rw [fK 61 (by omega), e2 61 (by decide), ← x3]; exact b4 a x1 x2
        · rw [hfin]; rfl
        · rw [hfin]; rfl
        · rw [hfin]; rfl
      · refine ⟨by omega, ?_, ?_, fun i hi => absurd hi (Nat.not_lt_zero _)⟩
        · rw [fS 1 (by omega), hsc]; rfl
        · rw [hfin]; rfl
      · obtain ⟨c, y, k1, k2, k3, k4, k5, k6, k7⟩ := hQ
        refine ⟨c + 1, y, by omega, k2, ?_, ?_, ?_, ?_, Or.inr ⟨?_, ?_⟩⟩
        · rw [fS 0 (by omega), hsc, up2_same, s'K 0 (by omega), k3, nI_1]
        · rw [hfin, up2_n2 _ (by omega), up2_same, t57, v0J 7 (by omega) (by omega), vJ 7 (by decide), k4, nI_1]
        · rw [fS 0 (by omega), hsc, up2_n2 _ (by omega), up2_n2 _ (by omega), up2_n1 _ (by omega), s'K 0 (by omega)]; exact k5
        · rw [fJ 20 (by omega) (by omega) (by omega) (by omega) (by omega) (by omega), v0J 20 (by omega) (by omega), vJ 20 (by decide)]; exact k6
        · rw [fS 0 (by omega), hsc]; rfl
        · rw [fJ 24 (by omega) (by omega) (by omega) (by omega) (by omega) (by omega), v0J 24 (by omega) (by omega), vJ 24 (by decide)]
          rcases k7 with ⟨_, k, _⟩ | ⟨_, k | ⟨m, k, k'⟩⟩
          · exact Or.inr ⟨c, by omega, k⟩
          · exact Or.inl k
          · exact Or.inr ⟨m, by omega, k'⟩
