/-! PURE: the image -/
theorem p_cf1 {a b : Nat} {σ : gs_H} (hab : a + 12 < b ∨ b + 12 < a) : ∃ s, lp (b_X3_copyFrom_26 a b) 1000 ((0 : Int32), σ) = some s ∧ (Same [a + 1, a + 2] σ s ∧ ∀ j, j < 10 → s (a + 1) j = σ (b + 1) j ∧ s (a + 2) j = σ (b + 2) j) := by
  refine lp_ok (fun i y => y.1 = nI i ∧ Same [a + 1, a + 2] σ y.2 ∧ ∀ j, j < i → y.2 (a + 1) j = σ (b + 1) j ∧ y.2 (a + 2) j = σ (b + 2) j) 10 (by omega) _ ?_ ⟨rfl, Same.rf, fun j hj => by omega⟩
  rintro i ⟨y, s⟩ hi ⟨rfl, h1, h2⟩
  dsimp only at h1 h2
  have e1 : s (b + 1) = σ (b + 1) := h1 _ (by simp; omega)
  have e2 : s (b + 2) = σ (b + 2) := h1 _ (by simp; omega)
  by_cases hc : i < 10
  · left
    refine ⟨hc, ?_⟩
    have hb : b_X3_copyFrom_26 a b (nI i, s) = some (.inl (nI (i + 1), up2 (up2 s (a + 1) i (σ (b + 1) i)) (a + 2) i (σ (b + 2) i))) := by
      unfold b_X3_copyFrom_26
      have q1 : ¬ 10 ≤ i := by omega
      have q2 : b + 2 ≠ a + 1 := by omega
      simp (disch := omega) only [c0, c1, c2, c3, c4, c5, c6, c7, c8, c9, c10, c11, c12, c15, c20, c24, c30, c31, c45, c46, c48, c49, c57, c60, c97, c98, c99, c100, c101, c102, c108, c111, c126, c720, c999, c10000, nI_add, pk_mul, k_cl, k_lt, k_le, k_eq, k_sub, k_div, k_m1, e1, e2, inb_N, q1, hc, up2_n1 _ q2, ↓reduceIte]
    refine ⟨_, hb, rfl, (h1.up (by simp)).up (by simp), fun j hj => ?_⟩
    dsimp only
    by_cases z : j = i
    · subst z
      exact ⟨by rw [up2_n1 _ (by omega), up2_same], up2_same _ _ _ _⟩
    · have := h2 j (by omega)
      exact ⟨by rw [up2_n2 _ z, up2_n2 _ z]; exact this.1, by rw [up2_n2 _ z, up2_n2 _ z]; exact this.2⟩
  · right
    have hb : b_X3_copyFrom_26 a b (nI i, s) = some (.inr s) := by
      unfold b_X3_copyFrom_26
      have q1 : 10 ≤ i := by omega
      simp (disch := omega) only [c0, c1, c2, c3, c4, c5, c6, c7, c8, c9, c10, c11, c12, c15, c20, c24, c30, c31, c45, c46, c48, c49, c57, c60, c97, c98, c99, c100, c101, c102, c108, c111, c126, c720, c999, c10000, nI_add, pk_mul, k_cl, k_lt, k_le, k_eq, k_sub, k_div, k_m1, q1, ↓reduceIte]
    exact ⟨_, hb, h1, fun j hj => h2 j (by omega)⟩
theorem p_cf2 {a b : Nat} {σ : gs_H} (hab : a + 12 < b ∨ b + 12 < a) (hz : ∀ p, p < 6 → σ (b + 6) p = nI 0 ∨ σ (b + 6) p = nI 1) : ∃ s, lp (b_X3_copyFrom_64 a b) 1000 ((0 : Int32), σ) = some s ∧ (Same [a + 3, a + 4, a + 5, a + 6] σ s ∧ ∀ j, j < 6 → s (a + 3) j = σ (b + 3) j ∧ s (a + 4) j = σ (b + 4) j ∧ s (a + 5) j = σ (b + 5) j ∧ s (a + 6) j = σ (b + 6) j) := by
  refine lp_ok (fun i y => y.1 = nI i ∧ Same [a + 3, a + 4, a + 5, a + 6] σ y.2 ∧ ∀ j, j < i → y.2 (a + 3) j = σ (b + 3) j ∧ y.2 (a + 4) j = σ (b + 4) j ∧ y.2 (a + 5) j = σ (b + 5) j ∧ y.2 (a + 6) j = σ (b + 6) j) 6 (by omega) _ ?_ ⟨rfl, Same.rf, fun j hj => by omega⟩
  rintro i ⟨y, s⟩ hi ⟨rfl, h1, h2⟩
  dsimp only at h1 h2
  have e3 : s (b + 3) = σ (b + 3) := h1 _ (by simp; omega)
  have e4 : s (b + 4) = σ (b + 4) := h1 _ (by simp; omega)
  have e5 : s (b + 5) = σ (b + 5) := h1 _ (by simp; omega)
  have e6 : s (b + 6) = σ (b + 6) := h1 _ (by simp; omega)
  by_cases hc : i < 6
  · left
    refine ⟨hc, ?_⟩
    have hzi := hz i hc
    have hb : b_X3_copyFrom_64 a b (nI i, s) = some (.inl (nI (i + 1), up2 (up2 (up2 (up2 s (a + 3) i (σ (b + 3) i)) (a + 4) i (σ (b + 4) i)) (a + 5) i (σ (b + 5) i)) (a + 6) i (σ (b + 6) i))) := by
      unfold b_X3_copyFrom_64
      have q1 : ¬ 6 ≤ i := by omega
      have q43 : b + 4 ≠ a + 3 := by omega
      have q54 : b + 5 ≠ a + 4 := by omega
      have q53 : b + 5 ≠ a + 3 := by omega
      have q65 : b + 6 ≠ a + 5 := by omega
      have q64 : b + 6 ≠ a + 4 := by omega
      have q63 : b + 6 ≠ a + 3 := by omega
      simp (disch := omega) only [c0, c1, c2, c3, c4, c5, c6, c7, c8, c9, c10, c11, c12, c15, c20, c24, c30, c31, c45, c46, c48, c49, c57, c60, c97, c98, c99, c100, c101, c102, c108, c111, c126, c720, c999, c10000, nI_add, pk_mul, k_cl, k_lt, k_le, k_eq, k_sub, k_div, k_m1, e3, e4, e5, e6, inb_N, q1, hc, up2_n1 _ q43, up2_n1 _ q54, up2_n1 _ q53, up2_n1 _ q65, up2_n1 _ q64, up2_n1 _ q63, if_pos hzi, ↓reduceIte]
    refine ⟨_, hb, rfl, (((h1.up (by simp)).up (by simp)).up (by simp)).up (by simp), fun j hj => ?_⟩
    dsimp only
    by_cases z : j = i
    · subst z
      exact ⟨by rw [up2_n1 _ (by omega), up2_n1 _ (by omega), up2_n1 _ (by omega), up2_same], by rw [up2_n1 _ (by omega), up2_n1 _ (by omega), up2_same], by rw [up2_n1 _ (by omega), up2_same], up2_same _ _ _ _⟩
    · have := h2 j (by omega)
      exact ⟨by rw [up2_n2 _ z, up2_n2 _ z, up2_n2 _ z, up2_n2 _ z]; exact this.1, by rw [up2_n2 _ z, up2_n2 _ z, up2_n2 _ z, up2_n2 _ z]; exact this.2.1, by rw [up2_n2 _ z, up2_n2 _ z, up2_n2 _ z, up2_n2 _ z]; exact this.2.2.1, by rw [up2_n2 _ z, up2_n2 _ z, up2_n2 _ z, up2_n2 _ z]; exact this.2.2.2⟩
  · right
    have hb : b_X3_copyFrom_64 a b (nI i, s) = some (.inr s) := by
      unfold b_X3_copyFrom_64
      have q1 : 6 ≤ i := by omega
      simp (disch := omega) only [c0, c1, c2, c3, c4, c5, c6, c7, c8, c9, c10, c11, c12, c15, c20, c24, c30, c31, c45, c46, c48, c49, c57, c60, c97, c98, c99, c100, c101, c102, c108, c111, c126, c720, c999, c10000, nI_add, pk_mul, k_cl, k_lt, k_le, k_eq, k_sub, k_div, k_m1, q1, ↓reduceIte]
    exact ⟨_, hb, h1, fun j hj => h2 j (by omega)⟩
theorem p_cf3 {a b : Nat} {σ : gs_H} (hab : a + 12 < b ∨ b + 12 < a) (hz : ∀ p, p < 5 → σ (b + 7) p = nI 0 ∨ σ (b + 7) p = nI 1) : ∃ s, lp (b_X3_copyFrom_126 a b) 1000 ((0 : Int32), σ) = some s ∧ (Same [a + 7] σ s ∧ ∀ j, j < 5 → s (a + 7) j = σ (b + 7) j) := by
  refine lp_ok (fun i y => y.1 = nI i ∧ Same [a + 7] σ y.2 ∧ ∀ j, j < i → y.2 (a + 7) j = σ (b + 7) j) 5 (by omega) _ ?_ ⟨rfl, Same.rf, fun j hj => by omega⟩
  rintro i ⟨y, s⟩ hi ⟨rfl, h1, h2⟩
  dsimp only at h1 h2
  have e1 : s (b + 7) = σ (b + 7) := h1 _ (by simp; omega)
  by_cases hc : i < 5
  · left
    refine ⟨hc, ?_⟩
    have hzi := hz i hc
    have hb : b_X3_copyFrom_126 a b (nI i, s) = some (.inl (nI (i + 1), up2 s (a + 7) i (σ (b + 7) i))) := by
      unfold b_X3_copyFrom_126
      have q1 : ¬ 5 ≤ i := by omega
      simp (disch := omega) only [c0, c1, c2, c3, c4, c5, c6, c7, c8, c9, c10, c11, c12, c15, c20, c24, c30, c31, c45, c46, c48, c49, c57, c60, c97, c98, c99, c100, c101, c102, c108, c111, c126, c720, c999, c10000, nI_add, pk_mul, k_cl, k_lt, k_le, k_eq, k_sub, k_div, k_m1, e1, inb_N, q1, hc, if_pos hzi, ↓reduceIte]
    refine ⟨_, hb, rfl, h1.up (by simp), fun j hj => ?_⟩
    dsimp only
    by_cases z : j = i
    · subst z; exact up2_same _ _ _ _
    · rw [up2_n2 _ z]; exact h2 j (by omega)
  · right
    have hb : b_X3_copyFrom_126 a b (nI i, s) = some (.inr s) := by
      unfold b_X3_copyFrom_126
      have q1 : 5 ≤ i := by omega
      simp (disch := omega) only [c0, c1, c2, c3, c4, c5, c6, c7, c8, c9, c10, c11, c12, c15, c20, c24, c30, c31, c45, c46, c48, c49, c57, c60, c97, c98, c99, c100, c101, c102, c108, c111, c126, c720, c999, c10000, nI_add, pk_mul, k_cl, k_lt, k_le, k_eq, k_sub, k_div, k_m1, q1, ↓reduceIte]
    exact ⟨_, hb, h1, fun j hj => h2 j (by omega)⟩
theorem p_cf4 {a b : Nat} {σ : gs_H} (hab : a + 4 < b ∨ b + 4 < a) : ∃ s, f_X7_copyFrom a b σ = some s ∧ (Same [a, a + 1, a + 2, a + 3, a + 4] σ s ∧ s a 0 = σ b 0 ∧ ∀ j, j < 6 → s (a + 1) j = σ (b + 1) j ∧ s (a + 2) j = σ (b + 2) j ∧ s (a + 3) j = σ (b + 3) j ∧ s (a + 4) j = σ (b + 4) j) := by
  have hs0 : Same [a] σ (up2 σ a 0 (σ b 0)) := Same.rf.up (by simp)
  have key : ∃ s, lp (b_X7_copyFrom_10 a b) 1000 ((0 : Int32), up2 σ a 0 (σ b 0)) = some s ∧ (Same [a + 1, a + 2, a + 3, a + 4] (up2 σ a 0 (σ b 0)) s ∧ ∀ j, j < 6 → s (a + 1) j = σ (b + 1) j ∧ s (a + 2) j = σ (b + 2) j ∧ s (a + 3) j = σ (b + 3) j ∧ s (a + 4) j = σ (b + 4) j) := by
    refine lp_ok (fun i y => y.1 = nI i ∧ Same [a + 1, a + 2, a + 3, a + 4] (up2 σ a 0 (σ b 0)) y.2 ∧ ∀ j, j < i → y.2 (a + 1) j = σ (b + 1) j ∧ y.2 (a + 2) j = σ (b + 2) j ∧ y.2 (a + 3) j = σ (b + 3) j ∧ y.2 (a + 4) j = σ (b + 4) j) 6 (by omega) _ ?_ ⟨rfl, Same.rf, fun j hj => by omega⟩
    rintro i ⟨y, s⟩ hi ⟨rfl, h1, h2⟩
    dsimp only at h1 h2
    have e1 : s (b + 1) = σ (b + 1) := (h1 _ (by simp; omega)).trans (hs0 _ (by simp; omega))
    have e2 : s (b + 2) = σ (b + 2) := (h1 _ (by simp; omega)).trans (hs0 _ (by simp; omega))
    have e3 : s (b + 3) = σ (b + 3) := (h1 _ (by simp; omega)).trans (hs0 _ (by simp; omega))
    have e4 : s (b + 4) = σ (b + 4) := (h1 _ (by simp; omega)).trans (hs0 _ (by simp; omega))
    by_cases hc : i < 6
    · left
      refine ⟨hc, ?_⟩
      have hb : b_X7_copyFrom_10 a b (nI i, s) = some (.inl (nI (i + 1), up2 (up2 (up2 (up2 s (a + 1) i (σ (b + 1) i)) (a + 2) i (σ (b + 2) i)) (a + 3) i (σ (b + 3) i)) (a + 4) i (σ (b + 4) i))) := by
        unfold b_X7_copyFrom_10
        have q1 : ¬ 6 ≤ i := by omega
        have q43 : b + 2 ≠ a + 1 := by omega
        have q54 : b + 3 ≠ a + 2 := by omega
        have q53 : b + 3 ≠ a + 1 := by omega
        have q65 : b + 4 ≠ a + 3 := by omega
        have q64 : b + 4 ≠ a + 2 := by omega
        have q63 : b + 4 ≠ a + 1 := by omega
        simp (disch := omega) only [c0, c1, c2, c3, c4, c5, c6, c7, c8, c9, c10, c11, c12, c15, c20, c24, c30, c31, c45, c46, c48, c49, c57, c60, c97, c98, c99, c100, c101, c102, c108, c111, c126, c720, c999, c10000, nI_add, pk_mul, k_cl, k_lt, k_le, k_eq, k_sub, k_div, k_m1, e1, e2, e3, e4, inb_N, q1, hc, up2_n1 _ q43, up2_n1 _ q54, up2_n1 _ q53, up2_n1 _ q65, up2_n1 _ q64, up2_n1 _ q63, ↓reduceIte]
      refine ⟨_, hb, rfl, (((h1.up (by simp)).up (by simp)).up (by simp)).up (by simp), fun j hj => ?_⟩
      dsimp only
      by_cases z : j = i
      · subst z
        exact ⟨by rw [up2_n1 _ (by omega), up2_n1 _ (by omega), up2_n1 _ (by omega), up2_same], by rw [up2_n1 _ (by omega), up2_n1 _ (by omega), up2_same], by rw [up2_n1 _ (by omega), up2_same], up2_same _ _ _ _⟩
      · have := h2 j (by omega)
        exact ⟨by rw [up2_n2 _ z, up2_n2 _ z, up2_n2 _ z, up2_n2 _ z]; exact this.1, by rw [up2_n2 _ z, up2_n2 _ z, up2_n2 _ z, up2_n2 _ z]; exact this.2.1, by rw [up2_n2 _ z, up2_n2 _ z, up2_n2 _ z, up2_n2 _ z]; exact this.2.2.1, by rw [up2_n2 _ z, up2_n2 _ z, up2_n2 _ z, up2_n2 _ z]; exact this.2.2.2⟩
    · right
      have hb : b_X7_copyFrom_10 a b (nI i, s) = some (.inr s) := by
        unfold b_X7_copyFrom_10
        have q1 : 6 ≤ i := by omega
        simp (disch := omega) only [c0, c1, c2, c3, c4, c5, c6, c7, c8, c9, c10, c11, c12, c15, c20, c24, c30, c31, c45, c46, c48, c49, c57, c60, c97, c98, c99, c100, c101, c102, c108, c111, c126, c720, c999, c10000, nI_add, pk_mul, k_cl, k_lt, k_le, k_eq, k_sub, k_div, k_m1, q1, ↓reduceIte]
      exact ⟨_, hb, h1, fun j hj => h2 j (by omega)⟩
  obtain ⟨s, h1, h2, h3⟩ := key
  refine ⟨s, by unfold f_X7_copyFrom; rw [h1]; rfl, (hs0.mono (by simp)).tr (h2.mono (by simp)), ?_, h3⟩
  rw [h2 a (by simp), up2_same]
theorem p_copyFrom {a b : Nat} {M : MD} {σ : gs_H} (hab : a + 12 < b ∨ b + 12 < a) (hW : WF M) (hR : RC b M σ) : ∃ s, f_X3_copyFrom a b σ = some s ∧ (∀ k, k < a ∨ a + 12 < k → s k = σ k) ∧ RC a M s := by
  have h5 := hW.1.r5
  have h6 := hW.2.2.2.1
  obtain ⟨r1, r2, r3, r4, r5, r6, r7, r8, r9⟩ := hR
  obtain ⟨s0, hs0⟩ : ∃ s, s = (up2 (up2 (up2 σ a 0 (σ b 0)) a 1 ((up2 σ a 0 (σ b 0)) b 1)) a 2 ((up2 (up2 σ a 0 (σ b 0)) a 1 ((up2 σ a 0 (σ b 0)) b 1)) b 2)) := ⟨_, rfl⟩
  have S0 : Same [a] σ s0 := by rw [hs0]; exact ((Same.rf.up (by simp)).up (by simp)).up (by simp)
  have z0 : s0 a 0 = σ b 0 := by rw [hs0, up2_n2 _ (by omega), up2_n2 _ (by omega), up2_same]
  have z1 : s0 a 1 = σ b 1 := by rw [hs0, up2_n2 _ (by omega), up2_same, up2_n1 _ (by omega)]
  have z2 : s0 a 2 = σ b 2 := by rw [hs0, up2_same, up2_n1 _ (by omega), up2_n1 _ (by omega)]
  obtain ⟨s1, a1, a2, a3⟩ := p_cf1 (σ := s0) hab
  have S1 : ∀ k, k < a ∨ a + 12 < k → s1 k = σ k := fun k hk => (a2 k (by simp; omega)).trans (S0 k (by simp; omega))
  have hbk : ∀ j, j ≤ 12 → b + j < a ∨ a + 12 < b + j := fun j hj => by omega
  obtain ⟨s2, b1, b2, b3⟩ := p_cf2 (σ := s1) hab (fun p hp => by rw [S1 _ (hbk 6 (by omega)), r6 p hp]; exact bI_01' _)
  have S2 : ∀ k, k < a ∨ a + 12 < k → s2 k = σ k := fun k hk => (b2 k (by simp; omega)).trans (S1 k hk)
  obtain ⟨s3, d1, d2, d3⟩ := p_cf3 (σ := s2) hab (fun p hp => by rw [S2 _ (hbk 7 (by omega)), r7 p hp]; exact bI_01' _)
  have S3 : ∀ k, k < a ∨ a + 12 < k → s3 k = σ k := fun k hk => (d2 k (by simp; omega)).trans (S2 k hk)
  obtain ⟨s4, g1, g2, g3, g4⟩ := p_cf4 (a := a + 8) (b := b + 8) (σ := s3) (by omega)
  have S4 : ∀ k, k < a ∨ a + 12 < k → s4 k = σ k := fun k hk => (g2 k (by simp; omega)).trans (S3 k hk)
  have e0 : s4 a = s0 a := by rw [g2 a (by simp; omega), d2 a (by simp), b2 a (by simp), a2 a (by simp)]
  have e1 : s4 (a + 1) = s1 (a + 1) := by rw [g2 _ (by simp), d2 _ (by simp), b2 _ (by simp)]
  have e2 : s4 (a + 2) = s1 (a + 2) := by rw [g2 _ (by simp), d2 _ (by simp), b2 _ (by simp)]
  have e3 : s4 (a + 3) = s2 (a + 3) := by rw [g2 _ (by simp), d2 _ (by simp)]
  have e4 : s4 (a + 4) = s2 (a + 4) := by rw [g2 _ (by simp), d2 _ (by simp)]
  have e5 : s4 (a + 5) = s2 (a + 5) := by rw [g2 _ (by simp), d2 _ (by simp)]
  have e6 : s4 (a + 6) = s2 (a + 6) := by rw [g2 _ (by simp), d2 _ (by simp)]
  have e7 : s4 (a + 7) = s3 (a + 7) := by rw [g2 _ (by simp)]
  refine ⟨s4, ?_, S4, ?_, ?_, ?_, fun q hq => ?_, fun p hp => ?_, fun p hp => ?_, fun w hw => ?_, ?_, fun i hi => ?_⟩
  · unfold f_X3_copyFrom
    rw [← hs0, a1, Option.bind_some, b1, Option.bind_some, d1, Option.bind_some, g1, Option.bind_some]
  · rw [e0, z0]; exact r1
  · rw [e0, z1]; exact r2
  · rw [e0, z2]; exact r3
  · have := a3 q (by omega)
    rw [e1, e2, this.1, this.2, S0 (b + 1) (by simp; omega), S0 (b + 2) (by simp; omega)]
    exact r4 q hq
  · obtain ⟨x1, x2, x3, x4⟩ := b3 p (by omega)
    rw [e3, e4, e5, x1, x2, x3, S1 _ (hbk 3 (by omega)), S1 _ (hbk 4 (by omega)), S1 _ (hbk 5 (by omega))]
    exact r5 p hp
  · obtain ⟨x1, x2, x3, x4⟩ := b3 p hp
    rw [e6, x4, S1 _ (hbk 6 (by omega))]
    exact r6 p hp
  · rw [e7, d3 w hw, S2 _ (hbk 7 (by omega))]
    exact r7 w hw
  · rw [g3, S3 _ (hbk 8 (by omega))]
    exact r8
  · obtain ⟨x1, x2, x3, x4⟩ := g4 i (by omega)
    have x1' : s4 (a + 9) i = s3 (b + 9) i := x1
    have x2' : s4 (a + 10) i = s3 (b + 10) i := x2
    have x3' : s4 (a + 11) i = s3 (b + 11) i := x3
    have x4' : s4 (a + 12) i = s3 (b + 12) i := x4
    rw [x1', x2', x3', x4', S3 _ (hbk 9 (by omega)), S3 _ (hbk 10 (by omega)), S3 _ (hbk 11 (by omega)), S3 _ (hbk 12 (by omega))]
    exact r9 i hi
theorem pu_image {N : Nat} {σ : gs_H} (hI : Inv N σ) : ∃ (r : Int32) (s1 : gs_H) (s2 : gs_H), f_X8_image σ = some (r, s1) ∧ f_X9_image s1 = some (r, s2) ∧ Inv (N + 1) s2 := by
  have hI0 := hI
  obtain ⟨M, L, pg, hW, hC, hM, hP, c, y, q1, q2, q3, q4, q5, q6, q7⟩ := hI
  have h5 := hW.1.r5
  have h6 := hW.2.2.2.1
  rcases has_m hW hC hM with ⟨h0, h1, h2⟩ | ⟨h0, h1, h2⟩
  · refine ⟨-103, σ, σ, ?_, ?_, Inv_up hI0⟩
    · unfold f_X8_image; rw [h1, if_pos rfl]
    · unfold f_X9_image; rw [h2, if_neg (by decide)]
  · obtain ⟨u1, a1, a2, a3⟩ := p_copyFrom (a := 22) (b := 9) (σ := σ) (by omega) hW hC
    have t1 : ∀ k, k ≠ 0 ∧ (k < 22 ∨ 34 < k) → (up2 u1 0 7 (1 : Int32)) k = σ k := fun k h => by rw [up2_ne _ _ _ h.1]; exact a2 k (by omega)
    obtain ⟨s1, hs1⟩ : ∃ s, s = up2 u1 0 7 (1 : Int32) := ⟨_, rfl⟩
    rw [← hs1] at t1
    obtain ⟨w1, b1, b2, b3⟩ := p_copy (a := 59) (b := 69) (σ := s1) (by decide) rfl (by decide)
    obtain ⟨w2, d1, d2, d3⟩ := p_copy (a := 62) (b := 70) (σ := w1) (by decide) rfl (by decide)
    obtain ⟨w3, e1, e2, e3⟩ := p_copy (a := 63) (b := 71) (σ := w2) (by decide) rfl (by decide)
    obtain ⟨w4, f1, f2, f3⟩ := p_copy (a := 64) (b := 72) (σ := w3) (by decide) rfl (by decide)
    obtain ⟨w5, g1, g2, g3⟩ := p_copy (a := 68) (b := 73) (σ := w4) (by decide) rfl (by decide)
    have t2 : ∀ k, k < 69 ∨ 73 < k → w5 k = s1 k := fun k h => by rw [g2 k (by simp; omega), f2 k (by simp; omega), e2 k (by simp; omega), d2 k (by simp; omega), b2 k (by simp; omega)]
    have x69 : ∀ j, j < 10 → w5 69 j = σ 59 j := fun j hj => by rw [g2 69 (by decide), f2 69 (by decide), e2 69 (by decide), d2 69 (by decide), b3 j hj, t1 59 (by omega)]
    have x70 : ∀ j, j < 6 → w5 70 j = σ 62 j := fun j hj => by rw [g2 70 (by decide), f2 70 (by decide), e2 70 (by decide), d3 j hj, b2 62 (by decide), t1 62 (by omega)]
    have x71 : ∀ j, j < 6 → w5 71 j = σ 63 j := fun j hj => by rw [g2 71 (by decide), f2 71 (by decide), e3 j hj, d2 63 (by decide), b2 63 (by decide), t1 63 (by omega)]
    have x72 : ∀ j, j < 6 → w5 72 j = σ 64 j := fun j hj => by rw [g2 72 (by decide), f3 j hj, e2 64 (by decide), d2 64 (by decide), b2 64 (by decide), t1 64 (by omega)]
    have x73 : ∀ j, j < 24 → w5 73 j = σ 68 j := fun j hj => by rw [g3 j hj, f2 68 (by decide), e2 68 (by decide), d2 68 (by decide), b2 68 (by decide), t1 68 (by omega)]
    have y57 : w5 57 = σ 57 := by rw [t2 57 (by omega), t1 57 (by omega)]
    obtain ⟨s2, hs2⟩ : ∃ s, s = up2 (up2 (up2 (up2 (up2 w5 57 25 (w5 57 6)) 57 26 (w5 57 8)) 57 27 (w5 57 9)) 57 28 (w5 57 21)) 57 24 (w5 57 7) := ⟨_, rfl⟩
    have t3 : ∀ k, k ≠ 57 → s2 k = w5 k := fun k h => by rw [hs2, up2_ne _ _ _ (by omega), up2_ne _ _ _ (by omega), up2_ne _ _ _ (by omega), up2_ne _ _ _ (by omega), up2_ne _ _ _ (by omega)]
    have t4 : ∀ j, j < 24 ∨ 28 < j → s2 57 j = σ 57 j := fun j h => by rw [hs2, up2_n2 _ (by omega), up2_n2 _ (by omega), up2_n2 _ (by omega), up2_n2 _ (by omega), up2_n2 _ (by omega), y57]
    have j24 : s2 57 24 = σ 57 7 := by rw [hs2, up2_same, y57]
    have j25 : s2 57 25 = σ 57 6 := by rw [hs2, up2_n2 _ (by omega), up2_n2 _ (by omega), up2_n2 _ (by omega), up2_n2 _ (by omega), up2_same, y57]
    have j26 : s2 57 26 = σ 57 8 := by rw [hs2, up2_n2 _ (by omega), up2_n2 _ (by omega), up2_n2 _ (by omega), up2_same, y57]
    have j27 : s2 57 27 = σ 57 9 := by rw [hs2, up2_n2 _ (by omega), up2_n2 _ (by omega), up2_same, y57]
    have j28 : s2 57 28 = σ 57 21 := by rw [hs2, up2_n2 _ (by omega), up2_same, y57]
    have t5 : ∀ k, k ≠ 0 ∧ k ≠ 57 ∧ (k < 22 ∨ 34 < k) ∧ (k < 69 ∨ 73 < k) → s2 k = σ k := fun k h => by rw [t3 k (by omega), t2 k (by omega), t1 k (by omega)]
    have t0 : ∀ j, j ≠ 7 → s2 0 j = σ 0 j := fun j h => by rw [t3 0 (by omega), t2 0 (by omega), hs1, up2_n2 _ h, a2 0 (by omega)]
    have t07 : s2 0 7 = nI 1 := by rw [t3 0 (by omega), t2 0 (by omega), hs1, up2_same]; rfl
    refine ⟨nI (mH M), s1, s2, ?_, ?_, M, L, pg, hW, hC.eq9 (fun k h1 h2 => t5 k (by omega)), hM.eqs (fun k h1 h2 => t5 k (by omega)) (fun j hj => t4 j (by omega)), hP.same (t5 1 (by omega)) (t5 2 (by omega)) (t5 58 (by omega)) (t4 1 (by omega)), c, y, by omega, q2, by rw [t0 8 (by omega)]; exact q3, by rw [t4 7 (by omega)]; exact q4, by rw [t0 9 (by omega)]; exact q5, by rw [t4 20 (by omega)]; exact q6, Or.inl ⟨t07, by rw [j24]; exact q4, M, hW, rfl, rfl, rfl, ?_, ?_⟩⟩
    · unfold f_X8_image
      rw [h1, if_neg (by decide), a1, Option.bind_some, a2 9 (by omega), hC.2.2.1, hs1]
    · unfold f_X9_image
      have h2' : f_X9_lacks s1 = 0 := by rw [← h2]; unfold f_X9_lacks; rw [t1 57 (by omega)]
      rw [h2', if_pos rfl, b1, Option.bind_some, d1, Option.bind_some, e1, Option.bind_some, f1, Option.bind_some, g1, Option.bind_some, ← hs2, y57, hM.2.2.1]
    · refine a3.same (X := [0, 57, 69, 70, 71, 72, 73]) (fun k hk => ?_) (by simp)
      have hk2 : k ≠ 0 ∧ k ≠ 57 ∧ k ≠ 69 ∧ k ≠ 70 ∧ k ≠ 71 ∧ k ≠ 72 ∧ k ≠ 73 := by simpa using hk
      rw [t3 k (by omega), t2 k (by omega), hs1, up2_ne _ _ _ (by omega)]
    · refine ⟨by rw [j25]; exact hM.2.2.1, by rw [j26]; exact hM.2.2.2.2.2.2.1, by rw [j27]; exact hM.2.2.2.2.2.1, by rw [j28]; exact hM.2.2.2.2.2.2.2.1, fun a ha => ?_, fun p hp => ?_, fun i hi => ?_⟩
      · rw [t3 69 (by omega), x69 a (by omega)]; exact (hM.2.2.2.1 a ha).1
      · obtain ⟨k1, k2, k3, -⟩ := hM.2.2.2.2.1 p hp
        rw [t3 70 (by omega), t3 71 (by omega), t3 72 (by omega), x70 p (by omega), x71 p (by omega), x72 p (by omega)]
        exact ⟨k2, k3, k1⟩
      · rw [t3 73 (by omega), x73 _ (by omega), x73 _ (by omega), x73 _ (by omega), x73 _ (by omega)]
        exact hM.2.2.2.2.2.2.2.2 i hi
theorem pu_restore {N : Nat} {σ : gs_H} (hI : Inv N σ) (hN : N < 1000) : ∃ (r : Int32) (s1 : gs_H) (s2 : gs_H), f_X8_restore σ = some (r, s1) ∧ f_X9_restore s1 = some (r, s2) ∧ Inv (N + 1) s2 := by
  have hI0 := hI
  obtain ⟨M, L, pg, hW, hC, hM, hP, c, y, q1, q2, q3, q4, q5, q6, q7⟩ := hI
  rcases q7 with ⟨k0, k1, K, hK, k3, k4, k5, k6, k7⟩ | ⟨k0, k1⟩
  · have h5 := hK.1.r5
    have h6 := hK.2.2.2.1
    obtain ⟨s1, a1, a2, a3⟩ := p_copyFrom (a := 9) (b := 22) (σ := σ) (by omega) hK k6
    obtain ⟨w1, b1, b2, b3⟩ := p_copy (a := 69) (b := 59) (σ := s1) (by decide) rfl (by decide)
    obtain ⟨w2, d1, d2, d3⟩ := p_copy (a := 70) (b := 62) (σ := w1) (by decide) rfl (by decide)
    obtain ⟨w3, e1, e2, e3⟩ := p_copy (a := 71) (b := 63) (σ := w2) (by decide) rfl (by decide)
    obtain ⟨w4, f1, f2, f3⟩ := p_copy (a := 72) (b := 64) (σ := w3) (by decide) rfl (by decide)
    obtain ⟨w5, g1, g2, g3⟩ := p_copy (a := 73) (b := 68) (σ := w4) (by decide) rfl (by decide)
    have t2 : ∀ k, k ≠ 59 ∧ k ≠ 62 ∧ k ≠ 63 ∧ k ≠ 64 ∧ k ≠ 68 → w5 k = s1 k := fun k h => by rw [g2 k (by simp; omega), f2 k (by simp; omega), e2 k (by simp; omega), d2 k (by simp; omega), b2 k (by simp; omega)]
    have x69 : ∀ j, j < 10 → w5 59 j = σ 69 j := fun j hj => by rw [g2 59 (by decide), f2 59 (by decide), e2 59 (by decide), d2 59 (by decide), b3 j hj, a2 69 (by omega)]
    have x70 : ∀ j, j < 6 → w5 62 j = σ 70 j := fun j hj => by rw [g2 62 (by decide), f2 62 (by decide), e2 62 (by decide), d3 j hj, b2 70 (by decide), a2 70 (by omega)]
    have x71 : ∀ j, j < 6 → w5 63 j = σ 71 j := fun j hj => by rw [g2 63 (by decide), f2 63 (by decide), e3 j hj, d2 71 (by decide), b2 71 (by decide), a2 71 (by omega)]
    have x72 : ∀ j, j < 6 → w5 64 j = σ 72 j := fun j hj => by rw [g2 64 (by decide), f3 j hj, e2 72 (by decide), d2 72 (by decide), b2 72 (by decide), a2 72 (by omega)]
    have x73 : ∀ j, j < 24 → w5 68 j = σ 73 j := fun j hj => by rw [g3 j hj, f2 73 (by decide), e2 73 (by decide), d2 73 (by decide), b2 73 (by decide), a2 73 (by omega)]
    have y57 : w5 57 = σ 57 := by rw [t2 57 (by omega), a2 57 (by omega)]
    obtain ⟨s2, hs2⟩ : ∃ s, s = up2 (up2 (up2 (up2 w5 57 6 (w5 57 25)) 57 8 (w5 57 26)) 57 9 (w5 57 27)) 57 21 (w5 57 28) := ⟨_, rfl⟩
    have t3 : ∀ k, k ≠ 57 → s2 k = w5 k := fun k h => by rw [hs2, up2_ne _ _ _ (by omega), up2_ne _ _ _ (by omega), up2_ne _ _ _ (by omega), up2_ne _ _ _ (by omega)]
    have t4 : ∀ j, j ≠ 6 ∧ j ≠ 8 ∧ j ≠ 9 ∧ j ≠ 21 → s2 57 j = σ 57 j := fun j h => by rw [hs2, up2_n2 _ (by omega), up2_n2 _ (by omega), up2_n2 _ (by omega), up2_n2 _ (by omega), y57]
    have j6 : s2 57 6 = σ 57 25 := by rw [hs2, up2_n2 _ (by omega), up2_n2 _ (by omega), up2_n2 _ (by omega), up2_same, y57]
    have j8 : s2 57 8 = σ 57 26 := by rw [hs2, up2_n2 _ (by omega), up2_n2 _ (by omega), up2_same, y57]
    have j9 : s2 57 9 = σ 57 27 := by rw [hs2, up2_n2 _ (by omega), up2_same, y57]
    have j21 : s2 57 21 = σ 57 28 := by rw [hs2, up2_same, y57]
    have t5 : ∀ k, k ≠ 57 ∧ (k < 9 ∨ 21 < k) ∧ (k < 59 ∨ 68 < k) → s2 k = σ k := fun k h => by rw [t3 k (by omega), t2 k (by omega), a2 k (by omega)]
    have t6 : ∀ k, k < 59 ∧ k ≠ 57 → s2 k = s1 k := fun k h => by rw [t3 k (by omega), t2 k (by omega)]
    refine ⟨nI (mH K), s1, s2, ?_, ?_, K, L, pg, hK, a3.eq9 (fun k h1 h2 => t6 k (by omega)), ?_, hP.same (t5 1 (by omega)) (t5 2 (by omega)) (by rw [t3 58 (by omega), t2 58 (by omega), a2 58 (by omega)]) (t4 1 (by omega)), c, y, by omega, q2, by rw [t5 0 (by omega)]; exact q3, by rw [t4 7 (by omega)]; exact q4, by rw [t5 0 (by omega)]; exact q5, by rw [t4 20 (by omega)]; exact q6, Or.inl ⟨by rw [t5 0 (by omega)]; exact k0, by rw [t4 24 (by omega)]; exact k1, K, hK, rfl, rfl, rfl, ?_, ?_⟩⟩
    · unfold f_X8_restore
      rw [k0, if_neg (by decide), a1, Option.bind_some, a3.2.2.1]
    · unfold f_X9_restore
      have z1 : s1 57 24 = s1 57 7 := by rw [a2 57 (by omega), k1, q4]
      rw [if_pos z1, b1, Option.bind_some, d1, Option.bind_some, e1, Option.bind_some, f1, Option.bind_some, g1, Option.bind_some, ← hs2, y57, k7.1]
    · obtain ⟨m1, m2, m3, m4, m5, m6, m7, m8, m9⟩ := hM
      obtain ⟨r1, r2, r3, r4, r5, r6, r7⟩ := k7
      refine ⟨by rw [t4 4 (by omega), k3]; exact m1, by rw [t4 5 (by omega), k4]; exact m2, by rw [j6]; exact r1, fun a ha => ?_, fun p hp => ?_, by rw [j9]; exact r3, by rw [j8]; exact r2, by rw [j21]; exact r4, fun i hi => ?_⟩
      · rw [t3 59 (by omega), x69 a (by omega), t3 60 (by omega), t2 60 (by omega), a2 60 (by omega), k5]
        exact ⟨r5 a ha, (m4 a (by rw [← k3]; exact ha)).2⟩
      · obtain ⟨z1, z2, z3⟩ := r6 p hp
        obtain ⟨-, -, -, z4⟩ := m5 p (by rw [← k4]; exact hp)
        rw [t3 64 (by omega), t3 62 (by omega), t3 63 (by omega), x70 p (by omega), x71 p (by omega), x72 p (by omega), t3 61 (by omega), t2 61 (by omega), a2 61 (by omega), k3, k5]
        exact ⟨z3, z1, z2, z4⟩
      · rw [t3 68 (by omega), x73 _ (by omega), x73 _ (by omega), x73 _ (by omega), x73 _ (by omega)]
        exact r7 i hi
    · unfold RC
      rw [t5 22 (by omega), t5 (22 + 1) (by omega), t5 (22 + 2) (by omega), t5 (22 + 3) (by omega), t5 (22 + 4) (by omega), t5 (22 + 5) (by omega), t5 (22 + 6) (by omega), t5 (22 + 7) (by omega), t5 (22 + 8) (by omega), t5 (22 + 9) (by omega), t5 (22 + 10) (by omega), t5 (22 + 11) (by omega), t5 (22 + 12) (by omega)]
      exact k6
    · unfold RK
      rw [t4 25 (by omega), t4 26 (by omega), t4 27 (by omega), t4 28 (by omega), t5 69 (by omega), t5 70 (by omega), t5 71 (by omega), t5 72 (by omega), t5 73 (by omega)]
      exact k7
  · refine ⟨-103, σ, σ, ?_, ?_, Inv_up hI0⟩
    · unfold f_X8_restore
      rw [k0, if_pos (show nI 0 = 0 from rfl)]
    · unfold f_X9_restore
      rw [q4]
      refine if_neg (fun z => ?_)
      rcases k1 with k1 | ⟨k, hk, k1⟩
      · rw [k1] at z
        have := congrArg Int32.toInt z
        rw [nI_toInt (by omega)] at this
        have e : (-1 : Int32).toInt = -1 := rfl
        omega
      · rw [k1] at z
        have := (nI_eq (by omega) (by omega)).mp z
        omega
