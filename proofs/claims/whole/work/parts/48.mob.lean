/-! PURE: a mobile hung as read -/
theorem cnt_mn (p : Nat → Bool) {a : Nat} : ∀ {b : Nat}, a ≤ b → cnt p a ≤ cnt p b
  | 0, h => by
    have : a = 0 := by omega
    subst this; exact Nat.le_refl _
  | b + 1, h => by
    by_cases z : a = b + 1
    · subst z; exact Nat.le_refl _
    · have := cnt_mn p (show a ≤ b by omega)
      show cnt p a ≤ cnt p b + (p b).toNat
      omega
theorem cnt_l2 {p : Nat → Bool} {a b : Nat} (h : a < b) (hp : p a = true) : cnt p a < cnt p b := by
  have h1 := cnt_mn p (show a + 1 ≤ b by omega)
  have h2 : cnt p (a + 1) = cnt p a + 1 := by
    show cnt p a + (p a).toNat = _
    rw [hp]; rfl
  omega
theorem cnt_sj {p : Nat → Bool} {q : Nat} : ∀ {n : Nat}, q < cnt p n → ∃ a, a < n ∧ p a = true ∧ cnt p a = q
  | 0, h => absurd h (Nat.not_lt_zero _)
  | n + 1, h => by
    have e : cnt p (n + 1) = cnt p n + (p n).toNat := rfl
    by_cases z : q < cnt p n
    · obtain ⟨a, h1, h2⟩ := cnt_sj z
      exact ⟨a, by omega, h2⟩
    · cases hp : p n
      · rw [hp] at e
        have e' : cnt p (n + 1) = cnt p n := e
        omega
      · rw [hp] at e
        have e' : cnt p (n + 1) = cnt p n + 1 := e
        exact ⟨n, by omega, hp, by omega⟩
/-- the class -/
theorem p_hangRead {s : gs_H} {C D : Nat → Bool} (hC : ∀ p, p < 6 → s 15 p = bI (C p)) (hD : ∀ w, w < 5 → s 16 w = bI (D w)) : ∃ s', f_X3_hangAsRead s = some s' ∧ Same [9, 10, 11, 12, 13, 14, 15, 16, 17] s s' ∧ s' 9 0 = s 3 4 + 1 ∧ s' 9 1 = s 3 5 ∧ s' 9 2 = nI 0 ∧ (∀ a, a < 10 → s' 10 a = s 4 a ∧ s' 11 a = s 5 a) ∧ (∀ p, p < 6 → s' 12 p = nI p ∧ s' 13 p = s 6 p ∧ s' 14 p = s 7 p) ∧ (∀ p, p < 6 → s' 15 p = bI false) ∧ (∀ w, w < 5 → s' 16 w = bI false) ∧ s' 17 0 = nI 0 := by
  obtain ⟨s0, hs0⟩ : ∃ s0, s0 = up2 (up2 (up2 s 9 0 (s 3 4 + 1)) 9 1 (s 3 5)) 9 2 (0 : Int32) := ⟨_, rfl⟩
  have f0 : Same [9] s s0 := by
    rw [hs0]
    exact Same.up (Same.up (Same.up Same.rf (by simp)) (by simp)) (by simp)
  have key1 : ∃ q, lp (b_X3_hangAsRead_25) 1000 ((0 : Int32), s0) = some q ∧ (Same [10, 11] s0 q ∧ ∀ a, a < 10 → q 10 a = s0 4 a ∧ q 11 a = s0 5 a) := by
    refine lp_ok (fun i y => y.1 = nI i ∧ Same [10, 11] s0 y.2 ∧ ∀ a, a < i → y.2 10 a = s0 4 a ∧ y.2 11 a = s0 5 a) 10 (by omega) _ ?_ ⟨rfl, Same.rf, fun w hw => by omega⟩
    rintro i ⟨y, u⟩ hi ⟨rfl, h1, h2⟩
    dsimp only at h1 h2
    by_cases hc : i < 10
    · left
      have e4 : u 4 = s0 4 := h1 4 (by decide)
      have e5 : u 5 = s0 5 := h1 5 (by decide)
      refine ⟨hc, (nI (i + 1), up2 (up2 u 10 i (s0 4 i)) 11 i (s0 5 i)), ?_, rfl, (h1.up (by simp)).up (by simp), fun a ha => ?_⟩
      · unfold b_X3_hangAsRead_25
        dsimp only
        rw [if_neg (show ¬ (10 : Int32) ≤ nI i from fun q => by rw [c10] at q; have := (k_le (by omega) (by omega)).mp q; omega), if_pos (inb_I hc (by omega)), if_pos (inb_I hc (by omega)), if_pos (inb_I hc (by omega)), if_pos (inb_I hc (by omega)), k_cl (by omega), nI_1, e4, e5]
      · dsimp only
        by_cases z : a = i
        · subst z; exact ⟨by rw [up2_n1 _ (by omega), up2_same], up2_same _ _ _ _⟩
        · rw [up2_n2 _ z, up2_n2 _ z, up2_n2 _ z, up2_n2 _ z]; exact h2 a (by omega)
    · right
      have hi5 : i = 10 := by omega
      subst hi5
      have hb : b_X3_hangAsRead_25 (nI 10, u) = some (.inr u) := by
        unfold b_X3_hangAsRead_25
        rw [if_pos (show (10 : Int32) ≤ nI 10 by decide)]
      exact ⟨_, hb, h1, fun a ha => h2 a ha⟩
  obtain ⟨s1, a1, a2, a3⟩ := key1
  have key2 : ∃ q, lp (b_X3_hangAsRead_63) 1000 ((0 : Int32), s1) = some q ∧ (Same [12, 13, 14] s1 q ∧ ∀ p, p < 6 → q 12 p = nI p ∧ q 13 p = s1 6 p ∧ q 14 p = s1 7 p) := by
    refine lp_ok (fun i y => y.1 = nI i ∧ Same [12, 13, 14] s1 y.2 ∧ ∀ p, p < i → y.2 12 p = nI p ∧ y.2 13 p = s1 6 p ∧ y.2 14 p = s1 7 p) 6 (by omega) _ ?_ ⟨rfl, Same.rf, fun w hw => by omega⟩
    rintro i ⟨y, u⟩ hi ⟨rfl, h1, h2⟩
    dsimp only at h1 h2
    by_cases hc : i < 6
    · left
      have e4 : u 6 = s1 6 := h1 6 (by decide)
      have e5 : u 7 = s1 7 := h1 7 (by decide)
      refine ⟨hc, (nI (i + 1), up2 (up2 (up2 u 12 i (nI i)) 13 i (s1 6 i)) 14 i (s1 7 i)), ?_, rfl, ((h1.up (by simp)).up (by simp)).up (by simp), fun a ha => ?_⟩
      · unfold b_X3_hangAsRead_63
        dsimp only
        rw [if_neg (show ¬ (6 : Int32) ≤ nI i from fun q => by rw [c6] at q; have := (k_le (by omega) (by omega)).mp q; omega), if_pos (inb_I hc (by omega)), if_pos (inb_I hc (by omega)), if_pos (inb_I hc (by omega)), if_pos (inb_I hc (by omega)), if_pos (inb_I hc (by omega)), k_cl (by omega), nI_1, e4, e5]
      · dsimp only
        by_cases z : a = i
        · subst z; exact ⟨by rw [up2_n1 _ (by omega), up2_n1 _ (by omega), up2_same], by rw [up2_n1 _ (by omega), up2_same], up2_same _ _ _ _⟩
        · rw [up2_n2 _ z, up2_n2 _ z, up2_n2 _ z, up2_n2 _ z, up2_n2 _ z, up2_n2 _ z, up2_n2 _ z, up2_n2 _ z, up2_n2 _ z]; exact h2 a (by omega)
    · right
      have hi5 : i = 6 := by omega
      subst hi5
      have hb : b_X3_hangAsRead_63 (nI 6, u) = some (.inr u) := by
        unfold b_X3_hangAsRead_63
        rw [if_pos (show (6 : Int32) ≤ nI 6 by decide)]
      exact ⟨_, hb, h1, fun a ha => h2 a ha⟩
  obtain ⟨s2, b1, b2, b3⟩ := key2
  obtain ⟨s3, d1, d2, d3, d4⟩ := p_hangAll (C := C) (D := D) (σ := s2) (fun p hp => by rw [b2 15 (by decide), a2 15 (by decide), f0 15 (by decide)]; exact hC p hp) (fun w hw => by rw [b2 16 (by decide), a2 16 (by decide), f0 16 (by decide)]; exact hD w hw)
  refine ⟨up2 s3 17 0 0, ?_, ?_, ?_, ?_, ?_, fun a ha => ?_, fun p hp => ?_, fun p hp => ?_, fun w hw => ?_, up2_same _ _ _ _⟩
  · unfold f_X3_hangAsRead
    rw [← hs0, a1, Option.bind_some, b1, Option.bind_some, d1]; rfl
  · exact ((((f0.mono (by simp)).tr (a2.mono (by simp))).tr (b2.mono (by simp))).tr (d2.mono (by simp))).up (by simp)
  · rw [up2_n1 _ (by omega), d2 9 (by decide), b2 9 (by decide), a2 9 (by decide), hs0]; rfl
  · rw [up2_n1 _ (by omega), d2 9 (by decide), b2 9 (by decide), a2 9 (by decide), hs0]; rfl
  · rw [up2_n1 _ (by omega), d2 9 (by decide), b2 9 (by decide), a2 9 (by decide), hs0]; rfl
  · rw [up2_n1 _ (by omega), up2_n1 _ (by omega), d2 10 (by decide), b2 10 (by decide), d2 11 (by decide), b2 11 (by decide), ← f0 4 (by decide), ← f0 5 (by decide)]; exact a3 a ha
  · rw [up2_n1 _ (by omega), up2_n1 _ (by omega), up2_n1 _ (by omega), d2 12 (by decide), d2 13 (by decide), d2 14 (by decide), ← f0 6 (by decide), ← f0 7 (by decide), ← a2 6 (by decide), ← a2 7 (by decide)]; exact b3 p hp
  · rw [up2_n1 _ (by omega)]; exact d3 p hp
  · rw [up2_n1 _ (by omega)]; exact d4 w hw
/-- the model: arms -/
theorem j150 {c a q x : Nat} {t : Int32} {S : gs_H} (ha : a < 10) (hq : q + 1 < 46) (hx : x ≤ 126) (hS : S 58 (q + 1) = nI x) : (x = 42 → c < 6 → j_X9_mobile_150 (nI c) (nI a) (nI q) (nI a) t S = some (.inl (nI (c + 1), nI (a + 1), up2 (up2 S 60 a t) 61 c (nI a)))) ∧ (x ≠ 42 → j_X9_mobile_150 (nI c) (nI a) (nI q) (nI a) t S = some (.inl (nI c, nI (a + 1), up2 S 60 a t))) := by
  have x42 : nI x = 42 ↔ x = 42 := nI_eq (b := 42) (by omega) (by omega)
  unfold j_X9_mobile_150
  rw [nI_1, if_pos (inb_I ha (by omega)), if_pos (inb_I hq (by omega)), k_cl (show q + 1 < 2147483648 by omega), hS]
  refine ⟨fun h h2 => ?_, fun h => ?_⟩
  · rw [if_pos (x42.mpr h), if_pos (inb_I h2 (by omega)), nI_1, nI_1, k_cl (show a < 2147483648 by omega), k_cl (show c < 2147483648 by omega)]
  · rw [if_neg (fun q => h (x42.mp q)), nI_1, k_cl (show a < 2147483648 by omega)]
theorem p_marms {pg : Nat → Nat} {r B : Nat} {v : gs_H} (hr : 1 ≤ r) (hr5 : r ≤ 5) (hB : JB pg (2 * r) B) (hJ : JL pg (2 * r)) (hc : cnt (sT pg) (2 * r) = r + 1) (hpg : ∀ i, i < 8 * r + 2 → pg i ≤ 126) (hv : ∀ i, i < 8 * r + 2 → v 58 i = nI (pg i)) (v4 : v 57 4 = nI r) : ∃ w, lp (b_X9_mobile_73) 1000 ((0 : Int32), (0 : Int32), v) = some w ∧ Same [59, 60, 61] v w ∧ (∀ b, b < 2 * r → w 59 b = nI (nP pg b) ∧ w 60 b = nI (eP pg b)) ∧ ∀ b, b < 2 * r → sT pg b = true → w 61 (cnt (sT pg) b) = nI b := by
  refine lp_ok (fun a y => y.1 = nI (cnt (sT pg) a) ∧ y.2.1 = nI a ∧ Same [59, 60, 61] v y.2.2 ∧ (∀ b, b < a → y.2.2 59 b = nI (nP pg b) ∧ y.2.2 60 b = nI (eP pg b)) ∧ ∀ b, b < a → sT pg b = true → y.2.2 61 (cnt (sT pg) b) = nI b) (2 * r) (by omega) _ ?_ ⟨rfl, rfl, Same.rf, fun w hw => by omega, fun w hw => by omega⟩
  rintro a ⟨y1, y2, s⟩ hi ⟨rfl, rfl, h1, h2, h3⟩
  dsimp only at h1 h2 h3
  have s4 : s 57 4 = nI r := by rw [h1 57 (by decide)]; exact v4
  by_cases hca : a < 2 * r
  · left
    have hqa : qA a + 1 < 5 * r := by unfold qA; omega
    have e58 : ∀ i, i < 8 * r + 2 → s 58 i = nI (pg i) := fun i hi => by rw [h1 58 (by decide)]; exact hv i hi
    have ea : (5 : Int32) * (nI a / (2 : Int32)) + (2 : Int32) * (nI a - nI a / (2 : Int32) * (2 : Int32)) = nI (qA a) := by
      rw [c5, c2, k_div (by omega) (by omega) (by omega), pk_mul, pk_mul, k_sub (Nat.div_mul_le_self _ _), pk_mul, nI_add, show a - a / 2 * 2 = a % 2 by omega]
      rfl
    have l0 : ¬ (2 : Int32) * nI r ≤ nI a := fun q => by rw [c2, pk_mul] at q; have := (k_le (by omega) (by omega)).mp q; omega
    have hl := hJ a hca
    have x42 : nI (pg (qA a + 1)) = 42 ↔ pg (qA a + 1) = 42 := nI_eq (b := 42) (by have := hpg (qA a + 1) (by omega); omega) (by omega)
    have en : nI (pg (qA a)) - 48 = nI (nP pg a) := by rw [c48, k_sub (by omega)]; rfl
    have hjx := hpg (qA a + 1) (by omega)
    have eS : ∀ z, (up2 s 59 a z) 58 (qA a + 1) = nI (pg (qA a + 1)) := fun z => by rw [up2_n1 _ (by omega)]; exact e58 _ (by omega)
    have hb : b_X9_mobile_73 (nI (cnt (sT pg) a), nI a, s) = if nI (pg (qA a + 1)) = 42 then j_X9_mobile_150 (nI (cnt (sT pg) a)) (nI a) (nI (qA a)) (nI a) (nI (10 + cnt (sT pg) a)) (up2 s 59 a (nI (nP pg a))) else j_X9_mobile_150 (nI (cnt (sT pg) a)) (nI a) (nI (qA a)) (nI a) (nI (pg (qA a + 1)) - 48) (up2 s 59 a (nI (nP pg a))) := by
      unfold b_X9_mobile_73
      dsimp only
      have i1 : inb ((5 : Int32) * (nI a / (2 : Int32)) + (2 : Int32) * (nI a - nI a / (2 : Int32) * (2 : Int32))) 46 := by rw [ea]; exact inb_I (by omega) (by omega)
      have i2 : inb (nI a) 10 := inb_I (by omega) (by omega)
      have i3 : inb ((5 : Int32) * (nI a / (2 : Int32)) + (2 : Int32) * (nI a - nI a / (2 : Int32) * (2 : Int32)) + (1 : Int32)) 46 := by rw [ea, nI_1]; exact inb_I (by omega) (by omega)
      have kc1 : (nI (qA a)).toNatClampNeg = qA a := k_cl (by omega)
      have kc2 : (nI (qA a + 1)).toNatClampNeg = qA a + 1 := k_cl (by omega)
      have kc3 : (nI a).toNatClampNeg = a := k_cl (by omega)
      have e10 : (10 : Int32) + nI (cnt (sT pg) a) = nI (10 + cnt (sT pg) a) := by rw [c10, nI_add]
      rw [if_neg (show ¬ (2 : Int32) * s 57 4 ≤ nI a by rw [s4]; exact l0), if_pos i1, if_pos i2, if_pos i3, if_pos i3]
      simp only [ea, nI_1, kc1, kc2, kc3, e58 (qA a) (by omega), e58 (qA a + 1) (by omega), en, e10]
    by_cases z : pg (qA a + 1) = 42
    · have es : sT pg a = true := decide_eq_true z
      have ec : cnt (sT pg) (a + 1) = cnt (sT pg) a + 1 := by
        show cnt (sT pg) a + (sT pg a).toNat = _
        rw [es]; rfl
      have c6' := cnt_l2 (p := sT pg) hca es
      have ee : eP pg a = 10 + cnt (sT pg) a := by unfold eP; rw [es]; rfl
      rw [if_pos (x42.mpr z), (j150 (by omega) (by omega) hjx (eS _)).1 z (by omega)] at hb
      refine ⟨hca, _, hb, by rw [ec], rfl, ((h1.up (by simp)).up (by simp)).up (by simp), fun b hb => ?_, fun b hb hs => ?_⟩
      · dsimp only
        by_cases y : b = a
        · subst y; exact ⟨by rw [up2_n1 _ (by omega), up2_n1 _ (by omega), up2_same], by rw [up2_n1 _ (by omega), up2_same, ee]⟩
        · have hh := h2 b (by omega)
          exact ⟨by rw [up2_n1 _ (by omega), up2_n1 _ (by omega), up2_n2 _ y]; exact hh.1, by rw [up2_n1 _ (by omega), up2_n2 _ y, up2_n1 _ (by omega)]; exact hh.2⟩
      · dsimp only
        by_cases y : b = a
        · subst y; exact up2_same _ _ _ _
        · have := cnt_l2 (p := sT pg) (show b < a by omega) hs
          rw [up2_n2 _ (by omega), up2_n1 _ (by omega), up2_n1 _ (by omega)]; exact h3 b (by omega) hs
    · have es : sT pg a = false := decide_eq_false z
      have ec : cnt (sT pg) (a + 1) = cnt (sT pg) a := by
        show cnt (sT pg) a + (sT pg a).toNat = _
        rw [es]; rfl
      have ee : eP pg a = pg (qA a + 1) - 48 := by unfold eP; rw [es]; rfl
      have hb3 := (hB.2.2.1 a hca).resolve_left (by rw [es]; decide)
      rw [if_neg (fun q => z (x42.mp q)), (j150 (by omega) (by omega) hjx (eS _)).2 z, c48, k_sub (by omega), ← ee] at hb
      refine ⟨hca, _, hb, by rw [ec], rfl, (h1.up (by simp)).up (by simp), fun b hb => ?_, fun b hb hs => ?_⟩
      · dsimp only
        rw [up2_n1 _ (by omega)]
        by_cases y : b = a
        · subst y; rw [up2_same, up2_same]; exact ⟨rfl, rfl⟩
        · rw [up2_n2 _ y, up2_n2 _ y, up2_n1 _ (by omega)]; exact h2 b (by omega)
      · dsimp only
        rw [up2_n1 _ (by omega), up2_n1 _ (by omega)]
        by_cases y : b = a
        · subst y; rw [es] at hs; cases hs
        · exact h3 b (by omega) hs
  · right
    have hi5 : a = 2 * r := by omega
    subst hi5
    have hb : b_X9_mobile_73 (nI (cnt (sT pg) (2 * r)), nI (2 * r), s) = some (.inr s) := by
      unfold b_X9_mobile_73
      dsimp only
      rw [if_pos (show (2 : Int32) * s 57 4 ≤ nI (2 * r) by rw [s4, c2, pk_mul]; exact (k_le (by omega) (by omega)).mpr (Nat.le_refl _))]
    exact ⟨_, hb, h1, fun b hb => h2 b hb, fun b hb => h3 b hb⟩
/-- the model: things -/
theorem p_mthings {pg : Nat → Nat} {r : Nat} {v : gs_H} (hr : 1 ≤ r) (hr5 : r ≤ 5) (hz : ∀ i, i < r + 1 → 48 ≤ pg (5 * r + 3 * i + 1)) (hpg : ∀ i, i < 8 * r + 2 → pg i ≤ 126) (hv : ∀ i, i < 8 * r + 2 → v 58 i = nI (pg i)) (v2 : v 57 2 = nI (5 * r - 1)) (v5 : v 57 5 = nI (r + 1)) : ∃ w, lp (b_X9_mobile_183) 1000 ((0 : Int32), v) = some w ∧ Same [62, 63, 64] v w ∧ ∀ p, p < r + 1 → w 62 p = kIx (nI (pg (5 * r + 3 * p))) ∧ w 63 p = nI (pg (5 * r + 3 * p + 1) - 48) ∧ w 64 p = nI p := by
  refine lp_ok (fun i y => y.1 = nI i ∧ Same [62, 63, 64] v y.2 ∧ ∀ p, p < i → y.2 62 p = kIx (nI (pg (5 * r + 3 * p))) ∧ y.2 63 p = nI (pg (5 * r + 3 * p + 1) - 48) ∧ y.2 64 p = nI p) (r + 1) (by omega) _ ?_ ⟨rfl, Same.rf, fun w hw => by omega⟩
  rintro i ⟨y, s⟩ hi ⟨rfl, h1, h2⟩
  dsimp only at h1 h2
  have s2 : s 57 2 = nI (5 * r - 1) := by rw [h1 57 (by decide)]; exact v2
  have s5 : s 57 5 = nI (r + 1) := by rw [h1 57 (by decide)]; exact v5
  by_cases hc : i < r + 1
  · left
    have e58 : ∀ i, i < 8 * r + 2 → s 58 i = nI (pg i) := fun i hi => by rw [h1 58 (by decide)]; exact hv i hi
    have ea : nI (5 * r - 1) + 1 + (3 : Int32) * nI i = nI (5 * r + 3 * i) := by rw [nI_1, c3, pk_mul, nI_add, show 5 * r - 1 + 1 + 3 * i = 5 * r + 3 * i by omega]
    have eb : nI (5 * r - 1) + (2 : Int32) + (3 : Int32) * nI i = nI (5 * r + 3 * i + 1) := by rw [c2, nI_add, c3, pk_mul, nI_add, show 5 * r - 1 + 2 + 3 * i = 5 * r + 3 * i + 1 by omega]
    have hx := hpg (5 * r + 3 * i) (by omega)
    have ek := (kI_eq ⟨pg (5 * r + 3 * i), by omega⟩).1
    dsimp only at ek
    have hz' := hz i hc
    refine ⟨hc, (nI (i + 1), up2 (up2 (up2 s 62 i (kIx (nI (pg (5 * r + 3 * i))))) 63 i (nI (pg (5 * r + 3 * i + 1) - 48))) 64 i (nI i)), ?_, rfl, ((h1.up (by simp)).up (by simp)).up (by simp), fun p hp => ?_⟩
    · unfold b_X9_mobile_183
      dsimp only
      have i1 : inb (s 57 2 + (1 : Int32) + (3 : Int32) * nI i) 46 := by rw [s2, ea]; exact inb_I (by omega) (by omega)
      have i2 : inb (nI i) 6 := inb_I (by omega) (by omega)
      have i3 : inb (s 57 2 + (2 : Int32) + (3 : Int32) * nI i) 46 := by rw [s2, eb]; exact inb_I (by omega) (by omega)
      rw [if_neg (show ¬ s 57 5 ≤ nI i by rw [s5]; exact fun q => by have := (k_le (by omega) (by omega)).mp q; omega), if_pos i1, if_pos i2, if_pos i3, if_pos i2, if_pos i2, s2, ea, eb, k_cl (show 5 * r + 3 * i + 1 < 2147483648 by omega), k_cl (show 5 * r + 3 * i < 2147483648 by omega), k_cl (show i < 2147483648 by omega), e58 _ (by omega), e58 _ (by omega), ek, c48, k_sub hz', nI_1]
    · dsimp only
      by_cases z : p = i
      · subst z; exact ⟨by rw [up2_n1 _ (by omega), up2_n1 _ (by omega), up2_same], by rw [up2_n1 _ (by omega), up2_same], up2_same _ _ _ _⟩
      · rw [up2_n2 _ z, up2_n2 _ z, up2_n2 _ z, up2_n2 _ z, up2_n2 _ z, up2_n2 _ z, up2_n2 _ z, up2_n2 _ z, up2_n2 _ z]; exact h2 p (by omega)
  · right
    have hi5 : i = r + 1 := by omega
    subst hi5
    have hb : b_X9_mobile_183 (nI (r + 1), s) = some (.inr s) := by
      unfold b_X9_mobile_183
      dsimp only
      rw [if_pos (show s 57 5 ≤ nI (r + 1) by rw [s5]; exact (k_le (by omega) (by omega)).mpr (Nat.le_refl _))]
    exact ⟨_, hb, h1, fun b hb => h2 b hb⟩
/-- is it whole? -/
theorem J_whole {pg : Nat → Nat} {L : Nat} {s u : gs_H} (hJ : J pg L s u) (hL : L ≤ 46) : (f_X5_isWhole s = 0 ∧ (u 57 2 = 0 ∨ (¬ u 57 2 = 0 ∧ ¬ nI L - u 57 2 = (3 : Int32) * ((u 57 2 + (1 : Int32)) / (5 : Int32) + (1 : Int32))))) ∨ (∃ r B, L = 5 * r + (3 * r + 2) ∧ JT pg r (3 * r + 2) B s u ∧ f_X5_isWhole s = 1 ∧ (u 57 2 + (1 : Int32)) / (5 : Int32) = nI r ∧ ¬ u 57 2 = 0 ∧ nI L - u 57 2 = (3 : Int32) * ((u 57 2 + (1 : Int32)) / (5 : Int32) + (1 : Int32))) := by
  rcases hJ with ⟨r, m, B, rfl, hm, h⟩ | ⟨r, j, B, rfl, h⟩
  · left
    obtain ⟨j1, j2, j3, j4, j5, j6, j7, j8, j9, j10⟩ := h
    refine ⟨?_, Or.inl j6⟩
    unfold f_X5_isWhole
    rw [if_neg]
    rw [j4]
    intro q
    have := (nI_eq (b := 5) (by split <;> omega) (by omega)).mp q
    split at this <;> omega
  · have h0 := h
    obtain ⟨j1, j2, j3, j4, j5, j6, j7, j8, j9, j10, j11, j12, j13, j14⟩ := h
    have n0 : ¬ u 57 2 = 0 := fun q => by
      rw [j12] at q
      have := (nI_eq (b := 0) (by omega) (by omega)).mp q
      omega
    have e1 : (u 57 2 + (1 : Int32)) / (5 : Int32) = nI r := by rw [j12, nI_1, c5, k_div (by omega) (by omega) (by omega), show (5 * r - 1 + 1) / 5 = r by omega]
    have e2 : nI (5 * r + j) - u 57 2 = nI (j + 1) := by rw [j12, k_sub (by omega), show 5 * r + j - (5 * r - 1) = j + 1 by omega]
    have e3 : nI (5 * r + j) - u 57 2 = (3 : Int32) * ((u 57 2 + (1 : Int32)) / (5 : Int32) + (1 : Int32)) ↔ j = 3 * r + 2 := by
      rw [e2, e1, nI_1, c3, pk_mul, nI_eq (by omega) (by omega)]
      omega
    by_cases z : j = 3 * r + 2
    · right
      subst z
      refine ⟨r, B, rfl, h0, ?_, e1, n0, e3.mpr rfl⟩
      unfold f_X5_isWhole
      rw [j10, j11, j3.2.1, j8, show 3 + (3 * r + 2) % 3 = 5 by omega, show (3 * r + 2 + 1) / 3 = r + 1 by omega, if_pos (show nI 5 = 5 from rfl), if_pos rfl]
    · left
      refine ⟨?_, Or.inr ⟨n0, fun q => z (e3.mp q)⟩⟩
      unfold f_X5_isWhole
      rw [j10, j11, j3.2.1, j8]
      by_cases y : j % 3 = 2
      · rw [y, if_pos (show nI (3 + 2) = 5 from rfl), if_neg]
        intro q
        have := (nI_eq (by omega) (by omega)).mp q
        omega
      · rw [if_neg]
        intro q
        have := (nI_eq (b := 5) (by omega) (by omega)).mp q
        omega
