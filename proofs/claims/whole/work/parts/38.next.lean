/-! PURE: the class's next order -/
theorem pv_lt (π : Nat → Nat) : ∀ k j, pvF π k = some j → j < k
  | 0, j, h => by cases h
  | k + 1, j, h => by
    rw [pvF] at h
    by_cases z : π k ≤ π (k + 1)
    · rw [if_pos z] at h; cases h; omega
    · rw [if_neg z] at h; have := pv_lt π k j h; omega
theorem sc_le (π : Nat → Nat) (j : Nat) : ∀ k, scF π j k ≤ k
  | 0 => Nat.le_refl _
  | k + 1 => by
    rw [scF]
    by_cases z : k + 1 ≤ j
    · rw [if_pos z]; exact Nat.le_refl _
    · rw [if_neg z]
      by_cases z2 : π j ≤ π (k + 1)
      · rw [if_pos z2]; exact Nat.le_refl _
      · rw [if_neg z2]; have := sc_le π j k; omega
theorem p_pv {s : gs_H} {n : Nat} {π : Nat → Nat} (hn : n ≤ 6) (hπ : ∀ i, i < n → s 49 i = nI (π i) ∧ π i < 1000) : ∀ (k f : Nat), k < n → k < f → lp (b_X2_nextOrder_7 s) f (nI k - 1) = some (match pvF π k with | some j => nI j | none => -1)
  | 0, f, h1, h2 => by
    obtain ⟨m, rfl⟩ : ∃ m, f = m + 1 := ⟨f - 1, by omega⟩
    rw [lp]
    unfold b_X2_nextOrder_7
    rw [if_pos (show nI 0 - 1 < 0 by decide)]
    rfl
  | k + 1, f, h1, h2 => by
    obtain ⟨m, rfl⟩ : ∃ m, f = m + 1 := ⟨f - 1, by omega⟩
    have e1 := hπ k (by omega)
    have e2 := hπ (k + 1) h1
    have e0 : nI (k + 1) - 1 = nI k := by rw [c1, k_sub (by omega)]; rfl
    have hb : b_X2_nextOrder_7 s (nI k) = if π k ≤ π (k + 1) then some (.inr (nI k)) else some (.inl (nI k - 1)) := by
      unfold b_X2_nextOrder_7
      rw [if_neg (nI_pos (show k < 2147483648 by omega)), if_pos (inb_I (show k < 6 by omega) (by omega)), nI_1, if_pos (inb_I (show k + 1 < 6 by omega) (by omega)), k_cl (by omega), k_cl (by omega), e1.1, e2.1]
      by_cases z : π k ≤ π (k + 1)
      · rw [if_pos z, if_pos ((k_le (by omega) (by omega)).mpr z)]
      · rw [if_neg z, if_neg (fun q => z ((k_le (by omega) (by omega)).mp q)), am1]
    rw [e0, lp, hb, pvF]
    by_cases z : π k ≤ π (k + 1)
    · rw [if_pos z, if_pos z]; rfl
    · rw [if_neg z, if_neg z]
      exact p_pv hn hπ k m (by omega) (by omega)
theorem p_sc {s : gs_H} {n j : Nat} {π : Nat → Nat} (hn : n ≤ 6) (hj : j < n) (hπ : ∀ i, i < n → s 49 i = nI (π i) ∧ π i < 1000) : ∀ (k f : Nat), k < n → k < f → lp (b_X2_nextOrder_46 (nI j) s) f (nI k) = some (nI (scF π j k))
  | 0, f, h1, h2 => by
    obtain ⟨m, rfl⟩ : ∃ m, f = m + 1 := ⟨f - 1, by omega⟩
    rw [lp]
    unfold b_X2_nextOrder_46
    rw [if_pos ((k_le (by omega) (by omega)).mpr (by omega))]
    rfl
  | k + 1, f, h1, h2 => by
    obtain ⟨m, rfl⟩ : ∃ m, f = m + 1 := ⟨f - 1, by omega⟩
    have e1 := hπ j hj
    have e2 := hπ (k + 1) h1
    have hb : b_X2_nextOrder_46 (nI j) s (nI (k + 1)) = if k + 1 ≤ j then some (.inr (nI (k + 1))) else if π j ≤ π (k + 1) then some (.inr (nI (k + 1))) else some (.inl (nI k)) := by
      unfold b_X2_nextOrder_46
      by_cases z0 : k + 1 ≤ j
      · rw [if_pos z0, if_pos ((k_le (by omega) (by omega)).mpr z0)]
      · rw [if_neg z0, if_neg (fun q => z0 ((k_le (by omega) (by omega)).mp q)), if_pos (inb_I (show k + 1 < 6 by omega) (by omega)), if_pos (inb_I (show j < 6 by omega) (by omega)), k_cl (by omega), k_cl (by omega), e1.1, e2.1]
        by_cases z : π j ≤ π (k + 1)
        · rw [if_pos z, if_pos ((k_le (by omega) (by omega)).mpr z)]
        · rw [if_neg z, if_neg (fun q => z ((k_le (by omega) (by omega)).mp q)), k_m1 (by omega)]
          rfl
    rw [lp, hb, scF]
    by_cases z0 : k + 1 ≤ j
    · rw [if_pos z0, if_pos z0]; rfl
    · rw [if_neg z0, if_neg z0]
      by_cases z : π j ≤ π (k + 1)
      · rw [if_pos z, if_pos z]; rfl
      · rw [if_neg z, if_neg z]
        exact p_sc hn hj hπ k m (by omega) (by omega)
theorem p_swapAt {s : gs_H} {n a b : Nat} {π : Nat → Nat} (hn : n ≤ 6) (ha : a < n) (hb : b < n) (hπ : ∀ i, i < n → s 49 i = nI (π i)) : ∃ u, f_X2_swapAt (nI a) (nI b) s = some u ∧ Same [49] s u ∧ ∀ i, i < n → u 49 i = nI (swF π a b i) := by
  refine ⟨up2 (up2 s 49 a (s 49 b)) 49 b (s 49 a), ?_, Same.up (Same.up Same.rf (by simp)) (by simp), fun i hi => ?_⟩
  · unfold f_X2_swapAt
    rw [if_pos (inb_I (show a < 6 by omega) (by omega)), if_pos (inb_I (show b < 6 by omega) (by omega)), if_pos (inb_I (show a < 6 by omega) (by omega)), if_pos (inb_I (show b < 6 by omega) (by omega)), k_cl (by omega), k_cl (by omega)]
  · unfold swF
    by_cases z1 : i = b
    · subst z1
      rw [up2_same, if_pos rfl]; exact hπ a ha
    · rw [up2_n2 _ z1, if_neg z1]
      by_cases z2 : i = a
      · subst z2
        rw [up2_same, if_pos rfl]; exact hπ b hb
      · rw [up2_n2 _ z2, if_neg z2]; exact hπ i hi
theorem p_rv {n : Nat} (hn : n ≤ 6) : ∀ (F lo hi : Nat) (π : Nat → Nat) (s : gs_H) (f : Nat), hi < n → hi ≤ lo + 2 * F → lo < 100 → F < f → (∀ i, i < n → s 49 i = nI (π i)) → ∃ u, lp b_X2_nextOrder_90 f (nI hi, nI lo, s) = some u ∧ Same [49] s u ∧ ∀ i, i < n → u 49 i = nI (rvF F π lo hi i)
  | F, lo, hi, π, s, f, h1, h2, h3, h4, h5 => by
    obtain ⟨m, rfl⟩ : ∃ m, f = m + 1 := ⟨f - 1, by omega⟩
    by_cases z : hi ≤ lo
    · refine ⟨s, ?_, Same.rf, fun i hi2 => ?_⟩
      · rw [lp]
        unfold b_X2_nextOrder_90
        rw [if_pos ((k_le (by omega) (by omega)).mpr z)]
        rfl
      · cases F with
        | zero => exact h5 i hi2
        | succ F => rw [rvF, if_pos z]; exact h5 i hi2
    · cases F with
      | zero => omega
      | succ F =>
        obtain ⟨u1, a1, a2, a3⟩ := p_swapAt hn (a := lo) (b := hi) (by omega) h1 h5
        obtain ⟨u2, b1, b2, b3⟩ := p_rv hn F (lo + 1) (hi - 1) (swF π lo hi) u1 m (by omega) (by omega) (by omega) (by omega) a3
        refine ⟨u2, ?_, a2.tr b2, fun i hi2 => ?_⟩
        · rw [lp]
          unfold b_X2_nextOrder_90
          rw [if_neg (fun q => z ((k_le (by omega) (by omega)).mp q)), a1, Option.bind_some, k_m1 (by omega), nI_1]
          exact b1
        · rw [rvF, if_neg z]; exact b3 i hi2
theorem p_next {s : gs_H} {n : Nat} {π : Nat → Nat} (hn : n ≤ 6) (h9 : s 40 9 = nI n) (hπ : ∀ i, i < n → s 49 i = nI (π i) ∧ π i < 1000) : ∃ u, f_X2_nextOrder s = some u ∧ Same [49] s u ∧ ∀ i, i < n → u 49 i = nI (nxF n π i) := by
  unfold f_X2_nextOrder
  rcases Nat.eq_zero_or_pos n with z | z
  · subst z
    refine ⟨s, ?_, Same.rf, fun i hi => by omega⟩
    rw [h9]
    refine (bind_s (a := nI 0 - 2) (by rw [lp]; rfl)).trans ?_
    rw [if_neg (by decide)]
  · have e0 : nI n - 2 = nI (n - 1) - 1 := by
      have key : ∀ m : Fin 7, nI (m.val + 1) - 2 = nI m.val - 1 := by decide
      have := key ⟨n - 1, by omega⟩
      dsimp only at this
      rw [← this, show n - 1 + 1 = n by omega]
    rw [h9, e0, p_pv hn hπ (n - 1) 1000 (by omega) (by omega), Option.bind_some]
    cases hp : pvF π (n - 1) with
    | none =>
      refine ⟨s, ?_, Same.rf, fun i hi => ?_⟩
      · show (if (0 : Int32) ≤ -1 then _ else _) = _
        rw [if_neg (by decide)]
      · unfold nxF; rw [hp]; exact (hπ i hi).1
    | some j =>
      have hj := pv_lt π _ _ hp
      have hs := sc_le π j (n - 1)
      have e1 : nI n - 1 = nI (n - 1) := by rw [c1, k_sub (by omega)]
      obtain ⟨u1, a1, a2, a3⟩ := p_swapAt hn (a := j) (b := scF π j (n - 1)) (s := s) (π := π) (by omega) (by omega) (fun i hi => (hπ i hi).1)
      obtain ⟨u2, b1, b2, b3⟩ := p_rv hn 6 (j + 1) (n - 1) (swF π j (scF π j (n - 1))) u1 1000 (by omega) (by omega) (by omega) (by omega) a3
      refine ⟨u2, ?_, a2.tr b2, fun i hi => ?_⟩
      · show (if (0 : Int32) ≤ nI j then _ else _) = _
        rw [if_pos (nI_pos' (by omega)), e1, p_sc hn (by omega) hπ (n - 1) 1000 (by omega) (by omega), Option.bind_some, a1, Option.bind_some, a2 40 (by simp), h9, e1, nI_1, b1]
        rfl
      · unfold nxF; rw [hp]; exact b3 i hi
