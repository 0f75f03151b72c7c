/-! PURE: orders, what the tables say -/
theorem tab {t U : Nat} (ht : t ≤ 6) (hU : U < 2 ^ t) : okT t U = true := by
  rcases Nat.lt_or_ge t 6 with h | h
  · exact List.all_eq_true.mp (List.all_eq_true.mp tab5 t (List.mem_range.mpr h)) U (List.mem_range.mpr hU)
  · have : t = 6 := by omega
    subst this
    exact List.all_eq_true.mp tab6 U (List.mem_range.mpr hU)
theorem tab_0 {t U c : Nat} (ht : t ≤ 6) (hU : U < 2 ^ t) (hc : c < t - cnt U.testBit t) : cnt (fun j => !U.testBit j) (kF (t - cnt U.testBit t) U 0 c) = c := by
  have h := tab ht hU
  unfold okT at h
  rw [Bool.and_eq_true] at h
  exact of_decide_eq_true (List.all_eq_true.mp h.1 c (List.mem_range.mpr hc))
theorem tab_k {t U k : Nat} (ht : t ≤ 6) (hU : U < 2 ^ t) (hk : k < fa (t - cnt U.testBit t)) : (∀ c, c < t - cnt U.testBit t → kF (t - cnt U.testBit t) U k c < t ∧ U.testBit (kF (t - cnt U.testBit t) U k c) = false ∧ ∀ d, d < c → kF (t - cnt U.testBit t) U k d ≠ kF (t - cnt U.testBit t) U k c) ∧ (k + 1 < fa (t - cnt U.testBit t) → ∀ c, c < t - cnt U.testBit t → nxF (t - cnt U.testBit t) (kF (t - cnt U.testBit t) U k) c = kF (t - cnt U.testBit t) U (k + 1) c) := by
  have h := tab ht hU
  unfold okT at h
  rw [Bool.and_eq_true] at h
  have h2 := List.all_eq_true.mp h.2 k (List.mem_range.mpr hk)
  rw [Bool.and_eq_true] at h2
  refine ⟨fun c hc => ?_, fun hk1 c hc => ?_⟩
  · have h3 := List.all_eq_true.mp h2.1 c (List.mem_range.mpr hc)
    rw [Bool.and_eq_true, Bool.and_eq_true] at h3
    refine ⟨of_decide_eq_true h3.1.1, by have := h3.1.2; rwa [Bool.not_eq_true'] at this, fun d hd => ?_⟩
    exact of_decide_eq_true (List.all_eq_true.mp h3.2 d (List.mem_range.mpr hd))
  · have h3 := h2.2
    rw [Bool.or_eq_true] at h3
    rcases h3 with h3 | h3
    · have := of_decide_eq_true h3
      omega
    · exact of_decide_eq_true (List.all_eq_true.mp h3 c (List.mem_range.mpr hc))
theorem sl_lp : ∀ U : Fin 64, ∀ q : Fin 6, lp (b_X9_layOrder_66 (nI U.val) gs_0) 1000 (nI q.val, (0 : Int32)) = some (nI (sl U.val 12 q.val 0)) := by decide +kernel
theorem fa_lp : ∀ n : Fin 7, f_X9_factorial (nI n.val) = some (nI (fa n.val)) := by decide +kernel
theorem fa_pos : ∀ n, 0 < fa n
  | 0 => by show 0 < 1; omega
  | n + 1 => Nat.mul_pos (by omega) (fa_pos n)
theorem fa_le {n : Nat} (h : n ≤ 6) : fa n ≤ 720 := by
  have key : ∀ n : Fin 7, fa n.val ≤ 720 := by decide
  exact key ⟨n, by omega⟩
theorem cnt_not (f : Nat → Bool) : ∀ n, cnt (fun j => !f j) n + cnt f n = n
  | 0 => rfl
  | n + 1 => by
    have := cnt_not f n
    show cnt (fun j => !f j) n + (!f n).toNat + (cnt f n + (f n).toNat) = n + 1
    cases f n <;> simp only [Bool.not_false, Bool.not_true, Bool.toNat_true, Bool.toNat_false] <;> omega
theorem cnt_mono (f : Nat → Bool) : ∀ {a b : Nat}, a ≤ b → cnt f a ≤ cnt f b := by
  intro a b h
  induction b with
  | zero => have : a = 0 := by omega
            subst this; exact Nat.le_refl _
  | succ b ih =>
    rcases Nat.lt_or_ge a (b + 1) with z | z
    · have := ih (by omega)
      show cnt f a ≤ cnt f b + (f b).toNat
      omega
    · have : a = b + 1 := by omega
      subst this; exact Nat.le_refl _
theorem cnt_lt (f : Nat → Bool) {a b : Nat} (h : a < b) (hf : f a = true) : cnt f a < cnt f b := by
  have h1 := cnt_mono f (show a + 1 ≤ b from h)
  have h2 : cnt f (a + 1) = cnt f a + (f a).toNat := rfl
  rw [hf] at h2
  have : (true : Bool).toNat = 1 := rfl
  omega
theorem cnt_upd {p q : Nat → Bool} {i : Nat} : ∀ n, (∀ j, j < n → j ≠ i → p j = q j) → i < n → cnt p n + (q i).toNat = cnt q n + (p i).toNat
  | 0, _, hi => by omega
  | n + 1, h, hi => by
    show cnt p n + (p n).toNat + (q i).toNat = cnt q n + (q n).toNat + (p i).toNat
    by_cases z : i = n
    · subst z
      rw [cnt_cong (p := p) (q := q) (fun k hk => h k (by omega) (by omega))]
      omega
    · have := cnt_upd n (fun j hj => h j (by omega)) (by omega)
      rw [h n (by omega) (fun e => z e.symm)]
      omega
theorem cnt_perm (f : Nat → Bool) : ∀ (n : Nat) (la : Nat → Nat), WP n la → cnt (fun p => f (la p)) n = cnt f n
  | 0, _, _ => rfl
  | n + 1, la, h => by
    obtain ⟨h1, h2⟩ := h
    have hm := h1 n (by omega)
    have hn : ∀ i, i < n → la i ≠ la n := fun i hi q => by have := h2 i n (by omega) (by omega) q; omega
    have hg : WP n (fun i => if la i = n then la n else la i) := by
      refine ⟨fun i hi => ?_, fun i j hi hj => ?_⟩
      · have a1 := h1 i (by omega)
        have a2 := hn i hi
        by_cases z : la i = n
        · simp only [z, ↓reduceIte]; omega
        · simp only [z, ↓reduceIte]; omega
      · have a1 := hn i hi
        have a2 := hn j hj
        have a3 := h2 i j (by omega) (by omega)
        by_cases z : la i = n <;> by_cases z2 : la j = n <;> simp only [z, z2, ↓reduceIte]
        · intro _; exact a3 (by omega)
        · intro q; omega
        · intro q; omega
        · exact a3
    have ih := cnt_perm f n _ hg
    show cnt (fun p => f (la p)) n + (f (la n)).toNat = cnt f n + (f n).toNat
    rw [← ih]
    by_cases z : la n = n
    · rw [z]
      rw [cnt_cong (p := fun p => f (la p)) (q := fun p => f (if la p = n then n else la p))]
      intro k hk
      have := hn k hk
      by_cases z2 : la k = n
      · omega
      · simp only [z2, ↓reduceIte]
    · obtain ⟨i, hi, hin⟩ := onto (n + 1) la h1 h2 n (by omega)
      have hi2 : i < n := by
        rcases Nat.lt_or_ge i n with q | q
        · exact q
        · have : i = n := by omega
          subst this; exact absurd hin z
      have key := cnt_upd (p := fun p => f (la p)) (q := fun p => f (if la p = n then la n else la p)) (i := i) n (fun j hj1 hj => by
        by_cases z2 : la j = n
        · exact absurd (h2 j i (by omega) (by omega) (by omega)) hj
        · simp only [z2, ↓reduceIte]) hi2
      simp only [hin, ↓reduceIte] at key
      omega
