/-! PURE: what is told of rods -/
/-- the first of k numbers from n on -/
def fst (p : Nat → Bool) : Nat → Nat → Option Nat
  | _, 0 => none
  | n, k + 1 => if p n then some n else fst p (n + 1) k
theorem fst_cong {p q : Nat → Bool} : ∀ (k n : Nat), (∀ j, n ≤ j → j < n + k → p j = q j) → fst p n k = fst q n k
  | 0, n, _ => rfl
  | k + 1, n, h => by
    rw [fst, fst, h n (Nat.le_refl _) (by omega), fst_cong k (n + 1) (fun j h1 h2 => h j (by omega) (by omega))]
theorem fst_one {p : Nat → Bool} {a : Nat} : ∀ (k n : Nat), n ≤ a → a < n + k → p a = true → (∀ j, n ≤ j → j < n + k → p j = true → j = a) → fst p n k = some a
  | 0, n, h1, h2, _, _ => by omega
  | k + 1, n, h1, h2, h3, h4 => by
    rw [fst]
    by_cases hp : p n = true
    · rw [if_pos hp, h4 n (Nat.le_refl _) (by omega) hp]
    · rw [if_neg hp]
      have : n ≠ a := fun q => hp (by rw [q]; exact h3)
      exact fst_one k (n + 1) (by omega) (by omega) h3 (fun j g1 g2 g3 => h4 j (by omega) (by omega) g3)
theorem lp_find' {ε : Type} {b : Int32 → Option (Int32 ⊕ ε)} (p : Nat → Bool) (N : Nat) (found : Nat → ε) (no : ε) (n0 : Nat) (hb : ∀ n, n0 ≤ n → n < N → b (nI n) = if p n then some (.inr (found n)) else some (.inl (nI (n + 1)))) (he : b (nI N) = some (.inr no)) : ∀ (k n f : Nat), n + k = N → n0 ≤ n → k < f → lp b f (nI n) = some (match fst p n k with | some j => found j | none => no)
  | 0, n, f, h1, h2, h3 => by
    obtain ⟨m, rfl⟩ : ∃ m, f = m + 1 := ⟨f - 1, by omega⟩
    rw [lp, show n = N by omega, he]
    rfl
  | k + 1, n, f, h1, h2, h3 => by
    obtain ⟨m, rfl⟩ : ∃ m, f = m + 1 := ⟨f - 1, by omega⟩
    rw [lp, hb n h2 (by omega), fst]
    by_cases hp : p n = true
    · rw [if_pos hp, if_pos hp]; rfl
    · rw [if_neg hp, if_neg hp]
      exact lp_find' p N found no n0 hb he k (n + 1) m (by omega) (by omega) (by omega)
theorem lp_find {ε : Type} {b : Int32 → Option (Int32 ⊕ ε)} (p : Nat → Bool) (n0 N : Nat) (found : Nat → ε) (no : ε) (hN : N < 900) (h0 : n0 ≤ N) (hb : ∀ n, n0 ≤ n → n < N → b (nI n) = if p n then some (.inr (found n)) else some (.inl (nI (n + 1)))) (he : b (nI N) = some (.inr no)) : lp b 1000 (nI n0) = some (match fst p n0 (N - n0) with | some j => found j | none => no) :=
  lp_find' p N found no n0 hb he (N - n0) n0 1000 (by omega) (Nat.le_refl _) (by omega)
/-- where to hook a rod -/
def hkS (b : Nat) (l r : Int32) : Int32 := match fst (fun n => decide (l * nI n = r * (nI b - nI n))) 1 (b - 1) with
  | some j => nI j
  | none => -1
/-- the bead to add -/
def adS (t : Int32) (n0 n1 : Nat) : Int32 := if t = 0 then 0 else match fst (fun n => decide (t + nI n * nI n1 = 0) || decide (t - nI n * nI n0 = 0)) 1 30 with
  | some j => if t + nI j * nI n1 = 0 then nI j else -nI j
  | none => 99
def hgS (M : MD) (a : Nat) : Int32 := if 10 ≤ mE M a then nI (10 + mL M (mE M a - 10)) else nI (mE M a)
def rodA (M : MD) (w : Nat) : Nat → Int32
  | 0 => nI (mN M (2 * w))
  | 1 => nI (mN M (2 * w + 1))
  | 2 => hgS M (2 * w)
  | 3 => hgS M (2 * w + 1)
  | 4 => LD M (mL M) (mH M) (2 * w) + 10000
  | 5 => LD M (mL M) (mH M) (2 * w + 1) + 10000
  | 6 => TI M (mL M) (mH M) w + 10000
  | 7 => if TI M (mL M) (mH M) w = 0 then 1 else 0
  | 8 => bI (TH M w)
  | 9 => hkS (mN M (2 * w) + mN M (2 * w + 1)) (LD M (mL M) (mH M) (2 * w)) (LD M (mL M) (mH M) (2 * w + 1))
  | _ => adS (TI M (mL M) (mH M) w) (mN M (2 * w)) (mN M (2 * w + 1))
theorem p_hookFor {M : MD} {s : gs_H} {w : Nat} (hW : WF M) (hR : RC 9 M s) (hw : w < mR M) (hL : ∀ a, a < 2 * mR M → s 36 a = LD M (mL M) (mH M) a) : f_X6_hookFor (nI w) s = some (rodA M w 9) := by
  have h5 := hW.1.r5
  have hn := hW.2.2.2.2.2.1 w hw
  have e1 : s 10 (2 * w) = nI (mN M (2 * w)) := (hR.2.2.2.1 (2 * w) (by omega)).1
  have e2 : s 10 (2 * w + 1) = nI (mN M (2 * w + 1)) := (hR.2.2.2.1 (2 * w + 1) (by omega)).1
  have l1 := hL (2 * w) (by omega)
  have l2 := hL (2 * w + 1) (by omega)
  have q1 : 2 * w < 10 := by omega
  have q2 : 2 * w + 1 < 10 := by omega
  unfold f_X6_hookFor
  simp (disch := omega) only [c0, c1, c2, c3, c4, c5, c6, c7, c8, c9, c10, c11, c12, c15, c20, c24, c30, c31, c45, c46, c48, c49, c57, c60, c97, c98, c99, c100, c101, c102, c108, c111, c126, c720, c999, c10000, nI_add, pk_mul, k_cl, k_lt, k_le, k_eq, k_sub, k_div, k_m1, e1, e2, inb_N, q1, q2, ↓reduceIte]
  have key := lp_find (b := b_X6_hookFor_23 (nI w) (nI (mN M (2 * w) + mN M (2 * w + 1))) s) (fun n => decide (LD M (mL M) (mH M) (2 * w) * nI n = LD M (mL M) (mH M) (2 * w + 1) * (nI (mN M (2 * w) + mN M (2 * w + 1)) - nI n))) 1 (mN M (2 * w) + mN M (2 * w + 1)) (fun n => .inl (nI n)) (.inr ()) (by omega) (by omega) (fun n h1 h2 => by
    unfold b_X6_hookFor_23
    have q3 : ¬ mN M (2 * w) + mN M (2 * w + 1) ≤ n := by omega
    have cA : (nI (mN M (2 * w) + mN M (2 * w + 1)) ≤ nI n) ↔ False := by rw [k_le (by omega) (by omega)]; simp; omega
    simp only [c2, c1, pk_mul, nI_add, k_cl (show 2 * w < 2147483648 by omega), k_cl (show 2 * w + 1 < 2147483648 by omega), l1, l2, if_pos (inb_I q1 (by omega)), if_pos (inb_I q2 (by omega)), cA, if_false, decide_eq_true_eq]) (by
    unfold b_X6_hookFor_23
    rw [if_pos (Int32.le_refl _)])
  refine (bind_s key).trans ?_
  show _ = some (hkS _ _ _)
  unfold hkS
  cases fst (fun n => decide (LD M (mL M) (mH M) (2 * w) * nI n = LD M (mL M) (mH M) (2 * w + 1) * (nI (mN M (2 * w) + mN M (2 * w + 1)) - nI n))) 1 (mN M (2 * w) + mN M (2 * w + 1) - 1) <;> rfl
theorem p_hookOf {M : MD} {s : gs_H} {w : Nat} (hW : WF M) (hB : RB M (mL M) (mH M) s) (hw : w < mR M) (hL : ∀ w, w < mR M → s 66 w = LD M (mL M) (mH M) (2 * w) + LD M (mL M) (mH M) (2 * w + 1)) : f_X9_hookOf (nI w) s = some (rodA M w 9) := by
  have h5 := hW.1.r5
  have hh := hW.2.2.1
  have hn := hW.2.2.2.2.2.1 w hw
  have e1 : s 59 (2 * w) = nI (mN M (2 * w)) := (hB.1.2.2.2.1 (2 * w) (by omega)).1
  have e2 : s 59 (2 * w + 1) = nI (mN M (2 * w + 1)) := (hB.1.2.2.2.1 (2 * w + 1) (by omega)).1
  have l1 := p_hungThen hW hW.2.1 hB (by omega) (a := 2 * w) (by omega) (fun v g1 g2 => hL v g2)
  have l2 := p_hungThen hW hW.2.1 hB (by omega) (a := 2 * w + 1) (by omega) (fun v g1 g2 => hL v g2)
  have q1 : 2 * w < 10 := by omega
  have q2 : 2 * w + 1 < 10 := by omega
  unfold f_X9_hookOf
  simp (disch := omega) only [c0, c1, c2, c3, c4, c5, c6, c7, c8, c9, c10, c11, c12, c15, c20, c24, c30, c31, c45, c46, c48, c49, c57, c60, c97, c98, c99, c100, c101, c102, c108, c111, c126, c720, c999, c10000, nI_add, pk_mul, k_cl, k_lt, k_le, k_eq, k_sub, k_div, k_m1, e1, e2, l1, l2, Option.bind_some, inb_N, q1, q2, ↓reduceIte]
  have key := lp_find (b := b_X9_hookOf_42 (nI (mN M (2 * w) + mN M (2 * w + 1))) (LD M (mL M) (mH M) (2 * w)) (LD M (mL M) (mH M) (2 * w + 1)) s) (fun n => decide (LD M (mL M) (mH M) (2 * w) * nI n = LD M (mL M) (mH M) (2 * w + 1) * (nI (mN M (2 * w) + mN M (2 * w + 1)) - nI n))) 1 (mN M (2 * w) + mN M (2 * w + 1)) (fun n => .inl (nI n)) (.inr ()) (by omega) (by omega) (fun n h1 h2 => by
    unfold b_X9_hookOf_42
    have cA : (nI (mN M (2 * w) + mN M (2 * w + 1)) ≤ nI n) ↔ False := by rw [k_le (by omega) (by omega)]; simp; omega
    simp only [c1, nI_add, cA, if_false, decide_eq_true_eq]
    by_cases z : LD M (mL M) (mH M) (2 * w) * nI n = LD M (mL M) (mH M) (2 * w + 1) * (nI (mN M (2 * w) + mN M (2 * w + 1)) - nI n)
    · rw [if_pos z, if_pos z.symm]
    · rw [if_neg z, if_neg (fun q => z q.symm)]) (by
    unfold b_X9_hookOf_42
    rw [if_pos (Int32.le_refl _)])
  refine (bind_s key).trans ?_
  show _ = some (hkS _ _ _)
  unfold hkS
  cases fst (fun n => decide (LD M (mL M) (mH M) (2 * w) * nI n = LD M (mL M) (mH M) (2 * w + 1) * (nI (mN M (2 * w) + mN M (2 * w + 1)) - nI n))) 1 (mN M (2 * w) + mN M (2 * w + 1) - 1) <;> rfl
theorem p_beadToAdd {M : MD} {s : gs_H} {w : Nat} (hW : WF M) (hR : RC 9 M s) (hw : w < mR M) (hT : ∀ w, w < mR M → s 37 w = TI M (mL M) (mH M) w) : f_X6_beadToAdd (nI w) s = some (rodA M w 10) := by
  have h5 := hW.1.r5
  have e1 : s 10 (2 * w) = nI (mN M (2 * w)) := (hR.2.2.2.1 (2 * w) (by omega)).1
  have e2 : s 10 (2 * w + 1) = nI (mN M (2 * w + 1)) := (hR.2.2.2.1 (2 * w + 1) (by omega)).1
  have l1 := hT w hw
  have q0 : w < 5 := by omega
  have q1 : 2 * w < 10 := by omega
  have q2 : 2 * w + 1 < 10 := by omega
  have ek : (nI w).toNatClampNeg = w := k_cl (by omega)
  show _ = some (adS _ _ _)
  unfold f_X6_beadToAdd adS
  rw [if_pos (inb_I q0 (by omega)), ek, l1]
  generalize TI M (mL M) (mH M) w = t at l1
  by_cases ht : t = 0
  · rw [if_pos ht, if_pos ht]
  · rw [if_neg ht, if_neg ht]
    have key := lp_find (b := b_X6_beadToAdd_13 (nI w) s) (fun n => decide (t + nI n * nI (mN M (2 * w + 1)) = 0) || decide (t - nI n * nI (mN M (2 * w)) = 0)) 1 31 (fun n => if t + nI n * nI (mN M (2 * w + 1)) = 0 then .inl (nI n) else .inr (.inl (nI n))) (.inr (.inr ())) (by omega) (by omega) (fun n h1 h2 => by
      unfold b_X6_beadToAdd_13
      have cA : ((30 : Int32) < nI n) ↔ False := by rw [c30, k_lt (by omega) (by omega)]; simp; omega
      simp only [c2, c1, pk_mul, nI_add, ek, k_cl (show 2 * w < 2147483648 by omega), k_cl (show 2 * w + 1 < 2147483648 by omega), l1, e1, e2, if_pos (inb_I q0 (by omega)), if_pos (inb_I q1 (by omega)), if_pos (inb_I q2 (by omega)), cA, if_false, Bool.or_eq_true, decide_eq_true_eq]
      by_cases z1 : t + nI (n * mN M (2 * w + 1)) = 0
      · simp only [z1, true_or, if_true]
      · by_cases z2 : t - nI (n * mN M (2 * w)) = 0
        · simp only [z1, z2, false_or, if_true, if_false]
        · simp only [z1, z2, false_or, if_false]) (by
      unfold b_X6_beadToAdd_13
      rw [if_pos (show (30 : Int32) < nI 31 by decide)])
    refine (bind_s key).trans ?_
    show _ = _
    cases fst (fun n => decide (t + nI n * nI (mN M (2 * w + 1)) = 0) || decide (t - nI n * nI (mN M (2 * w)) = 0)) 1 (31 - 1) with
    | none => rfl
    | some j =>
      dsimp only
      by_cases z1 : t + nI j * nI (mN M (2 * w + 1)) = 0
      · rw [if_pos z1, if_pos z1]
      · rw [if_neg z1, if_neg z1]
theorem p_addOf {M : MD} {s : gs_H} {w : Nat} (hW : WF M) (hB : RM M s) (hw : w < mR M) (hT : ∀ w, w < mR M → s 67 w = TI M (mL M) (mH M) w) : f_X9_addOf (nI w) s = some (rodA M w 10) := by
  have h5 := hW.1.r5
  have e1 : s 59 (2 * w) = nI (mN M (2 * w)) := (hB.2.2.2.1 (2 * w) (by omega)).1
  have e2 : s 59 (2 * w + 1) = nI (mN M (2 * w + 1)) := (hB.2.2.2.1 (2 * w + 1) (by omega)).1
  have l1 := hT w hw
  have q0 : w < 5 := by omega
  have q1 : 2 * w < 10 := by omega
  have q2 : 2 * w + 1 < 10 := by omega
  have ek : (nI w).toNatClampNeg = w := k_cl (by omega)
  show _ = some (adS _ _ _)
  unfold f_X9_addOf adS
  generalize TI M (mL M) (mH M) w = t at l1
  have key := lp_find (b := b_X9_addOf_2 (nI w) s) (fun n => decide (t + nI n * nI (mN M (2 * w + 1)) = 0) || decide (t - nI n * nI (mN M (2 * w)) = 0)) 0 31 (fun n => if t + nI n * nI (mN M (2 * w + 1)) = 0 then .inl (nI n) else .inr (.inl (nI n))) (.inr (.inr ())) (by omega) (by omega) (fun n h1 h2 => by
    unfold b_X9_addOf_2
    have cA : ((31 : Int32) ≤ nI n) ↔ False := by rw [c31, k_le (by omega) (by omega)]; simp; omega
    simp only [c2, c1, pk_mul, nI_add, ek, k_cl (show 2 * w < 2147483648 by omega), k_cl (show 2 * w + 1 < 2147483648 by omega), l1, e1, e2, if_pos (inb_I q0 (by omega)), if_pos (inb_I q1 (by omega)), if_pos (inb_I q2 (by omega)), cA, if_false, Bool.or_eq_true, decide_eq_true_eq]
    by_cases z1 : t + nI (n * mN M (2 * w + 1)) = 0
    · simp only [z1, true_or, if_true]
    · by_cases z2 : t - nI (n * mN M (2 * w)) = 0
      · simp only [z1, z2, false_or, if_true, if_false]
      · simp only [z1, z2, false_or, if_false]) (by
    unfold b_X9_addOf_2
    rw [if_pos (show (31 : Int32) ≤ nI 31 by decide)])
  refine (bind_s key).trans ?_
  have z0 : t + nI 0 * nI (mN M (2 * w + 1)) = t := by rw [pk_mul, Nat.zero_mul]; exact Int32.add_zero t
  have z9 : t - nI 0 * nI (mN M (2 * w)) = t := by rw [pk_mul, Nat.zero_mul]; exact Int32.sub_zero t
  have e0 : fst (fun n => decide (t + nI n * nI (mN M (2 * w + 1)) = 0) || decide (t - nI n * nI (mN M (2 * w)) = 0)) 0 (31 - 0) = if t = 0 then some 0 else fst (fun n => decide (t + nI n * nI (mN M (2 * w + 1)) = 0) || decide (t - nI n * nI (mN M (2 * w)) = 0)) 1 30 := by
    show (if (decide (t + nI 0 * nI (mN M (2 * w + 1)) = 0) || decide (t - nI 0 * nI (mN M (2 * w)) = 0)) = true then some 0 else _) = _
    rw [z0, z9]
    by_cases ht : t = 0
    · rw [if_pos ht, if_pos (by simp [ht])]
    · rw [if_neg ht, if_neg (by simp [ht])]
  rw [e0]
  by_cases ht : t = 0
  · rw [if_pos ht, if_pos ht]
    dsimp only
    rw [if_pos (by rw [z0]; exact ht)]
    rfl
  · rw [if_neg ht, if_neg ht]
    have neg0 : ∀ x : Int32, (0 : Int32) - x = -x := fun x => Int32.zero_sub x
    cases fst (fun n => decide (t + nI n * nI (mN M (2 * w + 1)) = 0) || decide (t - nI n * nI (mN M (2 * w)) = 0)) 1 30 with
    | none => rfl
    | some j =>
      dsimp only
      by_cases z1 : t + nI j * nI (mN M (2 * w + 1)) = 0
      · rw [if_pos z1, if_pos z1]
      · rw [if_neg z1, if_neg z1]
        dsimp only
        rw [neg0]
