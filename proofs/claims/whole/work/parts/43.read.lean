/-! PURE: the page read, letter by letter -/
def qA (b : Nat) : Nat := 5 * (b / 2) + 2 * (b % 2)
def sT (pg : Nat → Nat) (b : Nat) : Bool := decide (pg (qA b + 1) = 42)
def eP (pg : Nat → Nat) (b : Nat) : Nat := if sT pg b then 10 + cnt (sT pg) b else pg (qA b + 1) - 48
def nP (pg : Nat → Nat) (b : Nat) : Nat := pg (qA b) - 48
/-- the highest rod told -/
def tp (B : Nat) : Nat := if B.testBit 4 then 4 else if B.testBit 3 then 3 else if B.testBit 2 then 2 else if B.testBit 1 then 1 else 0
/-- what the arms told say, without a heap -/
def JB (pg : Nat → Nat) (a B : Nat) : Prop :=
  B < 32 ∧ B.testBit 0 = false ∧ (∀ b, b < a → sT pg b = true ∨ (b / 2 < eP pg b ∧ eP pg b ≤ 4 ∧ B.testBit (eP pg b) = true)) ∧ (∀ b c, b < a → c < a → sT pg b = false → sT pg c = false → eP pg b = eP pg c → b = c) ∧ (∀ w, B.testBit w = true → ∃ b, b < a ∧ sT pg b = false ∧ eP pg b = w) ∧ cnt (sT pg) a + cnt B.testBit 5 = a
def JL (pg : Nat → Nat) (n : Nat) : Prop := ∀ b, b < n → 49 ≤ pg (qA b) ∧ pg (qA b) ≤ 57
def JS (pg : Nat → Nat) (a n B : Nat) (s : gs_H) : Prop :=
  s 3 8 = nI a ∧ s 3 5 = nI (cnt (sT pg) a) ∧ s 3 4 = nI (tp B) ∧ (∀ w, w < 5 → s 8 w = bI (decide (w = 0) || B.testBit w)) ∧ (∀ b, b < n → s 4 b = nI (nP pg b)) ∧ (∀ b, b < a → s 5 b = nI (eP pg b))
/-- rods are told up to r; before it m letters of it -/
def JR (pg : Nat → Nat) (r m B : Nat) (s u : gs_H) : Prop :=
  JB pg (2 * r + m / 2) B ∧ JL pg (2 * r + (m + 1) / 2) ∧ JS pg (2 * r + m / 2) (2 * r + (m + 1) / 2) B s ∧ s 3 7 = nI (if m = 4 then 2 else m % 2) ∧ s 3 9 = nI 0 ∧ u 57 2 = nI 0 ∧ u 57 3 = nI B ∧ r ≤ 4 ∧ (∀ w, 1 ≤ w → w ≤ r → B.testBit w = true) ∧ (m = 4 → tp B < r + 1 ∨ B.testBit (r + 1) = true)
/-- rods rods, behind the semicolon j letters -/
def JT (pg : Nat → Nat) (r j B : Nat) (s u : gs_H) : Prop :=
  JB pg (2 * r) B ∧ JL pg (2 * r) ∧ JS pg (2 * r) (2 * r) B s ∧ 1 ≤ r ∧ r ≤ 5 ∧ tp B = r - 1 ∧ (∀ w, 1 ≤ w → w < r → B.testBit w = true) ∧ cnt (sT pg) (2 * r) = r + 1 ∧ j ≤ 3 * r + 2 ∧ s 3 7 = nI (3 + j % 3) ∧ s 3 9 = nI ((j + 1) / 3) ∧ u 57 2 = nI (5 * r - 1) ∧ (∀ i, 3 * i < j → ¬ kIx (nI (pg (5 * r + 3 * i))) < 0 ∧ s 6 i = kIx (nI (pg (5 * r + 3 * i)))) ∧ (∀ i, 3 * i + 1 < j → 48 ≤ pg (5 * r + 3 * i + 1) ∧ pg (5 * r + 3 * i + 1) ≤ 57 ∧ s 7 i = nI (pg (5 * r + 3 * i + 1) - 48))
def J (pg : Nat → Nat) (k : Nat) (s u : gs_H) : Prop := (∃ r m B, k = 5 * r + m ∧ m < 5 ∧ JR pg r m B s u) ∨ (∃ r j B, k = 5 * r + j ∧ JT pg r j B s u)
theorem tp_sh : ∀ B : Fin 32, ∀ j : Fin 6, B.val.testBit 0 = false → 0 < j.val → ((nI B.val >>> (nI j.val &&& 31)) ≤ 0 ↔ tp B.val < j.val) := by decide +kernel
theorem tp_or : ∀ B : Fin 32, ∀ w : Fin 5, B.val.testBit 0 = false → 0 < w.val → tp (B.val ||| 2 ^ w.val) = (if tp B.val < w.val then w.val else tp B.val) ∧ B.val ||| 2 ^ w.val < 32 ∧ (B.val ||| 2 ^ w.val).testBit 0 = false := by decide +kernel
theorem tp_cnt : ∀ B : Fin 32, ∀ w : Fin 5, B.val.testBit w.val = false → cnt (B.val ||| 2 ^ w.val).testBit 5 = cnt B.val.testBit 5 + 1 := by decide +kernel
theorem tp_max : ∀ B : Fin 32, tp B.val ≤ 4 ∧ (tp B.val = 0 ∨ B.val.testBit (tp B.val) = true) ∧ ∀ w : Fin 5, B.val.testBit w.val = true → w.val ≤ tp B.val := by decide +kernel
theorem tp_all : ∀ B : Fin 32, ∀ r : Fin 5, B.val.testBit 0 = false → (∀ w : Fin 5, 1 ≤ w.val → w.val ≤ r.val → B.val.testBit w.val = true) → r.val ≤ cnt B.val.testBit 5 := by decide +kernel
theorem tp_cl : ∀ B : Fin 32, ∀ r : Fin 5, B.val.testBit 0 = false → (∀ w : Fin 5, 1 ≤ w.val → w.val ≤ r.val → B.val.testBit w.val = true) → tp B.val ≤ r.val → cnt B.val.testBit 5 = r.val ∧ tp B.val = r.val := by decide +kernel
theorem sep_B {B i : Nat} (h : B < 32) (h2 : B.testBit i = true) : i < 5 := by
  rcases Nat.lt_or_ge i 5 with z | z
  · exact z
  · rw [Nat.testBit_lt_two_pow (Nat.lt_of_lt_of_le (show B < 2 ^ 5 from h) (Nat.pow_le_pow_right (by omega) z))] at h2
    cases h2
/-- lengths -/
theorem tk_len {pg : Nat → Nat} {a B x : Nat} {s : gs_H} (hS : JS pg a a B s) (h7 : s 3 7 = nI 0) (ha : a < 10) (hx : x ≤ 126) (hxp : x = pg (qA a)) : (¬ (49 ≤ x ∧ x ≤ 57) → f_X5_takes (nI x) s = some (0, s)) ∧ ((49 ≤ x ∧ x ≤ 57) → ∃ s', f_X5_takes (nI x) s = some (1, s') ∧ Same [3, 4, 5, 6, 7, 8] s s' ∧ JS pg a (a + 1) B s' ∧ s' 3 7 = nI 1 ∧ s' 3 9 = s 3 9) := by
  obtain ⟨g1, g2, g3, g4, g5, g6⟩ := hS
  have e7 : s 3 7 = 0 := h7
  have l1 : nI x < 49 ↔ x < 49 := k_lt (b := 49) (by omega) (by omega)
  have l2 : (57 : Int32) < nI x ↔ 57 < x := k_lt (a := 57) (by omega) (by omega)
  refine ⟨fun h => ?_, fun h => ?_⟩
  · unfold f_X5_takes f_X5_takesLength
    rw [if_pos e7]
    by_cases z : x < 49
    · rw [if_pos (l1.mpr z)]; rfl
    · rw [if_neg (fun q => z (l1.mp q)), if_pos (l2.mpr (by omega))]; rfl
  · refine ⟨up2 (up2 s 4 a (nI (x - 48))) 3 7 1, ?_, Same.up (Same.up Same.rf (by simp)) (by simp), ⟨?_, ?_, ?_, fun w hw => ?_, fun b hb => ?_, fun b hb => ?_⟩, up2_same _ _ _ _, ?_⟩
    · unfold f_X5_takes f_X5_takesLength
      rw [if_pos e7, if_neg (fun q => by have := l1.mp q; omega), if_neg (fun q => by have := l2.mp q; omega), g1, if_pos (show nI a < 10 from (k_lt (b := 10) (by omega) (by omega)).mpr ha), if_pos (inb_I ha (by omega)), k_cl (by omega), c48, k_sub (by omega)]
      rfl
    · rw [up2_n2 _ (by omega), up2_n1 _ (by omega)]; exact g1
    · rw [up2_n2 _ (by omega), up2_n1 _ (by omega)]; exact g2
    · rw [up2_n2 _ (by omega), up2_n1 _ (by omega)]; exact g3
    · rw [up2_n1 _ (by omega), up2_n1 _ (by omega)]; exact g4 w hw
    · rw [up2_n1 _ (by omega)]
      by_cases z : b = a
      · subst z; rw [up2_same, hxp]; rfl
      · rw [up2_n2 _ z]; exact g5 b (by omega)
    · rw [up2_n1 _ (by omega), up2_n1 _ (by omega)]; exact g6 b hb
    · rw [up2_n2 _ (by omega), up2_n1 _ (by omega)]
