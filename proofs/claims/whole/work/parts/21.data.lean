/-! PURE: what a mobile is -/
/-- rods, things, hours, how many seen; ends, lengths, laid, kinds, sizes; things cut, rods cut; what was seen -/
abbrev MD : Type := (Nat × Nat × Nat × Nat) × ((Nat → Nat) × (Nat → Nat) × (Nat → Nat) × (Nat → Nat) × (Nat → Nat)) × ((Nat → Bool) × (Nat → Bool)) × (Nat → Nat → Nat)
def mR (M : MD) : Nat := M.1.1
def mT (M : MD) : Nat := M.1.2.1
def mH (M : MD) : Nat := M.1.2.2.1
def mS (M : MD) : Nat := M.1.2.2.2
def mE (M : MD) : Nat → Nat := M.2.1.1
def mN (M : MD) : Nat → Nat := M.2.1.2.1
def mL (M : MD) : Nat → Nat := M.2.1.2.2.1
def mK (M : MD) : Nat → Nat := M.2.1.2.2.2.1
def mZ (M : MD) : Nat → Nat := M.2.1.2.2.2.2
def mC (M : MD) : Nat → Bool := M.2.2.1.1
def mD (M : MD) : Nat → Bool := M.2.2.1.2
def mV (M : MD) : Nat → Nat → Nat := M.2.2.2
/-- rods and their ends -/
def WE (r t : Nat) (e : Nat → Nat) : Prop :=
  ((r = 0 ∧ t = 0) ∨ (1 ≤ r ∧ r ≤ 5 ∧ t = r + 1)) ∧ (∀ a, a < 2 * r → (a / 2 < e a ∧ e a < r) ∨ (10 ≤ e a ∧ e a < 10 + t)) ∧ (∀ w, 0 < w → w < r → ∃ a, a < 2 * w ∧ e a = w) ∧ (∀ a b, a < 2 * r → b < 2 * r → e a = e b → a = b) ∧ (∀ p, p < t → ∃ a, a < 2 * r ∧ e a = 10 + p)
/-- what is laid where -/
def WP (t : Nat) (la : Nat → Nat) : Prop := (∀ p, p < t → la p < t) ∧ (∀ p q, p < t → q < t → la p = la q → p = q)
def WF (M : MD) : Prop :=
  WE (mR M) (mT M) (mE M) ∧ WP (mT M) (mL M) ∧ mH M ≤ 999 ∧ mS M ≤ 6 ∧ (∀ p, p < mT M → mK M p ≤ 4 ∧ mZ M p ≤ 9) ∧ (∀ w, w < mR M → 1 ≤ mN M (2 * w) ∧ 1 ≤ mN M (2 * w + 1) ∧ mN M (2 * w) + mN M (2 * w + 1) ≤ 18) ∧ (∀ p, mT M ≤ p → mC M p = false) ∧ (∀ w, mR M ≤ w → mD M w = false) ∧ mD M 0 = false ∧ (∀ i, i < mS M → mV M i 0 < mT M ∧ mV M i 1 < mR M ∧ mV M i 2 ≤ 9 ∧ mV M i 3 ≤ 2)
theorem WE.r5 {r t : Nat} {e : Nat → Nat} (h : WE r t e) : r ≤ 5 ∧ t ≤ 6 ∧ t ≤ r + 1 ∧ (0 < r → t = r + 1) ∧ (r = 0 → t = 0) := by
  rcases h.1 with ⟨h1, h2⟩ | ⟨h1, h2, h3⟩ <;> omega
theorem WE.ew {r t : Nat} {e : Nat → Nat} (h : WE r t e) {a : Nat} (ha : a < 2 * r) : (e a < 10 → a / 2 < e a ∧ e a < r) ∧ (10 ≤ e a → e a < 10 + t) ∧ e a < 16 := by
  have h5 := h.r5
  rcases h.2.1 a ha with ⟨h1, h2⟩ | ⟨h1, h2⟩ <;> omega
/-- a thing's weight at an hour -/
def wtS (M : MD) (hr p : Nat) : Int32 := if mC M p then nI 0 else f_X1_weight (nI (mK M p)) (nI (mZ M p)) (nI hr)
/-- what hangs from an arm -/
def ldF (M : MD) (la : Nat → Nat) (hr : Nat) : Nat → Nat → Int32
  | 0, _ => nI 0
  | n + 1, a => if 10 ≤ mE M a then wtS M hr (la (mE M a - 10)) else if mD M (mE M a) then nI 0 else ldF M la hr n (2 * mE M a) + ldF M la hr n (2 * mE M a + 1)
def LD (M : MD) (la : Nat → Nat) (hr a : Nat) : Int32 := ldF M la hr 6 a
theorem ldF_st {M : MD} (h : WE (mR M) (mT M) (mE M)) (la : Nat → Nat) (hr : Nat) : ∀ (n a : Nat), a < 2 * mR M → mR M ≤ n + a / 2 → ldF M la hr n a = ldF M la hr (n + 1) a
  | 0, a, ha, hn => by omega
  | n + 1, a, ha, hn => by
    rw [ldF, ldF]
    by_cases h1 : 10 ≤ mE M a
    · rw [if_pos h1, if_pos h1]
    · rw [if_neg h1, if_neg h1]
      by_cases h2 : mD M (mE M a) = true
      · rw [if_pos h2, if_pos h2]
      · rw [if_neg h2, if_neg h2]
        have h3 := (h.ew ha).1 (by omega)
        rw [ldF_st h la hr n (2 * mE M a) (by omega) (by omega), ldF_st h la hr n (2 * mE M a + 1) (by omega) (by omega)]
theorem LD_eq {M : MD} (h : WE (mR M) (mT M) (mE M)) (la : Nat → Nat) (hr : Nat) {a : Nat} (ha : a < 2 * mR M) : LD M la hr a = if 10 ≤ mE M a then wtS M hr (la (mE M a - 10)) else if mD M (mE M a) then nI 0 else LD M la hr (2 * mE M a) + LD M la hr (2 * mE M a + 1) := by
  have h5 := h.r5
  unfold LD
  rw [ldF_st h la hr 6 a ha (by omega), ldF]
/-- the tilt of a rod -/
def TI (M : MD) (la : Nat → Nat) (hr w : Nat) : Int32 := LD M la hr (2 * w + 1) * nI (mN M (2 * w + 1)) - LD M la hr (2 * w) * nI (mN M (2 * w))
/-- which rods are there, when so many arms have been looked at -/
def thF (M : MD) : Nat → Nat → Bool
  | 0 => fun w => decide (w = 0)
  | a + 1 => fun w => if mE M a < 10 ∧ w = mE M a then thF M a (a / 2) && !mD M w else thF M a w
def TH (M : MD) (w : Nat) : Bool := thF M (2 * mR M) w
/-- an arm behind that doesn't end at w leaves it -/
theorem thF_keep {M : MD} {w : Nat} : ∀ (n a : Nat), (∀ b, a ≤ b → b < a + n → mE M b ≠ w) → thF M (a + n) w = thF M a w
  | 0, a, _ => rfl
  | n + 1, a, h => by
    have e : thF M (a + (n + 1)) w = if mE M (a + n) < 10 ∧ w = mE M (a + n) then thF M (a + n) ((a + n) / 2) && !mD M w else thF M (a + n) w := rfl
    rw [e, if_neg (fun q => h (a + n) (by omega) (by omega) q.2.symm)]
    exact thF_keep n a (fun b h1 h2 => h b h1 (by omega))
/-- a rod that no arm up to a has told isn't there yet -/
theorem thF_no {M : MD} {w : Nat} (hw : 0 < w) : ∀ (a : Nat), (∀ b, b < a → mE M b ≠ w) → thF M a w = false := by
  intro a h
  have := thF_keep (M := M) (w := w) a 0 (fun b _ h2 => h b (by omega))
  rw [Nat.zero_add] at this
  rw [this]
  show decide (w = 0) = false
  simp; omega
theorem thF_end {M : MD} (h : WE (mR M) (mT M) (mE M)) {w a : Nat} (ha : a ≤ 2 * mR M) (ht : w = 0 ∨ ∃ b, b < a ∧ mE M b = w) (hw : w < mR M) : thF M a w = TH M w := by
  unfold TH
  have h5 := h.r5
  have e := thF_keep (M := M) (w := w) (2 * mR M - a) a (fun b h1 h2 => by
    intro q
    have h3 : b < 2 * mR M := by omega
    rcases ht with rfl | ⟨c, hc, hc2⟩
    · have := (h.ew h3).1 (by omega)
      omega
    · have := h.2.2.2.1 b c h3 (by omega) (by rw [q, hc2])
      omega)
  rw [show a + (2 * mR M - a) = 2 * mR M by omega] at e
  exact e.symm
/-- level rods that are there, all rods that are there, whether all that are there are level, the tilts together -/
def LV (M : MD) (la : Nat → Nat) (hr : Nat) : Nat := cnt (fun w => TH M w && decide (TI M la hr w = 0)) (mR M)
def NT (M : MD) : Nat := cnt (TH M) (mR M)
def AL (M : MD) (la : Nat → Nat) (hr : Nat) : Bool := decide (LV M la hr = NT M)
theorem AL_iff {M : MD} {la : Nat → Nat} {hr : Nat} : AL M la hr = true ↔ ∀ w, w < mR M → TH M w = true → TI M la hr w = 0 := by
  unfold AL LV NT
  rw [decide_eq_true_iff, (cnt_all (p := TH M) (q := fun w => decide (TI M la hr w = 0))).2]
  simp
def abI (x : Int32) : Int32 := if 0 ≤ x then x else 0 - x
def TT (M : MD) (la : Nat → Nat) (hr : Nat) : Nat → Int32
  | 0 => nI 0
  | n + 1 => TT M la hr n + (if TH M n then abI (TI M la hr n) else nI 0)
/-- the class's cells of a mobile: b is 9 (now) or 22 (kept) -/
def RC (b : Nat) (M : MD) (σ : gs_H) : Prop :=
  σ b 0 = nI (mR M) ∧ σ b 1 = nI (mT M) ∧ σ b 2 = nI (mH M) ∧ (∀ a, a < 2 * mR M → σ (b + 1) a = nI (mN M a) ∧ σ (b + 2) a = nI (mE M a)) ∧ (∀ p, p < mT M → σ (b + 3) p = nI (mL M p) ∧ σ (b + 4) p = nI (mK M p) ∧ σ (b + 5) p = nI (mZ M p)) ∧ (∀ p, p < 6 → σ (b + 6) p = bI (mC M p)) ∧ (∀ w, w < 5 → σ (b + 7) w = bI (mD M w)) ∧ σ (b + 8) 0 = nI (mS M) ∧ (∀ i, i < mS M → σ (b + 9) i = nI (mV M i 0) ∧ σ (b + 10) i = nI (mV M i 1) ∧ σ (b + 11) i = nI (mV M i 2) ∧ σ (b + 12) i = nI (mV M i 3))
theorem RC.same {b : Nat} {M : MD} {σ s : gs_H} {X : List Nat} (h : RC b M σ) (hS : Same X σ s) (hX : ∀ k, k ∈ X → k < b ∨ b + 12 < k) : RC b M s := by
  have e : ∀ j, j ≤ 12 → s (b + j) = σ (b + j) := fun j hj => hS _ (fun q => by have := hX _ q; omega)
  obtain ⟨h1, h2, h3, h4, h5, h6, h7, h8, h9⟩ := h
  have e0 := e 0 (by omega)
  rw [Nat.add_zero] at e0
  unfold RC
  rw [e0, e 1 (by omega), e 2 (by omega), e 3 (by omega), e 4 (by omega), e 5 (by omega), e 6 (by omega), e 7 (by omega), e 8 (by omega), e 9 (by omega), e 10 (by omega), e 11 (by omega), e 12 (by omega)]
  exact ⟨h1, h2, h3, h4, h5, h6, h7, h8, h9⟩
