/-! PURE: what is told of things -/
theorem onto : ∀ (n : Nat) (f : Nat → Nat), (∀ i, i < n → f i < n) → (∀ i j, i < n → j < n → f i = f j → i = j) → ∀ y, y < n → ∃ i, i < n ∧ f i = y
  | 0, _, _, _, y, hy => by omega
  | n + 1, f, h1, h2, y, hy => by
    have hm := h1 n (by omega)
    have hn : ∀ i, i < n → f i ≠ f n := fun i hi q => by have := h2 i n (by omega) (by omega) q; omega
    have ih := onto n (fun i => if f i = n then f n else f i) (fun i hi => by
      have a1 := h1 i (by omega)
      have a2 := hn i hi
      by_cases z : f i = n
      · simp only [z, ↓reduceIte]; omega
      · simp only [z, ↓reduceIte]; omega) (fun i j hi hj => by
      have a1 := hn i hi
      have a2 := hn j hj
      have a3 := h2 i j (by omega) (by omega)
      by_cases z : f i = n <;> by_cases z2 : f j = n <;> simp only [z, z2, ↓reduceIte]
      · intro _; exact a3 (by omega)
      · intro q; omega
      · intro q; omega
      · exact a3)
    by_cases e1 : y = f n
    · exact ⟨n, by omega, e1.symm⟩
    · by_cases e2 : y = n
      · obtain ⟨i, hi, q⟩ := ih (f n) (by omega)
        refine ⟨i, by omega, ?_⟩
        by_cases z : f i = n
        · omega
        · simp only [z, ↓reduceIte] at q
          exact absurd q (hn i hi)
      · obtain ⟨i, hi, q⟩ := ih y (by omega)
        refine ⟨i, by omega, ?_⟩
        by_cases z : f i = n
        · simp only [z, ↓reduceIte] at q
          omega
        · simp only [z, ↓reduceIte] at q
          exact q
/-- the place of a thing -/
theorem WP.on {t : Nat} {la : Nat → Nat} (h : WP t la) {p : Nat} (hp : p < t) : ∃ q, q < t ∧ la q = p := onto t la h.1 h.2 p hp
/-- a thing's arm -/
theorem p_arm {M : MD} (hW : WF M) {p : Nat} (hp : p < mT M) : ∃ a, a < 2 * mR M ∧ (∃ q, q < mT M ∧ mL M q = p ∧ mE M a = 10 + q) ∧ (∀ s, RC 9 M s → f_X3_armOf (nI p) s = some (nI a)) ∧ ∀ s, RM M s → f_X9_armOf (nI p) s = some (nI a) := by
  have h5 := hW.1.r5
  obtain ⟨q, hq, hlq⟩ := hW.2.1.on hp
  obtain ⟨a, ha, hea⟩ := hW.1.2.2.2.2 q hq
  refine ⟨a, ha, ⟨q, hq, hlq, hea⟩, fun s hR => ?_, fun s hR => ?_⟩
  · have key := lp_find (b := b_X3_armOf_2 (nI p) s) (fun n => decide (hgS M n = nI (10 + p))) 0 (2 * mR M) (fun n => .inl (nI n)) (.inr ()) (by omega) (by omega) (fun n h1 h2 => by
      unfold b_X3_armOf_2
      have e1 : s 9 0 = nI (mR M) := hR.1
      have g1 := hgS_c hW hR h2
      have q1 : ¬ 2 * mR M ≤ n := by omega
      simp (disch := omega) only [c0, c1, c2, c3, c4, c5, c6, c7, c8, c9, c10, c11, c12, c15, c20, c24, c30, c31, c45, c46, c48, c49, c57, c60, c97, c98, c99, c100, c101, c102, c108, c111, c126, c720, c999, c10000, nI_add, pk_mul, k_cl, k_lt, k_le, k_eq, k_sub, k_div, k_m1, e1, q1, g1, Option.bind_some, ↓reduceIte, decide_eq_true_eq]) (by
      unfold b_X3_armOf_2
      have e1 : s 9 0 = nI (mR M) := hR.1
      have q1 : 2 * mR M ≤ 2 * mR M := Nat.le_refl _
      simp (disch := omega) only [c0, c1, c2, c3, c4, c5, c6, c7, c8, c9, c10, c11, c12, c15, c20, c24, c30, c31, c45, c46, c48, c49, c57, c60, c97, c98, c99, c100, c101, c102, c108, c111, c126, c720, c999, c10000, nI_add, pk_mul, k_cl, k_lt, k_le, k_eq, k_sub, k_div, k_m1, e1, q1, ↓reduceIte])
    have ef : fst (fun n => decide (hgS M n = nI (10 + p))) 0 (2 * mR M - 0) = some a := by
      refine fst_one _ _ (by omega) (by omega) ?_ (fun j _ h2 h3 => ?_)
      · have e2 : hgS M a = nI (10 + p) := by
          unfold hgS
          rw [if_pos (by omega), hea, show 10 + q - 10 = q by omega, hlq]
        simp only [e2, decide_true]
      · have h2' : j < 2 * mR M := by omega
        have h3' := of_decide_eq_true h3
        have h6 := hW.1.ew h2'
        unfold hgS at h3'
        by_cases z : 10 ≤ mE M j
        · rw [if_pos z] at h3'
          have hlt : mL M (mE M j - 10) < mT M := hW.2.1.1 _ (by omega)
          have e3 : 10 + mL M (mE M j - 10) = 10 + p := (nI_eq (by omega) (by omega)).mp h3'
          have e4 := hW.2.1.2 (mE M j - 10) q (by omega) hq (by omega)
          exact hW.1.2.2.2.1 j a h2' ha (by omega)
        · rw [if_neg z] at h3'
          have e3 : mE M j = 10 + p := (nI_eq (by omega) (by omega)).mp h3'
          omega
    unfold f_X3_armOf
    rw [ef] at key
    exact bind_s key
  · unfold f_X9_armOf
    have e61 : s 61 q = nI a := by
      obtain ⟨-, -, -, a', ha', hea', e⟩ := hR.2.2.2.2.1 q hq
      rw [e, hW.1.2.2.2.1 a' a ha' ha (by omega)]
    refine (bind_s (lp_st (fun i => nI i) (e := nI q) q (by omega) (fun i hi => ?_) ?_ rfl)).trans ?_
    · unfold b_X9_armOf_2
      have e1 : s 64 i = nI (mL M i) := (hR.2.2.2.2.1 i (by omega)).1
      have h7 : mL M i < mT M := hW.2.1.1 i (by omega)
      have q1 : i < 6 := by omega
      have q2 : ¬ mL M i = p := fun z => by
        have := hW.2.1.2 i q (by omega) hq (by omega)
        omega
      simp (disch := omega) only [c0, c1, c2, c3, c4, c5, c6, c7, c8, c9, c10, c11, c12, c15, c20, c24, c30, c31, c45, c46, c48, c49, c57, c60, c97, c98, c99, c100, c101, c102, c108, c111, c126, c720, c999, c10000, nI_add, pk_mul, k_cl, k_lt, k_le, k_eq, k_sub, k_div, k_m1, e1, inb_N, q1, q2, ↓reduceIte]
    · unfold b_X9_armOf_2
      have e1 : s 64 q = nI (mL M q) := (hR.2.2.2.2.1 q hq).1
      have q1 : q < 6 := by omega
      simp (disch := omega) only [c0, c1, c2, c3, c4, c5, c6, c7, c8, c9, c10, c11, c12, c15, c20, c24, c30, c31, c45, c46, c48, c49, c57, c60, c97, c98, c99, c100, c101, c102, c108, c111, c126, c720, c999, c10000, nI_add, pk_mul, k_cl, k_lt, k_le, k_eq, k_sub, k_div, k_m1, e1, hlq, inb_N, q1, ↓reduceIte]
    · have q1 : q < 6 := by omega
      simp (disch := omega) only [inb_N, k_cl, q1, e61, ↓reduceIte]
def AR (M : MD) (p : Nat) : Nat := (fst (fun n => decide (10 ≤ mE M n ∧ mL M (mE M n - 10) = p)) 0 (2 * mR M)).getD 0
theorem p_AR {M : MD} (hW : WF M) {p : Nat} (hp : p < mT M) : AR M p < 2 * mR M ∧ (∀ s, RC 9 M s → f_X3_armOf (nI p) s = some (nI (AR M p))) ∧ ∀ s, RM M s → f_X9_armOf (nI p) s = some (nI (AR M p)) := by
  have h5 := hW.1.r5
  obtain ⟨a, ha, ⟨q, hq, hlq, hea⟩, h1, h2⟩ := p_arm hW hp
  have e : AR M p = a := by
    unfold AR
    rw [fst_one (a := a) _ _ (by omega) (by omega)]
    · rfl
    · simp only [decide_eq_true_eq]
      rw [hea, show 10 + q - 10 = q by omega]
      exact ⟨by omega, hlq⟩
    · intro j _ h3 h4
      obtain ⟨h6, h7⟩ := of_decide_eq_true h4
      have h8 := hW.1.ew (a := j) (by omega)
      have e4 := hW.2.1.2 (mE M j - 10) q (by omega) hq (by omega)
      exact hW.1.2.2.2.1 j a (by omega) ha (by omega)
  rw [e]
  exact ⟨ha, h1, h2⟩
/-- bits -/
def bs (f : Nat → Bool) : Nat → Nat
  | 0 => 0
  | n + 1 => bs f n ||| (if f n then 2 ^ n else 0)
theorem bs_lt (f : Nat → Bool) : ∀ n, bs f n < 2 ^ n
  | 0 => by show 0 < 1; omega
  | n + 1 => by
    have h := bs_lt f n
    have e : 2 ^ n < 2 ^ (n + 1) := Nat.pow_lt_pow_right (by omega) (by omega)
    refine Nat.or_lt_two_pow (by omega) ?_
    cases f n
    · exact Nat.two_pow_pos _
    · exact e
theorem bs_bit (f : Nat → Bool) : ∀ n i, (bs f n).testBit i = (decide (i < n) && f i)
  | 0, i => by simp [bs]
  | n + 1, i => by
    rw [bs, Nat.testBit_or, bs_bit f n i]
    by_cases h : i = n
    · subst h
      cases hf : f i <;> simp [Nat.testBit_two_pow_self]
    · have e : (if f n = true then 2 ^ n else 0).testBit i = false := by
        cases f n
        · simp
        · simp [Nat.testBit_two_pow]; omega
      rw [e, Bool.or_false]
      have : (i < n + 1) ↔ (i < n) := by omega
      simp [this]
theorem bs_eq {f : Nat → Bool} {n B : Nat} (h : B < 2 ^ n) (hb : ∀ i, i < n → B.testBit i = f i) : B = bs f n := by
  refine Nat.eq_of_testBit_eq fun i => ?_
  rw [bs_bit]
  by_cases z : i < n
  · rw [hb i z]; simp [z]
  · rw [Nat.testBit_lt_two_pow (Nat.lt_of_lt_of_le h (Nat.pow_le_pow_right (by omega) (by omega)))]; simp [z]
theorem bs_cong {f g : Nat → Bool} {n : Nat} (h : ∀ i, i < n → f i = g i) : bs f n = bs g n := bs_eq (bs_lt f n) (fun i hi => by rw [bs_bit]; simp [hi, h i hi])
theorem bs_and (f g : Nat → Bool) (n : Nat) : bs f n &&& bs g n = bs (fun i => f i && g i) n := bs_eq (Nat.and_lt_two_pow _ (bs_lt g n)) (fun i hi => by rw [Nat.testBit_and, bs_bit, bs_bit]; simp [hi])
theorem nI_and (a b : Nat) : nI a &&& nI b = nI (a &&& b) := by
  refine Int32.toBitVec_inj.mp ?_
  show BitVec.ofNat 32 a &&& BitVec.ofNat 32 b = BitVec.ofNat 32 (a &&& b)
  exact BitVec.ofNat_and.symm
theorem nI_or (a b : Nat) : nI a ||| nI b = nI (a ||| b) := by
  refine Int32.toBitVec_inj.mp ?_
  show BitVec.ofNat 32 a ||| BitVec.ofNat 32 b = BitVec.ofNat 32 (a ||| b)
  exact BitVec.ofNat_or.symm
theorem sh10 : ∀ p : Fin 10, ((1 : Int32) <<< (nI p.val &&& 31)) = nI (2 ^ p.val) := by decide +kernel
theorem bs_st {f : Nat → Bool} {n : Nat} (hn : n < 10) : nI (bs f (n + 1)) = if f n then nI (bs f n) ||| ((1 : Int32) <<< (nI n &&& 31)) else nI (bs f n) := by
  have e := sh10 ⟨n, hn⟩
  dsimp only at e
  rw [e, nI_or, bs]
  cases f n
  · simp
  · simp
theorem bs_bitI {f : Nat → Bool} {n : Nat} (hn : n < 10) : ((nI (bs f 10) >>> (nI n &&& 31)) &&& (1 : Int32)) = bI (f n) := by
  have key : ∀ B : Fin 1024, ∀ n : Fin 10, ((nI B.val >>> (nI n.val &&& 31)) &&& (1 : Int32)) = bI (B.val.testBit n.val) := by decide +kernel
  have := key ⟨bs f 10, bs_lt f 10⟩ ⟨n, hn⟩
  dsimp only at this
  rw [this, bs_bit]
  simp [hn]
theorem bs_cnt (f : Nat → Bool) : f_J6_bitCount_0f7a4 (nI (bs f 10)) = nI (cnt f 10) := by
  have key : ∀ B : Fin 1024, f_J6_bitCount_0f7a4 (nI B.val) = nI (cnt B.val.testBit 10) := by decide +kernel
  have := key ⟨bs f 10, bs_lt f 10⟩
  dsimp only at this
  rw [this]
  congr 1
  exact cnt_cong (fun k hk => by rw [bs_bit]; simp [hk])
