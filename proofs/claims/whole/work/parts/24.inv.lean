/-! PURE: the invariant between class and model -/
/-- the model's cells of the image -/
def RK (K : MD) (σ : gs_H) : Prop :=
  σ 57 25 = nI (mH K) ∧ (∃ B, B < 32 ∧ σ 57 26 = nI B ∧ ∀ w, w < 5 → B.testBit w = mD K w) ∧ (∃ B, B < 64 ∧ σ 57 27 = nI B ∧ ∀ p, p < 6 → B.testBit p = mC K p) ∧ σ 57 28 = nI (mS K) ∧ (∀ a, a < 2 * mR K → σ 69 a = nI (mN K a)) ∧ (∀ p, p < mT K → σ 70 p = nI (mK K p) ∧ σ 71 p = nI (mZ K p) ∧ σ 72 p = nI (mL K p)) ∧ (∀ i, i < mS K → σ 73 (4 * i) = nI (mV K i 0) ∧ σ 73 (4 * i + 1) = nI (mV K i 1) ∧ σ 73 (4 * i + 2) = nI (mV K i 2) ∧ σ 73 (4 * i + 3) = nI (mV K i 3))
/-- the page, L letters pg, in both -/
def RP (L : Nat) (pg : Nat → Nat) (σ : gs_H) : Prop := L ≤ 46 ∧ σ 1 1 = nI L ∧ σ 57 1 = nI L ∧ ∀ i, i < L → σ 2 i = nI (pg i) ∧ σ 58 i = nI (pg i) ∧ 1 ≤ pg i ∧ pg i ≤ 126
/-- how often read, how often laid, and the image -/
def RQ (N : Nat) (M : MD) (σ : gs_H) : Prop := ∃ c y, c ≤ N ∧ y ≤ 20 ∧ σ 0 8 = nI c ∧ σ 57 7 = nI c ∧ σ 0 9 = nI y ∧ σ 57 20 = nI y ∧ ((σ 0 7 = nI 1 ∧ σ 57 24 = nI c ∧ ∃ K, WF K ∧ mR K = mR M ∧ mT K = mT M ∧ mE K = mE M ∧ RC 22 K σ ∧ RK K σ) ∨ (σ 0 7 = nI 0 ∧ (σ 57 24 = -1 ∨ ∃ k, k < c ∧ σ 57 24 = nI k)))
def Inv (N : Nat) (σ : gs_H) : Prop := ∃ M L pg, WF M ∧ RC 9 M σ ∧ RM M σ ∧ RP L pg σ ∧ RQ N M σ
/-- the class's scratch, the model's scratch -/
def SC (σ s : gs_H) : Prop := ∀ k, k < 3 ∨ (8 < k ∧ k < 35) ∨ 56 < k → s k = σ k
def SM (σ s : gs_H) : Prop := (∀ k, k ≠ 57 → k ≠ 65 → k ≠ 66 → k ≠ 67 → s k = σ k) ∧ ∀ j, j ∉ [2, 3, 17, 23] → s 57 j = σ 57 j
theorem SC.rf {σ : gs_H} : SC σ σ := fun _ _ => rfl
theorem SM.rf {σ : gs_H} : SM σ σ := ⟨fun _ _ _ _ _ => rfl, fun _ _ => rfl⟩
theorem SC.tr {σ s u : gs_H} (h : SC σ s) (h2 : SC s u) : SC σ u := fun k hk => (h2 k hk).trans (h k hk)
theorem SM.tr {σ s u : gs_H} (h : SM σ s) (h2 : SM s u) : SM σ u := ⟨fun k a b c d => (h2.1 k a b c d).trans (h.1 k a b c d), fun j hj => (h2.2 j hj).trans (h.2 j hj)⟩
theorem SC.of {X : List Nat} {σ s : gs_H} (h : Same X σ s) (hX : ∀ k, k ∈ X → 3 ≤ k ∧ (k ≤ 8 ∨ 35 ≤ k) ∧ k ≤ 56) : SC σ s := fun k hk => h k (fun q => by have := hX k q; omega)
theorem SM.of {X : List Nat} {σ s : gs_H} (h : Same X σ s) (hX : ∀ k, k ∈ X → k = 65 ∨ k = 66 ∨ k = 67) : SM σ s := ⟨fun k a b c d => h k (fun q => by have := hX k q; omega), fun j _ => by rw [h 57 (fun q => by have := hX 57 q; omega)]⟩
theorem SC.RC9 {M : MD} {σ s : gs_H} (h : SC σ s) (hR : RC 9 M σ) : RC 9 M s := by
  have e : ∀ k, 9 ≤ k → k ≤ 21 → s k = σ k := fun k h1 h2 => h k (by omega)
  unfold RC
  rw [e 9 (by omega) (by omega), e (9 + 1) (by omega) (by omega), e (9 + 2) (by omega) (by omega), e (9 + 3) (by omega) (by omega), e (9 + 4) (by omega) (by omega), e (9 + 5) (by omega) (by omega), e (9 + 6) (by omega) (by omega), e (9 + 7) (by omega) (by omega), e (9 + 8) (by omega) (by omega), e (9 + 9) (by omega) (by omega), e (9 + 10) (by omega) (by omega), e (9 + 11) (by omega) (by omega), e (9 + 12) (by omega) (by omega)]
  exact hR
theorem SC.RC22 {M : MD} {σ s : gs_H} (h : SC σ s) (hR : RC 22 M σ) : RC 22 M s := by
  have e : ∀ k, 22 ≤ k → k ≤ 34 → s k = σ k := fun k h1 h2 => h k (by omega)
  unfold RC
  rw [e 22 (by omega) (by omega), e (22 + 1) (by omega) (by omega), e (22 + 2) (by omega) (by omega), e (22 + 3) (by omega) (by omega), e (22 + 4) (by omega) (by omega), e (22 + 5) (by omega) (by omega), e (22 + 6) (by omega) (by omega), e (22 + 7) (by omega) (by omega), e (22 + 8) (by omega) (by omega), e (22 + 9) (by omega) (by omega), e (22 + 10) (by omega) (by omega), e (22 + 11) (by omega) (by omega), e (22 + 12) (by omega) (by omega)]
  exact hR
theorem SC.RMs {M : MD} {σ s : gs_H} (h : SC σ s) (hR : RM M σ) : RM M s := hR.same (fun k hk => h k (by revert hk; simp; omega)) (fun j _ => by rw [h 57 (by omega)])
theorem SC.RKs {M : MD} {σ s : gs_H} (h : SC σ s) (hR : RK M σ) : RK M s := by
  unfold RK
  rw [h 57 (by omega), h 69 (by omega), h 70 (by omega), h 71 (by omega), h 72 (by omega), h 73 (by omega)]
  exact hR
theorem SC.RPs {L : Nat} {pg : Nat → Nat} {σ s : gs_H} (h : SC σ s) (hR : RP L pg σ) : RP L pg s := by
  unfold RP
  rw [h 1 (by omega), h 2 (by omega), h 57 (by omega), h 58 (by omega)]
  exact hR
theorem SC.RQs {N : Nat} {M : MD} {σ s : gs_H} (h : SC σ s) (hR : RQ N M σ) : RQ N M s := by
  obtain ⟨c, y, h1, h2, h3, h4, h5, h6, h7⟩ := hR
  unfold RQ
  rw [h 0 (by omega), h 57 (by omega)]
  refine ⟨c, y, h1, h2, h3, h4, h5, h6, ?_⟩
  rcases h7 with ⟨a1, a2, K, a3, a4, a5, a6, a7, a8⟩ | h7
  · exact Or.inl ⟨a1, a2, K, a3, a4, a5, a6, h.RC22 a7, h.RKs a8⟩
  · exact Or.inr h7
theorem SM.RC9 {M : MD} {σ s : gs_H} (h : SM σ s) (hR : RC 9 M σ) : RC 9 M s := by
  have e : ∀ k, 9 ≤ k → k ≤ 21 → s k = σ k := fun k h1 h2 => h.1 k (by omega) (by omega) (by omega) (by omega)
  unfold RC
  rw [e 9 (by omega) (by omega), e (9 + 1) (by omega) (by omega), e (9 + 2) (by omega) (by omega), e (9 + 3) (by omega) (by omega), e (9 + 4) (by omega) (by omega), e (9 + 5) (by omega) (by omega), e (9 + 6) (by omega) (by omega), e (9 + 7) (by omega) (by omega), e (9 + 8) (by omega) (by omega), e (9 + 9) (by omega) (by omega), e (9 + 10) (by omega) (by omega), e (9 + 11) (by omega) (by omega), e (9 + 12) (by omega) (by omega)]
  exact hR
theorem SM.RC22 {M : MD} {σ s : gs_H} (h : SM σ s) (hR : RC 22 M σ) : RC 22 M s := by
  have e : ∀ k, 22 ≤ k → k ≤ 34 → s k = σ k := fun k h1 h2 => h.1 k (by omega) (by omega) (by omega) (by omega)
  unfold RC
  rw [e 22 (by omega) (by omega), e (22 + 1) (by omega) (by omega), e (22 + 2) (by omega) (by omega), e (22 + 3) (by omega) (by omega), e (22 + 4) (by omega) (by omega), e (22 + 5) (by omega) (by omega), e (22 + 6) (by omega) (by omega), e (22 + 7) (by omega) (by omega), e (22 + 8) (by omega) (by omega), e (22 + 9) (by omega) (by omega), e (22 + 10) (by omega) (by omega), e (22 + 11) (by omega) (by omega), e (22 + 12) (by omega) (by omega)]
  exact hR
theorem SM.RMs {M : MD} {σ s : gs_H} (h : SM σ s) (hR : RM M σ) : RM M s := hR.same (fun k hk => by
    have hk2 : k = 59 ∨ k = 60 ∨ k = 61 ∨ k = 62 ∨ k = 63 ∨ k = 64 ∨ k = 68 := by simpa using hk
    exact h.1 k (by omega) (by omega) (by omega) (by omega)) (fun j hj => h.2 j (by revert hj; simp [mslots]; omega))
theorem SM.RKs {M : MD} {σ s : gs_H} (h : SM σ s) (hR : RK M σ) : RK M s := by
  unfold RK
  rw [h.2 25 (by decide), h.2 26 (by decide), h.2 27 (by decide), h.2 28 (by decide), h.1 69 (by omega) (by omega) (by omega) (by omega), h.1 70 (by omega) (by omega) (by omega) (by omega), h.1 71 (by omega) (by omega) (by omega) (by omega), h.1 72 (by omega) (by omega) (by omega) (by omega), h.1 73 (by omega) (by omega) (by omega) (by omega)]
  exact hR
theorem SM.RPs {L : Nat} {pg : Nat → Nat} {σ s : gs_H} (h : SM σ s) (hR : RP L pg σ) : RP L pg s := by
  unfold RP
  rw [h.1 1 (by omega) (by omega) (by omega) (by omega), h.1 2 (by omega) (by omega) (by omega) (by omega), h.2 1 (by decide), h.1 58 (by omega) (by omega) (by omega) (by omega)]
  exact hR
theorem SM.RQs {N : Nat} {M : MD} {σ s : gs_H} (h : SM σ s) (hR : RQ N M σ) : RQ N M s := by
  obtain ⟨c, y, h1, h2, h3, h4, h5, h6, h7⟩ := hR
  unfold RQ
  rw [h.1 0 (by omega) (by omega) (by omega) (by omega), h.2 7 (by decide), h.2 20 (by decide), h.2 24 (by decide)]
  refine ⟨c, y, h1, h2, h3, h4, h5, h6, ?_⟩
  rcases h7 with ⟨a1, a2, K, a3, a4, a5, a6, a7, a8⟩ | h7
  · exact Or.inl ⟨a1, a2, K, a3, a4, a5, a6, h.RC22 a7, h.RKs a8⟩
  · exact Or.inr h7
theorem Inv.sc {N : Nat} {σ s : gs_H} (h : Inv N σ) (hS : SC σ s) : Inv N s := by
  obtain ⟨M, L, pg, h1, h2, h3, h4, h5⟩ := h
  exact ⟨M, L, pg, h1, hS.RC9 h2, hS.RMs h3, hS.RPs h4, hS.RQs h5⟩
theorem Inv.sm {N : Nat} {σ s : gs_H} (h : Inv N σ) (hS : SM σ s) : Inv N s := by
  obtain ⟨M, L, pg, h1, h2, h3, h4, h5⟩ := h
  exact ⟨M, L, pg, h1, hS.RC9 h2, hS.RMs h3, hS.RPs h4, hS.RQs h5⟩
theorem Inv_up {N : Nat} {σ : gs_H} (h : Inv N σ) : Inv (N + 1) σ := by
  obtain ⟨M, L, pg, h1, h2, h3, h4, c, y, h5, h6⟩ := h
  exact ⟨M, L, pg, h1, h2, h3, h4, c, y, by omega, h6⟩
theorem RQ_up {N : Nat} {M : MD} {σ : gs_H} (h : RQ N M σ) : RQ (N + 1) M σ := by
  obtain ⟨c, y, h5, h6⟩ := h
  exact ⟨c, y, by omega, h6⟩
/-- nothing hangs -/
def M0 : MD := ((0, 0, 0, 0), ((fun _ => 0), (fun _ => 0), (fun _ => 0), (fun _ => 0), (fun _ => 0)), ((fun _ => false), (fun _ => false)), (fun _ _ => 0))
theorem WF_0 : WF M0 := by
  refine ⟨⟨Or.inl ⟨rfl, rfl⟩, fun a ha => ?_, fun w _ hw => ?_, fun a b ha => ?_, fun p hp => ?_⟩, ⟨fun p hp => ?_, fun p q hp => ?_⟩, Nat.zero_le _, Nat.zero_le _, fun p hp => ?_, fun w hw => ?_, fun _ _ => rfl, fun _ _ => rfl, rfl, fun i hi => ?_⟩
  · exact absurd ha (Nat.not_lt_zero _)
  · exact absurd hw (Nat.not_lt_zero _)
  · exact absurd ha (Nat.not_lt_zero _)
  · exact absurd hp (Nat.not_lt_zero _)
  · exact absurd hp (Nat.not_lt_zero _)
  · exact absurd hp (Nat.not_lt_zero _)
  · exact absurd hp (Nat.not_lt_zero _)
  · exact absurd hw (Nat.not_lt_zero _)
  · exact absurd hi (Nat.not_lt_zero _)
theorem Inv_0 : Inv 0 gs_0 := by
  refine ⟨M0, 0, fun _ => 0, WF_0, ⟨rfl, rfl, rfl, fun a ha => absurd ha (Nat.not_lt_zero _), fun p hp => absurd hp (Nat.not_lt_zero _), fun p hp => rfl, fun w hw => rfl, rfl, fun i hi => absurd hi (Nat.not_lt_zero _)⟩, ⟨rfl, rfl, rfl, fun a ha => absurd ha (Nat.not_lt_zero _), fun p hp => absurd hp (Nat.not_lt_zero _), ⟨0, by omega, rfl, fun p _ => Nat.zero_testBit p⟩, ⟨0, by omega, rfl, fun p _ => Nat.zero_testBit p⟩, rfl, fun i hi => absurd hi (Nat.not_lt_zero _)⟩, ⟨by omega, rfl, rfl, fun i hi => absurd hi (Nat.not_lt_zero _)⟩, 0, 0, Nat.le_refl _, by omega, rfl, rfl, rfl, rfl, Or.inr ⟨rfl, Or.inl rfl⟩⟩
/-- what the refusals rest on -/
theorem in_eq (a b c : Int32) : f_X9_in a.toInt64 b.toInt64 c.toInt64 = if b ≤ a ∧ a ≤ c then 1 else 0 := by
  have w : ∀ x y : Int32, x.toInt64 ≤ y.toInt64 ↔ x ≤ y := fun x y => by rw [Int64.le_iff_toInt_le, Int32.le_iff_toInt_le, Int32.toInt_toInt64, Int32.toInt_toInt64]
  unfold f_X9_in
  by_cases h1 : b ≤ a
  · have e1 : ¬ lg_cmp a.toInt64 b.toInt64 < 0 := by
      rw [Int32.not_lt, lg_cmp_ge]; exact (w _ _).mpr h1
    rw [if_neg e1]
    by_cases h2 : a ≤ c
    · have e2 : ¬ 0 < lg_cmp a.toInt64 c.toInt64 := by
        rw [Int32.not_lt, lg_cmp_le]; exact (w _ _).mpr h2
      rw [if_neg e2, if_pos ⟨h1, h2⟩]
    · have e2 : 0 < lg_cmp a.toInt64 c.toInt64 := by
        rw [← Int32.not_le, lg_cmp_le]; exact fun q => h2 ((w _ _).mp q)
      rw [if_pos e2, if_neg (fun q => h2 q.2)]
  · have e1 : lg_cmp a.toInt64 b.toInt64 < 0 := by
      rw [← Int32.not_le, lg_cmp_ge]; exact fun q => h1 ((w _ _).mp q)
    rw [if_pos e1, if_neg (fun q => h1 q.1)]
theorem isN {x : Int32} {n : Nat} (hn : n < 1000) : (0 ≤ x ∧ x ≤ nI n - 1) ∨ ¬ (0 ≤ x ∧ x ≤ nI n - 1) := Classical.em _
/-- x names one of n -/
theorem nm_of {x : Int32} {n : Nat} (hn : n < 1000) : (∃ p, p < n ∧ x = nI p) ∨ ((x < 0 ∨ nI n ≤ x) ∧ ¬ (0 ≤ x ∧ x ≤ nI n - 1)) := by
  have e0 : (0 : Int32).toInt = 0 := rfl
  have e1 : (nI n - 1).toInt = (n : Int) - 1 := by rw [c1, pk_sub_toInt (by omega) (by omega)]; rfl
  have e2 : (nI n).toInt = n := nI_toInt (by omega)
  by_cases h : x < 0 ∨ nI n ≤ x
  · refine Or.inr ⟨h, ?_⟩
    rw [Int32.le_iff_toInt_le, Int32.le_iff_toInt_le, e0, e1]
    rw [Int32.lt_iff_toInt_lt, Int32.le_iff_toInt_le, e0, e2] at h
    omega
  · left
    have h1 : ¬ x < 0 := fun q => h (Or.inl q)
    obtain ⟨j, hj, rfl⟩ := nI_of h1
    refine ⟨j, ?_, rfl⟩
    rcases Nat.lt_or_ge j n with z | z
    · exact z
    · exact absurd (Or.inr ((nI_leI (by omega) (by omega)).mpr z)) h
theorem is_thing {σ s : gs_H} {t : Nat} (h1 : σ 9 1 = nI t) (h2 : s 57 5 = nI t) (ht : t < 1000) (x : Int32) : (∃ p, p < t ∧ x = nI p ∧ f_X8_isThing x σ = 1 ∧ f_X9_isThing x s = some 1) ∨ (f_X8_isThing x σ = 0 ∧ f_X9_isThing x s = some 0) := by
  have e := in_eq x 0 (nI t - 1)
  have e64 : (0 : Int32).toInt64 = (0 : Int64) := rfl
  rw [e64] at e
  unfold f_X8_isThing f_X9_isThing
  rw [h1, h2, e]
  rcases nm_of (x := x) ht with ⟨p, hp, rfl⟩ | ⟨h, h'⟩
  · left
    refine ⟨p, hp, rfl, ?_, ?_⟩
    · rw [if_neg (nI_pos (by omega)), if_neg (fun q => by have := (nI_leI (by omega) (by omega)).mp q; omega)]
    · rw [if_pos (show (0 : Int32) ≤ nI p ∧ nI p ≤ nI t - 1 from ⟨nI_pos' (by omega), by rw [c1, pk_sub (by omega)]; exact (nI_leI (by omega) (by omega)).mpr (by omega)⟩)]
      rfl
  · right
    refine ⟨?_, ?_⟩
    · by_cases z : x < 0
      · rw [if_pos z]
      · rw [if_neg z, if_pos (h.resolve_left z)]
    · rw [if_neg h']; rfl
theorem is_rod {σ s : gs_H} {t : Nat} (h1 : σ 9 0 = nI t) (h2 : s 57 4 = nI t) (ht : t < 1000) (x : Int32) : (∃ p, p < t ∧ x = nI p ∧ f_X8_isRod x σ = 1 ∧ f_X9_isRod x s = some 1) ∨ (f_X8_isRod x σ = 0 ∧ f_X9_isRod x s = some 0) := by
  have e := in_eq x 0 (nI t - 1)
  have e64 : (0 : Int32).toInt64 = (0 : Int64) := rfl
  rw [e64] at e
  unfold f_X8_isRod f_X9_isRod
  rw [h1, h2, e]
  rcases nm_of (x := x) ht with ⟨p, hp, rfl⟩ | ⟨h, h'⟩
  · left
    refine ⟨p, hp, rfl, ?_, ?_⟩
    · rw [if_neg (nI_pos (by omega)), if_neg (fun q => by have := (nI_leI (by omega) (by omega)).mp q; omega)]
    · rw [if_pos (show (0 : Int32) ≤ nI p ∧ nI p ≤ nI t - 1 from ⟨nI_pos' (by omega), by rw [c1, pk_sub (by omega)]; exact (nI_leI (by omega) (by omega)).mpr (by omega)⟩)]
      rfl
  · right
    refine ⟨?_, ?_⟩
    · by_cases z : x < 0
      · rw [if_pos z]
      · rw [if_neg z, if_pos (h.resolve_left z)]
    · rw [if_neg h']; rfl
