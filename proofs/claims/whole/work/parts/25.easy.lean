/-! PURE: the small calls -/
theorem rng {x : Int32} {a b : Nat} (h1 : nI a ≤ x) (h2 : x ≤ nI b) (ha : a < 2147483648) (hb : b < 2147483648) : ∃ j, a ≤ j ∧ j ≤ b ∧ x = nI j := by
  have h0 : ¬ x < 0 := by
    rw [Int32.lt_iff_toInt_lt]
    rw [Int32.le_iff_toInt_le, nI_toInt ha] at h1
    have : (0 : Int32).toInt = 0 := rfl
    omega
  obtain ⟨j, hj, rfl⟩ := nI_of h0
  exact ⟨j, (nI_leI ha hj).mp h1, (nI_leI hj hb).mp h2, rfl⟩
theorem RQ.same {N : Nat} {M : MD} {σ s : gs_H} (h : RQ N M σ) (h0 : s 0 = σ 0) (hc : ∀ k, (22 ≤ k ∧ k ≤ 34) ∨ (69 ≤ k ∧ k ≤ 73) → s k = σ k) (hj : ∀ j, j = 7 ∨ j = 20 ∨ (24 ≤ j ∧ j ≤ 28) → s 57 j = σ 57 j) : RQ N M s := by
  obtain ⟨c, y, h1, h2, h3, h4, h5, h6, h7⟩ := h
  unfold RQ
  rw [h0, hj 7 (by omega), hj 20 (by omega), hj 24 (by omega)]
  refine ⟨c, y, h1, h2, h3, h4, h5, h6, ?_⟩
  rcases h7 with ⟨a1, a2, K, a3, a4, a5, a6, a7, a8⟩ | h7
  · refine Or.inl ⟨a1, a2, K, a3, a4, a5, a6, ?_, ?_⟩
    · unfold RC
      rw [hc 22 (by omega), hc (22 + 1) (by omega), hc (22 + 2) (by omega), hc (22 + 3) (by omega), hc (22 + 4) (by omega), hc (22 + 5) (by omega), hc (22 + 6) (by omega), hc (22 + 7) (by omega), hc (22 + 8) (by omega), hc (22 + 9) (by omega), hc (22 + 10) (by omega), hc (22 + 11) (by omega), hc (22 + 12) (by omega)]
      exact a7
    · unfold RK
      rw [hj 25 (by omega), hj 26 (by omega), hj 27 (by omega), hj 28 (by omega), hc 69 (by omega), hc 70 (by omega), hc 71 (by omega), hc 72 (by omega), hc 73 (by omega)]
      exact a8
  · exact Or.inr h7
theorem RQ.md {N : Nat} {M M' : MD} {σ : gs_H} (h : RQ N M σ) (h1 : mR M' = mR M) (h2 : mT M' = mT M) (h3 : mE M' = mE M) : RQ N M' σ := by
  obtain ⟨c, y, a1, a2, a3, a4, a5, a6, a7⟩ := h
  refine ⟨c, y, a1, a2, a3, a4, a5, a6, ?_⟩
  rw [h1, h2, h3]
  exact a7
theorem RP.same {L : Nat} {pg : Nat → Nat} {σ s : gs_H} (h : RP L pg σ) (h1 : s 1 = σ 1) (h2 : s 2 = σ 2) (h3 : s 58 = σ 58) (h4 : s 57 1 = σ 57 1) : RP L pg s := by
  unfold RP
  rw [h1, h2, h3, h4]
  exact h
theorem RC.eq9 {M : MD} {σ s : gs_H} (h : RC 9 M σ) (e : ∀ k, 9 ≤ k → k ≤ 21 → s k = σ k) : RC 9 M s := by
  unfold RC
  rw [e 9 (by omega) (by omega), e (9 + 1) (by omega) (by omega), e (9 + 2) (by omega) (by omega), e (9 + 3) (by omega) (by omega), e (9 + 4) (by omega) (by omega), e (9 + 5) (by omega) (by omega), e (9 + 6) (by omega) (by omega), e (9 + 7) (by omega) (by omega), e (9 + 8) (by omega) (by omega), e (9 + 9) (by omega) (by omega), e (9 + 10) (by omega) (by omega), e (9 + 11) (by omega) (by omega), e (9 + 12) (by omega) (by omega)]
  exact h
theorem RM.eqs {M : MD} {σ s : gs_H} (h : RM M σ) (e : ∀ k, 59 ≤ k → k ≤ 68 → s k = σ k) (ej : ∀ j, j = 4 ∨ j = 5 ∨ j = 6 ∨ j = 8 ∨ j = 9 ∨ j = 21 → s 57 j = σ 57 j) : RM M s := h.same (fun k hk => e k (by revert hk; simp; omega) (by revert hk; simp; omega)) (fun j hj => ej j (by revert hj; simp [mslots]))
theorem pu_blank {N : Nat} {σ : gs_H} (hI : Inv N σ) : ∃ (r : Int32) (s1 : gs_H) (s2 : gs_H), f_X8_blank σ = (r, s1) ∧ f_X9_blank s1 = (r, s2) ∧ Inv (N + 1) s2 := by
  obtain ⟨M, L, pg, hW, hC, hM, hP, hQ⟩ := hI
  have e1 : (up2 σ 1 1 (0 : Int32)) 57 = σ 57 := up2_ne _ _ _ (by omega)
  refine ⟨nI L, up2 σ 1 1 0, up2 (up2 σ 1 1 0) 57 1 0, by unfold f_X8_blank; rw [hP.2.1], by unfold f_X9_blank; rw [e1, hP.2.2.1], M, 0, pg, hW, hC.eq9 (fun k h1 h2 => by rw [up2_ne _ _ _ (by omega), up2_ne _ _ _ (by omega)]), hM.eqs (fun k h1 h2 => by rw [up2_ne _ _ _ (by omega), up2_ne _ _ _ (by omega)]) (fun j hj => by rw [up2_n2 _ (by omega), up2_n1 _ (by omega)]), ⟨by omega, ?_, up2_same _ _ _ _, fun i hi => by omega⟩, RQ_up (hQ.same (by rw [up2_ne _ _ _ (by omega), up2_ne _ _ _ (by omega)]) (fun k hk => by rw [up2_ne _ _ _ (by omega), up2_ne _ _ _ (by omega)]) (fun j hj => by rw [up2_n2 _ (by omega), up2_n1 _ (by omega)]))⟩
  rw [up2_n1 _ (by omega), up2_same]; rfl
theorem pu_letter {N : Nat} {σ : gs_H} (hI : Inv N σ) (x1 : Int32) : ∃ (r : Int32) (s1 : gs_H) (s2 : gs_H), f_X8_letter x1 σ = some (r, s1) ∧ f_X9_letter x1 s1 = some (r, s2) ∧ Inv (N + 1) s2 := by
  have hI0 := hI
  obtain ⟨M, L, pg, hW, hC, hM, ⟨p1, p2, p3, p4⟩, hQ⟩ := hI
  have e := in_eq x1 1 126
  have e64 : (1 : Int32).toInt64 = (1 : Int64) := rfl
  have e65 : (126 : Int32).toInt64 = (126 : Int64) := rfl
  rw [e64, e65] at e
  unfold f_X8_letter f_X9_letter
  rw [e]
  by_cases h1 : (1 : Int32) ≤ x1 ∧ x1 ≤ 126
  · obtain ⟨j, hj1, hj2, rfl⟩ := rng (a := 1) (b := 126) h1.1 h1.2 (by omega) (by omega)
    have q1 : ¬ nI j < 1 := Int32.not_lt.mpr h1.1
    rw [if_neg q1, if_pos h1.2, if_pos h1, p2]
    by_cases h46 : L = 46
    · subst h46
      refine ⟨-104, σ, σ, ?_, ?_, Inv_up hI0⟩
      · rw [if_neg (by decide)]
      · rw [if_neg (by decide), p3, if_pos (show nI 46 = 46 from rfl)]
    · have q2 : nI L < 46 := (nI_ltI (a := L) (b := 46) (by omega) (by omega)).mpr (by omega)
      have q3 : inb (nI L) 46 := inb_I (by omega) (by omega)
      have q4 : ¬ nI L = 46 := fun q => h46 ((nI_eq (a := L) (b := 46) (by omega) (by omega)).mp q)
      refine ⟨nI (L + 1), up2 (up2 σ 2 L (nI j)) 1 1 (nI (L + 1)), up2 (up2 (up2 (up2 σ 2 L (nI j)) 1 1 (nI (L + 1))) 58 L (nI j)) 57 1 (nI (L + 1)), ?_, ?_, M, L + 1, (fun i => if i = L then j else pg i), hW, hC.eq9 (fun k h1 h2 => by rw [up2_ne _ _ _ (by omega), up2_ne _ _ _ (by omega), up2_ne _ _ _ (by omega), up2_ne _ _ _ (by omega)]), hM.eqs (fun k h1 h2 => by rw [up2_ne _ _ _ (by omega), up2_ne _ _ _ (by omega), up2_ne _ _ _ (by omega), up2_ne _ _ _ (by omega)]) (fun j hj => by rw [up2_n2 _ (by omega), up2_n1 _ (by omega), up2_n1 _ (by omega), up2_n1 _ (by omega)]), ⟨by omega, ?_, up2_same _ _ _ _, fun i hi => ?_⟩, RQ_up (hQ.same (by rw [up2_ne _ _ _ (by omega), up2_ne _ _ _ (by omega), up2_ne _ _ _ (by omega), up2_ne _ _ _ (by omega)]) (fun k hk => by rw [up2_ne _ _ _ (by omega), up2_ne _ _ _ (by omega), up2_ne _ _ _ (by omega), up2_ne _ _ _ (by omega)]) (fun j hj => by rw [up2_n2 _ (by omega), up2_n1 _ (by omega), up2_n1 _ (by omega), up2_n1 _ (by omega)]))⟩
      · rw [if_pos q2, if_pos q3, k_cl (by omega), nI_1]
      · rw [if_neg (by decide), up2_n1 _ (by omega), up2_n1 _ (by omega), p3, if_neg q4, if_pos q3, k_cl (by omega), nI_1]
      · rw [up2_n1 _ (by omega), up2_n1 _ (by omega), up2_same]
      · by_cases z : i = L
        · subst z
          rw [up2_n1 _ (by omega), up2_n1 _ (by omega), up2_n1 _ (by omega), up2_same, up2_n1 _ (by omega), up2_same]
          dsimp only
          rw [if_pos rfl]
          exact ⟨rfl, rfl, hj1, hj2⟩
        · rw [up2_n1 _ (by omega), up2_n1 _ (by omega), up2_n1 _ (by omega), up2_n2 _ z, up2_n1 _ (by omega), up2_n2 _ z, up2_n1 _ (by omega), up2_n1 _ (by omega)]
          dsimp only
          rw [if_neg z]
          exact p4 i (by omega)
  · refine ⟨-102, σ, σ, ?_, ?_, Inv_up hI0⟩
    · by_cases z : x1 < 1
      · rw [if_pos z]
      · rw [if_neg z, if_neg (fun q => h1 ⟨Int32.not_lt.mp z, q⟩)]
    · rw [if_neg h1, if_pos rfl]
/-- hours -/
def setH (M : MD) (h : Nat) : MD := ((mR M, mT M, h, mS M), M.2)
theorem has_m {M : MD} {σ s : gs_H} (hW : WF M) (hC : RC 9 M σ) (hM : RM M s) : (mR M = 0 ∧ f_X8_hasMobile σ = 0 ∧ f_X9_lacks s = 1) ∨ (0 < mR M ∧ f_X8_hasMobile σ = 1 ∧ f_X9_lacks s = 0) := by
  have h5 := hW.1.r5
  unfold f_X8_hasMobile f_X9_lacks
  rw [hC.1, hM.1]
  by_cases h : mR M = 0
  · left
    rw [h]
    exact ⟨rfl, by rw [if_pos (by decide)], by rw [if_pos (by decide)]⟩
  · right
    refine ⟨by omega, ?_, ?_⟩
    · rw [if_neg (by rw [c0, k_le (by omega) (by omega)]; omega)]
    · rw [if_neg (by rw [c0, k_eq (by omega) (by omega)]; omega)]
theorem pu_hour {N : Nat} {σ : gs_H} (hI : Inv N σ) : ∃ (r : Int32) (s1 : gs_H) (s2 : gs_H), f_X8_hour σ = (r, s1) ∧ f_X9_hour s1 = (r, s2) ∧ Inv (N + 1) s2 := by
  have hI0 := hI
  obtain ⟨M, L, pg, hW, hC, hM, hP, hQ⟩ := hI
  have hH := hW.2.2.1
  unfold f_X8_hour
  rcases has_m hW hC hM with ⟨h0, h1, h2⟩ | ⟨h0, h1, h2⟩
  · refine ⟨-103, σ, σ, ?_, ?_, Inv_up hI0⟩
    · rw [h1, if_pos rfl]
    · unfold f_X9_hour; rw [h2, if_neg (by decide)]
  · rw [h1, if_neg (by decide), hC.2.2.1]
    by_cases h9 : mH M = 999
    · refine ⟨-104, σ, σ, ?_, ?_, Inv_up hI0⟩
      · rw [h9, if_neg (by decide)]
      · unfold f_X9_hour; rw [h2, if_pos rfl, hM.2.2.1, h9, if_pos (show nI 999 = 999 from rfl)]
    · have q : nI (mH M) < 999 := (nI_ltI (b := 999) (by omega) (by omega)).mpr (by omega)
      have q2 : ¬ nI (mH M) = 999 := fun z => h9 ((nI_eq (b := 999) (by omega) (by omega)).mp z)
      have e1 : (up2 σ 9 2 (nI (mH M + 1))) 57 = σ 57 := up2_ne _ _ _ (by omega)
      refine ⟨nI (mH M + 1), up2 σ 9 2 (nI (mH M + 1)), up2 (up2 σ 9 2 (nI (mH M + 1))) 57 6 (nI (mH M + 1)), ?_, ?_, setH M (mH M + 1), L, pg, ?_, ?_, ?_, hP.same (by rw [up2_ne _ _ _ (by omega), up2_ne _ _ _ (by omega)]) (by rw [up2_ne _ _ _ (by omega), up2_ne _ _ _ (by omega)]) (by rw [up2_ne _ _ _ (by omega), up2_ne _ _ _ (by omega)]) (by rw [up2_n2 _ (by omega), up2_n1 _ (by omega)]), RQ_up ((hQ.same (by rw [up2_ne _ _ _ (by omega), up2_ne _ _ _ (by omega)]) (fun k hk => by rw [up2_ne _ _ _ (by omega), up2_ne _ _ _ (by omega)]) (fun j hj => by rw [up2_n2 _ (by omega), up2_n1 _ (by omega)])).md rfl rfl rfl)⟩
      · rw [if_pos q, nI_1]
      · unfold f_X9_hour
        have e2 : f_X9_lacks (up2 σ 9 2 (nI (mH M + 1))) = 0 := by rw [← h2]; unfold f_X9_lacks; rw [e1]
        rw [e2, if_pos rfl, e1, hM.2.2.1, if_neg q2, nI_1]
      · obtain ⟨a1, a2, a3, a4⟩ := hW
        exact ⟨a1, a2, by show mH M + 1 ≤ 999; omega, a4⟩
      · obtain ⟨a1, a2, a3, a4⟩ := hC
        have e9 : ∀ k, k ≠ 9 → k ≠ 57 → (up2 (up2 σ 9 2 (nI (mH M + 1))) 57 6 (nI (mH M + 1))) k = σ k := fun k h1 h2 => by rw [up2_ne _ _ _ h2, up2_ne _ _ _ h1]
        unfold RC
        rw [e9 (9 + 1) (by omega) (by omega), e9 (9 + 2) (by omega) (by omega), e9 (9 + 3) (by omega) (by omega), e9 (9 + 4) (by omega) (by omega), e9 (9 + 5) (by omega) (by omega), e9 (9 + 6) (by omega) (by omega), e9 (9 + 7) (by omega) (by omega), e9 (9 + 8) (by omega) (by omega), e9 (9 + 9) (by omega) (by omega), e9 (9 + 10) (by omega) (by omega), e9 (9 + 11) (by omega) (by omega), e9 (9 + 12) (by omega) (by omega)]
        refine ⟨?_, ?_, ?_, a4⟩
        · rw [up2_n1 _ (by omega), up2_n2 _ (by omega)]; exact a1
        · rw [up2_n1 _ (by omega), up2_n2 _ (by omega)]; exact a2
        · rw [up2_n1 _ (by omega), up2_same]; rfl
      · obtain ⟨a1, a2, a3, a4⟩ := hM
        have e9 : ∀ k, k ≠ 9 → k ≠ 57 → (up2 (up2 σ 9 2 (nI (mH M + 1))) 57 6 (nI (mH M + 1))) k = σ k := fun k h1 h2 => by rw [up2_ne _ _ _ h2, up2_ne _ _ _ h1]
        have e8 : ∀ j, j ≠ 6 → (up2 (up2 σ 9 2 (nI (mH M + 1))) 57 6 (nI (mH M + 1))) 57 j = σ 57 j := fun j h1 => by rw [up2_n2 _ h1, up2_n1 _ (by omega)]
        unfold RM
        rw [e9 59 (by omega) (by omega), e9 60 (by omega) (by omega), e9 61 (by omega) (by omega), e9 62 (by omega) (by omega), e9 63 (by omega) (by omega), e9 64 (by omega) (by omega), e9 68 (by omega) (by omega), e8 4 (by omega), e8 5 (by omega), e8 8 (by omega), e8 9 (by omega), e8 21 (by omega)]
        exact ⟨a1, a2, by rw [up2_same]; rfl, a4⟩
theorem d10 : ((1 : Int32) = 0) ↔ False := by decide
theorem d00 : ((0 : Int32) = 0) ↔ True := by decide
theorem d11 : ((1 : Int32) = 1) ↔ True := by decide
theorem d01 : ((0 : Int32) = 1) ↔ False := by decide
theorem iv_10 {P : Prop} [Decidable P] : ((if P then (1 : Int32) else 0) = 0) ↔ ¬ P := by
  by_cases h : P
  · rw [if_pos h]; simp only [d10]; exact ⟨fun q => q.elim, fun q => q h⟩
  · rw [if_neg h]; simp only [d00]; exact ⟨fun _ => h, fun _ => trivial⟩
theorem isKind_eq (x : Int32) : f_X1_isKind x = if 0 ≤ x ∧ x ≤ 4 then 1 else 0 := by
  unfold f_X1_isKind
  by_cases h1 : x < 0
  · rw [if_pos h1, if_neg (fun q => Int32.not_lt.mpr q.1 h1)]
  · rw [if_neg h1]
    by_cases h2 : 4 < x
    · rw [if_pos h2, if_neg (fun q => Int32.not_lt.mpr q.2 h2)]
    · rw [if_neg h2, if_pos ⟨Int32.not_lt.mp h1, Int32.not_lt.mp h2⟩]
theorem isSize_eq (x : Int32) : f_X8_isSize x = if 0 ≤ x ∧ x ≤ 9 then 1 else 0 := by
  have w : ∀ x : Int32, (10 : Int32) ≤ x ↔ ¬ x ≤ 9 := fun x => by
    rw [Int32.le_iff_toInt_le, Int32.le_iff_toInt_le]
    have e1 : (10 : Int32).toInt = 10 := rfl
    have e2 : (9 : Int32).toInt = 9 := rfl
    omega
  unfold f_X8_isSize
  by_cases h1 : x < 0
  · rw [if_pos h1, if_neg (fun q => Int32.not_lt.mpr q.1 h1)]
  · rw [if_neg h1]
    by_cases h2 : 10 ≤ x
    · rw [if_pos h2, if_neg (fun q => (w x).mp h2 q.2)]
    · rw [if_neg h2, if_pos ⟨Int32.not_lt.mp h1, Classical.not_not.mp (fun q => h2 ((w x).mpr q))⟩]
theorem in04 (x : Int32) : f_X9_in x.toInt64 (0 : Int64) (4 : Int64) = if 0 ≤ x ∧ x ≤ 4 then 1 else 0 := in_eq x 0 4
theorem in09 (x : Int32) : f_X9_in x.toInt64 (0 : Int64) (9 : Int64) = if 0 ≤ x ∧ x ≤ 9 then 1 else 0 := in_eq x 0 9
theorem in02 (x : Int32) : f_X9_in x.toInt64 (0 : Int64) (2 : Int64) = if 0 ≤ x ∧ x ≤ 2 then 1 else 0 := in_eq x 0 2
theorem isA_eq (p : Int32) (σ : gs_H) : ∀ a b : Fin 5, (if f_X1_isA (nI a.val) (nI b.val) = 0 then some (-1 : Int32) else some p) = (if nI b.val = 0 then j_X9_as_55 p σ else if nI b.val = nI a.val then j_X9_as_55 p σ else if nI b.val = 1 then if nI a.val = 4 then j_X9_as_55 p σ else j_X9_as_59 p σ else j_X9_as_59 p σ) := by
  have e1 : j_X9_as_55 p σ = some p := by unfold j_X9_as_55 j_X9_as_60; rw [if_neg (by decide)]
  have e2 : j_X9_as_59 p σ = some (-1) := by unfold j_X9_as_59 j_X9_as_60; rw [if_pos rfl]
  rw [e1, e2]
  have key3 : ∀ a b : Fin 5, (f_X1_isA (nI a.val) (nI b.val) = 0) ↔ (¬ (nI b.val = 0 ∨ nI b.val = nI a.val ∨ (nI b.val = 1 ∧ nI a.val = 4))) := by decide +kernel
  intro a b
  by_cases c1 : nI b.val = 0
  · rw [if_pos c1, if_neg (by rw [key3]; exact fun q => q (Or.inl c1))]
  · rw [if_neg c1]
    by_cases c2 : nI b.val = nI a.val
    · rw [if_pos c2, if_neg (by rw [key3]; exact fun q => q (Or.inr (Or.inl c2)))]
    · rw [if_neg c2]
      by_cases c3 : nI b.val = 1
      · rw [if_pos c3]
        by_cases c4 : nI a.val = 4
        · rw [if_pos c4, if_neg (by rw [key3]; exact fun q => q (Or.inr (Or.inr ⟨c3, c4⟩)))]
        · rw [if_neg c4, if_pos (by rw [key3]; exact fun q => q.elim c1 (fun q => q.elim c2 (fun q => c4 q.2)))]
      · rw [if_neg c3, if_pos (by rw [key3]; exact fun q => q.elim c1 (fun q => q.elim c2 (fun q => c3 q.1)))]
theorem pu_as {N : Nat} {σ : gs_H} (hI : Inv N σ) (x1 x2 : Int32) : ∃ (r : Int32), f_X8_as x1 x2 σ = some r ∧ f_X9_as x1 x2 σ = some r ∧ Inv (N + 1) σ := by
  have hI0 := hI
  obtain ⟨M, L, pg, hW, hC, hM, hP, hQ⟩ := hI
  have h5 := hW.1.r5
  unfold f_X8_as f_X9_as
  rcases is_thing hC.2.1 hM.2.1 (by omega) x1 with ⟨p, hp, rfl, h1, h2⟩ | ⟨h1, h2⟩
  · obtain ⟨-, k1, -⟩ := hC.2.2.2.2.1 p hp
    obtain ⟨-, k2, -⟩ := hM.2.2.2.2.1 p hp
    have hk := (hW.2.2.2.2.1 p hp).1
    have q6 : inb (nI p) 6 := inb_I (by omega) (by omega)
    have ek : (nI p).toNatClampNeg = p := k_cl (by omega)
    have k1' : σ 13 p = nI (mK M p) := k1
    simp only [h1, h2, Option.bind_some, d10, isKind_eq, in04, iv_10, if_pos q6, ek, k1', k2, ↓reduceIte]
    by_cases hr : (0 : Int32) ≤ x2 ∧ x2 ≤ 4
    · obtain ⟨j, -, hj, rfl⟩ := rng (a := 0) (b := 4) hr.1 hr.2 (by omega) (by omega)
      have k9 := isA_eq (nI p) σ ⟨mK M p, by omega⟩ ⟨j, by omega⟩
      dsimp only at k9
      have hrT := eq_true hr
      simp only [hrT, not_true_eq_false, ↓reduceIte]
      rw [← k9]
      refine ⟨if f_X1_isA (nI (mK M p)) (nI j) = 0 then -1 else nI p, ?_, ?_, Inv_up hI0⟩ <;> split <;> rfl
    · have hrT := eq_false hr
      simp only [hrT, not_false_eq_true, ↓reduceIte]
      exact ⟨-102, rfl, rfl, Inv_up hI0⟩
  · simp only [h1, h2, Option.bind_some, d00, ↓reduceIte]
    exact ⟨-101, rfl, rfl, Inv_up hI0⟩
theorem pu_forget {N : Nat} {σ : gs_H} (hI : Inv N σ) : ∃ (r : Int32) (s1 : gs_H) (s2 : gs_H), f_X8_forget σ = (r, s1) ∧ f_X9_forget s1 = (r, s2) ∧ Inv (N + 1) s2 := by
  obtain ⟨M, L, pg, hW, hC, hM, hP, hQ⟩ := hI
  have e1 : (up2 σ 17 0 (0 : Int32)) 57 = σ 57 := up2_ne _ _ _ (by omega)
  have ec : ∀ k, k ≠ 17 → k ≠ 57 → (up2 (up2 σ 17 0 0) 57 21 0) k = σ k := fun k h1 h2 => by rw [up2_ne _ _ _ h2, up2_ne _ _ _ h1]
  have ej : ∀ j, j ≠ 21 → (up2 (up2 σ 17 0 0) 57 21 0) 57 j = σ 57 j := fun j h1 => by rw [up2_n2 _ h1, up2_n1 _ (by omega)]
  refine ⟨nI (mS M), up2 σ 17 0 0, up2 (up2 σ 17 0 0) 57 21 0, by unfold f_X8_forget; rw [hC.2.2.2.2.2.2.2.1], by unfold f_X9_forget; rw [e1, hM.2.2.2.2.2.2.2.1], ((mR M, mT M, mH M, 0), M.2), L, pg, ?_, ?_, ?_, hP.same (ec 1 (by omega) (by omega)) (ec 2 (by omega) (by omega)) (ec 58 (by omega) (by omega)) (ej 1 (by omega)), RQ_up ((hQ.same (ec 0 (by omega) (by omega)) (fun k hk => ec k (by omega) (by omega)) (fun j hj => ej j (by omega))).md rfl rfl rfl)⟩
  · obtain ⟨a1, a2, a3, a4, a5, a6, a7, a8, a9, a10⟩ := hW
    exact ⟨a1, a2, a3, Nat.zero_le _, a5, a6, a7, a8, a9, fun i hi => absurd hi (Nat.not_lt_zero _)⟩
  · obtain ⟨a1, a2, a3, a4, a5, a6, a7, a8, a9⟩ := hC
    unfold RC
    rw [ec 9 (by omega) (by omega), ec (9 + 1) (by omega) (by omega), ec (9 + 2) (by omega) (by omega), ec (9 + 3) (by omega) (by omega), ec (9 + 4) (by omega) (by omega), ec (9 + 5) (by omega) (by omega), ec (9 + 6) (by omega) (by omega), ec (9 + 7) (by omega) (by omega), ec (9 + 9) (by omega) (by omega), ec (9 + 10) (by omega) (by omega), ec (9 + 11) (by omega) (by omega), ec (9 + 12) (by omega) (by omega)]
    exact ⟨a1, a2, a3, a4, a5, a6, a7, by rw [up2_n1 _ (by omega), up2_same]; rfl, fun i hi => absurd hi (Nat.not_lt_zero _)⟩
  · obtain ⟨a1, a2, a3, a4, a5, a6, a7, a8, a9⟩ := hM
    unfold RM
    rw [ec 59 (by omega) (by omega), ec 60 (by omega) (by omega), ec 61 (by omega) (by omega), ec 62 (by omega) (by omega), ec 63 (by omega) (by omega), ec 64 (by omega) (by omega), ec 68 (by omega) (by omega), ej 4 (by omega), ej 5 (by omega), ej 6 (by omega), ej 8 (by omega), ej 9 (by omega)]
    exact ⟨a1, a2, a3, a4, a5, a6, a7, by rw [up2_same]; rfl, fun i hi => absurd hi (Nat.not_lt_zero _)⟩
def upN (f : Nat → Nat) (k v : Nat) : Nat → Nat := fun j => if j = k then v else f j
def upB (f : Nat → Bool) (k : Nat) (v : Bool) : Nat → Bool := fun j => if j = k then v else f j
theorem upN_s (f : Nat → Nat) (k v : Nat) : upN f k v k = v := if_pos rfl
theorem upN_n (f : Nat → Nat) {k j : Nat} (v : Nat) (h : j ≠ k) : upN f k v j = f j := if_neg h
theorem upB_s (f : Nat → Bool) (k : Nat) (v : Bool) : upB f k v k = v := if_pos rfl
theorem upB_n (f : Nat → Bool) {k j : Nat} (v : Bool) (h : j ≠ k) : upB f k v j = f j := if_neg h
theorem pu_change {N : Nat} {σ : gs_H} (hI : Inv N σ) (x1 x2 x3 : Int32) : ∃ (r : Int32) (s1 : gs_H) (s2 : gs_H), f_X8_change x1 x2 x3 σ = some (r, s1) ∧ f_X9_change x1 x2 x3 s1 = some (r, s2) ∧ Inv (N + 1) s2 := by
  have hI0 := hI
  obtain ⟨M, L, pg, hW, hC, hM, hP, hQ⟩ := hI
  have h5 := hW.1.r5
  rcases is_thing hC.2.1 hM.2.1 (by omega) x1 with ⟨p, hp, rfl, h1, h2⟩ | ⟨h1, h2⟩
  · obtain ⟨-, k1, -⟩ := hC.2.2.2.2.1 p hp
    obtain ⟨-, k2, -⟩ := hM.2.2.2.2.1 p hp
    have q6 : inb (nI p) 6 := inb_I (by omega) (by omega)
    have ek : (nI p).toNatClampNeg = p := k_cl (by omega)
    have k1' : σ 13 p = nI (mK M p) := k1
    by_cases hr : (0 : Int32) ≤ x2 ∧ x2 ≤ 4
    · have hrT := eq_true hr
      by_cases hr3 : (0 : Int32) ≤ x3 ∧ x3 ≤ 9
      · have hr3T := eq_true hr3
        obtain ⟨j, -, hj, rfl⟩ := rng (a := 0) (b := 4) hr.1 hr.2 (by omega) (by omega)
        obtain ⟨z, -, hz, rfl⟩ := rng (a := 0) (b := 9) hr3.1 hr3.2 (by omega) (by omega)
        have e1 : ∀ k, k ≠ 13 → k ≠ 14 → (up2 (up2 σ 13 p (nI j)) 14 p (nI z)) k = σ k := fun k h1 h2 => by rw [up2_ne _ _ _ h2, up2_ne _ _ _ h1]
        have h2' : f_X9_isThing (nI p) (up2 (up2 σ 13 p (nI j)) 14 p (nI z)) = some 1 := by rw [← h2]; unfold f_X9_isThing; rw [e1 57 (by omega) (by omega)]
        have ec : ∀ k, k ≠ 13 → k ≠ 14 → k ≠ 62 → k ≠ 63 → (up2 (up2 (up2 (up2 σ 13 p (nI j)) 14 p (nI z)) 62 p (nI j)) 63 p (nI z)) k = σ k := fun k h1 h2 h3 h4 => by rw [up2_ne _ _ _ h4, up2_ne _ _ _ h3, up2_ne _ _ _ h2, up2_ne _ _ _ h1]
        have eM : ∀ k, k ≠ 13 ∧ k ≠ 14 → k ≠ 62 ∧ k ≠ 63 → (up2 (up2 (up2 (up2 σ 13 p (nI j)) 14 p (nI z)) 62 p (nI j)) 63 p (nI z)) k = σ k := fun k h h' => ec k h.1 h.2 h'.1 h'.2
        have ej : ∀ j2, True → (up2 (up2 (up2 (up2 σ 13 p (nI j)) 14 p (nI z)) 62 p (nI j)) 63 p (nI z)) 57 j2 = σ 57 j2 := fun j2 _ => by rw [ec 57 (by omega) (by omega) (by omega) (by omega)]
        refine ⟨nI (mK M p), up2 (up2 σ 13 p (nI j)) 14 p (nI z), up2 (up2 (up2 (up2 σ 13 p (nI j)) 14 p (nI z)) 62 p (nI j)) 63 p (nI z), ?_, ?_, (M.1, (mE M, mN M, mL M, upN (mK M) p j, upN (mZ M) p z), M.2.2), L, pg, ?_, ?_, ?_, hP.same (ec 1 (by omega) (by omega) (by omega) (by omega)) (ec 2 (by omega) (by omega) (by omega) (by omega)) (ec 58 (by omega) (by omega) (by omega) (by omega)) (ej 1 trivial), RQ_up ((hQ.same (ec 0 (by omega) (by omega) (by omega) (by omega)) (fun k hk => ec k (by omega) (by omega) (by omega) (by omega)) (fun j hj => ej j trivial)).md rfl rfl rfl)⟩
        · unfold f_X8_change
          simp only [h1, d10, isKind_eq, isSize_eq, iv_10, if_pos q6, ek, k1', hrT, hr3T, not_true_eq_false, ↓reduceIte]
        · unfold f_X9_change
          simp only [h2', Option.bind_some, d10, in04, in09, iv_10, if_pos q6, ek, hrT, hr3T, not_true_eq_false, ↓reduceIte]
          rw [e1 62 (by omega) (by omega), k2]
        · obtain ⟨a1, a2, a3, a4, a5, a6⟩ := hW
          refine ⟨a1, a2, a3, a4, fun q hq => ?_, a6⟩
          have := a5 q hq
          show upN (mK M) p j q ≤ 4 ∧ upN (mZ M) p z q ≤ 9
          by_cases hqp : q = p
          · subst hqp; rw [upN_s, upN_s]; exact ⟨hj, hz⟩
          · rw [upN_n _ _ hqp, upN_n _ _ hqp]; exact this
        · obtain ⟨a1, a2, a3, a4, a5, a6⟩ := hC
          unfold RC
          rw [eM 9 (by omega) (by omega), eM (9 + 1) (by omega) (by omega), eM (9 + 2) (by omega) (by omega), eM (9 + 3) (by omega) (by omega), eM (9 + 6) (by omega) (by omega), eM (9 + 7) (by omega) (by omega), eM (9 + 8) (by omega) (by omega), eM (9 + 9) (by omega) (by omega), eM (9 + 10) (by omega) (by omega), eM (9 + 11) (by omega) (by omega), eM (9 + 12) (by omega) (by omega)]
          refine ⟨a1, a2, a3, a4, fun q hq => ?_, a6⟩
          obtain ⟨b1, b2, b3⟩ := a5 q hq
          refine ⟨b1, ?_, ?_⟩
          · show (up2 (up2 (up2 (up2 σ 13 p (nI j)) 14 p (nI z)) 62 p (nI j)) 63 p (nI z)) 13 q = nI (upN (mK M) p j q)
            rw [up2_n1 _ (by omega), up2_n1 _ (by omega), up2_n1 _ (by omega)]
            by_cases hqp : q = p
            · subst hqp; rw [upN_s, up2_same]
            · rw [upN_n _ _ hqp, up2_n2 _ hqp]; exact b2
          · show (up2 (up2 (up2 (up2 σ 13 p (nI j)) 14 p (nI z)) 62 p (nI j)) 63 p (nI z)) 14 q = nI (upN (mZ M) p z q)
            rw [up2_n1 _ (by omega), up2_n1 _ (by omega)]
            by_cases hqp : q = p
            · subst hqp; rw [upN_s, up2_same]
            · rw [upN_n _ _ hqp, up2_n2 _ hqp, up2_n1 _ (by omega)]; exact b3
        · obtain ⟨a1, a2, a3, a4, a5, a6⟩ := hM
          unfold RM
          rw [eM 59 (by omega) (by omega), eM 60 (by omega) (by omega), eM 61 (by omega) (by omega), eM 64 (by omega) (by omega), eM 68 (by omega) (by omega), ej 4 trivial, ej 5 trivial, ej 6 trivial, ej 8 trivial, ej 9 trivial, ej 21 trivial]
          refine ⟨a1, a2, a3, a4, fun q hq => ?_, a6⟩
          obtain ⟨b1, b2, b3, b4⟩ := a5 q hq
          refine ⟨b1, ?_, ?_, b4⟩
          · show (up2 (up2 (up2 (up2 σ 13 p (nI j)) 14 p (nI z)) 62 p (nI j)) 63 p (nI z)) 62 q = nI (upN (mK M) p j q)
            rw [up2_n1 _ (by omega)]
            by_cases hqp : q = p
            · subst hqp; rw [upN_s, up2_same]
            · rw [upN_n _ _ hqp, up2_n2 _ hqp, up2_n1 _ (by omega), up2_n1 _ (by omega)]; exact b2
          · show (up2 (up2 (up2 (up2 σ 13 p (nI j)) 14 p (nI z)) 62 p (nI j)) 63 p (nI z)) 63 q = nI (upN (mZ M) p z q)
            by_cases hqp : q = p
            · subst hqp; rw [upN_s, up2_same]
            · rw [upN_n _ _ hqp, up2_n2 _ hqp, up2_n1 _ (by omega), up2_n1 _ (by omega), up2_n1 _ (by omega)]; exact b3
      · have hr3T := eq_false hr3
        refine ⟨-102, σ, σ, ?_, ?_, Inv_up hI0⟩
        · unfold f_X8_change
          simp only [h1, d10, isKind_eq, isSize_eq, iv_10, hrT, hr3T, not_true_eq_false, not_false_eq_true, ↓reduceIte]
        · unfold f_X9_change
          simp only [h2, Option.bind_some, d10, in04, in09, iv_10, hrT, hr3T, not_true_eq_false, not_false_eq_true, ↓reduceIte]
    · have hrT := eq_false hr
      refine ⟨-102, σ, σ, ?_, ?_, Inv_up hI0⟩
      · unfold f_X8_change
        simp only [h1, d10, isKind_eq, isSize_eq, iv_10, hrT, not_false_eq_true, ↓reduceIte]
      · unfold f_X9_change
        simp only [h2, Option.bind_some, d10, in04, in09, iv_10, hrT, not_false_eq_true, ↓reduceIte]
  · refine ⟨-101, σ, σ, ?_, ?_, Inv_up hI0⟩
    · unfold f_X8_change
      simp only [h1, d00, ↓reduceIte]
    · unfold f_X9_change
      simp only [h2, Option.bind_some, d00, ↓reduceIte]
/-- what changes a mobile: the class's cells X, the model's cells Y and its slots J; all else stays -/
theorem Inv_of {N L : Nat} {pg : Nat → Nat} {M M' : MD} {σ s : gs_H} (hW : WF M') (hC : RC 9 M' s) (hM : RM M' s) (hP : RP L pg σ) (hQ : RQ N M σ) (h1 : mR M' = mR M) (h2 : mT M' = mT M) (h3 : mE M' = mE M) (ec : ∀ k, k < 3 ∨ (22 ≤ k ∧ k ≤ 34) ∨ k = 58 ∨ 69 ≤ k → s k = σ k) (ej : ∀ j, j = 1 ∨ j = 7 ∨ j = 20 ∨ (24 ≤ j ∧ j ≤ 28) → s 57 j = σ 57 j) : Inv (N + 1) s :=
  ⟨M', L, pg, hW, hC, hM, hP.same (ec 1 (by omega)) (ec 2 (by omega)) (ec 58 (by omega)) (ej 1 (by omega)), RQ_up ((hQ.same (ec 0 (by omega)) (fun k hk => ec k (by omega)) (fun j hj => ej j (by omega))).md h1 h2 h3)⟩
theorem in1x (x : Int32) (c : Int32) : f_X9_in x.toInt64 (1 : Int64) c.toInt64 = if 1 ≤ x ∧ x ≤ c then 1 else 0 := in_eq x 1 c
theorem pu_move {N : Nat} {σ : gs_H} (hI : Inv N σ) (x1 x2 : Int32) : ∃ (r : Int32) (s1 : gs_H) (s2 : gs_H), f_X8_move x1 x2 σ = some (r, s1) ∧ f_X9_move x1 x2 s1 = some (r, s2) ∧ Inv (N + 1) s2 := by
  have hI0 := hI
  obtain ⟨M, L, pg, hW, hC, hM, hP, hQ⟩ := hI
  have h5 := hW.1.r5
  rcases is_rod hC.1 hM.1 (by omega) x1 with ⟨w, hw, rfl, h1, h2⟩ | ⟨h1, h2⟩
  · have k1 := (hC.2.2.2.1 (2 * w) (by omega)).1
    have k2 := (hC.2.2.2.1 (2 * w + 1) (by omega)).1
    have m1 := (hM.2.2.2.1 (2 * w) (by omega)).1
    have m2 := (hM.2.2.2.1 (2 * w + 1) (by omega)).1
    have k1' : σ 10 (2 * w) = nI (mN M (2 * w)) := k1
    have k2' : σ 10 (2 * w + 1) = nI (mN M (2 * w + 1)) := k2
    have hn := hW.2.2.2.2.2.1 w hw
    have e0 : (2 : Int32) * nI w = nI (2 * w) := by rw [c2, pk_mul]
    have e1 : nI (2 * w) + (1 : Int32) = nI (2 * w + 1) := nI_1 _
    have q1 : inb (nI (2 * w)) 10 := inb_I (by omega) (by omega)
    have q2 : inb (nI (2 * w + 1)) 10 := inb_I (by omega) (by omega)
    have ek : (nI (2 * w)).toNatClampNeg = 2 * w := k_cl (by omega)
    have ek2 : (nI (2 * w + 1)).toNatClampNeg = 2 * w + 1 := k_cl (by omega)
    have es : nI (mN M (2 * w)) + nI (mN M (2 * w + 1)) = nI (mN M (2 * w) + mN M (2 * w + 1)) := nI_add _ _
    have em : nI (mN M (2 * w) + mN M (2 * w + 1)) - (1 : Int32) = nI (mN M (2 * w) + mN M (2 * w + 1) - 1) := pk_sub (b := 1) (by omega)
    by_cases hr : (1 : Int32) ≤ x2 ∧ x2 ≤ nI (mN M (2 * w) + mN M (2 * w + 1) - 1)
    · obtain ⟨j, hj1, hj2, rfl⟩ := rng (a := 1) (b := mN M (2 * w) + mN M (2 * w + 1) - 1) hr.1 hr.2 (by omega) (by omega)
      have hrT := eq_true hr
      have c1 : ¬ nI j < 1 := Int32.not_lt.mpr hr.1
      have c2 : nI j < nI (mN M (2 * w) + mN M (2 * w + 1)) := (nI_ltI (by omega) (by omega)).mpr (by omega)
      have eb : nI (mN M (2 * w) + mN M (2 * w + 1)) - nI j = nI (mN M (2 * w) + mN M (2 * w + 1) - j) := pk_sub (by omega)
      generalize hb : mN M (2 * w) + mN M (2 * w + 1) = b at es em hr hrT c2 eb hj2 hn
      have e1c : ∀ k, k ≠ 10 → (up2 (up2 σ 10 (2 * w) (nI j)) 10 (2 * w + 1) (nI (b - j))) k = σ k := fun k h => by rw [up2_ne _ _ _ h, up2_ne _ _ _ h]
      have h2' : f_X9_isRod (nI w) (up2 (up2 σ 10 (2 * w) (nI j)) 10 (2 * w + 1) (nI (b - j))) = some 1 := by rw [← h2]; unfold f_X9_isRod; rw [e1c 57 (by omega)]
      have ec : ∀ k, k ≠ 10 → k ≠ 59 → (up2 (up2 (up2 (up2 σ 10 (2 * w) (nI j)) 10 (2 * w + 1) (nI (b - j))) 59 (2 * w) (nI j)) 59 (2 * w + 1) (nI (b - j))) k = σ k := fun k h1 h2 => by rw [up2_ne _ _ _ h2, up2_ne _ _ _ h2, up2_ne _ _ _ h1, up2_ne _ _ _ h1]
      have ej : ∀ j2, j2 ≠ 1000 → (up2 (up2 (up2 (up2 σ 10 (2 * w) (nI j)) 10 (2 * w + 1) (nI (b - j))) 59 (2 * w) (nI j)) 59 (2 * w + 1) (nI (b - j))) 57 j2 = σ 57 j2 := fun j2 _ => by rw [ec 57 (by omega) (by omega)]
      refine ⟨nI (mN M (2 * w)), up2 (up2 σ 10 (2 * w) (nI j)) 10 (2 * w + 1) (nI (b - j)), up2 (up2 (up2 (up2 σ 10 (2 * w) (nI j)) 10 (2 * w + 1) (nI (b - j))) 59 (2 * w) (nI j)) 59 (2 * w + 1) (nI (b - j)), ?_, ?_, Inv_of (M' := (M.1, (mE M, upN (upN (mN M) (2 * w) j) (2 * w + 1) (b - j), mL M, mK M, mZ M), M.2.2)) ?_ ?_ ?_ hP hQ rfl rfl rfl (fun k hk => ec k (by omega) (by omega)) (fun j2 hj => ej j2 (by omega))⟩
      · unfold f_X8_move
        simp only [h1, d10, e0, e1, if_pos q1, if_pos q2, ek, ek2, k1', k2', es, eb, if_neg c1, if_pos c2, ↓reduceIte]
      · unfold f_X9_move
        simp only [h2', Option.bind_some, d10, e0, e1, if_pos q1, if_pos q2, ek, ek2, e1c 59 (by omega), m1, m2, es, em, eb, in1x, iv_10, hrT, not_true_eq_false, ↓reduceIte]
      · obtain ⟨a1, a2, a3, a4, a5, a6, a7⟩ := hW
        refine ⟨a1, a2, a3, a4, a5, fun v hv => ?_, a7⟩
        have := a6 v hv
        show 1 ≤ upN (upN (mN M) (2 * w) j) (2 * w + 1) (b - j) (2 * v) ∧ 1 ≤ upN (upN (mN M) (2 * w) j) (2 * w + 1) (b - j) (2 * v + 1) ∧ upN (upN (mN M) (2 * w) j) (2 * w + 1) (b - j) (2 * v) + upN (upN (mN M) (2 * w) j) (2 * w + 1) (b - j) (2 * v + 1) ≤ 18
        by_cases z : v = w
        · subst z
          rw [upN_n _ _ (by omega), upN_s, upN_s]
          omega
        · rw [upN_n _ _ (by omega), upN_n _ _ (by omega), upN_n _ _ (by omega), upN_n _ _ (by omega)]
          exact this
      · obtain ⟨a1, a2, a3, a4, a5⟩ := hC
        unfold RC
        rw [ec 9 (by omega) (by omega), ec (9 + 2) (by omega) (by omega), ec (9 + 3) (by omega) (by omega), ec (9 + 4) (by omega) (by omega), ec (9 + 5) (by omega) (by omega), ec (9 + 6) (by omega) (by omega), ec (9 + 7) (by omega) (by omega), ec (9 + 8) (by omega) (by omega), ec (9 + 9) (by omega) (by omega), ec (9 + 10) (by omega) (by omega), ec (9 + 11) (by omega) (by omega), ec (9 + 12) (by omega) (by omega)]
        refine ⟨a1, a2, a3, fun a ha => ⟨?_, (a4 a ha).2⟩, a5⟩
        show (up2 (up2 (up2 (up2 σ 10 (2 * w) (nI j)) 10 (2 * w + 1) (nI (b - j))) 59 (2 * w) (nI j)) 59 (2 * w + 1) (nI (b - j))) 10 a = nI (upN (upN (mN M) (2 * w) j) (2 * w + 1) (b - j) a)
        rw [up2_n1 _ (by omega), up2_n1 _ (by omega)]
        by_cases z : a = 2 * w + 1
        · subst z; rw [up2_same, upN_s]
        · rw [up2_n2 _ z, upN_n _ _ z]
          by_cases z2 : a = 2 * w
          · subst z2; rw [up2_same, upN_s]
          · rw [up2_n2 _ z2, upN_n _ _ z2]; exact (a4 a ha).1
      · obtain ⟨a1, a2, a3, a4, a5⟩ := hM
        unfold RM
        rw [ec 60 (by omega) (by omega), ec 61 (by omega) (by omega), ec 62 (by omega) (by omega), ec 63 (by omega) (by omega), ec 64 (by omega) (by omega), ec 68 (by omega) (by omega), ej 4 (by omega), ej 5 (by omega), ej 6 (by omega), ej 8 (by omega), ej 9 (by omega), ej 21 (by omega)]
        refine ⟨a1, a2, a3, fun a ha => ⟨?_, (a4 a ha).2⟩, a5⟩
        show (up2 (up2 (up2 (up2 σ 10 (2 * w) (nI j)) 10 (2 * w + 1) (nI (b - j))) 59 (2 * w) (nI j)) 59 (2 * w + 1) (nI (b - j))) 59 a = nI (upN (upN (mN M) (2 * w) j) (2 * w + 1) (b - j) a)
        by_cases z : a = 2 * w + 1
        · subst z; rw [up2_same, upN_s]
        · rw [up2_n2 _ z, upN_n _ _ z]
          by_cases z2 : a = 2 * w
          · subst z2; rw [up2_same, upN_s]
          · rw [up2_n2 _ z2, upN_n _ _ z2, up2_n1 _ (by omega), up2_n1 _ (by omega)]; exact (a4 a ha).1
    · have hrT := eq_false hr
      refine ⟨-102, σ, σ, ?_, ?_, Inv_up hI0⟩
      · unfold f_X8_move
        simp only [h1, d10, e0, e1, if_pos q1, if_pos q2, ek, ek2, k1', k2', es, ↓reduceIte]
        by_cases z : x2 < 1
        · rw [if_pos z]
        · rw [if_neg z, if_neg (fun q => hr ⟨Int32.not_lt.mp z, ?_⟩)]
          obtain ⟨j, hj⟩ : ∃ j : Nat, x2 = nI j ∧ j < 2147483648 := by
            obtain ⟨j, hj, e⟩ := nI_of (x := x2) (fun q9 => z (Int32.lt_trans q9 (by decide)))
            exact ⟨j, e, hj⟩
          obtain ⟨rfl, hj⟩ := hj
          have := (nI_ltI hj (by omega)).mp q
          exact (nI_leI hj (by omega)).mpr (by omega)
      · unfold f_X9_move
        simp only [h2, Option.bind_some, d10, e0, e1, if_pos q1, if_pos q2, ek, ek2, m1, m2, es, em, in1x, iv_10, hrT, not_false_eq_true, ↓reduceIte]
  · refine ⟨-101, σ, σ, ?_, ?_, Inv_up hI0⟩
    · unfold f_X8_move
      simp only [h1, d00, ↓reduceIte]
    · unfold f_X9_move
      simp only [h2, Option.bind_some, d00, ↓reduceIte]
