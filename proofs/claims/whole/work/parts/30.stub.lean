def Inv (N : Nat) (σ : gs_H) : Prop := σ = gs_0 ∧ N = N
theorem Inv_0 : Inv 0 gs_0 := ⟨rfl, rfl⟩
theorem Inv_up {N : Nat} {σ : gs_H} (h : Inv N σ) : Inv (N + 1) σ := ⟨h.1, rfl⟩
theorem pu_letter {N : Nat} {σ : gs_H} (hI : Inv N σ) (x1 : Int32) : ∃ (r : Int32) (s1 : gs_H) (s2 : gs_H), f_X8_letter x1 σ = some (r, s1) ∧ f_X9_letter x1 s1 = some (r, s2) ∧ Inv (N + 1) s2 := by
  sorry
theorem pu_blank {N : Nat} {σ : gs_H} (hI : Inv N σ) : ∃ (r : Int32) (s1 : gs_H) (s2 : gs_H), f_X8_blank σ = (r, s1) ∧ f_X9_blank s1 = (r, s2) ∧ Inv (N + 1) s2 := by
  sorry
theorem pu_fault {N : Nat} {σ : gs_H} (hI : Inv N σ) : ∃ (r : Int32) (s1 : gs_H) (s2 : gs_H), f_X8_fault σ = some (r, s1) ∧ f_X9_fault s1 = some (r, s2) ∧ Inv (N + 1) s2 := by
  sorry
theorem pu_mobile {N : Nat} {σ : gs_H} (hI : Inv N σ) : ∃ (r : Int32) (s1 : gs_H) (s2 : gs_H), f_X8_mobile σ = some (r, s1) ∧ f_X9_mobile s1 = some (r, s2) ∧ Inv (N + 1) s2 := by
  sorry
theorem pu_rod {N : Nat} {σ : gs_H} (hI : Inv N σ) (x1 x2 : Int32) : ∃ (r : Int32) (s1 : gs_H) (s2 : gs_H), f_X8_rod x1 x2 σ = some (r, s1) ∧ f_X9_rod x1 x2 s1 = some (r, s2) ∧ Inv (N + 1) s2 := by
  sorry
theorem pu_thing {N : Nat} {σ : gs_H} (hI : Inv N σ) (x1 x2 : Int32) : ∃ (r : Int32), f_X8_thing x1 x2 σ = some r ∧ f_X9_thing x1 x2 σ = some r ∧ Inv (N + 1) σ := by
  sorry
theorem pu_as {N : Nat} {σ : gs_H} (hI : Inv N σ) (x1 x2 : Int32) : ∃ (r : Int32), f_X8_as x1 x2 σ = some r ∧ f_X9_as x1 x2 σ = some r ∧ Inv (N + 1) σ := by
  sorry
theorem pu_hour {N : Nat} {σ : gs_H} (hI : Inv N σ) : ∃ (r : Int32) (s1 : gs_H) (s2 : gs_H), f_X8_hour σ = (r, s1) ∧ f_X9_hour s1 = (r, s2) ∧ Inv (N + 1) s2 := by
  sorry
theorem pu_exchange {N : Nat} {σ : gs_H} (hI : Inv N σ) (x1 x2 : Int32) : ∃ (r : Int32) (s1 : gs_H) (s2 : gs_H), f_X8_exchange x1 x2 σ = some (r, s1) ∧ f_X9_exchange x1 x2 s1 = some (r, s2) ∧ Inv (N + 1) s2 := by
  sorry
theorem pu_move {N : Nat} {σ : gs_H} (hI : Inv N σ) (x1 x2 : Int32) : ∃ (r : Int32) (s1 : gs_H) (s2 : gs_H), f_X8_move x1 x2 σ = some (r, s1) ∧ f_X9_move x1 x2 s1 = some (r, s2) ∧ Inv (N + 1) s2 := by
  sorry
theorem pu_cut {N : Nat} {σ : gs_H} (hI : Inv N σ) (x1 : Int32) : ∃ (r : Int32) (s1 : gs_H) (s2 : gs_H), f_X8_cut x1 σ = some (r, s1) ∧ f_X9_cut x1 s1 = some (r, s2) ∧ Inv (N + 1) s2 := by
  sorry
theorem pu_drop {N : Nat} {σ : gs_H} (hI : Inv N σ) (x1 : Int32) : ∃ (r : Int32) (s1 : gs_H) (s2 : gs_H), f_X8_drop x1 σ = some (r, s1) ∧ f_X9_drop x1 s1 = some (r, s2) ∧ Inv (N + 1) s2 := by
  sorry
theorem pu_mend {N : Nat} {σ : gs_H} (hI : Inv N σ) : ∃ (r : Int32) (s1 : gs_H) (s2 : gs_H), f_X8_mend σ = some (r, s1) ∧ f_X9_mend s1 = some (r, s2) ∧ Inv (N + 1) s2 := by
  sorry
theorem pu_change {N : Nat} {σ : gs_H} (hI : Inv N σ) (x1 x2 x3 : Int32) : ∃ (r : Int32) (s1 : gs_H) (s2 : gs_H), f_X8_change x1 x2 x3 σ = some (r, s1) ∧ f_X9_change x1 x2 x3 s1 = some (r, s2) ∧ Inv (N + 1) s2 := by
  sorry
theorem pu_best {N : Nat} {σ : gs_H} (hI : Inv N σ) : ∃ (r : Int32) (s1 : gs_H) (s2 : gs_H), f_X8_best σ = some (r, s1) ∧ f_X9_best s1 = some (r, s2) ∧ Inv (N + 1) s2 := by
  sorry
theorem pu_lay {N : Nat} {σ : gs_H} (hI : Inv N σ) (x1 : Int32) : ∃ (r : Int32) (s1 : gs_H) (s2 : gs_H), f_X8_lay x1 σ = some (r, s1) ∧ f_X9_lay x1 s1 = some (r, s2) ∧ Inv (N + 1) s2 := by
  sorry
theorem pu_even {N : Nat} {σ : gs_H} (hI : Inv N σ) : ∃ (r : Int32) (s1 : gs_H) (s2 : gs_H), f_X8_even σ = some (r, s1) ∧ f_X9_even s1 = some (r, s2) ∧ Inv (N + 1) s2 := by
  sorry
theorem pu_odds {N : Nat} {σ : gs_H} (hI : Inv N σ) (x1 : Int32) : ∃ (r : Int32) (s1 : gs_H) (s2 : gs_H), f_X8_odds x1 σ = some (r, s1) ∧ f_X9_odds x1 s1 = some (r, s2) ∧ Inv (N + 1) s2 := by
  sorry
theorem pu_see {N : Nat} {σ : gs_H} (hI : Inv N σ) (x1 x2 x3 x4 : Int32) : ∃ (r : Int32) (s1 : gs_H) (s2 : gs_H), f_X8_see x1 x2 x3 x4 σ = some (r, s1) ∧ f_X9_see x1 x2 x3 x4 s1 = some (r, s2) ∧ Inv (N + 1) s2 := by
  sorry
theorem pu_forget {N : Nat} {σ : gs_H} (hI : Inv N σ) : ∃ (r : Int32) (s1 : gs_H) (s2 : gs_H), f_X8_forget σ = (r, s1) ∧ f_X9_forget s1 = (r, s2) ∧ Inv (N + 1) s2 := by
  sorry
theorem pu_trial {N : Nat} {σ : gs_H} (hI : Inv N σ) (x1 x2 : Int32) : ∃ (r : Int32), f_X8_trial x1 x2 σ = some r ∧ f_X9_trial x1 x2 σ = some r ∧ Inv (N + 1) σ := by
  sorry
theorem pu_evenings {N : Nat} {σ : gs_H} (hI : Inv N σ) (x1 x2 x3 : Int32) : ∃ (r : Int32) (s1 : gs_H) (s2 : gs_H), f_X8_evenings x1 x2 x3 σ = some (r, s1) ∧ f_X9_evenings x1 x2 x3 s1 = some (r, s2) ∧ Inv (N + 1) s2 := by
  sorry
theorem pu_image {N : Nat} {σ : gs_H} (hI : Inv N σ) : ∃ (r : Int32) (s1 : gs_H) (s2 : gs_H), f_X8_image σ = some (r, s1) ∧ f_X9_image s1 = some (r, s2) ∧ Inv (N + 1) s2 := by
  sorry
theorem pu_restore {N : Nat} {σ : gs_H} (hI : Inv N σ) : ∃ (r : Int32) (s1 : gs_H) (s2 : gs_H), f_X8_restore σ = some (r, s1) ∧ f_X9_restore s1 = some (r, s2) ∧ Inv (N + 1) s2 := by
  sorry
theorem pu_count {N : Nat} {σ : gs_H} (hI : Inv N σ) (x1 : Int32) : ∃ (r : Int32) (s1 : gs_H) (s2 : gs_H), f_X8_count x1 σ = some (r, s1) ∧ f_X9_count x1 s1 = some (r, s2) ∧ Inv (N + 1) s2 := by
  sorry
theorem pu_digest {N : Nat} {σ : gs_H} (hI : Inv N σ) : ∃ (r : Int64) (s1 : gs_H) (s2 : gs_H), f_X8_digest σ = some (r, s1) ∧ (∀ g, ∃ g2, f_X9_digest s1 g = some (r, s2, g2)) ∧ Inv (N + 1) s2 := by
  sorry
