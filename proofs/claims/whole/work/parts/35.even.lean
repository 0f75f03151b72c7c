/-! PURE: hours until all is level, evenings -/
theorem fst_st (p : Nat → Bool) (n k : Nat) (h : p n = false) : fst p n (k + 1) = fst p (n + 1) k := by rw [fst, h]; rfl
theorem fst_hit (p : Nat → Bool) (n k : Nat) (h : p n = true) : fst p n (k + 1) = some n := by rw [fst, h]; rfl
def evP (M : MD) (n : Nat) : Bool := AL M (mL M) (mH M + n)
def evA (M : MD) : Int32 := match fst (evP M) 0 21 with
  | some n => nI n
  | none => -1
theorem p_even {M : MD} {σ : gs_H} (hW : WF M) (hR : RC 9 M σ) : ∃ s, f_X0_hoursUntilLevel σ = some (evA M, s) ∧ SE σ s := by
  have h5 := hW.1.r5
  have key : ∃ e, lp b_X0_hoursUntilLevel_2 1000 ((0 : Int32), σ) = some e ∧ ((∃ n s, e = .inl (nI n, s) ∧ fst (evP M) 0 21 = some n ∧ SE σ s) ∨ (∃ s, e = .inr s ∧ fst (evP M) 0 21 = none ∧ SE σ s)) := by
    refine lp_ok (fun n y => y.1 = nI n ∧ SE σ y.2 ∧ fst (evP M) n (21 - n) = fst (evP M) 0 21) 21 (by omega) _ ?_ ⟨rfl, SE.rf, rfl⟩
    rintro n ⟨y, s⟩ hn ⟨rfl, h1, h2⟩
    dsimp only at h1 h2
    have hRs := h1.RC9 hR
    have e92 : s 9 2 = nI (mH M) := hRs.2.2.1
    unfold b_X0_hoursUntilLevel_2
    dsimp only
    by_cases hc : n < 21
    · have q1 : ¬ (20 : Int32) < nI n := by rw [c20, k_lt (by omega) (by omega)]; omega
      obtain ⟨u1, a1, a2, a3, a4⟩ := p_prep (S := 51) (H := mH M + n) (by omega) hW hRs
      have sc1 : SE s u1 := SE.of a2 (by simp)
      have hR1 := sc1.RC9 hRs
      have hl : RL0 12 (mT M) (mL M) u1 := fun p hp => (hR1.2.2.2.2.1 p hp).1
      obtain ⟨u2, b1, b2⟩ := p_hangsLevel (S := 51) (cr := 12) (H := mH M + n) (by omega) (by omega) hW hR1 hW.2.1 hl a3 a4
      have sc2 : SE u1 u2 := SE.of b2 (by simp)
      have hall : SE σ u2 := (h1.tr sc1).tr sc2
      rw [if_neg q1, e92, nI_add, a1, Option.bind_some, b1, Option.bind_some]
      dsimp only
      obtain ⟨m, hm⟩ : ∃ m, 21 - n = m + 1 := ⟨20 - n, by omega⟩
      rw [hm] at h2
      cases z : AL M (mL M) (mH M + n)
      · left
        rw [if_pos (show bI false = 0 from rfl)]
        refine ⟨hc, _, rfl, nI_1 _, hall, ?_⟩
        rw [← h2, fst_st (evP M) n m z, show 21 - (n + 1) = m by omega]
      · right
        rw [if_neg (show ¬ bI true = 0 by decide)]
        refine ⟨_, rfl, Or.inl ⟨n, u2, rfl, ?_, hall⟩⟩
        rw [← h2, fst_hit (evP M) n m z]
    · right
      have q1 : (20 : Int32) < nI n := by rw [c20, k_lt (by omega) (by omega)]; omega
      rw [if_pos q1]
      refine ⟨_, rfl, Or.inr ⟨s, rfl, ?_, h1⟩⟩
      rw [← h2, show 21 - n = 0 by omega]
      rfl
  obtain ⟨e, f1, f2⟩ := key
  unfold f_X0_hoursUntilLevel evA
  rw [f1, Option.bind_some]
  rcases f2 with ⟨n, s, rfl, g1, g2⟩ | ⟨s, rfl, g1, g2⟩
  · exact ⟨s, by rw [g1], g2⟩
  · exact ⟨s, by rw [g1], g2⟩
theorem RB.hr {M : MD} {la : Nat → Nat} {hr h2 : Nat} {σ : gs_H} (h : RB M la hr σ) : RB M la h2 (up2 σ 57 17 (nI h2)) := by
  obtain ⟨h1, h2, h3⟩ := h
  refine ⟨h1.same (fun k hk => up2_ne _ _ _ (by rintro rfl; revert hk; decide)) (fun j hj => up2_n2 _ (by rintro rfl; revert hj; decide)), fun p hp => ?_, up2_same _ _ _ _⟩
  rw [up2_n1 _ (by omega)]
  exact h2 p hp
theorem SM.u17 {σ : gs_H} {v : Int32} : SM σ (up2 σ 57 17 v) := ⟨fun k a _ _ _ => up2_ne _ _ _ a, fun j hj => up2_n2 _ (by rintro rfl; revert hj; decide)⟩
theorem SM.u23 {σ : gs_H} {v : Int32} : SM σ (up2 σ 57 23 v) := ⟨fun k a _ _ _ => up2_ne _ _ _ a, fun j hj => up2_n2 _ (by rintro rfl; revert hj; decide)⟩
theorem SM.beg {σ s : gs_H} (h3 : ∀ k, k ≠ 57 → k ≠ 65 → s k = σ k) (h4 : ∀ j, j ≠ 17 → s 57 j = σ 57 j) : SM σ s := ⟨fun k a b _ _ => h3 k a b, fun j hj => h4 j (by rintro rfl; revert hj; decide)⟩
theorem p_meven {M : MD} {σ : gs_H} (hW : WF M) (hR : RM M σ) : ∃ s, f_X9_evenOf σ = some (evA M, s) ∧ SM σ s := by
  have h5 := hW.1.r5
  have hh := hW.2.2.1
  obtain ⟨B, b1, b2, b3, b4⟩ := p_there hW hR
  have b5 := ones_B (M := M) (B := B) (f := TH M) (n := mR M) (by omega) b3 (by omega) b4
  have hNT : cnt (TH M) (mR M) = NT M := rfl
  have hNT5 : NT M ≤ mR M := cnt_le _ _
  rw [hNT] at b5
  have key : ∃ e, lp (b_X9_evenOf_10 (nI (NT M))) 1000 ((0 : Int32), σ) = some e ∧ ((∃ n s, e = .inl (nI n, s) ∧ fst (evP M) 0 21 = some n ∧ SM σ s) ∨ (∃ s, e = .inr s ∧ fst (evP M) 0 21 = none ∧ SM σ s)) := by
    refine lp_ok (fun n y => y.1 = nI n ∧ SM σ y.2 ∧ fst (evP M) n (21 - n) = fst (evP M) 0 21) 21 (by omega) _ ?_ ⟨rfl, SM.rf, rfl⟩
    rintro n ⟨y, s⟩ hn ⟨rfl, h1, h2⟩
    dsimp only at h1 h2
    have hRs := h1.RMs hR
    unfold b_X9_evenOf_10
    dsimp only
    have e21 : (21 : Int32) = nI 21 := rfl
    by_cases hc : n < 21
    · have q1 : ¬ (21 : Int32) ≤ nI n := by rw [e21, k_le (by omega) (by omega)]; omega
      obtain ⟨u1, a1, a2, a3, a4⟩ := p_begin hW hRs
      have e6 : u1 57 6 = nI (mH M) := a2.1.2.2.1
      obtain ⟨u2, d1, d2, -⟩ := p_levelThen hW hW.2.1 (a2.hr (h2 := mH M + n)) (by omega)
      have hall : SM σ u2 := ((h1.tr (SM.beg a3 a4)).tr SM.u17).tr (SM.of d2 (by simp))
      rw [if_neg q1, a1, Option.bind_some, e6, nI_add, d1, Option.bind_some]
      dsimp only
      obtain ⟨m, hm⟩ : ∃ m, 21 - n = m + 1 := ⟨20 - n, by omega⟩
      rw [hm] at h2
      have hLV := LV_le hW (mL M) (mH M + n)
      by_cases z : LV M (mL M) (mH M + n) = NT M
      · right
        have z' : evP M n = true := by unfold evP AL; exact decide_eq_true z
        rw [if_pos (congrArg nI z)]
        refine ⟨_, rfl, Or.inl ⟨n, u2, rfl, ?_, hall⟩⟩
        rw [← h2, fst_hit _ _ _ z']
      · left
        have z' : evP M n = false := by unfold evP AL; exact decide_eq_false z
        rw [if_neg (fun q => z ((nI_eq (by omega) (by omega)).mp q))]
        refine ⟨hc, _, rfl, nI_1 _, hall, ?_⟩
        rw [← h2, fst_st _ _ _ z', show 21 - (n + 1) = m by omega]
    · right
      have q1 : (21 : Int32) ≤ nI n := by rw [e21, k_le (by omega) (by omega)]; omega
      rw [if_pos q1]
      refine ⟨_, rfl, Or.inr ⟨s, rfl, ?_, h1⟩⟩
      rw [← h2, show 21 - n = 0 by omega]
      rfl
  obtain ⟨e, f1, f2⟩ := key
  unfold f_X9_evenOf evA
  rw [b1, Option.bind_some, b5, Option.bind_some, f1, Option.bind_some]
  rcases f2 with ⟨n, s, rfl, g1, g2⟩ | ⟨s, rfl, g1, g2⟩
  · exact ⟨s, by rw [g1], g2⟩
  · exact ⟨s, by rw [g1], g2⟩
theorem pu_even {N : Nat} {σ : gs_H} (hI : Inv N σ) : ∃ (r : Int32) (s1 : gs_H) (s2 : gs_H), f_X8_even σ = some (r, s1) ∧ f_X9_even s1 = some (r, s2) ∧ Inv (N + 1) s2 := by
  have hI0 := hI
  obtain ⟨M, L, pg, hW, hC, hM, hP, hQ⟩ := hI
  obtain ⟨s1, a1, a2⟩ := p_even hW hC
  obtain ⟨s2, b1, b2⟩ := p_meven hW (a2.RMs hM)
  rcases has_m hW hC hM with ⟨h0, h1, h2⟩ | ⟨h0, h1, h2⟩
  · refine ⟨-103, σ, σ, ?_, ?_, Inv_up hI0⟩
    · unfold f_X8_even; rw [h1, if_pos rfl]
    · unfold f_X9_even; rw [h2, if_neg (by decide)]
  · have h2' : f_X9_lacks s1 = 0 := by rw [← h2]; unfold f_X9_lacks; rw [a2 57 (by omega)]
    refine ⟨evA M, s1, s2, ?_, ?_, Inv_up ((hI0.sc a2.sc).sm b2)⟩
    · unfold f_X8_even
      rw [h1, if_neg (by decide), a1]
      rfl
    · unfold f_X9_even
      rw [h2', if_pos rfl, b1]
      rfl
/-- the next seed, what is drawn -/
def nx (s : Int32) : Int32 := ((((1103515245 : Int64) * s.toInt64) + (12345 : Int64)) &&& (2147483647 : Int64)).toInt32
def dr (t : Nat) (s : Int32) : Nat := (nx s).toNatClampNeg / 65536 % t
theorem nx_of (s : Int32) : ∃ m, m < 2147483648 ∧ nx s = nI m := by
  unfold nx
  generalize ((1103515245 : Int64) * s.toInt64) + (12345 : Int64) = x
  have e : (x &&& (2147483647 : Int64)) = Int64.ofNat (x.toBitVec.toNat &&& 2147483647) := by
    refine Int64.toBitVec_inj.mp ?_
    refine BitVec.eq_of_toNat_eq ?_
    rw [Int64.toBitVec_and, BitVec.toNat_and]
    show _ = (BitVec.ofNat 64 (x.toBitVec.toNat &&& 2147483647)).toNat
    rw [BitVec.toNat_ofNat, Nat.mod_eq_of_lt (Nat.lt_of_le_of_lt Nat.and_le_right (by decide))]
    rfl
  refine ⟨x.toBitVec.toNat &&& 2147483647, Nat.lt_of_le_of_lt Nat.and_le_right (by decide), ?_⟩
  rw [e]
  exact Int64.toInt32_ofNat'
theorem dr_eq (t : Nat) (h0 : 0 < t) (ht : t ≤ 6) (s : Int32) : nx s / (65536 : Int32) - nx s / (65536 : Int32) / nI t * nI t = nI (dr t s) ∧ dr t s < t := by
  obtain ⟨m, hm, e⟩ := nx_of s
  unfold dr
  rw [e, k_cl hm, show (65536 : Int32) = nI 65536 from rfl, k_div hm (by omega) (by omega), k_div (by omega) h0 (by omega), pk_mul, k_sub (Nat.div_mul_le_self _ _)]
  refine ⟨?_, Nat.mod_lt _ h0⟩
  have := Nat.div_add_mod (m / 65536) t
  rw [Nat.mul_comm] at this
  rw [show m / 65536 - m / 65536 / t * t = m / 65536 % t by omega]
theorem p_draw0 {t : Nat} (h0 : 0 < t) (ht : t ≤ 6) (σ : gs_H) : f_X0_draw (nI t) σ = some (nI (dr t (σ 50 2)), up2 σ 50 2 (nx (σ 50 2))) := by
  have e := (dr_eq t h0 ht (σ 50 2)).1
  unfold f_X0_draw
  rw [if_neg (show ¬ nI t ≤ 0 by rw [c0, k_le (by omega) (by omega)]; omega), if_pos (show ¬ nI t = 0 by rw [c0, k_eq (by omega) (by omega)]; omega), ← e]
  rfl
theorem p_draw9 {t : Nat} (h0 : 0 < t) (ht : t ≤ 6) (σ : gs_H) : f_X9_draw (nI t) σ = some (nI (dr t (σ 57 23)), up2 σ 57 23 (nx (σ 57 23))) := by
  have e := (dr_eq t h0 ht (σ 57 23)).1
  unfold f_X9_draw
  rw [if_pos (show ¬ nI t = 0 by rw [c0, k_eq (by omega) (by omega)]; omega), ← e]
  rfl
/-- the evenings: seed, how things lie, how many were level -/
def ev (M : MD) (x : Int32) : Nat → Int32 × (Nat → Nat) × Int32
  | 0 => (x, mL M, nI 0)
  | k + 1 =>
    let s := (ev M x k).1
    let i := dr (mT M) s
    let j := dr (mT M) (nx s)
    let la := if i ≠ j ∧ mC M i = false ∧ mC M j = false then (fun p => swN i j ((ev M x k).2.1 p)) else (ev M x k).2.1
    (nx (nx s), la, (ev M x k).2.2 + nI (LV M la (mH M + (k + 1))))
theorem ev_WP {M : MD} (hW : WF M) (h0 : 0 < mT M) (x : Int32) : ∀ k, WP (mT M) (ev M x k).2.1
  | 0 => hW.2.1
  | k + 1 => by
    have ih := ev_WP hW h0 x k
    show WP (mT M) (if _ then _ else _)
    by_cases z : dr (mT M) (ev M x k).1 ≠ dr (mT M) (nx (ev M x k).1) ∧ mC M (dr (mT M) (ev M x k).1) = false ∧ mC M (dr (mT M) (nx (ev M x k).1)) = false
    · rw [if_pos z]; exact ih.sw (Nat.mod_lt _ h0) (Nat.mod_lt _ h0)
    · rw [if_neg z]; exact ih
theorem p_copy56 {σ : gs_H} : ∃ s, lp b_X0_pass_13 1000 ((0 : Int32), σ) = some s ∧ (Same [56] σ s ∧ ∀ j, j < 6 → s 56 j = σ 12 j) := by
  refine lp_ok (fun i y => y.1 = nI i ∧ Same [56] σ y.2 ∧ ∀ j, j < i → y.2 56 j = σ 12 j) 6 (by omega) _ ?_ ⟨rfl, Same.rf, fun j hj => by omega⟩
  rintro i ⟨y, s⟩ hi ⟨rfl, h1, h2⟩
  dsimp only at h1 h2
  have ea : s 12 = σ 12 := h1 12 (by simp)
  by_cases hc : i < 6
  · left
    refine ⟨hc, ?_⟩
    have hb : b_X0_pass_13 (nI i, s) = some (.inl (nI (i + 1), up2 s 56 i (σ 12 i))) := by
      unfold b_X0_pass_13
      have q1 : ¬ 6 ≤ i := by omega
      simp (disch := omega) only [c0, c1, c2, c3, c4, c5, c6, c7, c8, c9, c10, c11, c12, c15, c20, c24, c30, c31, c45, c46, c48, c49, c57, c60, c97, c98, c99, c100, c101, c102, c108, c111, c126, c720, c999, c10000, nI_add, pk_mul, k_cl, k_lt, k_le, k_eq, k_sub, k_div, k_m1, ea, inb_N, q1, hc, ↓reduceIte]
    refine ⟨_, hb, rfl, h1.up (by simp), fun j hj => ?_⟩
    dsimp only
    by_cases z : j = i
    · subst z; exact up2_same _ _ _ _
    · rw [up2_n2 _ z]; exact h2 j (by omega)
  · right
    have hb : b_X0_pass_13 (nI i, s) = some (.inr s) := by
      unfold b_X0_pass_13
      have q1 : 6 ≤ i := by omega
      simp (disch := omega) only [c0, c1, c2, c3, c4, c5, c6, c7, c8, c9, c10, c11, c12, c15, c20, c24, c30, c31, c45, c46, c48, c49, c57, c60, c97, c98, c99, c100, c101, c102, c108, c111, c126, c720, c999, c10000, nI_add, pk_mul, k_cl, k_lt, k_le, k_eq, k_sub, k_div, k_m1, q1, ↓reduceIte]
    exact ⟨_, hb, h1, fun j hj => h2 j (by omega)⟩
/-- what stands in the class after k evenings -/
def EC (M : MD) (x : Int32) (σ : gs_H) (k : Nat) (s : gs_H) : Prop := SE σ s ∧ RL0 56 (mT M) (ev M x k).2.1 s ∧ s 50 2 = (ev M x k).1 ∧ s 50 0 = (ev M x k).2.2 ∧ (0 < k → s 53 0 = TI M (ev M x k).2.1 (mH M + k) 0)
theorem p_pass {M : MD} {σ : gs_H} (hW : WF M) (hR : RC 9 M σ) (h0 : 0 < mR M) (x : Int32) {n : Nat} (hn : 1 ≤ n) (hn2 : n ≤ 60) : ∃ s, f_X0_pass (nI n) x σ = some s ∧ SE σ s ∧ s 50 0 = (ev M x n).2.2 ∧ s 50 1 = TI M (ev M x n).2.1 (mH M + n) 0 ∧ s 50 2 = (ev M x n).1 := by
  have h5 := hW.1.r5
  have hT0 : 0 < mT M := by omega
  obtain ⟨s1, a1, a2, a3⟩ := p_copy56 (σ := up2 (up2 σ 50 2 x) 50 0 (0 : Int32))
  have sc1 : SE σ s1 := by
    refine SE.tr (s := up2 (up2 σ 50 2 x) 50 0 (0 : Int32)) ?_ (SE.of a2 (by simp))
    intro k hk
    rw [up2_ne _ _ _ (by omega), up2_ne _ _ _ (by omega)]
  have hE0 : EC M x σ 0 s1 := by
    refine ⟨sc1, fun p hp => ?_, ?_, ?_, fun q => by omega⟩
    · rw [a3 p (by omega), up2_n1 _ (by omega), up2_n1 _ (by omega)]
      exact (hR.2.2.2.2.1 p hp).1
    · rw [a2 50 (by simp), up2_n2 _ (by omega), up2_same]; rfl
    · rw [a2 50 (by simp), up2_same]; rfl
  have key : ∃ e, lp (b_X0_pass_43 (nI n)) 1000 ((1 : Int32), s1) = some e ∧ EC M x σ n e := by
    refine lp_ok (fun k y => y.1 = nI (k + 1) ∧ EC M x σ k y.2) n (by omega) _ ?_ ⟨rfl, hE0⟩
    rintro k ⟨y, s⟩ hk ⟨rfl, hE⟩
    dsimp only at hE
    obtain ⟨g1, g2, g3, g4, g5⟩ := hE
    unfold b_X0_pass_43
    dsimp only
    by_cases hc : k < n
    · left
      refine ⟨hc, ?_⟩
      have q1 : ¬ nI n < nI (k + 1) := by rw [k_lt (by omega) (by omega)]; omega
      have hRs := g1.RC9 hR
      have e91 : s 9 1 = nI (mT M) := hRs.2.1
      have d1 := p_draw0 hT0 h5.2.1 s
      rw [g3] at d1
      obtain ⟨u1, hu1⟩ : ∃ u1, u1 = up2 s 50 2 (nx (ev M x k).1) := ⟨_, rfl⟩
      have v1 : u1 50 2 = nx (ev M x k).1 := by rw [hu1, up2_same]
      have d2 := p_draw0 hT0 h5.2.1 u1
      rw [v1] at d2
      obtain ⟨u2, hu2⟩ : ∃ u2, u2 = up2 u1 50 2 (nx (nx (ev M x k).1)) := ⟨_, rfl⟩
      have eu1 : ∀ k, k ≠ 50 → u1 k = s k := fun k h => by rw [hu1]; exact up2_ne _ _ _ h
      have eu2 : ∀ k, k ≠ 50 → u2 k = s k := fun k h => by rw [hu2, up2_ne _ _ _ h]; exact eu1 k h
      have scu : SE s u2 := fun k hk => eu2 k (by omega)
      have hR2 := scu.RC9 hRs
      have f0 : u2 50 0 = (ev M x k).2.2 := by rw [hu2, up2_n2 _ (by omega), hu1, up2_n2 _ (by omega)]; exact g4
      have f2 : u2 50 2 = (ev M x (k + 1)).1 := by rw [hu2, up2_same]; rfl
      -- once things lie as they do, the rest
      have rest : ∀ (u : gs_H), SE s u → u 50 = u2 50 → RL0 56 (mT M) (ev M x (k + 1)).2.1 u → ∃ s', j_X0_pass_107 (nI n) (nI (k + 1)) u = some (.inl (nI (k + 1 + 1), s')) ∧ EC M x σ (k + 1) s' := by
        intro u k1 k2 k3
        have hRu := k1.RC9 hRs
        have e92 : u 9 2 = nI (mH M) := hRu.2.2.1
        obtain ⟨t1, b1, b2, b3, b4⟩ := p_prep (S := 51) (H := mH M + (k + 1)) (by omega) hW hRu
        have sct1 : SE u t1 := SE.of b2 (by simp)
        have hl1 : RL0 56 (mT M) (ev M x (k + 1)).2.1 t1 := fun p hp => by rw [b2 56 (by simp)]; exact k3 p hp
        obtain ⟨t2, m1, m2, m3, m4⟩ := p_hang (S := 51) (cr := 56) (H := mH M + (k + 1)) (by omega) (by omega) hW (sct1.RC9 hRu) (ev_WP hW hT0 x (k + 1)) hl1 b3
        have sct2 : SE t1 t2 := SE.of m2 (by simp)
        have m5 := p_rodsLevel (S := 51) (H := mH M + (k + 1)) (la := (ev M x (k + 1)).2.1) hW (sct2.RC9 (sct1.RC9 hRu)) (fun w hw => by rw [m2 (51 + 3) (by simp)]; exact b4 w hw) m4
        have et50 : t2 50 = u2 50 := by rw [m2 50 (by simp), b2 50 (by simp)]; exact k2
        refine ⟨up2 t2 50 0 (t2 50 0 + nI (LV M (ev M x (k + 1)).2.1 (mH M + (k + 1)))), ?_, ?_, ?_, ?_, ?_, ?_⟩
        · unfold j_X0_pass_107
          rw [e92, nI_add, b1, Option.bind_some, m1, Option.bind_some, m5, Option.bind_some, nI_1]
        · refine ((g1.tr k1).tr sct1).tr (sct2.tr ?_)
          intro a ha
          exact up2_ne _ _ _ (by omega)
        · intro p hp
          rw [up2_n1 _ (by omega), m2 56 (by simp)]; exact hl1 p hp
        · rw [up2_n2 _ (by omega), et50]; exact f2
        · rw [up2_same, et50, f0]; rfl
        · intro _
          rw [up2_n1 _ (by omega)]; exact m4 0 h0
      have hev : (ev M x (k + 1)).2.1 = if dr (mT M) (ev M x k).1 ≠ dr (mT M) (nx (ev M x k).1) ∧ mC M (dr (mT M) (ev M x k).1) = false ∧ mC M (dr (mT M) (nx (ev M x k).1)) = false then (fun p => swN (dr (mT M) (ev M x k).1) (dr (mT M) (nx (ev M x k).1)) ((ev M x k).2.1 p)) else (ev M x k).2.1 := rfl
      have hi : dr (mT M) (ev M x k).1 < mT M := Nat.mod_lt _ hT0
      have hj : dr (mT M) (nx (ev M x k).1) < mT M := Nat.mod_lt _ hT0
      rw [if_neg q1, e91, d1, Option.bind_some]
      dsimp only
      rw [← hu1, eu1 9 (by omega), e91, d2, Option.bind_some]
      dsimp only
      rw [← hu2]
      generalize dr (mT M) (ev M x k).1 = i at *
      generalize dr (mT M) (nx (ev M x k).1) = j at *
      have hWP := ev_WP hW hT0 x k
      by_cases z0 : i = j
      · rw [if_pos (congrArg nI z0)]
        rw [if_neg (fun q => q.1 z0)] at hev
        obtain ⟨s', r1, r2⟩ := rest u2 scu rfl (fun p hp => by rw [hev, eu2 56 (by omega)]; exact g2 p hp)
        exact ⟨_, r1, rfl, r2⟩
      · have e1 : u2 15 i = bI (mC M i) := hR2.2.2.2.2.2.1 i (by omega)
        have e2 : u2 15 j = bI (mC M j) := hR2.2.2.2.2.2.1 j (by omega)
        rw [if_neg (fun q => z0 ((nI_eq (by omega) (by omega)).mp q)), if_pos (inb_I (show i < 6 by omega) (by omega))]
        simp only [k_cl (show i < 2147483648 by omega), k_cl (show j < 2147483648 by omega), e1, e2]
        cases z1 : mC M i
        · rw [if_pos (show bI false = 0 from rfl), if_pos (inb_I (show j < 6 by omega) (by omega))]
          cases z2 : mC M j
          · rw [if_pos (show bI false = 0 from rfl)]
            rw [if_pos ⟨z0, z1, z2⟩] at hev
            obtain ⟨u3, w1, w2, w3⟩ := p_swapC (c := 56) (x := nI i) (y := nI j) (σ := u2)
            obtain ⟨s', r1, r2⟩ := rest u3 (scu.tr (SE.of w2 (by simp))) (w2 50 (by simp)) (fun p hp => by
              have := hWP.1 p hp
              rw [hev, w3 p (by omega), eu2 56 (by omega), g2 p hp, swI_N (by omega) (by omega) (by omega)])
            rw [w1, Option.bind_some]
            exact ⟨_, r1, rfl, r2⟩
          · rw [if_neg (show ¬ bI true = 0 by decide)]
            rw [if_neg (fun q => by rw [z2] at q; exact Bool.false_ne_true q.2.2.symm)] at hev
            obtain ⟨s', r1, r2⟩ := rest u2 scu rfl (fun p hp => by rw [hev, eu2 56 (by omega)]; exact g2 p hp)
            exact ⟨_, r1, rfl, r2⟩
        · rw [if_neg (show ¬ bI true = 0 by decide)]
          rw [if_neg (fun q => by rw [z1] at q; exact Bool.false_ne_true q.2.1.symm)] at hev
          obtain ⟨s', r1, r2⟩ := rest u2 scu rfl (fun p hp => by rw [hev, eu2 56 (by omega)]; exact g2 p hp)
          exact ⟨_, r1, rfl, r2⟩
    · right
      have : k = n := by omega
      subst this
      have q1 : nI k < nI (k + 1) := by rw [k_lt (by omega) (by omega)]; omega
      rw [if_pos q1]
      exact ⟨_, rfl, g1, g2, g3, g4, g5⟩
  obtain ⟨e, f1, f2, f3, f4, f5, f6⟩ := key
  refine ⟨up2 e 50 1 (e 53 0), ?_, ?_, ?_, ?_, ?_⟩
  · unfold f_X0_pass
    rw [a1, Option.bind_some, f1, Option.bind_some, if_pos (show inb (0 : Int32) 5 from inb_I (a := 0) (by omega) (by omega))]
    rfl
  · refine f2.tr ?_
    intro a ha
    exact up2_ne _ _ _ (by omega)
  · rw [up2_n2 _ (by omega)]; exact f5
  · rw [up2_same]; exact f6 (by omega)
  · rw [up2_n2 _ (by omega)]; exact f4
def EM (M : MD) (x : Int32) (σ : gs_H) (k : Nat) (s : gs_H) : Prop := SM σ s ∧ RB M (ev M x k).2.1 (mH M + k) s ∧ s 57 23 = (ev M x k).1 ∧ (0 < k → s 67 0 = TI M (ev M x k).2.1 (mH M + k) 0)
theorem p_mpass {M : MD} {σ : gs_H} (hW : WF M) (hR : RM M σ) (h0 : 0 < mR M) (x : Int32) {n : Nat} (hn : 1 ≤ n) (hn2 : n ≤ 60) : ∃ s0 s, f_X9_begin (up2 σ 57 23 x) = some s0 ∧ lp (b_X9_evenings_56 (nI n)) 1000 ((0 : Int32), (0 : Int32), s0) = some ((ev M x n).2.2, s) ∧ EM M x σ n s := by
  have h5 := hW.1.r5
  have hh := hW.2.2.1
  have hT0 : 0 < mT M := by omega
  have hR0 : RM M (up2 σ 57 23 x) := SM.u23.RMs hR
  obtain ⟨s1, a1, a2, a3, a4⟩ := p_begin hW hR0
  have hE0 : EM M x σ 0 s1 := by
    refine ⟨SM.u23.tr (SM.beg a3 a4), a2, ?_, fun q => by omega⟩
    rw [a4 23 (by omega), up2_same]; rfl
  have key : ∃ e, lp (b_X9_evenings_56 (nI n)) 1000 ((0 : Int32), (0 : Int32), s1) = some e ∧ (e.1 = (ev M x n).2.2 ∧ EM M x σ n e.2) := by
    refine lp_ok (fun k y => y.1 = (ev M x k).2.2 ∧ y.2.1 = nI k ∧ EM M x σ k y.2.2) n (by omega) _ ?_ ⟨rfl, rfl, hE0⟩
    rintro k ⟨y1, y2, s⟩ hk ⟨rfl, rfl, hE⟩
    dsimp only at hE
    obtain ⟨g1, g2, g3, g4⟩ := hE
    unfold b_X9_evenings_56
    dsimp only
    by_cases hc : k < n
    · left
      refine ⟨hc, ?_⟩
      have q1 : ¬ nI n ≤ nI k := by rw [k_le (by omega) (by omega)]; omega
      have e5 : s 57 5 = nI (mT M) := g2.1.2.1
      have d1 := p_draw9 hT0 h5.2.1 s
      rw [g3] at d1
      obtain ⟨u1, hu1⟩ : ∃ u1, u1 = up2 s 57 23 (nx (ev M x k).1) := ⟨_, rfl⟩
      have v1 : u1 57 23 = nx (ev M x k).1 := by rw [hu1, up2_same]
      have d2 := p_draw9 hT0 h5.2.1 u1
      rw [v1] at d2
      obtain ⟨u2, hu2⟩ : ∃ u2, u2 = up2 u1 57 23 (nx (nx (ev M x k).1)) := ⟨_, rfl⟩
      have sm1 : SM s u1 := by rw [hu1]; exact SM.u23
      have sm2 : SM u1 u2 := by rw [hu2]; exact SM.u23
      have smu := sm1.tr sm2
      have hR2 := smu.RMs g2.1
      have e65 : u2 65 = s 65 := by rw [hu2, up2_ne _ _ _ (by omega), hu1, up2_ne _ _ _ (by omega)]
      have e17 : u2 57 17 = nI (mH M + k) := by rw [hu2, up2_n2 _ (by omega), hu1, up2_n2 _ (by omega)]; exact g2.2.2
      have f2 : u2 57 23 = (ev M x (k + 1)).1 := by rw [hu2, up2_same]; rfl
      have e51 : u1 57 5 = nI (mT M) := (sm1.RMs g2.1).2.1
      have rest : ∀ (u : gs_H), SM s u → u 57 = u2 57 → (∀ p, p < mT M → u 65 p = nI ((ev M x (k + 1)).2.1 p)) → ∃ s', j_X9_evenings_118 (nI n) (ev M x k).2.2 (nI k) u = some (.inl ((ev M x (k + 1)).2.2, nI (k + 1), s')) ∧ EM M x σ (k + 1) s' := by
        intro u k1 k2 k3
        have hRu := k1.RMs g2.1
        have hB : RB M (ev M x (k + 1)).2.1 (mH M + k) u := ⟨hRu, k3, by rw [k2]; exact e17⟩
        obtain ⟨t1, b1, b2, b3, b4⟩ := p_levelThen hW (ev_WP hW hT0 x (k + 1)) (hB.hr (h2 := mH M + (k + 1))) (by omega)
        have eh : u 57 17 + 1 = nI (mH M + (k + 1)) := by rw [k2, e17, nI_1]; rfl
        refine ⟨t1, ?_, ?_, (hB.hr).same b2, ?_, fun _ => b4 0 h0⟩
        · unfold j_X9_evenings_118
          rw [eh, b1, Option.bind_some, nI_1]
          rfl
        · exact ((g1.tr k1).tr SM.u17).tr (SM.of b2 (by simp))
        · rw [b2 57 (by simp), up2_n2 _ (by omega), k2]; exact f2
      have hev : (ev M x (k + 1)).2.1 = if dr (mT M) (ev M x k).1 ≠ dr (mT M) (nx (ev M x k).1) ∧ mC M (dr (mT M) (ev M x k).1) = false ∧ mC M (dr (mT M) (nx (ev M x k).1)) = false then (fun p => swN (dr (mT M) (ev M x k).1) (dr (mT M) (nx (ev M x k).1)) ((ev M x k).2.1 p)) else (ev M x k).2.1 := rfl
      have hi : dr (mT M) (ev M x k).1 < mT M := Nat.mod_lt _ hT0
      have hj : dr (mT M) (nx (ev M x k).1) < mT M := Nat.mod_lt _ hT0
      rw [if_neg q1, e5, d1, Option.bind_some]
      dsimp only
      rw [← hu1, e51, d2, Option.bind_some]
      dsimp only
      rw [← hu2]
      generalize dr (mT M) (ev M x k).1 = i at *
      generalize dr (mT M) (nx (ev M x k).1) = j at *
      have hWP := ev_WP hW hT0 x k
      by_cases z0 : i = j
      · rw [if_pos (congrArg nI z0)]
        rw [if_neg (fun q => q.1 z0)] at hev
        obtain ⟨s', r1, r2⟩ := rest u2 smu rfl (fun p hp => by rw [hev, e65]; exact g2.2.1 p hp)
        exact ⟨_, r1, rfl, rfl, r2⟩
      · rw [if_neg (fun q => z0 ((nI_eq (by omega) (by omega)).mp q)), isCut_eq hR2 (p := i) (by omega), isCut_eq hR2 (p := j) (by omega)]
        cases z1 : mC M i
        · rw [if_pos (show bI false = 0 from rfl)]
          cases z2 : mC M j
          · rw [if_pos (show bI false = 0 from rfl)]
            rw [if_pos ⟨z0, z1, z2⟩] at hev
            obtain ⟨u3, w1, w2, w3⟩ := p_swapM (c := 65) (x := nI i) (y := nI j) (σ := u2)
            obtain ⟨s', r1, r2⟩ := rest u3 (smu.tr (SM.of w2 (by simp))) (w2 57 (by simp)) (fun p hp => by
              have := hWP.1 p hp
              rw [hev, w3 p (by omega), e65, g2.2.1 p hp, swI_N (by omega) (by omega) (by omega)])
            rw [w1, Option.bind_some]
            exact ⟨_, r1, rfl, rfl, r2⟩
          · rw [if_neg (show ¬ bI true = 0 by decide)]
            rw [if_neg (fun q => by rw [z2] at q; exact Bool.false_ne_true q.2.2.symm)] at hev
            obtain ⟨s', r1, r2⟩ := rest u2 smu rfl (fun p hp => by rw [hev, e65]; exact g2.2.1 p hp)
            exact ⟨_, r1, rfl, rfl, r2⟩
        · rw [if_neg (show ¬ bI true = 0 by decide)]
          rw [if_neg (fun q => by rw [z1] at q; exact Bool.false_ne_true q.2.1.symm)] at hev
          obtain ⟨s', r1, r2⟩ := rest u2 smu rfl (fun p hp => by rw [hev, e65]; exact g2.2.1 p hp)
          exact ⟨_, r1, rfl, rfl, r2⟩
    · right
      have : k = n := by omega
      subst this
      rw [if_pos (Int32.le_refl _)]
      exact ⟨_, rfl, rfl, g1, g2, g3, g4⟩
  obtain ⟨⟨e1, e2⟩, f1, f2, f3⟩ := key
  dsimp only at f2 f3
  subst f2
  exact ⟨s1, e2, a1, f1, f3⟩
theorem in160 (x : Int32) : f_X9_in x.toInt64 (1 : Int64) (60 : Int64) = if 1 ≤ x ∧ x ≤ 60 then 1 else 0 := in_eq x 1 60
theorem pu_evenings {N : Nat} {σ : gs_H} (hI : Inv N σ) (x1 x2 x3 : Int32) : ∃ (r : Int32) (s1 : gs_H) (s2 : gs_H), f_X8_evenings x1 x2 x3 σ = some (r, s1) ∧ f_X9_evenings x1 x2 x3 s1 = some (r, s2) ∧ Inv (N + 1) s2 := by
  have hI0 := hI
  obtain ⟨M, L, pg, hW, hC, hM, hP, hQ⟩ := hI
  by_cases r1 : (1 : Int32) ≤ x1 ∧ x1 ≤ 60
  · by_cases r2 : x2 < 0
    · refine ⟨-102, σ, σ, ?_, ?_, Inv_up hI0⟩
      · unfold f_X8_evenings
        rw [if_neg (Int32.not_lt.mpr r1.1), if_neg (Int32.not_lt.mpr r1.2), if_pos r2]
      · unfold f_X9_evenings
        rw [in160, if_pos r1, if_neg (by decide), if_pos r2]
    · by_cases r3 : (0 : Int32) ≤ x3 ∧ x3 ≤ 2
      · rcases has_m hW hC hM with ⟨h0, h1, h2⟩ | ⟨h0, h1, h2⟩
        · refine ⟨-103, σ, σ, ?_, ?_, Inv_up hI0⟩
          · unfold f_X8_evenings
            rw [if_neg (Int32.not_lt.mpr r1.1), if_neg (Int32.not_lt.mpr r1.2), if_neg r2, if_neg (Int32.not_lt.mpr r3.1), if_pos r3.2, h1, if_pos rfl]
          · unfold f_X9_evenings
            rw [in160, if_pos r1, if_neg (by decide), if_neg r2, in02, if_pos r3, if_neg (by decide), h2, if_neg (by decide)]
        · obtain ⟨n, hn1, hn2, rfl⟩ := rng (a := 1) (b := 60) r1.1 r1.2 (by omega) (by omega)
          obtain ⟨s1, a1, a2, a3, a4, a5⟩ := p_pass hW hC h0 x2 hn1 hn2
          obtain ⟨u0, s2, b0, b1, b2, b3, b4, b5⟩ := p_mpass hW (a2.RMs hM) h0 x2 hn1 hn2
          have h2' : f_X9_lacks s1 = 0 := by rw [← h2]; unfold f_X9_lacks; rw [a2 57 (by omega)]
          have b5' := b5 (by omega)
          refine ⟨if x3 = 0 then (ev M x2 n).2.2 else if x3 = 1 then TI M (ev M x2 n).2.1 (mH M + n) 0 + 10000 else (ev M x2 n).1, s1, s2, ?_, ?_, Inv_up ((hI0.sc a2.sc).sm b2)⟩
          · unfold f_X8_evenings
            rw [if_neg (Int32.not_lt.mpr r1.1), if_neg (Int32.not_lt.mpr r1.2), if_neg r2, if_neg (Int32.not_lt.mpr r3.1), if_pos r3.2, h1, if_neg (by decide), a1, Option.bind_some, a3, a4, a5]
            by_cases z0 : x3 = 0
            · rw [if_pos z0, if_pos z0]
            · rw [if_neg z0, if_neg z0]
              by_cases z1 : x3 = 1
              · rw [if_pos z1, if_pos z1]
              · rw [if_neg z1, if_neg z1]
          · unfold f_X9_evenings
            rw [in160, if_pos r1, if_neg (by decide), if_neg r2, in02, if_pos r3, if_neg (by decide), h2', if_pos rfl, b0, Option.bind_some, b1, Option.bind_some]
            by_cases z0 : x3 = 0
            · rw [if_pos z0, if_pos z0]
            · rw [if_neg z0, if_neg z0]
              by_cases z1 : x3 = 1
              · rw [if_pos z1, if_pos z1, if_pos (show inb (0 : Int32) 5 from inb_I (a := 0) (by omega) (by omega))]
                show some ((10000 : Int32) + s2 67 0, s2) = _
                rw [b5', Int32.add_comm]
              · rw [if_neg z1, if_neg z1]
                show some (s2 57 23, s2) = _
                rw [b4]
      · refine ⟨-102, σ, σ, ?_, ?_, Inv_up hI0⟩
        · unfold f_X8_evenings
          rw [if_neg (Int32.not_lt.mpr r1.1), if_neg (Int32.not_lt.mpr r1.2), if_neg r2]
          by_cases z : x3 < 0
          · rw [if_pos z]
          · rw [if_neg z, if_neg (fun q => r3 ⟨Int32.not_lt.mp z, q⟩)]
        · unfold f_X9_evenings
          rw [in160, if_pos r1, if_neg (by decide), if_neg r2, in02, if_neg r3, if_pos rfl]
  · refine ⟨-102, σ, σ, ?_, ?_, Inv_up hI0⟩
    · unfold f_X8_evenings
      by_cases z : x1 < 1
      · rw [if_pos z]
      · rw [if_neg z, if_pos (Int32.not_le.mp (fun q => r1 ⟨Int32.not_lt.mp z, q⟩))]
    · unfold f_X9_evenings
      rw [in160, if_neg r1, if_pos rfl]
