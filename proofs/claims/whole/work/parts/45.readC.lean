/-! PURE: a letter of a rod -/
theorem SM.u2 {σ : gs_H} {v : Int32} : SM σ (up2 σ 57 2 v) := ⟨fun k a _ _ _ => up2_ne _ _ _ a, fun j hj => up2_n2 _ (by rintro rfl; revert hj; decide)⟩
theorem SM.u3 {σ : gs_H} {v : Int32} : SM σ (up2 σ 57 3 v) := ⟨fun k a _ _ _ => up2_ne _ _ _ a, fun j hj => up2_n2 _ (by rintro rfl; revert hj; decide)⟩
theorem mh_56 {u : gs_H} {r d B : Nat} (hr : r ≤ 4) (hd : d ≤ 1) (hB : B < 32) (hB0 : B.testBit 0 = false) (h3 : u 57 3 = nI B) : j_X9_isHanging_56 (nI r) (nI d) u = ((if fw (2 * r + d) B then 1 else 0), u) := by
  have ts := tp_sh ⟨B, hB⟩ ⟨r + 1, by omega⟩ hB0 (by show 0 < r + 1; omega)
  dsimp only at ts
  have eb := bitI (B := B) (p := r + 1) (by omega) (by omega)
  unfold j_X9_isHanging_56 j_X9_isHanging_72
  rw [h3, nI_1, eb]
  have a1 : (2 * r + d) / 2 = r := by omega
  have a2 : (2 * r + d) % 2 = d := by omega
  unfold fw
  rw [a1, a2]
  rcases (show d = 0 ∨ d = 1 by omega) with rfl | rfl
  · rw [if_pos (show nI 0 = 0 from rfl), if_pos (show nI 0 = 0 from rfl)]
    by_cases z : tp B < r + 1
    · rw [if_pos (ts.mpr z)]; rfl
    · rw [if_neg (fun q => z (ts.mp q))]; rfl
  · rw [if_neg (show ¬ nI 1 = 0 by decide), if_neg (show ¬ nI 1 = 0 by decide)]
    by_cases z : tp B < r + 1
    · rw [if_pos (ts.mpr z), if_pos rfl, decide_eq_true z]
      rfl
    · rw [if_neg (fun q => z (ts.mp q)), if_neg (by decide), decide_eq_false z]
      cases B.testBit (r + 1)
      · rw [if_neg (show ¬ bI false = 1 by decide)]; rfl
      · rw [if_pos (show bI true = 1 by decide)]; rfl
theorem mh {u : gs_H} {r d B x : Nat} (hr : r ≤ 4) (hd : d ≤ 1) (hB : B < 32) (hB0 : B.testBit 0 = false) (h3 : u 57 3 = nI B) (hx : x ≤ 126) : (¬ okE r B x → f_X9_isHanging (nI x) (nI r) (nI d) u = (0, u)) ∧ (okE r B x → ∃ u', f_X9_isHanging (nI x) (nI r) (nI d) u = ((if fw (2 * r + d) (nB B x) then 1 else 0), u') ∧ SM u u' ∧ u' 57 2 = u 57 2 ∧ u' 57 3 = nI (nB B x)) := by
  by_cases z : x = 42
  · refine ⟨fun h => absurd (Or.inl z) h, fun ho => ?_⟩
    have eB : nB B x = B := by unfold nB; rw [if_pos z]
    refine ⟨u, ?_, SM.rf, rfl, by rw [eB]; exact h3⟩
    unfold f_X9_isHanging
    rw [if_pos (show nI x = 42 by rw [z]; rfl), mh_56 hr hd hB hB0 h3, eB]
  · have n42 : ¬ nI x = 42 := fun q => z ((nI_eq (b := 42) (by omega) (by omega)).mp q)
    have ein := in_eq (nI x - 48) (nI (r + 1)) 4
    have e64 : (4 : Int32).toInt64 = (4 : Int64) := rfl
    rw [e64] at ein
    unfold f_X9_isHanging
    rw [if_neg n42, nI_1, ein]
    by_cases y : 48 + r < x ∧ x ≤ 52
    · have ex : nI x - 48 = nI (x - 48) := by rw [c48, k_sub (by omega)]
      have yy : nI (r + 1) ≤ nI x - 48 ∧ nI x - 48 ≤ 4 := by
        rw [ex, c4, k_le (by omega) (by omega), k_le (by omega) (by omega)]; omega
      have eb := bitI (B := B) (p := x - 48) (by omega) (by omega)
      have es := bit_set ⟨B, by omega⟩ ⟨x - 48, by omega⟩
      dsimp only at es
      rw [if_pos yy, if_neg (by decide), ex, h3, eb, es]
      cases hb : B.testBit (x - 48)
      · refine ⟨fun h => absurd (Or.inr ⟨y.1, y.2, hb⟩) h, fun ho => ?_⟩
        have eB : nB B x = B ||| 2 ^ (x - 48) := by unfold nB; rw [if_neg z]
        have t1 := tp_or ⟨B, hB⟩ ⟨x - 48, by omega⟩ hB0 (by show 0 < x - 48; omega)
        dsimp only at t1
        rw [if_neg (show ¬ bI false = 1 by decide), eB]
        refine ⟨up2 u 57 3 (nI (B ||| 2 ^ (x - 48))), ?_, SM.u3, up2_n2 _ (by omega), up2_same _ _ _ _⟩
        rw [mh_56 hr hd t1.2.1 t1.2.2 (up2_same _ _ _ _)]
      · rw [if_pos (show bI true = 1 by decide)]
        refine ⟨fun _ => rfl, fun ho => ?_⟩
        rcases ho with ho | ho
        · omega
        · rw [hb] at ho; cases ho.2.2
    · have yy : ¬ (nI (r + 1) ≤ nI x - 48 ∧ nI x - 48 ≤ 4) := by
        rw [Int32.le_iff_toInt_le, Int32.le_iff_toInt_le, c48, pk_sub_toInt (by omega) (by omega), nI_toInt (by omega)]
        have : (4 : Int32).toInt = 4 := rfl
        omega
      rw [if_neg yy, if_pos rfl]
      refine ⟨fun _ => rfl, fun ho => ?_⟩
      rcases ho with ho | ho
      · omega
      · exact absurd ⟨ho.1, ho.2.1⟩ y
theorem in4957 (x : Int32) : f_X9_in x.toInt64 (49 : Int64) (57 : Int64) = if 49 ≤ x ∧ x ≤ 57 then 1 else 0 := in_eq x 49 57
theorem in4857 (x : Int32) : f_X9_in x.toInt64 (48 : Int64) (57 : Int64) = if 48 ≤ x ∧ x ≤ 57 then 1 else 0 := in_eq x 48 57
theorem ite01 {P : Prop} [Decidable P] : ((if P then (1 : Int32) else 0) = 0 ∨ (if P then (1 : Int32) else 0) = 1) := by
  by_cases h : P
  · rw [if_pos h]; exact Or.inr rfl
  · rw [if_neg h]; exact Or.inl rfl
/-- the model at the m-th letter of rod r -/
theorem ml_len {u : gs_H} {r m x : Nat} (hm : m = 0 ∨ m = 2) (hk : 5 * r + m < 46) (hx : x ≤ 126) (h58 : u 58 (5 * r + m) = nI x) : f_X9_isRodLetter (nI (5 * r + m)) u = some ((if 49 ≤ x ∧ x ≤ 57 then 1 else 0), u) := by
  have e1 : nI (5 * r + m) / 5 = nI r := by rw [c5, k_div (by omega) (by omega) (by omega), show (5 * r + m) / 5 = r by omega]
  have e2 : nI (5 * r + m) - nI r * 5 = nI m := by rw [c5, pk_mul, k_sub (by omega), show 5 * r + m - r * 5 = m by omega]
  have e3 : (49 ≤ nI x ∧ nI x ≤ 57) ↔ (49 ≤ x ∧ x ≤ 57) := by rw [c49, c57, k_le (by omega) (by omega), k_le (by omega) (by omega)]
  unfold f_X9_isRodLetter
  rw [if_pos (inb_I hk (by omega)), e1, e2, k_cl (by omega), h58, in4957]
  simp only [e3]
  rcases hm with rfl | rfl
  · rw [if_pos (show nI 0 = 0 from rfl), if_pos ite01]
  · rw [if_neg (show ¬ nI 2 = 0 by decide), if_neg (show ¬ nI 2 = 1 by decide), if_pos (show nI 2 = 2 from rfl), if_pos ite01]
theorem ml_end {u : gs_H} {r d x : Nat} (hd : d ≤ 1) (hk : 5 * r + (2 * d + 1) < 46) (h58 : u 58 (5 * r + (2 * d + 1)) = nI x) : f_X9_isRodLetter (nI (5 * r + (2 * d + 1))) u = if (f_X9_isHanging (nI x) (nI r) (nI d) u).1 = 0 ∨ (f_X9_isHanging (nI x) (nI r) (nI d) u).1 = 1 then some ((f_X9_isHanging (nI x) (nI r) (nI d) u).1, (f_X9_isHanging (nI x) (nI r) (nI d) u).2) else none := by
  have e1 : nI (5 * r + (2 * d + 1)) / 5 = nI r := by rw [c5, k_div (by omega) (by omega) (by omega), show (5 * r + (2 * d + 1)) / 5 = r by omega]
  have e2 : nI (5 * r + (2 * d + 1)) - nI r * 5 = nI (2 * d + 1) := by rw [c5, pk_mul, k_sub (by omega), show 5 * r + (2 * d + 1) - r * 5 = 2 * d + 1 by omega]
  unfold f_X9_isRodLetter
  rw [if_pos (inb_I hk (by omega)), e1, e2, k_cl (by omega), h58]
  rcases (show d = 0 ∨ d = 1 by omega) with rfl | rfl
  · rw [if_neg (show ¬ nI (2 * 0 + 1) = 0 by decide), if_pos (show nI (2 * 0 + 1) = 1 from rfl)]
    rfl
  · rw [if_neg (show ¬ nI (2 * 1 + 1) = 0 by decide), if_neg (show ¬ nI (2 * 1 + 1) = 1 by decide), if_neg (show ¬ nI (2 * 1 + 1) = 2 by decide), if_pos (show nI (2 * 1 + 1) = 3 from rfl)]
    rfl
theorem ml_sep {u : gs_H} {r x B : Nat} (hr : r ≤ 4) (h58 : u 58 (5 * r + 4) = nI x) (hx : x ≤ 126) (hB : B < 32) (hB0 : B.testBit 0 = false) (h3 : u 57 3 = nI B) : f_X9_isRodLetter (nI (5 * r + 4)) u = if tp B < r + 1 then some ((if x = 59 then 1 else 0), up2 u 57 2 (nI (5 * r + 4))) else some ((if x = 44 then 1 else 0), u) := by
  have e1 : nI (5 * r + 4) / 5 = nI r := by rw [c5, k_div (by omega) (by omega) (by omega), show (5 * r + 4) / 5 = r by omega]
  have e2 : nI (5 * r + 4) - nI r * 5 = nI 4 := by rw [c5, pk_mul, k_sub (by omega), show 5 * r + 4 - r * 5 = 4 by omega]
  have ts := tp_sh ⟨B, hB⟩ ⟨r + 1, by omega⟩ hB0 (by show 0 < r + 1; omega)
  dsimp only at ts
  have x59 : nI x = 59 ↔ x = 59 := nI_eq (b := 59) (by omega) (by omega)
  have x44 : nI x = 44 ↔ x = 44 := nI_eq (b := 44) (by omega) (by omega)
  unfold f_X9_isRodLetter
  rw [if_pos (inb_I (show 5 * r + 4 < 46 by omega) (by omega)), e1, e2, k_cl (by omega), h58, if_neg (show ¬ nI 4 = 0 by decide), if_neg (show ¬ nI 4 = 1 by decide), if_neg (show ¬ nI 4 = 2 by decide), if_neg (show ¬ nI 4 = 3 by decide), nI_1, h3]
  by_cases z : tp B < r + 1
  · rw [if_pos z, if_pos (ts.mpr z)]
    by_cases y : x = 59
    · rw [if_pos y, if_pos (x59.mpr y)]
    · rw [if_neg y, if_neg (fun q => y (x59.mp q))]
  · rw [if_neg z, if_neg (fun q => z (ts.mp q))]
    by_cases y : x = 44
    · rw [if_pos y, if_pos (x44.mpr y)]
    · rw [if_neg y, if_neg (fun q => y (x44.mp q))]
/-- the class at what's behind a rod -/
theorem tk_sep {r B x : Nat} {s : gs_H} (h7 : s 3 7 = nI 2) (h8 : s 3 8 = nI (2 * r + 2)) (h4 : s 3 4 = nI (tp B)) (hB : B < 32) (hr : r ≤ 4) (hx : x ≤ 126) : f_X5_takes (nI x) s = if tp B < r + 1 then some ((if x = 59 then 1 else 0), up2 s 3 7 3) else some ((if x = 44 then 1 else 0), up2 s 3 7 0) := by
  have tm := (tp_max ⟨B, hB⟩).1
  dsimp only at tm
  have x59 : nI x = 59 ↔ x = 59 := nI_eq (b := 59) (by omega) (by omega)
  have x44 : nI x = 44 ↔ x = 44 := nI_eq (b := 44) (by omega) (by omega)
  have ed : nI (2 * r + 2) / 2 = nI (r + 1) := by rw [c2, k_div (by omega) (by omega) (by omega), show (2 * r + 2) / 2 = r + 1 by omega]
  unfold f_X5_takes f_X5_takesBehindRod
  rw [h7, if_neg (show ¬ nI 2 = 0 by decide), if_neg (show ¬ nI 2 = 1 by decide), if_pos (show nI 2 = 2 from rfl), h8, h4, ed]
  by_cases z : tp B < r + 1
  · rw [if_pos z, if_neg (fun q => by have := (k_le (by omega) (by omega)).mp q; omega)]
    unfold j_X5_takesBehindRod_18 j_X5_takesBehindRod_29 j_X5_takesBehindRod_44
    rw [if_neg (by decide), if_neg (by decide)]
    by_cases y : x = 59
    · rw [if_pos y, if_pos (x59.mpr y)]; rfl
    · rw [if_neg y, if_neg (fun q => y (x59.mp q))]; rfl
  · rw [if_neg z, if_pos ((k_le (by omega) (by omega)).mpr (by omega))]
    unfold j_X5_takesBehindRod_18 j_X5_takesBehindRod_29 j_X5_takesBehindRod_44
    rw [if_pos rfl, if_pos rfl]
    by_cases y : x = 44
    · rw [if_pos y, if_pos (x44.mpr y)]; rfl
    · rw [if_neg y, if_neg (fun q => y (x44.mp q))]; rfl
