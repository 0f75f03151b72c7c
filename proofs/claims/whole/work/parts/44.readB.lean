/-! PURE: ends of arms -/
def okE (r B x : Nat) : Prop := x = 42 ∨ (48 + r < x ∧ x ≤ 52 ∧ B.testBit (x - 48) = false)
def nB (B x : Nat) : Nat := if x = 42 then B else B ||| 2 ^ (x - 48)
def fw (a B : Nat) : Bool := decide (a % 2 = 0) || decide (tp B < a / 2 + 1) || B.testBit (a / 2 + 1)
theorem JB_st {pg : Nat → Nat} {a B x : Nat} (h : JB pg a B) (hx : x = pg (qA a + 1)) (ho : okE (a / 2) B x) (ha : a < 10) : JB pg (a + 1) (nB B x) := by
  obtain ⟨h1, h2, h3, h4, h5, h6⟩ := h
  have ec : cnt (sT pg) (a + 1) = cnt (sT pg) a + (sT pg a).toNat := rfl
  by_cases z : x = 42
  · have es : sT pg a = true := by unfold sT; rw [← hx]; exact decide_eq_true z
    have eB : nB B x = B := by unfold nB; rw [if_pos z]
    rw [eB]
    rw [es] at ec
    have ec' : cnt (sT pg) (a + 1) = cnt (sT pg) a + 1 := ec
    refine ⟨h1, h2, fun b hb => ?_, fun b c hb hc hsb hsc he => ?_, fun w hw => ?_, by omega⟩
    · rcases Nat.lt_or_ge b a with q | q
      · exact h3 b q
      · have : b = a := by omega
        subst this; exact Or.inl es
    · have hb2 : b < a := by
        rcases Nat.lt_or_ge b a with q | q
        · exact q
        · have : b = a := by omega
          subst this; rw [es] at hsb; cases hsb
      have hc2 : c < a := by
        rcases Nat.lt_or_ge c a with q | q
        · exact q
        · have : c = a := by omega
          subst this; rw [es] at hsc; cases hsc
      exact h4 b c hb2 hc2 hsb hsc he
    · obtain ⟨b, b1, b2, b3⟩ := h5 w hw
      exact ⟨b, by omega, b2, b3⟩
  · obtain ⟨o1, o2, o3⟩ := ho.resolve_left z
    have es : sT pg a = false := by unfold sT; rw [← hx]; exact decide_eq_false z
    have ee : eP pg a = x - 48 := by unfold eP; rw [es, ← hx]; rfl
    have eB : nB B x = B ||| 2 ^ (x - 48) := by unfold nB; rw [if_neg z]
    have t1 := tp_or ⟨B, h1⟩ ⟨x - 48, by omega⟩ h2 (by show 0 < x - 48; omega)
    have t2 := tp_cnt ⟨B, h1⟩ ⟨x - 48, by omega⟩ o3
    dsimp only at t1 t2
    rw [eB]
    rw [es] at ec
    have ec' : cnt (sT pg) (a + 1) = cnt (sT pg) a := ec
    refine ⟨t1.2.1, t1.2.2, fun b hb => ?_, fun b c hb hc hsb hsc he => ?_, fun w hw => ?_, by omega⟩
    · rcases Nat.lt_or_ge b a with q | q
      · rcases h3 b q with y | ⟨y1, y2, y3⟩
        · exact Or.inl y
        · exact Or.inr ⟨y1, y2, by rw [bit_or, y3]; rfl⟩
      · have : b = a := by omega
        subst this
        exact Or.inr ⟨by omega, by omega, by rw [bit_or, ee]; simp⟩
    · rcases Nat.lt_or_ge b a with q | q <;> rcases Nat.lt_or_ge c a with q2 | q2
      · exact h4 b c q q2 hsb hsc he
      · have : c = a := by omega
        subst this
        rcases h3 b q with y | ⟨y1, y2, y3⟩
        · rw [y] at hsb; cases hsb
        · rw [he, ee, o3] at y3; cases y3
      · have : b = a := by omega
        subst this
        rcases h3 c q2 with y | ⟨y1, y2, y3⟩
        · rw [y] at hsc; cases hsc
        · rw [← he, ee, o3] at y3; cases y3
      · omega
    · rw [bit_or] at hw
      by_cases y : B.testBit w = true
      · obtain ⟨b, b1, b2, b3⟩ := h5 w y
        exact ⟨b, by omega, b2, b3⟩
      · have yf : B.testBit w = false := Bool.eq_false_iff.mpr y
        rw [yf, Bool.false_or] at hw
        have := of_decide_eq_true hw
        exact ⟨a, by omega, es, by omega⟩
theorem tk_106 {a B : Nat} {s : gs_H} (ha : a < 10) (h8 : s 3 8 = nI a) (h4 : s 3 4 = nI (tp B)) (hB : B < 32) (ht : ∀ w, w < 5 → s 8 w = bI (decide (w = 0) || B.testBit w)) : j_X5_takesEnd_106 (nI (a / 2)) s = some ((if fw a B then 1 else 0), up2 (up2 s 3 8 (nI (a + 1))) 3 7 (nI (if a % 2 = 0 then 0 else 2))) := by
  have tm := (tp_max ⟨B, hB⟩).1
  dsimp only at tm
  have em : nI a - nI a / 2 * 2 = nI (a % 2) := by
    rw [c2, k_div (by omega) (by omega) (by omega), pk_mul, k_sub (Nat.div_mul_le_self _ _)]
    rw [show a - a / 2 * 2 = a % 2 by omega]
  unfold j_X5_takesEnd_106
  rw [h8, em]
  by_cases z : a % 2 = 0
  · have ef : fw a B = true := by unfold fw; simp [z]
    rw [if_neg (show ¬ nI (a % 2) = 1 by rw [z]; decide), ef, if_pos z]
    unfold j_X5_takesEnd_121
    rw [if_pos rfl]
    unfold j_X5_takesEnd_142
    rw [if_pos rfl, h8, nI_1]
    rfl
  · have z1 : a % 2 = 1 := by omega
    have ef : fw a B = (decide (tp B < a / 2 + 1) || B.testBit (a / 2 + 1)) := by unfold fw; simp [z1]
    rw [if_pos (show nI (a % 2) = 1 by rw [z1]; rfl), ef, if_neg z]
    unfold j_X5_takesEnd_121
    rw [if_neg (by decide)]
    unfold j_X5_takesEnd_142
    rw [if_neg (by decide), h8, nI_1, nI_1]
    have e4 : up2 (up2 s 3 8 (nI (a + 1))) 3 7 2 3 4 = nI (tp B) := by rw [up2_n2 _ (by omega), up2_n2 _ (by omega)]; exact h4
    have e8 : up2 (up2 s 3 8 (nI (a + 1))) 3 7 2 8 = s 8 := by rw [up2_ne _ _ _ (by omega), up2_ne _ _ _ (by omega)]
    unfold f_X5_canFollow
    rw [e4, e8]
    by_cases z2 : tp B < a / 2 + 1
    · rw [if_pos ((k_lt (by omega) (by omega)).mpr z2)]
      simp [z2]
      rfl
    · rw [if_neg (fun q => z2 ((k_lt (by omega) (by omega)).mp q)), if_pos (inb_I (show a / 2 + 1 < 5 by omega) (by omega)), k_cl (by omega), ht (a / 2 + 1) (by omega)]
      have d0 : decide (a / 2 + 1 = 0) = false := by simp
      rw [d0, Bool.false_or, decide_eq_false z2, Bool.false_or]
      cases B.testBit (a / 2 + 1)
      · rfl
      · rfl
theorem tk_end {pg : Nat → Nat} {a B x : Nat} {s : gs_H} (hS : JS pg a (a + 1) B s) (hB : JB pg a B) (h7 : s 3 7 = nI 1) (ha : a < 10) (hr : ∀ w, 1 ≤ w → w ≤ a / 2 → B.testBit w = true) (hx : x ≤ 126) (hxp : x = pg (qA a + 1)) : (¬ okE (a / 2) B x → f_X5_takes (nI x) s = some (0, s)) ∧ (okE (a / 2) B x → ∃ s', f_X5_takes (nI x) s = some ((if fw a (nB B x) then 1 else 0), s') ∧ Same [3, 4, 5, 6, 7, 8] s s' ∧ JS pg (a + 1) (a + 1) (nB B x) s' ∧ s' 3 7 = nI (if a % 2 = 0 then 0 else 2) ∧ s' 3 9 = s 3 9) := by
  have hS0 := hS
  obtain ⟨g1, g2, g3, g4, g5, g6⟩ := hS
  obtain ⟨b1, b2, b3, b4, b5, b6⟩ := hB
  have hall := tp_all ⟨B, b1⟩ ⟨a / 2, by omega⟩ b2 (fun w h1 h2 => hr w.val h1 h2)
  dsimp only at hall
  have hP : cnt (sT pg) a ≤ 5 := by omega
  have e7 : s 3 7 = 1 := h7
  have tm := tp_max ⟨B, b1⟩
  dsimp only at tm
  have ed : nI a / 2 = nI (a / 2) := by rw [c2, k_div (by omega) (by omega) (by omega)]
  have bit01 : ∀ b : Bool, ((if b = true then (1 : Int32) else 0) = 0 ∨ (if b = true then (1 : Int32) else 0) = 1) := by decide
  by_cases z : x = 42
  · refine ⟨fun h => absurd (Or.inl z) h, fun ho => ?_⟩
    have es : sT pg a = true := by unfold sT; rw [← hxp]; exact decide_eq_true z
    have ee : eP pg a = 10 + cnt (sT pg) a := by unfold eP; rw [es]; rfl
    have eB : nB B x = B := by unfold nB; rw [if_pos z]
    have ec : cnt (sT pg) (a + 1) = cnt (sT pg) a + 1 := by
      show cnt (sT pg) a + (sT pg a).toNat = _
      rw [es]; rfl
    rw [eB]
    obtain ⟨s1, hs1⟩ : ∃ s1, s1 = up2 (up2 s 5 a (nI (10 + cnt (sT pg) a))) 3 5 (nI (cnt (sT pg) a + 1)) := ⟨_, rfl⟩
    have key := tk_106 (a := a) (B := B) (s := s1) ha (by rw [hs1, up2_n2 _ (by omega), up2_n1 _ (by omega)]; exact g1) (by rw [hs1, up2_n2 _ (by omega), up2_n1 _ (by omega)]; exact g3) b1 (fun w hw => by rw [hs1, up2_n1 _ (by omega), up2_n1 _ (by omega)]; exact g4 w hw)
    refine ⟨up2 (up2 s1 3 8 (nI (a + 1))) 3 7 (nI (if a % 2 = 0 then 0 else 2)), ?_, ?_, ⟨?_, ?_, ?_, fun w hw => ?_, fun b hb => ?_, fun b hb => ?_⟩, up2_same _ _ _ _, ?_⟩
    · unfold f_X5_takes f_X5_takesEnd
      rw [if_neg (by rw [e7]; decide), if_pos e7, if_pos (show nI x = 42 by rw [z]; rfl), g1, g2, if_neg (show ¬ (6 : Int32) ≤ nI (cnt (sT pg) a) by rw [c6, k_le (by omega) (by omega)]; omega), if_pos (inb_I ha (by omega)), k_cl (by omega), ed, c10, nI_add, nI_1, ← hs1, key, Option.bind_some]
      rw [if_pos (bit01 _)]
    · rw [hs1]
      exact Same.up (Same.up (Same.up (Same.up Same.rf (by simp)) (by simp)) (by simp)) (by simp)
    · rw [up2_n2 _ (by omega), up2_same]
    · rw [up2_n2 _ (by omega), up2_n2 _ (by omega), hs1, up2_same, ec]
    · rw [up2_n2 _ (by omega), up2_n2 _ (by omega), hs1, up2_n2 _ (by omega), up2_n1 _ (by omega)]; exact g3
    · rw [up2_n1 _ (by omega), up2_n1 _ (by omega), hs1, up2_n1 _ (by omega), up2_n1 _ (by omega)]; exact g4 w hw
    · rw [up2_n1 _ (by omega), up2_n1 _ (by omega), hs1, up2_n1 _ (by omega), up2_n1 _ (by omega)]; exact g5 b hb
    · rw [up2_n1 _ (by omega), up2_n1 _ (by omega), hs1, up2_n1 _ (by omega)]
      by_cases y : b = a
      · subst y; rw [up2_same, ee]
      · rw [up2_n2 _ y]; exact g6 b (by omega)
    · rw [up2_n2 _ (by omega), up2_n2 _ (by omega), hs1, up2_n2 _ (by omega), up2_n1 _ (by omega)]
  · have n42 : ¬ nI x = 42 := fun q => z ((nI_eq (b := 42) (by omega) (by omega)).mp q)
    have e51 : f_X5_takesEnd (nI x) s = j_X5_takesEnd_51 (nI x) (nI (a / 2)) s := by
      unfold f_X5_takesEnd
      rw [if_neg n42, g1, ed]
    have ct : ∃ v : Int32, f_X5_canTell (nI x - 48) (nI (a / 2)) s = some v ∧ (okE (a / 2) B x → v = 1) ∧ (¬ okE (a / 2) B x → v = 0) := by
      unfold f_X5_canTell
      by_cases y1 : x ≤ 48 + a / 2
      · refine ⟨0, ?_, fun ho => ?_, fun _ => rfl⟩
        · rw [if_pos]
          rw [Int32.le_iff_toInt_le, c48, pk_sub_toInt (by omega) (by omega), nI_toInt (by omega)]
          omega
        · rcases ho with ho | ho <;> omega
      · have ex : nI x - 48 = nI (x - 48) := by rw [c48, k_sub (by omega)]
        rw [ex, if_neg (fun q => by have := (k_le (by omega) (by omega)).mp q; omega)]
        by_cases y2 : 53 ≤ x
        · refine ⟨0, ?_, fun ho => ?_, fun _ => rfl⟩
          · rw [if_pos]
            rw [c5, k_le (by omega) (by omega)]; omega
          · rcases ho with ho | ho <;> omega
        · rw [if_neg (fun q => by rw [c5] at q; have := (k_le (by omega) (by omega)).mp q; omega), if_pos (inb_I (show x - 48 < 5 by omega) (by omega)), k_cl (by omega), g4 (x - 48) (by omega)]
          have d0 : decide (x - 48 = 0) = false := decide_eq_false (by omega)
          rw [d0, Bool.false_or]
          cases y3 : B.testBit (x - 48)
          · rw [if_pos (show bI false = 0 from rfl)]
            exact ⟨1, rfl, fun _ => rfl, fun h => absurd (Or.inr ⟨by omega, by omega, y3⟩) h⟩
          · rw [if_neg (show ¬ bI true = 0 by decide)]
            refine ⟨0, rfl, fun ho => ?_, fun _ => rfl⟩
            rcases ho with ho | ho
            · omega
            · rw [y3] at ho; cases ho.2.2
    obtain ⟨v, ct1, ct2, ct3⟩ := ct
    refine ⟨fun hno => ?_, fun ho => ?_⟩
    · unfold f_X5_takes
      rw [if_neg (by rw [e7]; decide), if_pos e7, e51]
      unfold j_X5_takesEnd_51
      rw [ct1, Option.bind_some, ct3 hno]
      rfl
    · obtain ⟨o1, o2, o3⟩ := ho.resolve_left z
      have ex : nI x - 48 = nI (x - 48) := by rw [c48, k_sub (by omega)]
      have es : sT pg a = false := by unfold sT; rw [← hxp]; exact decide_eq_false z
      have ee : eP pg a = x - 48 := by unfold eP; rw [es, ← hxp]; rfl
      have eB : nB B x = B ||| 2 ^ (x - 48) := by unfold nB; rw [if_neg z]
      have t1 := tp_or ⟨B, b1⟩ ⟨x - 48, by omega⟩ b2 (by show 0 < x - 48; omega)
      dsimp only at t1
      have ec : cnt (sT pg) (a + 1) = cnt (sT pg) a := by
        show cnt (sT pg) a + (sT pg a).toNat = _
        rw [es]; rfl
      rw [eB]
      have et : (if nI (tp B) < nI (x - 48) then nI (x - 48) else nI (tp B)) = nI (tp (B ||| 2 ^ (x - 48))) := by
        rw [t1.1]
        by_cases y : tp B < x - 48
        · rw [if_pos y, if_pos ((k_lt (by omega) (by omega)).mpr y)]
        · rw [if_neg y, if_neg (fun q => y ((k_lt (by omega) (by omega)).mp q))]
      obtain ⟨s1, hs1⟩ : ∃ s1, s1 = up2 (up2 (up2 s 5 a (nI (x - 48))) 8 (x - 48) (1 : Int32)) 3 4 (nI (tp (B ||| 2 ^ (x - 48)))) := ⟨_, rfl⟩
      have told : ∀ w, w < 5 → s1 8 w = bI (decide (w = 0) || (B ||| 2 ^ (x - 48)).testBit w) := fun w hw => by
        rw [hs1, up2_n1 _ (by omega), bit_or]
        by_cases y : w = x - 48
        · subst y
          rw [up2_same]
          simp
          rfl
        · rw [up2_n2 _ y, up2_n1 _ (by omega), g4 w hw]
          simp [y]
      have key := tk_106 (a := a) (B := B ||| 2 ^ (x - 48)) (s := s1) ha (by rw [hs1, up2_n2 _ (by omega), up2_n1 _ (by omega), up2_n1 _ (by omega)]; exact g1) (by rw [hs1, up2_same]) t1.2.1 told
      refine ⟨up2 (up2 s1 3 8 (nI (a + 1))) 3 7 (nI (if a % 2 = 0 then 0 else 2)), ?_, ?_, ⟨?_, ?_, ?_, fun w hw => ?_, fun b hb => ?_, fun b hb => ?_⟩, up2_same _ _ _ _, ?_⟩
      · unfold f_X5_takes
        rw [if_neg (by rw [e7]; decide), if_pos e7, e51]
        unfold j_X5_takesEnd_51
        rw [ct1, Option.bind_some, ct2 ho, if_neg (by decide), g1, g3, ex, if_pos (inb_I ha (by omega)), if_pos (inb_I (show x - 48 < 5 by omega) (by omega)), k_cl (by omega), k_cl (by omega), et, ← hs1, key, Option.bind_some]
        rw [if_pos (bit01 _)]
      · rw [hs1]
        exact Same.up (Same.up (Same.up (Same.up (Same.up Same.rf (by simp)) (by simp)) (by simp)) (by simp)) (by simp)
      · rw [up2_n2 _ (by omega), up2_same]
      · rw [up2_n2 _ (by omega), up2_n2 _ (by omega), hs1, up2_n2 _ (by omega), up2_n1 _ (by omega), up2_n1 _ (by omega), ec]; exact g2
      · rw [up2_n2 _ (by omega), up2_n2 _ (by omega), hs1, up2_same]
      · rw [up2_n1 _ (by omega), up2_n1 _ (by omega)]; exact told w hw
      · rw [up2_n1 _ (by omega), up2_n1 _ (by omega), hs1, up2_n1 _ (by omega), up2_n1 _ (by omega), up2_n1 _ (by omega)]; exact g5 b hb
      · rw [up2_n1 _ (by omega), up2_n1 _ (by omega), hs1, up2_n1 _ (by omega), up2_n1 _ (by omega)]
        by_cases y : b = a
        · subst y; rw [up2_same, ee]
        · rw [up2_n2 _ y]; exact g6 b (by omega)
      · rw [up2_n2 _ (by omega), up2_n2 _ (by omega), hs1, up2_n2 _ (by omega), up2_n1 _ (by omega), up2_n1 _ (by omega)]
