/-! PURE: a letter of a thing; a letter in both -/
theorem kI_eq : ∀ x : Fin 127, f_X9_kindBy (nI x.val) = kIx (nI x.val) ∧ ((nI x.val).toUInt32 % 65536).toInt32 = nI x.val ∧ (f_X9_kindBy (nI x.val) = -1 ↔ kIx (nI x.val) < 0) := by decide +kernel
theorem kI_4 : ∀ x : Fin 127, ¬ kIx (nI x.val) < 0 → kIx (nI x.val) = nI (kIx (nI x.val)).toNatClampNeg ∧ (kIx (nI x.val)).toNatClampNeg ≤ 4 := by decide +kernel
theorem ifb (b : Bool) : (if b = true then (1 : Int32) else 0) = bI b := by cases b <;> rfl
theorem ifd {P : Prop} [Decidable P] : (if P then (1 : Int32) else 0) = bI (decide P) := by
  by_cases h : P
  · rw [if_pos h, decide_eq_true h]; rfl
  · rw [if_neg h, decide_eq_false h]; rfl
theorem tk_kind {i x : Nat} {s : gs_H} (h7 : s 3 7 = nI 3) (h9 : s 3 9 = nI i) (hi : i < 6) (hx : x ≤ 126) : (kIx (nI x) < 0 → f_X5_takes (nI x) s = some (0, s)) ∧ (¬ kIx (nI x) < 0 → f_X5_takes (nI x) s = some (1, up2 (up2 s 6 i (kIx (nI x))) 3 7 (nI 4))) := by
  have e := (kI_eq ⟨x, by omega⟩).2.1
  dsimp only at e
  unfold f_X5_takes f_X5_takesKind
  rw [h7, if_neg (show ¬ nI 3 = 0 by decide), if_neg (show ¬ nI 3 = 1 by decide), if_neg (show ¬ nI 3 = 2 by decide), if_pos (show nI 3 = 3 from rfl), e, h9]
  refine ⟨fun h => ?_, fun h => ?_⟩
  · rw [if_pos h]; rfl
  · rw [if_neg h, if_pos (show nI i < 6 from (k_lt (b := 6) (by omega) (by omega)).mpr hi), if_pos (inb_I hi (by omega)), k_cl (by omega)]
    rfl
theorem tk_size {i x : Nat} {s : gs_H} (h7 : s 3 7 = nI 4) (h9 : s 3 9 = nI i) (hi : i < 6) (hx : x ≤ 126) : (¬ (48 ≤ x ∧ x ≤ 57) → f_X5_takes (nI x) s = some (0, s)) ∧ ((48 ≤ x ∧ x ≤ 57) → f_X5_takes (nI x) s = some (1, up2 (up2 (up2 s 7 i (nI (x - 48))) 3 9 (nI (i + 1))) 3 7 (nI 5))) := by
  have l1 : nI x < 48 ↔ x < 48 := k_lt (b := 48) (by omega) (by omega)
  have l2 : (57 : Int32) < nI x ↔ 57 < x := k_lt (a := 57) (by omega) (by omega)
  unfold f_X5_takes f_X5_takesSize
  rw [h7, if_neg (show ¬ nI 4 = 0 by decide), if_neg (show ¬ nI 4 = 1 by decide), if_neg (show ¬ nI 4 = 2 by decide), if_neg (show ¬ nI 4 = 3 by decide), if_pos (show nI 4 = 4 from rfl), h9]
  refine ⟨fun h => ?_, fun h => ?_⟩
  · by_cases z : x < 48
    · rw [if_pos (l1.mpr z)]; rfl
    · rw [if_neg (fun q => z (l1.mp q)), if_pos (l2.mpr (by omega))]; rfl
  · rw [if_neg (fun q => by have := l1.mp q; omega), if_neg (fun q => by have := l2.mp q; omega), if_pos (show nI i < 6 from (k_lt (b := 6) (by omega) (by omega)).mpr hi), if_pos (inb_I hi (by omega)), k_cl (by omega), c48, k_sub (by omega), nI_1]
    rfl
theorem tk_com {i n x : Nat} {s : gs_H} (h7 : s 3 7 = nI 5) (h9 : s 3 9 = nI i) (h5 : s 3 5 = nI n) (hi : i < 1000) (hn : n < 1000) (hx : x ≤ 126) : f_X5_takes (nI x) s = some (bI (decide (x = 44 ∧ i < n)), up2 s 3 7 (nI 3)) := by
  have x44 : nI x = 44 ↔ x = 44 := nI_eq (b := 44) (by omega) (by omega)
  have l1 : nI n ≤ nI i ↔ n ≤ i := k_le (by omega) (by omega)
  have e : f_X5_takesBehindThing (nI x) s = (bI (decide (x = 44 ∧ i < n)), up2 s 3 7 (nI 3)) := by
    unfold f_X5_takesBehindThing
    rw [h9, h5]
    by_cases z : x = 44
    · rw [if_pos (x44.mpr z)]
      by_cases y : n ≤ i
      · rw [if_pos (l1.mpr y), decide_eq_false (fun q => by omega)]; rfl
      · rw [if_neg (fun q => y (l1.mp q)), decide_eq_true ⟨z, by omega⟩]; rfl
    · rw [if_neg (fun q => z (x44.mp q)), decide_eq_false (fun q => z q.1)]; rfl
  unfold f_X5_takes
  rw [h7, if_neg (show ¬ nI 5 = 0 by decide), if_neg (show ¬ nI 5 = 1 by decide), if_neg (show ¬ nI 5 = 2 by decide), if_neg (show ¬ nI 5 = 3 by decide), if_neg (show ¬ nI 5 = 4 by decide), e, if_pos (bI_01 _)]
theorem mt_all {r j x : Nat} {u : gs_H} (hr : 1 ≤ r) (hk : 5 * r + j < 46) (h2 : u 57 2 = nI (5 * r - 1)) (hx : x ≤ 126) (h58 : u 58 (5 * r + j) = nI x) : (j % 3 = 0 → f_X9_isThingLetter (nI (5 * r + j)) u = some (bI (decide (¬ kIx (nI x) < 0)))) ∧ (j % 3 = 1 → f_X9_isThingLetter (nI (5 * r + j)) u = some (bI (decide (48 ≤ x ∧ x ≤ 57)))) ∧ (j % 3 = 2 → f_X9_isThingLetter (nI (5 * r + j)) u = some (bI (decide (x = 44 ∧ (j + 1) / 3 < r + 1)))) := by
  have e1 : nI (5 * r + j) - nI (5 * r - 1) - 1 = nI j := by rw [k_sub (by omega), c1, k_sub (by omega), show 5 * r + j - (5 * r - 1) - 1 = j by omega]
  have e2 : nI j - nI j / 3 * 3 = nI (j % 3) := by rw [c3, k_div (by omega) (by omega) (by omega), pk_mul, k_sub (Nat.div_mul_le_self _ _), show j - j / 3 * 3 = j % 3 by omega]
  have e3 : (3 : Int32) * ((nI (5 * r - 1) + 1) / 5 + 1) - 1 = nI (3 * r + 2) := by rw [nI_1, c5, k_div (by omega) (by omega) (by omega), nI_1, c3, pk_mul, c1, k_sub (by omega), show 3 * ((5 * r - 1 + 1) / 5 + 1) - 1 = 3 * r + 2 by omega]
  have x44 : nI x = 44 ↔ x = 44 := nI_eq (b := 44) (by omega) (by omega)
  have e4 : (48 ≤ nI x ∧ nI x ≤ 57) ↔ (48 ≤ x ∧ x ≤ 57) := by rw [c48, c57, k_le (by omega) (by omega), k_le (by omega) (by omega)]
  have l1 : nI (3 * r + 2) ≤ nI j ↔ 3 * r + 2 ≤ j := k_le (by omega) (by omega)
  have ek := (kI_eq ⟨x, by omega⟩).2.2
  dsimp only at ek
  unfold f_X9_isThingLetter
  rw [if_pos (inb_I hk (by omega)), k_cl (by omega), h58, h2, e1, e2, e3, in4857]
  refine ⟨fun h => ?_, fun h => ?_, fun h => ?_⟩
  · rw [h, if_pos (show nI 0 = 0 from rfl)]
    by_cases z : kIx (nI x) < 0
    · rw [if_pos (ek.mpr z), decide_eq_false (fun q => q z)]; rfl
    · rw [if_neg (fun q => z (ek.mp q)), decide_eq_true z]; rfl
  · rw [h, if_neg (show ¬ nI 1 = 0 by decide), if_pos (show nI 1 = 1 from rfl), if_pos ite01]
    simp only [e4]
    rw [ifd]
  · rw [h, if_neg (show ¬ nI 2 = 0 by decide), if_neg (show ¬ nI 2 = 1 by decide)]
    by_cases z : x = 44
    · rw [if_pos (x44.mpr z)]
      by_cases y : 3 * r + 2 ≤ j
      · rw [if_pos (l1.mpr y), decide_eq_false (fun q => by omega)]; rfl
      · rw [if_neg (fun q => y (l1.mp q)), decide_eq_true ⟨z, by omega⟩]; rfl
    · rw [if_neg (fun q => z (x44.mp q)), decide_eq_false (fun q => z q.1)]; rfl
def mst (k : Int32) (v : gs_H) : Option (Int32 × gs_H) := if v 57 2 = 0 then f_X9_isRodLetter k v else (f_X9_isThingLetter k v).bind fun q => some (q, v)
theorem mst_eq (k : Int32) (v : gs_H) : b_X9_faultOf_12 (k, v) = if v 57 1 ≤ k then some (.inr (k, v)) else (mst k v).bind fun q => if q.1 = 0 then some (.inr (k, q.2)) else some (.inl (k + 1, q.2)) := by
  unfold b_X9_faultOf_12 mst
  dsimp only
  by_cases h : v 57 1 ≤ k
  · rw [if_pos h, if_pos h]
  · rw [if_neg h, if_neg h]
    by_cases h2 : v 57 2 = 0
    · rw [if_pos h2, if_pos h2]
    · rw [if_neg h2, if_neg h2]
      cases f_X9_isThingLetter k v with
      | none => rfl
      | some q => rfl
/-- one letter in both -/
def STP (pg : Nat → Nat) (k : Nat) (s u : gs_H) : Prop := ∃ (ok : Bool) (s' u' : gs_H), f_X5_takes (nI (pg k)) s = some (bI ok, s') ∧ Same [3, 4, 5, 6, 7, 8] s s' ∧ (ok = true → J pg (k + 1) s' u') ∧ ∀ v, v 57 2 = u 57 2 → v 57 3 = u 57 3 → v 58 k = nI (pg k) → ∃ v', mst (nI k) v = some (bI ok, v') ∧ SM v v' ∧ v' 57 2 = u' 57 2 ∧ v' 57 3 = u' 57 3
theorem st_len {pg : Nat → Nat} {r d B : Nat} {s u : gs_H} (hd : d ≤ 1) (h : JR pg r (2 * d) B s u) (hx : pg (5 * r + 2 * d) ≤ 126) : STP pg (5 * r + 2 * d) s u := by
  obtain ⟨j1, j2, j3, j4, j5, j6, j7, j8, j9, j10⟩ := h
  have d1 : 2 * r + 2 * d / 2 = 2 * r + d := by omega
  have d2 : 2 * r + (2 * d + 1) / 2 = 2 * r + d := by omega
  have d3 : 2 * r + (2 * d + 1 + 1) / 2 = 2 * r + d + 1 := by omega
  have d4 : (if 2 * d = 4 then 2 else 2 * d % 2) = 0 := by rw [if_neg (by omega)]; omega
  rw [d1] at j1 j3
  rw [d2] at j2 j3
  rw [d4] at j4
  have hq : qA (2 * r + d) = 5 * r + 2 * d := by unfold qA; omega
  have hT := tk_len (x := pg (5 * r + 2 * d)) j3 j4 (by omega) hx (by rw [hq])
  have hM : ∀ v : gs_H, v 57 2 = u 57 2 → v 58 (5 * r + 2 * d) = nI (pg (5 * r + 2 * d)) → mst (nI (5 * r + 2 * d)) v = some (bI (decide (49 ≤ pg (5 * r + 2 * d) ∧ pg (5 * r + 2 * d) ≤ 57)), v) := fun v hv1 hv2 => by
    unfold mst
    rw [if_pos (show v 57 2 = 0 by rw [hv1, j6]; rfl), ml_len (by omega) (by omega) hx hv2, ifd]
  by_cases z : 49 ≤ pg (5 * r + 2 * d) ∧ pg (5 * r + 2 * d) ≤ 57
  · obtain ⟨s', t1, t2, t3, t4, t5⟩ := hT.2 z
    refine ⟨true, s', u, t1, t2, fun _ => Or.inl ⟨r, 2 * d + 1, B, by omega, by omega, ?_⟩, fun v hv1 hv2 hv3 => ⟨v, ?_, SM.rf, hv1, hv2⟩⟩
    · unfold JR
      rw [d2, d3]
      refine ⟨j1, fun b hb => ?_, t3, ?_, by rw [t5]; exact j5, j6, j7, j8, j9, fun q => by omega⟩
      · by_cases y : b = 2 * r + d
        · subst y; rw [hq]; exact z
        · exact j2 b (by omega)
      · rw [t4, if_neg (by omega), show (2 * d + 1) % 2 = 1 by omega]
    · rw [hM v hv1 hv3, decide_eq_true z]
  · refine ⟨false, s, u, hT.1 z, Same.rf, fun q => (by cases q), fun v hv1 hv2 hv3 => ⟨v, ?_, SM.rf, hv1, hv2⟩⟩
    rw [hM v hv1 hv3, decide_eq_false z]
theorem st_end {pg : Nat → Nat} {r d B : Nat} {s u : gs_H} (hd : d ≤ 1) (h : JR pg r (2 * d + 1) B s u) (hx : pg (5 * r + (2 * d + 1)) ≤ 126) : STP pg (5 * r + (2 * d + 1)) s u := by
  obtain ⟨j1, j2, j3, j4, j5, j6, j7, j8, j9, j10⟩ := h
  have d1 : 2 * r + (2 * d + 1) / 2 = 2 * r + d := by omega
  have d2 : 2 * r + (2 * d + 1 + 1) / 2 = 2 * r + d + 1 := by omega
  have d3 : 2 * r + (2 * d + 1 + 1 + 1) / 2 = 2 * r + d + 1 := by omega
  have d4 : (if 2 * d + 1 = 4 then 2 else (2 * d + 1) % 2) = 1 := by rw [if_neg (by omega)]; omega
  have d5 : (2 * r + d) / 2 = r := by omega
  rw [d1] at j1 j3
  rw [d2] at j2 j3
  rw [d4] at j4
  have hq : qA (2 * r + d) + 1 = 5 * r + (2 * d + 1) := by unfold qA; omega
  have hT := tk_end (x := pg (5 * r + (2 * d + 1))) j3 j1 j4 (by omega) (fun w h1 h2 => j9 w h1 (by omega)) hx (by rw [hq])
  rw [d5] at hT
  obtain ⟨x, hxe⟩ : ∃ x, x = pg (5 * r + (2 * d + 1)) := ⟨_, rfl⟩
  have hJB : okE r B x → JB pg (2 * r + d + 1) (nB B x) := fun ho => JB_st j1 (by rw [hq, hxe]) (by rw [d5]; exact ho) (by omega)
  unfold STP
  rw [← hxe] at hT hx ⊢
  have hb1 := j1.1
  have hb2 := j1.2.1
  by_cases z : okE r B x
  · obtain ⟨s', t1, t2, t3, t4, t5⟩ := hT.2 z
    rw [ifb] at t1
    refine ⟨fw (2 * r + d) (nB B x), s', up2 u 57 3 (nI (nB B x)), t1, t2, fun hf => Or.inl ⟨r, 2 * d + 1 + 1, nB B x, by omega, by omega, ?_⟩, fun v hv1 hv2 hv3 => ?_⟩
    · unfold JR
      rw [d2, d3]
      refine ⟨hJB z, j2, t3, ?_, by rw [t5]; exact j5, by rw [up2_n2 _ (by omega)]; exact j6, up2_same _ _ _ _, j8, fun w h1 h2 => ?_, fun q => ?_⟩
      · rw [t4]
        rcases (show d = 0 ∨ d = 1 by omega) with rfl | rfl
        · rw [if_pos (by omega)]; rfl
        · rw [if_neg (by omega)]; rfl
      · unfold nB
        by_cases y : x = 42
        · rw [if_pos y]; exact j9 w h1 h2
        · rw [if_neg y, bit_or, j9 w h1 h2]; rfl
      · have hd1 : d = 1 := by omega
        subst hd1
        unfold fw at hf
        rw [d5, show (2 * r + 1) % 2 = 1 by omega] at hf
        simpa using hf
    · obtain ⟨v', e1, e2, e3, e4⟩ := (mh (x := x) j8 hd hb1 hb2 (hv2.trans j7) hx).2 z
      refine ⟨v', ?_, e2, by rw [e3, hv1, up2_n2 _ (by omega)], by rw [e4, up2_same]⟩
      unfold mst
      rw [if_pos (show v 57 2 = 0 by rw [hv1, j6]; rfl), ml_end hd (by omega) hv3, e1, ifb, if_pos (bI_01 _)]
  · refine ⟨false, s, u, hT.1 z, Same.rf, fun q => (by cases q), fun v hv1 hv2 hv3 => ⟨v, ?_, SM.rf, hv1, hv2⟩⟩
    have e1 := (mh (x := x) j8 hd hb1 hb2 (hv2.trans j7) hx).1 z
    unfold mst
    rw [if_pos (show v 57 2 = 0 by rw [hv1, j6]; rfl), ml_end hd (by omega) hv3, e1, if_pos (Or.inl rfl)]
    rfl
theorem JS.u7 {pg : Nat → Nat} {a n B : Nat} {s : gs_H} {v : Int32} (h : JS pg a n B s) : JS pg a n B (up2 s 3 7 v) := by
  obtain ⟨g1, g2, g3, g4, g5, g6⟩ := h
  refine ⟨?_, ?_, ?_, fun w hw => ?_, fun b hb => ?_, fun b hb => ?_⟩
  · rw [up2_n2 _ (by omega)]; exact g1
  · rw [up2_n2 _ (by omega)]; exact g2
  · rw [up2_n2 _ (by omega)]; exact g3
  · rw [up2_n1 _ (by omega)]; exact g4 w hw
  · rw [up2_n1 _ (by omega)]; exact g5 b hb
  · rw [up2_n1 _ (by omega)]; exact g6 b hb
theorem JS.u9 {pg : Nat → Nat} {a n B : Nat} {s : gs_H} {v : Int32} (h : JS pg a n B s) : JS pg a n B (up2 s 3 9 v) := by
  obtain ⟨g1, g2, g3, g4, g5, g6⟩ := h
  refine ⟨?_, ?_, ?_, fun w hw => ?_, fun b hb => ?_, fun b hb => ?_⟩
  · rw [up2_n2 _ (by omega)]; exact g1
  · rw [up2_n2 _ (by omega)]; exact g2
  · rw [up2_n2 _ (by omega)]; exact g3
  · rw [up2_n1 _ (by omega)]; exact g4 w hw
  · rw [up2_n1 _ (by omega)]; exact g5 b hb
  · rw [up2_n1 _ (by omega)]; exact g6 b hb
theorem JS.u67 {pg : Nat → Nat} {a n B k i : Nat} {s : gs_H} {v : Int32} (hk : k = 6 ∨ k = 7) (h : JS pg a n B s) : JS pg a n B (up2 s k i v) := by
  obtain ⟨g1, g2, g3, g4, g5, g6⟩ := h
  refine ⟨?_, ?_, ?_, fun w hw => ?_, fun b hb => ?_, fun b hb => ?_⟩
  · rw [up2_n1 _ (by omega)]; exact g1
  · rw [up2_n1 _ (by omega)]; exact g2
  · rw [up2_n1 _ (by omega)]; exact g3
  · rw [up2_n1 _ (by omega)]; exact g4 w hw
  · rw [up2_n1 _ (by omega)]; exact g5 b hb
  · rw [up2_n1 _ (by omega)]; exact g6 b hb
theorem st_sep {pg : Nat → Nat} {r B : Nat} {s u : gs_H} (h : JR pg r 4 B s u) (hx : pg (5 * r + 4) ≤ 126) : STP pg (5 * r + 4) s u := by
  obtain ⟨j1, j2, j3, j4, j5, j6, j7, j8, j9, j10⟩ := h
  have d1 : 2 * r + 4 / 2 = 2 * (r + 1) := by omega
  have d2 : 2 * r + (4 + 1) / 2 = 2 * (r + 1) := by omega
  rw [d1] at j1 j3
  rw [d2] at j2
  have j4' : s 3 7 = nI 2 := j4
  have hb1 := j1.1
  have hb2 := j1.2.1
  have hT := tk_sep (x := pg (5 * r + 4)) j4' (by rw [j3.1]; rfl) j3.2.2.1 hb1 j8 hx
  have hM : ∀ v : gs_H, v 57 2 = u 57 2 → v 57 3 = u 57 3 → v 58 (5 * r + 4) = nI (pg (5 * r + 4)) → mst (nI (5 * r + 4)) v = if tp B < r + 1 then some ((if pg (5 * r + 4) = 59 then 1 else 0), up2 v 57 2 (nI (5 * r + 4))) else some ((if pg (5 * r + 4) = 44 then 1 else 0), v) := fun v hv1 hv2 hv3 => by
    unfold mst
    rw [if_pos (show v 57 2 = 0 by rw [hv1, j6]; rfl)]
    exact ml_sep j8 hv3 hx hb1 hb2 (hv2.trans j7)
  by_cases z : tp B < r + 1
  · rw [if_pos z, ifd] at hT
    have tc := tp_cl ⟨B, hb1⟩ ⟨r, by omega⟩ hb2 (fun w h1 h2 => j9 w.val h1 h2) (by show tp B ≤ r; omega)
    dsimp only at tc
    have hc := j1.2.2.2.2.2
    refine ⟨decide (pg (5 * r + 4) = 59), up2 s 3 7 3, up2 u 57 2 (nI (5 * r + 4)), hT, Same.up Same.rf (by simp), fun hf => Or.inr ⟨r + 1, 0, B, by omega, j1, j2, j3.u7, by omega, by omega, by omega, fun w h1 h2 => j9 w h1 (by omega), by omega, by omega, up2_same _ _ _ _, by rw [up2_n2 _ (by omega)]; exact j5, by rw [up2_same]; rfl, fun i hi => by omega, fun i hi => by omega⟩, fun v hv1 hv2 hv3 => ⟨up2 v 57 2 (nI (5 * r + 4)), ?_, SM.u2, by rw [up2_same, up2_same], by rw [up2_n2 _ (by omega), up2_n2 _ (by omega)]; exact hv2⟩⟩
    rw [hM v hv1 hv2 hv3, if_pos z, ifd]
  · rw [if_neg z, ifd] at hT
    have hbt := (j10 rfl).resolve_left z
    have hr5 := sep_B hb1 hbt
    refine ⟨decide (pg (5 * r + 4) = 44), up2 s 3 7 0, u, hT, Same.up Same.rf (by simp), fun hf => Or.inl ⟨r + 1, 0, B, by omega, by omega, j1, j2, j3.u7, up2_same _ _ _ _, by rw [up2_n2 _ (by omega)]; exact j5, j6, j7, by omega, fun w h1 h2 => ?_, fun q => by omega⟩, fun v hv1 hv2 hv3 => ⟨v, ?_, SM.rf, hv1, hv2⟩⟩
    · by_cases y : w = r + 1
      · subst y; exact hbt
      · exact j9 w h1 (by omega)
    · rw [hM v hv1 hv2 hv3, if_neg z, ifd]
theorem st_thing {pg : Nat → Nat} {r j B : Nat} {s u : gs_H} (h : JT pg r j B s u) (hk : 5 * r + j < 46) (hx : pg (5 * r + j) ≤ 126) : STP pg (5 * r + j) s u := by
  obtain ⟨j1, j2, j3, j4, j5, j6, j7, j8, j9, j10, j11, j12, j13, j14⟩ := h
  have hM : ∀ v : gs_H, v 57 2 = u 57 2 → mst (nI (5 * r + j)) v = (f_X9_isThingLetter (nI (5 * r + j)) v).bind fun q => some (q, v) := fun v hv1 => by
    unfold mst
    rw [if_neg]
    rw [hv1, j12]
    intro q
    have := (nI_eq (b := 0) (by omega) (by omega)).mp q
    omega
  have h3 := Nat.mod_lt j (show 0 < 3 by omega)
  rcases (show j % 3 = 0 ∨ j % 3 = 1 ∨ j % 3 = 2 by omega) with m | m | m
  · obtain ⟨i, rfl⟩ : ∃ i, j = 3 * i := ⟨j / 3, by omega⟩
    rw [m] at j10
    rw [show (3 * i + 1) / 3 = i by omega] at j11
    have hT := tk_kind (x := pg (5 * r + 3 * i)) j10 j11 (by omega) hx
    by_cases z : kIx (nI (pg (5 * r + 3 * i))) < 0
    · refine ⟨false, s, u, hT.1 z, Same.rf, fun q => (by cases q), fun v hv1 hv2 hv3 => ⟨v, ?_, SM.rf, hv1, hv2⟩⟩
      rw [hM v hv1, (mt_all j4 hk (hv1.trans j12) hx hv3).1 m, decide_eq_false (fun q => q z)]; rfl
    · refine ⟨true, up2 (up2 s 6 i (kIx (nI (pg (5 * r + 3 * i))))) 3 7 (nI 4), u, hT.2 z, Same.up (Same.up Same.rf (by simp)) (by simp), fun _ => Or.inr ⟨r, 3 * i + 1, B, by omega, j1, j2, (j3.u67 (Or.inl rfl)).u7, j4, j5, j6, j7, j8, by omega, ?_, ?_, j12, fun q hq => ?_, fun q hq => ?_⟩, fun v hv1 hv2 hv3 => ⟨v, ?_, SM.rf, hv1, hv2⟩⟩
      · rw [up2_same, show (3 * i + 1) % 3 = 1 by omega]
      · rw [up2_n2 _ (by omega), up2_n1 _ (by omega), j11, show (3 * i + 1 + 1) / 3 = i by omega]
      · rw [up2_n1 _ (by omega)]
        by_cases y : q = i
        · subst y; exact ⟨z, up2_same _ _ _ _⟩
        · rw [up2_n2 _ y]; exact j13 q (by omega)
      · rw [up2_n1 _ (by omega), up2_n1 _ (by omega)]; exact j14 q (by omega)
      · rw [hM v hv1, (mt_all j4 hk (hv1.trans j12) hx hv3).1 m, decide_eq_true z]; rfl
  · obtain ⟨i, rfl⟩ : ∃ i, j = 3 * i + 1 := ⟨j / 3, by omega⟩
    rw [m] at j10
    rw [show (3 * i + 1 + 1) / 3 = i by omega] at j11
    have hT := tk_size (x := pg (5 * r + (3 * i + 1))) j10 j11 (by omega) hx
    by_cases z : 48 ≤ pg (5 * r + (3 * i + 1)) ∧ pg (5 * r + (3 * i + 1)) ≤ 57
    · refine ⟨true, _, u, hT.2 z, Same.up (Same.up (Same.up Same.rf (by simp)) (by simp)) (by simp), fun _ => Or.inr ⟨r, 3 * i + 1 + 1, B, by omega, j1, j2, ((j3.u67 (Or.inr rfl)).u9).u7, j4, j5, j6, j7, j8, by omega, ?_, ?_, j12, fun q hq => ?_, fun q hq => ?_⟩, fun v hv1 hv2 hv3 => ⟨v, ?_, SM.rf, hv1, hv2⟩⟩
      · rw [up2_same, show (3 * i + 1 + 1) % 3 = 2 by omega]
      · rw [up2_n2 _ (by omega), up2_same, show (3 * i + 1 + 1 + 1) / 3 = i + 1 by omega]
      · rw [up2_n1 _ (by omega), up2_n1 _ (by omega), up2_n1 _ (by omega)]; exact j13 q (by omega)
      · rw [up2_n1 _ (by omega), up2_n1 _ (by omega)]
        by_cases y : q = i
        · subst y; exact ⟨z.1, z.2, up2_same _ _ _ _⟩
        · rw [up2_n2 _ y]; exact j14 q (by omega)
      · rw [hM v hv1, (mt_all j4 hk (hv1.trans j12) hx hv3).2.1 m, decide_eq_true z]; rfl
    · refine ⟨false, s, u, hT.1 z, Same.rf, fun q => (by cases q), fun v hv1 hv2 hv3 => ⟨v, ?_, SM.rf, hv1, hv2⟩⟩
      rw [hM v hv1, (mt_all j4 hk (hv1.trans j12) hx hv3).2.1 m, decide_eq_false z]; rfl
  · obtain ⟨i, rfl⟩ : ∃ i, j = 3 * i + 2 := ⟨j / 3, by omega⟩
    rw [m] at j10
    have hT := tk_com (x := pg (5 * r + (3 * i + 2))) j10 j11 (j3.2.1.trans (by rw [j8])) (by omega) (by omega) hx
    refine ⟨_, _, u, hT, Same.up Same.rf (by simp), fun hf => Or.inr ⟨r, 3 * i + 2 + 1, B, by omega, j1, j2, j3.u7, j4, j5, j6, j7, j8, ?_, ?_, ?_, j12, fun q hq => ?_, fun q hq => ?_⟩, fun v hv1 hv2 hv3 => ⟨v, ?_, SM.rf, hv1, hv2⟩⟩
    · have := of_decide_eq_true hf
      omega
    · rw [up2_same, show (3 * i + 2 + 1) % 3 = 0 by omega]
    · rw [up2_n2 _ (by omega), j11, show (3 * i + 2 + 1 + 1) / 3 = (3 * i + 2 + 1) / 3 by omega]
    · rw [up2_n1 _ (by omega)]; exact j13 q (by omega)
    · rw [up2_n1 _ (by omega)]; exact j14 q (by omega)
    · rw [hM v hv1, (mt_all j4 hk (hv1.trans j12) hx hv3).2.2 m]; rfl
theorem stp {pg : Nat → Nat} {k : Nat} {s u : gs_H} (h : J pg k s u) (hk : k < 46) (hx : pg k ≤ 126) : STP pg k s u := by
  rcases h with ⟨r, m, B, rfl, hm, h⟩ | ⟨r, j, B, rfl, h⟩
  · rcases (show m = 2 * 0 ∨ m = 2 * 0 + 1 ∨ m = 2 * 1 ∨ m = 2 * 1 + 1 ∨ m = 4 by omega) with rfl | rfl | rfl | rfl | rfl
    · exact st_len (by omega) h hx
    · exact st_end (by omega) h hx
    · exact st_len (by omega) h hx
    · exact st_end (by omega) h hx
    · exact st_sep h hx
  · exact st_thing h hk hx
