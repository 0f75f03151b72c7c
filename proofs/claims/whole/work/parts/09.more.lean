/-! MORE ROWS: the text of the kinds, the one long, lengths -/
def gs_t (E : gs_E) : Nat := E.2.2.2.2.1
/-- the text's indexOf -/
def kIx (c : Int32) : Int32 := if c = 98 then 0 else if c = 108 then 1 else if c = 102 then 2 else if c = 111 then 3 else if c = 100 then 4 else -1
def al (k : Nat) : Nat := match gs_L[k]? with
  | some (.inl q) => q.2
  | _ => 0
theorem gs_oneJ : ∀ i, i ≠ 34 → ([fR 58, fI, fI, fI, fI, fI, fI, fI, fI, fI, fR 59, fR 60, fR 61, fR 62, fR 63, fR 64, fR 65, fI, fR 66, fR 67, fI, fI, fR 68, fI, fI, fI, fI, fI, fI, fR 69, fR 70, fR 71, fR 72, fR 73, fJ] : List gs_F)[i]? ≠ some fJ := by
  intro i hi
  rcases Nat.lt_or_ge i 35 with h | h
  · have key : ∀ j : Fin 35, j.val ≠ 34 → ([fR 58, fI, fI, fI, fI, fI, fI, fI, fI, fI, fR 59, fR 60, fR 61, fR 62, fR 63, fR 64, fR 65, fI, fR 66, fR 67, fI, fI, fR 68, fI, fI, fI, fI, fI, fI, fR 69, fR 70, fR 71, fR 72, fR 73, fJ] : List gs_F)[j.val]? ≠ some fJ := by decide +kernel
    exact key ⟨i, h⟩ hi
  · rw [List.getElem?_eq_none (by simpa using h)]
    simp
section GM
variable {E : gs_E} {own : String} {cc : ByteArray} {nL : Nat} {p : Program} {l : Launch} {e : Env} {R : Room} {s : State} {m : MethodId} {args : Array Value} {below : List Frame} {meth : Method} {c : Code} {cells slots : Nat} {Q : State → Prop} {pc : Nat} {lv : List (Nat × Value)} {st : List Value} {σ : gs_H} {g : Int64}
theorem x_ldcS (C : gs_X E RX5 cc nL p s m args meth c) (d : decode cc pc = .ok (.ldc 92, 2)) (kk : gs_W E nL p l e R s m args below meth c cells slots Q (pc + 2) lv (.ref (gs_t E) :: st) σ g) : gs_W E nL p l e R s m args below meth c cells slots Q pc lv st σ g :=
  fun H locs ls hP hS hL => va_ldcS C.1 C.2.1 C.2.2.2.1 C.2.2.2.2.2.1.2.1 d (kk H locs ls hP hS hL)
theorem kF_J0_38 : Cond.fieldLink RJ0 38 "java/lang/String" "COMPACT_STRINGS" "Z" ∈ gs_B := gs_in (i := 437) (by decide +kernel) (by decide +kernel)
theorem kF_J0_15 : Cond.fieldLink RJ0 15 "java/lang/String" "coder" "B" ∈ gs_B := gs_in (i := 1234) (by decide +kernel) (by decide +kernel)
theorem kF_J0_9 : Cond.fieldLink RJ0 9 "java/lang/String" "value" "[B" ∈ gs_B := gs_in (i := 1235) (by decide +kernel) (by decide +kernel)
theorem kM_J1_38m : Cond.methodLink RJ1 38 Lib.Math.min.name ∈ gs_B := gs_in (i := 454) (by decide +kernel) (by decide +kernel)
theorem kT_Math_min : Cond.static Lib.Math.min.name ∈ gs_B := gs_in (i := 455) (by decide +kernel) (by decide +kernel)
theorem kC_Math_min : Cond.code Lib.Math.min.name Lib.Math.min.code 2 (some .int) ∈ gs_B := gs_in (i := 456) (by decide +kernel) (by decide +kernel)
def gs_b (E : gs_E) : Nat := E.2.2.2.2.2
def kBy (j : Nat) : Int32 := ([98, 108, 102, 111, 100] : List Int32).getD j 0
theorem x_mmin (C : gs_X E own cc nL p s m args meth c) {idx : Nat} {x y : Int32} (w1 : Cond.methodLink own idx Lib.Math.min.name ∈ gs_B) (hfr : 1 ≤ R.frames) (hlo : (st.map fun v => v.category).sum + 13 ≤ R.locals) (hf : cells ≤ R.cells ∧ slots ≤ R.slots) (d : decode cc pc = .ok (.invokestatic idx, 3)) (kk : gs_W E nL p l e R s m args below meth c cells slots Q (pc + 3) lv (.int (if y < x then y else x) :: st) σ g) : gs_W E nL p l e R s m args below meth c cells slots Q pc lv (.int y :: .int x :: st) σ g :=
  fun H locs ls hP hS hL => va_mmin C.1 C.2.1 (by rw [C.2.2.1]; exact hL.1.symm) C.2.2.2.1 (C.2.2.2.2.1 _ w1) (C.2.2.2.2.1 _ kT_Math_min) (C.2.2.2.2.1 _ kN_J9) (C.2.2.2.2.1 _ kC_Math_min) hfr hlo hf.1 hf.2 d (kk H locs ls hP hS hL)
theorem x_i2b (C : gs_X E own cc nL p s m args meth c) {x : Int32} (d : decode cc pc = .ok (.i2b, 1)) (kk : gs_W E nL p l e R s m args below meth c cells slots Q (pc + 1) lv (.int x.toInt8.toInt32 :: st) σ g) : gs_W E nL p l e R s m args below meth c cells slots Q pc lv (.int x :: st) σ g :=
  fun H locs ls hP hS hL => lv_i2b C.1 C.2.1 d rfl (kk H locs ls hP hS hL)
theorem x_compact (C : gs_X E RJ0 cc nL p s m args meth c) (d : decode cc pc = .ok (.getstatic 38, 3)) (kk : gs_W E nL p l e R s m args below meth c cells slots Q (pc + 3) lv (.int 1 :: st) σ g) : gs_W E nL p l e R s m args below meth c cells slots Q pc lv st σ g :=
  fun H locs ls hP hS hL => va_gets C.1 C.2.1 C.2.2.2.2.2.1.2.2.2.2.2 hS C.2.2.2.1 (C.2.2.2.2.1 _ kF_J0_38) (fun _ h => h) d (kk H locs ls hP hS hL)
theorem x_coder (C : gs_X E RJ0 cc nL p s m args meth c) (d : decode cc pc = .ok (.getfield 15, 3)) (kk : gs_W E nL p l e R s m args below meth c cells slots Q (pc + 3) lv (.int 0 :: st) σ g) : gs_W E nL p l e R s m args below meth c cells slots Q pc lv (.ref (gs_t E) :: st) σ g :=
  fun H locs ls hP hS hL => vk_getf C.1 C.2.1 (C.2.2.2.2.2.1.2.2.1.1 0 (by decide)).2.1 hS C.2.2.2.1 (C.2.2.2.2.1 _ kF_J0_15) (fun _ h => h) d (kk H locs ls hP hS hL)
theorem x_value (C : gs_X E RJ0 cc nL p s m args meth c) (d : decode cc pc = .ok (.getfield 9, 3)) (kk : gs_W E nL p l e R s m args below meth c cells slots Q (pc + 3) lv (.ref (gs_b E) :: st) σ g) : gs_W E nL p l e R s m args below meth c cells slots Q pc lv (.ref (gs_t E) :: st) σ g :=
  fun H locs ls hP hS hL => vk_getf C.1 C.2.1 (C.2.2.2.2.2.1.2.2.1.1 0 (by decide)).2.2.1 hS C.2.2.2.1 (C.2.2.2.2.1 _ kF_J0_9) (fun _ h => h) d (kk H locs ls hP hS hL)
theorem x_blen (C : gs_X E own cc nL p s m args meth c) (d : decode cc pc = .ok (.arraylength, 1)) (kk : gs_W E nL p l e R s m args below meth c cells slots Q (pc + 1) lv (.int 5 :: st) σ g) : gs_W E nL p l e R s m args below meth c cells slots Q pc lv (.ref (gs_b E) :: st) σ g :=
  fun H locs ls hP hS hL => va_tlen C.1 C.2.1 (C.2.2.2.2.2.1.2.2.1.1 0 (by decide)).2.2.2 hS rfl d (kk H locs ls hP hS hL)
theorem x_bld (C : gs_X E own cc nL p s m args meth c) (j : Nat) {i v : Int32} (hi : i = nI j) (hj : j < 5) (hv : kBy j = v) (d : decode cc pc = .ok (.baload, 1)) (kk : gs_W E nL p l e R s m args below meth c cells slots Q (pc + 1) lv (.int v :: st) σ g) : gs_W E nL p l e R s m args below meth c cells slots Q pc lv (.int i :: .ref (gs_b E) :: st) σ g := by
  subst hi
  intro H locs ls hP hS hL
  exact va_tb C.1 C.2.1 (C.2.2.2.2.2.1.2.2.1.1 0 (by decide)).2.2.2 hS (vp_in_nI hj (by decide)) (v := .int v) (by rw [nI_clamp (by omega), ← hv]; rfl) d (kk H locs ls hP hS hL)
theorem x_callT (C : gs_X E own cc nL p s m args meth c) {y : MethodName} {bc : ByteArray} {nM : Nat} {ret : Option FieldType} {rm : Nat × Nat} {As rest st' : List Value} {ov : Option Value} (hcl : y.cls = "java/lang/String") (hM : gs_M l E y bc nM ret rm (.ref (gs_t E) :: As) σ g ov σ g) {idx : Nat} (w1 : Cond.methodLink own idx y ∈ gs_B) (w2 : Cond.instanceMethod y ∈ gs_B) (w3 : Cond.selects y.cls y y ∈ gs_B) (w4 : Cond.initialized y.cls ∈ gs_B) (w5 : Cond.code y bc nM ret ∈ gs_B)
    {nA : Nat} (hd : y.cls ≠ "java/lang/invoke/MethodHandle" ∧ y.cls ≠ "java/lang/invoke/VarHandle" ∧ (parseMethodDescriptor y.desc).map (fun d => d.parameters.length) = some nA) (hA : As.length = nA) (hR : rm.1 + 1 ≤ R.frames ∧ 8 + (nM + 11) + rm.2 ≤ R.locals) (hf : cells ≤ R.cells ∧ slots ≤ R.slots) (hst : st = As.reverse ++ .ref (gs_t E) :: rest) (hw : (rest.map fun v => v.category).sum ≤ 8) (d : decode cc pc = .ok (.invokevirtual idx, 3)) (hst' : ov.toList ++ rest = st') (kk : gs_W E nL p l e R s m args below meth c cells slots Q (pc + 3) lv st' σ g) : gs_W E nL p l e R s m args below meth c cells slots Q pc lv st σ g := by
  intro H locs ls hP hS hL
  subst hst
  subst hA
  have hG : GoodIn gs_B (wsV own idx y.cls y (.code y bc nM ret :: gs_B)) := by
    intro w hw
    have : w ∈ gs_B := by
      simp only [wsV, List.cons_append, List.nil_append, List.mem_cons] at hw
      rcases hw with rfl | rfl | rfl | rfl | rfl | h
      · exact w1
      · exact w2
      · exact w3
      · exact w4
      · exact w5
      · exact h
    exact gs_good w this
  have hrec : ∃ cellB : Cell, H[gs_t E]? = some cellB ∧ cellB.vm.isStatics = false ∧ s.vm.findClass y.cls = some cellB.cls := by
    rw [hcl]
    exact vk_recv C.2.2.2.2.2.1.2.2.1 (i := 0) (by decide) hS
  exact gs_after (va_runV (As := As) (rest := rest) (C := y.cls) ⟨C.1, C.2.1, C.2.2.1, C.2.2.2.1, C.2.2.2.2.1⟩ (hM C.2.2.2.2.2.2.2) (cwV As.length C.2.2.2.2.1 hG rfl rfl rfl ⟨rfl, hd⟩ hR) ⟨gs_blind, hrec, fun U hU hW => ⟨rfl, by rw [hU]; exact hP, C.2.2.2.2.2.1.go hS hU hW⟩⟩ rfl rfl hL.1 rfl (lv_room hw) d hf) hS hL hst' kk
end GM
set_option maxHeartbeats 4000000 in
set_option maxRecDepth 20000 in
theorem m_J0_isLatin1_aae02 {E : gs_E} {l : Launch}  {σ : gs_H} {g : Int64} : gs_M l E yJ0_isLatin1_aae02 cJ0_isLatin1_aae02 1 (some .boolean) (0, 0) [.ref (gs_t E)] σ g (some (.int 1)) σ g := by
  refine x_enter (lv := [(0, .ref (gs_t E))]) (by decide +kernel) (Nat.le_of_ble_eq_true rfl) rfl (fun p e s m args below meth c C hr => ?_)
  refine x_compact C dJ0_isLatin1_aae02_0 ?_
  refine x_if_eqF C dJ0_isLatin1_aae02_3 (tgt := 17) (by decide) (by decide) ?_
  refine x_aload_n C dJ0_isLatin1_aae02_6 rfl 0 rfl ?_
  refine x_coder C dJ0_isLatin1_aae02_7 ?_
  refine x_if_neF C dJ0_isLatin1_aae02_10 (tgt := 17) (by decide) rfl ?_
  refine x_iconst C dJ0_isLatin1_aae02_13 (v := 1) (by decide) ?_
  refine x_goto C dJ0_isLatin1_aae02_14 (tgt := 18) (by decide) ?_
  exact x_ret C hr rfl rfl dJ0_isLatin1_aae02_18
set_option maxHeartbeats 4000000 in
set_option maxRecDepth 20000 in
theorem m_J0_coder_7d493 {E : gs_E} {l : Launch}  {σ : gs_H} {g : Int64} : gs_M l E yJ0_coder_7d493 cJ0_coder_7d493 1 (some .byte) (0, 0) [.ref (gs_t E)] σ g (some (.int 0)) σ g := by
  refine x_enter (lv := [(0, .ref (gs_t E))]) (by decide +kernel) (Nat.le_of_ble_eq_true rfl) rfl (fun p e s m args below meth c C hr => ?_)
  refine x_compact C dJ0_coder_7d493_0 ?_
  refine x_if_eqF C dJ0_coder_7d493_3 (tgt := 13) (by decide) (by decide) ?_
  refine x_aload_n C dJ0_coder_7d493_6 rfl 0 rfl ?_
  refine x_coder C dJ0_coder_7d493_7 ?_
  refine x_goto C dJ0_coder_7d493_10 (tgt := 14) (by decide) ?_
  exact x_ret C hr rfl rfl dJ0_coder_7d493_14
set_option maxHeartbeats 4000000 in
set_option maxRecDepth 20000 in
theorem m_J0_length_8abf5 {E : gs_E} {l : Launch}  {σ : gs_H} {g : Int64} : gs_M l E yJ0_length_8abf5 cJ0_length_8abf5 1 (some .int) (1, 20) [.ref (gs_t E)] σ g (some (.int 5)) σ g := by
  refine x_enter (lv := [(0, .ref (gs_t E))]) (by decide +kernel) (Nat.le_of_ble_eq_true rfl) rfl (fun p e s m args below meth c C hr => ?_)
  refine x_aload_n C dJ0_length_8abf5_0 rfl 0 rfl ?_
  refine x_value C dJ0_length_8abf5_1 ?_
  refine x_blen C dJ0_length_8abf5_4 ?_
  refine x_aload_n C dJ0_length_8abf5_5 rfl 0 rfl ?_
  refine x_callT C rfl m_J0_coder_7d493 kM_J0_335 kI_J0_coder_7d493 kS_J0_coder_7d493 kN_J0 kC_J0_coder_7d493 kD_J0_coder_7d493 rfl ⟨Nat.le_of_ble_eq_true rfl, Nat.le_of_ble_eq_true rfl⟩ ⟨Nat.le_refl _, Nat.le_refl _⟩ (rest := [.int 5]) rfl (Nat.le_of_ble_eq_true rfl) dJ0_length_8abf5_6 (st' := [.int 0, .int 5]) rfl ?_
  refine x_ishr C dJ0_length_8abf5_9 ?_
  exact x_ret C hr rfl (by decide) dJ0_length_8abf5_10
def kCan (c : Int32) : Int32 := if c < 0 then 0 else if 255 < c then 0 else 1
set_option maxHeartbeats 4000000 in
set_option maxRecDepth 20000 in
theorem m_J1_canEncode_9a6ad {E : gs_E} {l : Launch} {ch : Int32} {σ : gs_H} {g : Int64} : gs_M l E yJ1_canEncode_9a6ad cJ1_canEncode_9a6ad 1 (some .boolean) (0, 0) [.int ch] σ g (some (.int (kCan ch))) σ g := by
  refine x_enter (lv := [(0, .int ch)]) (by decide +kernel) (Nat.le_of_ble_eq_true rfl) rfl (fun p e s m args below meth c C hr => ?_)
  refine x_iload_n C dJ1_canEncode_9a6ad_0 rfl 0 rfl ?_
  by_cases h1 : ch < 0
  · refine x_if_ltT C dJ1_canEncode_9a6ad_1 (tgt := 15) (by decide) h1 ?_
    refine x_iconst C dJ1_canEncode_9a6ad_15 (v := 0) (by decide) ?_
    exact x_ret C hr rfl (by rw [kCan, if_pos h1]) dJ1_canEncode_9a6ad_16
  · refine x_if_ltF C dJ1_canEncode_9a6ad_1 (tgt := 15) (by decide) h1 ?_
    refine x_iload_n C dJ1_canEncode_9a6ad_4 rfl 0 rfl ?_
    refine x_sipush C dJ1_canEncode_9a6ad_5 (v := 255) (by decide) ?_
    by_cases h2 : 255 < ch
    · refine x_icmp_gtT C dJ1_canEncode_9a6ad_8 (tgt := 15) (by decide) h2 ?_
      refine x_iconst C dJ1_canEncode_9a6ad_15 (v := 0) (by decide) ?_
      exact x_ret C hr rfl (by rw [kCan, if_neg h1, if_pos h2]) dJ1_canEncode_9a6ad_16
    · refine x_icmp_gtF C dJ1_canEncode_9a6ad_8 (tgt := 15) (by decide) h2 ?_
      refine x_iconst C dJ1_canEncode_9a6ad_11 (v := 1) (by decide) ?_
      refine x_goto C dJ1_canEncode_9a6ad_12 (tgt := 16) (by decide) ?_
      exact x_ret C hr rfl (by rw [kCan, if_neg h1, if_neg h2]) dJ1_canEncode_9a6ad_16
def kCh (b : Int32) : Int32 := if 98 = b then 0 else if 108 = b then 1 else if 102 = b then 2 else if 111 = b then 3 else if 100 = b then 4 else -1
set_option maxHeartbeats 4000000 in
set_option maxRecDepth 20000 in
theorem m_J1_indexOfChar_4cfef {E : gs_E} {l : Launch} {ch : Int32} {σ : gs_H} {g : Int64} : gs_M l E yJ1_indexOfChar_4cfef cJ1_indexOfChar_4cfef 6 (some .int) (0, 0) [.ref (gs_b E), .int ch, .int 0, .int 5] σ g (some (.int (kCh ch.toInt8.toInt32))) σ g := by
  refine x_enter (lv := [(0, .ref (gs_b E)), (1, .int ch), (2, .int 0), (3, .int 5)]) (by decide +kernel) (Nat.le_of_ble_eq_true rfl) rfl (fun p e s m args below meth c C hr => ?_)
  refine x_iload_n C dJ1_indexOfChar_4cfef_0 rfl 1 rfl ?_
  refine x_i2b C dJ1_indexOfChar_4cfef_1 ?_
  refine x_istore C dJ1_indexOfChar_4cfef_2 (lv2 := [(0, .ref (gs_b E)), (1, .int ch), (2, .int 0), (3, .int 5), (4, .int ch.toInt8.toInt32)]) (by decide) rfl [1, 2, 3, 4, 0] rfl ?_
  refine x_iload_n C dJ1_indexOfChar_4cfef_4 rfl 2 rfl ?_
  refine x_istore C dJ1_indexOfChar_4cfef_5 (lv2 := [(0, .ref (gs_b E)), (1, .int ch), (2, .int 0), (3, .int 5), (4, .int ch.toInt8.toInt32), (5, .int 0)]) (by decide) rfl [1, 2, 3, 4, 5, 0] rfl ?_
  refine x_iload C dJ1_indexOfChar_4cfef_7 5 rfl ?_
  refine x_iload_n C dJ1_indexOfChar_4cfef_9 rfl 3 rfl ?_
  refine x_icmp_geF C dJ1_indexOfChar_4cfef_10 (tgt := 31) (by decide) (by decide) ?_
  refine x_aload_n C dJ1_indexOfChar_4cfef_13 rfl 0 rfl ?_
  refine x_iload C dJ1_indexOfChar_4cfef_14 5 rfl ?_
  refine x_bld C 0 rfl (by decide) (v := 98) rfl dJ1_indexOfChar_4cfef_16 ?_
  refine x_iload C dJ1_indexOfChar_4cfef_17 4 rfl ?_
  by_cases h0 : 98 = ch.toInt8.toInt32
  · refine x_icmp_neF C dJ1_indexOfChar_4cfef_19 (tgt := 25) (by decide) h0 ?_
    refine x_iload C dJ1_indexOfChar_4cfef_22 5 rfl ?_
    exact x_ret C hr rfl (by rw [kCh, if_pos h0]) dJ1_indexOfChar_4cfef_24
  refine x_icmp_neT C dJ1_indexOfChar_4cfef_19 (tgt := 25) (by decide) h0 ?_
  refine x_iinc C dJ1_indexOfChar_4cfef_25 5 rfl (v := 1) (by decide) (lv2 := [(0, .ref (gs_b E)), (1, .int ch), (2, .int 0), (3, .int 5), (4, .int ch.toInt8.toInt32), (5, .int 1)]) (by decide) rfl [1, 2, 3, 4, 5, 0] rfl ?_
  refine x_goto C dJ1_indexOfChar_4cfef_28 (tgt := 7) (by decide) ?_
  refine x_iload C dJ1_indexOfChar_4cfef_7 5 rfl ?_
  refine x_iload_n C dJ1_indexOfChar_4cfef_9 rfl 3 rfl ?_
  refine x_icmp_geF C dJ1_indexOfChar_4cfef_10 (tgt := 31) (by decide) (by decide) ?_
  refine x_aload_n C dJ1_indexOfChar_4cfef_13 rfl 0 rfl ?_
  refine x_iload C dJ1_indexOfChar_4cfef_14 5 rfl ?_
  refine x_bld C 1 rfl (by decide) (v := 108) rfl dJ1_indexOfChar_4cfef_16 ?_
  refine x_iload C dJ1_indexOfChar_4cfef_17 4 rfl ?_
  by_cases h1 : 108 = ch.toInt8.toInt32
  · refine x_icmp_neF C dJ1_indexOfChar_4cfef_19 (tgt := 25) (by decide) h1 ?_
    refine x_iload C dJ1_indexOfChar_4cfef_22 5 rfl ?_
    exact x_ret C hr rfl (by rw [kCh, if_neg h0, if_pos h1]) dJ1_indexOfChar_4cfef_24
  refine x_icmp_neT C dJ1_indexOfChar_4cfef_19 (tgt := 25) (by decide) h1 ?_
  refine x_iinc C dJ1_indexOfChar_4cfef_25 5 rfl (v := 2) (by decide) (lv2 := [(0, .ref (gs_b E)), (1, .int ch), (2, .int 0), (3, .int 5), (4, .int ch.toInt8.toInt32), (5, .int 2)]) (by decide) rfl [1, 2, 3, 4, 5, 0] rfl ?_
  refine x_goto C dJ1_indexOfChar_4cfef_28 (tgt := 7) (by decide) ?_
  refine x_iload C dJ1_indexOfChar_4cfef_7 5 rfl ?_
  refine x_iload_n C dJ1_indexOfChar_4cfef_9 rfl 3 rfl ?_
  refine x_icmp_geF C dJ1_indexOfChar_4cfef_10 (tgt := 31) (by decide) (by decide) ?_
  refine x_aload_n C dJ1_indexOfChar_4cfef_13 rfl 0 rfl ?_
  refine x_iload C dJ1_indexOfChar_4cfef_14 5 rfl ?_
  refine x_bld C 2 rfl (by decide) (v := 102) rfl dJ1_indexOfChar_4cfef_16 ?_
  refine x_iload C dJ1_indexOfChar_4cfef_17 4 rfl ?_
  by_cases h2 : 102 = ch.toInt8.toInt32
  · refine x_icmp_neF C dJ1_indexOfChar_4cfef_19 (tgt := 25) (by decide) h2 ?_
    refine x_iload C dJ1_indexOfChar_4cfef_22 5 rfl ?_
    exact x_ret C hr rfl (by rw [kCh, if_neg h0, if_neg h1, if_pos h2]) dJ1_indexOfChar_4cfef_24
  refine x_icmp_neT C dJ1_indexOfChar_4cfef_19 (tgt := 25) (by decide) h2 ?_
  refine x_iinc C dJ1_indexOfChar_4cfef_25 5 rfl (v := 3) (by decide) (lv2 := [(0, .ref (gs_b E)), (1, .int ch), (2, .int 0), (3, .int 5), (4, .int ch.toInt8.toInt32), (5, .int 3)]) (by decide) rfl [1, 2, 3, 4, 5, 0] rfl ?_
  refine x_goto C dJ1_indexOfChar_4cfef_28 (tgt := 7) (by decide) ?_
  refine x_iload C dJ1_indexOfChar_4cfef_7 5 rfl ?_
  refine x_iload_n C dJ1_indexOfChar_4cfef_9 rfl 3 rfl ?_
  refine x_icmp_geF C dJ1_indexOfChar_4cfef_10 (tgt := 31) (by decide) (by decide) ?_
  refine x_aload_n C dJ1_indexOfChar_4cfef_13 rfl 0 rfl ?_
  refine x_iload C dJ1_indexOfChar_4cfef_14 5 rfl ?_
  refine x_bld C 3 rfl (by decide) (v := 111) rfl dJ1_indexOfChar_4cfef_16 ?_
  refine x_iload C dJ1_indexOfChar_4cfef_17 4 rfl ?_
  by_cases h3 : 111 = ch.toInt8.toInt32
  · refine x_icmp_neF C dJ1_indexOfChar_4cfef_19 (tgt := 25) (by decide) h3 ?_
    refine x_iload C dJ1_indexOfChar_4cfef_22 5 rfl ?_
    exact x_ret C hr rfl (by rw [kCh, if_neg h0, if_neg h1, if_neg h2, if_pos h3]) dJ1_indexOfChar_4cfef_24
  refine x_icmp_neT C dJ1_indexOfChar_4cfef_19 (tgt := 25) (by decide) h3 ?_
  refine x_iinc C dJ1_indexOfChar_4cfef_25 5 rfl (v := 4) (by decide) (lv2 := [(0, .ref (gs_b E)), (1, .int ch), (2, .int 0), (3, .int 5), (4, .int ch.toInt8.toInt32), (5, .int 4)]) (by decide) rfl [1, 2, 3, 4, 5, 0] rfl ?_
  refine x_goto C dJ1_indexOfChar_4cfef_28 (tgt := 7) (by decide) ?_
  refine x_iload C dJ1_indexOfChar_4cfef_7 5 rfl ?_
  refine x_iload_n C dJ1_indexOfChar_4cfef_9 rfl 3 rfl ?_
  refine x_icmp_geF C dJ1_indexOfChar_4cfef_10 (tgt := 31) (by decide) (by decide) ?_
  refine x_aload_n C dJ1_indexOfChar_4cfef_13 rfl 0 rfl ?_
  refine x_iload C dJ1_indexOfChar_4cfef_14 5 rfl ?_
  refine x_bld C 4 rfl (by decide) (v := 100) rfl dJ1_indexOfChar_4cfef_16 ?_
  refine x_iload C dJ1_indexOfChar_4cfef_17 4 rfl ?_
  by_cases h4 : 100 = ch.toInt8.toInt32
  · refine x_icmp_neF C dJ1_indexOfChar_4cfef_19 (tgt := 25) (by decide) h4 ?_
    refine x_iload C dJ1_indexOfChar_4cfef_22 5 rfl ?_
    exact x_ret C hr rfl (by rw [kCh, if_neg h0, if_neg h1, if_neg h2, if_neg h3, if_pos h4]) dJ1_indexOfChar_4cfef_24
  refine x_icmp_neT C dJ1_indexOfChar_4cfef_19 (tgt := 25) (by decide) h4 ?_
  refine x_iinc C dJ1_indexOfChar_4cfef_25 5 rfl (v := 5) (by decide) (lv2 := [(0, .ref (gs_b E)), (1, .int ch), (2, .int 0), (3, .int 5), (4, .int ch.toInt8.toInt32), (5, .int 5)]) (by decide) rfl [1, 2, 3, 4, 5, 0] rfl ?_
  refine x_goto C dJ1_indexOfChar_4cfef_28 (tgt := 7) (by decide) ?_
  refine x_iload C dJ1_indexOfChar_4cfef_7 5 rfl ?_
  refine x_iload_n C dJ1_indexOfChar_4cfef_9 rfl 3 rfl ?_
  refine x_icmp_geT C dJ1_indexOfChar_4cfef_10 (tgt := 31) (by decide) (by decide) ?_
  refine x_iconst C dJ1_indexOfChar_4cfef_31 (v := -1) (by decide) ?_
  exact x_ret C hr rfl (by rw [kCh, if_neg h0, if_neg h1, if_neg h2, if_neg h3, if_neg h4]) dJ1_indexOfChar_4cfef_32
theorem kIx_out {c : Int32} (h : kCan c = 0) : kIx c = -1 := by
  unfold kCan at h
  have hn : ¬ (0 ≤ c.toInt ∧ c.toInt ≤ 255) := by
    rintro ⟨h1, h2⟩
    rw [if_neg (by rw [Int32.lt_iff_toInt_lt]; have e : (0 : Int32).toInt = 0 := rfl; omega), if_neg (by rw [Int32.lt_iff_toInt_lt]; have e : (255 : Int32).toInt = 255 := rfl; omega)] at h
    exact absurd h (by decide)
  unfold kIx
  rw [if_neg (fun e => hn (by rw [e]; decide)), if_neg (fun e => hn (by rw [e]; decide)), if_neg (fun e => hn (by rw [e]; decide)), if_neg (fun e => hn (by rw [e]; decide)), if_neg (fun e => hn (by rw [e]; decide))]
theorem kIx_in {c : Int32} (h : ¬ kCan c = 0) : kCh c.toInt8.toInt32 = kIx c := by
  have h1 : ¬ c < 0 := fun q => h (by rw [kCan, if_pos q])
  have h2 : ¬ 255 < c := fun q => h (by rw [kCan, if_neg h1, if_pos q])
  obtain ⟨j, hj, rfl⟩ := nI_of2 (M := 255) (n := 255) rfl h1 (Int32.not_lt.mp h2)
  have key : ∀ j : Fin 256, kCh (nI j.val).toInt8.toInt32 = kIx (nI j.val) := by decide +kernel
  exact key ⟨j, by omega⟩
set_option maxHeartbeats 4000000 in
set_option maxRecDepth 20000 in
theorem m_J1_indexOf_4cfef {E : gs_E} {l : Launch} {ch : Int32} {σ : gs_H} {g : Int64} : gs_M l E yJ1_indexOf_4cfef cJ1_indexOf_4cfef 4 (some .int) (1, 25) [.ref (gs_b E), .int ch, .int 0, .int 5] σ g (some (.int (kIx ch))) σ g := by
  refine x_enter (lv := [(0, .ref (gs_b E)), (1, .int ch), (2, .int 0), (3, .int 5)]) (by decide +kernel) (Nat.le_of_ble_eq_true rfl) rfl (fun p e s m args below meth c C hr => ?_)
  refine x_iload_n C dJ1_indexOf_4cfef_0 rfl 1 rfl ?_
  refine x_callS C m_J1_canEncode_9a6ad kM_J1_88 kT_J1_canEncode_9a6ad kN_J1 kC_J1_canEncode_9a6ad kD_J1_canEncode_9a6ad rfl ⟨Nat.le_of_ble_eq_true rfl, Nat.le_of_ble_eq_true rfl⟩ ⟨Nat.le_refl _, Nat.le_refl _⟩ (rest := []) rfl (Nat.le_of_ble_eq_true rfl) dJ1_indexOf_4cfef_1 (st' := [.int (kCan ch)]) rfl ?_
  by_cases h0 : kCan ch = 0
  · refine x_if_neF C dJ1_indexOf_4cfef_4 (tgt := 9) (by decide) h0 ?_
    refine x_iconst C dJ1_indexOf_4cfef_7 (v := -1) (by decide) ?_
    exact x_ret C hr rfl (by rw [kIx_out h0]) dJ1_indexOf_4cfef_8
  refine x_if_neT C dJ1_indexOf_4cfef_4 (tgt := 9) (by decide) h0 ?_
  refine x_iload_n C dJ1_indexOf_4cfef_9 rfl 2 rfl ?_
  refine x_iconst C dJ1_indexOf_4cfef_10 (v := 0) (by decide) ?_
  refine x_mmax C kM_J1_92 kT_Math_max kN_J9 kC_Math_max (Nat.le_of_ble_eq_true rfl) (Nat.le_of_ble_eq_true rfl) ⟨Nat.le_refl _, Nat.le_refl _⟩ dJ1_indexOf_4cfef_11 ?_
  refine x_istore_n C dJ1_indexOf_4cfef_14 rfl (lv2 := [(0, .ref (gs_b E)), (1, .int ch), (2, .int 0), (3, .int 5)]) (by decide) rfl [1, 2, 0, 3] rfl ?_
  refine x_iload_n C dJ1_indexOf_4cfef_15 rfl 3 rfl ?_
  refine x_aload_n C dJ1_indexOf_4cfef_16 rfl 0 rfl ?_
  refine x_blen C dJ1_indexOf_4cfef_17 ?_
  refine x_mmin C kM_J1_38m (Nat.le_of_ble_eq_true rfl) (Nat.le_of_ble_eq_true rfl) ⟨Nat.le_refl _, Nat.le_refl _⟩ dJ1_indexOf_4cfef_18 ?_
  refine x_istore_n C dJ1_indexOf_4cfef_21 rfl (lv2 := [(0, .ref (gs_b E)), (1, .int ch), (2, .int 0), (3, .int 5)]) (by decide) rfl [1, 2, 3, 0] rfl ?_
  refine x_iload_n C dJ1_indexOf_4cfef_22 rfl 2 rfl ?_
  refine x_iload_n C dJ1_indexOf_4cfef_23 rfl 3 rfl ?_
  refine x_icmp_ltT C dJ1_indexOf_4cfef_24 (tgt := 29) (by decide) (by decide) ?_
  refine x_aload_n C dJ1_indexOf_4cfef_29 rfl 0 rfl ?_
  refine x_iload_n C dJ1_indexOf_4cfef_30 rfl 1 rfl ?_
  refine x_iload_n C dJ1_indexOf_4cfef_31 rfl 2 rfl ?_
  refine x_iload_n C dJ1_indexOf_4cfef_32 rfl 3 rfl ?_
  refine x_callS C (m_J1_indexOfChar_4cfef (ch := ch)) kM_J1_95 kT_J1_indexOfChar_4cfef kN_J1 kC_J1_indexOfChar_4cfef kD_J1_indexOfChar_4cfef rfl ⟨Nat.le_of_ble_eq_true rfl, Nat.le_of_ble_eq_true rfl⟩ ⟨Nat.le_refl _, Nat.le_refl _⟩ (rest := []) rfl (Nat.le_of_ble_eq_true rfl) dJ1_indexOf_4cfef_33 (st' := [.int (kCh ch.toInt8.toInt32)]) rfl ?_
  exact x_ret C hr rfl (by rw [kIx_in h0]) dJ1_indexOf_4cfef_36
set_option maxHeartbeats 4000000 in
set_option maxRecDepth 20000 in
theorem m_J0_indexOf_7cf53 {E : gs_E} {l : Launch} {ch : Int32} {σ : gs_H} {g : Int64} : gs_M l E yJ0_indexOf_7cf53 cJ0_indexOf_7cf53 3 (some .int) (2, 48) [.ref (gs_t E), .int ch, .int 0] σ g (some (.int (kIx ch))) σ g := by
  refine x_enter (lv := [(0, .ref (gs_t E)), (1, .int ch), (2, .int 0)]) (by decide +kernel) (Nat.le_of_ble_eq_true rfl) rfl (fun p e s m args below meth c C hr => ?_)
  refine x_aload_n C dJ0_indexOf_7cf53_0 rfl 0 rfl ?_
  refine x_callT C rfl m_J0_isLatin1_aae02 kM_J0_492 kI_J0_isLatin1_aae02 kS_J0_isLatin1_aae02 kN_J0 kC_J0_isLatin1_aae02 kD_J0_isLatin1_aae02 rfl ⟨Nat.le_of_ble_eq_true rfl, Nat.le_of_ble_eq_true rfl⟩ ⟨Nat.le_refl _, Nat.le_refl _⟩ (rest := []) rfl (Nat.le_of_ble_eq_true rfl) dJ0_indexOf_7cf53_1 (st' := [.int 1]) rfl ?_
  refine x_if_eqF C dJ0_indexOf_7cf53_4 (tgt := 23) (by decide) (by decide) ?_
  refine x_aload_n C dJ0_indexOf_7cf53_7 rfl 0 rfl ?_
  refine x_value C dJ0_indexOf_7cf53_8 ?_
  refine x_iload_n C dJ0_indexOf_7cf53_11 rfl 1 rfl ?_
  refine x_iload_n C dJ0_indexOf_7cf53_12 rfl 2 rfl ?_
  refine x_aload_n C dJ0_indexOf_7cf53_13 rfl 0 rfl ?_
  refine x_callT C rfl m_J0_length_8abf5 kM_J0_505 kI_J0_length_8abf5 kS_J0_length_8abf5 kN_J0 kC_J0_length_8abf5 kD_J0_length_8abf5 rfl ⟨Nat.le_of_ble_eq_true rfl, Nat.le_of_ble_eq_true rfl⟩ ⟨Nat.le_refl _, Nat.le_refl _⟩ (rest := [.int 0, .int ch, .ref (gs_b E)]) rfl (Nat.le_of_ble_eq_true rfl) dJ0_indexOf_7cf53_14 (st' := [.int 5, .int 0, .int ch, .ref (gs_b E)]) rfl ?_
  refine x_callS C (m_J1_indexOf_4cfef (ch := ch)) kM_J0_637 kT_J1_indexOf_4cfef kN_J1 kC_J1_indexOf_4cfef kD_J1_indexOf_4cfef rfl ⟨Nat.le_of_ble_eq_true rfl, Nat.le_of_ble_eq_true rfl⟩ ⟨Nat.le_refl _, Nat.le_refl _⟩ (rest := []) rfl (Nat.le_of_ble_eq_true rfl) dJ0_indexOf_7cf53_17 (st' := [.int (kIx ch)]) rfl ?_
  refine x_goto C dJ0_indexOf_7cf53_20 (tgt := 36) (by decide) ?_
  exact x_ret C hr rfl rfl dJ0_indexOf_7cf53_36
set_option maxHeartbeats 4000000 in
set_option maxRecDepth 20000 in
theorem m_J0_indexOf_0f7a4 {E : gs_E} {l : Launch} {ch : Int32} {σ : gs_H} {g : Int64} : gs_M l E yJ0_indexOf_0f7a4 cJ0_indexOf_0f7a4 2 (some .int) (3, 70) [.ref (gs_t E), .int ch] σ g (some (.int (kIx ch))) σ g := by
  refine x_enter (lv := [(0, .ref (gs_t E)), (1, .int ch)]) (by decide +kernel) (Nat.le_of_ble_eq_true rfl) rfl (fun p e s m args below meth c C hr => ?_)
  refine x_aload_n C dJ0_indexOf_0f7a4_0 rfl 0 rfl ?_
  refine x_iload_n C dJ0_indexOf_0f7a4_1 rfl 1 rfl ?_
  refine x_iconst C dJ0_indexOf_0f7a4_2 (v := 0) (by decide) ?_
  refine x_callT C rfl (m_J0_indexOf_7cf53 (ch := ch)) kM_J0_633 kI_J0_indexOf_7cf53 kS_J0_indexOf_7cf53 kN_J0 kC_J0_indexOf_7cf53 kD_J0_indexOf_7cf53 rfl ⟨Nat.le_of_ble_eq_true rfl, Nat.le_of_ble_eq_true rfl⟩ ⟨Nat.le_refl _, Nat.le_refl _⟩ (rest := []) rfl (Nat.le_of_ble_eq_true rfl) dJ0_indexOf_0f7a4_3 (st' := [.int (kIx ch)]) rfl ?_
  exact x_ret C hr rfl rfl dJ0_indexOf_0f7a4_6
theorem x_ix {E : gs_E} {cc : ByteArray} {nL : Nat} {p : Program} {l : Launch} {e : Env} {R : Room} {s : State} {m : MethodId} {args : Array Value} {below : List Frame} {meth : Method} {c : Code} {cells slots : Nat} {Q : State → Prop} {pc : Nat} {lv : List (Nat × Value)} {st : List Value} {σ : gs_H} {g : Int64} (C : gs_X E RX5 cc nL p s m args meth c) {ch : Int32} (hfr : 6 ≤ R.frames) (hlo : 220 ≤ R.locals) (hf : cells ≤ R.cells ∧ slots ≤ R.slots) (hw : (st.map fun v => v.category).sum ≤ 8) (d : decode cc pc = .ok (.invokevirtual 94, 3)) (kk : gs_W E nL p l e R s m args below meth c cells slots Q (pc + 3) lv (.int (kIx ch) :: st) σ g) : gs_W E nL p l e R s m args below meth c cells slots Q pc lv (.int ch :: .ref (gs_t E) :: st) σ g :=
  x_callT C rfl (m_J0_indexOf_0f7a4 (ch := ch)) kM_X5_94 kI_J0_indexOf_0f7a4 kS_J0_indexOf_0f7a4 kN_J0 kC_J0_indexOf_0f7a4 kD_J0_indexOf_0f7a4 rfl ⟨Nat.le_trans (Nat.le_of_ble_eq_true rfl) hfr, Nat.le_trans (Nat.le_of_ble_eq_true rfl) hlo⟩ hf (rest := st) rfl hw d rfl kk
