def f_J6_bitCount_0f7a4 (x0 : Int32) : Int32 :=
((((((((x0 - ((x0.toUInt32 >>> ((1 : Int32).toUInt32 &&& Int32.toUInt32 31)).toInt32 &&& (1431655765 : Int32))) &&& (858993459 : Int32)) + (((x0 - ((x0.toUInt32 >>> ((1 : Int32).toUInt32 &&& Int32.toUInt32 31)).toInt32 &&& (1431655765 : Int32))).toUInt32 >>> ((2 : Int32).toUInt32 &&& Int32.toUInt32 31)).toInt32 &&& (858993459 : Int32))) + ((((x0 - ((x0.toUInt32 >>> ((1 : Int32).toUInt32 &&& Int32.toUInt32 31)).toInt32 &&& (1431655765 : Int32))) &&& (858993459 : Int32)) + (((x0 - ((x0.toUInt32 >>> ((1 : Int32).toUInt32 &&& Int32.toUInt32 31)).toInt32 &&& (1431655765 : Int32))).toUInt32 >>> ((2 : Int32).toUInt32 &&& Int32.toUInt32 31)).toInt32 &&& (858993459 : Int32))).toUInt32 >>> ((4 : Int32).toUInt32 &&& Int32.toUInt32 31)).toInt32) &&& (252645135 : Int32)) + ((((((x0 - ((x0.toUInt32 >>> ((1 : Int32).toUInt32 &&& Int32.toUInt32 31)).toInt32 &&& (1431655765 : Int32))) &&& (858993459 : Int32)) + (((x0 - ((x0.toUInt32 >>> ((1 : Int32).toUInt32 &&& Int32.toUInt32 31)).toInt32 &&& (1431655765 : Int32))).toUInt32 >>> ((2 : Int32).toUInt32 &&& Int32.toUInt32 31)).toInt32 &&& (858993459 : Int32))) + ((((x0 - ((x0.toUInt32 >>> ((1 : Int32).toUInt32 &&& Int32.toUInt32 31)).toInt32 &&& (1431655765 : Int32))) &&& (858993459 : Int32)) + (((x0 - ((x0.toUInt32 >>> ((1 : Int32).toUInt32 &&& Int32.toUInt32 31)).toInt32 &&& (1431655765 : Int32))).toUInt32 >>> ((2 : Int32).toUInt32 &&& Int32.toUInt32 31)).toInt32 &&& (858993459 : Int32))).toUInt32 >>> ((4 : Int32).toUInt32 &&& Int32.toUInt32 31)).toInt32) &&& (252645135 : Int32)).toUInt32 >>> ((8 : Int32).toUInt32 &&& Int32.toUInt32 31)).toInt32) + (((((((x0 - ((x0.toUInt32 >>> ((1 : Int32).toUInt32 &&& Int32.toUInt32 31)).toInt32 &&& (1431655765 : Int32))) &&& (858993459 : Int32)) + (((x0 - ((x0.toUInt32 >>> ((1 : Int32).toUInt32 &&& Int32.toUInt32 31)).toInt32 &&& (1431655765 : Int32))).toUInt32 >>> ((2 : Int32).toUInt32 &&& Int32.toUInt32 31)).toInt32 &&& (858993459 : Int32))) + ((((x0 - ((x0.toUInt32 >>> ((1 : Int32).toUInt32 &&& Int32.toUInt32 31)).toInt32 &&& (1431655765 : Int32))) &&& (858993459 : Int32)) + (((x0 - ((x0.toUInt32 >>> ((1 : Int32).toUInt32 &&& Int32.toUInt32 31)).toInt32 &&& (1431655765 : Int32))).toUInt32 >>> ((2 : Int32).toUInt32 &&& Int32.toUInt32 31)).toInt32 &&& (858993459 : Int32))).toUInt32 >>> ((4 : Int32).toUInt32 &&& Int32.toUInt32 31)).toInt32) &&& (252645135 : Int32)) + ((((((x0 - ((x0.toUInt32 >>> ((1 : Int32).toUInt32 &&& Int32.toUInt32 31)).toInt32 &&& (1431655765 : Int32))) &&& (858993459 : Int32)) + (((x0 - ((x0.toUInt32 >>> ((1 : Int32).toUInt32 &&& Int32.toUInt32 31)).toInt32 &&& (1431655765 : Int32))).toUInt32 >>> ((2 : Int32).toUInt32 &&& Int32.toUInt32 31)).toInt32 &&& (858993459 : Int32))) + ((((x0 - ((x0.toUInt32 >>> ((1 : Int32).toUInt32 &&& Int32.toUInt32 31)).toInt32 &&& (1431655765 : Int32))) &&& (858993459 : Int32)) + (((x0 - ((x0.toUInt32 >>> ((1 : Int32).toUInt32 &&& Int32.toUInt32 31)).toInt32 &&& (1431655765 : Int32))).toUInt32 >>> ((2 : Int32).toUInt32 &&& Int32.toUInt32 31)).toInt32 &&& (858993459 : Int32))).toUInt32 >>> ((4 : Int32).toUInt32 &&& Int32.toUInt32 31)).toInt32) &&& (252645135 : Int32)).toUInt32 >>> ((8 : Int32).toUInt32 &&& Int32.toUInt32 31)).toInt32).toUInt32 >>> ((16 : Int32).toUInt32 &&& Int32.toUInt32 31)).toInt32) &&& (63 : Int32))
set_option maxHeartbeats 4000000 in
set_option maxRecDepth 20000 in
theorem m_J6_bitCount_0f7a4 {E : gs_E} {l : Launch} {x0 : Int32} {σ : gs_H} {g : Int64} {r0 : Int32} (h : f_J6_bitCount_0f7a4 x0 = r0) : gs_M l E yJ6_bitCount_0f7a4 cJ6_bitCount_0f7a4 1 (some .int) (0, 0) [.int x0] σ g (some (.int r0)) σ g := by
  refine x_enter (lv := [(0, .int x0)]) (by decide +kernel) (Nat.le_of_ble_eq_true rfl) rfl (fun p e s m args below meth c C hr => ?_)
  unfold f_J6_bitCount_0f7a4 at h
  refine x_iload_n C dJ6_bitCount_0f7a4_0 rfl 0 rfl ?_
  refine x_iload_n C dJ6_bitCount_0f7a4_1 rfl 0 rfl ?_
  refine x_iconst C dJ6_bitCount_0f7a4_2 (v := 1) (by decide) ?_
  refine x_iushr C dJ6_bitCount_0f7a4_3 ?_
  refine x_ldcw C kK_J6_265 dJ6_bitCount_0f7a4_4 ?_
  refine x_iand C dJ6_bitCount_0f7a4_7 ?_
  refine x_isub C dJ6_bitCount_0f7a4_8 ?_
  refine x_istore_n C dJ6_bitCount_0f7a4_9 rfl (lv2 := [(0, .int (x0 - ((x0.toUInt32 >>> ((1 : Int32).toUInt32 &&& Int32.toUInt32 31)).toInt32 &&& (1431655765 : Int32))))]) (by decide) rfl [0] rfl ?_
  refine x_iload_n C dJ6_bitCount_0f7a4_10 rfl 0 rfl ?_
  refine x_ldcw C kK_J6_266 dJ6_bitCount_0f7a4_11 ?_
  refine x_iand C dJ6_bitCount_0f7a4_14 ?_
  refine x_iload_n C dJ6_bitCount_0f7a4_15 rfl 0 rfl ?_
  refine x_iconst C dJ6_bitCount_0f7a4_16 (v := 2) (by decide) ?_
  refine x_iushr C dJ6_bitCount_0f7a4_17 ?_
  refine x_ldcw C kK_J6_266 dJ6_bitCount_0f7a4_18 ?_
  refine x_iand C dJ6_bitCount_0f7a4_21 ?_
  refine x_iadd C dJ6_bitCount_0f7a4_22 ?_
  refine x_istore_n C dJ6_bitCount_0f7a4_23 rfl (lv2 := [(0, .int (((x0 - ((x0.toUInt32 >>> ((1 : Int32).toUInt32 &&& Int32.toUInt32 31)).toInt32 &&& (1431655765 : Int32))) &&& (858993459 : Int32)) + (((x0 - ((x0.toUInt32 >>> ((1 : Int32).toUInt32 &&& Int32.toUInt32 31)).toInt32 &&& (1431655765 : Int32))).toUInt32 >>> ((2 : Int32).toUInt32 &&& Int32.toUInt32 31)).toInt32 &&& (858993459 : Int32))))]) (by decide) rfl [0] rfl ?_
  refine x_iload_n C dJ6_bitCount_0f7a4_24 rfl 0 rfl ?_
  refine x_iload_n C dJ6_bitCount_0f7a4_25 rfl 0 rfl ?_
  refine x_iconst C dJ6_bitCount_0f7a4_26 (v := 4) (by decide) ?_
  refine x_iushr C dJ6_bitCount_0f7a4_27 ?_
  refine x_iadd C dJ6_bitCount_0f7a4_28 ?_
  refine x_ldcw C kK_J6_267 dJ6_bitCount_0f7a4_29 ?_
  refine x_iand C dJ6_bitCount_0f7a4_32 ?_
  refine x_istore_n C dJ6_bitCount_0f7a4_33 rfl (lv2 := [(0, .int (((((x0 - ((x0.toUInt32 >>> ((1 : Int32).toUInt32 &&& Int32.toUInt32 31)).toInt32 &&& (1431655765 : Int32))) &&& (858993459 : Int32)) + (((x0 - ((x0.toUInt32 >>> ((1 : Int32).toUInt32 &&& Int32.toUInt32 31)).toInt32 &&& (1431655765 : Int32))).toUInt32 >>> ((2 : Int32).toUInt32 &&& Int32.toUInt32 31)).toInt32 &&& (858993459 : Int32))) + ((((x0 - ((x0.toUInt32 >>> ((1 : Int32).toUInt32 &&& Int32.toUInt32 31)).toInt32 &&& (1431655765 : Int32))) &&& (858993459 : Int32)) + (((x0 - ((x0.toUInt32 >>> ((1 : Int32).toUInt32 &&& Int32.toUInt32 31)).toInt32 &&& (1431655765 : Int32))).toUInt32 >>> ((2 : Int32).toUInt32 &&& Int32.toUInt32 31)).toInt32 &&& (858993459 : Int32))).toUInt32 >>> ((4 : Int32).toUInt32 &&& Int32.toUInt32 31)).toInt32) &&& (252645135 : Int32)))]) (by decide) rfl [0] rfl ?_
  refine x_iload_n C dJ6_bitCount_0f7a4_34 rfl 0 rfl ?_
  refine x_iload_n C dJ6_bitCount_0f7a4_35 rfl 0 rfl ?_
  refine x_bipush C dJ6_bitCount_0f7a4_36 (v := 8) (by decide) ?_
  refine x_iushr C dJ6_bitCount_0f7a4_38 ?_
  refine x_iadd C dJ6_bitCount_0f7a4_39 ?_
  refine x_istore_n C dJ6_bitCount_0f7a4_40 rfl (lv2 := [(0, .int ((((((x0 - ((x0.toUInt32 >>> ((1 : Int32).toUInt32 &&& Int32.toUInt32 31)).toInt32 &&& (1431655765 : Int32))) &&& (858993459 : Int32)) + (((x0 - ((x0.toUInt32 >>> ((1 : Int32).toUInt32 &&& Int32.toUInt32 31)).toInt32 &&& (1431655765 : Int32))).toUInt32 >>> ((2 : Int32).toUInt32 &&& Int32.toUInt32 31)).toInt32 &&& (858993459 : Int32))) + ((((x0 - ((x0.toUInt32 >>> ((1 : Int32).toUInt32 &&& Int32.toUInt32 31)).toInt32 &&& (1431655765 : Int32))) &&& (858993459 : Int32)) + (((x0 - ((x0.toUInt32 >>> ((1 : Int32).toUInt32 &&& Int32.toUInt32 31)).toInt32 &&& (1431655765 : Int32))).toUInt32 >>> ((2 : Int32).toUInt32 &&& Int32.toUInt32 31)).toInt32 &&& (858993459 : Int32))).toUInt32 >>> ((4 : Int32).toUInt32 &&& Int32.toUInt32 31)).toInt32) &&& (252645135 : Int32)) + ((((((x0 - ((x0.toUInt32 >>> ((1 : Int32).toUInt32 &&& Int32.toUInt32 31)).toInt32 &&& (1431655765 : Int32))) &&& (858993459 : Int32)) + (((x0 - ((x0.toUInt32 >>> ((1 : Int32).toUInt32 &&& Int32.toUInt32 31)).toInt32 &&& (1431655765 : Int32))).toUInt32 >>> ((2 : Int32).toUInt32 &&& Int32.toUInt32 31)).toInt32 &&& (858993459 : Int32))) + ((((x0 - ((x0.toUInt32 >>> ((1 : Int32).toUInt32 &&& Int32.toUInt32 31)).toInt32 &&& (1431655765 : Int32))) &&& (858993459 : Int32)) + (((x0 - ((x0.toUInt32 >>> ((1 : Int32).toUInt32 &&& Int32.toUInt32 31)).toInt32 &&& (1431655765 : Int32))).toUInt32 >>> ((2 : Int32).toUInt32 &&& Int32.toUInt32 31)).toInt32 &&& (858993459 : Int32))).toUInt32 >>> ((4 : Int32).toUInt32 &&& Int32.toUInt32 31)).toInt32) &&& (252645135 : Int32)).toUInt32 >>> ((8 : Int32).toUInt32 &&& Int32.toUInt32 31)).toInt32))]) (by decide) rfl [0] rfl ?_
  refine x_iload_n C dJ6_bitCount_0f7a4_41 rfl 0 rfl ?_
  refine x_iload_n C dJ6_bitCount_0f7a4_42 rfl 0 rfl ?_
  refine x_bipush C dJ6_bitCount_0f7a4_43 (v := 16) (by decide) ?_
  refine x_iushr C dJ6_bitCount_0f7a4_45 ?_
  refine x_iadd C dJ6_bitCount_0f7a4_46 ?_
  refine x_istore_n C dJ6_bitCount_0f7a4_47 rfl (lv2 := [(0, .int (((((((x0 - ((x0.toUInt32 >>> ((1 : Int32).toUInt32 &&& Int32.toUInt32 31)).toInt32 &&& (1431655765 : Int32))) &&& (858993459 : Int32)) + (((x0 - ((x0.toUInt32 >>> ((1 : Int32).toUInt32 &&& Int32.toUInt32 31)).toInt32 &&& (1431655765 : Int32))).toUInt32 >>> ((2 : Int32).toUInt32 &&& Int32.toUInt32 31)).toInt32 &&& (858993459 : Int32))) + ((((x0 - ((x0.toUInt32 >>> ((1 : Int32).toUInt32 &&& Int32.toUInt32 31)).toInt32 &&& (1431655765 : Int32))) &&& (858993459 : Int32)) + (((x0 - ((x0.toUInt32 >>> ((1 : Int32).toUInt32 &&& Int32.toUInt32 31)).toInt32 &&& (1431655765 : Int32))).toUInt32 >>> ((2 : Int32).toUInt32 &&& Int32.toUInt32 31)).toInt32 &&& (858993459 : Int32))).toUInt32 >>> ((4 : Int32).toUInt32 &&& Int32.toUInt32 31)).toInt32) &&& (252645135 : Int32)) + ((((((x0 - ((x0.toUInt32 >>> ((1 : Int32).toUInt32 &&& Int32.toUInt32 31)).toInt32 &&& (1431655765 : Int32))) &&& (858993459 : Int32)) + (((x0 - ((x0.toUInt32 >>> ((1 : Int32).toUInt32 &&& Int32.toUInt32 31)).toInt32 &&& (1431655765 : Int32))).toUInt32 >>> ((2 : Int32).toUInt32 &&& Int32.toUInt32 31)).toInt32 &&& (858993459 : Int32))) + ((((x0 - ((x0.toUInt32 >>> ((1 : Int32).toUInt32 &&& Int32.toUInt32 31)).toInt32 &&& (1431655765 : Int32))) &&& (858993459 : Int32)) + (((x0 - ((x0.toUInt32 >>> ((1 : Int32).toUInt32 &&& Int32.toUInt32 31)).toInt32 &&& (1431655765 : Int32))).toUInt32 >>> ((2 : Int32).toUInt32 &&& Int32.toUInt32 31)).toInt32 &&& (858993459 : Int32))).toUInt32 >>> ((4 : Int32).toUInt32 &&& Int32.toUInt32 31)).toInt32) &&& (252645135 : Int32)).toUInt32 >>> ((8 : Int32).toUInt32 &&& Int32.toUInt32 31)).toInt32) + (((((((x0 - ((x0.toUInt32 >>> ((1 : Int32).toUInt32 &&& Int32.toUInt32 31)).toInt32 &&& (1431655765 : Int32))) &&& (858993459 : Int32)) + (((x0 - ((x0.toUInt32 >>> ((1 : Int32).toUInt32 &&& Int32.toUInt32 31)).toInt32 &&& (1431655765 : Int32))).toUInt32 >>> ((2 : Int32).toUInt32 &&& Int32.toUInt32 31)).toInt32 &&& (858993459 : Int32))) + ((((x0 - ((x0.toUInt32 >>> ((1 : Int32).toUInt32 &&& Int32.toUInt32 31)).toInt32 &&& (1431655765 : Int32))) &&& (858993459 : Int32)) + (((x0 - ((x0.toUInt32 >>> ((1 : Int32).toUInt32 &&& Int32.toUInt32 31)).toInt32 &&& (1431655765 : Int32))).toUInt32 >>> ((2 : Int32).toUInt32 &&& Int32.toUInt32 31)).toInt32 &&& (858993459 : Int32))).toUInt32 >>> ((4 : Int32).toUInt32 &&& Int32.toUInt32 31)).toInt32) &&& (252645135 : Int32)) + ((((((x0 - ((x0.toUInt32 >>> ((1 : Int32).toUInt32 &&& Int32.toUInt32 31)).toInt32 &&& (1431655765 : Int32))) &&& (858993459 : Int32)) + (((x0 - ((x0.toUInt32 >>> ((1 : Int32).toUInt32 &&& Int32.toUInt32 31)).toInt32 &&& (1431655765 : Int32))).toUInt32 >>> ((2 : Int32).toUInt32 &&& Int32.toUInt32 31)).toInt32 &&& (858993459 : Int32))) + ((((x0 - ((x0.toUInt32 >>> ((1 : Int32).toUInt32 &&& Int32.toUInt32 31)).toInt32 &&& (1431655765 : Int32))) &&& (858993459 : Int32)) + (((x0 - ((x0.toUInt32 >>> ((1 : Int32).toUInt32 &&& Int32.toUInt32 31)).toInt32 &&& (1431655765 : Int32))).toUInt32 >>> ((2 : Int32).toUInt32 &&& Int32.toUInt32 31)).toInt32 &&& (858993459 : Int32))).toUInt32 >>> ((4 : Int32).toUInt32 &&& Int32.toUInt32 31)).toInt32) &&& (252645135 : Int32)).toUInt32 >>> ((8 : Int32).toUInt32 &&& Int32.toUInt32 31)).toInt32).toUInt32 >>> ((16 : Int32).toUInt32 &&& Int32.toUInt32 31)).toInt32))]) (by decide) rfl [0] rfl ?_
  refine x_iload_n C dJ6_bitCount_0f7a4_48 rfl 0 rfl ?_
  refine x_bipush C dJ6_bitCount_0f7a4_49 (v := 63) (by decide) ?_
  refine x_iand C dJ6_bitCount_0f7a4_51 ?_
  subst h
  exact x_ret C hr rfl rfl dJ6_bitCount_0f7a4_52
def f_X1_weight (x0 : Int32) (x1 : Int32) (x2 : Int32) : Int32 :=
if x0 = 1 then (
((2 : Int32) * x1))
else (
if x0 = 2 then (
(0 : Int32))
else (
if x0 = 3 then (
(-x1))
else (
if x0 = 4 then (
(if (0 : Int32) < (((2 : Int32) * x1) - x2) then (((2 : Int32) * x1) - x2) else (0 : Int32)))
else (
x1))))
set_option maxHeartbeats 4000000 in
set_option maxRecDepth 20000 in
theorem m_X1_weight {E : gs_E} {l : Launch} {x0 : Int32} {x1 : Int32} {x2 : Int32} {σ : gs_H} {g : Int64} {r0 : Int32} (h : f_X1_weight x0 x1 x2 = r0) : gs_M l E yX1_weight cX1_weight 3 (some .int) (1, 21) [.int x0, .int x1, .int x2] σ g (some (.int r0)) σ g := by
  refine x_enter (lv := [(0, .int x0), (1, .int x1), (2, .int x2)]) (by decide +kernel) (Nat.le_of_ble_eq_true rfl) rfl (fun p e s m args below meth c C hr => ?_)
  unfold f_X1_weight at h
  refine x_iload_n C dX1_weight_0 rfl 0 rfl ?_
  by_cases hs1_0 : x0 = 1
  · replace h := (if_pos hs1_0).symm.trans h
    refine x_tsw C dX1_weight_1 1 hs1_0 (by decide) (by decide) (off := 31) rfl (tgt := 32) (by decide) ?_
    refine x_iconst C dX1_weight_32 (v := 2) (by decide) ?_
    refine x_iload_n C dX1_weight_33 rfl 1 rfl ?_
    refine x_imul C dX1_weight_34 ?_
    subst h
    exact x_ret C hr rfl rfl dX1_weight_35
  · replace h := (if_neg hs1_0).symm.trans h
    by_cases hs1_1 : x0 = 2
    · replace h := (if_pos hs1_1).symm.trans h
      refine x_tsw C dX1_weight_1 2 hs1_1 (by decide) (by decide) (off := 35) rfl (tgt := 36) (by decide) ?_
      refine x_iconst C dX1_weight_36 (v := 0) (by decide) ?_
      subst h
      exact x_ret C hr rfl rfl dX1_weight_37
    · replace h := (if_neg hs1_1).symm.trans h
      by_cases hs1_2 : x0 = 3
      · replace h := (if_pos hs1_2).symm.trans h
        refine x_tsw C dX1_weight_1 3 hs1_2 (by decide) (by decide) (off := 37) rfl (tgt := 38) (by decide) ?_
        refine x_iload_n C dX1_weight_38 rfl 1 rfl ?_
        refine x_ineg C dX1_weight_39 ?_
        subst h
        exact x_ret C hr rfl rfl dX1_weight_40
      · replace h := (if_neg hs1_2).symm.trans h
        by_cases hs1_3 : x0 = 4
        · replace h := (if_pos hs1_3).symm.trans h
          refine x_tsw C dX1_weight_1 4 hs1_3 (by decide) (by decide) (off := 40) rfl (tgt := 41) (by decide) ?_
          refine x_iconst C dX1_weight_41 (v := 0) (by decide) ?_
          refine x_iconst C dX1_weight_42 (v := 2) (by decide) ?_
          refine x_iload_n C dX1_weight_43 rfl 1 rfl ?_
          refine x_imul C dX1_weight_44 ?_
          refine x_iload_n C dX1_weight_45 rfl 2 rfl ?_
          refine x_isub C dX1_weight_46 ?_
          refine x_mmax C kM_X1_9 kT_Math_max kN_J9 kC_Math_max (Nat.le_of_ble_eq_true rfl) (Nat.le_of_ble_eq_true rfl) ⟨Nat.le_refl _, Nat.le_refl _⟩ dX1_weight_47 ?_
          subst h
          exact x_ret C hr rfl rfl dX1_weight_50
        · replace h := (if_neg hs1_3).symm.trans h
          refine x_tswD C dX1_weight_1 (tgt := 51) (by have e0 := lv_neT hs1_0 (a := 1) rfl; have e1 := lv_neT hs1_1 (a := 2) rfl; have e2 := lv_neT hs1_2 (a := 3) rfl; have e3 := lv_neT hs1_3 (a := 4) rfl; omega) (by decide) ?_
          refine x_iload_n C dX1_weight_51 rfl 1 rfl ?_
          subst h
          exact x_ret C hr rfl rfl dX1_weight_52
def f_X1_isA (x0 : Int32) (x1 : Int32) : Int32 :=
if x1 = x0 then (
(1 : Int32))
else (
if x1 = 0 then (
(1 : Int32))
else (
if x0 = (4 : Int32) then (
if x1 = (1 : Int32) then (
(1 : Int32))
else (
(0 : Int32)))
else (
(0 : Int32))))
set_option maxHeartbeats 4000000 in
set_option maxRecDepth 20000 in
theorem m_X1_isA {E : gs_E} {l : Launch} {x0 : Int32} {x1 : Int32} {σ : gs_H} {g : Int64} {r0 : Int32} (h : f_X1_isA x0 x1 = r0) : gs_M l E yX1_isA cX1_isA 2 (some .boolean) (0, 0) [.int x0, .int x1] σ g (some (.int r0)) σ g := by
  refine x_enter (lv := [(0, .int x0), (1, .int x1)]) (by decide +kernel) (Nat.le_of_ble_eq_true rfl) rfl (fun p e s m args below meth c C hr => ?_)
  unfold f_X1_isA at h
  refine x_iload_n C dX1_isA_0 rfl 1 rfl ?_
  refine x_iload_n C dX1_isA_1 rfl 0 rfl ?_
  by_cases hc1 : x1 = x0
  · replace h := (if_pos hc1).symm.trans h
    refine x_icmp_eqT C dX1_isA_2 (tgt := 19) (by decide) hc1 ?_
    refine x_iconst C dX1_isA_19 (v := 1) (by decide) ?_
    refine x_goto C dX1_isA_20 (tgt := 24) (by decide) ?_
    subst h
    exact x_retb C hr (by decide) rfl dX1_isA_24
  · replace h := (if_neg hc1).symm.trans h
    refine x_icmp_eqF C dX1_isA_2 (tgt := 19) (by decide) hc1 ?_
    refine x_iload_n C dX1_isA_5 rfl 1 rfl ?_
    by_cases hc2 : x1 = 0
    · replace h := (if_pos hc2).symm.trans h
      refine x_if_eqT C dX1_isA_6 (tgt := 19) (by decide) hc2 ?_
      refine x_iconst C dX1_isA_19 (v := 1) (by decide) ?_
      refine x_goto C dX1_isA_20 (tgt := 24) (by decide) ?_
      subst h
      exact x_retb C hr (by decide) rfl dX1_isA_24
    · replace h := (if_neg hc2).symm.trans h
      refine x_if_eqF C dX1_isA_6 (tgt := 19) (by decide) hc2 ?_
      refine x_iload_n C dX1_isA_9 rfl 0 rfl ?_
      refine x_iconst C dX1_isA_10 (v := 4) (by decide) ?_
      by_cases hc3 : x0 = (4 : Int32)
      · replace h := (if_pos hc3).symm.trans h
        refine x_icmp_neF C dX1_isA_11 (tgt := 23) (by decide) hc3 ?_
        refine x_iload_n C dX1_isA_14 rfl 1 rfl ?_
        refine x_iconst C dX1_isA_15 (v := 1) (by decide) ?_
        by_cases hc4 : x1 = (1 : Int32)
        · replace h := (if_pos hc4).symm.trans h
          refine x_icmp_neF C dX1_isA_16 (tgt := 23) (by decide) hc4 ?_
          refine x_iconst C dX1_isA_19 (v := 1) (by decide) ?_
          refine x_goto C dX1_isA_20 (tgt := 24) (by decide) ?_
          subst h
          exact x_retb C hr (by decide) rfl dX1_isA_24
        · replace h := (if_neg hc4).symm.trans h
          refine x_icmp_neT C dX1_isA_16 (tgt := 23) (by decide) hc4 ?_
          refine x_iconst C dX1_isA_23 (v := 0) (by decide) ?_
          subst h
          exact x_retb C hr (by decide) rfl dX1_isA_24
      · replace h := (if_neg hc3).symm.trans h
        refine x_icmp_neT C dX1_isA_11 (tgt := 23) (by decide) hc3 ?_
        refine x_iconst C dX1_isA_23 (v := 0) (by decide) ?_
        subst h
        exact x_retb C hr (by decide) rfl dX1_isA_24
def f_X1_isKind (x0 : Int32) : Int32 :=
if x0 < 0 then (
(0 : Int32))
else (
if (4 : Int32) < x0 then (
(0 : Int32))
else (
(1 : Int32)))
set_option maxHeartbeats 4000000 in
set_option maxRecDepth 20000 in
theorem m_X1_isKind {E : gs_E} {l : Launch} {x0 : Int32} {σ : gs_H} {g : Int64} {r0 : Int32} (h : f_X1_isKind x0 = r0) : gs_M l E yX1_isKind cX1_isKind 1 (some .boolean) (0, 0) [.int x0] σ g (some (.int r0)) σ g := by
  refine x_enter (lv := [(0, .int x0)]) (by decide +kernel) (Nat.le_of_ble_eq_true rfl) rfl (fun p e s m args below meth c C hr => ?_)
  unfold f_X1_isKind at h
  refine x_iload_n C dX1_isKind_0 rfl 0 rfl ?_
  by_cases hc1 : x0 < 0
  · replace h := (if_pos hc1).symm.trans h
    refine x_if_ltT C dX1_isKind_1 (tgt := 13) (by decide) hc1 ?_
    refine x_iconst C dX1_isKind_13 (v := 0) (by decide) ?_
    subst h
    exact x_retb C hr (by decide) rfl dX1_isKind_14
  · replace h := (if_neg hc1).symm.trans h
    refine x_if_ltF C dX1_isKind_1 (tgt := 13) (by decide) hc1 ?_
    refine x_iload_n C dX1_isKind_4 rfl 0 rfl ?_
    refine x_iconst C dX1_isKind_5 (v := 4) (by decide) ?_
    by_cases hc2 : (4 : Int32) < x0
    · replace h := (if_pos hc2).symm.trans h
      refine x_icmp_gtT C dX1_isKind_6 (tgt := 13) (by decide) hc2 ?_
      refine x_iconst C dX1_isKind_13 (v := 0) (by decide) ?_
      subst h
      exact x_retb C hr (by decide) rfl dX1_isKind_14
    · replace h := (if_neg hc2).symm.trans h
      refine x_icmp_gtF C dX1_isKind_6 (tgt := 13) (by decide) hc2 ?_
      refine x_iconst C dX1_isKind_9 (v := 1) (by decide) ?_
      refine x_goto C dX1_isKind_10 (tgt := 14) (by decide) ?_
      subst h
      exact x_retb C hr (by decide) rfl dX1_isKind_14
def b_X8_swapThings_2 (ar : Nat) (x1 : Int32) (x2 : Int32) (y : Int32 × gs_H) : Option ((Int32 × gs_H) ⊕ ((gs_H))) :=
if (6 : Int32) ≤ y.1 then (
some (Sum.inr y.2))
else (
if inb y.1 6 then
if (y.2 ar y.1.toNatClampNeg) = x1 then (
if inb y.1 6 then
some (Sum.inl ((y.1 + (1 : Int32)), (up2 y.2 ar y.1.toNatClampNeg x2))) else none)
else (
if inb y.1 6 then
if (y.2 ar y.1.toNatClampNeg) = x2 then (
if inb y.1 6 then
some (Sum.inl ((y.1 + (1 : Int32)), (up2 y.2 ar y.1.toNatClampNeg x1))) else none)
else (
some (Sum.inl ((y.1 + (1 : Int32)), y.2))) else none) else none)
def f_X8_swapThings (ar : Nat) (x1 : Int32) (x2 : Int32) (σ : gs_H) : Option (gs_H) :=
(lp (b_X8_swapThings_2 ar x1 x2) 1000 ((0 : Int32), σ)).bind fun q1 =>
some q1
set_option maxHeartbeats 4000000 in
set_option maxRecDepth 20000 in
theorem wl_X8_swapThings_2_12 {E : gs_E} {l : Launch} {p : Program} {e : Env} {s : State} {m : MethodId} {args : Array Value} {below : List Frame} {meth : Method} {c : Code} (C : gs_X E RX8 cX8_swapThings 4 p s m args meth c) {ov : Option Value} {σ0 : gs_H} {g0 : Int64} {x1 : Int32} {x2 : Int32} {g : Int64} {q : (gs_H)} (hx0 : ∀ (zs : gs_H), q = zs → gs_V E 4 (0, 0) p l e s m args below meth c ov σ0 g0 39 [] [] zs g) : ∀ (n : Nat) (y3 : Int32) (ys : gs_H), lp (b_X8_swapThings_2 12 x1 x2) n (y3, ys) = some q → gs_V E 4 (0, 0) p l e s m args below meth c ov σ0 g0 2 [(0, .ref (gs_a E 12)), (1, .int x1), (2, .int x2), (3, .int y3)] [] ys g := by
  intro n
  induction n with
  | zero => intro y3 ys h; cases h
  | succ n ih =>
    intro y3 ys h
    obtain ⟨r, h, hl, he⟩ := lp_step h
    have hc := fun (y3 : Int32) (ys : gs_H) (hr : r = Sum.inl (y3, ys)) => ih y3 ys (hl _ hr)
    have hk0 := fun (zs : gs_H) (hr : r = Sum.inr zs) => hx0 zs (he _ hr).symm
    unfold b_X8_swapThings_2 at h
    try dsimp only at h
    refine x_iload_n C dX8_swapThings_2 rfl 3 rfl ?_
    refine x_aload_n C dX8_swapThings_3 rfl 0 rfl ?_
    refine x_alen C 12 rfl (v := (6 : Int32)) (by first | rfl | decide) dX8_swapThings_4 ?_
    by_cases hc1 : (6 : Int32) ≤ y3
    · replace h := (if_pos hc1).symm.trans h
      refine x_icmp_geT C dX8_swapThings_5 (tgt := 39) (by decide) hc1 ?_
      refine x_lv (lv' := []) [] rfl ?_
      obtain rfl := Option.some.inj h
      exact hk0 ys rfl
    · replace h := (if_neg hc1).symm.trans h
      refine x_icmp_geF C dX8_swapThings_5 (tgt := 39) (by decide) hc1 ?_
      refine x_aload_n C dX8_swapThings_8 rfl 0 rfl ?_
      refine x_iload_n C dX8_swapThings_9 rfl 3 rfl ?_
      obtain ⟨hb2, h⟩ := ck_some h
      refine x_iald C 12 rfl hb2 (v := (ys 12 y3.toNatClampNeg)) rfl dX8_swapThings_10 ?_
      refine x_iload_n C dX8_swapThings_11 rfl 1 rfl ?_
      by_cases hc3 : (ys 12 y3.toNatClampNeg) = x1
      · replace h := (if_pos hc3).symm.trans h
        refine x_icmp_neF C dX8_swapThings_12 (tgt := 22) (by decide) hc3 ?_
        refine x_aload_n C dX8_swapThings_15 rfl 0 rfl ?_
        refine x_iload_n C dX8_swapThings_16 rfl 3 rfl ?_
        refine x_iload_n C dX8_swapThings_17 rfl 2 rfl ?_
        obtain ⟨hb7, h⟩ := ck_some h
        refine x_iast C 12 rfl hb7 dX8_swapThings_18 ?_
        refine x_goto C dX8_swapThings_19 (tgt := 33) (by decide) ?_
        refine x_iinc C dX8_swapThings_33 3 rfl (v := (y3 + (1 : Int32))) rfl (lv2 := [(0, .ref (gs_a E 12)), (1, .int x1), (2, .int x2), (3, .int (y3 + (1 : Int32)))]) (by decide) rfl [1, 2, 3, 0] rfl ?_
        refine x_goto C dX8_swapThings_36 (tgt := 2) (by decide) ?_
        obtain rfl := Option.some.inj h
        exact hc (y3 + (1 : Int32)) (up2 ys 12 y3.toNatClampNeg x2) rfl
      · replace h := (if_neg hc3).symm.trans h
        refine x_icmp_neT C dX8_swapThings_12 (tgt := 22) (by decide) hc3 ?_
        refine x_aload_n C dX8_swapThings_22 rfl 0 rfl ?_
        refine x_iload_n C dX8_swapThings_23 rfl 3 rfl ?_
        obtain ⟨hb4, h⟩ := ck_some h
        refine x_iald C 12 rfl hb4 (v := (ys 12 y3.toNatClampNeg)) rfl dX8_swapThings_24 ?_
        refine x_iload_n C dX8_swapThings_25 rfl 2 rfl ?_
        by_cases hc5 : (ys 12 y3.toNatClampNeg) = x2
        · replace h := (if_pos hc5).symm.trans h
          refine x_icmp_neF C dX8_swapThings_26 (tgt := 33) (by decide) hc5 ?_
          refine x_aload_n C dX8_swapThings_29 rfl 0 rfl ?_
          refine x_iload_n C dX8_swapThings_30 rfl 3 rfl ?_
          refine x_iload_n C dX8_swapThings_31 rfl 1 rfl ?_
          obtain ⟨hb6, h⟩ := ck_some h
          refine x_iast C 12 rfl hb6 dX8_swapThings_32 ?_
          refine x_iinc C dX8_swapThings_33 3 rfl (v := (y3 + (1 : Int32))) rfl (lv2 := [(0, .ref (gs_a E 12)), (1, .int x1), (2, .int x2), (3, .int (y3 + (1 : Int32)))]) (by decide) rfl [1, 2, 3, 0] rfl ?_
          refine x_goto C dX8_swapThings_36 (tgt := 2) (by decide) ?_
          obtain rfl := Option.some.inj h
          exact hc (y3 + (1 : Int32)) (up2 ys 12 y3.toNatClampNeg x1) rfl
        · replace h := (if_neg hc5).symm.trans h
          refine x_icmp_neT C dX8_swapThings_26 (tgt := 33) (by decide) hc5 ?_
          refine x_iinc C dX8_swapThings_33 3 rfl (v := (y3 + (1 : Int32))) rfl (lv2 := [(0, .ref (gs_a E 12)), (1, .int x1), (2, .int x2), (3, .int (y3 + (1 : Int32)))]) (by decide) rfl [1, 2, 3, 0] rfl ?_
          refine x_goto C dX8_swapThings_36 (tgt := 2) (by decide) ?_
          obtain rfl := Option.some.inj h
          exact hc (y3 + (1 : Int32)) ys rfl
set_option maxHeartbeats 4000000 in
set_option maxRecDepth 20000 in
theorem m_X8_swapThings_12 {E : gs_E} {l : Launch} {x1 : Int32} {x2 : Int32} {σ : gs_H} {g : Int64} {σ0 : gs_H} (h : f_X8_swapThings 12 x1 x2 σ = some σ0) : gs_M l E yX8_swapThings cX8_swapThings 4 (none) (0, 0) [.ref (gs_a E 12), .int x1, .int x2] σ g (none) σ0 g := by
  refine x_enter (lv := [(0, .ref (gs_a E 12)), (1, .int x1), (2, .int x2)]) (by decide +kernel) (Nat.le_of_ble_eq_true rfl) rfl (fun p e s m args below meth c C hr => ?_)
  unfold f_X8_swapThings at h
  refine x_iconst C dX8_swapThings_0 (v := 0) (by decide) ?_
  refine x_istore_n C dX8_swapThings_1 rfl (lv2 := [(0, .ref (gs_a E 12)), (1, .int x1), (2, .int x2), (3, .int (0 : Int32))]) (by decide) rfl [1, 2, 3, 0] rfl ?_
  obtain ⟨q1, hq1, h⟩ := Option.bind_eq_some_iff.mp h
  refine wl_X8_swapThings_2_12 C (fun s1_0 hz => ?_) 1000 _ _ hq1
  subst q1
  try dsimp only at h
  replace h := Option.some.inj h
  subst h
  exact x_retv C hr rfl dX8_swapThings_39
set_option maxHeartbeats 4000000 in
set_option maxRecDepth 20000 in
theorem wl_X8_swapThings_2_56 {E : gs_E} {l : Launch} {p : Program} {e : Env} {s : State} {m : MethodId} {args : Array Value} {below : List Frame} {meth : Method} {c : Code} (C : gs_X E RX8 cX8_swapThings 4 p s m args meth c) {ov : Option Value} {σ0 : gs_H} {g0 : Int64} {x1 : Int32} {x2 : Int32} {g : Int64} {q : (gs_H)} (hx0 : ∀ (zs : gs_H), q = zs → gs_V E 4 (0, 0) p l e s m args below meth c ov σ0 g0 39 [] [] zs g) : ∀ (n : Nat) (y3 : Int32) (ys : gs_H), lp (b_X8_swapThings_2 56 x1 x2) n (y3, ys) = some q → gs_V E 4 (0, 0) p l e s m args below meth c ov σ0 g0 2 [(0, .ref (gs_a E 56)), (1, .int x1), (2, .int x2), (3, .int y3)] [] ys g := by
  intro n
  induction n with
  | zero => intro y3 ys h; cases h
  | succ n ih =>
    intro y3 ys h
    obtain ⟨r, h, hl, he⟩ := lp_step h
    have hc := fun (y3 : Int32) (ys : gs_H) (hr : r = Sum.inl (y3, ys)) => ih y3 ys (hl _ hr)
    have hk0 := fun (zs : gs_H) (hr : r = Sum.inr zs) => hx0 zs (he _ hr).symm
    unfold b_X8_swapThings_2 at h
    try dsimp only at h
    refine x_iload_n C dX8_swapThings_2 rfl 3 rfl ?_
    refine x_aload_n C dX8_swapThings_3 rfl 0 rfl ?_
    refine x_alen C 56 rfl (v := (6 : Int32)) (by first | rfl | decide) dX8_swapThings_4 ?_
    by_cases hc1 : (6 : Int32) ≤ y3
    · replace h := (if_pos hc1).symm.trans h
      refine x_icmp_geT C dX8_swapThings_5 (tgt := 39) (by decide) hc1 ?_
      refine x_lv (lv' := []) [] rfl ?_
      obtain rfl := Option.some.inj h
      exact hk0 ys rfl
    · replace h := (if_neg hc1).symm.trans h
      refine x_icmp_geF C dX8_swapThings_5 (tgt := 39) (by decide) hc1 ?_
      refine x_aload_n C dX8_swapThings_8 rfl 0 rfl ?_
      refine x_iload_n C dX8_swapThings_9 rfl 3 rfl ?_
      obtain ⟨hb2, h⟩ := ck_some h
      refine x_iald C 56 rfl hb2 (v := (ys 56 y3.toNatClampNeg)) rfl dX8_swapThings_10 ?_
      refine x_iload_n C dX8_swapThings_11 rfl 1 rfl ?_
      by_cases hc3 : (ys 56 y3.toNatClampNeg) = x1
      · replace h := (if_pos hc3).symm.trans h
        refine x_icmp_neF C dX8_swapThings_12 (tgt := 22) (by decide) hc3 ?_
        refine x_aload_n C dX8_swapThings_15 rfl 0 rfl ?_
        refine x_iload_n C dX8_swapThings_16 rfl 3 rfl ?_
        refine x_iload_n C dX8_swapThings_17 rfl 2 rfl ?_
        obtain ⟨hb7, h⟩ := ck_some h
        refine x_iast C 56 rfl hb7 dX8_swapThings_18 ?_
        refine x_goto C dX8_swapThings_19 (tgt := 33) (by decide) ?_
        refine x_iinc C dX8_swapThings_33 3 rfl (v := (y3 + (1 : Int32))) rfl (lv2 := [(0, .ref (gs_a E 56)), (1, .int x1), (2, .int x2), (3, .int (y3 + (1 : Int32)))]) (by decide) rfl [1, 2, 3, 0] rfl ?_
        refine x_goto C dX8_swapThings_36 (tgt := 2) (by decide) ?_
        obtain rfl := Option.some.inj h
        exact hc (y3 + (1 : Int32)) (up2 ys 56 y3.toNatClampNeg x2) rfl
      · replace h := (if_neg hc3).symm.trans h
        refine x_icmp_neT C dX8_swapThings_12 (tgt := 22) (by decide) hc3 ?_
        refine x_aload_n C dX8_swapThings_22 rfl 0 rfl ?_
        refine x_iload_n C dX8_swapThings_23 rfl 3 rfl ?_
        obtain ⟨hb4, h⟩ := ck_some h
        refine x_iald C 56 rfl hb4 (v := (ys 56 y3.toNatClampNeg)) rfl dX8_swapThings_24 ?_
        refine x_iload_n C dX8_swapThings_25 rfl 2 rfl ?_
        by_cases hc5 : (ys 56 y3.toNatClampNeg) = x2
        · replace h := (if_pos hc5).symm.trans h
          refine x_icmp_neF C dX8_swapThings_26 (tgt := 33) (by decide) hc5 ?_
          refine x_aload_n C dX8_swapThings_29 rfl 0 rfl ?_
          refine x_iload_n C dX8_swapThings_30 rfl 3 rfl ?_
          refine x_iload_n C dX8_swapThings_31 rfl 1 rfl ?_
          obtain ⟨hb6, h⟩ := ck_some h
          refine x_iast C 56 rfl hb6 dX8_swapThings_32 ?_
          refine x_iinc C dX8_swapThings_33 3 rfl (v := (y3 + (1 : Int32))) rfl (lv2 := [(0, .ref (gs_a E 56)), (1, .int x1), (2, .int x2), (3, .int (y3 + (1 : Int32)))]) (by decide) rfl [1, 2, 3, 0] rfl ?_
          refine x_goto C dX8_swapThings_36 (tgt := 2) (by decide) ?_
          obtain rfl := Option.some.inj h
          exact hc (y3 + (1 : Int32)) (up2 ys 56 y3.toNatClampNeg x1) rfl
        · replace h := (if_neg hc5).symm.trans h
          refine x_icmp_neT C dX8_swapThings_26 (tgt := 33) (by decide) hc5 ?_
          refine x_iinc C dX8_swapThings_33 3 rfl (v := (y3 + (1 : Int32))) rfl (lv2 := [(0, .ref (gs_a E 56)), (1, .int x1), (2, .int x2), (3, .int (y3 + (1 : Int32)))]) (by decide) rfl [1, 2, 3, 0] rfl ?_
          refine x_goto C dX8_swapThings_36 (tgt := 2) (by decide) ?_
          obtain rfl := Option.some.inj h
          exact hc (y3 + (1 : Int32)) ys rfl
set_option maxHeartbeats 4000000 in
set_option maxRecDepth 20000 in
theorem m_X8_swapThings_56 {E : gs_E} {l : Launch} {x1 : Int32} {x2 : Int32} {σ : gs_H} {g : Int64} {σ0 : gs_H} (h : f_X8_swapThings 56 x1 x2 σ = some σ0) : gs_M l E yX8_swapThings cX8_swapThings 4 (none) (0, 0) [.ref (gs_a E 56), .int x1, .int x2] σ g (none) σ0 g := by
  refine x_enter (lv := [(0, .ref (gs_a E 56)), (1, .int x1), (2, .int x2)]) (by decide +kernel) (Nat.le_of_ble_eq_true rfl) rfl (fun p e s m args below meth c C hr => ?_)
  unfold f_X8_swapThings at h
  refine x_iconst C dX8_swapThings_0 (v := 0) (by decide) ?_
  refine x_istore_n C dX8_swapThings_1 rfl (lv2 := [(0, .ref (gs_a E 56)), (1, .int x1), (2, .int x2), (3, .int (0 : Int32))]) (by decide) rfl [1, 2, 3, 0] rfl ?_
  obtain ⟨q1, hq1, h⟩ := Option.bind_eq_some_iff.mp h
  refine wl_X8_swapThings_2_56 C (fun s1_0 hz => ?_) 1000 _ _ hq1
  subst q1
  try dsimp only at h
  replace h := Option.some.inj h
  subst h
  exact x_retv C hr rfl dX8_swapThings_39
set_option maxHeartbeats 4000000 in
set_option maxRecDepth 20000 in
theorem wl_X8_swapThings_2_47 {E : gs_E} {l : Launch} {p : Program} {e : Env} {s : State} {m : MethodId} {args : Array Value} {below : List Frame} {meth : Method} {c : Code} (C : gs_X E RX8 cX8_swapThings 4 p s m args meth c) {ov : Option Value} {σ0 : gs_H} {g0 : Int64} {x1 : Int32} {x2 : Int32} {g : Int64} {q : (gs_H)} (hx0 : ∀ (zs : gs_H), q = zs → gs_V E 4 (0, 0) p l e s m args below meth c ov σ0 g0 39 [] [] zs g) : ∀ (n : Nat) (y3 : Int32) (ys : gs_H), lp (b_X8_swapThings_2 47 x1 x2) n (y3, ys) = some q → gs_V E 4 (0, 0) p l e s m args below meth c ov σ0 g0 2 [(0, .ref (gs_a E 47)), (1, .int x1), (2, .int x2), (3, .int y3)] [] ys g := by
  intro n
  induction n with
  | zero => intro y3 ys h; cases h
  | succ n ih =>
    intro y3 ys h
    obtain ⟨r, h, hl, he⟩ := lp_step h
    have hc := fun (y3 : Int32) (ys : gs_H) (hr : r = Sum.inl (y3, ys)) => ih y3 ys (hl _ hr)
    have hk0 := fun (zs : gs_H) (hr : r = Sum.inr zs) => hx0 zs (he _ hr).symm
    unfold b_X8_swapThings_2 at h
    try dsimp only at h
    refine x_iload_n C dX8_swapThings_2 rfl 3 rfl ?_
    refine x_aload_n C dX8_swapThings_3 rfl 0 rfl ?_
    refine x_alen C 47 rfl (v := (6 : Int32)) (by first | rfl | decide) dX8_swapThings_4 ?_
    by_cases hc1 : (6 : Int32) ≤ y3
    · replace h := (if_pos hc1).symm.trans h
      refine x_icmp_geT C dX8_swapThings_5 (tgt := 39) (by decide) hc1 ?_
      refine x_lv (lv' := []) [] rfl ?_
      obtain rfl := Option.some.inj h
      exact hk0 ys rfl
    · replace h := (if_neg hc1).symm.trans h
      refine x_icmp_geF C dX8_swapThings_5 (tgt := 39) (by decide) hc1 ?_
      refine x_aload_n C dX8_swapThings_8 rfl 0 rfl ?_
      refine x_iload_n C dX8_swapThings_9 rfl 3 rfl ?_
      obtain ⟨hb2, h⟩ := ck_some h
      refine x_iald C 47 rfl hb2 (v := (ys 47 y3.toNatClampNeg)) rfl dX8_swapThings_10 ?_
      refine x_iload_n C dX8_swapThings_11 rfl 1 rfl ?_
      by_cases hc3 : (ys 47 y3.toNatClampNeg) = x1
      · replace h := (if_pos hc3).symm.trans h
        refine x_icmp_neF C dX8_swapThings_12 (tgt := 22) (by decide) hc3 ?_
        refine x_aload_n C dX8_swapThings_15 rfl 0 rfl ?_
        refine x_iload_n C dX8_swapThings_16 rfl 3 rfl ?_
        refine x_iload_n C dX8_swapThings_17 rfl 2 rfl ?_
        obtain ⟨hb7, h⟩ := ck_some h
        refine x_iast C 47 rfl hb7 dX8_swapThings_18 ?_
        refine x_goto C dX8_swapThings_19 (tgt := 33) (by decide) ?_
        refine x_iinc C dX8_swapThings_33 3 rfl (v := (y3 + (1 : Int32))) rfl (lv2 := [(0, .ref (gs_a E 47)), (1, .int x1), (2, .int x2), (3, .int (y3 + (1 : Int32)))]) (by decide) rfl [1, 2, 3, 0] rfl ?_
        refine x_goto C dX8_swapThings_36 (tgt := 2) (by decide) ?_
        obtain rfl := Option.some.inj h
        exact hc (y3 + (1 : Int32)) (up2 ys 47 y3.toNatClampNeg x2) rfl
      · replace h := (if_neg hc3).symm.trans h
        refine x_icmp_neT C dX8_swapThings_12 (tgt := 22) (by decide) hc3 ?_
        refine x_aload_n C dX8_swapThings_22 rfl 0 rfl ?_
        refine x_iload_n C dX8_swapThings_23 rfl 3 rfl ?_
        obtain ⟨hb4, h⟩ := ck_some h
        refine x_iald C 47 rfl hb4 (v := (ys 47 y3.toNatClampNeg)) rfl dX8_swapThings_24 ?_
        refine x_iload_n C dX8_swapThings_25 rfl 2 rfl ?_
        by_cases hc5 : (ys 47 y3.toNatClampNeg) = x2
        · replace h := (if_pos hc5).symm.trans h
          refine x_icmp_neF C dX8_swapThings_26 (tgt := 33) (by decide) hc5 ?_
          refine x_aload_n C dX8_swapThings_29 rfl 0 rfl ?_
          refine x_iload_n C dX8_swapThings_30 rfl 3 rfl ?_
          refine x_iload_n C dX8_swapThings_31 rfl 1 rfl ?_
          obtain ⟨hb6, h⟩ := ck_some h
          refine x_iast C 47 rfl hb6 dX8_swapThings_32 ?_
          refine x_iinc C dX8_swapThings_33 3 rfl (v := (y3 + (1 : Int32))) rfl (lv2 := [(0, .ref (gs_a E 47)), (1, .int x1), (2, .int x2), (3, .int (y3 + (1 : Int32)))]) (by decide) rfl [1, 2, 3, 0] rfl ?_
          refine x_goto C dX8_swapThings_36 (tgt := 2) (by decide) ?_
          obtain rfl := Option.some.inj h
          exact hc (y3 + (1 : Int32)) (up2 ys 47 y3.toNatClampNeg x1) rfl
        · replace h := (if_neg hc5).symm.trans h
          refine x_icmp_neT C dX8_swapThings_26 (tgt := 33) (by decide) hc5 ?_
          refine x_iinc C dX8_swapThings_33 3 rfl (v := (y3 + (1 : Int32))) rfl (lv2 := [(0, .ref (gs_a E 47)), (1, .int x1), (2, .int x2), (3, .int (y3 + (1 : Int32)))]) (by decide) rfl [1, 2, 3, 0] rfl ?_
          refine x_goto C dX8_swapThings_36 (tgt := 2) (by decide) ?_
          obtain rfl := Option.some.inj h
          exact hc (y3 + (1 : Int32)) ys rfl
set_option maxHeartbeats 4000000 in
set_option maxRecDepth 20000 in
theorem m_X8_swapThings_47 {E : gs_E} {l : Launch} {x1 : Int32} {x2 : Int32} {σ : gs_H} {g : Int64} {σ0 : gs_H} (h : f_X8_swapThings 47 x1 x2 σ = some σ0) : gs_M l E yX8_swapThings cX8_swapThings 4 (none) (0, 0) [.ref (gs_a E 47), .int x1, .int x2] σ g (none) σ0 g := by
  refine x_enter (lv := [(0, .ref (gs_a E 47)), (1, .int x1), (2, .int x2)]) (by decide +kernel) (Nat.le_of_ble_eq_true rfl) rfl (fun p e s m args below meth c C hr => ?_)
  unfold f_X8_swapThings at h
  refine x_iconst C dX8_swapThings_0 (v := 0) (by decide) ?_
  refine x_istore_n C dX8_swapThings_1 rfl (lv2 := [(0, .ref (gs_a E 47)), (1, .int x1), (2, .int x2), (3, .int (0 : Int32))]) (by decide) rfl [1, 2, 3, 0] rfl ?_
  obtain ⟨q1, hq1, h⟩ := Option.bind_eq_some_iff.mp h
  refine wl_X8_swapThings_2_47 C (fun s1_0 hz => ?_) 1000 _ _ hq1
  subst q1
  try dsimp only at h
  replace h := Option.some.inj h
  subst h
  exact x_retv C hr rfl dX8_swapThings_39
