def f_X6_loadOf (ar : Nat) (cr : Nat) (x3 : Int32) (σ : gs_H) : Option (Int32) :=
if inb x3 10 then
if (σ 11 x3.toNatClampNeg) < (10 : Int32) then (
if inb (σ 11 x3.toNatClampNeg) 5 then
if (σ 16 (σ 11 x3.toNatClampNeg).toNatClampNeg) = 0 then (
if inb ((2 : Int32) * (σ 11 x3.toNatClampNeg)) 10 then
if inb (((2 : Int32) * (σ 11 x3.toNatClampNeg)) + (1 : Int32)) 10 then
some ((σ (ar + 1) ((2 : Int32) * (σ 11 x3.toNatClampNeg)).toNatClampNeg) + (σ (ar + 1) (((2 : Int32) * (σ 11 x3.toNatClampNeg)) + (1 : Int32)).toNatClampNeg)) else none else none)
else (
some (0 : Int32)) else none)
else (
if inb ((σ 11 x3.toNatClampNeg) - (10 : Int32)) 6 then
if inb (σ cr ((σ 11 x3.toNatClampNeg) - (10 : Int32)).toNatClampNeg) 6 then
some (σ (ar + 4) (σ cr ((σ 11 x3.toNatClampNeg) - (10 : Int32)).toNatClampNeg).toNatClampNeg) else none else none) else none
set_option maxHeartbeats 4000000 in
set_option maxRecDepth 20000 in
theorem m_X6_loadOf_35_12 {E : gs_E} {l : Launch} {x3 : Int32} {σ : gs_H} {g : Int64} {r0 : Int32} (h : f_X6_loadOf 35 12 x3 σ = some r0) : gs_M l E yX6_loadOf cX6_loadOf 5 (some .int) (0, 0) [.ref (gs_a E 35), .ref (gs_a E 9), .ref (gs_a E 12), .int x3] σ g (some (.int r0)) σ g := by
  refine x_enter (lv := [(0, .ref (gs_a E 35)), (1, .ref (gs_a E 9)), (2, .ref (gs_a E 12)), (3, .int x3)]) (by decide +kernel) (Nat.le_of_ble_eq_true rfl) rfl (fun p e s m args below meth c C hr => ?_)
  unfold f_X6_loadOf at h
  refine x_aload_n C dX6_loadOf_0 rfl 1 rfl ?_
  refine x_getr C 9 rfl rfl inX3 4 (by decide) rfl kF_X6_63 rfl dX6_loadOf_1 ?_
  refine x_iload_n C dX6_loadOf_4 rfl 3 rfl ?_
  obtain ⟨hb1, h⟩ := ck_some h
  refine x_iald C 11 rfl hb1 (v := (σ 11 x3.toNatClampNeg)) rfl dX6_loadOf_5 ?_
  refine x_istore C dX6_loadOf_6 (lv2 := [(0, .ref (gs_a E 35)), (1, .ref (gs_a E 9)), (2, .ref (gs_a E 12)), (3, .int x3), (4, .int (σ 11 x3.toNatClampNeg))]) (by decide) rfl [1, 2, 3, 4, 0] rfl ?_
  refine x_iload C dX6_loadOf_8 4 rfl ?_
  refine x_bipush C dX6_loadOf_10 (v := 10) (by decide) ?_
  by_cases hc2 : (σ 11 x3.toNatClampNeg) < (10 : Int32)
  · replace h := (if_pos hc2).symm.trans h
    refine x_icmp_ltT C dX6_loadOf_12 (tgt := 28) (by decide) hc2 ?_
    refine x_aload_n C dX6_loadOf_28 rfl 1 rfl ?_
    refine x_getr C 9 rfl rfl inX3 9 (by decide) rfl kF_X6_66 rfl dX6_loadOf_29 ?_
    refine x_iload C dX6_loadOf_32 4 rfl ?_
    obtain ⟨hb3, h⟩ := ck_some h
    refine x_zald C 16 rfl hb3 (v := (σ 16 (σ 11 x3.toNatClampNeg).toNatClampNeg)) rfl dX6_loadOf_34 ?_
    by_cases hc4 : (σ 16 (σ 11 x3.toNatClampNeg).toNatClampNeg) = 0
    · replace h := (if_pos hc4).symm.trans h
      refine x_if_eqT C dX6_loadOf_35 (tgt := 42) (by decide) hc4 ?_
      refine x_aload_n C dX6_loadOf_42 rfl 0 rfl ?_
      refine x_getr C 35 rfl rfl inX6 0 (by decide) rfl kF_X6_9 rfl dX6_loadOf_43 ?_
      refine x_iconst C dX6_loadOf_46 (v := 2) (by decide) ?_
      refine x_iload C dX6_loadOf_47 4 rfl ?_
      refine x_imul C dX6_loadOf_49 ?_
      obtain ⟨hb5, h⟩ := ck_some h
      refine x_iald C 36 rfl hb5 (v := (σ (35 + 1) ((2 : Int32) * (σ 11 x3.toNatClampNeg)).toNatClampNeg)) rfl dX6_loadOf_50 ?_
      refine x_aload_n C dX6_loadOf_51 rfl 0 rfl ?_
      refine x_getr C 35 rfl rfl inX6 0 (by decide) rfl kF_X6_9 rfl dX6_loadOf_52 ?_
      refine x_iconst C dX6_loadOf_55 (v := 2) (by decide) ?_
      refine x_iload C dX6_loadOf_56 4 rfl ?_
      refine x_imul C dX6_loadOf_58 ?_
      refine x_iconst C dX6_loadOf_59 (v := 1) (by decide) ?_
      refine x_iadd C dX6_loadOf_60 ?_
      obtain ⟨hb6, h⟩ := ck_some h
      refine x_iald C 36 rfl hb6 (v := (σ (35 + 1) (((2 : Int32) * (σ 11 x3.toNatClampNeg)) + (1 : Int32)).toNatClampNeg)) rfl dX6_loadOf_61 ?_
      refine x_iadd C dX6_loadOf_62 ?_
      replace h := Option.some.inj h
      subst h
      exact x_ret C hr rfl rfl dX6_loadOf_63
    · replace h := (if_neg hc4).symm.trans h
      refine x_if_eqF C dX6_loadOf_35 (tgt := 42) (by decide) hc4 ?_
      refine x_iconst C dX6_loadOf_38 (v := 0) (by decide) ?_
      refine x_goto C dX6_loadOf_39 (tgt := 63) (by decide) ?_
      replace h := Option.some.inj h
      subst h
      exact x_ret C hr rfl rfl dX6_loadOf_63
  · replace h := (if_neg hc2).symm.trans h
    refine x_icmp_ltF C dX6_loadOf_12 (tgt := 28) (by decide) hc2 ?_
    refine x_aload_n C dX6_loadOf_15 rfl 0 rfl ?_
    refine x_getr C 35 rfl rfl inX6 3 (by decide) rfl kF_X6_22 rfl dX6_loadOf_16 ?_
    refine x_aload_n C dX6_loadOf_19 rfl 2 rfl ?_
    refine x_iload C dX6_loadOf_20 4 rfl ?_
    refine x_bipush C dX6_loadOf_22 (v := 10) (by decide) ?_
    refine x_isub C dX6_loadOf_24 ?_
    obtain ⟨hb7, h⟩ := ck_some h
    refine x_iald C 12 rfl hb7 (v := (σ 12 ((σ 11 x3.toNatClampNeg) - (10 : Int32)).toNatClampNeg)) rfl dX6_loadOf_25 ?_
    obtain ⟨hb8, h⟩ := ck_some h
    refine x_iald C 39 rfl hb8 (v := (σ (35 + 4) (σ 12 ((σ 11 x3.toNatClampNeg) - (10 : Int32)).toNatClampNeg).toNatClampNeg)) rfl dX6_loadOf_26 ?_
    replace h := Option.some.inj h
    subst h
    exact x_ret C hr rfl rfl dX6_loadOf_27
set_option maxHeartbeats 4000000 in
set_option maxRecDepth 20000 in
theorem m_X6_loadOf_42_47 {E : gs_E} {l : Launch} {x3 : Int32} {σ : gs_H} {g : Int64} {r0 : Int32} (h : f_X6_loadOf 42 47 x3 σ = some r0) : gs_M l E yX6_loadOf cX6_loadOf 5 (some .int) (0, 0) [.ref (gs_a E 42), .ref (gs_a E 9), .ref (gs_a E 47), .int x3] σ g (some (.int r0)) σ g := by
  refine x_enter (lv := [(0, .ref (gs_a E 42)), (1, .ref (gs_a E 9)), (2, .ref (gs_a E 47)), (3, .int x3)]) (by decide +kernel) (Nat.le_of_ble_eq_true rfl) rfl (fun p e s m args below meth c C hr => ?_)
  unfold f_X6_loadOf at h
  refine x_aload_n C dX6_loadOf_0 rfl 1 rfl ?_
  refine x_getr C 9 rfl rfl inX3 4 (by decide) rfl kF_X6_63 rfl dX6_loadOf_1 ?_
  refine x_iload_n C dX6_loadOf_4 rfl 3 rfl ?_
  obtain ⟨hb1, h⟩ := ck_some h
  refine x_iald C 11 rfl hb1 (v := (σ 11 x3.toNatClampNeg)) rfl dX6_loadOf_5 ?_
  refine x_istore C dX6_loadOf_6 (lv2 := [(0, .ref (gs_a E 42)), (1, .ref (gs_a E 9)), (2, .ref (gs_a E 47)), (3, .int x3), (4, .int (σ 11 x3.toNatClampNeg))]) (by decide) rfl [1, 2, 3, 4, 0] rfl ?_
  refine x_iload C dX6_loadOf_8 4 rfl ?_
  refine x_bipush C dX6_loadOf_10 (v := 10) (by decide) ?_
  by_cases hc2 : (σ 11 x3.toNatClampNeg) < (10 : Int32)
  · replace h := (if_pos hc2).symm.trans h
    refine x_icmp_ltT C dX6_loadOf_12 (tgt := 28) (by decide) hc2 ?_
    refine x_aload_n C dX6_loadOf_28 rfl 1 rfl ?_
    refine x_getr C 9 rfl rfl inX3 9 (by decide) rfl kF_X6_66 rfl dX6_loadOf_29 ?_
    refine x_iload C dX6_loadOf_32 4 rfl ?_
    obtain ⟨hb3, h⟩ := ck_some h
    refine x_zald C 16 rfl hb3 (v := (σ 16 (σ 11 x3.toNatClampNeg).toNatClampNeg)) rfl dX6_loadOf_34 ?_
    by_cases hc4 : (σ 16 (σ 11 x3.toNatClampNeg).toNatClampNeg) = 0
    · replace h := (if_pos hc4).symm.trans h
      refine x_if_eqT C dX6_loadOf_35 (tgt := 42) (by decide) hc4 ?_
      refine x_aload_n C dX6_loadOf_42 rfl 0 rfl ?_
      refine x_getr C 42 rfl rfl inX6 0 (by decide) rfl kF_X6_9 rfl dX6_loadOf_43 ?_
      refine x_iconst C dX6_loadOf_46 (v := 2) (by decide) ?_
      refine x_iload C dX6_loadOf_47 4 rfl ?_
      refine x_imul C dX6_loadOf_49 ?_
      obtain ⟨hb5, h⟩ := ck_some h
      refine x_iald C 43 rfl hb5 (v := (σ (42 + 1) ((2 : Int32) * (σ 11 x3.toNatClampNeg)).toNatClampNeg)) rfl dX6_loadOf_50 ?_
      refine x_aload_n C dX6_loadOf_51 rfl 0 rfl ?_
      refine x_getr C 42 rfl rfl inX6 0 (by decide) rfl kF_X6_9 rfl dX6_loadOf_52 ?_
      refine x_iconst C dX6_loadOf_55 (v := 2) (by decide) ?_
      refine x_iload C dX6_loadOf_56 4 rfl ?_
      refine x_imul C dX6_loadOf_58 ?_
      refine x_iconst C dX6_loadOf_59 (v := 1) (by decide) ?_
      refine x_iadd C dX6_loadOf_60 ?_
      obtain ⟨hb6, h⟩ := ck_some h
      refine x_iald C 43 rfl hb6 (v := (σ (42 + 1) (((2 : Int32) * (σ 11 x3.toNatClampNeg)) + (1 : Int32)).toNatClampNeg)) rfl dX6_loadOf_61 ?_
      refine x_iadd C dX6_loadOf_62 ?_
      replace h := Option.some.inj h
      subst h
      exact x_ret C hr rfl rfl dX6_loadOf_63
    · replace h := (if_neg hc4).symm.trans h
      refine x_if_eqF C dX6_loadOf_35 (tgt := 42) (by decide) hc4 ?_
      refine x_iconst C dX6_loadOf_38 (v := 0) (by decide) ?_
      refine x_goto C dX6_loadOf_39 (tgt := 63) (by decide) ?_
      replace h := Option.some.inj h
      subst h
      exact x_ret C hr rfl rfl dX6_loadOf_63
  · replace h := (if_neg hc2).symm.trans h
    refine x_icmp_ltF C dX6_loadOf_12 (tgt := 28) (by decide) hc2 ?_
    refine x_aload_n C dX6_loadOf_15 rfl 0 rfl ?_
    refine x_getr C 42 rfl rfl inX6 3 (by decide) rfl kF_X6_22 rfl dX6_loadOf_16 ?_
    refine x_aload_n C dX6_loadOf_19 rfl 2 rfl ?_
    refine x_iload C dX6_loadOf_20 4 rfl ?_
    refine x_bipush C dX6_loadOf_22 (v := 10) (by decide) ?_
    refine x_isub C dX6_loadOf_24 ?_
    obtain ⟨hb7, h⟩ := ck_some h
    refine x_iald C 47 rfl hb7 (v := (σ 47 ((σ 11 x3.toNatClampNeg) - (10 : Int32)).toNatClampNeg)) rfl dX6_loadOf_25 ?_
    obtain ⟨hb8, h⟩ := ck_some h
    refine x_iald C 46 rfl hb8 (v := (σ (42 + 4) (σ 47 ((σ 11 x3.toNatClampNeg) - (10 : Int32)).toNatClampNeg).toNatClampNeg)) rfl dX6_loadOf_26 ?_
    replace h := Option.some.inj h
    subst h
    exact x_ret C hr rfl rfl dX6_loadOf_27
set_option maxHeartbeats 4000000 in
set_option maxRecDepth 20000 in
theorem m_X6_loadOf_51_56 {E : gs_E} {l : Launch} {x3 : Int32} {σ : gs_H} {g : Int64} {r0 : Int32} (h : f_X6_loadOf 51 56 x3 σ = some r0) : gs_M l E yX6_loadOf cX6_loadOf 5 (some .int) (0, 0) [.ref (gs_a E 51), .ref (gs_a E 9), .ref (gs_a E 56), .int x3] σ g (some (.int r0)) σ g := by
  refine x_enter (lv := [(0, .ref (gs_a E 51)), (1, .ref (gs_a E 9)), (2, .ref (gs_a E 56)), (3, .int x3)]) (by decide +kernel) (Nat.le_of_ble_eq_true rfl) rfl (fun p e s m args below meth c C hr => ?_)
  unfold f_X6_loadOf at h
  refine x_aload_n C dX6_loadOf_0 rfl 1 rfl ?_
  refine x_getr C 9 rfl rfl inX3 4 (by decide) rfl kF_X6_63 rfl dX6_loadOf_1 ?_
  refine x_iload_n C dX6_loadOf_4 rfl 3 rfl ?_
  obtain ⟨hb1, h⟩ := ck_some h
  refine x_iald C 11 rfl hb1 (v := (σ 11 x3.toNatClampNeg)) rfl dX6_loadOf_5 ?_
  refine x_istore C dX6_loadOf_6 (lv2 := [(0, .ref (gs_a E 51)), (1, .ref (gs_a E 9)), (2, .ref (gs_a E 56)), (3, .int x3), (4, .int (σ 11 x3.toNatClampNeg))]) (by decide) rfl [1, 2, 3, 4, 0] rfl ?_
  refine x_iload C dX6_loadOf_8 4 rfl ?_
  refine x_bipush C dX6_loadOf_10 (v := 10) (by decide) ?_
  by_cases hc2 : (σ 11 x3.toNatClampNeg) < (10 : Int32)
  · replace h := (if_pos hc2).symm.trans h
    refine x_icmp_ltT C dX6_loadOf_12 (tgt := 28) (by decide) hc2 ?_
    refine x_aload_n C dX6_loadOf_28 rfl 1 rfl ?_
    refine x_getr C 9 rfl rfl inX3 9 (by decide) rfl kF_X6_66 rfl dX6_loadOf_29 ?_
    refine x_iload C dX6_loadOf_32 4 rfl ?_
    obtain ⟨hb3, h⟩ := ck_some h
    refine x_zald C 16 rfl hb3 (v := (σ 16 (σ 11 x3.toNatClampNeg).toNatClampNeg)) rfl dX6_loadOf_34 ?_
    by_cases hc4 : (σ 16 (σ 11 x3.toNatClampNeg).toNatClampNeg) = 0
    · replace h := (if_pos hc4).symm.trans h
      refine x_if_eqT C dX6_loadOf_35 (tgt := 42) (by decide) hc4 ?_
      refine x_aload_n C dX6_loadOf_42 rfl 0 rfl ?_
      refine x_getr C 51 rfl rfl inX6 0 (by decide) rfl kF_X6_9 rfl dX6_loadOf_43 ?_
      refine x_iconst C dX6_loadOf_46 (v := 2) (by decide) ?_
      refine x_iload C dX6_loadOf_47 4 rfl ?_
      refine x_imul C dX6_loadOf_49 ?_
      obtain ⟨hb5, h⟩ := ck_some h
      refine x_iald C 52 rfl hb5 (v := (σ (51 + 1) ((2 : Int32) * (σ 11 x3.toNatClampNeg)).toNatClampNeg)) rfl dX6_loadOf_50 ?_
      refine x_aload_n C dX6_loadOf_51 rfl 0 rfl ?_
      refine x_getr C 51 rfl rfl inX6 0 (by decide) rfl kF_X6_9 rfl dX6_loadOf_52 ?_
      refine x_iconst C dX6_loadOf_55 (v := 2) (by decide) ?_
      refine x_iload C dX6_loadOf_56 4 rfl ?_
      refine x_imul C dX6_loadOf_58 ?_
      refine x_iconst C dX6_loadOf_59 (v := 1) (by decide) ?_
      refine x_iadd C dX6_loadOf_60 ?_
      obtain ⟨hb6, h⟩ := ck_some h
      refine x_iald C 52 rfl hb6 (v := (σ (51 + 1) (((2 : Int32) * (σ 11 x3.toNatClampNeg)) + (1 : Int32)).toNatClampNeg)) rfl dX6_loadOf_61 ?_
      refine x_iadd C dX6_loadOf_62 ?_
      replace h := Option.some.inj h
      subst h
      exact x_ret C hr rfl rfl dX6_loadOf_63
    · replace h := (if_neg hc4).symm.trans h
      refine x_if_eqF C dX6_loadOf_35 (tgt := 42) (by decide) hc4 ?_
      refine x_iconst C dX6_loadOf_38 (v := 0) (by decide) ?_
      refine x_goto C dX6_loadOf_39 (tgt := 63) (by decide) ?_
      replace h := Option.some.inj h
      subst h
      exact x_ret C hr rfl rfl dX6_loadOf_63
  · replace h := (if_neg hc2).symm.trans h
    refine x_icmp_ltF C dX6_loadOf_12 (tgt := 28) (by decide) hc2 ?_
    refine x_aload_n C dX6_loadOf_15 rfl 0 rfl ?_
    refine x_getr C 51 rfl rfl inX6 3 (by decide) rfl kF_X6_22 rfl dX6_loadOf_16 ?_
    refine x_aload_n C dX6_loadOf_19 rfl 2 rfl ?_
    refine x_iload C dX6_loadOf_20 4 rfl ?_
    refine x_bipush C dX6_loadOf_22 (v := 10) (by decide) ?_
    refine x_isub C dX6_loadOf_24 ?_
    obtain ⟨hb7, h⟩ := ck_some h
    refine x_iald C 56 rfl hb7 (v := (σ 56 ((σ 11 x3.toNatClampNeg) - (10 : Int32)).toNatClampNeg)) rfl dX6_loadOf_25 ?_
    obtain ⟨hb8, h⟩ := ck_some h
    refine x_iald C 55 rfl hb8 (v := (σ (51 + 4) (σ 56 ((σ 11 x3.toNatClampNeg) - (10 : Int32)).toNatClampNeg).toNatClampNeg)) rfl dX6_loadOf_26 ?_
    replace h := Option.some.inj h
    subst h
    exact x_ret C hr rfl rfl dX6_loadOf_27
set_option maxHeartbeats 4000000 in
set_option maxRecDepth 20000 in
theorem m_X6_loadOf_51_12 {E : gs_E} {l : Launch} {x3 : Int32} {σ : gs_H} {g : Int64} {r0 : Int32} (h : f_X6_loadOf 51 12 x3 σ = some r0) : gs_M l E yX6_loadOf cX6_loadOf 5 (some .int) (0, 0) [.ref (gs_a E 51), .ref (gs_a E 9), .ref (gs_a E 12), .int x3] σ g (some (.int r0)) σ g := by
  refine x_enter (lv := [(0, .ref (gs_a E 51)), (1, .ref (gs_a E 9)), (2, .ref (gs_a E 12)), (3, .int x3)]) (by decide +kernel) (Nat.le_of_ble_eq_true rfl) rfl (fun p e s m args below meth c C hr => ?_)
  unfold f_X6_loadOf at h
  refine x_aload_n C dX6_loadOf_0 rfl 1 rfl ?_
  refine x_getr C 9 rfl rfl inX3 4 (by decide) rfl kF_X6_63 rfl dX6_loadOf_1 ?_
  refine x_iload_n C dX6_loadOf_4 rfl 3 rfl ?_
  obtain ⟨hb1, h⟩ := ck_some h
  refine x_iald C 11 rfl hb1 (v := (σ 11 x3.toNatClampNeg)) rfl dX6_loadOf_5 ?_
  refine x_istore C dX6_loadOf_6 (lv2 := [(0, .ref (gs_a E 51)), (1, .ref (gs_a E 9)), (2, .ref (gs_a E 12)), (3, .int x3), (4, .int (σ 11 x3.toNatClampNeg))]) (by decide) rfl [1, 2, 3, 4, 0] rfl ?_
  refine x_iload C dX6_loadOf_8 4 rfl ?_
  refine x_bipush C dX6_loadOf_10 (v := 10) (by decide) ?_
  by_cases hc2 : (σ 11 x3.toNatClampNeg) < (10 : Int32)
  · replace h := (if_pos hc2).symm.trans h
    refine x_icmp_ltT C dX6_loadOf_12 (tgt := 28) (by decide) hc2 ?_
    refine x_aload_n C dX6_loadOf_28 rfl 1 rfl ?_
    refine x_getr C 9 rfl rfl inX3 9 (by decide) rfl kF_X6_66 rfl dX6_loadOf_29 ?_
    refine x_iload C dX6_loadOf_32 4 rfl ?_
    obtain ⟨hb3, h⟩ := ck_some h
    refine x_zald C 16 rfl hb3 (v := (σ 16 (σ 11 x3.toNatClampNeg).toNatClampNeg)) rfl dX6_loadOf_34 ?_
    by_cases hc4 : (σ 16 (σ 11 x3.toNatClampNeg).toNatClampNeg) = 0
    · replace h := (if_pos hc4).symm.trans h
      refine x_if_eqT C dX6_loadOf_35 (tgt := 42) (by decide) hc4 ?_
      refine x_aload_n C dX6_loadOf_42 rfl 0 rfl ?_
      refine x_getr C 51 rfl rfl inX6 0 (by decide) rfl kF_X6_9 rfl dX6_loadOf_43 ?_
      refine x_iconst C dX6_loadOf_46 (v := 2) (by decide) ?_
      refine x_iload C dX6_loadOf_47 4 rfl ?_
      refine x_imul C dX6_loadOf_49 ?_
      obtain ⟨hb5, h⟩ := ck_some h
      refine x_iald C 52 rfl hb5 (v := (σ (51 + 1) ((2 : Int32) * (σ 11 x3.toNatClampNeg)).toNatClampNeg)) rfl dX6_loadOf_50 ?_
      refine x_aload_n C dX6_loadOf_51 rfl 0 rfl ?_
      refine x_getr C 51 rfl rfl inX6 0 (by decide) rfl kF_X6_9 rfl dX6_loadOf_52 ?_
      refine x_iconst C dX6_loadOf_55 (v := 2) (by decide) ?_
      refine x_iload C dX6_loadOf_56 4 rfl ?_
      refine x_imul C dX6_loadOf_58 ?_
      refine x_iconst C dX6_loadOf_59 (v := 1) (by decide) ?_
      refine x_iadd C dX6_loadOf_60 ?_
      obtain ⟨hb6, h⟩ := ck_some h
      refine x_iald C 52 rfl hb6 (v := (σ (51 + 1) (((2 : Int32) * (σ 11 x3.toNatClampNeg)) + (1 : Int32)).toNatClampNeg)) rfl dX6_loadOf_61 ?_
      refine x_iadd C dX6_loadOf_62 ?_
      replace h := Option.some.inj h
      subst h
      exact x_ret C hr rfl rfl dX6_loadOf_63
    · replace h := (if_neg hc4).symm.trans h
      refine x_if_eqF C dX6_loadOf_35 (tgt := 42) (by decide) hc4 ?_
      refine x_iconst C dX6_loadOf_38 (v := 0) (by decide) ?_
      refine x_goto C dX6_loadOf_39 (tgt := 63) (by decide) ?_
      replace h := Option.some.inj h
      subst h
      exact x_ret C hr rfl rfl dX6_loadOf_63
  · replace h := (if_neg hc2).symm.trans h
    refine x_icmp_ltF C dX6_loadOf_12 (tgt := 28) (by decide) hc2 ?_
    refine x_aload_n C dX6_loadOf_15 rfl 0 rfl ?_
    refine x_getr C 51 rfl rfl inX6 3 (by decide) rfl kF_X6_22 rfl dX6_loadOf_16 ?_
    refine x_aload_n C dX6_loadOf_19 rfl 2 rfl ?_
    refine x_iload C dX6_loadOf_20 4 rfl ?_
    refine x_bipush C dX6_loadOf_22 (v := 10) (by decide) ?_
    refine x_isub C dX6_loadOf_24 ?_
    obtain ⟨hb7, h⟩ := ck_some h
    refine x_iald C 12 rfl hb7 (v := (σ 12 ((σ 11 x3.toNatClampNeg) - (10 : Int32)).toNatClampNeg)) rfl dX6_loadOf_25 ?_
    obtain ⟨hb8, h⟩ := ck_some h
    refine x_iald C 55 rfl hb8 (v := (σ (51 + 4) (σ 12 ((σ 11 x3.toNatClampNeg) - (10 : Int32)).toNatClampNeg).toNatClampNeg)) rfl dX6_loadOf_26 ?_
    replace h := Option.some.inj h
    subst h
    exact x_ret C hr rfl rfl dX6_loadOf_27
set_option maxHeartbeats 4000000 in
set_option maxRecDepth 20000 in
theorem m_X6_loadOf_42_12 {E : gs_E} {l : Launch} {x3 : Int32} {σ : gs_H} {g : Int64} {r0 : Int32} (h : f_X6_loadOf 42 12 x3 σ = some r0) : gs_M l E yX6_loadOf cX6_loadOf 5 (some .int) (0, 0) [.ref (gs_a E 42), .ref (gs_a E 9), .ref (gs_a E 12), .int x3] σ g (some (.int r0)) σ g := by
  refine x_enter (lv := [(0, .ref (gs_a E 42)), (1, .ref (gs_a E 9)), (2, .ref (gs_a E 12)), (3, .int x3)]) (by decide +kernel) (Nat.le_of_ble_eq_true rfl) rfl (fun p e s m args below meth c C hr => ?_)
  unfold f_X6_loadOf at h
  refine x_aload_n C dX6_loadOf_0 rfl 1 rfl ?_
  refine x_getr C 9 rfl rfl inX3 4 (by decide) rfl kF_X6_63 rfl dX6_loadOf_1 ?_
  refine x_iload_n C dX6_loadOf_4 rfl 3 rfl ?_
  obtain ⟨hb1, h⟩ := ck_some h
  refine x_iald C 11 rfl hb1 (v := (σ 11 x3.toNatClampNeg)) rfl dX6_loadOf_5 ?_
  refine x_istore C dX6_loadOf_6 (lv2 := [(0, .ref (gs_a E 42)), (1, .ref (gs_a E 9)), (2, .ref (gs_a E 12)), (3, .int x3), (4, .int (σ 11 x3.toNatClampNeg))]) (by decide) rfl [1, 2, 3, 4, 0] rfl ?_
  refine x_iload C dX6_loadOf_8 4 rfl ?_
  refine x_bipush C dX6_loadOf_10 (v := 10) (by decide) ?_
  by_cases hc2 : (σ 11 x3.toNatClampNeg) < (10 : Int32)
  · replace h := (if_pos hc2).symm.trans h
    refine x_icmp_ltT C dX6_loadOf_12 (tgt := 28) (by decide) hc2 ?_
    refine x_aload_n C dX6_loadOf_28 rfl 1 rfl ?_
    refine x_getr C 9 rfl rfl inX3 9 (by decide) rfl kF_X6_66 rfl dX6_loadOf_29 ?_
    refine x_iload C dX6_loadOf_32 4 rfl ?_
    obtain ⟨hb3, h⟩ := ck_some h
    refine x_zald C 16 rfl hb3 (v := (σ 16 (σ 11 x3.toNatClampNeg).toNatClampNeg)) rfl dX6_loadOf_34 ?_
    by_cases hc4 : (σ 16 (σ 11 x3.toNatClampNeg).toNatClampNeg) = 0
    · replace h := (if_pos hc4).symm.trans h
      refine x_if_eqT C dX6_loadOf_35 (tgt := 42) (by decide) hc4 ?_
      refine x_aload_n C dX6_loadOf_42 rfl 0 rfl ?_
      refine x_getr C 42 rfl rfl inX6 0 (by decide) rfl kF_X6_9 rfl dX6_loadOf_43 ?_
      refine x_iconst C dX6_loadOf_46 (v := 2) (by decide) ?_
      refine x_iload C dX6_loadOf_47 4 rfl ?_
      refine x_imul C dX6_loadOf_49 ?_
      obtain ⟨hb5, h⟩ := ck_some h
      refine x_iald C 43 rfl hb5 (v := (σ (42 + 1) ((2 : Int32) * (σ 11 x3.toNatClampNeg)).toNatClampNeg)) rfl dX6_loadOf_50 ?_
      refine x_aload_n C dX6_loadOf_51 rfl 0 rfl ?_
      refine x_getr C 42 rfl rfl inX6 0 (by decide) rfl kF_X6_9 rfl dX6_loadOf_52 ?_
      refine x_iconst C dX6_loadOf_55 (v := 2) (by decide) ?_
      refine x_iload C dX6_loadOf_56 4 rfl ?_
      refine x_imul C dX6_loadOf_58 ?_
      refine x_iconst C dX6_loadOf_59 (v := 1) (by decide) ?_
      refine x_iadd C dX6_loadOf_60 ?_
      obtain ⟨hb6, h⟩ := ck_some h
      refine x_iald C 43 rfl hb6 (v := (σ (42 + 1) (((2 : Int32) * (σ 11 x3.toNatClampNeg)) + (1 : Int32)).toNatClampNeg)) rfl dX6_loadOf_61 ?_
      refine x_iadd C dX6_loadOf_62 ?_
      replace h := Option.some.inj h
      subst h
      exact x_ret C hr rfl rfl dX6_loadOf_63
    · replace h := (if_neg hc4).symm.trans h
      refine x_if_eqF C dX6_loadOf_35 (tgt := 42) (by decide) hc4 ?_
      refine x_iconst C dX6_loadOf_38 (v := 0) (by decide) ?_
      refine x_goto C dX6_loadOf_39 (tgt := 63) (by decide) ?_
      replace h := Option.some.inj h
      subst h
      exact x_ret C hr rfl rfl dX6_loadOf_63
  · replace h := (if_neg hc2).symm.trans h
    refine x_icmp_ltF C dX6_loadOf_12 (tgt := 28) (by decide) hc2 ?_
    refine x_aload_n C dX6_loadOf_15 rfl 0 rfl ?_
    refine x_getr C 42 rfl rfl inX6 3 (by decide) rfl kF_X6_22 rfl dX6_loadOf_16 ?_
    refine x_aload_n C dX6_loadOf_19 rfl 2 rfl ?_
    refine x_iload C dX6_loadOf_20 4 rfl ?_
    refine x_bipush C dX6_loadOf_22 (v := 10) (by decide) ?_
    refine x_isub C dX6_loadOf_24 ?_
    obtain ⟨hb7, h⟩ := ck_some h
    refine x_iald C 12 rfl hb7 (v := (σ 12 ((σ 11 x3.toNatClampNeg) - (10 : Int32)).toNatClampNeg)) rfl dX6_loadOf_25 ?_
    obtain ⟨hb8, h⟩ := ck_some h
    refine x_iald C 46 rfl hb8 (v := (σ (42 + 4) (σ 12 ((σ 11 x3.toNatClampNeg) - (10 : Int32)).toNatClampNeg).toNatClampNeg)) rfl dX6_loadOf_26 ?_
    replace h := Option.some.inj h
    subst h
    exact x_ret C hr rfl rfl dX6_loadOf_27
def f_X6_hangRod (ar : Nat) (cr : Nat) (x3 : Int32) (σ : gs_H) : Option (gs_H) :=
(f_X6_loadOf ar cr ((2 : Int32) * x3) σ).bind fun q1 =>
if inb ((2 : Int32) * x3) 10 then
(f_X6_loadOf ar cr (((2 : Int32) * x3) + (1 : Int32)) (up2 σ (ar + 1) ((2 : Int32) * x3).toNatClampNeg q1)).bind fun q3 =>
if inb (((2 : Int32) * x3) + (1 : Int32)) 10 then
if inb (((2 : Int32) * x3) + (1 : Int32)) 10 then
if inb (((2 : Int32) * x3) + (1 : Int32)) 10 then
if inb ((2 : Int32) * x3) 10 then
if inb ((2 : Int32) * x3) 10 then
if inb x3 5 then
some (up2 (up2 (up2 σ (ar + 1) ((2 : Int32) * x3).toNatClampNeg q1) (ar + 1) (((2 : Int32) * x3) + (1 : Int32)).toNatClampNeg q3) (ar + 2) x3.toNatClampNeg ((q3 * ((up2 (up2 σ (ar + 1) ((2 : Int32) * x3).toNatClampNeg q1) (ar + 1) (((2 : Int32) * x3) + (1 : Int32)).toNatClampNeg q3) 10 (((2 : Int32) * x3) + (1 : Int32)).toNatClampNeg)) - (((up2 (up2 σ (ar + 1) ((2 : Int32) * x3).toNatClampNeg q1) (ar + 1) (((2 : Int32) * x3) + (1 : Int32)).toNatClampNeg q3) (ar + 1) ((2 : Int32) * x3).toNatClampNeg) * ((up2 (up2 σ (ar + 1) ((2 : Int32) * x3).toNatClampNeg q1) (ar + 1) (((2 : Int32) * x3) + (1 : Int32)).toNatClampNeg q3) 10 ((2 : Int32) * x3).toNatClampNeg)))) else none else none else none else none else none else none else none
set_option maxHeartbeats 4000000 in
set_option maxRecDepth 20000 in
theorem m_X6_hangRod_35_12 {E : gs_E} {l : Launch} {x3 : Int32} {σ : gs_H} {g : Int64} {σ0 : gs_H} (h : f_X6_hangRod 35 12 x3 σ = some σ0) : gs_M l E yX6_hangRod cX6_hangRod 6 (none) (1, 24) [.ref (gs_a E 35), .ref (gs_a E 9), .ref (gs_a E 12), .int x3] σ g (none) σ0 g := by
  refine x_enter (lv := [(0, .ref (gs_a E 35)), (1, .ref (gs_a E 9)), (2, .ref (gs_a E 12)), (3, .int x3)]) (by decide +kernel) (Nat.le_of_ble_eq_true rfl) rfl (fun p e s m args below meth c C hr => ?_)
  unfold f_X6_hangRod at h
  refine x_iconst C dX6_hangRod_0 (v := 2) (by decide) ?_
  refine x_iload_n C dX6_hangRod_1 rfl 3 rfl ?_
  refine x_imul C dX6_hangRod_2 ?_
  refine x_istore C dX6_hangRod_3 (lv2 := [(0, .ref (gs_a E 35)), (1, .ref (gs_a E 9)), (2, .ref (gs_a E 12)), (3, .int x3), (4, .int ((2 : Int32) * x3))]) (by decide) rfl [1, 2, 3, 4, 0] rfl ?_
  refine x_iload C dX6_hangRod_5 4 rfl ?_
  refine x_iconst C dX6_hangRod_7 (v := 1) (by decide) ?_
  refine x_iadd C dX6_hangRod_8 ?_
  refine x_istore C dX6_hangRod_9 (lv2 := [(0, .ref (gs_a E 35)), (1, .ref (gs_a E 9)), (2, .ref (gs_a E 12)), (3, .int x3), (4, .int ((2 : Int32) * x3)), (5, .int (((2 : Int32) * x3) + (1 : Int32)))]) (by decide) rfl [1, 2, 3, 4, 5, 0] rfl ?_
  refine x_aload_n C dX6_hangRod_11 rfl 0 rfl ?_
  refine x_getr C 35 rfl rfl inX6 0 (by decide) rfl kF_X6_9 rfl dX6_hangRod_12 ?_
  refine x_iload C dX6_hangRod_15 4 rfl ?_
  refine x_aload_n C dX6_hangRod_17 rfl 0 rfl ?_
  refine x_aload_n C dX6_hangRod_18 rfl 1 rfl ?_
  refine x_aload_n C dX6_hangRod_19 rfl 2 rfl ?_
  refine x_iload C dX6_hangRod_20 4 rfl ?_
  obtain ⟨v1, hv1, h⟩ := Option.bind_eq_some_iff.mp h
  refine x_callV C 35 (m_X6_loadOf_35_12 hv1) rfl rfl kM_X6_73 kI_X6_loadOf kS_X6_loadOf kN_X6 kC_X6_loadOf kD_X6_loadOf rfl ⟨Nat.le_of_ble_eq_true rfl, Nat.le_of_ble_eq_true rfl⟩ ⟨Nat.le_refl _, Nat.le_refl _⟩ (rest := [.int ((2 : Int32) * x3), .ref (gs_a E 36)]) rfl (Nat.le_of_ble_eq_true rfl) dX6_hangRod_22 (st' := [.int v1, .int ((2 : Int32) * x3), .ref (gs_a E 36)]) rfl ?_
  obtain ⟨hb2, h⟩ := ck_some h
  refine x_iast C 36 rfl hb2 dX6_hangRod_25 ?_
  refine x_aload_n C dX6_hangRod_26 rfl 0 rfl ?_
  refine x_getr C 35 rfl rfl inX6 0 (by decide) rfl kF_X6_9 rfl dX6_hangRod_27 ?_
  refine x_iload C dX6_hangRod_30 5 rfl ?_
  refine x_aload_n C dX6_hangRod_32 rfl 0 rfl ?_
  refine x_aload_n C dX6_hangRod_33 rfl 1 rfl ?_
  refine x_aload_n C dX6_hangRod_34 rfl 2 rfl ?_
  refine x_iload C dX6_hangRod_35 5 rfl ?_
  obtain ⟨v3, hv3, h⟩ := Option.bind_eq_some_iff.mp h
  refine x_callV C 35 (m_X6_loadOf_35_12 hv3) rfl rfl kM_X6_73 kI_X6_loadOf kS_X6_loadOf kN_X6 kC_X6_loadOf kD_X6_loadOf rfl ⟨Nat.le_of_ble_eq_true rfl, Nat.le_of_ble_eq_true rfl⟩ ⟨Nat.le_refl _, Nat.le_refl _⟩ (rest := [.int (((2 : Int32) * x3) + (1 : Int32)), .ref (gs_a E 36)]) rfl (Nat.le_of_ble_eq_true rfl) dX6_hangRod_37 (st' := [.int v3, .int (((2 : Int32) * x3) + (1 : Int32)), .ref (gs_a E 36)]) rfl ?_
  obtain ⟨hb4, h⟩ := ck_some h
  refine x_iast C 36 rfl hb4 dX6_hangRod_40 ?_
  refine x_aload_n C dX6_hangRod_41 rfl 0 rfl ?_
  refine x_getr C 35 rfl rfl inX6 1 (by decide) rfl kF_X6_15 rfl dX6_hangRod_42 ?_
  refine x_iload_n C dX6_hangRod_45 rfl 3 rfl ?_
  refine x_aload_n C dX6_hangRod_46 rfl 0 rfl ?_
  refine x_getr C 35 rfl rfl inX6 0 (by decide) rfl kF_X6_9 rfl dX6_hangRod_47 ?_
  refine x_iload C dX6_hangRod_50 5 rfl ?_
  obtain ⟨hb5, h⟩ := ck_some h
  refine x_iald C 36 rfl hb5 (v := v3) (by first | rfl | exact up2_same _ _ _ _ | simp [up2]) dX6_hangRod_52 ?_
  refine x_aload_n C dX6_hangRod_53 rfl 1 rfl ?_
  refine x_getr C 9 rfl rfl inX3 3 (by decide) rfl kF_X6_77 rfl dX6_hangRod_54 ?_
  refine x_iload C dX6_hangRod_57 5 rfl ?_
  obtain ⟨hb6, h⟩ := ck_some h
  refine x_iald C 10 rfl hb6 (v := ((up2 (up2 σ (35 + 1) ((2 : Int32) * x3).toNatClampNeg v1) (35 + 1) (((2 : Int32) * x3) + (1 : Int32)).toNatClampNeg v3) 10 (((2 : Int32) * x3) + (1 : Int32)).toNatClampNeg)) rfl dX6_hangRod_59 ?_
  refine x_imul C dX6_hangRod_60 ?_
  refine x_aload_n C dX6_hangRod_61 rfl 0 rfl ?_
  refine x_getr C 35 rfl rfl inX6 0 (by decide) rfl kF_X6_9 rfl dX6_hangRod_62 ?_
  refine x_iload C dX6_hangRod_65 4 rfl ?_
  obtain ⟨hb7, h⟩ := ck_some h
  refine x_iald C 36 rfl hb7 (v := ((up2 (up2 σ (35 + 1) ((2 : Int32) * x3).toNatClampNeg v1) (35 + 1) (((2 : Int32) * x3) + (1 : Int32)).toNatClampNeg v3) (35 + 1) ((2 : Int32) * x3).toNatClampNeg)) rfl dX6_hangRod_67 ?_
  refine x_aload_n C dX6_hangRod_68 rfl 1 rfl ?_
  refine x_getr C 9 rfl rfl inX3 3 (by decide) rfl kF_X6_77 rfl dX6_hangRod_69 ?_
  refine x_iload C dX6_hangRod_72 4 rfl ?_
  obtain ⟨hb8, h⟩ := ck_some h
  refine x_iald C 10 rfl hb8 (v := ((up2 (up2 σ (35 + 1) ((2 : Int32) * x3).toNatClampNeg v1) (35 + 1) (((2 : Int32) * x3) + (1 : Int32)).toNatClampNeg v3) 10 ((2 : Int32) * x3).toNatClampNeg)) rfl dX6_hangRod_74 ?_
  refine x_imul C dX6_hangRod_75 ?_
  refine x_isub C dX6_hangRod_76 ?_
  obtain ⟨hb9, h⟩ := ck_some h
  refine x_iast C 37 rfl hb9 dX6_hangRod_77 ?_
  replace h := Option.some.inj h
  subst h
  exact x_retv C hr rfl dX6_hangRod_78
set_option maxHeartbeats 4000000 in
set_option maxRecDepth 20000 in
theorem m_X6_hangRod_42_47 {E : gs_E} {l : Launch} {x3 : Int32} {σ : gs_H} {g : Int64} {σ0 : gs_H} (h : f_X6_hangRod 42 47 x3 σ = some σ0) : gs_M l E yX6_hangRod cX6_hangRod 6 (none) (1, 24) [.ref (gs_a E 42), .ref (gs_a E 9), .ref (gs_a E 47), .int x3] σ g (none) σ0 g := by
  refine x_enter (lv := [(0, .ref (gs_a E 42)), (1, .ref (gs_a E 9)), (2, .ref (gs_a E 47)), (3, .int x3)]) (by decide +kernel) (Nat.le_of_ble_eq_true rfl) rfl (fun p e s m args below meth c C hr => ?_)
  unfold f_X6_hangRod at h
  refine x_iconst C dX6_hangRod_0 (v := 2) (by decide) ?_
  refine x_iload_n C dX6_hangRod_1 rfl 3 rfl ?_
  refine x_imul C dX6_hangRod_2 ?_
  refine x_istore C dX6_hangRod_3 (lv2 := [(0, .ref (gs_a E 42)), (1, .ref (gs_a E 9)), (2, .ref (gs_a E 47)), (3, .int x3), (4, .int ((2 : Int32) * x3))]) (by decide) rfl [1, 2, 3, 4, 0] rfl ?_
  refine x_iload C dX6_hangRod_5 4 rfl ?_
  refine x_iconst C dX6_hangRod_7 (v := 1) (by decide) ?_
  refine x_iadd C dX6_hangRod_8 ?_
  refine x_istore C dX6_hangRod_9 (lv2 := [(0, .ref (gs_a E 42)), (1, .ref (gs_a E 9)), (2, .ref (gs_a E 47)), (3, .int x3), (4, .int ((2 : Int32) * x3)), (5, .int (((2 : Int32) * x3) + (1 : Int32)))]) (by decide) rfl [1, 2, 3, 4, 5, 0] rfl ?_
  refine x_aload_n C dX6_hangRod_11 rfl 0 rfl ?_
  refine x_getr C 42 rfl rfl inX6 0 (by decide) rfl kF_X6_9 rfl dX6_hangRod_12 ?_
  refine x_iload C dX6_hangRod_15 4 rfl ?_
  refine x_aload_n C dX6_hangRod_17 rfl 0 rfl ?_
  refine x_aload_n C dX6_hangRod_18 rfl 1 rfl ?_
  refine x_aload_n C dX6_hangRod_19 rfl 2 rfl ?_
  refine x_iload C dX6_hangRod_20 4 rfl ?_
  obtain ⟨v1, hv1, h⟩ := Option.bind_eq_some_iff.mp h
  refine x_callV C 42 (m_X6_loadOf_42_47 hv1) rfl rfl kM_X6_73 kI_X6_loadOf kS_X6_loadOf kN_X6 kC_X6_loadOf kD_X6_loadOf rfl ⟨Nat.le_of_ble_eq_true rfl, Nat.le_of_ble_eq_true rfl⟩ ⟨Nat.le_refl _, Nat.le_refl _⟩ (rest := [.int ((2 : Int32) * x3), .ref (gs_a E 43)]) rfl (Nat.le_of_ble_eq_true rfl) dX6_hangRod_22 (st' := [.int v1, .int ((2 : Int32) * x3), .ref (gs_a E 43)]) rfl ?_
  obtain ⟨hb2, h⟩ := ck_some h
  refine x_iast C 43 rfl hb2 dX6_hangRod_25 ?_
  refine x_aload_n C dX6_hangRod_26 rfl 0 rfl ?_
  refine x_getr C 42 rfl rfl inX6 0 (by decide) rfl kF_X6_9 rfl dX6_hangRod_27 ?_
  refine x_iload C dX6_hangRod_30 5 rfl ?_
  refine x_aload_n C dX6_hangRod_32 rfl 0 rfl ?_
  refine x_aload_n C dX6_hangRod_33 rfl 1 rfl ?_
  refine x_aload_n C dX6_hangRod_34 rfl 2 rfl ?_
  refine x_iload C dX6_hangRod_35 5 rfl ?_
  obtain ⟨v3, hv3, h⟩ := Option.bind_eq_some_iff.mp h
  refine x_callV C 42 (m_X6_loadOf_42_47 hv3) rfl rfl kM_X6_73 kI_X6_loadOf kS_X6_loadOf kN_X6 kC_X6_loadOf kD_X6_loadOf rfl ⟨Nat.le_of_ble_eq_true rfl, Nat.le_of_ble_eq_true rfl⟩ ⟨Nat.le_refl _, Nat.le_refl _⟩ (rest := [.int (((2 : Int32) * x3) + (1 : Int32)), .ref (gs_a E 43)]) rfl (Nat.le_of_ble_eq_true rfl) dX6_hangRod_37 (st' := [.int v3, .int (((2 : Int32) * x3) + (1 : Int32)), .ref (gs_a E 43)]) rfl ?_
  obtain ⟨hb4, h⟩ := ck_some h
  refine x_iast C 43 rfl hb4 dX6_hangRod_40 ?_
  refine x_aload_n C dX6_hangRod_41 rfl 0 rfl ?_
  refine x_getr C 42 rfl rfl inX6 1 (by decide) rfl kF_X6_15 rfl dX6_hangRod_42 ?_
  refine x_iload_n C dX6_hangRod_45 rfl 3 rfl ?_
  refine x_aload_n C dX6_hangRod_46 rfl 0 rfl ?_
  refine x_getr C 42 rfl rfl inX6 0 (by decide) rfl kF_X6_9 rfl dX6_hangRod_47 ?_
  refine x_iload C dX6_hangRod_50 5 rfl ?_
  obtain ⟨hb5, h⟩ := ck_some h
  refine x_iald C 43 rfl hb5 (v := v3) (by first | rfl | exact up2_same _ _ _ _ | simp [up2]) dX6_hangRod_52 ?_
  refine x_aload_n C dX6_hangRod_53 rfl 1 rfl ?_
  refine x_getr C 9 rfl rfl inX3 3 (by decide) rfl kF_X6_77 rfl dX6_hangRod_54 ?_
  refine x_iload C dX6_hangRod_57 5 rfl ?_
  obtain ⟨hb6, h⟩ := ck_some h
  refine x_iald C 10 rfl hb6 (v := ((up2 (up2 σ (42 + 1) ((2 : Int32) * x3).toNatClampNeg v1) (42 + 1) (((2 : Int32) * x3) + (1 : Int32)).toNatClampNeg v3) 10 (((2 : Int32) * x3) + (1 : Int32)).toNatClampNeg)) rfl dX6_hangRod_59 ?_
  refine x_imul C dX6_hangRod_60 ?_
  refine x_aload_n C dX6_hangRod_61 rfl 0 rfl ?_
  refine x_getr C 42 rfl rfl inX6 0 (by decide) rfl kF_X6_9 rfl dX6_hangRod_62 ?_
  refine x_iload C dX6_hangRod_65 4 rfl ?_
  obtain ⟨hb7, h⟩ := ck_some h
  refine x_iald C 43 rfl hb7 (v := ((up2 (up2 σ (42 + 1) ((2 : Int32) * x3).toNatClampNeg v1) (42 + 1) (((2 : Int32) * x3) + (1 : Int32)).toNatClampNeg v3) (42 + 1) ((2 : Int32) * x3).toNatClampNeg)) rfl dX6_hangRod_67 ?_
  refine x_aload_n C dX6_hangRod_68 rfl 1 rfl ?_
  refine x_getr C 9 rfl rfl inX3 3 (by decide) rfl kF_X6_77 rfl dX6_hangRod_69 ?_
  refine x_iload C dX6_hangRod_72 4 rfl ?_
  obtain ⟨hb8, h⟩ := ck_some h
  refine x_iald C 10 rfl hb8 (v := ((up2 (up2 σ (42 + 1) ((2 : Int32) * x3).toNatClampNeg v1) (42 + 1) (((2 : Int32) * x3) + (1 : Int32)).toNatClampNeg v3) 10 ((2 : Int32) * x3).toNatClampNeg)) rfl dX6_hangRod_74 ?_
  refine x_imul C dX6_hangRod_75 ?_
  refine x_isub C dX6_hangRod_76 ?_
  obtain ⟨hb9, h⟩ := ck_some h
  refine x_iast C 44 rfl hb9 dX6_hangRod_77 ?_
  replace h := Option.some.inj h
  subst h
  exact x_retv C hr rfl dX6_hangRod_78
set_option maxHeartbeats 4000000 in
set_option maxRecDepth 20000 in
theorem m_X6_hangRod_51_56 {E : gs_E} {l : Launch} {x3 : Int32} {σ : gs_H} {g : Int64} {σ0 : gs_H} (h : f_X6_hangRod 51 56 x3 σ = some σ0) : gs_M l E yX6_hangRod cX6_hangRod 6 (none) (1, 24) [.ref (gs_a E 51), .ref (gs_a E 9), .ref (gs_a E 56), .int x3] σ g (none) σ0 g := by
  refine x_enter (lv := [(0, .ref (gs_a E 51)), (1, .ref (gs_a E 9)), (2, .ref (gs_a E 56)), (3, .int x3)]) (by decide +kernel) (Nat.le_of_ble_eq_true rfl) rfl (fun p e s m args below meth c C hr => ?_)
  unfold f_X6_hangRod at h
  refine x_iconst C dX6_hangRod_0 (v := 2) (by decide) ?_
  refine x_iload_n C dX6_hangRod_1 rfl 3 rfl ?_
  refine x_imul C dX6_hangRod_2 ?_
  refine x_istore C dX6_hangRod_3 (lv2 := [(0, .ref (gs_a E 51)), (1, .ref (gs_a E 9)), (2, .ref (gs_a E 56)), (3, .int x3), (4, .int ((2 : Int32) * x3))]) (by decide) rfl [1, 2, 3, 4, 0] rfl ?_
  refine x_iload C dX6_hangRod_5 4 rfl ?_
  refine x_iconst C dX6_hangRod_7 (v := 1) (by decide) ?_
  refine x_iadd C dX6_hangRod_8 ?_
  refine x_istore C dX6_hangRod_9 (lv2 := [(0, .ref (gs_a E 51)), (1, .ref (gs_a E 9)), (2, .ref (gs_a E 56)), (3, .int x3), (4, .int ((2 : Int32) * x3)), (5, .int (((2 : Int32) * x3) + (1 : Int32)))]) (by decide) rfl [1, 2, 3, 4, 5, 0] rfl ?_
  refine x_aload_n C dX6_hangRod_11 rfl 0 rfl ?_
  refine x_getr C 51 rfl rfl inX6 0 (by decide) rfl kF_X6_9 rfl dX6_hangRod_12 ?_
  refine x_iload C dX6_hangRod_15 4 rfl ?_
  refine x_aload_n C dX6_hangRod_17 rfl 0 rfl ?_
  refine x_aload_n C dX6_hangRod_18 rfl 1 rfl ?_
  refine x_aload_n C dX6_hangRod_19 rfl 2 rfl ?_
  refine x_iload C dX6_hangRod_20 4 rfl ?_
  obtain ⟨v1, hv1, h⟩ := Option.bind_eq_some_iff.mp h
  refine x_callV C 51 (m_X6_loadOf_51_56 hv1) rfl rfl kM_X6_73 kI_X6_loadOf kS_X6_loadOf kN_X6 kC_X6_loadOf kD_X6_loadOf rfl ⟨Nat.le_of_ble_eq_true rfl, Nat.le_of_ble_eq_true rfl⟩ ⟨Nat.le_refl _, Nat.le_refl _⟩ (rest := [.int ((2 : Int32) * x3), .ref (gs_a E 52)]) rfl (Nat.le_of_ble_eq_true rfl) dX6_hangRod_22 (st' := [.int v1, .int ((2 : Int32) * x3), .ref (gs_a E 52)]) rfl ?_
  obtain ⟨hb2, h⟩ := ck_some h
  refine x_iast C 52 rfl hb2 dX6_hangRod_25 ?_
  refine x_aload_n C dX6_hangRod_26 rfl 0 rfl ?_
  refine x_getr C 51 rfl rfl inX6 0 (by decide) rfl kF_X6_9 rfl dX6_hangRod_27 ?_
  refine x_iload C dX6_hangRod_30 5 rfl ?_
  refine x_aload_n C dX6_hangRod_32 rfl 0 rfl ?_
  refine x_aload_n C dX6_hangRod_33 rfl 1 rfl ?_
  refine x_aload_n C dX6_hangRod_34 rfl 2 rfl ?_
  refine x_iload C dX6_hangRod_35 5 rfl ?_
  obtain ⟨v3, hv3, h⟩ := Option.bind_eq_some_iff.mp h
  refine x_callV C 51 (m_X6_loadOf_51_56 hv3) rfl rfl kM_X6_73 kI_X6_loadOf kS_X6_loadOf kN_X6 kC_X6_loadOf kD_X6_loadOf rfl ⟨Nat.le_of_ble_eq_true rfl, Nat.le_of_ble_eq_true rfl⟩ ⟨Nat.le_refl _, Nat.le_refl _⟩ (rest := [.int (((2 : Int32) * x3) + (1 : Int32)), .ref (gs_a E 52)]) rfl (Nat.le_of_ble_eq_true rfl) dX6_hangRod_37 (st' := [.int v3, .int (((2 : Int32) * x3) + (1 : Int32)), .ref (gs_a E 52)]) rfl ?_
  obtain ⟨hb4, h⟩ := ck_some h
  refine x_iast C 52 rfl hb4 dX6_hangRod_40 ?_
  refine x_aload_n C dX6_hangRod_41 rfl 0 rfl ?_
  refine x_getr C 51 rfl rfl inX6 1 (by decide) rfl kF_X6_15 rfl dX6_hangRod_42 ?_
  refine x_iload_n C dX6_hangRod_45 rfl 3 rfl ?_
  refine x_aload_n C dX6_hangRod_46 rfl 0 rfl ?_
  refine x_getr C 51 rfl rfl inX6 0 (by decide) rfl kF_X6_9 rfl dX6_hangRod_47 ?_
  refine x_iload C dX6_hangRod_50 5 rfl ?_
  obtain ⟨hb5, h⟩ := ck_some h
  refine x_iald C 52 rfl hb5 (v := v3) (by first | rfl | exact up2_same _ _ _ _ | simp [up2]) dX6_hangRod_52 ?_
  refine x_aload_n C dX6_hangRod_53 rfl 1 rfl ?_
  refine x_getr C 9 rfl rfl inX3 3 (by decide) rfl kF_X6_77 rfl dX6_hangRod_54 ?_
  refine x_iload C dX6_hangRod_57 5 rfl ?_
  obtain ⟨hb6, h⟩ := ck_some h
  refine x_iald C 10 rfl hb6 (v := ((up2 (up2 σ (51 + 1) ((2 : Int32) * x3).toNatClampNeg v1) (51 + 1) (((2 : Int32) * x3) + (1 : Int32)).toNatClampNeg v3) 10 (((2 : Int32) * x3) + (1 : Int32)).toNatClampNeg)) rfl dX6_hangRod_59 ?_
  refine x_imul C dX6_hangRod_60 ?_
  refine x_aload_n C dX6_hangRod_61 rfl 0 rfl ?_
  refine x_getr C 51 rfl rfl inX6 0 (by decide) rfl kF_X6_9 rfl dX6_hangRod_62 ?_
  refine x_iload C dX6_hangRod_65 4 rfl ?_
  obtain ⟨hb7, h⟩ := ck_some h
  refine x_iald C 52 rfl hb7 (v := ((up2 (up2 σ (51 + 1) ((2 : Int32) * x3).toNatClampNeg v1) (51 + 1) (((2 : Int32) * x3) + (1 : Int32)).toNatClampNeg v3) (51 + 1) ((2 : Int32) * x3).toNatClampNeg)) rfl dX6_hangRod_67 ?_
  refine x_aload_n C dX6_hangRod_68 rfl 1 rfl ?_
  refine x_getr C 9 rfl rfl inX3 3 (by decide) rfl kF_X6_77 rfl dX6_hangRod_69 ?_
  refine x_iload C dX6_hangRod_72 4 rfl ?_
  obtain ⟨hb8, h⟩ := ck_some h
  refine x_iald C 10 rfl hb8 (v := ((up2 (up2 σ (51 + 1) ((2 : Int32) * x3).toNatClampNeg v1) (51 + 1) (((2 : Int32) * x3) + (1 : Int32)).toNatClampNeg v3) 10 ((2 : Int32) * x3).toNatClampNeg)) rfl dX6_hangRod_74 ?_
  refine x_imul C dX6_hangRod_75 ?_
  refine x_isub C dX6_hangRod_76 ?_
  obtain ⟨hb9, h⟩ := ck_some h
  refine x_iast C 53 rfl hb9 dX6_hangRod_77 ?_
  replace h := Option.some.inj h
  subst h
  exact x_retv C hr rfl dX6_hangRod_78
set_option maxHeartbeats 4000000 in
set_option maxRecDepth 20000 in
theorem m_X6_hangRod_51_12 {E : gs_E} {l : Launch} {x3 : Int32} {σ : gs_H} {g : Int64} {σ0 : gs_H} (h : f_X6_hangRod 51 12 x3 σ = some σ0) : gs_M l E yX6_hangRod cX6_hangRod 6 (none) (1, 24) [.ref (gs_a E 51), .ref (gs_a E 9), .ref (gs_a E 12), .int x3] σ g (none) σ0 g := by
  refine x_enter (lv := [(0, .ref (gs_a E 51)), (1, .ref (gs_a E 9)), (2, .ref (gs_a E 12)), (3, .int x3)]) (by decide +kernel) (Nat.le_of_ble_eq_true rfl) rfl (fun p e s m args below meth c C hr => ?_)
  unfold f_X6_hangRod at h
  refine x_iconst C dX6_hangRod_0 (v := 2) (by decide) ?_
  refine x_iload_n C dX6_hangRod_1 rfl 3 rfl ?_
  refine x_imul C dX6_hangRod_2 ?_
  refine x_istore C dX6_hangRod_3 (lv2 := [(0, .ref (gs_a E 51)), (1, .ref (gs_a E 9)), (2, .ref (gs_a E 12)), (3, .int x3), (4, .int ((2 : Int32) * x3))]) (by decide) rfl [1, 2, 3, 4, 0] rfl ?_
  refine x_iload C dX6_hangRod_5 4 rfl ?_
  refine x_iconst C dX6_hangRod_7 (v := 1) (by decide) ?_
  refine x_iadd C dX6_hangRod_8 ?_
  refine x_istore C dX6_hangRod_9 (lv2 := [(0, .ref (gs_a E 51)), (1, .ref (gs_a E 9)), (2, .ref (gs_a E 12)), (3, .int x3), (4, .int ((2 : Int32) * x3)), (5, .int (((2 : Int32) * x3) + (1 : Int32)))]) (by decide) rfl [1, 2, 3, 4, 5, 0] rfl ?_
  refine x_aload_n C dX6_hangRod_11 rfl 0 rfl ?_
  refine x_getr C 51 rfl rfl inX6 0 (by decide) rfl kF_X6_9 rfl dX6_hangRod_12 ?_
  refine x_iload C dX6_hangRod_15 4 rfl ?_
  refine x_aload_n C dX6_hangRod_17 rfl 0 rfl ?_
  refine x_aload_n C dX6_hangRod_18 rfl 1 rfl ?_
  refine x_aload_n C dX6_hangRod_19 rfl 2 rfl ?_
  refine x_iload C dX6_hangRod_20 4 rfl ?_
  obtain ⟨v1, hv1, h⟩ := Option.bind_eq_some_iff.mp h
  refine x_callV C 51 (m_X6_loadOf_51_12 hv1) rfl rfl kM_X6_73 kI_X6_loadOf kS_X6_loadOf kN_X6 kC_X6_loadOf kD_X6_loadOf rfl ⟨Nat.le_of_ble_eq_true rfl, Nat.le_of_ble_eq_true rfl⟩ ⟨Nat.le_refl _, Nat.le_refl _⟩ (rest := [.int ((2 : Int32) * x3), .ref (gs_a E 52)]) rfl (Nat.le_of_ble_eq_true rfl) dX6_hangRod_22 (st' := [.int v1, .int ((2 : Int32) * x3), .ref (gs_a E 52)]) rfl ?_
  obtain ⟨hb2, h⟩ := ck_some h
  refine x_iast C 52 rfl hb2 dX6_hangRod_25 ?_
  refine x_aload_n C dX6_hangRod_26 rfl 0 rfl ?_
  refine x_getr C 51 rfl rfl inX6 0 (by decide) rfl kF_X6_9 rfl dX6_hangRod_27 ?_
  refine x_iload C dX6_hangRod_30 5 rfl ?_
  refine x_aload_n C dX6_hangRod_32 rfl 0 rfl ?_
  refine x_aload_n C dX6_hangRod_33 rfl 1 rfl ?_
  refine x_aload_n C dX6_hangRod_34 rfl 2 rfl ?_
  refine x_iload C dX6_hangRod_35 5 rfl ?_
  obtain ⟨v3, hv3, h⟩ := Option.bind_eq_some_iff.mp h
  refine x_callV C 51 (m_X6_loadOf_51_12 hv3) rfl rfl kM_X6_73 kI_X6_loadOf kS_X6_loadOf kN_X6 kC_X6_loadOf kD_X6_loadOf rfl ⟨Nat.le_of_ble_eq_true rfl, Nat.le_of_ble_eq_true rfl⟩ ⟨Nat.le_refl _, Nat.le_refl _⟩ (rest := [.int (((2 : Int32) * x3) + (1 : Int32)), .ref (gs_a E 52)]) rfl (Nat.le_of_ble_eq_true rfl) dX6_hangRod_37 (st' := [.int v3, .int (((2 : Int32) * x3) + (1 : Int32)), .ref (gs_a E 52)]) rfl ?_
  obtain ⟨hb4, h⟩ := ck_some h
  refine x_iast C 52 rfl hb4 dX6_hangRod_40 ?_
  refine x_aload_n C dX6_hangRod_41 rfl 0 rfl ?_
  refine x_getr C 51 rfl rfl inX6 1 (by decide) rfl kF_X6_15 rfl dX6_hangRod_42 ?_
  refine x_iload_n C dX6_hangRod_45 rfl 3 rfl ?_
  refine x_aload_n C dX6_hangRod_46 rfl 0 rfl ?_
  refine x_getr C 51 rfl rfl inX6 0 (by decide) rfl kF_X6_9 rfl dX6_hangRod_47 ?_
  refine x_iload C dX6_hangRod_50 5 rfl ?_
  obtain ⟨hb5, h⟩ := ck_some h
  refine x_iald C 52 rfl hb5 (v := v3) (by first | rfl | exact up2_same _ _ _ _ | simp [up2]) dX6_hangRod_52 ?_
  refine x_aload_n C dX6_hangRod_53 rfl 1 rfl ?_
  refine x_getr C 9 rfl rfl inX3 3 (by decide) rfl kF_X6_77 rfl dX6_hangRod_54 ?_
  refine x_iload C dX6_hangRod_57 5 rfl ?_
  obtain ⟨hb6, h⟩ := ck_some h
  refine x_iald C 10 rfl hb6 (v := ((up2 (up2 σ (51 + 1) ((2 : Int32) * x3).toNatClampNeg v1) (51 + 1) (((2 : Int32) * x3) + (1 : Int32)).toNatClampNeg v3) 10 (((2 : Int32) * x3) + (1 : Int32)).toNatClampNeg)) rfl dX6_hangRod_59 ?_
  refine x_imul C dX6_hangRod_60 ?_
  refine x_aload_n C dX6_hangRod_61 rfl 0 rfl ?_
  refine x_getr C 51 rfl rfl inX6 0 (by decide) rfl kF_X6_9 rfl dX6_hangRod_62 ?_
  refine x_iload C dX6_hangRod_65 4 rfl ?_
  obtain ⟨hb7, h⟩ := ck_some h
  refine x_iald C 52 rfl hb7 (v := ((up2 (up2 σ (51 + 1) ((2 : Int32) * x3).toNatClampNeg v1) (51 + 1) (((2 : Int32) * x3) + (1 : Int32)).toNatClampNeg v3) (51 + 1) ((2 : Int32) * x3).toNatClampNeg)) rfl dX6_hangRod_67 ?_
  refine x_aload_n C dX6_hangRod_68 rfl 1 rfl ?_
  refine x_getr C 9 rfl rfl inX3 3 (by decide) rfl kF_X6_77 rfl dX6_hangRod_69 ?_
  refine x_iload C dX6_hangRod_72 4 rfl ?_
  obtain ⟨hb8, h⟩ := ck_some h
  refine x_iald C 10 rfl hb8 (v := ((up2 (up2 σ (51 + 1) ((2 : Int32) * x3).toNatClampNeg v1) (51 + 1) (((2 : Int32) * x3) + (1 : Int32)).toNatClampNeg v3) 10 ((2 : Int32) * x3).toNatClampNeg)) rfl dX6_hangRod_74 ?_
  refine x_imul C dX6_hangRod_75 ?_
  refine x_isub C dX6_hangRod_76 ?_
  obtain ⟨hb9, h⟩ := ck_some h
  refine x_iast C 53 rfl hb9 dX6_hangRod_77 ?_
  replace h := Option.some.inj h
  subst h
  exact x_retv C hr rfl dX6_hangRod_78
set_option maxHeartbeats 4000000 in
set_option maxRecDepth 20000 in
theorem m_X6_hangRod_42_12 {E : gs_E} {l : Launch} {x3 : Int32} {σ : gs_H} {g : Int64} {σ0 : gs_H} (h : f_X6_hangRod 42 12 x3 σ = some σ0) : gs_M l E yX6_hangRod cX6_hangRod 6 (none) (1, 24) [.ref (gs_a E 42), .ref (gs_a E 9), .ref (gs_a E 12), .int x3] σ g (none) σ0 g := by
  refine x_enter (lv := [(0, .ref (gs_a E 42)), (1, .ref (gs_a E 9)), (2, .ref (gs_a E 12)), (3, .int x3)]) (by decide +kernel) (Nat.le_of_ble_eq_true rfl) rfl (fun p e s m args below meth c C hr => ?_)
  unfold f_X6_hangRod at h
  refine x_iconst C dX6_hangRod_0 (v := 2) (by decide) ?_
  refine x_iload_n C dX6_hangRod_1 rfl 3 rfl ?_
  refine x_imul C dX6_hangRod_2 ?_
  refine x_istore C dX6_hangRod_3 (lv2 := [(0, .ref (gs_a E 42)), (1, .ref (gs_a E 9)), (2, .ref (gs_a E 12)), (3, .int x3), (4, .int ((2 : Int32) * x3))]) (by decide) rfl [1, 2, 3, 4, 0] rfl ?_
  refine x_iload C dX6_hangRod_5 4 rfl ?_
  refine x_iconst C dX6_hangRod_7 (v := 1) (by decide) ?_
  refine x_iadd C dX6_hangRod_8 ?_
  refine x_istore C dX6_hangRod_9 (lv2 := [(0, .ref (gs_a E 42)), (1, .ref (gs_a E 9)), (2, .ref (gs_a E 12)), (3, .int x3), (4, .int ((2 : Int32) * x3)), (5, .int (((2 : Int32) * x3) + (1 : Int32)))]) (by decide) rfl [1, 2, 3, 4, 5, 0] rfl ?_
  refine x_aload_n C dX6_hangRod_11 rfl 0 rfl ?_
  refine x_getr C 42 rfl rfl inX6 0 (by decide) rfl kF_X6_9 rfl dX6_hangRod_12 ?_
  refine x_iload C dX6_hangRod_15 4 rfl ?_
  refine x_aload_n C dX6_hangRod_17 rfl 0 rfl ?_
  refine x_aload_n C dX6_hangRod_18 rfl 1 rfl ?_
  refine x_aload_n C dX6_hangRod_19 rfl 2 rfl ?_
  refine x_iload C dX6_hangRod_20 4 rfl ?_
  obtain ⟨v1, hv1, h⟩ := Option.bind_eq_some_iff.mp h
  refine x_callV C 42 (m_X6_loadOf_42_12 hv1) rfl rfl kM_X6_73 kI_X6_loadOf kS_X6_loadOf kN_X6 kC_X6_loadOf kD_X6_loadOf rfl ⟨Nat.le_of_ble_eq_true rfl, Nat.le_of_ble_eq_true rfl⟩ ⟨Nat.le_refl _, Nat.le_refl _⟩ (rest := [.int ((2 : Int32) * x3), .ref (gs_a E 43)]) rfl (Nat.le_of_ble_eq_true rfl) dX6_hangRod_22 (st' := [.int v1, .int ((2 : Int32) * x3), .ref (gs_a E 43)]) rfl ?_
  obtain ⟨hb2, h⟩ := ck_some h
  refine x_iast C 43 rfl hb2 dX6_hangRod_25 ?_
  refine x_aload_n C dX6_hangRod_26 rfl 0 rfl ?_
  refine x_getr C 42 rfl rfl inX6 0 (by decide) rfl kF_X6_9 rfl dX6_hangRod_27 ?_
  refine x_iload C dX6_hangRod_30 5 rfl ?_
  refine x_aload_n C dX6_hangRod_32 rfl 0 rfl ?_
  refine x_aload_n C dX6_hangRod_33 rfl 1 rfl ?_
  refine x_aload_n C dX6_hangRod_34 rfl 2 rfl ?_
  refine x_iload C dX6_hangRod_35 5 rfl ?_
  obtain ⟨v3, hv3, h⟩ := Option.bind_eq_some_iff.mp h
  refine x_callV C 42 (m_X6_loadOf_42_12 hv3) rfl rfl kM_X6_73 kI_X6_loadOf kS_X6_loadOf kN_X6 kC_X6_loadOf kD_X6_loadOf rfl ⟨Nat.le_of_ble_eq_true rfl, Nat.le_of_ble_eq_true rfl⟩ ⟨Nat.le_refl _, Nat.le_refl _⟩ (rest := [.int (((2 : Int32) * x3) + (1 : Int32)), .ref (gs_a E 43)]) rfl (Nat.le_of_ble_eq_true rfl) dX6_hangRod_37 (st' := [.int v3, .int (((2 : Int32) * x3) + (1 : Int32)), .ref (gs_a E 43)]) rfl ?_
  obtain ⟨hb4, h⟩ := ck_some h
  refine x_iast C 43 rfl hb4 dX6_hangRod_40 ?_
  refine x_aload_n C dX6_hangRod_41 rfl 0 rfl ?_
  refine x_getr C 42 rfl rfl inX6 1 (by decide) rfl kF_X6_15 rfl dX6_hangRod_42 ?_
  refine x_iload_n C dX6_hangRod_45 rfl 3 rfl ?_
  refine x_aload_n C dX6_hangRod_46 rfl 0 rfl ?_
  refine x_getr C 42 rfl rfl inX6 0 (by decide) rfl kF_X6_9 rfl dX6_hangRod_47 ?_
  refine x_iload C dX6_hangRod_50 5 rfl ?_
  obtain ⟨hb5, h⟩ := ck_some h
  refine x_iald C 43 rfl hb5 (v := v3) (by first | rfl | exact up2_same _ _ _ _ | simp [up2]) dX6_hangRod_52 ?_
  refine x_aload_n C dX6_hangRod_53 rfl 1 rfl ?_
  refine x_getr C 9 rfl rfl inX3 3 (by decide) rfl kF_X6_77 rfl dX6_hangRod_54 ?_
  refine x_iload C dX6_hangRod_57 5 rfl ?_
  obtain ⟨hb6, h⟩ := ck_some h
  refine x_iald C 10 rfl hb6 (v := ((up2 (up2 σ (42 + 1) ((2 : Int32) * x3).toNatClampNeg v1) (42 + 1) (((2 : Int32) * x3) + (1 : Int32)).toNatClampNeg v3) 10 (((2 : Int32) * x3) + (1 : Int32)).toNatClampNeg)) rfl dX6_hangRod_59 ?_
  refine x_imul C dX6_hangRod_60 ?_
  refine x_aload_n C dX6_hangRod_61 rfl 0 rfl ?_
  refine x_getr C 42 rfl rfl inX6 0 (by decide) rfl kF_X6_9 rfl dX6_hangRod_62 ?_
  refine x_iload C dX6_hangRod_65 4 rfl ?_
  obtain ⟨hb7, h⟩ := ck_some h
  refine x_iald C 43 rfl hb7 (v := ((up2 (up2 σ (42 + 1) ((2 : Int32) * x3).toNatClampNeg v1) (42 + 1) (((2 : Int32) * x3) + (1 : Int32)).toNatClampNeg v3) (42 + 1) ((2 : Int32) * x3).toNatClampNeg)) rfl dX6_hangRod_67 ?_
  refine x_aload_n C dX6_hangRod_68 rfl 1 rfl ?_
  refine x_getr C 9 rfl rfl inX3 3 (by decide) rfl kF_X6_77 rfl dX6_hangRod_69 ?_
  refine x_iload C dX6_hangRod_72 4 rfl ?_
  obtain ⟨hb8, h⟩ := ck_some h
  refine x_iald C 10 rfl hb8 (v := ((up2 (up2 σ (42 + 1) ((2 : Int32) * x3).toNatClampNeg v1) (42 + 1) (((2 : Int32) * x3) + (1 : Int32)).toNatClampNeg v3) 10 ((2 : Int32) * x3).toNatClampNeg)) rfl dX6_hangRod_74 ?_
  refine x_imul C dX6_hangRod_75 ?_
  refine x_isub C dX6_hangRod_76 ?_
  obtain ⟨hb9, h⟩ := ck_some h
  refine x_iast C 44 rfl hb9 dX6_hangRod_77 ?_
  replace h := Option.some.inj h
  subst h
  exact x_retv C hr rfl dX6_hangRod_78
def b_X6_hangsLevel_7 (ar : Nat) (cr : Nat) (y : Int32 × gs_H) : Option ((Int32 × gs_H) ⊕ ((gs_H) ⊕ (gs_H))) :=
if y.1 < 0 then (
some (Sum.inr (Sum.inr y.2)))
else (
(f_X6_hangRod ar cr y.1 y.2).bind fun q3 =>
if inb y.1 5 then
if (q3 (ar + 3) y.1.toNatClampNeg) = 0 then (
some (Sum.inl ((y.1 + (-1 : Int32)), q3)))
else (
if inb y.1 5 then
if (q3 (ar + 2) y.1.toNatClampNeg) = 0 then (
some (Sum.inl ((y.1 + (-1 : Int32)), q3)))
else (
some (Sum.inr (Sum.inl q3))) else none) else none)
def f_X6_hangsLevel (ar : Nat) (cr : Nat) (σ : gs_H) : Option (Int32 × gs_H) :=
(lp (b_X6_hangsLevel_7 ar cr) 1000 (((σ 9 0) - (1 : Int32)), σ)).bind fun q1 =>
match q1 with
| .inl q1_0 =>
some ((0 : Int32), q1_0)
| .inr q1_1 =>
some ((1 : Int32), q1_1)
set_option maxHeartbeats 4000000 in
set_option maxRecDepth 20000 in
theorem wl_X6_hangsLevel_7_42_47 {E : gs_E} {l : Launch} {p : Program} {e : Env} {s : State} {m : MethodId} {args : Array Value} {below : List Frame} {meth : Method} {c : Code} (C : gs_X E RX6 cX6_hangsLevel 4 p s m args meth c) {ov : Option Value} {σ0 : gs_H} {g0 : Int64} {g : Int64} {q : (gs_H) ⊕ (gs_H)} (hx0 : ∀ (zs : gs_H), q = (Sum.inl zs) → gs_V E 4 (2, 49) p l e s m args below meth c ov σ0 g0 36 [] [] zs g) (hx1 : ∀ (zs : gs_H), q = (Sum.inr zs) → gs_V E 4 (2, 49) p l e s m args below meth c ov σ0 g0 44 [] [] zs g) : ∀ (n : Nat) (y3 : Int32) (ys : gs_H), lp (b_X6_hangsLevel_7 42 47) n (y3, ys) = some q → gs_V E 4 (2, 49) p l e s m args below meth c ov σ0 g0 7 [(0, .ref (gs_a E 42)), (1, .ref (gs_a E 9)), (2, .ref (gs_a E 47)), (3, .int y3)] [] ys g := by
  intro n
  induction n with
  | zero => intro y3 ys h; cases h
  | succ n ih =>
    intro y3 ys h
    obtain ⟨r, h, hl, he⟩ := lp_step h
    have hc := fun (y3 : Int32) (ys : gs_H) (hr : r = Sum.inl (y3, ys)) => ih y3 ys (hl _ hr)
    have hk0 := fun (zs : gs_H) (hr : r = Sum.inr (Sum.inl zs)) => hx0 zs (he _ hr).symm
    have hk1 := fun (zs : gs_H) (hr : r = Sum.inr (Sum.inr zs)) => hx1 zs (he _ hr).symm
    unfold b_X6_hangsLevel_7 at h
    try dsimp only at h
    refine x_iload_n C dX6_hangsLevel_7 rfl 3 rfl ?_
    by_cases hc1 : y3 < 0
    · replace h := (if_pos hc1).symm.trans h
      refine x_if_ltT C dX6_hangsLevel_8 (tgt := 44) (by decide) hc1 ?_
      refine x_lv (lv' := []) [] rfl ?_
      obtain rfl := Option.some.inj h
      exact hk1 ys rfl
    · replace h := (if_neg hc1).symm.trans h
      refine x_if_ltF C dX6_hangsLevel_8 (tgt := 44) (by decide) hc1 ?_
      refine x_aload_n C dX6_hangsLevel_11 rfl 0 rfl ?_
      refine x_aload_n C dX6_hangsLevel_12 rfl 1 rfl ?_
      refine x_aload_n C dX6_hangsLevel_13 rfl 2 rfl ?_
      refine x_iload_n C dX6_hangsLevel_14 rfl 3 rfl ?_
      obtain ⟨s2, hv2, h⟩ := Option.bind_eq_some_iff.mp h
      refine x_callV C 42 (m_X6_hangRod_42_47 hv2) rfl rfl kM_X6_69 kI_X6_hangRod kS_X6_hangRod kN_X6 kC_X6_hangRod kD_X6_hangRod rfl ⟨Nat.le_of_ble_eq_true rfl, Nat.le_of_ble_eq_true rfl⟩ ⟨Nat.le_refl _, Nat.le_refl _⟩ (rest := []) rfl (Nat.le_of_ble_eq_true rfl) dX6_hangsLevel_15 (st' := []) rfl ?_
      refine x_aload_n C dX6_hangsLevel_18 rfl 0 rfl ?_
      refine x_getr C 42 rfl rfl inX6 2 (by decide) rfl kF_X6_18 rfl dX6_hangsLevel_19 ?_
      refine x_iload_n C dX6_hangsLevel_22 rfl 3 rfl ?_
      obtain ⟨hb3, h⟩ := ck_some h
      refine x_zald C 45 rfl hb3 (v := (s2 (42 + 3) y3.toNatClampNeg)) rfl dX6_hangsLevel_23 ?_
      by_cases hc4 : (s2 (42 + 3) y3.toNatClampNeg) = 0
      · replace h := (if_pos hc4).symm.trans h
        refine x_if_eqT C dX6_hangsLevel_24 (tgt := 38) (by decide) hc4 ?_
        refine x_iinc C dX6_hangsLevel_38 3 rfl (v := (y3 + (-1 : Int32))) rfl (lv2 := [(0, .ref (gs_a E 42)), (1, .ref (gs_a E 9)), (2, .ref (gs_a E 47)), (3, .int (y3 + (-1 : Int32)))]) (by decide) rfl [1, 2, 3, 0] rfl ?_
        refine x_goto C dX6_hangsLevel_41 (tgt := 7) (by decide) ?_
        obtain rfl := Option.some.inj h
        exact hc (y3 + (-1 : Int32)) s2 rfl
      · replace h := (if_neg hc4).symm.trans h
        refine x_if_eqF C dX6_hangsLevel_24 (tgt := 38) (by decide) hc4 ?_
        refine x_aload_n C dX6_hangsLevel_27 rfl 0 rfl ?_
        refine x_getr C 42 rfl rfl inX6 1 (by decide) rfl kF_X6_15 rfl dX6_hangsLevel_28 ?_
        refine x_iload_n C dX6_hangsLevel_31 rfl 3 rfl ?_
        obtain ⟨hb5, h⟩ := ck_some h
        refine x_iald C 44 rfl hb5 (v := (s2 (42 + 2) y3.toNatClampNeg)) rfl dX6_hangsLevel_32 ?_
        by_cases hc6 : (s2 (42 + 2) y3.toNatClampNeg) = 0
        · replace h := (if_pos hc6).symm.trans h
          refine x_if_eqT C dX6_hangsLevel_33 (tgt := 38) (by decide) hc6 ?_
          refine x_iinc C dX6_hangsLevel_38 3 rfl (v := (y3 + (-1 : Int32))) rfl (lv2 := [(0, .ref (gs_a E 42)), (1, .ref (gs_a E 9)), (2, .ref (gs_a E 47)), (3, .int (y3 + (-1 : Int32)))]) (by decide) rfl [1, 2, 3, 0] rfl ?_
          refine x_goto C dX6_hangsLevel_41 (tgt := 7) (by decide) ?_
          obtain rfl := Option.some.inj h
          exact hc (y3 + (-1 : Int32)) s2 rfl
        · replace h := (if_neg hc6).symm.trans h
          refine x_if_eqF C dX6_hangsLevel_33 (tgt := 38) (by decide) hc6 ?_
          refine x_lv (lv' := []) [] rfl ?_
          obtain rfl := Option.some.inj h
          exact hk0 s2 rfl
set_option maxHeartbeats 4000000 in
set_option maxRecDepth 20000 in
theorem m_X6_hangsLevel_42_47 {E : gs_E} {l : Launch} {σ : gs_H} {g : Int64} {r0 : Int32} {σ0 : gs_H} (h : f_X6_hangsLevel 42 47 σ = some (r0, σ0)) : gs_M l E yX6_hangsLevel cX6_hangsLevel 4 (some .boolean) (2, 49) [.ref (gs_a E 42), .ref (gs_a E 9), .ref (gs_a E 47)] σ g (some (.int r0)) σ0 g := by
  refine x_enter (lv := [(0, .ref (gs_a E 42)), (1, .ref (gs_a E 9)), (2, .ref (gs_a E 47))]) (by decide +kernel) (Nat.le_of_ble_eq_true rfl) rfl (fun p e s m args below meth c C hr => ?_)
  unfold f_X6_hangsLevel at h
  refine x_aload_n C dX6_hangsLevel_0 rfl 1 rfl ?_
  refine x_geti C 9 rfl rfl inX3 0 (by decide) rfl kF_X6_60 rfl (v := (σ 9 0)) rfl dX6_hangsLevel_1 ?_
  refine x_iconst C dX6_hangsLevel_4 (v := 1) (by decide) ?_
  refine x_isub C dX6_hangsLevel_5 ?_
  refine x_istore_n C dX6_hangsLevel_6 rfl (lv2 := [(0, .ref (gs_a E 42)), (1, .ref (gs_a E 9)), (2, .ref (gs_a E 47)), (3, .int ((σ 9 0) - (1 : Int32)))]) (by decide) rfl [1, 2, 3, 0] rfl ?_
  obtain ⟨q1, hq1, h⟩ := Option.bind_eq_some_iff.mp h
  refine wl_X6_hangsLevel_7_42_47 C (fun s1_0 hz => ?_) (fun s1_1 hz => ?_) 1000 _ _ hq1
  · subst q1
    try dsimp only at h
    refine x_iconst C dX6_hangsLevel_36 (v := 0) (by decide) ?_
    replace h := Option.some.inj h
    obtain ⟨rfl, rfl⟩ := Prod.mk.inj h
    exact x_retb C hr (by decide) rfl dX6_hangsLevel_37
  · subst q1
    try dsimp only at h
    refine x_iconst C dX6_hangsLevel_44 (v := 1) (by decide) ?_
    replace h := Option.some.inj h
    obtain ⟨rfl, rfl⟩ := Prod.mk.inj h
    exact x_retb C hr (by decide) rfl dX6_hangsLevel_45
set_option maxHeartbeats 4000000 in
set_option maxRecDepth 20000 in
theorem wl_X6_hangsLevel_7_51_12 {E : gs_E} {l : Launch} {p : Program} {e : Env} {s : State} {m : MethodId} {args : Array Value} {below : List Frame} {meth : Method} {c : Code} (C : gs_X E RX6 cX6_hangsLevel 4 p s m args meth c) {ov : Option Value} {σ0 : gs_H} {g0 : Int64} {g : Int64} {q : (gs_H) ⊕ (gs_H)} (hx0 : ∀ (zs : gs_H), q = (Sum.inl zs) → gs_V E 4 (2, 49) p l e s m args below meth c ov σ0 g0 36 [] [] zs g) (hx1 : ∀ (zs : gs_H), q = (Sum.inr zs) → gs_V E 4 (2, 49) p l e s m args below meth c ov σ0 g0 44 [] [] zs g) : ∀ (n : Nat) (y3 : Int32) (ys : gs_H), lp (b_X6_hangsLevel_7 51 12) n (y3, ys) = some q → gs_V E 4 (2, 49) p l e s m args below meth c ov σ0 g0 7 [(0, .ref (gs_a E 51)), (1, .ref (gs_a E 9)), (2, .ref (gs_a E 12)), (3, .int y3)] [] ys g := by
  intro n
  induction n with
  | zero => intro y3 ys h; cases h
  | succ n ih =>
    intro y3 ys h
    obtain ⟨r, h, hl, he⟩ := lp_step h
    have hc := fun (y3 : Int32) (ys : gs_H) (hr : r = Sum.inl (y3, ys)) => ih y3 ys (hl _ hr)
    have hk0 := fun (zs : gs_H) (hr : r = Sum.inr (Sum.inl zs)) => hx0 zs (he _ hr).symm
    have hk1 := fun (zs : gs_H) (hr : r = Sum.inr (Sum.inr zs)) => hx1 zs (he _ hr).symm
    unfold b_X6_hangsLevel_7 at h
    try dsimp only at h
    refine x_iload_n C dX6_hangsLevel_7 rfl 3 rfl ?_
    by_cases hc1 : y3 < 0
    · replace h := (if_pos hc1).symm.trans h
      refine x_if_ltT C dX6_hangsLevel_8 (tgt := 44) (by decide) hc1 ?_
      refine x_lv (lv' := []) [] rfl ?_
      obtain rfl := Option.some.inj h
      exact hk1 ys rfl
    · replace h := (if_neg hc1).symm.trans h
      refine x_if_ltF C dX6_hangsLevel_8 (tgt := 44) (by decide) hc1 ?_
      refine x_aload_n C dX6_hangsLevel_11 rfl 0 rfl ?_
      refine x_aload_n C dX6_hangsLevel_12 rfl 1 rfl ?_
      refine x_aload_n C dX6_hangsLevel_13 rfl 2 rfl ?_
      refine x_iload_n C dX6_hangsLevel_14 rfl 3 rfl ?_
      obtain ⟨s2, hv2, h⟩ := Option.bind_eq_some_iff.mp h
      refine x_callV C 51 (m_X6_hangRod_51_12 hv2) rfl rfl kM_X6_69 kI_X6_hangRod kS_X6_hangRod kN_X6 kC_X6_hangRod kD_X6_hangRod rfl ⟨Nat.le_of_ble_eq_true rfl, Nat.le_of_ble_eq_true rfl⟩ ⟨Nat.le_refl _, Nat.le_refl _⟩ (rest := []) rfl (Nat.le_of_ble_eq_true rfl) dX6_hangsLevel_15 (st' := []) rfl ?_
      refine x_aload_n C dX6_hangsLevel_18 rfl 0 rfl ?_
      refine x_getr C 51 rfl rfl inX6 2 (by decide) rfl kF_X6_18 rfl dX6_hangsLevel_19 ?_
      refine x_iload_n C dX6_hangsLevel_22 rfl 3 rfl ?_
      obtain ⟨hb3, h⟩ := ck_some h
      refine x_zald C 54 rfl hb3 (v := (s2 (51 + 3) y3.toNatClampNeg)) rfl dX6_hangsLevel_23 ?_
      by_cases hc4 : (s2 (51 + 3) y3.toNatClampNeg) = 0
      · replace h := (if_pos hc4).symm.trans h
        refine x_if_eqT C dX6_hangsLevel_24 (tgt := 38) (by decide) hc4 ?_
        refine x_iinc C dX6_hangsLevel_38 3 rfl (v := (y3 + (-1 : Int32))) rfl (lv2 := [(0, .ref (gs_a E 51)), (1, .ref (gs_a E 9)), (2, .ref (gs_a E 12)), (3, .int (y3 + (-1 : Int32)))]) (by decide) rfl [1, 2, 3, 0] rfl ?_
        refine x_goto C dX6_hangsLevel_41 (tgt := 7) (by decide) ?_
        obtain rfl := Option.some.inj h
        exact hc (y3 + (-1 : Int32)) s2 rfl
      · replace h := (if_neg hc4).symm.trans h
        refine x_if_eqF C dX6_hangsLevel_24 (tgt := 38) (by decide) hc4 ?_
        refine x_aload_n C dX6_hangsLevel_27 rfl 0 rfl ?_
        refine x_getr C 51 rfl rfl inX6 1 (by decide) rfl kF_X6_15 rfl dX6_hangsLevel_28 ?_
        refine x_iload_n C dX6_hangsLevel_31 rfl 3 rfl ?_
        obtain ⟨hb5, h⟩ := ck_some h
        refine x_iald C 53 rfl hb5 (v := (s2 (51 + 2) y3.toNatClampNeg)) rfl dX6_hangsLevel_32 ?_
        by_cases hc6 : (s2 (51 + 2) y3.toNatClampNeg) = 0
        · replace h := (if_pos hc6).symm.trans h
          refine x_if_eqT C dX6_hangsLevel_33 (tgt := 38) (by decide) hc6 ?_
          refine x_iinc C dX6_hangsLevel_38 3 rfl (v := (y3 + (-1 : Int32))) rfl (lv2 := [(0, .ref (gs_a E 51)), (1, .ref (gs_a E 9)), (2, .ref (gs_a E 12)), (3, .int (y3 + (-1 : Int32)))]) (by decide) rfl [1, 2, 3, 0] rfl ?_
          refine x_goto C dX6_hangsLevel_41 (tgt := 7) (by decide) ?_
          obtain rfl := Option.some.inj h
          exact hc (y3 + (-1 : Int32)) s2 rfl
        · replace h := (if_neg hc6).symm.trans h
          refine x_if_eqF C dX6_hangsLevel_33 (tgt := 38) (by decide) hc6 ?_
          refine x_lv (lv' := []) [] rfl ?_
          obtain rfl := Option.some.inj h
          exact hk0 s2 rfl
set_option maxHeartbeats 4000000 in
set_option maxRecDepth 20000 in
theorem m_X6_hangsLevel_51_12 {E : gs_E} {l : Launch} {σ : gs_H} {g : Int64} {r0 : Int32} {σ0 : gs_H} (h : f_X6_hangsLevel 51 12 σ = some (r0, σ0)) : gs_M l E yX6_hangsLevel cX6_hangsLevel 4 (some .boolean) (2, 49) [.ref (gs_a E 51), .ref (gs_a E 9), .ref (gs_a E 12)] σ g (some (.int r0)) σ0 g := by
  refine x_enter (lv := [(0, .ref (gs_a E 51)), (1, .ref (gs_a E 9)), (2, .ref (gs_a E 12))]) (by decide +kernel) (Nat.le_of_ble_eq_true rfl) rfl (fun p e s m args below meth c C hr => ?_)
  unfold f_X6_hangsLevel at h
  refine x_aload_n C dX6_hangsLevel_0 rfl 1 rfl ?_
  refine x_geti C 9 rfl rfl inX3 0 (by decide) rfl kF_X6_60 rfl (v := (σ 9 0)) rfl dX6_hangsLevel_1 ?_
  refine x_iconst C dX6_hangsLevel_4 (v := 1) (by decide) ?_
  refine x_isub C dX6_hangsLevel_5 ?_
  refine x_istore_n C dX6_hangsLevel_6 rfl (lv2 := [(0, .ref (gs_a E 51)), (1, .ref (gs_a E 9)), (2, .ref (gs_a E 12)), (3, .int ((σ 9 0) - (1 : Int32)))]) (by decide) rfl [1, 2, 3, 0] rfl ?_
  obtain ⟨q1, hq1, h⟩ := Option.bind_eq_some_iff.mp h
  refine wl_X6_hangsLevel_7_51_12 C (fun s1_0 hz => ?_) (fun s1_1 hz => ?_) 1000 _ _ hq1
  · subst q1
    try dsimp only at h
    refine x_iconst C dX6_hangsLevel_36 (v := 0) (by decide) ?_
    replace h := Option.some.inj h
    obtain ⟨rfl, rfl⟩ := Prod.mk.inj h
    exact x_retb C hr (by decide) rfl dX6_hangsLevel_37
  · subst q1
    try dsimp only at h
    refine x_iconst C dX6_hangsLevel_44 (v := 1) (by decide) ?_
    replace h := Option.some.inj h
    obtain ⟨rfl, rfl⟩ := Prod.mk.inj h
    exact x_retb C hr (by decide) rfl dX6_hangsLevel_45
def j_X6_prepare_121 (ar : Nat) (x3 : Int32) (t1 : Int32) (t2 : Int32) (σ : gs_H) : Option ((Int32 × gs_H) ⊕ ((gs_H))) :=
if inb t1 5 then
if t2 = 0 ∨ t2 = 1 then
some (Sum.inl ((x3 + (1 : Int32)), (up2 σ (ar + 3) t1.toNatClampNeg t2))) else none else none
def j_X6_prepare_120 (ar : Nat) (x3 : Int32) (t1 : Int32) (σ : gs_H) : Option ((Int32 × gs_H) ⊕ ((gs_H))) :=
j_X6_prepare_121 ar x3 t1 (0 : Int32) σ
def b_X6_prepare_64 (ar : Nat) (y : Int32 × gs_H) : Option ((Int32 × gs_H) ⊕ ((gs_H))) :=
if ((2 : Int32) * (y.2 9 0)) ≤ y.1 then (
some (Sum.inr y.2))
else (
if inb y.1 10 then
if (10 : Int32) ≤ (y.2 11 y.1.toNatClampNeg) then (
some (Sum.inl ((y.1 + (1 : Int32)), y.2)))
else (
if inb (y.1 / (2 : Int32)) 5 then
if (y.2 (ar + 3) (y.1 / (2 : Int32)).toNatClampNeg) = 0 then (
j_X6_prepare_120 ar y.1 (y.2 11 y.1.toNatClampNeg) y.2)
else (
if inb (y.2 11 y.1.toNatClampNeg) 5 then
if (y.2 16 (y.2 11 y.1.toNatClampNeg).toNatClampNeg) = 0 then (
j_X6_prepare_121 ar y.1 (y.2 11 y.1.toNatClampNeg) (1 : Int32) y.2)
else (
j_X6_prepare_120 ar y.1 (y.2 11 y.1.toNatClampNeg) y.2) else none) else none) else none)
def j_X6_prepare_48 (ar : Nat) (x2 : Int32) (x3 : Int32) (t1 : Int32) (t2 : Int32) (σ : gs_H) : Option ((Int32 × gs_H) ⊕ ((gs_H))) :=
if inb t1 6 then
some (Sum.inl ((x3 + (1 : Int32)), (up2 σ (ar + 4) t1.toNatClampNeg t2))) else none
def b_X6_prepare_2 (ar : Nat) (x2 : Int32) (y : Int32 × gs_H) : Option ((Int32 × gs_H) ⊕ ((gs_H))) :=
if (y.2 9 1) ≤ y.1 then (
some (Sum.inr y.2))
else (
if inb y.1 6 then
if inb y.1 6 then
if inb y.1 6 then
if (y.2 15 y.1.toNatClampNeg) = 0 then (
j_X6_prepare_48 ar x2 y.1 y.1 (f_X1_weight (y.2 13 y.1.toNatClampNeg) (y.2 14 y.1.toNatClampNeg) x2) y.2)
else (
j_X6_prepare_48 ar x2 y.1 y.1 (0 : Int32) y.2) else none else none else none)
def f_X6_prepare (ar : Nat) (x2 : Int32) (σ : gs_H) : Option (gs_H) :=
(lp (b_X6_prepare_2 ar x2) 1000 ((0 : Int32), σ)).bind fun q1 =>
if inb (0 : Int32) 5 then
(lp (b_X6_prepare_64 ar) 1000 ((0 : Int32), (up2 q1 (ar + 3) (0 : Int32).toNatClampNeg (1 : Int32)))).bind fun q3 =>
some q3 else none
set_option maxHeartbeats 4000000 in
set_option maxRecDepth 20000 in
theorem wj_X6_prepare_121_35 {E : gs_E} {l : Launch} {p : Program} {e : Env} {s : State} {m : MethodId} {args : Array Value} {below : List Frame} {meth : Method} {c : Code} (C : gs_X E RX6 cX6_prepare 5 p s m args meth c) {ov : Option Value} {σ0 : gs_H} {g0 : Int64} {x3 : Int32} {t1 : Int32} {t2 : Int32} {σ : gs_H} {g : Int64} {r : (Int32 × gs_H) ⊕ ((gs_H))} (h : j_X6_prepare_121 35 x3 t1 t2 σ = some r) (hc : ∀ (y3 : Int32) (ys : gs_H), r = Sum.inl (y3, ys) → gs_V E 5 (2, 43) p l e s m args below meth c ov σ0 g0 64 [(0, .ref (gs_a E 35)), (1, .ref (gs_a E 9)), (3, .int y3)] [] ys g) (hk0 : ∀ (zs : gs_H), r = Sum.inr zs → gs_V E 5 (2, 43) p l e s m args below meth c ov σ0 g0 128 [] [] zs g) : gs_V E 5 (2, 43) p l e s m args below meth c ov σ0 g0 121 [(0, .ref (gs_a E 35)), (1, .ref (gs_a E 9)), (3, .int x3)] [.int t2, .int t1, .ref (gs_a E 38)] σ g := by
  unfold j_X6_prepare_121 at h
  obtain ⟨hb1, h⟩ := ck_some h
  obtain ⟨hz1, h⟩ := ck_some h
  refine x_zast C 38 rfl hb1 hz1 dX6_prepare_121 ?_
  refine x_iinc C dX6_prepare_122 2 rfl (v := (x3 + (1 : Int32))) rfl (lv2 := [(0, .ref (gs_a E 35)), (1, .ref (gs_a E 9)), (3, .int (x3 + (1 : Int32)))]) (by decide) rfl [1, 2, 0] rfl ?_
  refine x_goto C dX6_prepare_125 (tgt := 64) (by decide) ?_
  obtain rfl := Option.some.inj h
  exact hc (x3 + (1 : Int32)) (up2 σ (35 + 3) t1.toNatClampNeg t2) rfl
set_option maxHeartbeats 4000000 in
set_option maxRecDepth 20000 in
theorem wj_X6_prepare_120_35 {E : gs_E} {l : Launch} {p : Program} {e : Env} {s : State} {m : MethodId} {args : Array Value} {below : List Frame} {meth : Method} {c : Code} (C : gs_X E RX6 cX6_prepare 5 p s m args meth c) {ov : Option Value} {σ0 : gs_H} {g0 : Int64} {x3 : Int32} {t1 : Int32} {σ : gs_H} {g : Int64} {r : (Int32 × gs_H) ⊕ ((gs_H))} (h : j_X6_prepare_120 35 x3 t1 σ = some r) (hc : ∀ (y3 : Int32) (ys : gs_H), r = Sum.inl (y3, ys) → gs_V E 5 (2, 43) p l e s m args below meth c ov σ0 g0 64 [(0, .ref (gs_a E 35)), (1, .ref (gs_a E 9)), (3, .int y3)] [] ys g) (hk0 : ∀ (zs : gs_H), r = Sum.inr zs → gs_V E 5 (2, 43) p l e s m args below meth c ov σ0 g0 128 [] [] zs g) : gs_V E 5 (2, 43) p l e s m args below meth c ov σ0 g0 120 [(0, .ref (gs_a E 35)), (1, .ref (gs_a E 9)), (3, .int x3)] [.int t1, .ref (gs_a E 38)] σ g := by
  unfold j_X6_prepare_120 at h
  refine x_iconst C dX6_prepare_120 (v := 0) (by decide) ?_
  exact wj_X6_prepare_121_35 C h hc hk0
set_option maxHeartbeats 4000000 in
set_option maxRecDepth 20000 in
theorem wl_X6_prepare_64_35 {E : gs_E} {l : Launch} {p : Program} {e : Env} {s : State} {m : MethodId} {args : Array Value} {below : List Frame} {meth : Method} {c : Code} (C : gs_X E RX6 cX6_prepare 5 p s m args meth c) {ov : Option Value} {σ0 : gs_H} {g0 : Int64} {g : Int64} {q : (gs_H)} (hx0 : ∀ (zs : gs_H), q = zs → gs_V E 5 (2, 43) p l e s m args below meth c ov σ0 g0 128 [] [] zs g) : ∀ (n : Nat) (y3 : Int32) (ys : gs_H), lp (b_X6_prepare_64 35) n (y3, ys) = some q → gs_V E 5 (2, 43) p l e s m args below meth c ov σ0 g0 64 [(0, .ref (gs_a E 35)), (1, .ref (gs_a E 9)), (3, .int y3)] [] ys g := by
  intro n
  induction n with
  | zero => intro y3 ys h; cases h
  | succ n ih =>
    intro y3 ys h
    obtain ⟨r, h, hl, he⟩ := lp_step h
    have hc := fun (y3 : Int32) (ys : gs_H) (hr : r = Sum.inl (y3, ys)) => ih y3 ys (hl _ hr)
    have hk0 := fun (zs : gs_H) (hr : r = Sum.inr zs) => hx0 zs (he _ hr).symm
    unfold b_X6_prepare_64 at h
    try dsimp only at h
    refine x_iload_n C dX6_prepare_64 rfl 2 rfl ?_
    refine x_iconst C dX6_prepare_65 (v := 2) (by decide) ?_
    refine x_aload_n C dX6_prepare_66 rfl 1 rfl ?_
    refine x_geti C 9 rfl rfl inX3 0 (by decide) rfl kF_X6_60 rfl (v := (ys 9 0)) rfl dX6_prepare_67 ?_
    refine x_imul C dX6_prepare_70 ?_
    by_cases hc1 : ((2 : Int32) * (ys 9 0)) ≤ y3
    · replace h := (if_pos hc1).symm.trans h
      refine x_icmp_geT C dX6_prepare_71 (tgt := 128) (by decide) hc1 ?_
      refine x_lv (lv' := []) [] rfl ?_
      obtain rfl := Option.some.inj h
      exact hk0 ys rfl
    · replace h := (if_neg hc1).symm.trans h
      refine x_icmp_geF C dX6_prepare_71 (tgt := 128) (by decide) hc1 ?_
      refine x_aload_n C dX6_prepare_74 rfl 1 rfl ?_
      refine x_getr C 9 rfl rfl inX3 4 (by decide) rfl kF_X6_63 rfl dX6_prepare_75 ?_
      refine x_iload_n C dX6_prepare_78 rfl 2 rfl ?_
      obtain ⟨hb2, h⟩ := ck_some h
      refine x_iald C 11 rfl hb2 (v := (ys 11 y3.toNatClampNeg)) rfl dX6_prepare_79 ?_
      refine x_istore C dX6_prepare_80 (lv2 := [(0, .ref (gs_a E 35)), (1, .ref (gs_a E 9)), (3, .int y3), (4, .int (ys 11 y3.toNatClampNeg))]) (by decide) rfl [1, 2, 3, 0] rfl ?_
      refine x_iload C dX6_prepare_82 3 rfl ?_
      refine x_bipush C dX6_prepare_84 (v := 10) (by decide) ?_
      by_cases hc3 : (10 : Int32) ≤ (ys 11 y3.toNatClampNeg)
      · replace h := (if_pos hc3).symm.trans h
        refine x_icmp_geT C dX6_prepare_86 (tgt := 122) (by decide) hc3 ?_
        refine x_iinc C dX6_prepare_122 2 rfl (v := (y3 + (1 : Int32))) rfl (lv2 := [(0, .ref (gs_a E 35)), (1, .ref (gs_a E 9)), (3, .int (y3 + (1 : Int32))), (4, .int (ys 11 y3.toNatClampNeg))]) (by decide) rfl [1, 2, 0, 3] rfl ?_
        refine x_goto C dX6_prepare_125 (tgt := 64) (by decide) ?_
        refine x_lv (lv' := [(0, .ref (gs_a E 35)), (1, .ref (gs_a E 9)), (3, .int (y3 + (1 : Int32)))]) [0, 1, 2] rfl ?_
        obtain rfl := Option.some.inj h
        exact hc (y3 + (1 : Int32)) ys rfl
      · replace h := (if_neg hc3).symm.trans h
        refine x_icmp_geF C dX6_prepare_86 (tgt := 122) (by decide) hc3 ?_
        refine x_aload_n C dX6_prepare_89 rfl 0 rfl ?_
        refine x_getr C 35 rfl rfl inX6 2 (by decide) rfl kF_X6_18 rfl dX6_prepare_90 ?_
        refine x_iload C dX6_prepare_93 3 rfl ?_
        refine x_aload_n C dX6_prepare_95 rfl 0 rfl ?_
        refine x_getr C 35 rfl rfl inX6 2 (by decide) rfl kF_X6_18 rfl dX6_prepare_96 ?_
        refine x_iload_n C dX6_prepare_99 rfl 2 rfl ?_
        refine x_iconst C dX6_prepare_100 (v := 2) (by decide) ?_
        refine x_idiv C dX6_prepare_101 (by decide) ?_
        obtain ⟨hb4, h⟩ := ck_some h
        refine x_zald C 38 rfl hb4 (v := (ys (35 + 3) (y3 / (2 : Int32)).toNatClampNeg)) rfl dX6_prepare_102 ?_
        by_cases hc5 : (ys (35 + 3) (y3 / (2 : Int32)).toNatClampNeg) = 0
        · replace h := (if_pos hc5).symm.trans h
          refine x_if_eqT C dX6_prepare_103 (tgt := 120) (by decide) hc5 ?_
          refine x_lv (lv' := [(0, .ref (gs_a E 35)), (1, .ref (gs_a E 9)), (3, .int y3)]) [0, 1, 2] rfl ?_
          exact wj_X6_prepare_120_35 C h hc hk0
        · replace h := (if_neg hc5).symm.trans h
          refine x_if_eqF C dX6_prepare_103 (tgt := 120) (by decide) hc5 ?_
          refine x_aload_n C dX6_prepare_106 rfl 1 rfl ?_
          refine x_getr C 9 rfl rfl inX3 9 (by decide) rfl kF_X6_66 rfl dX6_prepare_107 ?_
          refine x_iload C dX6_prepare_110 3 rfl ?_
          obtain ⟨hb6, h⟩ := ck_some h
          refine x_zald C 16 rfl hb6 (v := (ys 16 (ys 11 y3.toNatClampNeg).toNatClampNeg)) rfl dX6_prepare_112 ?_
          by_cases hc7 : (ys 16 (ys 11 y3.toNatClampNeg).toNatClampNeg) = 0
          · replace h := (if_pos hc7).symm.trans h
            refine x_if_neF C dX6_prepare_113 (tgt := 120) (by decide) hc7 ?_
            refine x_iconst C dX6_prepare_116 (v := 1) (by decide) ?_
            refine x_goto C dX6_prepare_117 (tgt := 121) (by decide) ?_
            refine x_lv (lv' := [(0, .ref (gs_a E 35)), (1, .ref (gs_a E 9)), (3, .int y3)]) [0, 1, 2] rfl ?_
            exact wj_X6_prepare_121_35 C h hc hk0
          · replace h := (if_neg hc7).symm.trans h
            refine x_if_neT C dX6_prepare_113 (tgt := 120) (by decide) hc7 ?_
            refine x_lv (lv' := [(0, .ref (gs_a E 35)), (1, .ref (gs_a E 9)), (3, .int y3)]) [0, 1, 2] rfl ?_
            exact wj_X6_prepare_120_35 C h hc hk0
set_option maxHeartbeats 4000000 in
set_option maxRecDepth 20000 in
theorem wj_X6_prepare_48_35 {E : gs_E} {l : Launch} {p : Program} {e : Env} {s : State} {m : MethodId} {args : Array Value} {below : List Frame} {meth : Method} {c : Code} (C : gs_X E RX6 cX6_prepare 5 p s m args meth c) {ov : Option Value} {σ0 : gs_H} {g0 : Int64} {x2 : Int32} {x3 : Int32} {t1 : Int32} {t2 : Int32} {σ : gs_H} {g : Int64} {r : (Int32 × gs_H) ⊕ ((gs_H))} (h : j_X6_prepare_48 35 x2 x3 t1 t2 σ = some r) (hc : ∀ (y3 : Int32) (ys : gs_H), r = Sum.inl (y3, ys) → gs_V E 5 (2, 43) p l e s m args below meth c ov σ0 g0 2 [(0, .ref (gs_a E 35)), (1, .ref (gs_a E 9)), (2, .int x2), (3, .int y3)] [] ys g) (hk0 : ∀ (zs : gs_H), r = Sum.inr zs → gs_V E 5 (2, 43) p l e s m args below meth c ov σ0 g0 55 [(0, .ref (gs_a E 35)), (1, .ref (gs_a E 9))] [] zs g) : gs_V E 5 (2, 43) p l e s m args below meth c ov σ0 g0 48 [(0, .ref (gs_a E 35)), (1, .ref (gs_a E 9)), (2, .int x2), (3, .int x3)] [.int t2, .int t1, .ref (gs_a E 39)] σ g := by
  unfold j_X6_prepare_48 at h
  obtain ⟨hb1, h⟩ := ck_some h
  refine x_iast C 39 rfl hb1 dX6_prepare_48 ?_
  refine x_iinc C dX6_prepare_49 3 rfl (v := (x3 + (1 : Int32))) rfl (lv2 := [(0, .ref (gs_a E 35)), (1, .ref (gs_a E 9)), (2, .int x2), (3, .int (x3 + (1 : Int32)))]) (by decide) rfl [1, 2, 3, 0] rfl ?_
  refine x_goto C dX6_prepare_52 (tgt := 2) (by decide) ?_
  obtain rfl := Option.some.inj h
  exact hc (x3 + (1 : Int32)) (up2 σ (35 + 4) t1.toNatClampNeg t2) rfl
set_option maxHeartbeats 4000000 in
set_option maxRecDepth 20000 in
theorem wl_X6_prepare_2_35 {E : gs_E} {l : Launch} {p : Program} {e : Env} {s : State} {m : MethodId} {args : Array Value} {below : List Frame} {meth : Method} {c : Code} (C : gs_X E RX6 cX6_prepare 5 p s m args meth c) {ov : Option Value} {σ0 : gs_H} {g0 : Int64} {x2 : Int32} {g : Int64} {q : (gs_H)} (hx0 : ∀ (zs : gs_H), q = zs → gs_V E 5 (2, 43) p l e s m args below meth c ov σ0 g0 55 [(0, .ref (gs_a E 35)), (1, .ref (gs_a E 9))] [] zs g) : ∀ (n : Nat) (y3 : Int32) (ys : gs_H), lp (b_X6_prepare_2 35 x2) n (y3, ys) = some q → gs_V E 5 (2, 43) p l e s m args below meth c ov σ0 g0 2 [(0, .ref (gs_a E 35)), (1, .ref (gs_a E 9)), (2, .int x2), (3, .int y3)] [] ys g := by
  intro n
  induction n with
  | zero => intro y3 ys h; cases h
  | succ n ih =>
    intro y3 ys h
    obtain ⟨r, h, hl, he⟩ := lp_step h
    have hc := fun (y3 : Int32) (ys : gs_H) (hr : r = Sum.inl (y3, ys)) => ih y3 ys (hl _ hr)
    have hk0 := fun (zs : gs_H) (hr : r = Sum.inr zs) => hx0 zs (he _ hr).symm
    unfold b_X6_prepare_2 at h
    try dsimp only at h
    refine x_iload_n C dX6_prepare_2 rfl 3 rfl ?_
    refine x_aload_n C dX6_prepare_3 rfl 1 rfl ?_
    refine x_geti C 9 rfl rfl inX3 1 (by decide) rfl kF_X6_42 rfl (v := (ys 9 1)) rfl dX6_prepare_4 ?_
    by_cases hc1 : (ys 9 1) ≤ y3
    · replace h := (if_pos hc1).symm.trans h
      refine x_icmp_geT C dX6_prepare_7 (tgt := 55) (by decide) hc1 ?_
      refine x_lv (lv' := [(0, .ref (gs_a E 35)), (1, .ref (gs_a E 9))]) [0, 1] rfl ?_
      obtain rfl := Option.some.inj h
      exact hk0 ys rfl
    · replace h := (if_neg hc1).symm.trans h
      refine x_icmp_geF C dX6_prepare_7 (tgt := 55) (by decide) hc1 ?_
      refine x_aload_n C dX6_prepare_10 rfl 1 rfl ?_
      refine x_getr C 9 rfl rfl inX3 6 (by decide) rfl kF_X6_45 rfl dX6_prepare_11 ?_
      refine x_iload_n C dX6_prepare_14 rfl 3 rfl ?_
      obtain ⟨hb2, h⟩ := ck_some h
      refine x_iald C 13 rfl hb2 (v := (ys 13 y3.toNatClampNeg)) rfl dX6_prepare_15 ?_
      refine x_aload_n C dX6_prepare_16 rfl 1 rfl ?_
      refine x_getr C 9 rfl rfl inX3 7 (by decide) rfl kF_X6_48 rfl dX6_prepare_17 ?_
      refine x_iload_n C dX6_prepare_20 rfl 3 rfl ?_
      obtain ⟨hb3, h⟩ := ck_some h
      refine x_iald C 14 rfl hb3 (v := (ys 14 y3.toNatClampNeg)) rfl dX6_prepare_21 ?_
      refine x_iload_n C dX6_prepare_22 rfl 2 rfl ?_
      refine x_callS C (m_X1_weight rfl) kM_X6_51 kT_X1_weight kN_X1 kC_X1_weight kD_X1_weight rfl ⟨Nat.le_of_ble_eq_true rfl, Nat.le_of_ble_eq_true rfl⟩ ⟨Nat.le_refl _, Nat.le_refl _⟩ (rest := []) rfl (Nat.le_of_ble_eq_true rfl) dX6_prepare_23 (st' := [.int (f_X1_weight (ys 13 y3.toNatClampNeg) (ys 14 y3.toNatClampNeg) x2)]) rfl ?_
      refine x_istore C dX6_prepare_26 (lv2 := [(0, .ref (gs_a E 35)), (1, .ref (gs_a E 9)), (2, .int x2), (3, .int y3), (4, .int (f_X1_weight (ys 13 y3.toNatClampNeg) (ys 14 y3.toNatClampNeg) x2))]) (by decide) rfl [1, 2, 3, 4, 0] rfl ?_
      refine x_aload_n C dX6_prepare_28 rfl 0 rfl ?_
      refine x_getr C 35 rfl rfl inX6 3 (by decide) rfl kF_X6_22 rfl dX6_prepare_29 ?_
      refine x_iload_n C dX6_prepare_32 rfl 3 rfl ?_
      refine x_aload_n C dX6_prepare_33 rfl 1 rfl ?_
      refine x_getr C 9 rfl rfl inX3 8 (by decide) rfl kF_X6_57 rfl dX6_prepare_34 ?_
      refine x_iload_n C dX6_prepare_37 rfl 3 rfl ?_
      obtain ⟨hb5, h⟩ := ck_some h
      refine x_zald C 15 rfl hb5 (v := (ys 15 y3.toNatClampNeg)) rfl dX6_prepare_38 ?_
      by_cases hc6 : (ys 15 y3.toNatClampNeg) = 0
      · replace h := (if_pos hc6).symm.trans h
        refine x_if_eqT C dX6_prepare_39 (tgt := 46) (by decide) hc6 ?_
        refine x_iload C dX6_prepare_46 4 rfl ?_
        refine x_lv (lv' := [(0, .ref (gs_a E 35)), (1, .ref (gs_a E 9)), (2, .int x2), (3, .int y3)]) [0, 1, 2, 3] rfl ?_
        exact wj_X6_prepare_48_35 C h hc hk0
      · replace h := (if_neg hc6).symm.trans h
        refine x_if_eqF C dX6_prepare_39 (tgt := 46) (by decide) hc6 ?_
        refine x_iconst C dX6_prepare_42 (v := 0) (by decide) ?_
        refine x_goto C dX6_prepare_43 (tgt := 48) (by decide) ?_
        refine x_lv (lv' := [(0, .ref (gs_a E 35)), (1, .ref (gs_a E 9)), (2, .int x2), (3, .int y3)]) [0, 1, 2, 3] rfl ?_
        exact wj_X6_prepare_48_35 C h hc hk0
set_option maxHeartbeats 4000000 in
set_option maxRecDepth 20000 in
theorem m_X6_prepare_35 {E : gs_E} {l : Launch} {x2 : Int32} {σ : gs_H} {g : Int64} {σ0 : gs_H} (h : f_X6_prepare 35 x2 σ = some σ0) : gs_M l E yX6_prepare cX6_prepare 5 (none) (2, 43) [.ref (gs_a E 35), .ref (gs_a E 9), .int x2] σ g (none) σ0 g := by
  refine x_enter (lv := [(0, .ref (gs_a E 35)), (1, .ref (gs_a E 9)), (2, .int x2)]) (by decide +kernel) (Nat.le_of_ble_eq_true rfl) rfl (fun p e s m args below meth c C hr => ?_)
  unfold f_X6_prepare at h
  refine x_iconst C dX6_prepare_0 (v := 0) (by decide) ?_
  refine x_istore_n C dX6_prepare_1 rfl (lv2 := [(0, .ref (gs_a E 35)), (1, .ref (gs_a E 9)), (2, .int x2), (3, .int (0 : Int32))]) (by decide) rfl [1, 2, 3, 0] rfl ?_
  obtain ⟨q1, hq1, h⟩ := Option.bind_eq_some_iff.mp h
  refine wl_X6_prepare_2_35 C (fun s1_0 hz => ?_) 1000 _ _ hq1
  subst q1
  try dsimp only at h
  refine x_aload_n C dX6_prepare_55 rfl 0 rfl ?_
  refine x_getr C 35 rfl rfl inX6 2 (by decide) rfl kF_X6_18 rfl dX6_prepare_56 ?_
  refine x_iconst C dX6_prepare_59 (v := 0) (by decide) ?_
  refine x_iconst C dX6_prepare_60 (v := 1) (by decide) ?_
  obtain ⟨hb2, h⟩ := ck_some h
  refine x_zast C 38 rfl hb2 (by decide) dX6_prepare_61 ?_
  refine x_iconst C dX6_prepare_62 (v := 0) (by decide) ?_
  refine x_istore_n C dX6_prepare_63 rfl (lv2 := [(0, .ref (gs_a E 35)), (1, .ref (gs_a E 9)), (3, .int (0 : Int32))]) (by decide) rfl [1, 2, 0] rfl ?_
  obtain ⟨q3, hq3, h⟩ := Option.bind_eq_some_iff.mp h
  refine wl_X6_prepare_64_35 C (fun s3_0 hz => ?_) 1000 _ _ hq3
  subst q3
  try dsimp only at h
  replace h := Option.some.inj h
  subst h
  exact x_retv C hr rfl dX6_prepare_128
set_option maxHeartbeats 4000000 in
set_option maxRecDepth 20000 in
theorem wj_X6_prepare_121_42 {E : gs_E} {l : Launch} {p : Program} {e : Env} {s : State} {m : MethodId} {args : Array Value} {below : List Frame} {meth : Method} {c : Code} (C : gs_X E RX6 cX6_prepare 5 p s m args meth c) {ov : Option Value} {σ0 : gs_H} {g0 : Int64} {x3 : Int32} {t1 : Int32} {t2 : Int32} {σ : gs_H} {g : Int64} {r : (Int32 × gs_H) ⊕ ((gs_H))} (h : j_X6_prepare_121 42 x3 t1 t2 σ = some r) (hc : ∀ (y3 : Int32) (ys : gs_H), r = Sum.inl (y3, ys) → gs_V E 5 (2, 43) p l e s m args below meth c ov σ0 g0 64 [(0, .ref (gs_a E 42)), (1, .ref (gs_a E 9)), (3, .int y3)] [] ys g) (hk0 : ∀ (zs : gs_H), r = Sum.inr zs → gs_V E 5 (2, 43) p l e s m args below meth c ov σ0 g0 128 [] [] zs g) : gs_V E 5 (2, 43) p l e s m args below meth c ov σ0 g0 121 [(0, .ref (gs_a E 42)), (1, .ref (gs_a E 9)), (3, .int x3)] [.int t2, .int t1, .ref (gs_a E 45)] σ g := by
  unfold j_X6_prepare_121 at h
  obtain ⟨hb1, h⟩ := ck_some h
  obtain ⟨hz1, h⟩ := ck_some h
  refine x_zast C 45 rfl hb1 hz1 dX6_prepare_121 ?_
  refine x_iinc C dX6_prepare_122 2 rfl (v := (x3 + (1 : Int32))) rfl (lv2 := [(0, .ref (gs_a E 42)), (1, .ref (gs_a E 9)), (3, .int (x3 + (1 : Int32)))]) (by decide) rfl [1, 2, 0] rfl ?_
  refine x_goto C dX6_prepare_125 (tgt := 64) (by decide) ?_
  obtain rfl := Option.some.inj h
  exact hc (x3 + (1 : Int32)) (up2 σ (42 + 3) t1.toNatClampNeg t2) rfl
set_option maxHeartbeats 4000000 in
set_option maxRecDepth 20000 in
theorem wj_X6_prepare_120_42 {E : gs_E} {l : Launch} {p : Program} {e : Env} {s : State} {m : MethodId} {args : Array Value} {below : List Frame} {meth : Method} {c : Code} (C : gs_X E RX6 cX6_prepare 5 p s m args meth c) {ov : Option Value} {σ0 : gs_H} {g0 : Int64} {x3 : Int32} {t1 : Int32} {σ : gs_H} {g : Int64} {r : (Int32 × gs_H) ⊕ ((gs_H))} (h : j_X6_prepare_120 42 x3 t1 σ = some r) (hc : ∀ (y3 : Int32) (ys : gs_H), r = Sum.inl (y3, ys) → gs_V E 5 (2, 43) p l e s m args below meth c ov σ0 g0 64 [(0, .ref (gs_a E 42)), (1, .ref (gs_a E 9)), (3, .int y3)] [] ys g) (hk0 : ∀ (zs : gs_H), r = Sum.inr zs → gs_V E 5 (2, 43) p l e s m args below meth c ov σ0 g0 128 [] [] zs g) : gs_V E 5 (2, 43) p l e s m args below meth c ov σ0 g0 120 [(0, .ref (gs_a E 42)), (1, .ref (gs_a E 9)), (3, .int x3)] [.int t1, .ref (gs_a E 45)] σ g := by
  unfold j_X6_prepare_120 at h
  refine x_iconst C dX6_prepare_120 (v := 0) (by decide) ?_
  exact wj_X6_prepare_121_42 C h hc hk0
set_option maxHeartbeats 4000000 in
set_option maxRecDepth 20000 in
theorem wl_X6_prepare_64_42 {E : gs_E} {l : Launch} {p : Program} {e : Env} {s : State} {m : MethodId} {args : Array Value} {below : List Frame} {meth : Method} {c : Code} (C : gs_X E RX6 cX6_prepare 5 p s m args meth c) {ov : Option Value} {σ0 : gs_H} {g0 : Int64} {g : Int64} {q : (gs_H)} (hx0 : ∀ (zs : gs_H), q = zs → gs_V E 5 (2, 43) p l e s m args below meth c ov σ0 g0 128 [] [] zs g) : ∀ (n : Nat) (y3 : Int32) (ys : gs_H), lp (b_X6_prepare_64 42) n (y3, ys) = some q → gs_V E 5 (2, 43) p l e s m args below meth c ov σ0 g0 64 [(0, .ref (gs_a E 42)), (1, .ref (gs_a E 9)), (3, .int y3)] [] ys g := by
  intro n
  induction n with
  | zero => intro y3 ys h; cases h
  | succ n ih =>
    intro y3 ys h
    obtain ⟨r, h, hl, he⟩ := lp_step h
    have hc := fun (y3 : Int32) (ys : gs_H) (hr : r = Sum.inl (y3, ys)) => ih y3 ys (hl _ hr)
    have hk0 := fun (zs : gs_H) (hr : r = Sum.inr zs) => hx0 zs (he _ hr).symm
    unfold b_X6_prepare_64 at h
    try dsimp only at h
    refine x_iload_n C dX6_prepare_64 rfl 2 rfl ?_
    refine x_iconst C dX6_prepare_65 (v := 2) (by decide) ?_
    refine x_aload_n C dX6_prepare_66 rfl 1 rfl ?_
    refine x_geti C 9 rfl rfl inX3 0 (by decide) rfl kF_X6_60 rfl (v := (ys 9 0)) rfl dX6_prepare_67 ?_
    refine x_imul C dX6_prepare_70 ?_
    by_cases hc1 : ((2 : Int32) * (ys 9 0)) ≤ y3
    · replace h := (if_pos hc1).symm.trans h
      refine x_icmp_geT C dX6_prepare_71 (tgt := 128) (by decide) hc1 ?_
      refine x_lv (lv' := []) [] rfl ?_
      obtain rfl := Option.some.inj h
      exact hk0 ys rfl
    · replace h := (if_neg hc1).symm.trans h
      refine x_icmp_geF C dX6_prepare_71 (tgt := 128) (by decide) hc1 ?_
      refine x_aload_n C dX6_prepare_74 rfl 1 rfl ?_
      refine x_getr C 9 rfl rfl inX3 4 (by decide) rfl kF_X6_63 rfl dX6_prepare_75 ?_
      refine x_iload_n C dX6_prepare_78 rfl 2 rfl ?_
      obtain ⟨hb2, h⟩ := ck_some h
      refine x_iald C 11 rfl hb2 (v := (ys 11 y3.toNatClampNeg)) rfl dX6_prepare_79 ?_
      refine x_istore C dX6_prepare_80 (lv2 := [(0, .ref (gs_a E 42)), (1, .ref (gs_a E 9)), (3, .int y3), (4, .int (ys 11 y3.toNatClampNeg))]) (by decide) rfl [1, 2, 3, 0] rfl ?_
      refine x_iload C dX6_prepare_82 3 rfl ?_
      refine x_bipush C dX6_prepare_84 (v := 10) (by decide) ?_
      by_cases hc3 : (10 : Int32) ≤ (ys 11 y3.toNatClampNeg)
      · replace h := (if_pos hc3).symm.trans h
        refine x_icmp_geT C dX6_prepare_86 (tgt := 122) (by decide) hc3 ?_
        refine x_iinc C dX6_prepare_122 2 rfl (v := (y3 + (1 : Int32))) rfl (lv2 := [(0, .ref (gs_a E 42)), (1, .ref (gs_a E 9)), (3, .int (y3 + (1 : Int32))), (4, .int (ys 11 y3.toNatClampNeg))]) (by decide) rfl [1, 2, 0, 3] rfl ?_
        refine x_goto C dX6_prepare_125 (tgt := 64) (by decide) ?_
        refine x_lv (lv' := [(0, .ref (gs_a E 42)), (1, .ref (gs_a E 9)), (3, .int (y3 + (1 : Int32)))]) [0, 1, 2] rfl ?_
        obtain rfl := Option.some.inj h
        exact hc (y3 + (1 : Int32)) ys rfl
      · replace h := (if_neg hc3).symm.trans h
        refine x_icmp_geF C dX6_prepare_86 (tgt := 122) (by decide) hc3 ?_
        refine x_aload_n C dX6_prepare_89 rfl 0 rfl ?_
        refine x_getr C 42 rfl rfl inX6 2 (by decide) rfl kF_X6_18 rfl dX6_prepare_90 ?_
        refine x_iload C dX6_prepare_93 3 rfl ?_
        refine x_aload_n C dX6_prepare_95 rfl 0 rfl ?_
        refine x_getr C 42 rfl rfl inX6 2 (by decide) rfl kF_X6_18 rfl dX6_prepare_96 ?_
        refine x_iload_n C dX6_prepare_99 rfl 2 rfl ?_
        refine x_iconst C dX6_prepare_100 (v := 2) (by decide) ?_
        refine x_idiv C dX6_prepare_101 (by decide) ?_
        obtain ⟨hb4, h⟩ := ck_some h
        refine x_zald C 45 rfl hb4 (v := (ys (42 + 3) (y3 / (2 : Int32)).toNatClampNeg)) rfl dX6_prepare_102 ?_
        by_cases hc5 : (ys (42 + 3) (y3 / (2 : Int32)).toNatClampNeg) = 0
        · replace h := (if_pos hc5).symm.trans h
          refine x_if_eqT C dX6_prepare_103 (tgt := 120) (by decide) hc5 ?_
          refine x_lv (lv' := [(0, .ref (gs_a E 42)), (1, .ref (gs_a E 9)), (3, .int y3)]) [0, 1, 2] rfl ?_
          exact wj_X6_prepare_120_42 C h hc hk0
        · replace h := (if_neg hc5).symm.trans h
          refine x_if_eqF C dX6_prepare_103 (tgt := 120) (by decide) hc5 ?_
          refine x_aload_n C dX6_prepare_106 rfl 1 rfl ?_
          refine x_getr C 9 rfl rfl inX3 9 (by decide) rfl kF_X6_66 rfl dX6_prepare_107 ?_
          refine x_iload C dX6_prepare_110 3 rfl ?_
          obtain ⟨hb6, h⟩ := ck_some h
          refine x_zald C 16 rfl hb6 (v := (ys 16 (ys 11 y3.toNatClampNeg).toNatClampNeg)) rfl dX6_prepare_112 ?_
          by_cases hc7 : (ys 16 (ys 11 y3.toNatClampNeg).toNatClampNeg) = 0
          · replace h := (if_pos hc7).symm.trans h
            refine x_if_neF C dX6_prepare_113 (tgt := 120) (by decide) hc7 ?_
            refine x_iconst C dX6_prepare_116 (v := 1) (by decide) ?_
            refine x_goto C dX6_prepare_117 (tgt := 121) (by decide) ?_
            refine x_lv (lv' := [(0, .ref (gs_a E 42)), (1, .ref (gs_a E 9)), (3, .int y3)]) [0, 1, 2] rfl ?_
            exact wj_X6_prepare_121_42 C h hc hk0
          · replace h := (if_neg hc7).symm.trans h
            refine x_if_neT C dX6_prepare_113 (tgt := 120) (by decide) hc7 ?_
            refine x_lv (lv' := [(0, .ref (gs_a E 42)), (1, .ref (gs_a E 9)), (3, .int y3)]) [0, 1, 2] rfl ?_
            exact wj_X6_prepare_120_42 C h hc hk0
set_option maxHeartbeats 4000000 in
set_option maxRecDepth 20000 in
theorem wj_X6_prepare_48_42 {E : gs_E} {l : Launch} {p : Program} {e : Env} {s : State} {m : MethodId} {args : Array Value} {below : List Frame} {meth : Method} {c : Code} (C : gs_X E RX6 cX6_prepare 5 p s m args meth c) {ov : Option Value} {σ0 : gs_H} {g0 : Int64} {x2 : Int32} {x3 : Int32} {t1 : Int32} {t2 : Int32} {σ : gs_H} {g : Int64} {r : (Int32 × gs_H) ⊕ ((gs_H))} (h : j_X6_prepare_48 42 x2 x3 t1 t2 σ = some r) (hc : ∀ (y3 : Int32) (ys : gs_H), r = Sum.inl (y3, ys) → gs_V E 5 (2, 43) p l e s m args below meth c ov σ0 g0 2 [(0, .ref (gs_a E 42)), (1, .ref (gs_a E 9)), (2, .int x2), (3, .int y3)] [] ys g) (hk0 : ∀ (zs : gs_H), r = Sum.inr zs → gs_V E 5 (2, 43) p l e s m args below meth c ov σ0 g0 55 [(0, .ref (gs_a E 42)), (1, .ref (gs_a E 9))] [] zs g) : gs_V E 5 (2, 43) p l e s m args below meth c ov σ0 g0 48 [(0, .ref (gs_a E 42)), (1, .ref (gs_a E 9)), (2, .int x2), (3, .int x3)] [.int t2, .int t1, .ref (gs_a E 46)] σ g := by
  unfold j_X6_prepare_48 at h
  obtain ⟨hb1, h⟩ := ck_some h
  refine x_iast C 46 rfl hb1 dX6_prepare_48 ?_
  refine x_iinc C dX6_prepare_49 3 rfl (v := (x3 + (1 : Int32))) rfl (lv2 := [(0, .ref (gs_a E 42)), (1, .ref (gs_a E 9)), (2, .int x2), (3, .int (x3 + (1 : Int32)))]) (by decide) rfl [1, 2, 3, 0] rfl ?_
  refine x_goto C dX6_prepare_52 (tgt := 2) (by decide) ?_
  obtain rfl := Option.some.inj h
  exact hc (x3 + (1 : Int32)) (up2 σ (42 + 4) t1.toNatClampNeg t2) rfl
set_option maxHeartbeats 4000000 in
set_option maxRecDepth 20000 in
theorem wl_X6_prepare_2_42 {E : gs_E} {l : Launch} {p : Program} {e : Env} {s : State} {m : MethodId} {args : Array Value} {below : List Frame} {meth : Method} {c : Code} (C : gs_X E RX6 cX6_prepare 5 p s m args meth c) {ov : Option Value} {σ0 : gs_H} {g0 : Int64} {x2 : Int32} {g : Int64} {q : (gs_H)} (hx0 : ∀ (zs : gs_H), q = zs → gs_V E 5 (2, 43) p l e s m args below meth c ov σ0 g0 55 [(0, .ref (gs_a E 42)), (1, .ref (gs_a E 9))] [] zs g) : ∀ (n : Nat) (y3 : Int32) (ys : gs_H), lp (b_X6_prepare_2 42 x2) n (y3, ys) = some q → gs_V E 5 (2, 43) p l e s m args below meth c ov σ0 g0 2 [(0, .ref (gs_a E 42)), (1, .ref (gs_a E 9)), (2, .int x2), (3, .int y3)] [] ys g := by
  intro n
  induction n with
  | zero => intro y3 ys h; cases h
  | succ n ih =>
    intro y3 ys h
    obtain ⟨r, h, hl, he⟩ := lp_step h
    have hc := fun (y3 : Int32) (ys : gs_H) (hr : r = Sum.inl (y3, ys)) => ih y3 ys (hl _ hr)
    have hk0 := fun (zs : gs_H) (hr : r = Sum.inr zs) => hx0 zs (he _ hr).symm
    unfold b_X6_prepare_2 at h
    try dsimp only at h
    refine x_iload_n C dX6_prepare_2 rfl 3 rfl ?_
    refine x_aload_n C dX6_prepare_3 rfl 1 rfl ?_
    refine x_geti C 9 rfl rfl inX3 1 (by decide) rfl kF_X6_42 rfl (v := (ys 9 1)) rfl dX6_prepare_4 ?_
    by_cases hc1 : (ys 9 1) ≤ y3
    · replace h := (if_pos hc1).symm.trans h
      refine x_icmp_geT C dX6_prepare_7 (tgt := 55) (by decide) hc1 ?_
      refine x_lv (lv' := [(0, .ref (gs_a E 42)), (1, .ref (gs_a E 9))]) [0, 1] rfl ?_
      obtain rfl := Option.some.inj h
      exact hk0 ys rfl
    · replace h := (if_neg hc1).symm.trans h
      refine x_icmp_geF C dX6_prepare_7 (tgt := 55) (by decide) hc1 ?_
      refine x_aload_n C dX6_prepare_10 rfl 1 rfl ?_
      refine x_getr C 9 rfl rfl inX3 6 (by decide) rfl kF_X6_45 rfl dX6_prepare_11 ?_
      refine x_iload_n C dX6_prepare_14 rfl 3 rfl ?_
      obtain ⟨hb2, h⟩ := ck_some h
      refine x_iald C 13 rfl hb2 (v := (ys 13 y3.toNatClampNeg)) rfl dX6_prepare_15 ?_
      refine x_aload_n C dX6_prepare_16 rfl 1 rfl ?_
      refine x_getr C 9 rfl rfl inX3 7 (by decide) rfl kF_X6_48 rfl dX6_prepare_17 ?_
      refine x_iload_n C dX6_prepare_20 rfl 3 rfl ?_
      obtain ⟨hb3, h⟩ := ck_some h
      refine x_iald C 14 rfl hb3 (v := (ys 14 y3.toNatClampNeg)) rfl dX6_prepare_21 ?_
      refine x_iload_n C dX6_prepare_22 rfl 2 rfl ?_
      refine x_callS C (m_X1_weight rfl) kM_X6_51 kT_X1_weight kN_X1 kC_X1_weight kD_X1_weight rfl ⟨Nat.le_of_ble_eq_true rfl, Nat.le_of_ble_eq_true rfl⟩ ⟨Nat.le_refl _, Nat.le_refl _⟩ (rest := []) rfl (Nat.le_of_ble_eq_true rfl) dX6_prepare_23 (st' := [.int (f_X1_weight (ys 13 y3.toNatClampNeg) (ys 14 y3.toNatClampNeg) x2)]) rfl ?_
      refine x_istore C dX6_prepare_26 (lv2 := [(0, .ref (gs_a E 42)), (1, .ref (gs_a E 9)), (2, .int x2), (3, .int y3), (4, .int (f_X1_weight (ys 13 y3.toNatClampNeg) (ys 14 y3.toNatClampNeg) x2))]) (by decide) rfl [1, 2, 3, 4, 0] rfl ?_
      refine x_aload_n C dX6_prepare_28 rfl 0 rfl ?_
      refine x_getr C 42 rfl rfl inX6 3 (by decide) rfl kF_X6_22 rfl dX6_prepare_29 ?_
      refine x_iload_n C dX6_prepare_32 rfl 3 rfl ?_
      refine x_aload_n C dX6_prepare_33 rfl 1 rfl ?_
      refine x_getr C 9 rfl rfl inX3 8 (by decide) rfl kF_X6_57 rfl dX6_prepare_34 ?_
      refine x_iload_n C dX6_prepare_37 rfl 3 rfl ?_
      obtain ⟨hb5, h⟩ := ck_some h
      refine x_zald C 15 rfl hb5 (v := (ys 15 y3.toNatClampNeg)) rfl dX6_prepare_38 ?_
      by_cases hc6 : (ys 15 y3.toNatClampNeg) = 0
      · replace h := (if_pos hc6).symm.trans h
        refine x_if_eqT C dX6_prepare_39 (tgt := 46) (by decide) hc6 ?_
        refine x_iload C dX6_prepare_46 4 rfl ?_
        refine x_lv (lv' := [(0, .ref (gs_a E 42)), (1, .ref (gs_a E 9)), (2, .int x2), (3, .int y3)]) [0, 1, 2, 3] rfl ?_
        exact wj_X6_prepare_48_42 C h hc hk0
      · replace h := (if_neg hc6).symm.trans h
        refine x_if_eqF C dX6_prepare_39 (tgt := 46) (by decide) hc6 ?_
        refine x_iconst C dX6_prepare_42 (v := 0) (by decide) ?_
        refine x_goto C dX6_prepare_43 (tgt := 48) (by decide) ?_
        refine x_lv (lv' := [(0, .ref (gs_a E 42)), (1, .ref (gs_a E 9)), (2, .int x2), (3, .int y3)]) [0, 1, 2, 3] rfl ?_
        exact wj_X6_prepare_48_42 C h hc hk0
set_option maxHeartbeats 4000000 in
set_option maxRecDepth 20000 in
theorem m_X6_prepare_42 {E : gs_E} {l : Launch} {x2 : Int32} {σ : gs_H} {g : Int64} {σ0 : gs_H} (h : f_X6_prepare 42 x2 σ = some σ0) : gs_M l E yX6_prepare cX6_prepare 5 (none) (2, 43) [.ref (gs_a E 42), .ref (gs_a E 9), .int x2] σ g (none) σ0 g := by
  refine x_enter (lv := [(0, .ref (gs_a E 42)), (1, .ref (gs_a E 9)), (2, .int x2)]) (by decide +kernel) (Nat.le_of_ble_eq_true rfl) rfl (fun p e s m args below meth c C hr => ?_)
  unfold f_X6_prepare at h
  refine x_iconst C dX6_prepare_0 (v := 0) (by decide) ?_
  refine x_istore_n C dX6_prepare_1 rfl (lv2 := [(0, .ref (gs_a E 42)), (1, .ref (gs_a E 9)), (2, .int x2), (3, .int (0 : Int32))]) (by decide) rfl [1, 2, 3, 0] rfl ?_
  obtain ⟨q1, hq1, h⟩ := Option.bind_eq_some_iff.mp h
  refine wl_X6_prepare_2_42 C (fun s1_0 hz => ?_) 1000 _ _ hq1
  subst q1
  try dsimp only at h
  refine x_aload_n C dX6_prepare_55 rfl 0 rfl ?_
  refine x_getr C 42 rfl rfl inX6 2 (by decide) rfl kF_X6_18 rfl dX6_prepare_56 ?_
  refine x_iconst C dX6_prepare_59 (v := 0) (by decide) ?_
  refine x_iconst C dX6_prepare_60 (v := 1) (by decide) ?_
  obtain ⟨hb2, h⟩ := ck_some h
  refine x_zast C 45 rfl hb2 (by decide) dX6_prepare_61 ?_
  refine x_iconst C dX6_prepare_62 (v := 0) (by decide) ?_
  refine x_istore_n C dX6_prepare_63 rfl (lv2 := [(0, .ref (gs_a E 42)), (1, .ref (gs_a E 9)), (3, .int (0 : Int32))]) (by decide) rfl [1, 2, 0] rfl ?_
  obtain ⟨q3, hq3, h⟩ := Option.bind_eq_some_iff.mp h
  refine wl_X6_prepare_64_42 C (fun s3_0 hz => ?_) 1000 _ _ hq3
  subst q3
  try dsimp only at h
  replace h := Option.some.inj h
  subst h
  exact x_retv C hr rfl dX6_prepare_128
set_option maxHeartbeats 4000000 in
set_option maxRecDepth 20000 in
theorem wj_X6_prepare_121_51 {E : gs_E} {l : Launch} {p : Program} {e : Env} {s : State} {m : MethodId} {args : Array Value} {below : List Frame} {meth : Method} {c : Code} (C : gs_X E RX6 cX6_prepare 5 p s m args meth c) {ov : Option Value} {σ0 : gs_H} {g0 : Int64} {x3 : Int32} {t1 : Int32} {t2 : Int32} {σ : gs_H} {g : Int64} {r : (Int32 × gs_H) ⊕ ((gs_H))} (h : j_X6_prepare_121 51 x3 t1 t2 σ = some r) (hc : ∀ (y3 : Int32) (ys : gs_H), r = Sum.inl (y3, ys) → gs_V E 5 (2, 43) p l e s m args below meth c ov σ0 g0 64 [(0, .ref (gs_a E 51)), (1, .ref (gs_a E 9)), (3, .int y3)] [] ys g) (hk0 : ∀ (zs : gs_H), r = Sum.inr zs → gs_V E 5 (2, 43) p l e s m args below meth c ov σ0 g0 128 [] [] zs g) : gs_V E 5 (2, 43) p l e s m args below meth c ov σ0 g0 121 [(0, .ref (gs_a E 51)), (1, .ref (gs_a E 9)), (3, .int x3)] [.int t2, .int t1, .ref (gs_a E 54)] σ g := by
  unfold j_X6_prepare_121 at h
  obtain ⟨hb1, h⟩ := ck_some h
  obtain ⟨hz1, h⟩ := ck_some h
  refine x_zast C 54 rfl hb1 hz1 dX6_prepare_121 ?_
  refine x_iinc C dX6_prepare_122 2 rfl (v := (x3 + (1 : Int32))) rfl (lv2 := [(0, .ref (gs_a E 51)), (1, .ref (gs_a E 9)), (3, .int (x3 + (1 : Int32)))]) (by decide) rfl [1, 2, 0] rfl ?_
  refine x_goto C dX6_prepare_125 (tgt := 64) (by decide) ?_
  obtain rfl := Option.some.inj h
  exact hc (x3 + (1 : Int32)) (up2 σ (51 + 3) t1.toNatClampNeg t2) rfl
set_option maxHeartbeats 4000000 in
set_option maxRecDepth 20000 in
theorem wj_X6_prepare_120_51 {E : gs_E} {l : Launch} {p : Program} {e : Env} {s : State} {m : MethodId} {args : Array Value} {below : List Frame} {meth : Method} {c : Code} (C : gs_X E RX6 cX6_prepare 5 p s m args meth c) {ov : Option Value} {σ0 : gs_H} {g0 : Int64} {x3 : Int32} {t1 : Int32} {σ : gs_H} {g : Int64} {r : (Int32 × gs_H) ⊕ ((gs_H))} (h : j_X6_prepare_120 51 x3 t1 σ = some r) (hc : ∀ (y3 : Int32) (ys : gs_H), r = Sum.inl (y3, ys) → gs_V E 5 (2, 43) p l e s m args below meth c ov σ0 g0 64 [(0, .ref (gs_a E 51)), (1, .ref (gs_a E 9)), (3, .int y3)] [] ys g) (hk0 : ∀ (zs : gs_H), r = Sum.inr zs → gs_V E 5 (2, 43) p l e s m args below meth c ov σ0 g0 128 [] [] zs g) : gs_V E 5 (2, 43) p l e s m args below meth c ov σ0 g0 120 [(0, .ref (gs_a E 51)), (1, .ref (gs_a E 9)), (3, .int x3)] [.int t1, .ref (gs_a E 54)] σ g := by
  unfold j_X6_prepare_120 at h
  refine x_iconst C dX6_prepare_120 (v := 0) (by decide) ?_
  exact wj_X6_prepare_121_51 C h hc hk0
set_option maxHeartbeats 4000000 in
set_option maxRecDepth 20000 in
theorem wl_X6_prepare_64_51 {E : gs_E} {l : Launch} {p : Program} {e : Env} {s : State} {m : MethodId} {args : Array Value} {below : List Frame} {meth : Method} {c : Code} (C : gs_X E RX6 cX6_prepare 5 p s m args meth c) {ov : Option Value} {σ0 : gs_H} {g0 : Int64} {g : Int64} {q : (gs_H)} (hx0 : ∀ (zs : gs_H), q = zs → gs_V E 5 (2, 43) p l e s m args below meth c ov σ0 g0 128 [] [] zs g) : ∀ (n : Nat) (y3 : Int32) (ys : gs_H), lp (b_X6_prepare_64 51) n (y3, ys) = some q → gs_V E 5 (2, 43) p l e s m args below meth c ov σ0 g0 64 [(0, .ref (gs_a E 51)), (1, .ref (gs_a E 9)), (3, .int y3)] [] ys g := by
  intro n
  induction n with
  | zero => intro y3 ys h; cases h
  | succ n ih =>
    intro y3 ys h
    obtain ⟨r, h, hl, he⟩ := lp_step h
    have hc := fun (y3 : Int32) (ys : gs_H) (hr : r = Sum.inl (y3, ys)) => ih y3 ys (hl _ hr)
    have hk0 := fun (zs : gs_H) (hr : r = Sum.inr zs) => hx0 zs (he _ hr).symm
    unfold b_X6_prepare_64 at h
    try dsimp only at h
    refine x_iload_n C dX6_prepare_64 rfl 2 rfl ?_
    refine x_iconst C dX6_prepare_65 (v := 2) (by decide) ?_
    refine x_aload_n C dX6_prepare_66 rfl 1 rfl ?_
    refine x_geti C 9 rfl rfl inX3 0 (by decide) rfl kF_X6_60 rfl (v := (ys 9 0)) rfl dX6_prepare_67 ?_
    refine x_imul C dX6_prepare_70 ?_
    by_cases hc1 : ((2 : Int32) * (ys 9 0)) ≤ y3
    · replace h := (if_pos hc1).symm.trans h
      refine x_icmp_geT C dX6_prepare_71 (tgt := 128) (by decide) hc1 ?_
      refine x_lv (lv' := []) [] rfl ?_
      obtain rfl := Option.some.inj h
      exact hk0 ys rfl
    · replace h := (if_neg hc1).symm.trans h
      refine x_icmp_geF C dX6_prepare_71 (tgt := 128) (by decide) hc1 ?_
      refine x_aload_n C dX6_prepare_74 rfl 1 rfl ?_
      refine x_getr C 9 rfl rfl inX3 4 (by decide) rfl kF_X6_63 rfl dX6_prepare_75 ?_
      refine x_iload_n C dX6_prepare_78 rfl 2 rfl ?_
      obtain ⟨hb2, h⟩ := ck_some h
      refine x_iald C 11 rfl hb2 (v := (ys 11 y3.toNatClampNeg)) rfl dX6_prepare_79 ?_
      refine x_istore C dX6_prepare_80 (lv2 := [(0, .ref (gs_a E 51)), (1, .ref (gs_a E 9)), (3, .int y3), (4, .int (ys 11 y3.toNatClampNeg))]) (by decide) rfl [1, 2, 3, 0] rfl ?_
      refine x_iload C dX6_prepare_82 3 rfl ?_
      refine x_bipush C dX6_prepare_84 (v := 10) (by decide) ?_
      by_cases hc3 : (10 : Int32) ≤ (ys 11 y3.toNatClampNeg)
      · replace h := (if_pos hc3).symm.trans h
        refine x_icmp_geT C dX6_prepare_86 (tgt := 122) (by decide) hc3 ?_
        refine x_iinc C dX6_prepare_122 2 rfl (v := (y3 + (1 : Int32))) rfl (lv2 := [(0, .ref (gs_a E 51)), (1, .ref (gs_a E 9)), (3, .int (y3 + (1 : Int32))), (4, .int (ys 11 y3.toNatClampNeg))]) (by decide) rfl [1, 2, 0, 3] rfl ?_
        refine x_goto C dX6_prepare_125 (tgt := 64) (by decide) ?_
        refine x_lv (lv' := [(0, .ref (gs_a E 51)), (1, .ref (gs_a E 9)), (3, .int (y3 + (1 : Int32)))]) [0, 1, 2] rfl ?_
        obtain rfl := Option.some.inj h
        exact hc (y3 + (1 : Int32)) ys rfl
      · replace h := (if_neg hc3).symm.trans h
        refine x_icmp_geF C dX6_prepare_86 (tgt := 122) (by decide) hc3 ?_
        refine x_aload_n C dX6_prepare_89 rfl 0 rfl ?_
        refine x_getr C 51 rfl rfl inX6 2 (by decide) rfl kF_X6_18 rfl dX6_prepare_90 ?_
        refine x_iload C dX6_prepare_93 3 rfl ?_
        refine x_aload_n C dX6_prepare_95 rfl 0 rfl ?_
        refine x_getr C 51 rfl rfl inX6 2 (by decide) rfl kF_X6_18 rfl dX6_prepare_96 ?_
        refine x_iload_n C dX6_prepare_99 rfl 2 rfl ?_
        refine x_iconst C dX6_prepare_100 (v := 2) (by decide) ?_
        refine x_idiv C dX6_prepare_101 (by decide) ?_
        obtain ⟨hb4, h⟩ := ck_some h
        refine x_zald C 54 rfl hb4 (v := (ys (51 + 3) (y3 / (2 : Int32)).toNatClampNeg)) rfl dX6_prepare_102 ?_
        by_cases hc5 : (ys (51 + 3) (y3 / (2 : Int32)).toNatClampNeg) = 0
        · replace h := (if_pos hc5).symm.trans h
          refine x_if_eqT C dX6_prepare_103 (tgt := 120) (by decide) hc5 ?_
          refine x_lv (lv' := [(0, .ref (gs_a E 51)), (1, .ref (gs_a E 9)), (3, .int y3)]) [0, 1, 2] rfl ?_
          exact wj_X6_prepare_120_51 C h hc hk0
        · replace h := (if_neg hc5).symm.trans h
          refine x_if_eqF C dX6_prepare_103 (tgt := 120) (by decide) hc5 ?_
          refine x_aload_n C dX6_prepare_106 rfl 1 rfl ?_
          refine x_getr C 9 rfl rfl inX3 9 (by decide) rfl kF_X6_66 rfl dX6_prepare_107 ?_
          refine x_iload C dX6_prepare_110 3 rfl ?_
          obtain ⟨hb6, h⟩ := ck_some h
          refine x_zald C 16 rfl hb6 (v := (ys 16 (ys 11 y3.toNatClampNeg).toNatClampNeg)) rfl dX6_prepare_112 ?_
          by_cases hc7 : (ys 16 (ys 11 y3.toNatClampNeg).toNatClampNeg) = 0
          · replace h := (if_pos hc7).symm.trans h
            refine x_if_neF C dX6_prepare_113 (tgt := 120) (by decide) hc7 ?_
            refine x_iconst C dX6_prepare_116 (v := 1) (by decide) ?_
            refine x_goto C dX6_prepare_117 (tgt := 121) (by decide) ?_
            refine x_lv (lv' := [(0, .ref (gs_a E 51)), (1, .ref (gs_a E 9)), (3, .int y3)]) [0, 1, 2] rfl ?_
            exact wj_X6_prepare_121_51 C h hc hk0
          · replace h := (if_neg hc7).symm.trans h
            refine x_if_neT C dX6_prepare_113 (tgt := 120) (by decide) hc7 ?_
            refine x_lv (lv' := [(0, .ref (gs_a E 51)), (1, .ref (gs_a E 9)), (3, .int y3)]) [0, 1, 2] rfl ?_
            exact wj_X6_prepare_120_51 C h hc hk0
set_option maxHeartbeats 4000000 in
set_option maxRecDepth 20000 in
theorem wj_X6_prepare_48_51 {E : gs_E} {l : Launch} {p : Program} {e : Env} {s : State} {m : MethodId} {args : Array Value} {below : List Frame} {meth : Method} {c : Code} (C : gs_X E RX6 cX6_prepare 5 p s m args meth c) {ov : Option Value} {σ0 : gs_H} {g0 : Int64} {x2 : Int32} {x3 : Int32} {t1 : Int32} {t2 : Int32} {σ : gs_H} {g : Int64} {r : (Int32 × gs_H) ⊕ ((gs_H))} (h : j_X6_prepare_48 51 x2 x3 t1 t2 σ = some r) (hc : ∀ (y3 : Int32) (ys : gs_H), r = Sum.inl (y3, ys) → gs_V E 5 (2, 43) p l e s m args below meth c ov σ0 g0 2 [(0, .ref (gs_a E 51)), (1, .ref (gs_a E 9)), (2, .int x2), (3, .int y3)] [] ys g) (hk0 : ∀ (zs : gs_H), r = Sum.inr zs → gs_V E 5 (2, 43) p l e s m args below meth c ov σ0 g0 55 [(0, .ref (gs_a E 51)), (1, .ref (gs_a E 9))] [] zs g) : gs_V E 5 (2, 43) p l e s m args below meth c ov σ0 g0 48 [(0, .ref (gs_a E 51)), (1, .ref (gs_a E 9)), (2, .int x2), (3, .int x3)] [.int t2, .int t1, .ref (gs_a E 55)] σ g := by
  unfold j_X6_prepare_48 at h
  obtain ⟨hb1, h⟩ := ck_some h
  refine x_iast C 55 rfl hb1 dX6_prepare_48 ?_
  refine x_iinc C dX6_prepare_49 3 rfl (v := (x3 + (1 : Int32))) rfl (lv2 := [(0, .ref (gs_a E 51)), (1, .ref (gs_a E 9)), (2, .int x2), (3, .int (x3 + (1 : Int32)))]) (by decide) rfl [1, 2, 3, 0] rfl ?_
  refine x_goto C dX6_prepare_52 (tgt := 2) (by decide) ?_
  obtain rfl := Option.some.inj h
  exact hc (x3 + (1 : Int32)) (up2 σ (51 + 4) t1.toNatClampNeg t2) rfl
set_option maxHeartbeats 4000000 in
set_option maxRecDepth 20000 in
theorem wl_X6_prepare_2_51 {E : gs_E} {l : Launch} {p : Program} {e : Env} {s : State} {m : MethodId} {args : Array Value} {below : List Frame} {meth : Method} {c : Code} (C : gs_X E RX6 cX6_prepare 5 p s m args meth c) {ov : Option Value} {σ0 : gs_H} {g0 : Int64} {x2 : Int32} {g : Int64} {q : (gs_H)} (hx0 : ∀ (zs : gs_H), q = zs → gs_V E 5 (2, 43) p l e s m args below meth c ov σ0 g0 55 [(0, .ref (gs_a E 51)), (1, .ref (gs_a E 9))] [] zs g) : ∀ (n : Nat) (y3 : Int32) (ys : gs_H), lp (b_X6_prepare_2 51 x2) n (y3, ys) = some q → gs_V E 5 (2, 43) p l e s m args below meth c ov σ0 g0 2 [(0, .ref (gs_a E 51)), (1, .ref (gs_a E 9)), (2, .int x2), (3, .int y3)] [] ys g := by
  intro n
  induction n with
  | zero => intro y3 ys h; cases h
  | succ n ih =>
    intro y3 ys h
    obtain ⟨r, h, hl, he⟩ := lp_step h
    have hc := fun (y3 : Int32) (ys : gs_H) (hr : r = Sum.inl (y3, ys)) => ih y3 ys (hl _ hr)
    have hk0 := fun (zs : gs_H) (hr : r = Sum.inr zs) => hx0 zs (he _ hr).symm
    unfold b_X6_prepare_2 at h
    try dsimp only at h
    refine x_iload_n C dX6_prepare_2 rfl 3 rfl ?_
    refine x_aload_n C dX6_prepare_3 rfl 1 rfl ?_
    refine x_geti C 9 rfl rfl inX3 1 (by decide) rfl kF_X6_42 rfl (v := (ys 9 1)) rfl dX6_prepare_4 ?_
    by_cases hc1 : (ys 9 1) ≤ y3
    · replace h := (if_pos hc1).symm.trans h
      refine x_icmp_geT C dX6_prepare_7 (tgt := 55) (by decide) hc1 ?_
      refine x_lv (lv' := [(0, .ref (gs_a E 51)), (1, .ref (gs_a E 9))]) [0, 1] rfl ?_
      obtain rfl := Option.some.inj h
      exact hk0 ys rfl
    · replace h := (if_neg hc1).symm.trans h
      refine x_icmp_geF C dX6_prepare_7 (tgt := 55) (by decide) hc1 ?_
      refine x_aload_n C dX6_prepare_10 rfl 1 rfl ?_
      refine x_getr C 9 rfl rfl inX3 6 (by decide) rfl kF_X6_45 rfl dX6_prepare_11 ?_
      refine x_iload_n C dX6_prepare_14 rfl 3 rfl ?_
      obtain ⟨hb2, h⟩ := ck_some h
      refine x_iald C 13 rfl hb2 (v := (ys 13 y3.toNatClampNeg)) rfl dX6_prepare_15 ?_
      refine x_aload_n C dX6_prepare_16 rfl 1 rfl ?_
      refine x_getr C 9 rfl rfl inX3 7 (by decide) rfl kF_X6_48 rfl dX6_prepare_17 ?_
      refine x_iload_n C dX6_prepare_20 rfl 3 rfl ?_
      obtain ⟨hb3, h⟩ := ck_some h
      refine x_iald C 14 rfl hb3 (v := (ys 14 y3.toNatClampNeg)) rfl dX6_prepare_21 ?_
      refine x_iload_n C dX6_prepare_22 rfl 2 rfl ?_
      refine x_callS C (m_X1_weight rfl) kM_X6_51 kT_X1_weight kN_X1 kC_X1_weight kD_X1_weight rfl ⟨Nat.le_of_ble_eq_true rfl, Nat.le_of_ble_eq_true rfl⟩ ⟨Nat.le_refl _, Nat.le_refl _⟩ (rest := []) rfl (Nat.le_of_ble_eq_true rfl) dX6_prepare_23 (st' := [.int (f_X1_weight (ys 13 y3.toNatClampNeg) (ys 14 y3.toNatClampNeg) x2)]) rfl ?_
      refine x_istore C dX6_prepare_26 (lv2 := [(0, .ref (gs_a E 51)), (1, .ref (gs_a E 9)), (2, .int x2), (3, .int y3), (4, .int (f_X1_weight (ys 13 y3.toNatClampNeg) (ys 14 y3.toNatClampNeg) x2))]) (by decide) rfl [1, 2, 3, 4, 0] rfl ?_
      refine x_aload_n C dX6_prepare_28 rfl 0 rfl ?_
      refine x_getr C 51 rfl rfl inX6 3 (by decide) rfl kF_X6_22 rfl dX6_prepare_29 ?_
      refine x_iload_n C dX6_prepare_32 rfl 3 rfl ?_
      refine x_aload_n C dX6_prepare_33 rfl 1 rfl ?_
      refine x_getr C 9 rfl rfl inX3 8 (by decide) rfl kF_X6_57 rfl dX6_prepare_34 ?_
      refine x_iload_n C dX6_prepare_37 rfl 3 rfl ?_
      obtain ⟨hb5, h⟩ := ck_some h
      refine x_zald C 15 rfl hb5 (v := (ys 15 y3.toNatClampNeg)) rfl dX6_prepare_38 ?_
      by_cases hc6 : (ys 15 y3.toNatClampNeg) = 0
      · replace h := (if_pos hc6).symm.trans h
        refine x_if_eqT C dX6_prepare_39 (tgt := 46) (by decide) hc6 ?_
        refine x_iload C dX6_prepare_46 4 rfl ?_
        refine x_lv (lv' := [(0, .ref (gs_a E 51)), (1, .ref (gs_a E 9)), (2, .int x2), (3, .int y3)]) [0, 1, 2, 3] rfl ?_
        exact wj_X6_prepare_48_51 C h hc hk0
      · replace h := (if_neg hc6).symm.trans h
        refine x_if_eqF C dX6_prepare_39 (tgt := 46) (by decide) hc6 ?_
        refine x_iconst C dX6_prepare_42 (v := 0) (by decide) ?_
        refine x_goto C dX6_prepare_43 (tgt := 48) (by decide) ?_
        refine x_lv (lv' := [(0, .ref (gs_a E 51)), (1, .ref (gs_a E 9)), (2, .int x2), (3, .int y3)]) [0, 1, 2, 3] rfl ?_
        exact wj_X6_prepare_48_51 C h hc hk0
set_option maxHeartbeats 4000000 in
set_option maxRecDepth 20000 in
theorem m_X6_prepare_51 {E : gs_E} {l : Launch} {x2 : Int32} {σ : gs_H} {g : Int64} {σ0 : gs_H} (h : f_X6_prepare 51 x2 σ = some σ0) : gs_M l E yX6_prepare cX6_prepare 5 (none) (2, 43) [.ref (gs_a E 51), .ref (gs_a E 9), .int x2] σ g (none) σ0 g := by
  refine x_enter (lv := [(0, .ref (gs_a E 51)), (1, .ref (gs_a E 9)), (2, .int x2)]) (by decide +kernel) (Nat.le_of_ble_eq_true rfl) rfl (fun p e s m args below meth c C hr => ?_)
  unfold f_X6_prepare at h
  refine x_iconst C dX6_prepare_0 (v := 0) (by decide) ?_
  refine x_istore_n C dX6_prepare_1 rfl (lv2 := [(0, .ref (gs_a E 51)), (1, .ref (gs_a E 9)), (2, .int x2), (3, .int (0 : Int32))]) (by decide) rfl [1, 2, 3, 0] rfl ?_
  obtain ⟨q1, hq1, h⟩ := Option.bind_eq_some_iff.mp h
  refine wl_X6_prepare_2_51 C (fun s1_0 hz => ?_) 1000 _ _ hq1
  subst q1
  try dsimp only at h
  refine x_aload_n C dX6_prepare_55 rfl 0 rfl ?_
  refine x_getr C 51 rfl rfl inX6 2 (by decide) rfl kF_X6_18 rfl dX6_prepare_56 ?_
  refine x_iconst C dX6_prepare_59 (v := 0) (by decide) ?_
  refine x_iconst C dX6_prepare_60 (v := 1) (by decide) ?_
  obtain ⟨hb2, h⟩ := ck_some h
  refine x_zast C 54 rfl hb2 (by decide) dX6_prepare_61 ?_
  refine x_iconst C dX6_prepare_62 (v := 0) (by decide) ?_
  refine x_istore_n C dX6_prepare_63 rfl (lv2 := [(0, .ref (gs_a E 51)), (1, .ref (gs_a E 9)), (3, .int (0 : Int32))]) (by decide) rfl [1, 2, 0] rfl ?_
  obtain ⟨q3, hq3, h⟩ := Option.bind_eq_some_iff.mp h
  refine wl_X6_prepare_64_51 C (fun s3_0 hz => ?_) 1000 _ _ hq3
  subst q3
  try dsimp only at h
  replace h := Option.some.inj h
  subst h
  exact x_retv C hr rfl dX6_prepare_128
def b_X6_hang_7 (ar : Nat) (cr : Nat) (y : Int32 × gs_H) : Option ((Int32 × gs_H) ⊕ ((gs_H))) :=
if y.1 < 0 then (
some (Sum.inr y.2))
else (
(f_X6_hangRod ar cr y.1 y.2).bind fun q3 =>
some (Sum.inl ((y.1 + (-1 : Int32)), q3)))
def f_X6_hang (ar : Nat) (cr : Nat) (σ : gs_H) : Option (gs_H) :=
(lp (b_X6_hang_7 ar cr) 1000 (((σ 9 0) - (1 : Int32)), σ)).bind fun q1 =>
some q1
set_option maxHeartbeats 4000000 in
set_option maxRecDepth 20000 in
theorem wl_X6_hang_7_35_12 {E : gs_E} {l : Launch} {p : Program} {e : Env} {s : State} {m : MethodId} {args : Array Value} {below : List Frame} {meth : Method} {c : Code} (C : gs_X E RX6 cX6_hang 4 p s m args meth c) {ov : Option Value} {σ0 : gs_H} {g0 : Int64} {g : Int64} {q : (gs_H)} (hx0 : ∀ (zs : gs_H), q = zs → gs_V E 4 (2, 49) p l e s m args below meth c ov σ0 g0 24 [] [] zs g) : ∀ (n : Nat) (y3 : Int32) (ys : gs_H), lp (b_X6_hang_7 35 12) n (y3, ys) = some q → gs_V E 4 (2, 49) p l e s m args below meth c ov σ0 g0 7 [(0, .ref (gs_a E 35)), (1, .ref (gs_a E 9)), (2, .ref (gs_a E 12)), (3, .int y3)] [] ys g := by
  intro n
  induction n with
  | zero => intro y3 ys h; cases h
  | succ n ih =>
    intro y3 ys h
    obtain ⟨r, h, hl, he⟩ := lp_step h
    have hc := fun (y3 : Int32) (ys : gs_H) (hr : r = Sum.inl (y3, ys)) => ih y3 ys (hl _ hr)
    have hk0 := fun (zs : gs_H) (hr : r = Sum.inr zs) => hx0 zs (he _ hr).symm
    unfold b_X6_hang_7 at h
    try dsimp only at h
    refine x_iload_n C dX6_hang_7 rfl 3 rfl ?_
    by_cases hc1 : y3 < 0
    · replace h := (if_pos hc1).symm.trans h
      refine x_if_ltT C dX6_hang_8 (tgt := 24) (by decide) hc1 ?_
      refine x_lv (lv' := []) [] rfl ?_
      obtain rfl := Option.some.inj h
      exact hk0 ys rfl
    · replace h := (if_neg hc1).symm.trans h
      refine x_if_ltF C dX6_hang_8 (tgt := 24) (by decide) hc1 ?_
      refine x_aload_n C dX6_hang_11 rfl 0 rfl ?_
      refine x_aload_n C dX6_hang_12 rfl 1 rfl ?_
      refine x_aload_n C dX6_hang_13 rfl 2 rfl ?_
      refine x_iload_n C dX6_hang_14 rfl 3 rfl ?_
      obtain ⟨s2, hv2, h⟩ := Option.bind_eq_some_iff.mp h
      refine x_callV C 35 (m_X6_hangRod_35_12 hv2) rfl rfl kM_X6_69 kI_X6_hangRod kS_X6_hangRod kN_X6 kC_X6_hangRod kD_X6_hangRod rfl ⟨Nat.le_of_ble_eq_true rfl, Nat.le_of_ble_eq_true rfl⟩ ⟨Nat.le_refl _, Nat.le_refl _⟩ (rest := []) rfl (Nat.le_of_ble_eq_true rfl) dX6_hang_15 (st' := []) rfl ?_
      refine x_iinc C dX6_hang_18 3 rfl (v := (y3 + (-1 : Int32))) rfl (lv2 := [(0, .ref (gs_a E 35)), (1, .ref (gs_a E 9)), (2, .ref (gs_a E 12)), (3, .int (y3 + (-1 : Int32)))]) (by decide) rfl [1, 2, 3, 0] rfl ?_
      refine x_goto C dX6_hang_21 (tgt := 7) (by decide) ?_
      obtain rfl := Option.some.inj h
      exact hc (y3 + (-1 : Int32)) s2 rfl
set_option maxHeartbeats 4000000 in
set_option maxRecDepth 20000 in
theorem m_X6_hang_35_12 {E : gs_E} {l : Launch} {σ : gs_H} {g : Int64} {σ0 : gs_H} (h : f_X6_hang 35 12 σ = some σ0) : gs_M l E yX6_hang cX6_hang 4 (none) (2, 49) [.ref (gs_a E 35), .ref (gs_a E 9), .ref (gs_a E 12)] σ g (none) σ0 g := by
  refine x_enter (lv := [(0, .ref (gs_a E 35)), (1, .ref (gs_a E 9)), (2, .ref (gs_a E 12))]) (by decide +kernel) (Nat.le_of_ble_eq_true rfl) rfl (fun p e s m args below meth c C hr => ?_)
  unfold f_X6_hang at h
  refine x_aload_n C dX6_hang_0 rfl 1 rfl ?_
  refine x_geti C 9 rfl rfl inX3 0 (by decide) rfl kF_X6_60 rfl (v := (σ 9 0)) rfl dX6_hang_1 ?_
  refine x_iconst C dX6_hang_4 (v := 1) (by decide) ?_
  refine x_isub C dX6_hang_5 ?_
  refine x_istore_n C dX6_hang_6 rfl (lv2 := [(0, .ref (gs_a E 35)), (1, .ref (gs_a E 9)), (2, .ref (gs_a E 12)), (3, .int ((σ 9 0) - (1 : Int32)))]) (by decide) rfl [1, 2, 3, 0] rfl ?_
  obtain ⟨q1, hq1, h⟩ := Option.bind_eq_some_iff.mp h
  refine wl_X6_hang_7_35_12 C (fun s1_0 hz => ?_) 1000 _ _ hq1
  subst q1
  try dsimp only at h
  replace h := Option.some.inj h
  subst h
  exact x_retv C hr rfl dX6_hang_24
set_option maxHeartbeats 4000000 in
set_option maxRecDepth 20000 in
theorem wl_X6_hang_7_42_47 {E : gs_E} {l : Launch} {p : Program} {e : Env} {s : State} {m : MethodId} {args : Array Value} {below : List Frame} {meth : Method} {c : Code} (C : gs_X E RX6 cX6_hang 4 p s m args meth c) {ov : Option Value} {σ0 : gs_H} {g0 : Int64} {g : Int64} {q : (gs_H)} (hx0 : ∀ (zs : gs_H), q = zs → gs_V E 4 (2, 49) p l e s m args below meth c ov σ0 g0 24 [] [] zs g) : ∀ (n : Nat) (y3 : Int32) (ys : gs_H), lp (b_X6_hang_7 42 47) n (y3, ys) = some q → gs_V E 4 (2, 49) p l e s m args below meth c ov σ0 g0 7 [(0, .ref (gs_a E 42)), (1, .ref (gs_a E 9)), (2, .ref (gs_a E 47)), (3, .int y3)] [] ys g := by
  intro n
  induction n with
  | zero => intro y3 ys h; cases h
  | succ n ih =>
    intro y3 ys h
    obtain ⟨r, h, hl, he⟩ := lp_step h
    have hc := fun (y3 : Int32) (ys : gs_H) (hr : r = Sum.inl (y3, ys)) => ih y3 ys (hl _ hr)
    have hk0 := fun (zs : gs_H) (hr : r = Sum.inr zs) => hx0 zs (he _ hr).symm
    unfold b_X6_hang_7 at h
    try dsimp only at h
    refine x_iload_n C dX6_hang_7 rfl 3 rfl ?_
    by_cases hc1 : y3 < 0
    · replace h := (if_pos hc1).symm.trans h
      refine x_if_ltT C dX6_hang_8 (tgt := 24) (by decide) hc1 ?_
      refine x_lv (lv' := []) [] rfl ?_
      obtain rfl := Option.some.inj h
      exact hk0 ys rfl
    · replace h := (if_neg hc1).symm.trans h
      refine x_if_ltF C dX6_hang_8 (tgt := 24) (by decide) hc1 ?_
      refine x_aload_n C dX6_hang_11 rfl 0 rfl ?_
      refine x_aload_n C dX6_hang_12 rfl 1 rfl ?_
      refine x_aload_n C dX6_hang_13 rfl 2 rfl ?_
      refine x_iload_n C dX6_hang_14 rfl 3 rfl ?_
      obtain ⟨s2, hv2, h⟩ := Option.bind_eq_some_iff.mp h
      refine x_callV C 42 (m_X6_hangRod_42_47 hv2) rfl rfl kM_X6_69 kI_X6_hangRod kS_X6_hangRod kN_X6 kC_X6_hangRod kD_X6_hangRod rfl ⟨Nat.le_of_ble_eq_true rfl, Nat.le_of_ble_eq_true rfl⟩ ⟨Nat.le_refl _, Nat.le_refl _⟩ (rest := []) rfl (Nat.le_of_ble_eq_true rfl) dX6_hang_15 (st' := []) rfl ?_
      refine x_iinc C dX6_hang_18 3 rfl (v := (y3 + (-1 : Int32))) rfl (lv2 := [(0, .ref (gs_a E 42)), (1, .ref (gs_a E 9)), (2, .ref (gs_a E 47)), (3, .int (y3 + (-1 : Int32)))]) (by decide) rfl [1, 2, 3, 0] rfl ?_
      refine x_goto C dX6_hang_21 (tgt := 7) (by decide) ?_
      obtain rfl := Option.some.inj h
      exact hc (y3 + (-1 : Int32)) s2 rfl
set_option maxHeartbeats 4000000 in
set_option maxRecDepth 20000 in
theorem m_X6_hang_42_47 {E : gs_E} {l : Launch} {σ : gs_H} {g : Int64} {σ0 : gs_H} (h : f_X6_hang 42 47 σ = some σ0) : gs_M l E yX6_hang cX6_hang 4 (none) (2, 49) [.ref (gs_a E 42), .ref (gs_a E 9), .ref (gs_a E 47)] σ g (none) σ0 g := by
  refine x_enter (lv := [(0, .ref (gs_a E 42)), (1, .ref (gs_a E 9)), (2, .ref (gs_a E 47))]) (by decide +kernel) (Nat.le_of_ble_eq_true rfl) rfl (fun p e s m args below meth c C hr => ?_)
  unfold f_X6_hang at h
  refine x_aload_n C dX6_hang_0 rfl 1 rfl ?_
  refine x_geti C 9 rfl rfl inX3 0 (by decide) rfl kF_X6_60 rfl (v := (σ 9 0)) rfl dX6_hang_1 ?_
  refine x_iconst C dX6_hang_4 (v := 1) (by decide) ?_
  refine x_isub C dX6_hang_5 ?_
  refine x_istore_n C dX6_hang_6 rfl (lv2 := [(0, .ref (gs_a E 42)), (1, .ref (gs_a E 9)), (2, .ref (gs_a E 47)), (3, .int ((σ 9 0) - (1 : Int32)))]) (by decide) rfl [1, 2, 3, 0] rfl ?_
  obtain ⟨q1, hq1, h⟩ := Option.bind_eq_some_iff.mp h
  refine wl_X6_hang_7_42_47 C (fun s1_0 hz => ?_) 1000 _ _ hq1
  subst q1
  try dsimp only at h
  replace h := Option.some.inj h
  subst h
  exact x_retv C hr rfl dX6_hang_24
set_option maxHeartbeats 4000000 in
set_option maxRecDepth 20000 in
theorem wl_X6_hang_7_51_56 {E : gs_E} {l : Launch} {p : Program} {e : Env} {s : State} {m : MethodId} {args : Array Value} {below : List Frame} {meth : Method} {c : Code} (C : gs_X E RX6 cX6_hang 4 p s m args meth c) {ov : Option Value} {σ0 : gs_H} {g0 : Int64} {g : Int64} {q : (gs_H)} (hx0 : ∀ (zs : gs_H), q = zs → gs_V E 4 (2, 49) p l e s m args below meth c ov σ0 g0 24 [] [] zs g) : ∀ (n : Nat) (y3 : Int32) (ys : gs_H), lp (b_X6_hang_7 51 56) n (y3, ys) = some q → gs_V E 4 (2, 49) p l e s m args below meth c ov σ0 g0 7 [(0, .ref (gs_a E 51)), (1, .ref (gs_a E 9)), (2, .ref (gs_a E 56)), (3, .int y3)] [] ys g := by
  intro n
  induction n with
  | zero => intro y3 ys h; cases h
  | succ n ih =>
    intro y3 ys h
    obtain ⟨r, h, hl, he⟩ := lp_step h
    have hc := fun (y3 : Int32) (ys : gs_H) (hr : r = Sum.inl (y3, ys)) => ih y3 ys (hl _ hr)
    have hk0 := fun (zs : gs_H) (hr : r = Sum.inr zs) => hx0 zs (he _ hr).symm
    unfold b_X6_hang_7 at h
    try dsimp only at h
    refine x_iload_n C dX6_hang_7 rfl 3 rfl ?_
    by_cases hc1 : y3 < 0
    · replace h := (if_pos hc1).symm.trans h
      refine x_if_ltT C dX6_hang_8 (tgt := 24) (by decide) hc1 ?_
      refine x_lv (lv' := []) [] rfl ?_
      obtain rfl := Option.some.inj h
      exact hk0 ys rfl
    · replace h := (if_neg hc1).symm.trans h
      refine x_if_ltF C dX6_hang_8 (tgt := 24) (by decide) hc1 ?_
      refine x_aload_n C dX6_hang_11 rfl 0 rfl ?_
      refine x_aload_n C dX6_hang_12 rfl 1 rfl ?_
      refine x_aload_n C dX6_hang_13 rfl 2 rfl ?_
      refine x_iload_n C dX6_hang_14 rfl 3 rfl ?_
      obtain ⟨s2, hv2, h⟩ := Option.bind_eq_some_iff.mp h
      refine x_callV C 51 (m_X6_hangRod_51_56 hv2) rfl rfl kM_X6_69 kI_X6_hangRod kS_X6_hangRod kN_X6 kC_X6_hangRod kD_X6_hangRod rfl ⟨Nat.le_of_ble_eq_true rfl, Nat.le_of_ble_eq_true rfl⟩ ⟨Nat.le_refl _, Nat.le_refl _⟩ (rest := []) rfl (Nat.le_of_ble_eq_true rfl) dX6_hang_15 (st' := []) rfl ?_
      refine x_iinc C dX6_hang_18 3 rfl (v := (y3 + (-1 : Int32))) rfl (lv2 := [(0, .ref (gs_a E 51)), (1, .ref (gs_a E 9)), (2, .ref (gs_a E 56)), (3, .int (y3 + (-1 : Int32)))]) (by decide) rfl [1, 2, 3, 0] rfl ?_
      refine x_goto C dX6_hang_21 (tgt := 7) (by decide) ?_
      obtain rfl := Option.some.inj h
      exact hc (y3 + (-1 : Int32)) s2 rfl
set_option maxHeartbeats 4000000 in
set_option maxRecDepth 20000 in
theorem m_X6_hang_51_56 {E : gs_E} {l : Launch} {σ : gs_H} {g : Int64} {σ0 : gs_H} (h : f_X6_hang 51 56 σ = some σ0) : gs_M l E yX6_hang cX6_hang 4 (none) (2, 49) [.ref (gs_a E 51), .ref (gs_a E 9), .ref (gs_a E 56)] σ g (none) σ0 g := by
  refine x_enter (lv := [(0, .ref (gs_a E 51)), (1, .ref (gs_a E 9)), (2, .ref (gs_a E 56))]) (by decide +kernel) (Nat.le_of_ble_eq_true rfl) rfl (fun p e s m args below meth c C hr => ?_)
  unfold f_X6_hang at h
  refine x_aload_n C dX6_hang_0 rfl 1 rfl ?_
  refine x_geti C 9 rfl rfl inX3 0 (by decide) rfl kF_X6_60 rfl (v := (σ 9 0)) rfl dX6_hang_1 ?_
  refine x_iconst C dX6_hang_4 (v := 1) (by decide) ?_
  refine x_isub C dX6_hang_5 ?_
  refine x_istore_n C dX6_hang_6 rfl (lv2 := [(0, .ref (gs_a E 51)), (1, .ref (gs_a E 9)), (2, .ref (gs_a E 56)), (3, .int ((σ 9 0) - (1 : Int32)))]) (by decide) rfl [1, 2, 3, 0] rfl ?_
  obtain ⟨q1, hq1, h⟩ := Option.bind_eq_some_iff.mp h
  refine wl_X6_hang_7_51_56 C (fun s1_0 hz => ?_) 1000 _ _ hq1
  subst q1
  try dsimp only at h
  replace h := Option.some.inj h
  subst h
  exact x_retv C hr rfl dX6_hang_24
set_option maxHeartbeats 4000000 in
set_option maxRecDepth 20000 in
theorem wl_X6_hang_7_42_12 {E : gs_E} {l : Launch} {p : Program} {e : Env} {s : State} {m : MethodId} {args : Array Value} {below : List Frame} {meth : Method} {c : Code} (C : gs_X E RX6 cX6_hang 4 p s m args meth c) {ov : Option Value} {σ0 : gs_H} {g0 : Int64} {g : Int64} {q : (gs_H)} (hx0 : ∀ (zs : gs_H), q = zs → gs_V E 4 (2, 49) p l e s m args below meth c ov σ0 g0 24 [] [] zs g) : ∀ (n : Nat) (y3 : Int32) (ys : gs_H), lp (b_X6_hang_7 42 12) n (y3, ys) = some q → gs_V E 4 (2, 49) p l e s m args below meth c ov σ0 g0 7 [(0, .ref (gs_a E 42)), (1, .ref (gs_a E 9)), (2, .ref (gs_a E 12)), (3, .int y3)] [] ys g := by
  intro n
  induction n with
  | zero => intro y3 ys h; cases h
  | succ n ih =>
    intro y3 ys h
    obtain ⟨r, h, hl, he⟩ := lp_step h
    have hc := fun (y3 : Int32) (ys : gs_H) (hr : r = Sum.inl (y3, ys)) => ih y3 ys (hl _ hr)
    have hk0 := fun (zs : gs_H) (hr : r = Sum.inr zs) => hx0 zs (he _ hr).symm
    unfold b_X6_hang_7 at h
    try dsimp only at h
    refine x_iload_n C dX6_hang_7 rfl 3 rfl ?_
    by_cases hc1 : y3 < 0
    · replace h := (if_pos hc1).symm.trans h
      refine x_if_ltT C dX6_hang_8 (tgt := 24) (by decide) hc1 ?_
      refine x_lv (lv' := []) [] rfl ?_
      obtain rfl := Option.some.inj h
      exact hk0 ys rfl
    · replace h := (if_neg hc1).symm.trans h
      refine x_if_ltF C dX6_hang_8 (tgt := 24) (by decide) hc1 ?_
      refine x_aload_n C dX6_hang_11 rfl 0 rfl ?_
      refine x_aload_n C dX6_hang_12 rfl 1 rfl ?_
      refine x_aload_n C dX6_hang_13 rfl 2 rfl ?_
      refine x_iload_n C dX6_hang_14 rfl 3 rfl ?_
      obtain ⟨s2, hv2, h⟩ := Option.bind_eq_some_iff.mp h
      refine x_callV C 42 (m_X6_hangRod_42_12 hv2) rfl rfl kM_X6_69 kI_X6_hangRod kS_X6_hangRod kN_X6 kC_X6_hangRod kD_X6_hangRod rfl ⟨Nat.le_of_ble_eq_true rfl, Nat.le_of_ble_eq_true rfl⟩ ⟨Nat.le_refl _, Nat.le_refl _⟩ (rest := []) rfl (Nat.le_of_ble_eq_true rfl) dX6_hang_15 (st' := []) rfl ?_
      refine x_iinc C dX6_hang_18 3 rfl (v := (y3 + (-1 : Int32))) rfl (lv2 := [(0, .ref (gs_a E 42)), (1, .ref (gs_a E 9)), (2, .ref (gs_a E 12)), (3, .int (y3 + (-1 : Int32)))]) (by decide) rfl [1, 2, 3, 0] rfl ?_
      refine x_goto C dX6_hang_21 (tgt := 7) (by decide) ?_
      obtain rfl := Option.some.inj h
      exact hc (y3 + (-1 : Int32)) s2 rfl
set_option maxHeartbeats 4000000 in
set_option maxRecDepth 20000 in
theorem m_X6_hang_42_12 {E : gs_E} {l : Launch} {σ : gs_H} {g : Int64} {σ0 : gs_H} (h : f_X6_hang 42 12 σ = some σ0) : gs_M l E yX6_hang cX6_hang 4 (none) (2, 49) [.ref (gs_a E 42), .ref (gs_a E 9), .ref (gs_a E 12)] σ g (none) σ0 g := by
  refine x_enter (lv := [(0, .ref (gs_a E 42)), (1, .ref (gs_a E 9)), (2, .ref (gs_a E 12))]) (by decide +kernel) (Nat.le_of_ble_eq_true rfl) rfl (fun p e s m args below meth c C hr => ?_)
  unfold f_X6_hang at h
  refine x_aload_n C dX6_hang_0 rfl 1 rfl ?_
  refine x_geti C 9 rfl rfl inX3 0 (by decide) rfl kF_X6_60 rfl (v := (σ 9 0)) rfl dX6_hang_1 ?_
  refine x_iconst C dX6_hang_4 (v := 1) (by decide) ?_
  refine x_isub C dX6_hang_5 ?_
  refine x_istore_n C dX6_hang_6 rfl (lv2 := [(0, .ref (gs_a E 42)), (1, .ref (gs_a E 9)), (2, .ref (gs_a E 12)), (3, .int ((σ 9 0) - (1 : Int32)))]) (by decide) rfl [1, 2, 3, 0] rfl ?_
  obtain ⟨q1, hq1, h⟩ := Option.bind_eq_some_iff.mp h
  refine wl_X6_hang_7_42_12 C (fun s1_0 hz => ?_) 1000 _ _ hq1
  subst q1
  try dsimp only at h
  replace h := Option.some.inj h
  subst h
  exact x_retv C hr rfl dX6_hang_24
def b_X6_rodsLevel_4 (ar : Nat) (σ : gs_H) (y : Int32 × Int32) : Option ((Int32 × Int32) ⊕ ((Int32))) :=
if (σ 9 0) ≤ y.2 then (
some (Sum.inr y.1))
else (
if inb y.2 5 then
if (σ (ar + 3) y.2.toNatClampNeg) = 0 then (
some (Sum.inl ((y.1 + (0 : Int32)), (y.2 + (1 : Int32)))))
else (
if inb y.2 5 then
if (σ (ar + 2) y.2.toNatClampNeg) = 0 then (
some (Sum.inl ((y.1 + (1 : Int32)), (y.2 + (1 : Int32)))))
else (
some (Sum.inl ((y.1 + (0 : Int32)), (y.2 + (1 : Int32))))) else none) else none)
def f_X6_rodsLevel (ar : Nat) (σ : gs_H) : Option (Int32) :=
(lp (b_X6_rodsLevel_4 ar σ) 1000 ((0 : Int32), (0 : Int32))).bind fun q1 =>
some q1
set_option maxHeartbeats 4000000 in
set_option maxRecDepth 20000 in
theorem wl_X6_rodsLevel_4_42 {E : gs_E} {l : Launch} {p : Program} {e : Env} {s : State} {m : MethodId} {args : Array Value} {below : List Frame} {meth : Method} {c : Code} (C : gs_X E RX6 cX6_rodsLevel 4 p s m args meth c) {ov : Option Value} {σ0 : gs_H} {g0 : Int64} {σ : gs_H} {g : Int64} {q : (Int32)} (hx0 : ∀ (z2 : Int32), q = z2 → gs_V E 4 (0, 0) p l e s m args below meth c ov σ0 g0 44 [(2, .int z2)] [] σ g) : ∀ (n : Nat) (y2 : Int32) (y3 : Int32), lp (b_X6_rodsLevel_4 42 σ) n (y2, y3) = some q → gs_V E 4 (0, 0) p l e s m args below meth c ov σ0 g0 4 [(0, .ref (gs_a E 42)), (1, .ref (gs_a E 9)), (2, .int y2), (3, .int y3)] [] σ g := by
  intro n
  induction n with
  | zero => intro y2 y3 h; cases h
  | succ n ih =>
    intro y2 y3 h
    obtain ⟨r, h, hl, he⟩ := lp_step h
    have hc := fun (y2 : Int32) (y3 : Int32) (hr : r = Sum.inl (y2, y3)) => ih y2 y3 (hl _ hr)
    have hk0 := fun (z2 : Int32) (hr : r = Sum.inr z2) => hx0 z2 (he _ hr).symm
    unfold b_X6_rodsLevel_4 at h
    try dsimp only at h
    refine x_iload_n C dX6_rodsLevel_4 rfl 3 rfl ?_
    refine x_aload_n C dX6_rodsLevel_5 rfl 1 rfl ?_
    refine x_geti C 9 rfl rfl inX3 0 (by decide) rfl kF_X6_60 rfl (v := (σ 9 0)) rfl dX6_rodsLevel_6 ?_
    by_cases hc1 : (σ 9 0) ≤ y3
    · replace h := (if_pos hc1).symm.trans h
      refine x_icmp_geT C dX6_rodsLevel_9 (tgt := 44) (by decide) hc1 ?_
      refine x_lv (lv' := [(2, .int y2)]) [2] rfl ?_
      obtain rfl := Option.some.inj h
      exact hk0 y2 rfl
    · replace h := (if_neg hc1).symm.trans h
      refine x_icmp_geF C dX6_rodsLevel_9 (tgt := 44) (by decide) hc1 ?_
      refine x_iload_n C dX6_rodsLevel_12 rfl 2 rfl ?_
      refine x_aload_n C dX6_rodsLevel_13 rfl 0 rfl ?_
      refine x_getr C 42 rfl rfl inX6 2 (by decide) rfl kF_X6_18 rfl dX6_rodsLevel_14 ?_
      refine x_iload_n C dX6_rodsLevel_17 rfl 3 rfl ?_
      obtain ⟨hb2, h⟩ := ck_some h
      refine x_zald C 45 rfl hb2 (v := (σ (42 + 3) y3.toNatClampNeg)) rfl dX6_rodsLevel_18 ?_
      by_cases hc3 : (σ (42 + 3) y3.toNatClampNeg) = 0
      · replace h := (if_pos hc3).symm.trans h
        refine x_if_eqT C dX6_rodsLevel_19 (tgt := 35) (by decide) hc3 ?_
        refine x_iconst C dX6_rodsLevel_35 (v := 0) (by decide) ?_
        refine x_iadd C dX6_rodsLevel_36 ?_
        refine x_istore_n C dX6_rodsLevel_37 rfl (lv2 := [(0, .ref (gs_a E 42)), (1, .ref (gs_a E 9)), (2, .int (y2 + (0 : Int32))), (3, .int y3)]) (by decide) rfl [1, 2, 0, 3] rfl ?_
        refine x_iinc C dX6_rodsLevel_38 3 rfl (v := (y3 + (1 : Int32))) rfl (lv2 := [(0, .ref (gs_a E 42)), (1, .ref (gs_a E 9)), (2, .int (y2 + (0 : Int32))), (3, .int (y3 + (1 : Int32)))]) (by decide) rfl [1, 2, 3, 0] rfl ?_
        refine x_goto C dX6_rodsLevel_41 (tgt := 4) (by decide) ?_
        obtain rfl := Option.some.inj h
        exact hc (y2 + (0 : Int32)) (y3 + (1 : Int32)) rfl
      · replace h := (if_neg hc3).symm.trans h
        refine x_if_eqF C dX6_rodsLevel_19 (tgt := 35) (by decide) hc3 ?_
        refine x_aload_n C dX6_rodsLevel_22 rfl 0 rfl ?_
        refine x_getr C 42 rfl rfl inX6 1 (by decide) rfl kF_X6_15 rfl dX6_rodsLevel_23 ?_
        refine x_iload_n C dX6_rodsLevel_26 rfl 3 rfl ?_
        obtain ⟨hb4, h⟩ := ck_some h
        refine x_iald C 44 rfl hb4 (v := (σ (42 + 2) y3.toNatClampNeg)) rfl dX6_rodsLevel_27 ?_
        by_cases hc5 : (σ (42 + 2) y3.toNatClampNeg) = 0
        · replace h := (if_pos hc5).symm.trans h
          refine x_if_neF C dX6_rodsLevel_28 (tgt := 35) (by decide) hc5 ?_
          refine x_iconst C dX6_rodsLevel_31 (v := 1) (by decide) ?_
          refine x_goto C dX6_rodsLevel_32 (tgt := 36) (by decide) ?_
          refine x_iadd C dX6_rodsLevel_36 ?_
          refine x_istore_n C dX6_rodsLevel_37 rfl (lv2 := [(0, .ref (gs_a E 42)), (1, .ref (gs_a E 9)), (2, .int (y2 + (1 : Int32))), (3, .int y3)]) (by decide) rfl [1, 2, 0, 3] rfl ?_
          refine x_iinc C dX6_rodsLevel_38 3 rfl (v := (y3 + (1 : Int32))) rfl (lv2 := [(0, .ref (gs_a E 42)), (1, .ref (gs_a E 9)), (2, .int (y2 + (1 : Int32))), (3, .int (y3 + (1 : Int32)))]) (by decide) rfl [1, 2, 3, 0] rfl ?_
          refine x_goto C dX6_rodsLevel_41 (tgt := 4) (by decide) ?_
          obtain rfl := Option.some.inj h
          exact hc (y2 + (1 : Int32)) (y3 + (1 : Int32)) rfl
        · replace h := (if_neg hc5).symm.trans h
          refine x_if_neT C dX6_rodsLevel_28 (tgt := 35) (by decide) hc5 ?_
          refine x_iconst C dX6_rodsLevel_35 (v := 0) (by decide) ?_
          refine x_iadd C dX6_rodsLevel_36 ?_
          refine x_istore_n C dX6_rodsLevel_37 rfl (lv2 := [(0, .ref (gs_a E 42)), (1, .ref (gs_a E 9)), (2, .int (y2 + (0 : Int32))), (3, .int y3)]) (by decide) rfl [1, 2, 0, 3] rfl ?_
          refine x_iinc C dX6_rodsLevel_38 3 rfl (v := (y3 + (1 : Int32))) rfl (lv2 := [(0, .ref (gs_a E 42)), (1, .ref (gs_a E 9)), (2, .int (y2 + (0 : Int32))), (3, .int (y3 + (1 : Int32)))]) (by decide) rfl [1, 2, 3, 0] rfl ?_
          refine x_goto C dX6_rodsLevel_41 (tgt := 4) (by decide) ?_
          obtain rfl := Option.some.inj h
          exact hc (y2 + (0 : Int32)) (y3 + (1 : Int32)) rfl
set_option maxHeartbeats 4000000 in
set_option maxRecDepth 20000 in
theorem m_X6_rodsLevel_42 {E : gs_E} {l : Launch} {σ : gs_H} {g : Int64} {r0 : Int32} (h : f_X6_rodsLevel 42 σ = some r0) : gs_M l E yX6_rodsLevel cX6_rodsLevel 4 (some .int) (0, 0) [.ref (gs_a E 42), .ref (gs_a E 9)] σ g (some (.int r0)) σ g := by
  refine x_enter (lv := [(0, .ref (gs_a E 42)), (1, .ref (gs_a E 9))]) (by decide +kernel) (Nat.le_of_ble_eq_true rfl) rfl (fun p e s m args below meth c C hr => ?_)
  unfold f_X6_rodsLevel at h
  refine x_iconst C dX6_rodsLevel_0 (v := 0) (by decide) ?_
  refine x_istore_n C dX6_rodsLevel_1 rfl (lv2 := [(0, .ref (gs_a E 42)), (1, .ref (gs_a E 9)), (2, .int (0 : Int32))]) (by decide) rfl [1, 2, 0] rfl ?_
  refine x_iconst C dX6_rodsLevel_2 (v := 0) (by decide) ?_
  refine x_istore_n C dX6_rodsLevel_3 rfl (lv2 := [(0, .ref (gs_a E 42)), (1, .ref (gs_a E 9)), (2, .int (0 : Int32)), (3, .int (0 : Int32))]) (by decide) rfl [1, 2, 3, 0] rfl ?_
  obtain ⟨q1, hq1, h⟩ := Option.bind_eq_some_iff.mp h
  refine wl_X6_rodsLevel_4_42 C (fun v1_0_2 hz => ?_) 1000 _ _ hq1
  subst q1
  try dsimp only at h
  refine x_iload_n C dX6_rodsLevel_44 rfl 0 rfl ?_
  replace h := Option.some.inj h
  subst h
  exact x_ret C hr rfl rfl dX6_rodsLevel_45
set_option maxHeartbeats 4000000 in
set_option maxRecDepth 20000 in
theorem wl_X6_rodsLevel_4_35 {E : gs_E} {l : Launch} {p : Program} {e : Env} {s : State} {m : MethodId} {args : Array Value} {below : List Frame} {meth : Method} {c : Code} (C : gs_X E RX6 cX6_rodsLevel 4 p s m args meth c) {ov : Option Value} {σ0 : gs_H} {g0 : Int64} {σ : gs_H} {g : Int64} {q : (Int32)} (hx0 : ∀ (z2 : Int32), q = z2 → gs_V E 4 (0, 0) p l e s m args below meth c ov σ0 g0 44 [(2, .int z2)] [] σ g) : ∀ (n : Nat) (y2 : Int32) (y3 : Int32), lp (b_X6_rodsLevel_4 35 σ) n (y2, y3) = some q → gs_V E 4 (0, 0) p l e s m args below meth c ov σ0 g0 4 [(0, .ref (gs_a E 35)), (1, .ref (gs_a E 9)), (2, .int y2), (3, .int y3)] [] σ g := by
  intro n
  induction n with
  | zero => intro y2 y3 h; cases h
  | succ n ih =>
    intro y2 y3 h
    obtain ⟨r, h, hl, he⟩ := lp_step h
    have hc := fun (y2 : Int32) (y3 : Int32) (hr : r = Sum.inl (y2, y3)) => ih y2 y3 (hl _ hr)
    have hk0 := fun (z2 : Int32) (hr : r = Sum.inr z2) => hx0 z2 (he _ hr).symm
    unfold b_X6_rodsLevel_4 at h
    try dsimp only at h
    refine x_iload_n C dX6_rodsLevel_4 rfl 3 rfl ?_
    refine x_aload_n C dX6_rodsLevel_5 rfl 1 rfl ?_
    refine x_geti C 9 rfl rfl inX3 0 (by decide) rfl kF_X6_60 rfl (v := (σ 9 0)) rfl dX6_rodsLevel_6 ?_
    by_cases hc1 : (σ 9 0) ≤ y3
    · replace h := (if_pos hc1).symm.trans h
      refine x_icmp_geT C dX6_rodsLevel_9 (tgt := 44) (by decide) hc1 ?_
      refine x_lv (lv' := [(2, .int y2)]) [2] rfl ?_
      obtain rfl := Option.some.inj h
      exact hk0 y2 rfl
    · replace h := (if_neg hc1).symm.trans h
      refine x_icmp_geF C dX6_rodsLevel_9 (tgt := 44) (by decide) hc1 ?_
      refine x_iload_n C dX6_rodsLevel_12 rfl 2 rfl ?_
      refine x_aload_n C dX6_rodsLevel_13 rfl 0 rfl ?_
      refine x_getr C 35 rfl rfl inX6 2 (by decide) rfl kF_X6_18 rfl dX6_rodsLevel_14 ?_
      refine x_iload_n C dX6_rodsLevel_17 rfl 3 rfl ?_
      obtain ⟨hb2, h⟩ := ck_some h
      refine x_zald C 38 rfl hb2 (v := (σ (35 + 3) y3.toNatClampNeg)) rfl dX6_rodsLevel_18 ?_
      by_cases hc3 : (σ (35 + 3) y3.toNatClampNeg) = 0
      · replace h := (if_pos hc3).symm.trans h
        refine x_if_eqT C dX6_rodsLevel_19 (tgt := 35) (by decide) hc3 ?_
        refine x_iconst C dX6_rodsLevel_35 (v := 0) (by decide) ?_
        refine x_iadd C dX6_rodsLevel_36 ?_
        refine x_istore_n C dX6_rodsLevel_37 rfl (lv2 := [(0, .ref (gs_a E 35)), (1, .ref (gs_a E 9)), (2, .int (y2 + (0 : Int32))), (3, .int y3)]) (by decide) rfl [1, 2, 0, 3] rfl ?_
        refine x_iinc C dX6_rodsLevel_38 3 rfl (v := (y3 + (1 : Int32))) rfl (lv2 := [(0, .ref (gs_a E 35)), (1, .ref (gs_a E 9)), (2, .int (y2 + (0 : Int32))), (3, .int (y3 + (1 : Int32)))]) (by decide) rfl [1, 2, 3, 0] rfl ?_
        refine x_goto C dX6_rodsLevel_41 (tgt := 4) (by decide) ?_
        obtain rfl := Option.some.inj h
        exact hc (y2 + (0 : Int32)) (y3 + (1 : Int32)) rfl
      · replace h := (if_neg hc3).symm.trans h
        refine x_if_eqF C dX6_rodsLevel_19 (tgt := 35) (by decide) hc3 ?_
        refine x_aload_n C dX6_rodsLevel_22 rfl 0 rfl ?_
        refine x_getr C 35 rfl rfl inX6 1 (by decide) rfl kF_X6_15 rfl dX6_rodsLevel_23 ?_
        refine x_iload_n C dX6_rodsLevel_26 rfl 3 rfl ?_
        obtain ⟨hb4, h⟩ := ck_some h
        refine x_iald C 37 rfl hb4 (v := (σ (35 + 2) y3.toNatClampNeg)) rfl dX6_rodsLevel_27 ?_
        by_cases hc5 : (σ (35 + 2) y3.toNatClampNeg) = 0
        · replace h := (if_pos hc5).symm.trans h
          refine x_if_neF C dX6_rodsLevel_28 (tgt := 35) (by decide) hc5 ?_
          refine x_iconst C dX6_rodsLevel_31 (v := 1) (by decide) ?_
          refine x_goto C dX6_rodsLevel_32 (tgt := 36) (by decide) ?_
          refine x_iadd C dX6_rodsLevel_36 ?_
          refine x_istore_n C dX6_rodsLevel_37 rfl (lv2 := [(0, .ref (gs_a E 35)), (1, .ref (gs_a E 9)), (2, .int (y2 + (1 : Int32))), (3, .int y3)]) (by decide) rfl [1, 2, 0, 3] rfl ?_
          refine x_iinc C dX6_rodsLevel_38 3 rfl (v := (y3 + (1 : Int32))) rfl (lv2 := [(0, .ref (gs_a E 35)), (1, .ref (gs_a E 9)), (2, .int (y2 + (1 : Int32))), (3, .int (y3 + (1 : Int32)))]) (by decide) rfl [1, 2, 3, 0] rfl ?_
          refine x_goto C dX6_rodsLevel_41 (tgt := 4) (by decide) ?_
          obtain rfl := Option.some.inj h
          exact hc (y2 + (1 : Int32)) (y3 + (1 : Int32)) rfl
        · replace h := (if_neg hc5).symm.trans h
          refine x_if_neT C dX6_rodsLevel_28 (tgt := 35) (by decide) hc5 ?_
          refine x_iconst C dX6_rodsLevel_35 (v := 0) (by decide) ?_
          refine x_iadd C dX6_rodsLevel_36 ?_
          refine x_istore_n C dX6_rodsLevel_37 rfl (lv2 := [(0, .ref (gs_a E 35)), (1, .ref (gs_a E 9)), (2, .int (y2 + (0 : Int32))), (3, .int y3)]) (by decide) rfl [1, 2, 0, 3] rfl ?_
          refine x_iinc C dX6_rodsLevel_38 3 rfl (v := (y3 + (1 : Int32))) rfl (lv2 := [(0, .ref (gs_a E 35)), (1, .ref (gs_a E 9)), (2, .int (y2 + (0 : Int32))), (3, .int (y3 + (1 : Int32)))]) (by decide) rfl [1, 2, 3, 0] rfl ?_
          refine x_goto C dX6_rodsLevel_41 (tgt := 4) (by decide) ?_
          obtain rfl := Option.some.inj h
          exact hc (y2 + (0 : Int32)) (y3 + (1 : Int32)) rfl
set_option maxHeartbeats 4000000 in
set_option maxRecDepth 20000 in
theorem m_X6_rodsLevel_35 {E : gs_E} {l : Launch} {σ : gs_H} {g : Int64} {r0 : Int32} (h : f_X6_rodsLevel 35 σ = some r0) : gs_M l E yX6_rodsLevel cX6_rodsLevel 4 (some .int) (0, 0) [.ref (gs_a E 35), .ref (gs_a E 9)] σ g (some (.int r0)) σ g := by
  refine x_enter (lv := [(0, .ref (gs_a E 35)), (1, .ref (gs_a E 9))]) (by decide +kernel) (Nat.le_of_ble_eq_true rfl) rfl (fun p e s m args below meth c C hr => ?_)
  unfold f_X6_rodsLevel at h
  refine x_iconst C dX6_rodsLevel_0 (v := 0) (by decide) ?_
  refine x_istore_n C dX6_rodsLevel_1 rfl (lv2 := [(0, .ref (gs_a E 35)), (1, .ref (gs_a E 9)), (2, .int (0 : Int32))]) (by decide) rfl [1, 2, 0] rfl ?_
  refine x_iconst C dX6_rodsLevel_2 (v := 0) (by decide) ?_
  refine x_istore_n C dX6_rodsLevel_3 rfl (lv2 := [(0, .ref (gs_a E 35)), (1, .ref (gs_a E 9)), (2, .int (0 : Int32)), (3, .int (0 : Int32))]) (by decide) rfl [1, 2, 3, 0] rfl ?_
  obtain ⟨q1, hq1, h⟩ := Option.bind_eq_some_iff.mp h
  refine wl_X6_rodsLevel_4_35 C (fun v1_0_2 hz => ?_) 1000 _ _ hq1
  subst q1
  try dsimp only at h
  refine x_iload_n C dX6_rodsLevel_44 rfl 0 rfl ?_
  replace h := Option.some.inj h
  subst h
  exact x_ret C hr rfl rfl dX6_rodsLevel_45
set_option maxHeartbeats 4000000 in
set_option maxRecDepth 20000 in
theorem wl_X6_rodsLevel_4_51 {E : gs_E} {l : Launch} {p : Program} {e : Env} {s : State} {m : MethodId} {args : Array Value} {below : List Frame} {meth : Method} {c : Code} (C : gs_X E RX6 cX6_rodsLevel 4 p s m args meth c) {ov : Option Value} {σ0 : gs_H} {g0 : Int64} {σ : gs_H} {g : Int64} {q : (Int32)} (hx0 : ∀ (z2 : Int32), q = z2 → gs_V E 4 (0, 0) p l e s m args below meth c ov σ0 g0 44 [(2, .int z2)] [] σ g) : ∀ (n : Nat) (y2 : Int32) (y3 : Int32), lp (b_X6_rodsLevel_4 51 σ) n (y2, y3) = some q → gs_V E 4 (0, 0) p l e s m args below meth c ov σ0 g0 4 [(0, .ref (gs_a E 51)), (1, .ref (gs_a E 9)), (2, .int y2), (3, .int y3)] [] σ g := by
  intro n
  induction n with
  | zero => intro y2 y3 h; cases h
  | succ n ih =>
    intro y2 y3 h
    obtain ⟨r, h, hl, he⟩ := lp_step h
    have hc := fun (y2 : Int32) (y3 : Int32) (hr : r = Sum.inl (y2, y3)) => ih y2 y3 (hl _ hr)
    have hk0 := fun (z2 : Int32) (hr : r = Sum.inr z2) => hx0 z2 (he _ hr).symm
    unfold b_X6_rodsLevel_4 at h
    try dsimp only at h
    refine x_iload_n C dX6_rodsLevel_4 rfl 3 rfl ?_
    refine x_aload_n C dX6_rodsLevel_5 rfl 1 rfl ?_
    refine x_geti C 9 rfl rfl inX3 0 (by decide) rfl kF_X6_60 rfl (v := (σ 9 0)) rfl dX6_rodsLevel_6 ?_
    by_cases hc1 : (σ 9 0) ≤ y3
    · replace h := (if_pos hc1).symm.trans h
      refine x_icmp_geT C dX6_rodsLevel_9 (tgt := 44) (by decide) hc1 ?_
      refine x_lv (lv' := [(2, .int y2)]) [2] rfl ?_
      obtain rfl := Option.some.inj h
      exact hk0 y2 rfl
    · replace h := (if_neg hc1).symm.trans h
      refine x_icmp_geF C dX6_rodsLevel_9 (tgt := 44) (by decide) hc1 ?_
      refine x_iload_n C dX6_rodsLevel_12 rfl 2 rfl ?_
      refine x_aload_n C dX6_rodsLevel_13 rfl 0 rfl ?_
      refine x_getr C 51 rfl rfl inX6 2 (by decide) rfl kF_X6_18 rfl dX6_rodsLevel_14 ?_
      refine x_iload_n C dX6_rodsLevel_17 rfl 3 rfl ?_
      obtain ⟨hb2, h⟩ := ck_some h
      refine x_zald C 54 rfl hb2 (v := (σ (51 + 3) y3.toNatClampNeg)) rfl dX6_rodsLevel_18 ?_
      by_cases hc3 : (σ (51 + 3) y3.toNatClampNeg) = 0
      · replace h := (if_pos hc3).symm.trans h
        refine x_if_eqT C dX6_rodsLevel_19 (tgt := 35) (by decide) hc3 ?_
        refine x_iconst C dX6_rodsLevel_35 (v := 0) (by decide) ?_
        refine x_iadd C dX6_rodsLevel_36 ?_
        refine x_istore_n C dX6_rodsLevel_37 rfl (lv2 := [(0, .ref (gs_a E 51)), (1, .ref (gs_a E 9)), (2, .int (y2 + (0 : Int32))), (3, .int y3)]) (by decide) rfl [1, 2, 0, 3] rfl ?_
        refine x_iinc C dX6_rodsLevel_38 3 rfl (v := (y3 + (1 : Int32))) rfl (lv2 := [(0, .ref (gs_a E 51)), (1, .ref (gs_a E 9)), (2, .int (y2 + (0 : Int32))), (3, .int (y3 + (1 : Int32)))]) (by decide) rfl [1, 2, 3, 0] rfl ?_
        refine x_goto C dX6_rodsLevel_41 (tgt := 4) (by decide) ?_
        obtain rfl := Option.some.inj h
        exact hc (y2 + (0 : Int32)) (y3 + (1 : Int32)) rfl
      · replace h := (if_neg hc3).symm.trans h
        refine x_if_eqF C dX6_rodsLevel_19 (tgt := 35) (by decide) hc3 ?_
        refine x_aload_n C dX6_rodsLevel_22 rfl 0 rfl ?_
        refine x_getr C 51 rfl rfl inX6 1 (by decide) rfl kF_X6_15 rfl dX6_rodsLevel_23 ?_
        refine x_iload_n C dX6_rodsLevel_26 rfl 3 rfl ?_
        obtain ⟨hb4, h⟩ := ck_some h
        refine x_iald C 53 rfl hb4 (v := (σ (51 + 2) y3.toNatClampNeg)) rfl dX6_rodsLevel_27 ?_
        by_cases hc5 : (σ (51 + 2) y3.toNatClampNeg) = 0
        · replace h := (if_pos hc5).symm.trans h
          refine x_if_neF C dX6_rodsLevel_28 (tgt := 35) (by decide) hc5 ?_
          refine x_iconst C dX6_rodsLevel_31 (v := 1) (by decide) ?_
          refine x_goto C dX6_rodsLevel_32 (tgt := 36) (by decide) ?_
          refine x_iadd C dX6_rodsLevel_36 ?_
          refine x_istore_n C dX6_rodsLevel_37 rfl (lv2 := [(0, .ref (gs_a E 51)), (1, .ref (gs_a E 9)), (2, .int (y2 + (1 : Int32))), (3, .int y3)]) (by decide) rfl [1, 2, 0, 3] rfl ?_
          refine x_iinc C dX6_rodsLevel_38 3 rfl (v := (y3 + (1 : Int32))) rfl (lv2 := [(0, .ref (gs_a E 51)), (1, .ref (gs_a E 9)), (2, .int (y2 + (1 : Int32))), (3, .int (y3 + (1 : Int32)))]) (by decide) rfl [1, 2, 3, 0] rfl ?_
          refine x_goto C dX6_rodsLevel_41 (tgt := 4) (by decide) ?_
          obtain rfl := Option.some.inj h
          exact hc (y2 + (1 : Int32)) (y3 + (1 : Int32)) rfl
        · replace h := (if_neg hc5).symm.trans h
          refine x_if_neT C dX6_rodsLevel_28 (tgt := 35) (by decide) hc5 ?_
          refine x_iconst C dX6_rodsLevel_35 (v := 0) (by decide) ?_
          refine x_iadd C dX6_rodsLevel_36 ?_
          refine x_istore_n C dX6_rodsLevel_37 rfl (lv2 := [(0, .ref (gs_a E 51)), (1, .ref (gs_a E 9)), (2, .int (y2 + (0 : Int32))), (3, .int y3)]) (by decide) rfl [1, 2, 0, 3] rfl ?_
          refine x_iinc C dX6_rodsLevel_38 3 rfl (v := (y3 + (1 : Int32))) rfl (lv2 := [(0, .ref (gs_a E 51)), (1, .ref (gs_a E 9)), (2, .int (y2 + (0 : Int32))), (3, .int (y3 + (1 : Int32)))]) (by decide) rfl [1, 2, 3, 0] rfl ?_
          refine x_goto C dX6_rodsLevel_41 (tgt := 4) (by decide) ?_
          obtain rfl := Option.some.inj h
          exact hc (y2 + (0 : Int32)) (y3 + (1 : Int32)) rfl
set_option maxHeartbeats 4000000 in
set_option maxRecDepth 20000 in
theorem m_X6_rodsLevel_51 {E : gs_E} {l : Launch} {σ : gs_H} {g : Int64} {r0 : Int32} (h : f_X6_rodsLevel 51 σ = some r0) : gs_M l E yX6_rodsLevel cX6_rodsLevel 4 (some .int) (0, 0) [.ref (gs_a E 51), .ref (gs_a E 9)] σ g (some (.int r0)) σ g := by
  refine x_enter (lv := [(0, .ref (gs_a E 51)), (1, .ref (gs_a E 9))]) (by decide +kernel) (Nat.le_of_ble_eq_true rfl) rfl (fun p e s m args below meth c C hr => ?_)
  unfold f_X6_rodsLevel at h
  refine x_iconst C dX6_rodsLevel_0 (v := 0) (by decide) ?_
  refine x_istore_n C dX6_rodsLevel_1 rfl (lv2 := [(0, .ref (gs_a E 51)), (1, .ref (gs_a E 9)), (2, .int (0 : Int32))]) (by decide) rfl [1, 2, 0] rfl ?_
  refine x_iconst C dX6_rodsLevel_2 (v := 0) (by decide) ?_
  refine x_istore_n C dX6_rodsLevel_3 rfl (lv2 := [(0, .ref (gs_a E 51)), (1, .ref (gs_a E 9)), (2, .int (0 : Int32)), (3, .int (0 : Int32))]) (by decide) rfl [1, 2, 3, 0] rfl ?_
  obtain ⟨q1, hq1, h⟩ := Option.bind_eq_some_iff.mp h
  refine wl_X6_rodsLevel_4_51 C (fun v1_0_2 hz => ?_) 1000 _ _ hq1
  subst q1
  try dsimp only at h
  refine x_iload_n C dX6_rodsLevel_44 rfl 0 rfl ?_
  replace h := Option.some.inj h
  subst h
  exact x_ret C hr rfl rfl dX6_rodsLevel_45
def f_X6_weigh (ar : Nat) (σ : gs_H) : Option (gs_H) :=
(f_X6_prepare ar (σ 9 2) σ).bind fun q1 =>
(f_X6_hang ar 12 q1).bind fun q2 =>
some q2
set_option maxHeartbeats 4000000 in
set_option maxRecDepth 20000 in
theorem m_X6_weigh_35 {E : gs_E} {l : Launch} {σ : gs_H} {g : Int64} {σ0 : gs_H} (h : f_X6_weigh 35 σ = some σ0) : gs_M l E yX6_weigh cX6_weigh 2 (none) (3, 72) [.ref (gs_a E 35), .ref (gs_a E 9)] σ g (none) σ0 g := by
  refine x_enter (lv := [(0, .ref (gs_a E 35)), (1, .ref (gs_a E 9))]) (by decide +kernel) (Nat.le_of_ble_eq_true rfl) rfl (fun p e s m args below meth c C hr => ?_)
  unfold f_X6_weigh at h
  refine x_aload_n C dX6_weigh_0 rfl 0 rfl ?_
  refine x_aload_n C dX6_weigh_1 rfl 1 rfl ?_
  refine x_aload_n C dX6_weigh_2 rfl 1 rfl ?_
  refine x_geti C 9 rfl rfl inX3 2 (by decide) rfl kF_X6_25 rfl (v := (σ 9 2)) rfl dX6_weigh_3 ?_
  obtain ⟨s1, hv1, h⟩ := Option.bind_eq_some_iff.mp h
  refine x_callV C 35 (m_X6_prepare_35 hv1) rfl rfl kM_X6_31 kI_X6_prepare kS_X6_prepare kN_X6 kC_X6_prepare kD_X6_prepare rfl ⟨Nat.le_of_ble_eq_true rfl, Nat.le_of_ble_eq_true rfl⟩ ⟨Nat.le_refl _, Nat.le_refl _⟩ (rest := []) rfl (Nat.le_of_ble_eq_true rfl) dX6_weigh_6 (st' := []) rfl ?_
  refine x_aload_n C dX6_weigh_9 rfl 0 rfl ?_
  refine x_aload_n C dX6_weigh_10 rfl 1 rfl ?_
  refine x_aload_n C dX6_weigh_11 rfl 1 rfl ?_
  refine x_getr C 9 rfl rfl inX3 5 (by decide) rfl kF_X6_35 rfl dX6_weigh_12 ?_
  obtain ⟨s2, hv2, h⟩ := Option.bind_eq_some_iff.mp h
  refine x_callV C 35 (m_X6_hang_35_12 hv2) rfl rfl kM_X6_38 kI_X6_hang kS_X6_hang kN_X6 kC_X6_hang kD_X6_hang rfl ⟨Nat.le_of_ble_eq_true rfl, Nat.le_of_ble_eq_true rfl⟩ ⟨Nat.le_refl _, Nat.le_refl _⟩ (rest := []) rfl (Nat.le_of_ble_eq_true rfl) dX6_weigh_15 (st' := []) rfl ?_
  replace h := Option.some.inj h
  subst h
  exact x_retv C hr rfl dX6_weigh_18
set_option maxHeartbeats 4000000 in
set_option maxRecDepth 20000 in
theorem m_X6_weigh_42 {E : gs_E} {l : Launch} {σ : gs_H} {g : Int64} {σ0 : gs_H} (h : f_X6_weigh 42 σ = some σ0) : gs_M l E yX6_weigh cX6_weigh 2 (none) (3, 72) [.ref (gs_a E 42), .ref (gs_a E 9)] σ g (none) σ0 g := by
  refine x_enter (lv := [(0, .ref (gs_a E 42)), (1, .ref (gs_a E 9))]) (by decide +kernel) (Nat.le_of_ble_eq_true rfl) rfl (fun p e s m args below meth c C hr => ?_)
  unfold f_X6_weigh at h
  refine x_aload_n C dX6_weigh_0 rfl 0 rfl ?_
  refine x_aload_n C dX6_weigh_1 rfl 1 rfl ?_
  refine x_aload_n C dX6_weigh_2 rfl 1 rfl ?_
  refine x_geti C 9 rfl rfl inX3 2 (by decide) rfl kF_X6_25 rfl (v := (σ 9 2)) rfl dX6_weigh_3 ?_
  obtain ⟨s1, hv1, h⟩ := Option.bind_eq_some_iff.mp h
  refine x_callV C 42 (m_X6_prepare_42 hv1) rfl rfl kM_X6_31 kI_X6_prepare kS_X6_prepare kN_X6 kC_X6_prepare kD_X6_prepare rfl ⟨Nat.le_of_ble_eq_true rfl, Nat.le_of_ble_eq_true rfl⟩ ⟨Nat.le_refl _, Nat.le_refl _⟩ (rest := []) rfl (Nat.le_of_ble_eq_true rfl) dX6_weigh_6 (st' := []) rfl ?_
  refine x_aload_n C dX6_weigh_9 rfl 0 rfl ?_
  refine x_aload_n C dX6_weigh_10 rfl 1 rfl ?_
  refine x_aload_n C dX6_weigh_11 rfl 1 rfl ?_
  refine x_getr C 9 rfl rfl inX3 5 (by decide) rfl kF_X6_35 rfl dX6_weigh_12 ?_
  obtain ⟨s2, hv2, h⟩ := Option.bind_eq_some_iff.mp h
  refine x_callV C 42 (m_X6_hang_42_12 hv2) rfl rfl kM_X6_38 kI_X6_hang kS_X6_hang kN_X6 kC_X6_hang kD_X6_hang rfl ⟨Nat.le_of_ble_eq_true rfl, Nat.le_of_ble_eq_true rfl⟩ ⟨Nat.le_refl _, Nat.le_refl _⟩ (rest := []) rfl (Nat.le_of_ble_eq_true rfl) dX6_weigh_15 (st' := []) rfl ?_
  replace h := Option.some.inj h
  subst h
  exact x_retv C hr rfl dX6_weigh_18
def b_X6_tiltTogether_4 (σ : gs_H) (y : Int32 × Int32) : Option ((Int32 × Int32) ⊕ ((Int32))) :=
if (σ 9 0) ≤ y.2 then (
some (Sum.inr y.1))
else (
if inb y.2 5 then
if (σ 45 y.2.toNatClampNeg) = 0 then (
some (Sum.inl ((y.1 + (0 : Int32)), (y.2 + (1 : Int32)))))
else (
if inb y.2 5 then
some (Sum.inl ((y.1 + (if 0 ≤ (σ 44 y.2.toNatClampNeg) then (σ 44 y.2.toNatClampNeg) else 0 - (σ 44 y.2.toNatClampNeg))), (y.2 + (1 : Int32)))) else none) else none)
def f_X6_tiltTogether (σ : gs_H) : Option (Int32) :=
(lp (b_X6_tiltTogether_4 σ) 1000 ((0 : Int32), (0 : Int32))).bind fun q1 =>
some q1
set_option maxHeartbeats 4000000 in
set_option maxRecDepth 20000 in
theorem wl_X6_tiltTogether_4 {E : gs_E} {l : Launch} {p : Program} {e : Env} {s : State} {m : MethodId} {args : Array Value} {below : List Frame} {meth : Method} {c : Code} (C : gs_X E RX6 cX6_tiltTogether 4 p s m args meth c) {ov : Option Value} {σ0 : gs_H} {g0 : Int64} {σ : gs_H} {g : Int64} {q : (Int32)} (hx0 : ∀ (z2 : Int32), q = z2 → gs_V E 4 (1, 21) p l e s m args below meth c ov σ0 g0 43 [(2, .int z2)] [] σ g) : ∀ (n : Nat) (y2 : Int32) (y3 : Int32), lp (b_X6_tiltTogether_4 σ) n (y2, y3) = some q → gs_V E 4 (1, 21) p l e s m args below meth c ov σ0 g0 4 [(0, .ref (gs_a E 42)), (1, .ref (gs_a E 9)), (2, .int y2), (3, .int y3)] [] σ g := by
  intro n
  induction n with
  | zero => intro y2 y3 h; cases h
  | succ n ih =>
    intro y2 y3 h
    obtain ⟨r, h, hl, he⟩ := lp_step h
    have hc := fun (y2 : Int32) (y3 : Int32) (hr : r = Sum.inl (y2, y3)) => ih y2 y3 (hl _ hr)
    have hk0 := fun (z2 : Int32) (hr : r = Sum.inr z2) => hx0 z2 (he _ hr).symm
    unfold b_X6_tiltTogether_4 at h
    try dsimp only at h
    refine x_iload_n C dX6_tiltTogether_4 rfl 3 rfl ?_
    refine x_aload_n C dX6_tiltTogether_5 rfl 1 rfl ?_
    refine x_geti C 9 rfl rfl inX3 0 (by decide) rfl kF_X6_60 rfl (v := (σ 9 0)) rfl dX6_tiltTogether_6 ?_
    by_cases hc1 : (σ 9 0) ≤ y3
    · replace h := (if_pos hc1).symm.trans h
      refine x_icmp_geT C dX6_tiltTogether_9 (tgt := 43) (by decide) hc1 ?_
      refine x_lv (lv' := [(2, .int y2)]) [2] rfl ?_
      obtain rfl := Option.some.inj h
      exact hk0 y2 rfl
    · replace h := (if_neg hc1).symm.trans h
      refine x_icmp_geF C dX6_tiltTogether_9 (tgt := 43) (by decide) hc1 ?_
      refine x_iload_n C dX6_tiltTogether_12 rfl 2 rfl ?_
      refine x_aload_n C dX6_tiltTogether_13 rfl 0 rfl ?_
      refine x_getr C 42 rfl rfl inX6 2 (by decide) rfl kF_X6_18 rfl dX6_tiltTogether_14 ?_
      refine x_iload_n C dX6_tiltTogether_17 rfl 3 rfl ?_
      obtain ⟨hb2, h⟩ := ck_some h
      refine x_zald C 45 rfl hb2 (v := (σ 45 y3.toNatClampNeg)) rfl dX6_tiltTogether_18 ?_
      by_cases hc3 : (σ 45 y3.toNatClampNeg) = 0
      · replace h := (if_pos hc3).symm.trans h
        refine x_if_eqT C dX6_tiltTogether_19 (tgt := 34) (by decide) hc3 ?_
        refine x_iconst C dX6_tiltTogether_34 (v := 0) (by decide) ?_
        refine x_iadd C dX6_tiltTogether_35 ?_
        refine x_istore_n C dX6_tiltTogether_36 rfl (lv2 := [(0, .ref (gs_a E 42)), (1, .ref (gs_a E 9)), (2, .int (y2 + (0 : Int32))), (3, .int y3)]) (by decide) rfl [1, 2, 0, 3] rfl ?_
        refine x_iinc C dX6_tiltTogether_37 3 rfl (v := (y3 + (1 : Int32))) rfl (lv2 := [(0, .ref (gs_a E 42)), (1, .ref (gs_a E 9)), (2, .int (y2 + (0 : Int32))), (3, .int (y3 + (1 : Int32)))]) (by decide) rfl [1, 2, 3, 0] rfl ?_
        refine x_goto C dX6_tiltTogether_40 (tgt := 4) (by decide) ?_
        obtain rfl := Option.some.inj h
        exact hc (y2 + (0 : Int32)) (y3 + (1 : Int32)) rfl
      · replace h := (if_neg hc3).symm.trans h
        refine x_if_eqF C dX6_tiltTogether_19 (tgt := 34) (by decide) hc3 ?_
        refine x_aload_n C dX6_tiltTogether_22 rfl 0 rfl ?_
        refine x_getr C 42 rfl rfl inX6 1 (by decide) rfl kF_X6_15 rfl dX6_tiltTogether_23 ?_
        refine x_iload_n C dX6_tiltTogether_26 rfl 3 rfl ?_
        obtain ⟨hb4, h⟩ := ck_some h
        refine x_iald C 44 rfl hb4 (v := (σ 44 y3.toNatClampNeg)) rfl dX6_tiltTogether_27 ?_
        refine x_mabs C kM_X6_84 kT_Math_abs kN_J9 kC_Math_abs (Nat.le_of_ble_eq_true rfl) (Nat.le_of_ble_eq_true rfl) ⟨Nat.le_refl _, Nat.le_refl _⟩ dX6_tiltTogether_28 ?_
        refine x_goto C dX6_tiltTogether_31 (tgt := 35) (by decide) ?_
        refine x_iadd C dX6_tiltTogether_35 ?_
        refine x_istore_n C dX6_tiltTogether_36 rfl (lv2 := [(0, .ref (gs_a E 42)), (1, .ref (gs_a E 9)), (2, .int (y2 + (if 0 ≤ (σ 44 y3.toNatClampNeg) then (σ 44 y3.toNatClampNeg) else 0 - (σ 44 y3.toNatClampNeg)))), (3, .int y3)]) (by decide) rfl [1, 2, 0, 3] rfl ?_
        refine x_iinc C dX6_tiltTogether_37 3 rfl (v := (y3 + (1 : Int32))) rfl (lv2 := [(0, .ref (gs_a E 42)), (1, .ref (gs_a E 9)), (2, .int (y2 + (if 0 ≤ (σ 44 y3.toNatClampNeg) then (σ 44 y3.toNatClampNeg) else 0 - (σ 44 y3.toNatClampNeg)))), (3, .int (y3 + (1 : Int32)))]) (by decide) rfl [1, 2, 3, 0] rfl ?_
        refine x_goto C dX6_tiltTogether_40 (tgt := 4) (by decide) ?_
        obtain rfl := Option.some.inj h
        exact hc (y2 + (if 0 ≤ (σ 44 y3.toNatClampNeg) then (σ 44 y3.toNatClampNeg) else 0 - (σ 44 y3.toNatClampNeg))) (y3 + (1 : Int32)) rfl
set_option maxHeartbeats 4000000 in
set_option maxRecDepth 20000 in
theorem m_X6_tiltTogether {E : gs_E} {l : Launch} {σ : gs_H} {g : Int64} {r0 : Int32} (h : f_X6_tiltTogether σ = some r0) : gs_M l E yX6_tiltTogether cX6_tiltTogether 4 (some .int) (1, 21) [.ref (gs_a E 42), .ref (gs_a E 9)] σ g (some (.int r0)) σ g := by
  refine x_enter (lv := [(0, .ref (gs_a E 42)), (1, .ref (gs_a E 9))]) (by decide +kernel) (Nat.le_of_ble_eq_true rfl) rfl (fun p e s m args below meth c C hr => ?_)
  unfold f_X6_tiltTogether at h
  refine x_iconst C dX6_tiltTogether_0 (v := 0) (by decide) ?_
  refine x_istore_n C dX6_tiltTogether_1 rfl (lv2 := [(0, .ref (gs_a E 42)), (1, .ref (gs_a E 9)), (2, .int (0 : Int32))]) (by decide) rfl [1, 2, 0] rfl ?_
  refine x_iconst C dX6_tiltTogether_2 (v := 0) (by decide) ?_
  refine x_istore_n C dX6_tiltTogether_3 rfl (lv2 := [(0, .ref (gs_a E 42)), (1, .ref (gs_a E 9)), (2, .int (0 : Int32)), (3, .int (0 : Int32))]) (by decide) rfl [1, 2, 3, 0] rfl ?_
  obtain ⟨q1, hq1, h⟩ := Option.bind_eq_some_iff.mp h
  refine wl_X6_tiltTogether_4 C (fun v1_0_2 hz => ?_) 1000 _ _ hq1
  subst q1
  try dsimp only at h
  refine x_iload_n C dX6_tiltTogether_43 rfl 0 rfl ?_
  replace h := Option.some.inj h
  subst h
  exact x_ret C hr rfl rfl dX6_tiltTogether_44
def b_X6_beadToAdd_13 (x2 : Int32) (σ : gs_H) (y : Int32) : Option ((Int32) ⊕ ((Int32) ⊕ (Int32) ⊕ (Unit))) :=
if (30 : Int32) < y then (
some (Sum.inr (Sum.inr (Sum.inr ()))))
else (
if inb x2 5 then
if inb (((2 : Int32) * x2) + (1 : Int32)) 10 then
if ((σ 37 x2.toNatClampNeg) + (y * (σ 10 (((2 : Int32) * x2) + (1 : Int32)).toNatClampNeg))) = 0 then (
some (Sum.inr (Sum.inl y)))
else (
if inb x2 5 then
if inb ((2 : Int32) * x2) 10 then
if ((σ 37 x2.toNatClampNeg) - (y * (σ 10 ((2 : Int32) * x2).toNatClampNeg))) = 0 then (
some (Sum.inr (Sum.inr (Sum.inl y))))
else (
some (Sum.inl (y + (1 : Int32)))) else none else none) else none else none)
def f_X6_beadToAdd (x2 : Int32) (σ : gs_H) : Option (Int32) :=
if inb x2 5 then
if (σ 37 x2.toNatClampNeg) = 0 then (
some (0 : Int32))
else (
(lp (b_X6_beadToAdd_13 x2 σ) 1000 (1 : Int32)).bind fun q3 =>
match q3 with
| .inl q3_0 =>
some q3_0
| .inr (.inl q3_1) =>
some (-q3_1)
| .inr (.inr q3_2) =>
some (99 : Int32)) else none
set_option maxHeartbeats 4000000 in
set_option maxRecDepth 20000 in
theorem wl_X6_beadToAdd_13 {E : gs_E} {l : Launch} {p : Program} {e : Env} {s : State} {m : MethodId} {args : Array Value} {below : List Frame} {meth : Method} {c : Code} (C : gs_X E RX6 cX6_beadToAdd 4 p s m args meth c) {ov : Option Value} {σ0 : gs_H} {g0 : Int64} {x2 : Int32} {σ : gs_H} {g : Int64} {q : (Int32) ⊕ (Int32) ⊕ (Unit)} (hx0 : ∀ (z3 : Int32), q = (Sum.inl z3) → gs_V E 4 (0, 0) p l e s m args below meth c ov σ0 g0 41 [(3, .int z3)] [] σ g) (hx1 : ∀ (z3 : Int32), q = (Sum.inr (Sum.inl z3)) → gs_V E 4 (0, 0) p l e s m args below meth c ov σ0 g0 63 [(3, .int z3)] [] σ g) (hx2 : q = (Sum.inr (Sum.inr ())) → gs_V E 4 (0, 0) p l e s m args below meth c ov σ0 g0 72 [] [] σ g) : ∀ (n : Nat) (y3 : Int32), lp (b_X6_beadToAdd_13 x2 σ) n y3 = some q → gs_V E 4 (0, 0) p l e s m args below meth c ov σ0 g0 13 [(0, .ref (gs_a E 35)), (1, .ref (gs_a E 9)), (2, .int x2), (3, .int y3)] [] σ g := by
  intro n
  induction n with
  | zero => intro y3 h; cases h
  | succ n ih =>
    intro y3 h
    obtain ⟨r, h, hl, he⟩ := lp_step h
    have hc := fun (y3 : Int32) (hr : r = Sum.inl y3) => ih y3 (hl _ hr)
    have hk0 := fun (z3 : Int32) (hr : r = Sum.inr (Sum.inl z3)) => hx0 z3 (he _ hr).symm
    have hk1 := fun (z3 : Int32) (hr : r = Sum.inr (Sum.inr (Sum.inl z3))) => hx1 z3 (he _ hr).symm
    have hk2 := fun (hr : r = Sum.inr (Sum.inr (Sum.inr ()))) => hx2 (he _ hr).symm
    unfold b_X6_beadToAdd_13 at h
    try dsimp only at h
    refine x_iload_n C dX6_beadToAdd_13 rfl 3 rfl ?_
    refine x_bipush C dX6_beadToAdd_14 (v := 30) (by decide) ?_
    by_cases hc1 : (30 : Int32) < y3
    · replace h := (if_pos hc1).symm.trans h
      refine x_icmp_gtT C dX6_beadToAdd_16 (tgt := 72) (by decide) hc1 ?_
      refine x_lv (lv' := []) [] rfl ?_
      obtain rfl := Option.some.inj h
      exact hk2  rfl
    · replace h := (if_neg hc1).symm.trans h
      refine x_icmp_gtF C dX6_beadToAdd_16 (tgt := 72) (by decide) hc1 ?_
      refine x_aload_n C dX6_beadToAdd_19 rfl 0 rfl ?_
      refine x_getr C 35 rfl rfl inX6 1 (by decide) rfl kF_X6_15 rfl dX6_beadToAdd_20 ?_
      refine x_iload_n C dX6_beadToAdd_23 rfl 2 rfl ?_
      obtain ⟨hb2, h⟩ := ck_some h
      refine x_iald C 37 rfl hb2 (v := (σ 37 x2.toNatClampNeg)) rfl dX6_beadToAdd_24 ?_
      refine x_iload_n C dX6_beadToAdd_25 rfl 3 rfl ?_
      refine x_aload_n C dX6_beadToAdd_26 rfl 1 rfl ?_
      refine x_getr C 9 rfl rfl inX3 3 (by decide) rfl kF_X6_77 rfl dX6_beadToAdd_27 ?_
      refine x_iconst C dX6_beadToAdd_30 (v := 2) (by decide) ?_
      refine x_iload_n C dX6_beadToAdd_31 rfl 2 rfl ?_
      refine x_imul C dX6_beadToAdd_32 ?_
      refine x_iconst C dX6_beadToAdd_33 (v := 1) (by decide) ?_
      refine x_iadd C dX6_beadToAdd_34 ?_
      obtain ⟨hb3, h⟩ := ck_some h
      refine x_iald C 10 rfl hb3 (v := (σ 10 (((2 : Int32) * x2) + (1 : Int32)).toNatClampNeg)) rfl dX6_beadToAdd_35 ?_
      refine x_imul C dX6_beadToAdd_36 ?_
      refine x_iadd C dX6_beadToAdd_37 ?_
      by_cases hc4 : ((σ 37 x2.toNatClampNeg) + (y3 * (σ 10 (((2 : Int32) * x2) + (1 : Int32)).toNatClampNeg))) = 0
      · replace h := (if_pos hc4).symm.trans h
        refine x_if_neF C dX6_beadToAdd_38 (tgt := 43) (by decide) hc4 ?_
        refine x_lv (lv' := [(3, .int y3)]) [3] rfl ?_
        obtain rfl := Option.some.inj h
        exact hk0 y3 rfl
      · replace h := (if_neg hc4).symm.trans h
        refine x_if_neT C dX6_beadToAdd_38 (tgt := 43) (by decide) hc4 ?_
        refine x_aload_n C dX6_beadToAdd_43 rfl 0 rfl ?_
        refine x_getr C 35 rfl rfl inX6 1 (by decide) rfl kF_X6_15 rfl dX6_beadToAdd_44 ?_
        refine x_iload_n C dX6_beadToAdd_47 rfl 2 rfl ?_
        obtain ⟨hb5, h⟩ := ck_some h
        refine x_iald C 37 rfl hb5 (v := (σ 37 x2.toNatClampNeg)) rfl dX6_beadToAdd_48 ?_
        refine x_iload_n C dX6_beadToAdd_49 rfl 3 rfl ?_
        refine x_aload_n C dX6_beadToAdd_50 rfl 1 rfl ?_
        refine x_getr C 9 rfl rfl inX3 3 (by decide) rfl kF_X6_77 rfl dX6_beadToAdd_51 ?_
        refine x_iconst C dX6_beadToAdd_54 (v := 2) (by decide) ?_
        refine x_iload_n C dX6_beadToAdd_55 rfl 2 rfl ?_
        refine x_imul C dX6_beadToAdd_56 ?_
        obtain ⟨hb6, h⟩ := ck_some h
        refine x_iald C 10 rfl hb6 (v := (σ 10 ((2 : Int32) * x2).toNatClampNeg)) rfl dX6_beadToAdd_57 ?_
        refine x_imul C dX6_beadToAdd_58 ?_
        refine x_isub C dX6_beadToAdd_59 ?_
        by_cases hc7 : ((σ 37 x2.toNatClampNeg) - (y3 * (σ 10 ((2 : Int32) * x2).toNatClampNeg))) = 0
        · replace h := (if_pos hc7).symm.trans h
          refine x_if_neF C dX6_beadToAdd_60 (tgt := 66) (by decide) hc7 ?_
          refine x_lv (lv' := [(3, .int y3)]) [3] rfl ?_
          obtain rfl := Option.some.inj h
          exact hk1 y3 rfl
        · replace h := (if_neg hc7).symm.trans h
          refine x_if_neT C dX6_beadToAdd_60 (tgt := 66) (by decide) hc7 ?_
          refine x_iinc C dX6_beadToAdd_66 3 rfl (v := (y3 + (1 : Int32))) rfl (lv2 := [(0, .ref (gs_a E 35)), (1, .ref (gs_a E 9)), (2, .int x2), (3, .int (y3 + (1 : Int32)))]) (by decide) rfl [1, 2, 3, 0] rfl ?_
          refine x_goto C dX6_beadToAdd_69 (tgt := 13) (by decide) ?_
          obtain rfl := Option.some.inj h
          exact hc (y3 + (1 : Int32)) rfl
set_option maxHeartbeats 4000000 in
set_option maxRecDepth 20000 in
theorem m_X6_beadToAdd {E : gs_E} {l : Launch} {x2 : Int32} {σ : gs_H} {g : Int64} {r0 : Int32} (h : f_X6_beadToAdd x2 σ = some r0) : gs_M l E yX6_beadToAdd cX6_beadToAdd 4 (some .int) (0, 0) [.ref (gs_a E 35), .ref (gs_a E 9), .int x2] σ g (some (.int r0)) σ g := by
  refine x_enter (lv := [(0, .ref (gs_a E 35)), (1, .ref (gs_a E 9)), (2, .int x2)]) (by decide +kernel) (Nat.le_of_ble_eq_true rfl) rfl (fun p e s m args below meth c C hr => ?_)
  unfold f_X6_beadToAdd at h
  refine x_aload_n C dX6_beadToAdd_0 rfl 0 rfl ?_
  refine x_getr C 35 rfl rfl inX6 1 (by decide) rfl kF_X6_15 rfl dX6_beadToAdd_1 ?_
  refine x_iload_n C dX6_beadToAdd_4 rfl 2 rfl ?_
  obtain ⟨hb1, h⟩ := ck_some h
  refine x_iald C 37 rfl hb1 (v := (σ 37 x2.toNatClampNeg)) rfl dX6_beadToAdd_5 ?_
  by_cases hc2 : (σ 37 x2.toNatClampNeg) = 0
  · replace h := (if_pos hc2).symm.trans h
    refine x_if_neF C dX6_beadToAdd_6 (tgt := 11) (by decide) hc2 ?_
    refine x_iconst C dX6_beadToAdd_9 (v := 0) (by decide) ?_
    replace h := Option.some.inj h
    subst h
    exact x_ret C hr rfl rfl dX6_beadToAdd_10
  · replace h := (if_neg hc2).symm.trans h
    refine x_if_neT C dX6_beadToAdd_6 (tgt := 11) (by decide) hc2 ?_
    refine x_iconst C dX6_beadToAdd_11 (v := 1) (by decide) ?_
    refine x_istore_n C dX6_beadToAdd_12 rfl (lv2 := [(0, .ref (gs_a E 35)), (1, .ref (gs_a E 9)), (2, .int x2), (3, .int (1 : Int32))]) (by decide) rfl [1, 2, 3, 0] rfl ?_
    obtain ⟨q3, hq3, h⟩ := Option.bind_eq_some_iff.mp h
    refine wl_X6_beadToAdd_13 C (fun v3_0_3 hz => ?_) (fun v3_1_3 hz => ?_) (fun  hz => ?_) 1000 _ hq3
    · subst q3
      try dsimp only at h
      refine x_iload_n C dX6_beadToAdd_41 rfl 0 rfl ?_
      replace h := Option.some.inj h
      subst h
      exact x_ret C hr rfl rfl dX6_beadToAdd_42
    · subst q3
      try dsimp only at h
      refine x_iload_n C dX6_beadToAdd_63 rfl 0 rfl ?_
      refine x_ineg C dX6_beadToAdd_64 ?_
      replace h := Option.some.inj h
      subst h
      exact x_ret C hr rfl rfl dX6_beadToAdd_65
    · subst q3
      try dsimp only at h
      refine x_bipush C dX6_beadToAdd_72 (v := 99) (by decide) ?_
      replace h := Option.some.inj h
      subst h
      exact x_ret C hr rfl rfl dX6_beadToAdd_74
def b_X6_hookFor_23 (x2 : Int32) (x3 : Int32) (σ : gs_H) (y : Int32) : Option ((Int32) ⊕ ((Int32) ⊕ (Unit))) :=
if x3 ≤ y then (
some (Sum.inr (Sum.inr ())))
else (
if inb ((2 : Int32) * x2) 10 then
if inb (((2 : Int32) * x2) + (1 : Int32)) 10 then
if ((σ 36 ((2 : Int32) * x2).toNatClampNeg) * y) = ((σ 36 (((2 : Int32) * x2) + (1 : Int32)).toNatClampNeg) * (x3 - y)) then (
some (Sum.inr (Sum.inl y)))
else (
some (Sum.inl (y + (1 : Int32)))) else none else none)
def f_X6_hookFor (x2 : Int32) (σ : gs_H) : Option (Int32) :=
if inb ((2 : Int32) * x2) 10 then
if inb (((2 : Int32) * x2) + (1 : Int32)) 10 then
(lp (b_X6_hookFor_23 x2 ((σ 10 ((2 : Int32) * x2).toNatClampNeg) + (σ 10 (((2 : Int32) * x2) + (1 : Int32)).toNatClampNeg)) σ) 1000 (1 : Int32)).bind fun q3 =>
match q3 with
| .inl q3_0 =>
some q3_0
| .inr q3_1 =>
some (-1 : Int32) else none else none
set_option maxHeartbeats 4000000 in
set_option maxRecDepth 20000 in
theorem wl_X6_hookFor_23 {E : gs_E} {l : Launch} {p : Program} {e : Env} {s : State} {m : MethodId} {args : Array Value} {below : List Frame} {meth : Method} {c : Code} (C : gs_X E RX6 cX6_hookFor 5 p s m args meth c) {ov : Option Value} {σ0 : gs_H} {g0 : Int64} {x2 : Int32} {x3 : Int32} {σ : gs_H} {g : Int64} {q : (Int32) ⊕ (Unit)} (hx0 : ∀ (z4 : Int32), q = (Sum.inl z4) → gs_V E 5 (0, 0) p l e s m args below meth c ov σ0 g0 58 [(4, .int z4)] [] σ g) (hx1 : q = (Sum.inr ()) → gs_V E 5 (0, 0) p l e s m args below meth c ov σ0 g0 67 [] [] σ g) : ∀ (n : Nat) (y4 : Int32), lp (b_X6_hookFor_23 x2 x3 σ) n y4 = some q → gs_V E 5 (0, 0) p l e s m args below meth c ov σ0 g0 23 [(0, .ref (gs_a E 35)), (2, .int x2), (3, .int x3), (4, .int y4)] [] σ g := by
  intro n
  induction n with
  | zero => intro y4 h; cases h
  | succ n ih =>
    intro y4 h
    obtain ⟨r, h, hl, he⟩ := lp_step h
    have hc := fun (y4 : Int32) (hr : r = Sum.inl y4) => ih y4 (hl _ hr)
    have hk0 := fun (z4 : Int32) (hr : r = Sum.inr (Sum.inl z4)) => hx0 z4 (he _ hr).symm
    have hk1 := fun (hr : r = Sum.inr (Sum.inr ())) => hx1 (he _ hr).symm
    unfold b_X6_hookFor_23 at h
    try dsimp only at h
    refine x_iload C dX6_hookFor_23 3 rfl ?_
    refine x_iload_n C dX6_hookFor_25 rfl 2 rfl ?_
    by_cases hc1 : x3 ≤ y4
    · replace h := (if_pos hc1).symm.trans h
      refine x_icmp_geT C dX6_hookFor_26 (tgt := 67) (by decide) hc1 ?_
      refine x_lv (lv' := []) [] rfl ?_
      obtain rfl := Option.some.inj h
      exact hk1  rfl
    · replace h := (if_neg hc1).symm.trans h
      refine x_icmp_geF C dX6_hookFor_26 (tgt := 67) (by decide) hc1 ?_
      refine x_aload_n C dX6_hookFor_29 rfl 0 rfl ?_
      refine x_getr C 35 rfl rfl inX6 0 (by decide) rfl kF_X6_9 rfl dX6_hookFor_30 ?_
      refine x_iconst C dX6_hookFor_33 (v := 2) (by decide) ?_
      refine x_iload_n C dX6_hookFor_34 rfl 1 rfl ?_
      refine x_imul C dX6_hookFor_35 ?_
      obtain ⟨hb2, h⟩ := ck_some h
      refine x_iald C 36 rfl hb2 (v := (σ 36 ((2 : Int32) * x2).toNatClampNeg)) rfl dX6_hookFor_36 ?_
      refine x_iload C dX6_hookFor_37 3 rfl ?_
      refine x_imul C dX6_hookFor_39 ?_
      refine x_aload_n C dX6_hookFor_40 rfl 0 rfl ?_
      refine x_getr C 35 rfl rfl inX6 0 (by decide) rfl kF_X6_9 rfl dX6_hookFor_41 ?_
      refine x_iconst C dX6_hookFor_44 (v := 2) (by decide) ?_
      refine x_iload_n C dX6_hookFor_45 rfl 1 rfl ?_
      refine x_imul C dX6_hookFor_46 ?_
      refine x_iconst C dX6_hookFor_47 (v := 1) (by decide) ?_
      refine x_iadd C dX6_hookFor_48 ?_
      obtain ⟨hb3, h⟩ := ck_some h
      refine x_iald C 36 rfl hb3 (v := (σ 36 (((2 : Int32) * x2) + (1 : Int32)).toNatClampNeg)) rfl dX6_hookFor_49 ?_
      refine x_iload_n C dX6_hookFor_50 rfl 2 rfl ?_
      refine x_iload C dX6_hookFor_51 3 rfl ?_
      refine x_isub C dX6_hookFor_53 ?_
      refine x_imul C dX6_hookFor_54 ?_
      by_cases hc4 : ((σ 36 ((2 : Int32) * x2).toNatClampNeg) * y4) = ((σ 36 (((2 : Int32) * x2) + (1 : Int32)).toNatClampNeg) * (x3 - y4))
      · replace h := (if_pos hc4).symm.trans h
        refine x_icmp_neF C dX6_hookFor_55 (tgt := 61) (by decide) hc4 ?_
        refine x_lv (lv' := [(4, .int y4)]) [3] rfl ?_
        obtain rfl := Option.some.inj h
        exact hk0 y4 rfl
      · replace h := (if_neg hc4).symm.trans h
        refine x_icmp_neT C dX6_hookFor_55 (tgt := 61) (by decide) hc4 ?_
        refine x_iinc C dX6_hookFor_61 3 rfl (v := (y4 + (1 : Int32))) rfl (lv2 := [(0, .ref (gs_a E 35)), (2, .int x2), (3, .int x3), (4, .int (y4 + (1 : Int32)))]) (by decide) rfl [1, 2, 3, 0] rfl ?_
        refine x_goto C dX6_hookFor_64 (tgt := 23) (by decide) ?_
        obtain rfl := Option.some.inj h
        exact hc (y4 + (1 : Int32)) rfl
set_option maxHeartbeats 4000000 in
set_option maxRecDepth 20000 in
theorem m_X6_hookFor {E : gs_E} {l : Launch} {x2 : Int32} {σ : gs_H} {g : Int64} {r0 : Int32} (h : f_X6_hookFor x2 σ = some r0) : gs_M l E yX6_hookFor cX6_hookFor 5 (some .int) (0, 0) [.ref (gs_a E 35), .ref (gs_a E 9), .int x2] σ g (some (.int r0)) σ g := by
  refine x_enter (lv := [(0, .ref (gs_a E 35)), (1, .ref (gs_a E 9)), (2, .int x2)]) (by decide +kernel) (Nat.le_of_ble_eq_true rfl) rfl (fun p e s m args below meth c C hr => ?_)
  unfold f_X6_hookFor at h
  refine x_aload_n C dX6_hookFor_0 rfl 1 rfl ?_
  refine x_getr C 9 rfl rfl inX3 3 (by decide) rfl kF_X6_77 rfl dX6_hookFor_1 ?_
  refine x_iconst C dX6_hookFor_4 (v := 2) (by decide) ?_
  refine x_iload_n C dX6_hookFor_5 rfl 2 rfl ?_
  refine x_imul C dX6_hookFor_6 ?_
  obtain ⟨hb1, h⟩ := ck_some h
  refine x_iald C 10 rfl hb1 (v := (σ 10 ((2 : Int32) * x2).toNatClampNeg)) rfl dX6_hookFor_7 ?_
  refine x_aload_n C dX6_hookFor_8 rfl 1 rfl ?_
  refine x_getr C 9 rfl rfl inX3 3 (by decide) rfl kF_X6_77 rfl dX6_hookFor_9 ?_
  refine x_iconst C dX6_hookFor_12 (v := 2) (by decide) ?_
  refine x_iload_n C dX6_hookFor_13 rfl 2 rfl ?_
  refine x_imul C dX6_hookFor_14 ?_
  refine x_iconst C dX6_hookFor_15 (v := 1) (by decide) ?_
  refine x_iadd C dX6_hookFor_16 ?_
  obtain ⟨hb2, h⟩ := ck_some h
  refine x_iald C 10 rfl hb2 (v := (σ 10 (((2 : Int32) * x2) + (1 : Int32)).toNatClampNeg)) rfl dX6_hookFor_17 ?_
  refine x_iadd C dX6_hookFor_18 ?_
  refine x_istore_n C dX6_hookFor_19 rfl (lv2 := [(0, .ref (gs_a E 35)), (1, .ref (gs_a E 9)), (2, .int x2), (3, .int ((σ 10 ((2 : Int32) * x2).toNatClampNeg) + (σ 10 (((2 : Int32) * x2) + (1 : Int32)).toNatClampNeg)))]) (by decide) rfl [1, 2, 3, 0] rfl ?_
  refine x_iconst C dX6_hookFor_20 (v := 1) (by decide) ?_
  refine x_istore C dX6_hookFor_21 (lv2 := [(0, .ref (gs_a E 35)), (1, .ref (gs_a E 9)), (2, .int x2), (3, .int ((σ 10 ((2 : Int32) * x2).toNatClampNeg) + (σ 10 (((2 : Int32) * x2) + (1 : Int32)).toNatClampNeg))), (4, .int (1 : Int32))]) (by decide) rfl [1, 2, 3, 4, 0] rfl ?_
  refine x_lv (lv' := [(0, .ref (gs_a E 35)), (2, .int x2), (3, .int ((σ 10 ((2 : Int32) * x2).toNatClampNeg) + (σ 10 (((2 : Int32) * x2) + (1 : Int32)).toNatClampNeg))), (4, .int (1 : Int32))]) [0, 2, 3, 4] rfl ?_
  obtain ⟨q3, hq3, h⟩ := Option.bind_eq_some_iff.mp h
  refine wl_X6_hookFor_23 C (fun v3_0_4 hz => ?_) (fun  hz => ?_) 1000 _ hq3
  · subst q3
    try dsimp only at h
    refine x_iload C dX6_hookFor_58 0 rfl ?_
    replace h := Option.some.inj h
    subst h
    exact x_ret C hr rfl rfl dX6_hookFor_60
  · subst q3
    try dsimp only at h
    refine x_iconst C dX6_hookFor_67 (v := -1) (by decide) ?_
    replace h := Option.some.inj h
    subst h
    exact x_ret C hr rfl rfl dX6_hookFor_68
def b_X6_rodsThere_4 (σ : gs_H) (y : Int32 × Int32) : Option ((Int32 × Int32) ⊕ ((Int32))) :=
if (σ 9 0) ≤ y.2 then (
some (Sum.inr y.1))
else (
if inb y.2 5 then
if (σ 38 y.2.toNatClampNeg) = 0 then (
some (Sum.inl ((y.1 + (0 : Int32)), (y.2 + (1 : Int32)))))
else (
some (Sum.inl ((y.1 + (1 : Int32)), (y.2 + (1 : Int32))))) else none)
def f_X6_rodsThere (σ : gs_H) : Option (Int32) :=
(lp (b_X6_rodsThere_4 σ) 1000 ((0 : Int32), (0 : Int32))).bind fun q1 =>
some q1
set_option maxHeartbeats 4000000 in
set_option maxRecDepth 20000 in
theorem wl_X6_rodsThere_4 {E : gs_E} {l : Launch} {p : Program} {e : Env} {s : State} {m : MethodId} {args : Array Value} {below : List Frame} {meth : Method} {c : Code} (C : gs_X E RX6 cX6_rodsThere 4 p s m args meth c) {ov : Option Value} {σ0 : gs_H} {g0 : Int64} {σ : gs_H} {g : Int64} {q : (Int32)} (hx0 : ∀ (z2 : Int32), q = z2 → gs_V E 4 (0, 0) p l e s m args below meth c ov σ0 g0 35 [(2, .int z2)] [] σ g) : ∀ (n : Nat) (y2 : Int32) (y3 : Int32), lp (b_X6_rodsThere_4 σ) n (y2, y3) = some q → gs_V E 4 (0, 0) p l e s m args below meth c ov σ0 g0 4 [(0, .ref (gs_a E 35)), (1, .ref (gs_a E 9)), (2, .int y2), (3, .int y3)] [] σ g := by
  intro n
  induction n with
  | zero => intro y2 y3 h; cases h
  | succ n ih =>
    intro y2 y3 h
    obtain ⟨r, h, hl, he⟩ := lp_step h
    have hc := fun (y2 : Int32) (y3 : Int32) (hr : r = Sum.inl (y2, y3)) => ih y2 y3 (hl _ hr)
    have hk0 := fun (z2 : Int32) (hr : r = Sum.inr z2) => hx0 z2 (he _ hr).symm
    unfold b_X6_rodsThere_4 at h
    try dsimp only at h
    refine x_iload_n C dX6_rodsThere_4 rfl 3 rfl ?_
    refine x_aload_n C dX6_rodsThere_5 rfl 1 rfl ?_
    refine x_geti C 9 rfl rfl inX3 0 (by decide) rfl kF_X6_60 rfl (v := (σ 9 0)) rfl dX6_rodsThere_6 ?_
    by_cases hc1 : (σ 9 0) ≤ y3
    · replace h := (if_pos hc1).symm.trans h
      refine x_icmp_geT C dX6_rodsThere_9 (tgt := 35) (by decide) hc1 ?_
      refine x_lv (lv' := [(2, .int y2)]) [2] rfl ?_
      obtain rfl := Option.some.inj h
      exact hk0 y2 rfl
    · replace h := (if_neg hc1).symm.trans h
      refine x_icmp_geF C dX6_rodsThere_9 (tgt := 35) (by decide) hc1 ?_
      refine x_iload_n C dX6_rodsThere_12 rfl 2 rfl ?_
      refine x_aload_n C dX6_rodsThere_13 rfl 0 rfl ?_
      refine x_getr C 35 rfl rfl inX6 2 (by decide) rfl kF_X6_18 rfl dX6_rodsThere_14 ?_
      refine x_iload_n C dX6_rodsThere_17 rfl 3 rfl ?_
      obtain ⟨hb2, h⟩ := ck_some h
      refine x_zald C 38 rfl hb2 (v := (σ 38 y3.toNatClampNeg)) rfl dX6_rodsThere_18 ?_
      by_cases hc3 : (σ 38 y3.toNatClampNeg) = 0
      · replace h := (if_pos hc3).symm.trans h
        refine x_if_eqT C dX6_rodsThere_19 (tgt := 26) (by decide) hc3 ?_
        refine x_iconst C dX6_rodsThere_26 (v := 0) (by decide) ?_
        refine x_iadd C dX6_rodsThere_27 ?_
        refine x_istore_n C dX6_rodsThere_28 rfl (lv2 := [(0, .ref (gs_a E 35)), (1, .ref (gs_a E 9)), (2, .int (y2 + (0 : Int32))), (3, .int y3)]) (by decide) rfl [1, 2, 0, 3] rfl ?_
        refine x_iinc C dX6_rodsThere_29 3 rfl (v := (y3 + (1 : Int32))) rfl (lv2 := [(0, .ref (gs_a E 35)), (1, .ref (gs_a E 9)), (2, .int (y2 + (0 : Int32))), (3, .int (y3 + (1 : Int32)))]) (by decide) rfl [1, 2, 3, 0] rfl ?_
        refine x_goto C dX6_rodsThere_32 (tgt := 4) (by decide) ?_
        obtain rfl := Option.some.inj h
        exact hc (y2 + (0 : Int32)) (y3 + (1 : Int32)) rfl
      · replace h := (if_neg hc3).symm.trans h
        refine x_if_eqF C dX6_rodsThere_19 (tgt := 26) (by decide) hc3 ?_
        refine x_iconst C dX6_rodsThere_22 (v := 1) (by decide) ?_
        refine x_goto C dX6_rodsThere_23 (tgt := 27) (by decide) ?_
        refine x_iadd C dX6_rodsThere_27 ?_
        refine x_istore_n C dX6_rodsThere_28 rfl (lv2 := [(0, .ref (gs_a E 35)), (1, .ref (gs_a E 9)), (2, .int (y2 + (1 : Int32))), (3, .int y3)]) (by decide) rfl [1, 2, 0, 3] rfl ?_
        refine x_iinc C dX6_rodsThere_29 3 rfl (v := (y3 + (1 : Int32))) rfl (lv2 := [(0, .ref (gs_a E 35)), (1, .ref (gs_a E 9)), (2, .int (y2 + (1 : Int32))), (3, .int (y3 + (1 : Int32)))]) (by decide) rfl [1, 2, 3, 0] rfl ?_
        refine x_goto C dX6_rodsThere_32 (tgt := 4) (by decide) ?_
        obtain rfl := Option.some.inj h
        exact hc (y2 + (1 : Int32)) (y3 + (1 : Int32)) rfl
set_option maxHeartbeats 4000000 in
set_option maxRecDepth 20000 in
theorem m_X6_rodsThere {E : gs_E} {l : Launch} {σ : gs_H} {g : Int64} {r0 : Int32} (h : f_X6_rodsThere σ = some r0) : gs_M l E yX6_rodsThere cX6_rodsThere 4 (some .int) (0, 0) [.ref (gs_a E 35), .ref (gs_a E 9)] σ g (some (.int r0)) σ g := by
  refine x_enter (lv := [(0, .ref (gs_a E 35)), (1, .ref (gs_a E 9))]) (by decide +kernel) (Nat.le_of_ble_eq_true rfl) rfl (fun p e s m args below meth c C hr => ?_)
  unfold f_X6_rodsThere at h
  refine x_iconst C dX6_rodsThere_0 (v := 0) (by decide) ?_
  refine x_istore_n C dX6_rodsThere_1 rfl (lv2 := [(0, .ref (gs_a E 35)), (1, .ref (gs_a E 9)), (2, .int (0 : Int32))]) (by decide) rfl [1, 2, 0] rfl ?_
  refine x_iconst C dX6_rodsThere_2 (v := 0) (by decide) ?_
  refine x_istore_n C dX6_rodsThere_3 rfl (lv2 := [(0, .ref (gs_a E 35)), (1, .ref (gs_a E 9)), (2, .int (0 : Int32)), (3, .int (0 : Int32))]) (by decide) rfl [1, 2, 3, 0] rfl ?_
  obtain ⟨q1, hq1, h⟩ := Option.bind_eq_some_iff.mp h
  refine wl_X6_rodsThere_4 C (fun v1_0_2 hz => ?_) 1000 _ _ hq1
  subst q1
  try dsimp only at h
  refine x_iload_n C dX6_rodsThere_35 rfl 0 rfl ?_
  replace h := Option.some.inj h
  subst h
  exact x_ret C hr rfl rfl dX6_rodsThere_36
def j_X6_thingsThere_41 (x2 : Int32) (x3 : Int32) (t0 : Int32) (σ : gs_H) : Option ((Int32 × Int32) ⊕ ((Int32))) :=
if t0 = 0 then (
some (Sum.inl ((x2 + (0 : Int32)), (x3 + (1 : Int32)))))
else (
some (Sum.inl ((x2 + (1 : Int32)), (x3 + (1 : Int32)))))
def j_X6_thingsThere_40 (x2 : Int32) (x3 : Int32) (σ : gs_H) : Option ((Int32 × Int32) ⊕ ((Int32))) :=
j_X6_thingsThere_41 x2 x3 (0 : Int32) σ
def b_X6_thingsThere_4 (σ : gs_H) (y : Int32 × Int32) : Option ((Int32 × Int32) ⊕ ((Int32))) :=
if (σ 9 1) ≤ y.2 then (
some (Sum.inr y.1))
else (
if inb y.2 6 then
if (σ 15 y.2.toNatClampNeg) = 0 then (
(f_X3_armOf y.2 σ).bind fun q5 =>
if inb (q5 / (2 : Int32)) 5 then
if (σ 38 (q5 / (2 : Int32)).toNatClampNeg) = 0 then (
j_X6_thingsThere_40 y.1 y.2 σ)
else (
j_X6_thingsThere_41 y.1 y.2 (1 : Int32) σ) else none)
else (
j_X6_thingsThere_40 y.1 y.2 σ) else none)
def f_X6_thingsThere (σ : gs_H) : Option (Int32) :=
(lp (b_X6_thingsThere_4 σ) 1000 ((0 : Int32), (0 : Int32))).bind fun q1 =>
some q1
set_option maxHeartbeats 4000000 in
set_option maxRecDepth 20000 in
theorem wj_X6_thingsThere_41 {E : gs_E} {l : Launch} {p : Program} {e : Env} {s : State} {m : MethodId} {args : Array Value} {below : List Frame} {meth : Method} {c : Code} (C : gs_X E RX6 cX6_thingsThere 5 p s m args meth c) {ov : Option Value} {σ0 : gs_H} {g0 : Int64} {x2 : Int32} {x3 : Int32} {t0 : Int32} {σ : gs_H} {g : Int64} {r : (Int32 × Int32) ⊕ ((Int32))} (h : j_X6_thingsThere_41 x2 x3 t0 σ = some r) (hc : ∀ (y2 : Int32) (y3 : Int32), r = Sum.inl (y2, y3) → gs_V E 5 (2, 44) p l e s m args below meth c ov σ0 g0 4 [(0, .ref (gs_a E 35)), (1, .ref (gs_a E 9)), (2, .int y2), (3, .int y3)] [] σ g) (hk0 : ∀ (z2 : Int32), r = Sum.inr z2 → gs_V E 5 (2, 44) p l e s m args below meth c ov σ0 g0 62 [(2, .int z2)] [] σ g) : gs_V E 5 (2, 44) p l e s m args below meth c ov σ0 g0 41 [(0, .ref (gs_a E 35)), (1, .ref (gs_a E 9)), (2, .int x2), (3, .int x3)] [.int t0] σ g := by
  unfold j_X6_thingsThere_41 at h
  refine x_istore C dX6_thingsThere_41 (lv2 := [(0, .ref (gs_a E 35)), (1, .ref (gs_a E 9)), (2, .int x2), (3, .int x3), (4, .int t0)]) (by decide) rfl [1, 2, 3, 4, 0] rfl ?_
  refine x_iload_n C dX6_thingsThere_43 rfl 2 rfl ?_
  refine x_iload C dX6_thingsThere_44 4 rfl ?_
  by_cases hc1 : t0 = 0
  · replace h := (if_pos hc1).symm.trans h
    refine x_if_eqT C dX6_thingsThere_46 (tgt := 53) (by decide) hc1 ?_
    refine x_iconst C dX6_thingsThere_53 (v := 0) (by decide) ?_
    refine x_iadd C dX6_thingsThere_54 ?_
    refine x_istore_n C dX6_thingsThere_55 rfl (lv2 := [(0, .ref (gs_a E 35)), (1, .ref (gs_a E 9)), (2, .int (x2 + (0 : Int32))), (3, .int x3), (4, .int t0)]) (by decide) rfl [1, 2, 0, 3, 4] rfl ?_
    refine x_iinc C dX6_thingsThere_56 3 rfl (v := (x3 + (1 : Int32))) rfl (lv2 := [(0, .ref (gs_a E 35)), (1, .ref (gs_a E 9)), (2, .int (x2 + (0 : Int32))), (3, .int (x3 + (1 : Int32))), (4, .int t0)]) (by decide) rfl [1, 2, 3, 0, 4] rfl ?_
    refine x_goto C dX6_thingsThere_59 (tgt := 4) (by decide) ?_
    refine x_lv (lv' := [(0, .ref (gs_a E 35)), (1, .ref (gs_a E 9)), (2, .int (x2 + (0 : Int32))), (3, .int (x3 + (1 : Int32)))]) [0, 1, 2, 3] rfl ?_
    obtain rfl := Option.some.inj h
    exact hc (x2 + (0 : Int32)) (x3 + (1 : Int32)) rfl
  · replace h := (if_neg hc1).symm.trans h
    refine x_if_eqF C dX6_thingsThere_46 (tgt := 53) (by decide) hc1 ?_
    refine x_iconst C dX6_thingsThere_49 (v := 1) (by decide) ?_
    refine x_goto C dX6_thingsThere_50 (tgt := 54) (by decide) ?_
    refine x_iadd C dX6_thingsThere_54 ?_
    refine x_istore_n C dX6_thingsThere_55 rfl (lv2 := [(0, .ref (gs_a E 35)), (1, .ref (gs_a E 9)), (2, .int (x2 + (1 : Int32))), (3, .int x3), (4, .int t0)]) (by decide) rfl [1, 2, 0, 3, 4] rfl ?_
    refine x_iinc C dX6_thingsThere_56 3 rfl (v := (x3 + (1 : Int32))) rfl (lv2 := [(0, .ref (gs_a E 35)), (1, .ref (gs_a E 9)), (2, .int (x2 + (1 : Int32))), (3, .int (x3 + (1 : Int32))), (4, .int t0)]) (by decide) rfl [1, 2, 3, 0, 4] rfl ?_
    refine x_goto C dX6_thingsThere_59 (tgt := 4) (by decide) ?_
    refine x_lv (lv' := [(0, .ref (gs_a E 35)), (1, .ref (gs_a E 9)), (2, .int (x2 + (1 : Int32))), (3, .int (x3 + (1 : Int32)))]) [0, 1, 2, 3] rfl ?_
    obtain rfl := Option.some.inj h
    exact hc (x2 + (1 : Int32)) (x3 + (1 : Int32)) rfl
set_option maxHeartbeats 4000000 in
set_option maxRecDepth 20000 in
theorem wj_X6_thingsThere_40 {E : gs_E} {l : Launch} {p : Program} {e : Env} {s : State} {m : MethodId} {args : Array Value} {below : List Frame} {meth : Method} {c : Code} (C : gs_X E RX6 cX6_thingsThere 5 p s m args meth c) {ov : Option Value} {σ0 : gs_H} {g0 : Int64} {x2 : Int32} {x3 : Int32} {σ : gs_H} {g : Int64} {r : (Int32 × Int32) ⊕ ((Int32))} (h : j_X6_thingsThere_40 x2 x3 σ = some r) (hc : ∀ (y2 : Int32) (y3 : Int32), r = Sum.inl (y2, y3) → gs_V E 5 (2, 44) p l e s m args below meth c ov σ0 g0 4 [(0, .ref (gs_a E 35)), (1, .ref (gs_a E 9)), (2, .int y2), (3, .int y3)] [] σ g) (hk0 : ∀ (z2 : Int32), r = Sum.inr z2 → gs_V E 5 (2, 44) p l e s m args below meth c ov σ0 g0 62 [(2, .int z2)] [] σ g) : gs_V E 5 (2, 44) p l e s m args below meth c ov σ0 g0 40 [(0, .ref (gs_a E 35)), (1, .ref (gs_a E 9)), (2, .int x2), (3, .int x3)] [] σ g := by
  unfold j_X6_thingsThere_40 at h
  refine x_iconst C dX6_thingsThere_40 (v := 0) (by decide) ?_
  exact wj_X6_thingsThere_41 C h hc hk0
set_option maxHeartbeats 4000000 in
set_option maxRecDepth 20000 in
theorem wl_X6_thingsThere_4 {E : gs_E} {l : Launch} {p : Program} {e : Env} {s : State} {m : MethodId} {args : Array Value} {below : List Frame} {meth : Method} {c : Code} (C : gs_X E RX6 cX6_thingsThere 5 p s m args meth c) {ov : Option Value} {σ0 : gs_H} {g0 : Int64} {σ : gs_H} {g : Int64} {q : (Int32)} (hx0 : ∀ (z2 : Int32), q = z2 → gs_V E 5 (2, 44) p l e s m args below meth c ov σ0 g0 62 [(2, .int z2)] [] σ g) : ∀ (n : Nat) (y2 : Int32) (y3 : Int32), lp (b_X6_thingsThere_4 σ) n (y2, y3) = some q → gs_V E 5 (2, 44) p l e s m args below meth c ov σ0 g0 4 [(0, .ref (gs_a E 35)), (1, .ref (gs_a E 9)), (2, .int y2), (3, .int y3)] [] σ g := by
  intro n
  induction n with
  | zero => intro y2 y3 h; cases h
  | succ n ih =>
    intro y2 y3 h
    obtain ⟨r, h, hl, he⟩ := lp_step h
    have hc := fun (y2 : Int32) (y3 : Int32) (hr : r = Sum.inl (y2, y3)) => ih y2 y3 (hl _ hr)
    have hk0 := fun (z2 : Int32) (hr : r = Sum.inr z2) => hx0 z2 (he _ hr).symm
    unfold b_X6_thingsThere_4 at h
    try dsimp only at h
    refine x_iload_n C dX6_thingsThere_4 rfl 3 rfl ?_
    refine x_aload_n C dX6_thingsThere_5 rfl 1 rfl ?_
    refine x_geti C 9 rfl rfl inX3 1 (by decide) rfl kF_X6_42 rfl (v := (σ 9 1)) rfl dX6_thingsThere_6 ?_
    by_cases hc1 : (σ 9 1) ≤ y3
    · replace h := (if_pos hc1).symm.trans h
      refine x_icmp_geT C dX6_thingsThere_9 (tgt := 62) (by decide) hc1 ?_
      refine x_lv (lv' := [(2, .int y2)]) [2] rfl ?_
      obtain rfl := Option.some.inj h
      exact hk0 y2 rfl
    · replace h := (if_neg hc1).symm.trans h
      refine x_icmp_geF C dX6_thingsThere_9 (tgt := 62) (by decide) hc1 ?_
      refine x_aload_n C dX6_thingsThere_12 rfl 1 rfl ?_
      refine x_getr C 9 rfl rfl inX3 8 (by decide) rfl kF_X6_57 rfl dX6_thingsThere_13 ?_
      refine x_iload_n C dX6_thingsThere_16 rfl 3 rfl ?_
      obtain ⟨hb2, h⟩ := ck_some h
      refine x_zald C 15 rfl hb2 (v := (σ 15 y3.toNatClampNeg)) rfl dX6_thingsThere_17 ?_
      by_cases hc3 : (σ 15 y3.toNatClampNeg) = 0
      · replace h := (if_pos hc3).symm.trans h
        refine x_if_neF C dX6_thingsThere_18 (tgt := 40) (by decide) hc3 ?_
        refine x_aload_n C dX6_thingsThere_21 rfl 0 rfl ?_
        refine x_getr C 35 rfl rfl inX6 2 (by decide) rfl kF_X6_18 rfl dX6_thingsThere_22 ?_
        refine x_aload_n C dX6_thingsThere_25 rfl 1 rfl ?_
        refine x_iload_n C dX6_thingsThere_26 rfl 3 rfl ?_
        obtain ⟨v4, hv4, h⟩ := Option.bind_eq_some_iff.mp h
        refine x_callV C 9 (m_X3_armOf hv4) rfl rfl kM_X6_80 kI_X3_armOf kS_X3_armOf kN_X3 kC_X3_armOf kD_X3_armOf rfl ⟨Nat.le_of_ble_eq_true rfl, Nat.le_of_ble_eq_true rfl⟩ ⟨Nat.le_refl _, Nat.le_refl _⟩ (rest := [.ref (gs_a E 38)]) rfl (Nat.le_of_ble_eq_true rfl) dX6_thingsThere_27 (st' := [.int v4, .ref (gs_a E 38)]) rfl ?_
        refine x_iconst C dX6_thingsThere_30 (v := 2) (by decide) ?_
        refine x_idiv C dX6_thingsThere_31 (by decide) ?_
        obtain ⟨hb5, h⟩ := ck_some h
        refine x_zald C 38 rfl hb5 (v := (σ 38 (v4 / (2 : Int32)).toNatClampNeg)) rfl dX6_thingsThere_32 ?_
        by_cases hc6 : (σ 38 (v4 / (2 : Int32)).toNatClampNeg) = 0
        · replace h := (if_pos hc6).symm.trans h
          refine x_if_eqT C dX6_thingsThere_33 (tgt := 40) (by decide) hc6 ?_
          exact wj_X6_thingsThere_40 C h hc hk0
        · replace h := (if_neg hc6).symm.trans h
          refine x_if_eqF C dX6_thingsThere_33 (tgt := 40) (by decide) hc6 ?_
          refine x_iconst C dX6_thingsThere_36 (v := 1) (by decide) ?_
          refine x_goto C dX6_thingsThere_37 (tgt := 41) (by decide) ?_
          exact wj_X6_thingsThere_41 C h hc hk0
      · replace h := (if_neg hc3).symm.trans h
        refine x_if_neT C dX6_thingsThere_18 (tgt := 40) (by decide) hc3 ?_
        exact wj_X6_thingsThere_40 C h hc hk0
set_option maxHeartbeats 4000000 in
set_option maxRecDepth 20000 in
theorem m_X6_thingsThere {E : gs_E} {l : Launch} {σ : gs_H} {g : Int64} {r0 : Int32} (h : f_X6_thingsThere σ = some r0) : gs_M l E yX6_thingsThere cX6_thingsThere 5 (some .int) (2, 44) [.ref (gs_a E 35), .ref (gs_a E 9)] σ g (some (.int r0)) σ g := by
  refine x_enter (lv := [(0, .ref (gs_a E 35)), (1, .ref (gs_a E 9))]) (by decide +kernel) (Nat.le_of_ble_eq_true rfl) rfl (fun p e s m args below meth c C hr => ?_)
  unfold f_X6_thingsThere at h
  refine x_iconst C dX6_thingsThere_0 (v := 0) (by decide) ?_
  refine x_istore_n C dX6_thingsThere_1 rfl (lv2 := [(0, .ref (gs_a E 35)), (1, .ref (gs_a E 9)), (2, .int (0 : Int32))]) (by decide) rfl [1, 2, 0] rfl ?_
  refine x_iconst C dX6_thingsThere_2 (v := 0) (by decide) ?_
  refine x_istore_n C dX6_thingsThere_3 rfl (lv2 := [(0, .ref (gs_a E 35)), (1, .ref (gs_a E 9)), (2, .int (0 : Int32)), (3, .int (0 : Int32))]) (by decide) rfl [1, 2, 3, 0] rfl ?_
  obtain ⟨q1, hq1, h⟩ := Option.bind_eq_some_iff.mp h
  refine wl_X6_thingsThere_4 C (fun v1_0_2 hz => ?_) 1000 _ _ hq1
  subst q1
  try dsimp only at h
  refine x_iload_n C dX6_thingsThere_62 rfl 0 rfl ?_
  replace h := Option.some.inj h
  subst h
  exact x_ret C hr rfl rfl dX6_thingsThere_63
