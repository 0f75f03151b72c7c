def b_X9_hookOf_42 (x2 : Int32) (x3 : Int32) (x4 : Int32) (σ : gs_H) (y : Int32) : Option ((Int32) ⊕ ((Int32) ⊕ (Unit))) :=
if x2 ≤ y then (
some (Sum.inr (Sum.inr ())))
else (
if (x4 * (x2 - y)) = (x3 * y) then (
some (Sum.inr (Sum.inl y)))
else (
some (Sum.inl (y + (1 : Int32)))))
def f_X9_hookOf (x1 : Int32) (σ : gs_H) : Option (Int32) :=
if inb ((2 : Int32) * x1) 10 then
if inb (((2 : Int32) * x1) + (1 : Int32)) 10 then
(f_X9_hungThen ((2 : Int32) * x1) σ).bind fun q3 =>
(f_X9_hungThen (((2 : Int32) * x1) + (1 : Int32)) σ).bind fun q4 =>
(lp (b_X9_hookOf_42 ((σ 59 ((2 : Int32) * x1).toNatClampNeg) + (σ 59 (((2 : Int32) * x1) + (1 : Int32)).toNatClampNeg)) q3 q4 σ) 1000 (1 : Int32)).bind fun q5 =>
match q5 with
| .inl q5_0 =>
some q5_0
| .inr q5_1 =>
some (-1 : Int32) else none else none
set_option maxHeartbeats 4000000 in
set_option maxRecDepth 20000 in
theorem wl_X9_hookOf_42 {E : gs_E} {l : Launch} {p : Program} {e : Env} {s : State} {m : MethodId} {args : Array Value} {below : List Frame} {meth : Method} {c : Code} (C : gs_X E RX9 cX9_hookOf 6 p s m args meth c) {ov : Option Value} {σ0 : gs_H} {g0 : Int64} {x2 : Int32} {x3 : Int32} {x4 : Int32} {σ : gs_H} {g : Int64} {q : (Int32) ⊕ (Unit)} (hx0 : ∀ (z5 : Int32), q = (Sum.inl z5) → gs_V E 6 (3, 65) p l e s m args below meth c ov σ0 g0 62 [(5, .int z5)] [] σ g) (hx1 : q = (Sum.inr ()) → gs_V E 6 (3, 65) p l e s m args below meth c ov σ0 g0 71 [] [] σ g) : ∀ (n : Nat) (y5 : Int32), lp (b_X9_hookOf_42 x2 x3 x4 σ) n y5 = some q → gs_V E 6 (3, 65) p l e s m args below meth c ov σ0 g0 42 [(2, .int x2), (3, .int x3), (4, .int x4), (5, .int y5)] [] σ g := by
  intro n
  induction n with
  | zero => intro y5 h; cases h
  | succ n ih =>
    intro y5 h
    obtain ⟨r, h, hl, he⟩ := lp_step h
    have hc := fun (y5 : Int32) (hr : r = Sum.inl y5) => ih y5 (hl _ hr)
    have hk0 := fun (z5 : Int32) (hr : r = Sum.inr (Sum.inl z5)) => hx0 z5 (he _ hr).symm
    have hk1 := fun (hr : r = Sum.inr (Sum.inr ())) => hx1 (he _ hr).symm
    unfold b_X9_hookOf_42 at h
    try dsimp only at h
    refine x_iload C dX9_hookOf_42 3 rfl ?_
    refine x_iload_n C dX9_hookOf_44 rfl 0 rfl ?_
    by_cases hc1 : x2 ≤ y5
    · replace h := (if_pos hc1).symm.trans h
      refine x_icmp_geT C dX9_hookOf_45 (tgt := 71) (by decide) hc1 ?_
      refine x_lv (lv' := []) [] rfl ?_
      obtain rfl := Option.some.inj h
      exact hk1  rfl
    · replace h := (if_neg hc1).symm.trans h
      refine x_icmp_geF C dX9_hookOf_45 (tgt := 71) (by decide) hc1 ?_
      refine x_iload C dX9_hookOf_48 2 rfl ?_
      refine x_iload_n C dX9_hookOf_50 rfl 0 rfl ?_
      refine x_iload C dX9_hookOf_51 3 rfl ?_
      refine x_isub C dX9_hookOf_53 ?_
      refine x_imul C dX9_hookOf_54 ?_
      refine x_iload_n C dX9_hookOf_55 rfl 1 rfl ?_
      refine x_iload C dX9_hookOf_56 3 rfl ?_
      refine x_imul C dX9_hookOf_58 ?_
      by_cases hc2 : (x4 * (x2 - y5)) = (x3 * y5)
      · replace h := (if_pos hc2).symm.trans h
        refine x_icmp_neF C dX9_hookOf_59 (tgt := 65) (by decide) hc2 ?_
        refine x_lv (lv' := [(5, .int y5)]) [3] rfl ?_
        obtain rfl := Option.some.inj h
        exact hk0 y5 rfl
      · replace h := (if_neg hc2).symm.trans h
        refine x_icmp_neT C dX9_hookOf_59 (tgt := 65) (by decide) hc2 ?_
        refine x_iinc C dX9_hookOf_65 3 rfl (v := (y5 + (1 : Int32))) rfl (lv2 := [(2, .int x2), (3, .int x3), (4, .int x4), (5, .int (y5 + (1 : Int32)))]) (by decide) rfl [1, 2, 3, 0] rfl ?_
        refine x_goto C dX9_hookOf_68 (tgt := 42) (by decide) ?_
        obtain rfl := Option.some.inj h
        exact hc (y5 + (1 : Int32)) rfl
set_option maxHeartbeats 4000000 in
set_option maxRecDepth 20000 in
theorem m_X9_hookOf {E : gs_E} {l : Launch} {x1 : Int32} {σ : gs_H} {g : Int64} {r0 : Int32} (h : f_X9_hookOf x1 σ = some r0) : gs_M l E yX9_hookOf cX9_hookOf 6 (some .int) (3, 65) [.ref (gs_a E 57), .int x1] σ g (some (.int r0)) σ g := by
  refine x_enter (lv := [(0, .ref (gs_a E 57)), (1, .int x1)]) (by decide +kernel) (Nat.le_of_ble_eq_true rfl) rfl (fun p e s m args below meth c C hr => ?_)
  unfold f_X9_hookOf at h
  refine x_aload_n C dX9_hookOf_0 rfl 0 rfl ?_
  refine x_getr C 57 rfl rfl inX9 10 (by decide) rfl kF_X9_13 rfl dX9_hookOf_1 ?_
  refine x_iconst C dX9_hookOf_4 (v := 2) (by decide) ?_
  refine x_iload_n C dX9_hookOf_5 rfl 1 rfl ?_
  refine x_imul C dX9_hookOf_6 ?_
  obtain ⟨hb1, h⟩ := ck_some h
  refine x_iald C 59 rfl hb1 (v := (σ 59 ((2 : Int32) * x1).toNatClampNeg)) rfl dX9_hookOf_7 ?_
  refine x_aload_n C dX9_hookOf_8 rfl 0 rfl ?_
  refine x_getr C 57 rfl rfl inX9 10 (by decide) rfl kF_X9_13 rfl dX9_hookOf_9 ?_
  refine x_iconst C dX9_hookOf_12 (v := 2) (by decide) ?_
  refine x_iload_n C dX9_hookOf_13 rfl 1 rfl ?_
  refine x_imul C dX9_hookOf_14 ?_
  refine x_iconst C dX9_hookOf_15 (v := 1) (by decide) ?_
  refine x_iadd C dX9_hookOf_16 ?_
  obtain ⟨hb2, h⟩ := ck_some h
  refine x_iald C 59 rfl hb2 (v := (σ 59 (((2 : Int32) * x1) + (1 : Int32)).toNatClampNeg)) rfl dX9_hookOf_17 ?_
  refine x_iadd C dX9_hookOf_18 ?_
  refine x_istore_n C dX9_hookOf_19 rfl (lv2 := [(0, .ref (gs_a E 57)), (1, .int x1), (2, .int ((σ 59 ((2 : Int32) * x1).toNatClampNeg) + (σ 59 (((2 : Int32) * x1) + (1 : Int32)).toNatClampNeg)))]) (by decide) rfl [1, 2, 0] rfl ?_
  refine x_aload_n C dX9_hookOf_20 rfl 0 rfl ?_
  refine x_iconst C dX9_hookOf_21 (v := 2) (by decide) ?_
  refine x_iload_n C dX9_hookOf_22 rfl 1 rfl ?_
  refine x_imul C dX9_hookOf_23 ?_
  obtain ⟨v3, hv3, h⟩ := Option.bind_eq_some_iff.mp h
  refine x_callV C 57 (m_X9_hungThen hv3) rfl rfl kM_X9_139 kI_X9_hungThen kS_X9_hungThen kN_X9 kC_X9_hungThen kD_X9_hungThen rfl ⟨Nat.le_of_ble_eq_true rfl, Nat.le_of_ble_eq_true rfl⟩ ⟨Nat.le_refl _, Nat.le_refl _⟩ (rest := []) rfl (Nat.le_of_ble_eq_true rfl) dX9_hookOf_24 (st' := [.int v3]) rfl ?_
  refine x_istore_n C dX9_hookOf_27 rfl (lv2 := [(0, .ref (gs_a E 57)), (1, .int x1), (2, .int ((σ 59 ((2 : Int32) * x1).toNatClampNeg) + (σ 59 (((2 : Int32) * x1) + (1 : Int32)).toNatClampNeg))), (3, .int v3)]) (by decide) rfl [1, 2, 3, 0] rfl ?_
  refine x_aload_n C dX9_hookOf_28 rfl 0 rfl ?_
  refine x_iconst C dX9_hookOf_29 (v := 2) (by decide) ?_
  refine x_iload_n C dX9_hookOf_30 rfl 1 rfl ?_
  refine x_imul C dX9_hookOf_31 ?_
  refine x_iconst C dX9_hookOf_32 (v := 1) (by decide) ?_
  refine x_iadd C dX9_hookOf_33 ?_
  obtain ⟨v4, hv4, h⟩ := Option.bind_eq_some_iff.mp h
  refine x_callV C 57 (m_X9_hungThen hv4) rfl rfl kM_X9_139 kI_X9_hungThen kS_X9_hungThen kN_X9 kC_X9_hungThen kD_X9_hungThen rfl ⟨Nat.le_of_ble_eq_true rfl, Nat.le_of_ble_eq_true rfl⟩ ⟨Nat.le_refl _, Nat.le_refl _⟩ (rest := []) rfl (Nat.le_of_ble_eq_true rfl) dX9_hookOf_34 (st' := [.int v4]) rfl ?_
  refine x_istore C dX9_hookOf_37 (lv2 := [(0, .ref (gs_a E 57)), (1, .int x1), (2, .int ((σ 59 ((2 : Int32) * x1).toNatClampNeg) + (σ 59 (((2 : Int32) * x1) + (1 : Int32)).toNatClampNeg))), (3, .int v3), (4, .int v4)]) (by decide) rfl [1, 2, 3, 4, 0] rfl ?_
  refine x_iconst C dX9_hookOf_39 (v := 1) (by decide) ?_
  refine x_istore C dX9_hookOf_40 (lv2 := [(0, .ref (gs_a E 57)), (1, .int x1), (2, .int ((σ 59 ((2 : Int32) * x1).toNatClampNeg) + (σ 59 (((2 : Int32) * x1) + (1 : Int32)).toNatClampNeg))), (3, .int v3), (4, .int v4), (5, .int (1 : Int32))]) (by decide) rfl [1, 2, 3, 4, 5, 0] rfl ?_
  refine x_lv (lv' := [(2, .int ((σ 59 ((2 : Int32) * x1).toNatClampNeg) + (σ 59 (((2 : Int32) * x1) + (1 : Int32)).toNatClampNeg))), (3, .int v3), (4, .int v4), (5, .int (1 : Int32))]) [2, 3, 4, 5] rfl ?_
  obtain ⟨q5, hq5, h⟩ := Option.bind_eq_some_iff.mp h
  refine wl_X9_hookOf_42 C (fun v5_0_5 hz => ?_) (fun  hz => ?_) 1000 _ hq5
  · subst q5
    try dsimp only at h
    refine x_iload C dX9_hookOf_62 0 rfl ?_
    replace h := Option.some.inj h
    subst h
    exact x_ret C hr rfl rfl dX9_hookOf_64
  · subst q5
    try dsimp only at h
    refine x_iconst C dX9_hookOf_71 (v := -1) (by decide) ?_
    replace h := Option.some.inj h
    subst h
    exact x_ret C hr rfl rfl dX9_hookOf_72
def f_X9_tellRod (x1 : Int32) (x2 : Int32) (σ : gs_H) : Option (Int32 × gs_H) :=
(f_X9_begin σ).bind fun q1 =>
(f_X9_layTilts q1).bind fun q2 =>
if x2 = 0 then (
if inb (((2 : Int32) * x1) + x2) 10 then
some ((q2 59 (((2 : Int32) * x1) + x2).toNatClampNeg), q2) else none)
else (
if x2 = 1 then (
if inb (((2 : Int32) * x1) + x2) 10 then
some ((q2 59 (((2 : Int32) * x1) + x2).toNatClampNeg), q2) else none)
else (
if x2 = 2 then (
(f_X9_hangsOf ((((2 : Int32) * x1) + x2) - (2 : Int32)) q2).bind fun q6 =>
some (q6, q2))
else (
if x2 = 3 then (
(f_X9_hangsOf ((((2 : Int32) * x1) + x2) - (2 : Int32)) q2).bind fun q7 =>
some (q7, q2))
else (
if x2 = 4 then (
(f_X9_hungThen ((((2 : Int32) * x1) + x2) - (4 : Int32)) q2).bind fun q8 =>
some (((10000 : Int32) + q8), q2))
else (
if x2 = 5 then (
(f_X9_hungThen ((((2 : Int32) * x1) + x2) - (4 : Int32)) q2).bind fun q9 =>
some (((10000 : Int32) + q9), q2))
else (
if x2 = 6 then (
if inb x1 5 then
some (((10000 : Int32) + (q2 67 x1.toNatClampNeg)), q2) else none)
else (
if x2 = 7 then (
if inb x1 5 then
if (q2 67 x1.toNatClampNeg) = 0 then (
some ((1 : Int32), q2))
else (
some ((0 : Int32), q2)) else none)
else (
if x2 = 8 then (
(f_X9_there q2).bind fun q13 =>
some (((q13 >>> (x1 &&& 31)) &&& (1 : Int32)), q2))
else (
if x2 = 9 then (
(f_X9_hookOf x1 q2).bind fun q14 =>
some (q14, q2))
else (
if x2 = 10 then (
(f_X9_addOf x1 q2).bind fun q15 =>
some (q15, q2))
else (
some ((-102 : Int32), q2))))))))))))
set_option maxHeartbeats 4000000 in
set_option maxRecDepth 20000 in
theorem m_X9_tellRod {E : gs_E} {l : Launch} {x1 : Int32} {x2 : Int32} {σ : gs_H} {g : Int64} {r0 : Int32} {σ0 : gs_H} (h : f_X9_tellRod x1 x2 σ = some (r0, σ0)) : gs_M l E yX9_tellRod cX9_tellRod 3 (some .int) (4, 90) [.ref (gs_a E 57), .int x1, .int x2] σ g (some (.int r0)) σ0 g := by
  refine x_enter (lv := [(0, .ref (gs_a E 57)), (1, .int x1), (2, .int x2)]) (by decide +kernel) (Nat.le_of_ble_eq_true rfl) rfl (fun p e s m args below meth c C hr => ?_)
  unfold f_X9_tellRod at h
  refine x_aload_n C dX9_tellRod_0 rfl 0 rfl ?_
  obtain ⟨s1, hv1, h⟩ := Option.bind_eq_some_iff.mp h
  refine x_callV C 57 (m_X9_begin hv1) rfl rfl kM_X9_148 kI_X9_begin kS_X9_begin kN_X9 kC_X9_begin kD_X9_begin rfl ⟨Nat.le_of_ble_eq_true rfl, Nat.le_of_ble_eq_true rfl⟩ ⟨Nat.le_refl _, Nat.le_refl _⟩ (rest := []) rfl (Nat.le_of_ble_eq_true rfl) dX9_tellRod_1 (st' := []) rfl ?_
  refine x_aload_n C dX9_tellRod_4 rfl 0 rfl ?_
  obtain ⟨s2, hv2, h⟩ := Option.bind_eq_some_iff.mp h
  refine x_callV C 57 (m_X9_layTilts hv2) rfl rfl kM_X9_142 kI_X9_layTilts kS_X9_layTilts kN_X9 kC_X9_layTilts kD_X9_layTilts rfl ⟨Nat.le_of_ble_eq_true rfl, Nat.le_of_ble_eq_true rfl⟩ ⟨Nat.le_refl _, Nat.le_refl _⟩ (rest := []) rfl (Nat.le_of_ble_eq_true rfl) dX9_tellRod_5 (st' := []) rfl ?_
  refine x_iload_n C dX9_tellRod_8 rfl 2 rfl ?_
  by_cases hs3_0 : x2 = 0
  · replace h := (if_pos hs3_0).symm.trans h
    refine x_tsw C dX9_tellRod_9 0 hs3_0 (by decide) (by decide) (off := 59) rfl (tgt := 68) (by decide) ?_
    refine x_aload_n C dX9_tellRod_68 rfl 0 rfl ?_
    refine x_getr C 57 rfl rfl inX9 10 (by decide) rfl kF_X9_13 rfl dX9_tellRod_69 ?_
    refine x_iconst C dX9_tellRod_72 (v := 2) (by decide) ?_
    refine x_iload_n C dX9_tellRod_73 rfl 1 rfl ?_
    refine x_imul C dX9_tellRod_74 ?_
    refine x_iload_n C dX9_tellRod_75 rfl 2 rfl ?_
    refine x_iadd C dX9_tellRod_76 ?_
    obtain ⟨hb4, h⟩ := ck_some h
    refine x_iald C 59 rfl hb4 (v := (s2 59 (((2 : Int32) * x1) + x2).toNatClampNeg)) rfl dX9_tellRod_77 ?_
    replace h := Option.some.inj h
    obtain ⟨rfl, rfl⟩ := Prod.mk.inj h
    exact x_ret C hr rfl rfl dX9_tellRod_78
  · replace h := (if_neg hs3_0).symm.trans h
    by_cases hs3_1 : x2 = 1
    · replace h := (if_pos hs3_1).symm.trans h
      refine x_tsw C dX9_tellRod_9 1 hs3_1 (by decide) (by decide) (off := 59) rfl (tgt := 68) (by decide) ?_
      refine x_aload_n C dX9_tellRod_68 rfl 0 rfl ?_
      refine x_getr C 57 rfl rfl inX9 10 (by decide) rfl kF_X9_13 rfl dX9_tellRod_69 ?_
      refine x_iconst C dX9_tellRod_72 (v := 2) (by decide) ?_
      refine x_iload_n C dX9_tellRod_73 rfl 1 rfl ?_
      refine x_imul C dX9_tellRod_74 ?_
      refine x_iload_n C dX9_tellRod_75 rfl 2 rfl ?_
      refine x_iadd C dX9_tellRod_76 ?_
      obtain ⟨hb5, h⟩ := ck_some h
      refine x_iald C 59 rfl hb5 (v := (s2 59 (((2 : Int32) * x1) + x2).toNatClampNeg)) rfl dX9_tellRod_77 ?_
      replace h := Option.some.inj h
      obtain ⟨rfl, rfl⟩ := Prod.mk.inj h
      exact x_ret C hr rfl rfl dX9_tellRod_78
    · replace h := (if_neg hs3_1).symm.trans h
      by_cases hs3_2 : x2 = 2
      · replace h := (if_pos hs3_2).symm.trans h
        refine x_tsw C dX9_tellRod_9 2 hs3_2 (by decide) (by decide) (off := 70) rfl (tgt := 79) (by decide) ?_
        refine x_aload_n C dX9_tellRod_79 rfl 0 rfl ?_
        refine x_iconst C dX9_tellRod_80 (v := 2) (by decide) ?_
        refine x_iload_n C dX9_tellRod_81 rfl 1 rfl ?_
        refine x_imul C dX9_tellRod_82 ?_
        refine x_iload_n C dX9_tellRod_83 rfl 2 rfl ?_
        refine x_iadd C dX9_tellRod_84 ?_
        refine x_iconst C dX9_tellRod_85 (v := 2) (by decide) ?_
        refine x_isub C dX9_tellRod_86 ?_
        obtain ⟨v6, hv6, h⟩ := Option.bind_eq_some_iff.mp h
        refine x_callV C 57 (m_X9_hangsOf hv6) rfl rfl kM_X9_154 kI_X9_hangsOf kS_X9_hangsOf kN_X9 kC_X9_hangsOf kD_X9_hangsOf rfl ⟨Nat.le_of_ble_eq_true rfl, Nat.le_of_ble_eq_true rfl⟩ ⟨Nat.le_refl _, Nat.le_refl _⟩ (rest := []) rfl (Nat.le_of_ble_eq_true rfl) dX9_tellRod_87 (st' := [.int v6]) rfl ?_
        replace h := Option.some.inj h
        obtain ⟨rfl, rfl⟩ := Prod.mk.inj h
        exact x_ret C hr rfl rfl dX9_tellRod_90
      · replace h := (if_neg hs3_2).symm.trans h
        by_cases hs3_3 : x2 = 3
        · replace h := (if_pos hs3_3).symm.trans h
          refine x_tsw C dX9_tellRod_9 3 hs3_3 (by decide) (by decide) (off := 70) rfl (tgt := 79) (by decide) ?_
          refine x_aload_n C dX9_tellRod_79 rfl 0 rfl ?_
          refine x_iconst C dX9_tellRod_80 (v := 2) (by decide) ?_
          refine x_iload_n C dX9_tellRod_81 rfl 1 rfl ?_
          refine x_imul C dX9_tellRod_82 ?_
          refine x_iload_n C dX9_tellRod_83 rfl 2 rfl ?_
          refine x_iadd C dX9_tellRod_84 ?_
          refine x_iconst C dX9_tellRod_85 (v := 2) (by decide) ?_
          refine x_isub C dX9_tellRod_86 ?_
          obtain ⟨v7, hv7, h⟩ := Option.bind_eq_some_iff.mp h
          refine x_callV C 57 (m_X9_hangsOf hv7) rfl rfl kM_X9_154 kI_X9_hangsOf kS_X9_hangsOf kN_X9 kC_X9_hangsOf kD_X9_hangsOf rfl ⟨Nat.le_of_ble_eq_true rfl, Nat.le_of_ble_eq_true rfl⟩ ⟨Nat.le_refl _, Nat.le_refl _⟩ (rest := []) rfl (Nat.le_of_ble_eq_true rfl) dX9_tellRod_87 (st' := [.int v7]) rfl ?_
          replace h := Option.some.inj h
          obtain ⟨rfl, rfl⟩ := Prod.mk.inj h
          exact x_ret C hr rfl rfl dX9_tellRod_90
        · replace h := (if_neg hs3_3).symm.trans h
          by_cases hs3_4 : x2 = 4
          · replace h := (if_pos hs3_4).symm.trans h
            refine x_tsw C dX9_tellRod_9 4 hs3_4 (by decide) (by decide) (off := 82) rfl (tgt := 91) (by decide) ?_
            refine x_sipush C dX9_tellRod_91 (v := 10000) (by decide) ?_
            refine x_aload_n C dX9_tellRod_94 rfl 0 rfl ?_
            refine x_iconst C dX9_tellRod_95 (v := 2) (by decide) ?_
            refine x_iload_n C dX9_tellRod_96 rfl 1 rfl ?_
            refine x_imul C dX9_tellRod_97 ?_
            refine x_iload_n C dX9_tellRod_98 rfl 2 rfl ?_
            refine x_iadd C dX9_tellRod_99 ?_
            refine x_iconst C dX9_tellRod_100 (v := 4) (by decide) ?_
            refine x_isub C dX9_tellRod_101 ?_
            obtain ⟨v8, hv8, h⟩ := Option.bind_eq_some_iff.mp h
            refine x_callV C 57 (m_X9_hungThen hv8) rfl rfl kM_X9_139 kI_X9_hungThen kS_X9_hungThen kN_X9 kC_X9_hungThen kD_X9_hungThen rfl ⟨Nat.le_of_ble_eq_true rfl, Nat.le_of_ble_eq_true rfl⟩ ⟨Nat.le_refl _, Nat.le_refl _⟩ (rest := [.int (10000 : Int32)]) rfl (Nat.le_of_ble_eq_true rfl) dX9_tellRod_102 (st' := [.int v8, .int (10000 : Int32)]) rfl ?_
            refine x_iadd C dX9_tellRod_105 ?_
            replace h := Option.some.inj h
            obtain ⟨rfl, rfl⟩ := Prod.mk.inj h
            exact x_ret C hr rfl rfl dX9_tellRod_106
          · replace h := (if_neg hs3_4).symm.trans h
            by_cases hs3_5 : x2 = 5
            · replace h := (if_pos hs3_5).symm.trans h
              refine x_tsw C dX9_tellRod_9 5 hs3_5 (by decide) (by decide) (off := 82) rfl (tgt := 91) (by decide) ?_
              refine x_sipush C dX9_tellRod_91 (v := 10000) (by decide) ?_
              refine x_aload_n C dX9_tellRod_94 rfl 0 rfl ?_
              refine x_iconst C dX9_tellRod_95 (v := 2) (by decide) ?_
              refine x_iload_n C dX9_tellRod_96 rfl 1 rfl ?_
              refine x_imul C dX9_tellRod_97 ?_
              refine x_iload_n C dX9_tellRod_98 rfl 2 rfl ?_
              refine x_iadd C dX9_tellRod_99 ?_
              refine x_iconst C dX9_tellRod_100 (v := 4) (by decide) ?_
              refine x_isub C dX9_tellRod_101 ?_
              obtain ⟨v9, hv9, h⟩ := Option.bind_eq_some_iff.mp h
              refine x_callV C 57 (m_X9_hungThen hv9) rfl rfl kM_X9_139 kI_X9_hungThen kS_X9_hungThen kN_X9 kC_X9_hungThen kD_X9_hungThen rfl ⟨Nat.le_of_ble_eq_true rfl, Nat.le_of_ble_eq_true rfl⟩ ⟨Nat.le_refl _, Nat.le_refl _⟩ (rest := [.int (10000 : Int32)]) rfl (Nat.le_of_ble_eq_true rfl) dX9_tellRod_102 (st' := [.int v9, .int (10000 : Int32)]) rfl ?_
              refine x_iadd C dX9_tellRod_105 ?_
              replace h := Option.some.inj h
              obtain ⟨rfl, rfl⟩ := Prod.mk.inj h
              exact x_ret C hr rfl rfl dX9_tellRod_106
            · replace h := (if_neg hs3_5).symm.trans h
              by_cases hs3_6 : x2 = 6
              · replace h := (if_pos hs3_6).symm.trans h
                refine x_tsw C dX9_tellRod_9 6 hs3_6 (by decide) (by decide) (off := 98) rfl (tgt := 107) (by decide) ?_
                refine x_sipush C dX9_tellRod_107 (v := 10000) (by decide) ?_
                refine x_aload_n C dX9_tellRod_110 rfl 0 rfl ?_
                refine x_getr C 57 rfl rfl inX9 19 (by decide) rfl kF_X9_37 rfl dX9_tellRod_111 ?_
                refine x_iload_n C dX9_tellRod_114 rfl 1 rfl ?_
                obtain ⟨hb10, h⟩ := ck_some h
                refine x_iald C 67 rfl hb10 (v := (s2 67 x1.toNatClampNeg)) rfl dX9_tellRod_115 ?_
                refine x_iadd C dX9_tellRod_116 ?_
                replace h := Option.some.inj h
                obtain ⟨rfl, rfl⟩ := Prod.mk.inj h
                exact x_ret C hr rfl rfl dX9_tellRod_117
              · replace h := (if_neg hs3_6).symm.trans h
                by_cases hs3_7 : x2 = 7
                · replace h := (if_pos hs3_7).symm.trans h
                  refine x_tsw C dX9_tellRod_9 7 hs3_7 (by decide) (by decide) (off := 109) rfl (tgt := 118) (by decide) ?_
                  refine x_aload_n C dX9_tellRod_118 rfl 0 rfl ?_
                  refine x_getr C 57 rfl rfl inX9 19 (by decide) rfl kF_X9_37 rfl dX9_tellRod_119 ?_
                  refine x_iload_n C dX9_tellRod_122 rfl 1 rfl ?_
                  obtain ⟨hb11, h⟩ := ck_some h
                  refine x_iald C 67 rfl hb11 (v := (s2 67 x1.toNatClampNeg)) rfl dX9_tellRod_123 ?_
                  by_cases hc12 : (s2 67 x1.toNatClampNeg) = 0
                  · replace h := (if_pos hc12).symm.trans h
                    refine x_if_neF C dX9_tellRod_124 (tgt := 131) (by decide) hc12 ?_
                    refine x_iconst C dX9_tellRod_127 (v := 1) (by decide) ?_
                    refine x_goto C dX9_tellRod_128 (tgt := 132) (by decide) ?_
                    replace h := Option.some.inj h
                    obtain ⟨rfl, rfl⟩ := Prod.mk.inj h
                    exact x_ret C hr rfl rfl dX9_tellRod_132
                  · replace h := (if_neg hc12).symm.trans h
                    refine x_if_neT C dX9_tellRod_124 (tgt := 131) (by decide) hc12 ?_
                    refine x_iconst C dX9_tellRod_131 (v := 0) (by decide) ?_
                    replace h := Option.some.inj h
                    obtain ⟨rfl, rfl⟩ := Prod.mk.inj h
                    exact x_ret C hr rfl rfl dX9_tellRod_132
                · replace h := (if_neg hs3_7).symm.trans h
                  by_cases hs3_8 : x2 = 8
                  · replace h := (if_pos hs3_8).symm.trans h
                    refine x_tsw C dX9_tellRod_9 8 hs3_8 (by decide) (by decide) (off := 124) rfl (tgt := 133) (by decide) ?_
                    refine x_aload_n C dX9_tellRod_133 rfl 0 rfl ?_
                    obtain ⟨v13, hv13, h⟩ := Option.bind_eq_some_iff.mp h
                    refine x_callV C 57 (m_X9_there hv13) rfl rfl kM_X9_145 kI_X9_there kS_X9_there kN_X9 kC_X9_there kD_X9_there rfl ⟨Nat.le_of_ble_eq_true rfl, Nat.le_of_ble_eq_true rfl⟩ ⟨Nat.le_refl _, Nat.le_refl _⟩ (rest := []) rfl (Nat.le_of_ble_eq_true rfl) dX9_tellRod_134 (st' := [.int v13]) rfl ?_
                    refine x_iload_n C dX9_tellRod_137 rfl 1 rfl ?_
                    refine x_ishr C dX9_tellRod_138 ?_
                    refine x_iconst C dX9_tellRod_139 (v := 1) (by decide) ?_
                    refine x_iand C dX9_tellRod_140 ?_
                    replace h := Option.some.inj h
                    obtain ⟨rfl, rfl⟩ := Prod.mk.inj h
                    exact x_ret C hr rfl rfl dX9_tellRod_141
                  · replace h := (if_neg hs3_8).symm.trans h
                    by_cases hs3_9 : x2 = 9
                    · replace h := (if_pos hs3_9).symm.trans h
                      refine x_tsw C dX9_tellRod_9 9 hs3_9 (by decide) (by decide) (off := 133) rfl (tgt := 142) (by decide) ?_
                      refine x_aload_n C dX9_tellRod_142 rfl 0 rfl ?_
                      refine x_iload_n C dX9_tellRod_143 rfl 1 rfl ?_
                      obtain ⟨v14, hv14, h⟩ := Option.bind_eq_some_iff.mp h
                      refine x_callV C 57 (m_X9_hookOf hv14) rfl rfl kM_X9_157 kI_X9_hookOf kS_X9_hookOf kN_X9 kC_X9_hookOf kD_X9_hookOf rfl ⟨Nat.le_of_ble_eq_true rfl, Nat.le_of_ble_eq_true rfl⟩ ⟨Nat.le_refl _, Nat.le_refl _⟩ (rest := []) rfl (Nat.le_of_ble_eq_true rfl) dX9_tellRod_144 (st' := [.int v14]) rfl ?_
                      replace h := Option.some.inj h
                      obtain ⟨rfl, rfl⟩ := Prod.mk.inj h
                      exact x_ret C hr rfl rfl dX9_tellRod_147
                    · replace h := (if_neg hs3_9).symm.trans h
                      by_cases hs3_10 : x2 = 10
                      · replace h := (if_pos hs3_10).symm.trans h
                        refine x_tsw C dX9_tellRod_9 10 hs3_10 (by decide) (by decide) (off := 139) rfl (tgt := 148) (by decide) ?_
                        refine x_aload_n C dX9_tellRod_148 rfl 0 rfl ?_
                        refine x_iload_n C dX9_tellRod_149 rfl 1 rfl ?_
                        obtain ⟨v15, hv15, h⟩ := Option.bind_eq_some_iff.mp h
                        refine x_callV C 57 (m_X9_addOf hv15) rfl rfl kM_X9_160 kI_X9_addOf kS_X9_addOf kN_X9 kC_X9_addOf kD_X9_addOf rfl ⟨Nat.le_of_ble_eq_true rfl, Nat.le_of_ble_eq_true rfl⟩ ⟨Nat.le_refl _, Nat.le_refl _⟩ (rest := []) rfl (Nat.le_of_ble_eq_true rfl) dX9_tellRod_150 (st' := [.int v15]) rfl ?_
                        replace h := Option.some.inj h
                        obtain ⟨rfl, rfl⟩ := Prod.mk.inj h
                        exact x_ret C hr rfl rfl dX9_tellRod_153
                      · replace h := (if_neg hs3_10).symm.trans h
                        refine x_tswD C dX9_tellRod_9 (tgt := 154) (by have e0 := lv_neT hs3_0 (a := 0) rfl; have e1 := lv_neT hs3_1 (a := 1) rfl; have e2 := lv_neT hs3_2 (a := 2) rfl; have e3 := lv_neT hs3_3 (a := 3) rfl; have e4 := lv_neT hs3_4 (a := 4) rfl; have e5 := lv_neT hs3_5 (a := 5) rfl; have e6 := lv_neT hs3_6 (a := 6) rfl; have e7 := lv_neT hs3_7 (a := 7) rfl; have e8 := lv_neT hs3_8 (a := 8) rfl; have e9 := lv_neT hs3_9 (a := 9) rfl; have e10 := lv_neT hs3_10 (a := 10) rfl; omega) (by decide) ?_
                        refine x_bipush C dX9_tellRod_154 (v := -102) (by decide) ?_
                        replace h := Option.some.inj h
                        obtain ⟨rfl, rfl⟩ := Prod.mk.inj h
                        exact x_ret C hr rfl rfl dX9_tellRod_156
def f_X9_howIf (x1 : Int32) (x2 : Int32) (x3 : Int32) (x4 : Int32) (σ : gs_H) : Option (Int32) :=
if inb (((2 : Int32) * x3) + (1 : Int32)) 10 then
if inb x1 6 then
if inb ((2 : Int32) * x3) 10 then
if 0 ≤ ((x4 * (σ 59 (((2 : Int32) * x3) + (1 : Int32)).toNatClampNeg)) - ((f_X9_weighsBy (σ 62 x1.toNatClampNeg) x2 (σ 57 6)) * (σ 59 ((2 : Int32) * x3).toNatClampNeg))) then (
if ((x4 * (σ 59 (((2 : Int32) * x3) + (1 : Int32)).toNatClampNeg)) - ((f_X9_weighsBy (σ 62 x1.toNatClampNeg) x2 (σ 57 6)) * (σ 59 ((2 : Int32) * x3).toNatClampNeg))) = 0 then (
some (1 : Int32))
else (
some (2 : Int32)))
else (
some (0 : Int32)) else none else none else none
set_option maxHeartbeats 4000000 in
set_option maxRecDepth 20000 in
theorem m_X9_howIf {E : gs_E} {l : Launch} {x1 : Int32} {x2 : Int32} {x3 : Int32} {x4 : Int32} {σ : gs_H} {g : Int64} {r0 : Int32} (h : f_X9_howIf x1 x2 x3 x4 σ = some r0) : gs_M l E yX9_howIf cX9_howIf 6 (some .int) (1, 22) [.ref (gs_a E 57), .int x1, .int x2, .int x3, .int x4] σ g (some (.int r0)) σ g := by
  refine x_enter (lv := [(0, .ref (gs_a E 57)), (1, .int x1), (2, .int x2), (3, .int x3), (4, .int x4)]) (by decide +kernel) (Nat.le_of_ble_eq_true rfl) rfl (fun p e s m args below meth c C hr => ?_)
  unfold f_X9_howIf at h
  refine x_iload C dX9_howIf_0 4 rfl ?_
  refine x_aload_n C dX9_howIf_2 rfl 0 rfl ?_
  refine x_getr C 57 rfl rfl inX9 10 (by decide) rfl kF_X9_13 rfl dX9_howIf_3 ?_
  refine x_iconst C dX9_howIf_6 (v := 2) (by decide) ?_
  refine x_iload_n C dX9_howIf_7 rfl 3 rfl ?_
  refine x_imul C dX9_howIf_8 ?_
  refine x_iconst C dX9_howIf_9 (v := 1) (by decide) ?_
  refine x_iadd C dX9_howIf_10 ?_
  obtain ⟨hb1, h⟩ := ck_some h
  refine x_iald C 59 rfl hb1 (v := (σ 59 (((2 : Int32) * x3) + (1 : Int32)).toNatClampNeg)) rfl dX9_howIf_11 ?_
  refine x_imul C dX9_howIf_12 ?_
  refine x_aload_n C dX9_howIf_13 rfl 0 rfl ?_
  refine x_getr C 57 rfl rfl inX9 13 (by decide) rfl kF_X9_22 rfl dX9_howIf_14 ?_
  refine x_iload_n C dX9_howIf_17 rfl 1 rfl ?_
  obtain ⟨hb2, h⟩ := ck_some h
  refine x_iald C 62 rfl hb2 (v := (σ 62 x1.toNatClampNeg)) rfl dX9_howIf_18 ?_
  refine x_iload_n C dX9_howIf_19 rfl 2 rfl ?_
  refine x_aload_n C dX9_howIf_20 rfl 0 rfl ?_
  refine x_geti C 57 rfl rfl inX9 6 (by decide) rfl kF_X9_110 rfl (v := (σ 57 6)) rfl dX9_howIf_21 ?_
  refine x_callS C (m_X9_weighsBy rfl) kM_X9_132 kT_X9_weighsBy kN_X9 kC_X9_weighsBy kD_X9_weighsBy rfl ⟨Nat.le_of_ble_eq_true rfl, Nat.le_of_ble_eq_true rfl⟩ ⟨Nat.le_refl _, Nat.le_refl _⟩ (rest := [.int (x4 * (σ 59 (((2 : Int32) * x3) + (1 : Int32)).toNatClampNeg))]) rfl (Nat.le_of_ble_eq_true rfl) dX9_howIf_24 (st' := [.int (f_X9_weighsBy (σ 62 x1.toNatClampNeg) x2 (σ 57 6)), .int (x4 * (σ 59 (((2 : Int32) * x3) + (1 : Int32)).toNatClampNeg))]) rfl ?_
  refine x_aload_n C dX9_howIf_27 rfl 0 rfl ?_
  refine x_getr C 57 rfl rfl inX9 10 (by decide) rfl kF_X9_13 rfl dX9_howIf_28 ?_
  refine x_iconst C dX9_howIf_31 (v := 2) (by decide) ?_
  refine x_iload_n C dX9_howIf_32 rfl 3 rfl ?_
  refine x_imul C dX9_howIf_33 ?_
  obtain ⟨hb4, h⟩ := ck_some h
  refine x_iald C 59 rfl hb4 (v := (σ 59 ((2 : Int32) * x3).toNatClampNeg)) rfl dX9_howIf_34 ?_
  refine x_imul C dX9_howIf_35 ?_
  refine x_isub C dX9_howIf_36 ?_
  refine x_istore C dX9_howIf_37 (lv2 := [(0, .ref (gs_a E 57)), (1, .int x1), (2, .int x2), (3, .int x3), (4, .int x4), (5, .int ((x4 * (σ 59 (((2 : Int32) * x3) + (1 : Int32)).toNatClampNeg)) - ((f_X9_weighsBy (σ 62 x1.toNatClampNeg) x2 (σ 57 6)) * (σ 59 ((2 : Int32) * x3).toNatClampNeg))))]) (by decide) rfl [1, 2, 3, 4, 5, 0] rfl ?_
  refine x_iload C dX9_howIf_39 5 rfl ?_
  by_cases hc5 : 0 ≤ ((x4 * (σ 59 (((2 : Int32) * x3) + (1 : Int32)).toNatClampNeg)) - ((f_X9_weighsBy (σ 62 x1.toNatClampNeg) x2 (σ 57 6)) * (σ 59 ((2 : Int32) * x3).toNatClampNeg)))
  · replace h := (if_pos hc5).symm.trans h
    refine x_if_geT C dX9_howIf_41 (tgt := 48) (by decide) hc5 ?_
    refine x_iload C dX9_howIf_48 5 rfl ?_
    by_cases hc6 : ((x4 * (σ 59 (((2 : Int32) * x3) + (1 : Int32)).toNatClampNeg)) - ((f_X9_weighsBy (σ 62 x1.toNatClampNeg) x2 (σ 57 6)) * (σ 59 ((2 : Int32) * x3).toNatClampNeg))) = 0
    · replace h := (if_pos hc6).symm.trans h
      refine x_if_neF C dX9_howIf_50 (tgt := 57) (by decide) hc6 ?_
      refine x_iconst C dX9_howIf_53 (v := 1) (by decide) ?_
      refine x_goto C dX9_howIf_54 (tgt := 58) (by decide) ?_
      replace h := Option.some.inj h
      subst h
      exact x_ret C hr rfl rfl dX9_howIf_58
    · replace h := (if_neg hc6).symm.trans h
      refine x_if_neT C dX9_howIf_50 (tgt := 57) (by decide) hc6 ?_
      refine x_iconst C dX9_howIf_57 (v := 2) (by decide) ?_
      replace h := Option.some.inj h
      subst h
      exact x_ret C hr rfl rfl dX9_howIf_58
  · replace h := (if_neg hc5).symm.trans h
    refine x_if_geF C dX9_howIf_41 (tgt := 48) (by decide) hc5 ?_
    refine x_iconst C dX9_howIf_44 (v := 0) (by decide) ?_
    refine x_goto C dX9_howIf_45 (tgt := 58) (by decide) ?_
    replace h := Option.some.inj h
    subst h
    exact x_ret C hr rfl rfl dX9_howIf_58
def b_X9_sizesOf_16 (x1 : Int32) (x3 : Int32) (σ : gs_H) (y : Int32 × Int32) : Option ((Int32 × Int32) ⊕ ((Int32))) :=
if ((4 : Int32) * (σ 57 21)) ≤ y.2 then (
some (Sum.inr y.1))
else (
if y.1 = 0 then (
some (Sum.inl ((0 : Int32), (y.2 + (4 : Int32)))))
else (
if inb y.2 24 then
if (σ 68 y.2.toNatClampNeg) = x1 then (
if inb (y.2 + (1 : Int32)) 24 then
if inb (y.2 + (2 : Int32)) 24 then
(f_X9_howIf x1 x3 (σ 68 (y.2 + (1 : Int32)).toNatClampNeg) (σ 68 (y.2 + (2 : Int32)).toNatClampNeg) σ).bind fun q8 =>
if inb (y.2 + (3 : Int32)) 24 then
if q8 = (σ 68 (y.2 + (3 : Int32)).toNatClampNeg) then (
some (Sum.inl ((1 : Int32), (y.2 + (4 : Int32)))))
else (
some (Sum.inl ((0 : Int32), (y.2 + (4 : Int32))))) else none else none else none)
else (
some (Sum.inl ((1 : Int32), (y.2 + (4 : Int32))))) else none))
def b_X9_sizesOf_4 (x1 : Int32) (σ : gs_H) (y : Int32 × Int32) : Option ((Int32 × Int32) ⊕ ((Int32))) :=
if (10 : Int32) ≤ y.2 then (
some (Sum.inr y.1))
else (
(lp (b_X9_sizesOf_16 x1 y.2 σ) 1000 ((1 : Int32), (0 : Int32))).bind fun q12 =>
if q12 = 0 then (
some (Sum.inl ((y.1 ||| (0 : Int32)), (y.2 + (1 : Int32)))))
else (
some (Sum.inl ((y.1 ||| ((1 : Int32) <<< (y.2 &&& 31))), (y.2 + (1 : Int32))))))
def f_X9_sizesOf (x1 : Int32) (σ : gs_H) : Option (Int32) :=
(lp (b_X9_sizesOf_4 x1 σ) 1000 ((0 : Int32), (0 : Int32))).bind fun q1 =>
some q1
set_option maxHeartbeats 4000000 in
set_option maxRecDepth 20000 in
theorem wl_X9_sizesOf_16 {E : gs_E} {l : Launch} {p : Program} {e : Env} {s : State} {m : MethodId} {args : Array Value} {below : List Frame} {meth : Method} {c : Code} (C : gs_X E RX9 cX9_sizesOf 6 p s m args meth c) {ov : Option Value} {σ0 : gs_H} {g0 : Int64} {x1 : Int32} {x2 : Int32} {x3 : Int32} {σ : gs_H} {g : Int64} {q : (Int32)} (hx0 : ∀ (z4 : Int32), q = z4 → gs_V E 6 (2, 47) p l e s m args below meth c ov σ0 g0 92 [(0, .ref (gs_a E 57)), (1, .int x1), (2, .int x2), (3, .int x3), (4, .int z4)] [] σ g) : ∀ (n : Nat) (y4 : Int32) (y5 : Int32), lp (b_X9_sizesOf_16 x1 x3 σ) n (y4, y5) = some q → gs_V E 6 (2, 47) p l e s m args below meth c ov σ0 g0 16 [(0, .ref (gs_a E 57)), (1, .int x1), (2, .int x2), (3, .int x3), (4, .int y4), (5, .int y5)] [] σ g := by
  intro n
  induction n with
  | zero => intro y4 y5 h; cases h
  | succ n ih =>
    intro y4 y5 h
    obtain ⟨r, h, hl, he⟩ := lp_step h
    have hc := fun (y4 : Int32) (y5 : Int32) (hr : r = Sum.inl (y4, y5)) => ih y4 y5 (hl _ hr)
    have hk0 := fun (z4 : Int32) (hr : r = Sum.inr z4) => hx0 z4 (he _ hr).symm
    unfold b_X9_sizesOf_16 at h
    try dsimp only at h
    refine x_iload C dX9_sizesOf_16 5 rfl ?_
    refine x_iconst C dX9_sizesOf_18 (v := 4) (by decide) ?_
    refine x_aload_n C dX9_sizesOf_19 rfl 0 rfl ?_
    refine x_geti C 57 rfl rfl inX9 21 (by decide) rfl kF_X9_119 rfl (v := (σ 57 21)) rfl dX9_sizesOf_20 ?_
    refine x_imul C dX9_sizesOf_23 ?_
    by_cases hc1 : ((4 : Int32) * (σ 57 21)) ≤ y5
    · replace h := (if_pos hc1).symm.trans h
      refine x_icmp_geT C dX9_sizesOf_24 (tgt := 92) (by decide) hc1 ?_
      refine x_lv (lv' := [(0, .ref (gs_a E 57)), (1, .int x1), (2, .int x2), (3, .int x3), (4, .int y4)]) [0, 1, 2, 3, 4] rfl ?_
      obtain rfl := Option.some.inj h
      exact hk0 y4 rfl
    · replace h := (if_neg hc1).symm.trans h
      refine x_icmp_geF C dX9_sizesOf_24 (tgt := 92) (by decide) hc1 ?_
      refine x_iload C dX9_sizesOf_27 4 rfl ?_
      by_cases hc2 : y4 = 0
      · replace h := (if_pos hc2).symm.trans h
        refine x_if_eqT C dX9_sizesOf_29 (tgt := 83) (by decide) hc2 ?_
        refine x_iconst C dX9_sizesOf_83 (v := 0) (by decide) ?_
        refine x_istore C dX9_sizesOf_84 (lv2 := [(0, .ref (gs_a E 57)), (1, .int x1), (2, .int x2), (3, .int x3), (4, .int (0 : Int32)), (5, .int y5)]) (by decide) rfl [1, 2, 3, 4, 0, 5] rfl ?_
        refine x_iinc C dX9_sizesOf_86 5 rfl (v := (y5 + (4 : Int32))) rfl (lv2 := [(0, .ref (gs_a E 57)), (1, .int x1), (2, .int x2), (3, .int x3), (4, .int (0 : Int32)), (5, .int (y5 + (4 : Int32)))]) (by decide) rfl [1, 2, 3, 4, 5, 0] rfl ?_
        refine x_goto C dX9_sizesOf_89 (tgt := 16) (by decide) ?_
        obtain rfl := Option.some.inj h
        exact hc (0 : Int32) (y5 + (4 : Int32)) rfl
      · replace h := (if_neg hc2).symm.trans h
        refine x_if_eqF C dX9_sizesOf_29 (tgt := 83) (by decide) hc2 ?_
        refine x_aload_n C dX9_sizesOf_32 rfl 0 rfl ?_
        refine x_getr C 57 rfl rfl inX9 22 (by decide) rfl kF_X9_40 rfl dX9_sizesOf_33 ?_
        refine x_iload C dX9_sizesOf_36 5 rfl ?_
        obtain ⟨hb3, h⟩ := ck_some h
        refine x_iald C 68 rfl hb3 (v := (σ 68 y5.toNatClampNeg)) rfl dX9_sizesOf_38 ?_
        refine x_iload_n C dX9_sizesOf_39 rfl 1 rfl ?_
        by_cases hc4 : (σ 68 y5.toNatClampNeg) = x1
        · replace h := (if_pos hc4).symm.trans h
          refine x_icmp_neF C dX9_sizesOf_40 (tgt := 79) (by decide) hc4 ?_
          refine x_aload_n C dX9_sizesOf_43 rfl 0 rfl ?_
          refine x_iload_n C dX9_sizesOf_44 rfl 1 rfl ?_
          refine x_iload_n C dX9_sizesOf_45 rfl 3 rfl ?_
          refine x_aload_n C dX9_sizesOf_46 rfl 0 rfl ?_
          refine x_getr C 57 rfl rfl inX9 22 (by decide) rfl kF_X9_40 rfl dX9_sizesOf_47 ?_
          refine x_iload C dX9_sizesOf_50 5 rfl ?_
          refine x_iconst C dX9_sizesOf_52 (v := 1) (by decide) ?_
          refine x_iadd C dX9_sizesOf_53 ?_
          obtain ⟨hb5, h⟩ := ck_some h
          refine x_iald C 68 rfl hb5 (v := (σ 68 (y5 + (1 : Int32)).toNatClampNeg)) rfl dX9_sizesOf_54 ?_
          refine x_aload_n C dX9_sizesOf_55 rfl 0 rfl ?_
          refine x_getr C 57 rfl rfl inX9 22 (by decide) rfl kF_X9_40 rfl dX9_sizesOf_56 ?_
          refine x_iload C dX9_sizesOf_59 5 rfl ?_
          refine x_iconst C dX9_sizesOf_61 (v := 2) (by decide) ?_
          refine x_iadd C dX9_sizesOf_62 ?_
          obtain ⟨hb6, h⟩ := ck_some h
          refine x_iald C 68 rfl hb6 (v := (σ 68 (y5 + (2 : Int32)).toNatClampNeg)) rfl dX9_sizesOf_63 ?_
          obtain ⟨v7, hv7, h⟩ := Option.bind_eq_some_iff.mp h
          refine x_callV C 57 (m_X9_howIf hv7) rfl rfl kM_X9_235 kI_X9_howIf kS_X9_howIf kN_X9 kC_X9_howIf kD_X9_howIf rfl ⟨Nat.le_of_ble_eq_true rfl, Nat.le_of_ble_eq_true rfl⟩ ⟨Nat.le_refl _, Nat.le_refl _⟩ (rest := []) rfl (Nat.le_of_ble_eq_true rfl) dX9_sizesOf_64 (st' := [.int v7]) rfl ?_
          refine x_aload_n C dX9_sizesOf_67 rfl 0 rfl ?_
          refine x_getr C 57 rfl rfl inX9 22 (by decide) rfl kF_X9_40 rfl dX9_sizesOf_68 ?_
          refine x_iload C dX9_sizesOf_71 5 rfl ?_
          refine x_iconst C dX9_sizesOf_73 (v := 3) (by decide) ?_
          refine x_iadd C dX9_sizesOf_74 ?_
          obtain ⟨hb8, h⟩ := ck_some h
          refine x_iald C 68 rfl hb8 (v := (σ 68 (y5 + (3 : Int32)).toNatClampNeg)) rfl dX9_sizesOf_75 ?_
          by_cases hc9 : v7 = (σ 68 (y5 + (3 : Int32)).toNatClampNeg)
          · replace h := (if_pos hc9).symm.trans h
            refine x_icmp_neF C dX9_sizesOf_76 (tgt := 83) (by decide) hc9 ?_
            refine x_iconst C dX9_sizesOf_79 (v := 1) (by decide) ?_
            refine x_goto C dX9_sizesOf_80 (tgt := 84) (by decide) ?_
            refine x_istore C dX9_sizesOf_84 (lv2 := [(0, .ref (gs_a E 57)), (1, .int x1), (2, .int x2), (3, .int x3), (4, .int (1 : Int32)), (5, .int y5)]) (by decide) rfl [1, 2, 3, 4, 0, 5] rfl ?_
            refine x_iinc C dX9_sizesOf_86 5 rfl (v := (y5 + (4 : Int32))) rfl (lv2 := [(0, .ref (gs_a E 57)), (1, .int x1), (2, .int x2), (3, .int x3), (4, .int (1 : Int32)), (5, .int (y5 + (4 : Int32)))]) (by decide) rfl [1, 2, 3, 4, 5, 0] rfl ?_
            refine x_goto C dX9_sizesOf_89 (tgt := 16) (by decide) ?_
            obtain rfl := Option.some.inj h
            exact hc (1 : Int32) (y5 + (4 : Int32)) rfl
          · replace h := (if_neg hc9).symm.trans h
            refine x_icmp_neT C dX9_sizesOf_76 (tgt := 83) (by decide) hc9 ?_
            refine x_iconst C dX9_sizesOf_83 (v := 0) (by decide) ?_
            refine x_istore C dX9_sizesOf_84 (lv2 := [(0, .ref (gs_a E 57)), (1, .int x1), (2, .int x2), (3, .int x3), (4, .int (0 : Int32)), (5, .int y5)]) (by decide) rfl [1, 2, 3, 4, 0, 5] rfl ?_
            refine x_iinc C dX9_sizesOf_86 5 rfl (v := (y5 + (4 : Int32))) rfl (lv2 := [(0, .ref (gs_a E 57)), (1, .int x1), (2, .int x2), (3, .int x3), (4, .int (0 : Int32)), (5, .int (y5 + (4 : Int32)))]) (by decide) rfl [1, 2, 3, 4, 5, 0] rfl ?_
            refine x_goto C dX9_sizesOf_89 (tgt := 16) (by decide) ?_
            obtain rfl := Option.some.inj h
            exact hc (0 : Int32) (y5 + (4 : Int32)) rfl
        · replace h := (if_neg hc4).symm.trans h
          refine x_icmp_neT C dX9_sizesOf_40 (tgt := 79) (by decide) hc4 ?_
          refine x_iconst C dX9_sizesOf_79 (v := 1) (by decide) ?_
          refine x_goto C dX9_sizesOf_80 (tgt := 84) (by decide) ?_
          refine x_istore C dX9_sizesOf_84 (lv2 := [(0, .ref (gs_a E 57)), (1, .int x1), (2, .int x2), (3, .int x3), (4, .int (1 : Int32)), (5, .int y5)]) (by decide) rfl [1, 2, 3, 4, 0, 5] rfl ?_
          refine x_iinc C dX9_sizesOf_86 5 rfl (v := (y5 + (4 : Int32))) rfl (lv2 := [(0, .ref (gs_a E 57)), (1, .int x1), (2, .int x2), (3, .int x3), (4, .int (1 : Int32)), (5, .int (y5 + (4 : Int32)))]) (by decide) rfl [1, 2, 3, 4, 5, 0] rfl ?_
          refine x_goto C dX9_sizesOf_89 (tgt := 16) (by decide) ?_
          obtain rfl := Option.some.inj h
          exact hc (1 : Int32) (y5 + (4 : Int32)) rfl
set_option maxHeartbeats 4000000 in
set_option maxRecDepth 20000 in
theorem wl_X9_sizesOf_4 {E : gs_E} {l : Launch} {p : Program} {e : Env} {s : State} {m : MethodId} {args : Array Value} {below : List Frame} {meth : Method} {c : Code} (C : gs_X E RX9 cX9_sizesOf 6 p s m args meth c) {ov : Option Value} {σ0 : gs_H} {g0 : Int64} {x1 : Int32} {σ : gs_H} {g : Int64} {q : (Int32)} (hx0 : ∀ (z2 : Int32), q = z2 → gs_V E 6 (2, 47) p l e s m args below meth c ov σ0 g0 113 [(2, .int z2)] [] σ g) : ∀ (n : Nat) (y2 : Int32) (y3 : Int32), lp (b_X9_sizesOf_4 x1 σ) n (y2, y3) = some q → gs_V E 6 (2, 47) p l e s m args below meth c ov σ0 g0 4 [(0, .ref (gs_a E 57)), (1, .int x1), (2, .int y2), (3, .int y3)] [] σ g := by
  intro n
  induction n with
  | zero => intro y2 y3 h; cases h
  | succ n ih =>
    intro y2 y3 h
    obtain ⟨r, h, hl, he⟩ := lp_step h
    have hc := fun (y2 : Int32) (y3 : Int32) (hr : r = Sum.inl (y2, y3)) => ih y2 y3 (hl _ hr)
    have hk0 := fun (z2 : Int32) (hr : r = Sum.inr z2) => hx0 z2 (he _ hr).symm
    unfold b_X9_sizesOf_4 at h
    try dsimp only at h
    refine x_iload_n C dX9_sizesOf_4 rfl 3 rfl ?_
    refine x_bipush C dX9_sizesOf_5 (v := 10) (by decide) ?_
    by_cases hc1 : (10 : Int32) ≤ y3
    · replace h := (if_pos hc1).symm.trans h
      refine x_icmp_geT C dX9_sizesOf_7 (tgt := 113) (by decide) hc1 ?_
      refine x_lv (lv' := [(2, .int y2)]) [2] rfl ?_
      obtain rfl := Option.some.inj h
      exact hk0 y2 rfl
    · replace h := (if_neg hc1).symm.trans h
      refine x_icmp_geF C dX9_sizesOf_7 (tgt := 113) (by decide) hc1 ?_
      refine x_iconst C dX9_sizesOf_10 (v := 1) (by decide) ?_
      refine x_istore C dX9_sizesOf_11 (lv2 := [(0, .ref (gs_a E 57)), (1, .int x1), (2, .int y2), (3, .int y3), (4, .int (1 : Int32))]) (by decide) rfl [1, 2, 3, 4, 0] rfl ?_
      refine x_iconst C dX9_sizesOf_13 (v := 0) (by decide) ?_
      refine x_istore C dX9_sizesOf_14 (lv2 := [(0, .ref (gs_a E 57)), (1, .int x1), (2, .int y2), (3, .int y3), (4, .int (1 : Int32)), (5, .int (0 : Int32))]) (by decide) rfl [1, 2, 3, 4, 5, 0] rfl ?_
      obtain ⟨q2, hq2, h⟩ := Option.bind_eq_some_iff.mp h
      refine wl_X9_sizesOf_16 C (fun v2_0_4 hz => ?_) 1000 _ _ hq2
      subst q2
      try dsimp only at h
      refine x_iload_n C dX9_sizesOf_92 rfl 2 rfl ?_
      refine x_iload C dX9_sizesOf_93 4 rfl ?_
      by_cases hc3 : v2_0_4 = 0
      · replace h := (if_pos hc3).symm.trans h
        refine x_if_eqT C dX9_sizesOf_95 (tgt := 104) (by decide) hc3 ?_
        refine x_iconst C dX9_sizesOf_104 (v := 0) (by decide) ?_
        refine x_ior C dX9_sizesOf_105 ?_
        refine x_istore_n C dX9_sizesOf_106 rfl (lv2 := [(0, .ref (gs_a E 57)), (1, .int x1), (2, .int (y2 ||| (0 : Int32))), (3, .int y3), (4, .int v2_0_4)]) (by decide) rfl [1, 2, 0, 3, 4] rfl ?_
        refine x_iinc C dX9_sizesOf_107 3 rfl (v := (y3 + (1 : Int32))) rfl (lv2 := [(0, .ref (gs_a E 57)), (1, .int x1), (2, .int (y2 ||| (0 : Int32))), (3, .int (y3 + (1 : Int32))), (4, .int v2_0_4)]) (by decide) rfl [1, 2, 3, 0, 4] rfl ?_
        refine x_goto C dX9_sizesOf_110 (tgt := 4) (by decide) ?_
        refine x_lv (lv' := [(0, .ref (gs_a E 57)), (1, .int x1), (2, .int (y2 ||| (0 : Int32))), (3, .int (y3 + (1 : Int32)))]) [0, 1, 2, 3] rfl ?_
        obtain rfl := Option.some.inj h
        exact hc (y2 ||| (0 : Int32)) (y3 + (1 : Int32)) rfl
      · replace h := (if_neg hc3).symm.trans h
        refine x_if_eqF C dX9_sizesOf_95 (tgt := 104) (by decide) hc3 ?_
        refine x_iconst C dX9_sizesOf_98 (v := 1) (by decide) ?_
        refine x_iload_n C dX9_sizesOf_99 rfl 3 rfl ?_
        refine x_ishl C dX9_sizesOf_100 ?_
        refine x_goto C dX9_sizesOf_101 (tgt := 105) (by decide) ?_
        refine x_ior C dX9_sizesOf_105 ?_
        refine x_istore_n C dX9_sizesOf_106 rfl (lv2 := [(0, .ref (gs_a E 57)), (1, .int x1), (2, .int (y2 ||| ((1 : Int32) <<< (y3 &&& 31)))), (3, .int y3), (4, .int v2_0_4)]) (by decide) rfl [1, 2, 0, 3, 4] rfl ?_
        refine x_iinc C dX9_sizesOf_107 3 rfl (v := (y3 + (1 : Int32))) rfl (lv2 := [(0, .ref (gs_a E 57)), (1, .int x1), (2, .int (y2 ||| ((1 : Int32) <<< (y3 &&& 31)))), (3, .int (y3 + (1 : Int32))), (4, .int v2_0_4)]) (by decide) rfl [1, 2, 3, 0, 4] rfl ?_
        refine x_goto C dX9_sizesOf_110 (tgt := 4) (by decide) ?_
        refine x_lv (lv' := [(0, .ref (gs_a E 57)), (1, .int x1), (2, .int (y2 ||| ((1 : Int32) <<< (y3 &&& 31)))), (3, .int (y3 + (1 : Int32)))]) [0, 1, 2, 3] rfl ?_
        obtain rfl := Option.some.inj h
        exact hc (y2 ||| ((1 : Int32) <<< (y3 &&& 31))) (y3 + (1 : Int32)) rfl
set_option maxHeartbeats 4000000 in
set_option maxRecDepth 20000 in
theorem m_X9_sizesOf {E : gs_E} {l : Launch} {x1 : Int32} {σ : gs_H} {g : Int64} {r0 : Int32} (h : f_X9_sizesOf x1 σ = some r0) : gs_M l E yX9_sizesOf cX9_sizesOf 6 (some .int) (2, 47) [.ref (gs_a E 57), .int x1] σ g (some (.int r0)) σ g := by
  refine x_enter (lv := [(0, .ref (gs_a E 57)), (1, .int x1)]) (by decide +kernel) (Nat.le_of_ble_eq_true rfl) rfl (fun p e s m args below meth c C hr => ?_)
  unfold f_X9_sizesOf at h
  refine x_iconst C dX9_sizesOf_0 (v := 0) (by decide) ?_
  refine x_istore_n C dX9_sizesOf_1 rfl (lv2 := [(0, .ref (gs_a E 57)), (1, .int x1), (2, .int (0 : Int32))]) (by decide) rfl [1, 2, 0] rfl ?_
  refine x_iconst C dX9_sizesOf_2 (v := 0) (by decide) ?_
  refine x_istore_n C dX9_sizesOf_3 rfl (lv2 := [(0, .ref (gs_a E 57)), (1, .int x1), (2, .int (0 : Int32)), (3, .int (0 : Int32))]) (by decide) rfl [1, 2, 3, 0] rfl ?_
  obtain ⟨q1, hq1, h⟩ := Option.bind_eq_some_iff.mp h
  refine wl_X9_sizesOf_4 C (fun v1_0_2 hz => ?_) 1000 _ _ hq1
  subst q1
  try dsimp only at h
  refine x_iload_n C dX9_sizesOf_113 rfl 0 rfl ?_
  replace h := Option.some.inj h
  subst h
  exact x_ret C hr rfl rfl dX9_sizesOf_114
def f_X9_tellThing (x1 : Int32) (x2 : Int32) (σ : gs_H) : Option (Int32) :=
if x2 = 0 then (
if inb x1 6 then
some (σ 62 x1.toNatClampNeg) else none)
else (
if x2 = 1 then (
if inb x1 6 then
some (σ 63 x1.toNatClampNeg) else none)
else (
if x2 = 2 then (
if inb x1 6 then
if inb x1 6 then
some ((10000 : Int32) + (f_X9_weighsBy (σ 62 x1.toNatClampNeg) (σ 63 x1.toNatClampNeg) (σ 57 6))) else none else none)
else (
if x2 = 3 then (
some (((σ 57 9) >>> (x1 &&& 31)) &&& (1 : Int32)))
else (
if x2 = 4 then (
(f_X9_armOf x1 σ).bind fun q7 =>
some (q7 / (2 : Int32)))
else (
if x2 = 5 then (
(f_X9_armOf x1 σ).bind fun q8 =>
some (q8 - q8 / (2 : Int32) * (2 : Int32)))
else (
if x2 = 6 then (
(f_X9_sizesOf x1 σ).bind fun q9 =>
some q9)
else (
some (-102 : Int32))))))))
set_option maxHeartbeats 4000000 in
set_option maxRecDepth 20000 in
theorem m_X9_tellThing {E : gs_E} {l : Launch} {x1 : Int32} {x2 : Int32} {σ : gs_H} {g : Int64} {r0 : Int32} (h : f_X9_tellThing x1 x2 σ = some r0) : gs_M l E yX9_tellThing cX9_tellThing 3 (some .int) (3, 72) [.ref (gs_a E 57), .int x1, .int x2] σ g (some (.int r0)) σ g := by
  refine x_enter (lv := [(0, .ref (gs_a E 57)), (1, .int x1), (2, .int x2)]) (by decide +kernel) (Nat.le_of_ble_eq_true rfl) rfl (fun p e s m args below meth c C hr => ?_)
  unfold f_X9_tellThing at h
  refine x_iload_n C dX9_tellThing_0 rfl 2 rfl ?_
  by_cases hs1_0 : x2 = 0
  · replace h := (if_pos hs1_0).symm.trans h
    refine x_tsw C dX9_tellThing_1 0 hs1_0 (by decide) (by decide) (off := 43) rfl (tgt := 44) (by decide) ?_
    refine x_aload_n C dX9_tellThing_44 rfl 0 rfl ?_
    refine x_getr C 57 rfl rfl inX9 13 (by decide) rfl kF_X9_22 rfl dX9_tellThing_45 ?_
    refine x_iload_n C dX9_tellThing_48 rfl 1 rfl ?_
    obtain ⟨hb2, h⟩ := ck_some h
    refine x_iald C 62 rfl hb2 (v := (σ 62 x1.toNatClampNeg)) rfl dX9_tellThing_49 ?_
    replace h := Option.some.inj h
    subst h
    exact x_ret C hr rfl rfl dX9_tellThing_50
  · replace h := (if_neg hs1_0).symm.trans h
    by_cases hs1_1 : x2 = 1
    · replace h := (if_pos hs1_1).symm.trans h
      refine x_tsw C dX9_tellThing_1 1 hs1_1 (by decide) (by decide) (off := 50) rfl (tgt := 51) (by decide) ?_
      refine x_aload_n C dX9_tellThing_51 rfl 0 rfl ?_
      refine x_getr C 57 rfl rfl inX9 14 (by decide) rfl kF_X9_25 rfl dX9_tellThing_52 ?_
      refine x_iload_n C dX9_tellThing_55 rfl 1 rfl ?_
      obtain ⟨hb3, h⟩ := ck_some h
      refine x_iald C 63 rfl hb3 (v := (σ 63 x1.toNatClampNeg)) rfl dX9_tellThing_56 ?_
      replace h := Option.some.inj h
      subst h
      exact x_ret C hr rfl rfl dX9_tellThing_57
    · replace h := (if_neg hs1_1).symm.trans h
      by_cases hs1_2 : x2 = 2
      · replace h := (if_pos hs1_2).symm.trans h
        refine x_tsw C dX9_tellThing_1 2 hs1_2 (by decide) (by decide) (off := 57) rfl (tgt := 58) (by decide) ?_
        refine x_sipush C dX9_tellThing_58 (v := 10000) (by decide) ?_
        refine x_aload_n C dX9_tellThing_61 rfl 0 rfl ?_
        refine x_getr C 57 rfl rfl inX9 13 (by decide) rfl kF_X9_22 rfl dX9_tellThing_62 ?_
        refine x_iload_n C dX9_tellThing_65 rfl 1 rfl ?_
        obtain ⟨hb4, h⟩ := ck_some h
        refine x_iald C 62 rfl hb4 (v := (σ 62 x1.toNatClampNeg)) rfl dX9_tellThing_66 ?_
        refine x_aload_n C dX9_tellThing_67 rfl 0 rfl ?_
        refine x_getr C 57 rfl rfl inX9 14 (by decide) rfl kF_X9_25 rfl dX9_tellThing_68 ?_
        refine x_iload_n C dX9_tellThing_71 rfl 1 rfl ?_
        obtain ⟨hb5, h⟩ := ck_some h
        refine x_iald C 63 rfl hb5 (v := (σ 63 x1.toNatClampNeg)) rfl dX9_tellThing_72 ?_
        refine x_aload_n C dX9_tellThing_73 rfl 0 rfl ?_
        refine x_geti C 57 rfl rfl inX9 6 (by decide) rfl kF_X9_110 rfl (v := (σ 57 6)) rfl dX9_tellThing_74 ?_
        refine x_callS C (m_X9_weighsBy rfl) kM_X9_132 kT_X9_weighsBy kN_X9 kC_X9_weighsBy kD_X9_weighsBy rfl ⟨Nat.le_of_ble_eq_true rfl, Nat.le_of_ble_eq_true rfl⟩ ⟨Nat.le_refl _, Nat.le_refl _⟩ (rest := [.int (10000 : Int32)]) rfl (Nat.le_of_ble_eq_true rfl) dX9_tellThing_77 (st' := [.int (f_X9_weighsBy (σ 62 x1.toNatClampNeg) (σ 63 x1.toNatClampNeg) (σ 57 6)), .int (10000 : Int32)]) rfl ?_
        refine x_iadd C dX9_tellThing_80 ?_
        replace h := Option.some.inj h
        subst h
        exact x_ret C hr rfl rfl dX9_tellThing_81
      · replace h := (if_neg hs1_2).symm.trans h
        by_cases hs1_3 : x2 = 3
        · replace h := (if_pos hs1_3).symm.trans h
          refine x_tsw C dX9_tellThing_1 3 hs1_3 (by decide) (by decide) (off := 81) rfl (tgt := 82) (by decide) ?_
          refine x_aload_n C dX9_tellThing_82 rfl 0 rfl ?_
          refine x_geti C 57 rfl rfl inX9 9 (by decide) rfl kF_X9_116 rfl (v := (σ 57 9)) rfl dX9_tellThing_83 ?_
          refine x_iload_n C dX9_tellThing_86 rfl 1 rfl ?_
          refine x_ishr C dX9_tellThing_87 ?_
          refine x_iconst C dX9_tellThing_88 (v := 1) (by decide) ?_
          refine x_iand C dX9_tellThing_89 ?_
          replace h := Option.some.inj h
          subst h
          exact x_ret C hr rfl rfl dX9_tellThing_90
        · replace h := (if_neg hs1_3).symm.trans h
          by_cases hs1_4 : x2 = 4
          · replace h := (if_pos hs1_4).symm.trans h
            refine x_tsw C dX9_tellThing_1 4 hs1_4 (by decide) (by decide) (off := 90) rfl (tgt := 91) (by decide) ?_
            refine x_aload_n C dX9_tellThing_91 rfl 0 rfl ?_
            refine x_iload_n C dX9_tellThing_92 rfl 1 rfl ?_
            obtain ⟨v7, hv7, h⟩ := Option.bind_eq_some_iff.mp h
            refine x_callV C 57 (m_X9_armOf hv7) rfl rfl kM_X9_170 kI_X9_armOf kS_X9_armOf kN_X9 kC_X9_armOf kD_X9_armOf rfl ⟨Nat.le_of_ble_eq_true rfl, Nat.le_of_ble_eq_true rfl⟩ ⟨Nat.le_refl _, Nat.le_refl _⟩ (rest := []) rfl (Nat.le_of_ble_eq_true rfl) dX9_tellThing_93 (st' := [.int v7]) rfl ?_
            refine x_iconst C dX9_tellThing_96 (v := 2) (by decide) ?_
            refine x_idiv C dX9_tellThing_97 (by decide) ?_
            replace h := Option.some.inj h
            subst h
            exact x_ret C hr rfl rfl dX9_tellThing_98
          · replace h := (if_neg hs1_4).symm.trans h
            by_cases hs1_5 : x2 = 5
            · replace h := (if_pos hs1_5).symm.trans h
              refine x_tsw C dX9_tellThing_1 5 hs1_5 (by decide) (by decide) (off := 98) rfl (tgt := 99) (by decide) ?_
              refine x_aload_n C dX9_tellThing_99 rfl 0 rfl ?_
              refine x_iload_n C dX9_tellThing_100 rfl 1 rfl ?_
              obtain ⟨v8, hv8, h⟩ := Option.bind_eq_some_iff.mp h
              refine x_callV C 57 (m_X9_armOf hv8) rfl rfl kM_X9_170 kI_X9_armOf kS_X9_armOf kN_X9 kC_X9_armOf kD_X9_armOf rfl ⟨Nat.le_of_ble_eq_true rfl, Nat.le_of_ble_eq_true rfl⟩ ⟨Nat.le_refl _, Nat.le_refl _⟩ (rest := []) rfl (Nat.le_of_ble_eq_true rfl) dX9_tellThing_101 (st' := [.int v8]) rfl ?_
              refine x_iconst C dX9_tellThing_104 (v := 2) (by decide) ?_
              refine x_irem C dX9_tellThing_105 (by decide) ?_
              replace h := Option.some.inj h
              subst h
              exact x_ret C hr rfl rfl dX9_tellThing_106
            · replace h := (if_neg hs1_5).symm.trans h
              by_cases hs1_6 : x2 = 6
              · replace h := (if_pos hs1_6).symm.trans h
                refine x_tsw C dX9_tellThing_1 6 hs1_6 (by decide) (by decide) (off := 106) rfl (tgt := 107) (by decide) ?_
                refine x_aload_n C dX9_tellThing_107 rfl 0 rfl ?_
                refine x_iload_n C dX9_tellThing_108 rfl 1 rfl ?_
                obtain ⟨v9, hv9, h⟩ := Option.bind_eq_some_iff.mp h
                refine x_callV C 57 (m_X9_sizesOf hv9) rfl rfl kM_X9_173 kI_X9_sizesOf kS_X9_sizesOf kN_X9 kC_X9_sizesOf kD_X9_sizesOf rfl ⟨Nat.le_of_ble_eq_true rfl, Nat.le_of_ble_eq_true rfl⟩ ⟨Nat.le_refl _, Nat.le_refl _⟩ (rest := []) rfl (Nat.le_of_ble_eq_true rfl) dX9_tellThing_109 (st' := [.int v9]) rfl ?_
                replace h := Option.some.inj h
                subst h
                exact x_ret C hr rfl rfl dX9_tellThing_112
              · replace h := (if_neg hs1_6).symm.trans h
                refine x_tswD C dX9_tellThing_1 (tgt := 113) (by have e0 := lv_neT hs1_0 (a := 0) rfl; have e1 := lv_neT hs1_1 (a := 1) rfl; have e2 := lv_neT hs1_2 (a := 2) rfl; have e3 := lv_neT hs1_3 (a := 3) rfl; have e4 := lv_neT hs1_4 (a := 4) rfl; have e5 := lv_neT hs1_5 (a := 5) rfl; have e6 := lv_neT hs1_6 (a := 6) rfl; omega) (by decide) ?_
                refine x_bipush C dX9_tellThing_113 (v := -102) (by decide) ?_
                replace h := Option.some.inj h
                subst h
                exact x_ret C hr rfl rfl dX9_tellThing_115
def b_X9_trialOf_45 (x1 : Int32) (x2 : Int32) (x3 : Int32) (x6 : Int32) (x8 : Int32) (σ : gs_H) (y : Int32 × Int32) : Option ((Int32 × Int32) ⊕ ((Int32))) :=
if (10 : Int32) ≤ y.2 then (
some (Sum.inr y.1))
else (
(f_X9_howIf x1 y.2 x2 x6 σ).bind fun q4 =>
if q4 = x8 then (
some (Sum.inl ((y.1 + ((x3 >>> (y.2 &&& 31)) &&& (1 : Int32))), (y.2 + (1 : Int32)))))
else (
some (Sum.inl ((y.1 + (0 : Int32)), (y.2 + (1 : Int32))))))
def b_X9_trialOf_33 (x1 : Int32) (x2 : Int32) (x3 : Int32) (x6 : Int32) (σ : gs_H) (y : Int32 × Int32) : Option ((Int32 × Int32) ⊕ ((Int32))) :=
if (3 : Int32) ≤ y.2 then (
some (Sum.inr y.1))
else (
(lp (b_X9_trialOf_45 x1 x2 x3 x6 y.2 σ) 1000 ((0 : Int32), (0 : Int32))).bind fun q7 =>
if q7 ≤ y.1 then (
some (Sum.inl (y.1, (y.2 + (1 : Int32)))))
else (
some (Sum.inl (q7, (y.2 + (1 : Int32))))))
def j_X9_trialOf_124 (x1 : Int32) (x2 : Int32) (x3 : Int32) (x5 : Int32) (x6 : Int32) (x7 : Int32) (t0 : Int32) (σ : gs_H) : Option ((Int32 × Int32 × Int32) ⊕ ((Int32))) :=
if x5 ≤ x7 then (
some (Sum.inl (t0, x5, (x6 + (1 : Int32)))))
else (
some (Sum.inl (t0, x7, (x6 + (1 : Int32)))))
def b_X9_trialOf_16 (x1 : Int32) (x2 : Int32) (x3 : Int32) (σ : gs_H) (y : Int32 × Int32 × Int32) : Option ((Int32 × Int32 × Int32) ⊕ ((Int32))) :=
if (10 : Int32) ≤ y.2.2 then (
some (Sum.inr y.1))
else (
if x3 = 0 then (
some (Sum.inr y.1))
else (
(lp (b_X9_trialOf_33 x1 x2 x3 y.2.2 σ) 1000 ((0 : Int32), (0 : Int32))).bind fun q11 =>
if y.2.1 ≤ q11 then (
j_X9_trialOf_124 x1 x2 x3 y.2.1 y.2.2 q11 y.1 σ)
else (
j_X9_trialOf_124 x1 x2 x3 y.2.1 y.2.2 q11 y.2.2 σ)))
def f_X9_trialOf (x1 : Int32) (x2 : Int32) (σ : gs_H) : Option (Int32) :=
(f_X9_sizesOf x1 σ).bind fun q1 =>
(lp (b_X9_trialOf_16 x1 x2 q1 σ) 1000 ((-1 : Int32), (11 : Int32), (0 : Int32))).bind fun q2 =>
some q2
set_option maxHeartbeats 4000000 in
set_option maxRecDepth 20000 in
theorem wl_X9_trialOf_45 {E : gs_E} {l : Launch} {p : Program} {e : Env} {s : State} {m : MethodId} {args : Array Value} {below : List Frame} {meth : Method} {c : Code} (C : gs_X E RX9 cX9_trialOf 11 p s m args meth c) {ov : Option Value} {σ0 : gs_H} {g0 : Int64} {x1 : Int32} {x2 : Int32} {x3 : Int32} {x4 : Int32} {x5 : Int32} {x6 : Int32} {x7 : Int32} {x8 : Int32} {σ : gs_H} {g : Int64} {q : (Int32)} (hx0 : ∀ (z9 : Int32), q = z9 → gs_V E 11 (3, 72) p l e s m args below meth c ov σ0 g0 88 [(0, .ref (gs_a E 57)), (1, .int x1), (2, .int x2), (3, .int x3), (4, .int x4), (5, .int x5), (6, .int x6), (7, .int x7), (8, .int x8), (9, .int z9)] [] σ g) : ∀ (n : Nat) (y9 : Int32) (y10 : Int32), lp (b_X9_trialOf_45 x1 x2 x3 x6 x8 σ) n (y9, y10) = some q → gs_V E 11 (3, 72) p l e s m args below meth c ov σ0 g0 45 [(0, .ref (gs_a E 57)), (1, .int x1), (2, .int x2), (3, .int x3), (4, .int x4), (5, .int x5), (6, .int x6), (7, .int x7), (8, .int x8), (9, .int y9), (10, .int y10)] [] σ g := by
  intro n
  induction n with
  | zero => intro y9 y10 h; cases h
  | succ n ih =>
    intro y9 y10 h
    obtain ⟨r, h, hl, he⟩ := lp_step h
    have hc := fun (y9 : Int32) (y10 : Int32) (hr : r = Sum.inl (y9, y10)) => ih y9 y10 (hl _ hr)
    have hk0 := fun (z9 : Int32) (hr : r = Sum.inr z9) => hx0 z9 (he _ hr).symm
    unfold b_X9_trialOf_45 at h
    try dsimp only at h
    refine x_iload C dX9_trialOf_45 10 rfl ?_
    refine x_bipush C dX9_trialOf_47 (v := 10) (by decide) ?_
    by_cases hc1 : (10 : Int32) ≤ y10
    · replace h := (if_pos hc1).symm.trans h
      refine x_icmp_geT C dX9_trialOf_49 (tgt := 88) (by decide) hc1 ?_
      refine x_lv (lv' := [(0, .ref (gs_a E 57)), (1, .int x1), (2, .int x2), (3, .int x3), (4, .int x4), (5, .int x5), (6, .int x6), (7, .int x7), (8, .int x8), (9, .int y9)]) [0, 1, 2, 3, 4, 5, 6, 7, 8, 9] rfl ?_
      obtain rfl := Option.some.inj h
      exact hk0 y9 rfl
    · replace h := (if_neg hc1).symm.trans h
      refine x_icmp_geF C dX9_trialOf_49 (tgt := 88) (by decide) hc1 ?_
      refine x_iload C dX9_trialOf_52 9 rfl ?_
      refine x_aload_n C dX9_trialOf_54 rfl 0 rfl ?_
      refine x_iload_n C dX9_trialOf_55 rfl 1 rfl ?_
      refine x_iload C dX9_trialOf_56 10 rfl ?_
      refine x_iload_n C dX9_trialOf_58 rfl 2 rfl ?_
      refine x_iload C dX9_trialOf_59 6 rfl ?_
      obtain ⟨v2, hv2, h⟩ := Option.bind_eq_some_iff.mp h
      refine x_callV C 57 (m_X9_howIf hv2) rfl rfl kM_X9_235 kI_X9_howIf kS_X9_howIf kN_X9 kC_X9_howIf kD_X9_howIf rfl ⟨Nat.le_of_ble_eq_true rfl, Nat.le_of_ble_eq_true rfl⟩ ⟨Nat.le_refl _, Nat.le_refl _⟩ (rest := [.int y9]) rfl (Nat.le_of_ble_eq_true rfl) dX9_trialOf_61 (st' := [.int v2, .int y9]) rfl ?_
      refine x_iload C dX9_trialOf_64 8 rfl ?_
      by_cases hc3 : v2 = x8
      · replace h := (if_pos hc3).symm.trans h
        refine x_icmp_neF C dX9_trialOf_66 (tgt := 78) (by decide) hc3 ?_
        refine x_iload_n C dX9_trialOf_69 rfl 3 rfl ?_
        refine x_iload C dX9_trialOf_70 10 rfl ?_
        refine x_ishr C dX9_trialOf_72 ?_
        refine x_iconst C dX9_trialOf_73 (v := 1) (by decide) ?_
        refine x_iand C dX9_trialOf_74 ?_
        refine x_goto C dX9_trialOf_75 (tgt := 79) (by decide) ?_
        refine x_iadd C dX9_trialOf_79 ?_
        refine x_istore C dX9_trialOf_80 (lv2 := [(0, .ref (gs_a E 57)), (1, .int x1), (2, .int x2), (3, .int x3), (4, .int x4), (5, .int x5), (6, .int x6), (7, .int x7), (8, .int x8), (9, .int (y9 + ((x3 >>> (y10 &&& 31)) &&& (1 : Int32)))), (10, .int y10)]) (by decide) rfl [1, 2, 3, 4, 5, 6, 7, 8, 9, 0, 10] rfl ?_
        refine x_iinc C dX9_trialOf_82 10 rfl (v := (y10 + (1 : Int32))) rfl (lv2 := [(0, .ref (gs_a E 57)), (1, .int x1), (2, .int x2), (3, .int x3), (4, .int x4), (5, .int x5), (6, .int x6), (7, .int x7), (8, .int x8), (9, .int (y9 + ((x3 >>> (y10 &&& 31)) &&& (1 : Int32)))), (10, .int (y10 + (1 : Int32)))]) (by decide) rfl [1, 2, 3, 4, 5, 6, 7, 8, 9, 10, 0] rfl ?_
        refine x_goto C dX9_trialOf_85 (tgt := 45) (by decide) ?_
        obtain rfl := Option.some.inj h
        exact hc (y9 + ((x3 >>> (y10 &&& 31)) &&& (1 : Int32))) (y10 + (1 : Int32)) rfl
      · replace h := (if_neg hc3).symm.trans h
        refine x_icmp_neT C dX9_trialOf_66 (tgt := 78) (by decide) hc3 ?_
        refine x_iconst C dX9_trialOf_78 (v := 0) (by decide) ?_
        refine x_iadd C dX9_trialOf_79 ?_
        refine x_istore C dX9_trialOf_80 (lv2 := [(0, .ref (gs_a E 57)), (1, .int x1), (2, .int x2), (3, .int x3), (4, .int x4), (5, .int x5), (6, .int x6), (7, .int x7), (8, .int x8), (9, .int (y9 + (0 : Int32))), (10, .int y10)]) (by decide) rfl [1, 2, 3, 4, 5, 6, 7, 8, 9, 0, 10] rfl ?_
        refine x_iinc C dX9_trialOf_82 10 rfl (v := (y10 + (1 : Int32))) rfl (lv2 := [(0, .ref (gs_a E 57)), (1, .int x1), (2, .int x2), (3, .int x3), (4, .int x4), (5, .int x5), (6, .int x6), (7, .int x7), (8, .int x8), (9, .int (y9 + (0 : Int32))), (10, .int (y10 + (1 : Int32)))]) (by decide) rfl [1, 2, 3, 4, 5, 6, 7, 8, 9, 10, 0] rfl ?_
        refine x_goto C dX9_trialOf_85 (tgt := 45) (by decide) ?_
        obtain rfl := Option.some.inj h
        exact hc (y9 + (0 : Int32)) (y10 + (1 : Int32)) rfl
set_option maxHeartbeats 4000000 in
set_option maxRecDepth 20000 in
theorem wl_X9_trialOf_33 {E : gs_E} {l : Launch} {p : Program} {e : Env} {s : State} {m : MethodId} {args : Array Value} {below : List Frame} {meth : Method} {c : Code} (C : gs_X E RX9 cX9_trialOf 11 p s m args meth c) {ov : Option Value} {σ0 : gs_H} {g0 : Int64} {x1 : Int32} {x2 : Int32} {x3 : Int32} {x4 : Int32} {x5 : Int32} {x6 : Int32} {σ : gs_H} {g : Int64} {q : (Int32)} (hx0 : ∀ (z7 : Int32), q = z7 → gs_V E 11 (3, 72) p l e s m args below meth c ov σ0 g0 110 [(0, .ref (gs_a E 57)), (1, .int x1), (2, .int x2), (3, .int x3), (4, .int x4), (5, .int x5), (6, .int x6), (7, .int z7)] [] σ g) : ∀ (n : Nat) (y7 : Int32) (y8 : Int32), lp (b_X9_trialOf_33 x1 x2 x3 x6 σ) n (y7, y8) = some q → gs_V E 11 (3, 72) p l e s m args below meth c ov σ0 g0 33 [(0, .ref (gs_a E 57)), (1, .int x1), (2, .int x2), (3, .int x3), (4, .int x4), (5, .int x5), (6, .int x6), (7, .int y7), (8, .int y8)] [] σ g := by
  intro n
  induction n with
  | zero => intro y7 y8 h; cases h
  | succ n ih =>
    intro y7 y8 h
    obtain ⟨r, h, hl, he⟩ := lp_step h
    have hc := fun (y7 : Int32) (y8 : Int32) (hr : r = Sum.inl (y7, y8)) => ih y7 y8 (hl _ hr)
    have hk0 := fun (z7 : Int32) (hr : r = Sum.inr z7) => hx0 z7 (he _ hr).symm
    unfold b_X9_trialOf_33 at h
    try dsimp only at h
    refine x_iload C dX9_trialOf_33 8 rfl ?_
    refine x_iconst C dX9_trialOf_35 (v := 3) (by decide) ?_
    by_cases hc1 : (3 : Int32) ≤ y8
    · replace h := (if_pos hc1).symm.trans h
      refine x_icmp_geT C dX9_trialOf_36 (tgt := 110) (by decide) hc1 ?_
      refine x_lv (lv' := [(0, .ref (gs_a E 57)), (1, .int x1), (2, .int x2), (3, .int x3), (4, .int x4), (5, .int x5), (6, .int x6), (7, .int y7)]) [0, 1, 2, 3, 4, 5, 6, 7] rfl ?_
      obtain rfl := Option.some.inj h
      exact hk0 y7 rfl
    · replace h := (if_neg hc1).symm.trans h
      refine x_icmp_geF C dX9_trialOf_36 (tgt := 110) (by decide) hc1 ?_
      refine x_iconst C dX9_trialOf_39 (v := 0) (by decide) ?_
      refine x_istore C dX9_trialOf_40 (lv2 := [(0, .ref (gs_a E 57)), (1, .int x1), (2, .int x2), (3, .int x3), (4, .int x4), (5, .int x5), (6, .int x6), (7, .int y7), (8, .int y8), (9, .int (0 : Int32))]) (by decide) rfl [1, 2, 3, 4, 5, 6, 7, 8, 9, 0] rfl ?_
      refine x_iconst C dX9_trialOf_42 (v := 0) (by decide) ?_
      refine x_istore C dX9_trialOf_43 (lv2 := [(0, .ref (gs_a E 57)), (1, .int x1), (2, .int x2), (3, .int x3), (4, .int x4), (5, .int x5), (6, .int x6), (7, .int y7), (8, .int y8), (9, .int (0 : Int32)), (10, .int (0 : Int32))]) (by decide) rfl [1, 2, 3, 4, 5, 6, 7, 8, 9, 10, 0] rfl ?_
      obtain ⟨q2, hq2, h⟩ := Option.bind_eq_some_iff.mp h
      refine wl_X9_trialOf_45 C (fun v2_0_9 hz => ?_) 1000 _ _ hq2
      subst q2
      try dsimp only at h
      refine x_iload C dX9_trialOf_88 9 rfl ?_
      refine x_iload C dX9_trialOf_90 7 rfl ?_
      by_cases hc3 : v2_0_9 ≤ y7
      · replace h := (if_pos hc3).symm.trans h
        refine x_icmp_leT C dX9_trialOf_92 (tgt := 100) (by decide) hc3 ?_
        refine x_iload C dX9_trialOf_100 7 rfl ?_
        refine x_istore C dX9_trialOf_102 (lv2 := [(0, .ref (gs_a E 57)), (1, .int x1), (2, .int x2), (3, .int x3), (4, .int x4), (5, .int x5), (6, .int x6), (7, .int y7), (8, .int y8), (9, .int v2_0_9)]) (by decide) rfl [1, 2, 3, 4, 5, 6, 7, 0, 8, 9] rfl ?_
        refine x_iinc C dX9_trialOf_104 8 rfl (v := (y8 + (1 : Int32))) rfl (lv2 := [(0, .ref (gs_a E 57)), (1, .int x1), (2, .int x2), (3, .int x3), (4, .int x4), (5, .int x5), (6, .int x6), (7, .int y7), (8, .int (y8 + (1 : Int32))), (9, .int v2_0_9)]) (by decide) rfl [1, 2, 3, 4, 5, 6, 7, 8, 0, 9] rfl ?_
        refine x_goto C dX9_trialOf_107 (tgt := 33) (by decide) ?_
        refine x_lv (lv' := [(0, .ref (gs_a E 57)), (1, .int x1), (2, .int x2), (3, .int x3), (4, .int x4), (5, .int x5), (6, .int x6), (7, .int y7), (8, .int (y8 + (1 : Int32)))]) [0, 1, 2, 3, 4, 5, 6, 7, 8] rfl ?_
        obtain rfl := Option.some.inj h
        exact hc y7 (y8 + (1 : Int32)) rfl
      · replace h := (if_neg hc3).symm.trans h
        refine x_icmp_leF C dX9_trialOf_92 (tgt := 100) (by decide) hc3 ?_
        refine x_iload C dX9_trialOf_95 9 rfl ?_
        refine x_goto C dX9_trialOf_97 (tgt := 102) (by decide) ?_
        refine x_istore C dX9_trialOf_102 (lv2 := [(0, .ref (gs_a E 57)), (1, .int x1), (2, .int x2), (3, .int x3), (4, .int x4), (5, .int x5), (6, .int x6), (7, .int v2_0_9), (8, .int y8), (9, .int v2_0_9)]) (by decide) rfl [1, 2, 3, 4, 5, 6, 7, 0, 8, 9] rfl ?_
        refine x_iinc C dX9_trialOf_104 8 rfl (v := (y8 + (1 : Int32))) rfl (lv2 := [(0, .ref (gs_a E 57)), (1, .int x1), (2, .int x2), (3, .int x3), (4, .int x4), (5, .int x5), (6, .int x6), (7, .int v2_0_9), (8, .int (y8 + (1 : Int32))), (9, .int v2_0_9)]) (by decide) rfl [1, 2, 3, 4, 5, 6, 7, 8, 0, 9] rfl ?_
        refine x_goto C dX9_trialOf_107 (tgt := 33) (by decide) ?_
        refine x_lv (lv' := [(0, .ref (gs_a E 57)), (1, .int x1), (2, .int x2), (3, .int x3), (4, .int x4), (5, .int x5), (6, .int x6), (7, .int v2_0_9), (8, .int (y8 + (1 : Int32)))]) [0, 1, 2, 3, 4, 5, 6, 7, 8] rfl ?_
        obtain rfl := Option.some.inj h
        exact hc v2_0_9 (y8 + (1 : Int32)) rfl
set_option maxHeartbeats 4000000 in
set_option maxRecDepth 20000 in
theorem wj_X9_trialOf_124 {E : gs_E} {l : Launch} {p : Program} {e : Env} {s : State} {m : MethodId} {args : Array Value} {below : List Frame} {meth : Method} {c : Code} (C : gs_X E RX9 cX9_trialOf 11 p s m args meth c) {ov : Option Value} {σ0 : gs_H} {g0 : Int64} {x1 : Int32} {x2 : Int32} {x3 : Int32} {x5 : Int32} {x6 : Int32} {x7 : Int32} {t0 : Int32} {σ : gs_H} {g : Int64} {r : (Int32 × Int32 × Int32) ⊕ ((Int32))} (h : j_X9_trialOf_124 x1 x2 x3 x5 x6 x7 t0 σ = some r) (hc : ∀ (y4 : Int32) (y5 : Int32) (y6 : Int32), r = Sum.inl (y4, y5, y6) → gs_V E 11 (3, 72) p l e s m args below meth c ov σ0 g0 16 [(0, .ref (gs_a E 57)), (1, .int x1), (2, .int x2), (3, .int x3), (4, .int y4), (5, .int y5), (6, .int y6)] [] σ g) (hk0 : ∀ (z4 : Int32), r = Sum.inr z4 → gs_V E 11 (3, 72) p l e s m args below meth c ov σ0 g0 148 [(4, .int z4)] [] σ g) : gs_V E 11 (3, 72) p l e s m args below meth c ov σ0 g0 124 [(0, .ref (gs_a E 57)), (1, .int x1), (2, .int x2), (3, .int x3), (5, .int x5), (6, .int x6), (7, .int x7)] [.int t0] σ g := by
  unfold j_X9_trialOf_124 at h
  refine x_istore C dX9_trialOf_124 (lv2 := [(0, .ref (gs_a E 57)), (1, .int x1), (2, .int x2), (3, .int x3), (4, .int t0), (5, .int x5), (6, .int x6), (7, .int x7)]) (by decide) rfl [1, 2, 3, 4, 0, 5, 6, 7] rfl ?_
  refine x_iload C dX9_trialOf_126 7 rfl ?_
  refine x_iload C dX9_trialOf_128 5 rfl ?_
  by_cases hc1 : x5 ≤ x7
  · replace h := (if_pos hc1).symm.trans h
    refine x_icmp_geT C dX9_trialOf_130 (tgt := 138) (by decide) hc1 ?_
    refine x_iload C dX9_trialOf_138 5 rfl ?_
    refine x_istore C dX9_trialOf_140 (lv2 := [(0, .ref (gs_a E 57)), (1, .int x1), (2, .int x2), (3, .int x3), (4, .int t0), (5, .int x5), (6, .int x6), (7, .int x7)]) (by decide) rfl [1, 2, 3, 4, 5, 0, 6, 7] rfl ?_
    refine x_iinc C dX9_trialOf_142 6 rfl (v := (x6 + (1 : Int32))) rfl (lv2 := [(0, .ref (gs_a E 57)), (1, .int x1), (2, .int x2), (3, .int x3), (4, .int t0), (5, .int x5), (6, .int (x6 + (1 : Int32))), (7, .int x7)]) (by decide) rfl [1, 2, 3, 4, 5, 6, 0, 7] rfl ?_
    refine x_goto C dX9_trialOf_145 (tgt := 16) (by decide) ?_
    refine x_lv (lv' := [(0, .ref (gs_a E 57)), (1, .int x1), (2, .int x2), (3, .int x3), (4, .int t0), (5, .int x5), (6, .int (x6 + (1 : Int32)))]) [0, 1, 2, 3, 4, 5, 6] rfl ?_
    obtain rfl := Option.some.inj h
    exact hc t0 x5 (x6 + (1 : Int32)) rfl
  · replace h := (if_neg hc1).symm.trans h
    refine x_icmp_geF C dX9_trialOf_130 (tgt := 138) (by decide) hc1 ?_
    refine x_iload C dX9_trialOf_133 7 rfl ?_
    refine x_goto C dX9_trialOf_135 (tgt := 140) (by decide) ?_
    refine x_istore C dX9_trialOf_140 (lv2 := [(0, .ref (gs_a E 57)), (1, .int x1), (2, .int x2), (3, .int x3), (4, .int t0), (5, .int x7), (6, .int x6), (7, .int x7)]) (by decide) rfl [1, 2, 3, 4, 5, 0, 6, 7] rfl ?_
    refine x_iinc C dX9_trialOf_142 6 rfl (v := (x6 + (1 : Int32))) rfl (lv2 := [(0, .ref (gs_a E 57)), (1, .int x1), (2, .int x2), (3, .int x3), (4, .int t0), (5, .int x7), (6, .int (x6 + (1 : Int32))), (7, .int x7)]) (by decide) rfl [1, 2, 3, 4, 5, 6, 0, 7] rfl ?_
    refine x_goto C dX9_trialOf_145 (tgt := 16) (by decide) ?_
    refine x_lv (lv' := [(0, .ref (gs_a E 57)), (1, .int x1), (2, .int x2), (3, .int x3), (4, .int t0), (5, .int x7), (6, .int (x6 + (1 : Int32)))]) [0, 1, 2, 3, 4, 5, 6] rfl ?_
    obtain rfl := Option.some.inj h
    exact hc t0 x7 (x6 + (1 : Int32)) rfl
set_option maxHeartbeats 4000000 in
set_option maxRecDepth 20000 in
theorem wl_X9_trialOf_16 {E : gs_E} {l : Launch} {p : Program} {e : Env} {s : State} {m : MethodId} {args : Array Value} {below : List Frame} {meth : Method} {c : Code} (C : gs_X E RX9 cX9_trialOf 11 p s m args meth c) {ov : Option Value} {σ0 : gs_H} {g0 : Int64} {x1 : Int32} {x2 : Int32} {x3 : Int32} {σ : gs_H} {g : Int64} {q : (Int32)} (hx0 : ∀ (z4 : Int32), q = z4 → gs_V E 11 (3, 72) p l e s m args below meth c ov σ0 g0 148 [(4, .int z4)] [] σ g) : ∀ (n : Nat) (y4 : Int32) (y5 : Int32) (y6 : Int32), lp (b_X9_trialOf_16 x1 x2 x3 σ) n (y4, y5, y6) = some q → gs_V E 11 (3, 72) p l e s m args below meth c ov σ0 g0 16 [(0, .ref (gs_a E 57)), (1, .int x1), (2, .int x2), (3, .int x3), (4, .int y4), (5, .int y5), (6, .int y6)] [] σ g := by
  intro n
  induction n with
  | zero => intro y4 y5 y6 h; cases h
  | succ n ih =>
    intro y4 y5 y6 h
    obtain ⟨r, h, hl, he⟩ := lp_step h
    have hc := fun (y4 : Int32) (y5 : Int32) (y6 : Int32) (hr : r = Sum.inl (y4, y5, y6)) => ih y4 y5 y6 (hl _ hr)
    have hk0 := fun (z4 : Int32) (hr : r = Sum.inr z4) => hx0 z4 (he _ hr).symm
    unfold b_X9_trialOf_16 at h
    try dsimp only at h
    refine x_iload C dX9_trialOf_16 6 rfl ?_
    refine x_bipush C dX9_trialOf_18 (v := 10) (by decide) ?_
    by_cases hc1 : (10 : Int32) ≤ y6
    · replace h := (if_pos hc1).symm.trans h
      refine x_icmp_geT C dX9_trialOf_20 (tgt := 148) (by decide) hc1 ?_
      refine x_lv (lv' := [(4, .int y4)]) [4] rfl ?_
      obtain rfl := Option.some.inj h
      exact hk0 y4 rfl
    · replace h := (if_neg hc1).symm.trans h
      refine x_icmp_geF C dX9_trialOf_20 (tgt := 148) (by decide) hc1 ?_
      refine x_iload_n C dX9_trialOf_23 rfl 3 rfl ?_
      by_cases hc2 : x3 = 0
      · replace h := (if_pos hc2).symm.trans h
        refine x_if_eqT C dX9_trialOf_24 (tgt := 148) (by decide) hc2 ?_
        refine x_lv (lv' := [(4, .int y4)]) [4] rfl ?_
        obtain rfl := Option.some.inj h
        exact hk0 y4 rfl
      · replace h := (if_neg hc2).symm.trans h
        refine x_if_eqF C dX9_trialOf_24 (tgt := 148) (by decide) hc2 ?_
        refine x_iconst C dX9_trialOf_27 (v := 0) (by decide) ?_
        refine x_istore C dX9_trialOf_28 (lv2 := [(0, .ref (gs_a E 57)), (1, .int x1), (2, .int x2), (3, .int x3), (4, .int y4), (5, .int y5), (6, .int y6), (7, .int (0 : Int32))]) (by decide) rfl [1, 2, 3, 4, 5, 6, 7, 0] rfl ?_
        refine x_iconst C dX9_trialOf_30 (v := 0) (by decide) ?_
        refine x_istore C dX9_trialOf_31 (lv2 := [(0, .ref (gs_a E 57)), (1, .int x1), (2, .int x2), (3, .int x3), (4, .int y4), (5, .int y5), (6, .int y6), (7, .int (0 : Int32)), (8, .int (0 : Int32))]) (by decide) rfl [1, 2, 3, 4, 5, 6, 7, 8, 0] rfl ?_
        obtain ⟨q3, hq3, h⟩ := Option.bind_eq_some_iff.mp h
        refine wl_X9_trialOf_33 C (fun v3_0_7 hz => ?_) 1000 _ _ hq3
        subst q3
        try dsimp only at h
        refine x_iload C dX9_trialOf_110 7 rfl ?_
        refine x_iload C dX9_trialOf_112 5 rfl ?_
        by_cases hc4 : y5 ≤ v3_0_7
        · replace h := (if_pos hc4).symm.trans h
          refine x_icmp_geT C dX9_trialOf_114 (tgt := 122) (by decide) hc4 ?_
          refine x_iload C dX9_trialOf_122 4 rfl ?_
          refine x_lv (lv' := [(0, .ref (gs_a E 57)), (1, .int x1), (2, .int x2), (3, .int x3), (5, .int y5), (6, .int y6), (7, .int v3_0_7)]) [0, 1, 2, 3, 5, 6, 7] rfl ?_
          exact wj_X9_trialOf_124 C h hc hk0
        · replace h := (if_neg hc4).symm.trans h
          refine x_icmp_geF C dX9_trialOf_114 (tgt := 122) (by decide) hc4 ?_
          refine x_iload C dX9_trialOf_117 6 rfl ?_
          refine x_goto C dX9_trialOf_119 (tgt := 124) (by decide) ?_
          refine x_lv (lv' := [(0, .ref (gs_a E 57)), (1, .int x1), (2, .int x2), (3, .int x3), (5, .int y5), (6, .int y6), (7, .int v3_0_7)]) [0, 1, 2, 3, 5, 6, 7] rfl ?_
          exact wj_X9_trialOf_124 C h hc hk0
set_option maxHeartbeats 4000000 in
set_option maxRecDepth 20000 in
theorem m_X9_trialOf {E : gs_E} {l : Launch} {x1 : Int32} {x2 : Int32} {σ : gs_H} {g : Int64} {r0 : Int32} (h : f_X9_trialOf x1 x2 σ = some r0) : gs_M l E yX9_trialOf cX9_trialOf 11 (some .int) (3, 72) [.ref (gs_a E 57), .int x1, .int x2] σ g (some (.int r0)) σ g := by
  refine x_enter (lv := [(0, .ref (gs_a E 57)), (1, .int x1), (2, .int x2)]) (by decide +kernel) (Nat.le_of_ble_eq_true rfl) rfl (fun p e s m args below meth c C hr => ?_)
  unfold f_X9_trialOf at h
  refine x_aload_n C dX9_trialOf_0 rfl 0 rfl ?_
  refine x_iload_n C dX9_trialOf_1 rfl 1 rfl ?_
  obtain ⟨v1, hv1, h⟩ := Option.bind_eq_some_iff.mp h
  refine x_callV C 57 (m_X9_sizesOf hv1) rfl rfl kM_X9_173 kI_X9_sizesOf kS_X9_sizesOf kN_X9 kC_X9_sizesOf kD_X9_sizesOf rfl ⟨Nat.le_of_ble_eq_true rfl, Nat.le_of_ble_eq_true rfl⟩ ⟨Nat.le_refl _, Nat.le_refl _⟩ (rest := []) rfl (Nat.le_of_ble_eq_true rfl) dX9_trialOf_2 (st' := [.int v1]) rfl ?_
  refine x_istore_n C dX9_trialOf_5 rfl (lv2 := [(0, .ref (gs_a E 57)), (1, .int x1), (2, .int x2), (3, .int v1)]) (by decide) rfl [1, 2, 3, 0] rfl ?_
  refine x_iconst C dX9_trialOf_6 (v := -1) (by decide) ?_
  refine x_istore C dX9_trialOf_7 (lv2 := [(0, .ref (gs_a E 57)), (1, .int x1), (2, .int x2), (3, .int v1), (4, .int (-1 : Int32))]) (by decide) rfl [1, 2, 3, 4, 0] rfl ?_
  refine x_bipush C dX9_trialOf_9 (v := 11) (by decide) ?_
  refine x_istore C dX9_trialOf_11 (lv2 := [(0, .ref (gs_a E 57)), (1, .int x1), (2, .int x2), (3, .int v1), (4, .int (-1 : Int32)), (5, .int (11 : Int32))]) (by decide) rfl [1, 2, 3, 4, 5, 0] rfl ?_
  refine x_iconst C dX9_trialOf_13 (v := 0) (by decide) ?_
  refine x_istore C dX9_trialOf_14 (lv2 := [(0, .ref (gs_a E 57)), (1, .int x1), (2, .int x2), (3, .int v1), (4, .int (-1 : Int32)), (5, .int (11 : Int32)), (6, .int (0 : Int32))]) (by decide) rfl [1, 2, 3, 4, 5, 6, 0] rfl ?_
  obtain ⟨q2, hq2, h⟩ := Option.bind_eq_some_iff.mp h
  refine wl_X9_trialOf_16 C (fun v2_0_4 hz => ?_) 1000 _ _ _ hq2
  subst q2
  try dsimp only at h
  refine x_iload C dX9_trialOf_148 0 rfl ?_
  replace h := Option.some.inj h
  subst h
  exact x_ret C hr rfl rfl dX9_trialOf_150
def b_X9_digest_174 (y : Int32 × gs_H × Int64) : Option ((Int32 × gs_H × Int64) ⊕ ((gs_H × Int64))) :=
if (11 : Int32) ≤ y.1 then (
some (Sum.inr (y.2.1, y.2.2)))
else (
(f_X9_countOf y.1 y.2.1).bind fun q18 =>
some (Sum.inl ((y.1 + (1 : Int32)), q18.2, (f_X9_say q18.1.toInt64 y.2.2))))
def b_X9_digest_147 (σ : gs_H) (y : Int32 × Int64) : Option ((Int32 × Int64) ⊕ ((Int64))) :=
if (σ 57 1) ≤ y.1 then (
some (Sum.inr y.2))
else (
if inb y.1 46 then
some (Sum.inl ((y.1 + (1 : Int32)), (f_X9_say (σ 58 y.1.toNatClampNeg).toInt64 y.2))) else none)
def b_X9_digest_60 (x1 : Int32) (σ : gs_H) (y : Int32 × Int64) : Option ((Int32 × Int64) ⊕ ((Int64))) :=
if (7 : Int32) ≤ y.1 then (
some (Sum.inr y.2))
else (
(f_X9_tellThing x1 y.1 σ).bind fun q24 =>
some (Sum.inl ((y.1 + (1 : Int32)), (f_X9_say q24.toInt64 y.2))))
def b_X9_digest_50 (σ : gs_H) (y : Int32 × Int64) : Option ((Int32 × Int64) ⊕ ((Int64))) :=
if (σ 57 5) ≤ y.1 then (
some (Sum.inr y.2))
else (
(lp (b_X9_digest_60 y.1 σ) 1000 ((0 : Int32), y.2)).bind fun q27 =>
(f_X9_trialOf y.1 (0 : Int32) σ).bind fun q28 =>
some (Sum.inl ((y.1 + (1 : Int32)), (f_X9_say q28.toInt64 q27))))
def b_X9_digest_19 (x1 : Int32) (y : Int32 × gs_H × Int64) : Option ((Int32 × gs_H × Int64) ⊕ ((gs_H × Int64))) :=
if (11 : Int32) ≤ y.1 then (
some (Sum.inr (y.2.1, y.2.2)))
else (
(f_X9_tellRod x1 y.1 y.2.1).bind fun q31 =>
some (Sum.inl ((y.1 + (1 : Int32)), q31.2, (f_X9_say q31.1.toInt64 y.2.2))))
def b_X9_digest_9 (y : Int32 × gs_H × Int64) : Option ((Int32 × gs_H × Int64) ⊕ ((gs_H × Int64))) :=
if (y.2.1 57 4) ≤ y.1 then (
some (Sum.inr (y.2.1, y.2.2)))
else (
(lp (b_X9_digest_19 y.1) 1000 ((0 : Int32), y.2.1, y.2.2)).bind fun q34 =>
some (Sum.inl ((y.1 + (1 : Int32)), q34.1, q34.2)))
def f_X9_digest (σ : gs_H) (g : Int64) : Option (Int64 × gs_H × Int64) :=
(lp (b_X9_digest_9) 1000 ((0 : Int32), σ, (1303 : Int64))).bind fun q1 =>
(lp (b_X9_digest_50 q1.1) 1000 ((0 : Int32), q1.2)).bind fun q2 =>
if (f_X9_lacks q1.1) = 0 then (
(f_X9_bestOf q1.1).bind fun q7 =>
(f_X9_evenOf q7.2).bind fun q9 =>
(f_X9_oddsOf (0 : Int32) q9.2).bind fun q11 =>
(f_X9_oddsOf (1 : Int32) q11.2).bind fun q13 =>
(lp (b_X9_digest_147 q13.2) 1000 ((0 : Int32), (f_X9_say q13.1.toInt64 (f_X9_say q11.1.toInt64 (f_X9_say q9.1.toInt64 (f_X9_say q7.1.toInt64 q2)))))).bind fun q15 =>
(lp (b_X9_digest_174) 1000 ((0 : Int32), q13.2, q15)).bind fun q16 =>
some (q16.2, q16.1, q16.2))
else (
(lp (b_X9_digest_147 q1.1) 1000 ((0 : Int32), q2)).bind fun q5 =>
(lp (b_X9_digest_174) 1000 ((0 : Int32), q1.1, q5)).bind fun q6 =>
some (q6.2, q6.1, q6.2))
set_option maxHeartbeats 4000000 in
set_option maxRecDepth 20000 in
theorem wl_X9_digest_174 {E : gs_E} {l : Launch} {p : Program} {e : Env} {s : State} {m : MethodId} {args : Array Value} {below : List Frame} {meth : Method} {c : Code} (C : gs_X E RX9 cX9_digest 3 p s m args meth c) {ov : Option Value} {σ0 : gs_H} {g0 : Int64} {q : (gs_H × Int64)} (hx0 : ∀ (zs : gs_H) (zg : Int64), q = (zs, zg) → gs_V E 3 (7, 157) p l e s m args below meth c ov σ0 g0 196 [(0, .ref (gs_a E 57))] [] zs zg) : ∀ (n : Nat) (y1 : Int32) (ys : gs_H) (yg : Int64), lp (b_X9_digest_174) n (y1, ys, yg) = some q → gs_V E 3 (7, 157) p l e s m args below meth c ov σ0 g0 174 [(0, .ref (gs_a E 57)), (1, .int y1)] [] ys yg := by
  intro n
  induction n with
  | zero => intro y1 ys yg h; cases h
  | succ n ih =>
    intro y1 ys yg h
    obtain ⟨r, h, hl, he⟩ := lp_step h
    have hc := fun (y1 : Int32) (ys : gs_H) (yg : Int64) (hr : r = Sum.inl (y1, ys, yg)) => ih y1 ys yg (hl _ hr)
    have hk0 := fun (zs : gs_H) (zg : Int64) (hr : r = Sum.inr (zs, zg)) => hx0 zs zg (he _ hr).symm
    unfold b_X9_digest_174 at h
    try dsimp only at h
    refine x_iload_n C dX9_digest_174 rfl 1 rfl ?_
    refine x_bipush C dX9_digest_175 (v := 11) (by decide) ?_
    by_cases hc1 : (11 : Int32) ≤ y1
    · replace h := (if_pos hc1).symm.trans h
      refine x_icmp_geT C dX9_digest_177 (tgt := 196) (by decide) hc1 ?_
      refine x_lv (lv' := [(0, .ref (gs_a E 57))]) [0] rfl ?_
      obtain rfl := Option.some.inj h
      exact hk0 ys yg rfl
    · replace h := (if_neg hc1).symm.trans h
      refine x_icmp_geF C dX9_digest_177 (tgt := 196) (by decide) hc1 ?_
      refine x_aload_n C dX9_digest_180 rfl 0 rfl ?_
      refine x_aload_n C dX9_digest_181 rfl 0 rfl ?_
      refine x_iload_n C dX9_digest_182 rfl 1 rfl ?_
      obtain ⟨⟨v2, s2⟩, hv2, h⟩ := Option.bind_eq_some_iff.mp h
      try dsimp only at h
      refine x_callV C 57 (m_X9_countOf hv2) rfl rfl kM_X9_275 kI_X9_countOf kS_X9_countOf kN_X9 kC_X9_countOf kD_X9_countOf rfl ⟨Nat.le_of_ble_eq_true rfl, Nat.le_of_ble_eq_true rfl⟩ ⟨Nat.le_refl _, Nat.le_refl _⟩ (rest := [.ref (gs_a E 57)]) rfl (Nat.le_of_ble_eq_true rfl) dX9_digest_183 (st' := [.int v2, .ref (gs_a E 57)]) rfl ?_
      refine x_i2l C dX9_digest_186 ?_
      refine x_callV C 57 (m_X9_say rfl) rfl rfl kM_X9_286 kI_X9_say kS_X9_say kN_X9 kC_X9_say kD_X9_say rfl ⟨Nat.le_of_ble_eq_true rfl, Nat.le_of_ble_eq_true rfl⟩ ⟨Nat.le_refl _, Nat.le_refl _⟩ (rest := []) rfl (Nat.le_of_ble_eq_true rfl) dX9_digest_187 (st' := []) rfl ?_
      refine x_iinc C dX9_digest_190 1 rfl (v := (y1 + (1 : Int32))) rfl (lv2 := [(0, .ref (gs_a E 57)), (1, .int (y1 + (1 : Int32)))]) (by decide) rfl [1, 0] rfl ?_
      refine x_goto C dX9_digest_193 (tgt := 174) (by decide) ?_
      obtain rfl := Option.some.inj h
      exact hc (y1 + (1 : Int32)) s2 (f_X9_say v2.toInt64 yg) rfl
set_option maxHeartbeats 4000000 in
set_option maxRecDepth 20000 in
theorem wl_X9_digest_147 {E : gs_E} {l : Launch} {p : Program} {e : Env} {s : State} {m : MethodId} {args : Array Value} {below : List Frame} {meth : Method} {c : Code} (C : gs_X E RX9 cX9_digest 3 p s m args meth c) {ov : Option Value} {σ0 : gs_H} {g0 : Int64} {σ : gs_H} {q : (Int64)} (hx0 : ∀ (zg : Int64), q = zg → gs_V E 3 (7, 157) p l e s m args below meth c ov σ0 g0 172 [(0, .ref (gs_a E 57))] [] σ zg) : ∀ (n : Nat) (y1 : Int32) (yg : Int64), lp (b_X9_digest_147 σ) n (y1, yg) = some q → gs_V E 3 (7, 157) p l e s m args below meth c ov σ0 g0 147 [(0, .ref (gs_a E 57)), (1, .int y1)] [] σ yg := by
  intro n
  induction n with
  | zero => intro y1 yg h; cases h
  | succ n ih =>
    intro y1 yg h
    obtain ⟨r, h, hl, he⟩ := lp_step h
    have hc := fun (y1 : Int32) (yg : Int64) (hr : r = Sum.inl (y1, yg)) => ih y1 yg (hl _ hr)
    have hk0 := fun (zg : Int64) (hr : r = Sum.inr zg) => hx0 zg (he _ hr).symm
    unfold b_X9_digest_147 at h
    try dsimp only at h
    refine x_iload_n C dX9_digest_147 rfl 1 rfl ?_
    refine x_aload_n C dX9_digest_148 rfl 0 rfl ?_
    refine x_geti C 57 rfl rfl inX9 1 (by decide) rfl kF_X9_68 rfl (v := (σ 57 1)) rfl dX9_digest_149 ?_
    by_cases hc1 : (σ 57 1) ≤ y1
    · replace h := (if_pos hc1).symm.trans h
      refine x_icmp_geT C dX9_digest_152 (tgt := 172) (by decide) hc1 ?_
      refine x_lv (lv' := [(0, .ref (gs_a E 57))]) [0] rfl ?_
      obtain rfl := Option.some.inj h
      exact hk0 yg rfl
    · replace h := (if_neg hc1).symm.trans h
      refine x_icmp_geF C dX9_digest_152 (tgt := 172) (by decide) hc1 ?_
      refine x_aload_n C dX9_digest_155 rfl 0 rfl ?_
      refine x_aload_n C dX9_digest_156 rfl 0 rfl ?_
      refine x_getr C 57 rfl rfl inX9 0 (by decide) rfl kF_X9_7 rfl dX9_digest_157 ?_
      refine x_iload_n C dX9_digest_160 rfl 1 rfl ?_
      obtain ⟨hb2, h⟩ := ck_some h
      refine x_iald C 58 rfl hb2 (v := (σ 58 y1.toNatClampNeg)) rfl dX9_digest_161 ?_
      refine x_i2l C dX9_digest_162 ?_
      refine x_callV C 57 (m_X9_say rfl) rfl rfl kM_X9_286 kI_X9_say kS_X9_say kN_X9 kC_X9_say kD_X9_say rfl ⟨Nat.le_of_ble_eq_true rfl, Nat.le_of_ble_eq_true rfl⟩ ⟨Nat.le_refl _, Nat.le_refl _⟩ (rest := []) rfl (Nat.le_of_ble_eq_true rfl) dX9_digest_163 (st' := []) rfl ?_
      refine x_iinc C dX9_digest_166 1 rfl (v := (y1 + (1 : Int32))) rfl (lv2 := [(0, .ref (gs_a E 57)), (1, .int (y1 + (1 : Int32)))]) (by decide) rfl [1, 0] rfl ?_
      refine x_goto C dX9_digest_169 (tgt := 147) (by decide) ?_
      obtain rfl := Option.some.inj h
      exact hc (y1 + (1 : Int32)) (f_X9_say (σ 58 y1.toNatClampNeg).toInt64 yg) rfl
set_option maxHeartbeats 4000000 in
set_option maxRecDepth 20000 in
theorem wl_X9_digest_60 {E : gs_E} {l : Launch} {p : Program} {e : Env} {s : State} {m : MethodId} {args : Array Value} {below : List Frame} {meth : Method} {c : Code} (C : gs_X E RX9 cX9_digest 3 p s m args meth c) {ov : Option Value} {σ0 : gs_H} {g0 : Int64} {x1 : Int32} {σ : gs_H} {q : (Int64)} (hx0 : ∀ (zg : Int64), q = zg → gs_V E 3 (7, 157) p l e s m args below meth c ov σ0 g0 83 [(0, .ref (gs_a E 57)), (1, .int x1)] [] σ zg) : ∀ (n : Nat) (y2 : Int32) (yg : Int64), lp (b_X9_digest_60 x1 σ) n (y2, yg) = some q → gs_V E 3 (7, 157) p l e s m args below meth c ov σ0 g0 60 [(0, .ref (gs_a E 57)), (1, .int x1), (2, .int y2)] [] σ yg := by
  intro n
  induction n with
  | zero => intro y2 yg h; cases h
  | succ n ih =>
    intro y2 yg h
    obtain ⟨r, h, hl, he⟩ := lp_step h
    have hc := fun (y2 : Int32) (yg : Int64) (hr : r = Sum.inl (y2, yg)) => ih y2 yg (hl _ hr)
    have hk0 := fun (zg : Int64) (hr : r = Sum.inr zg) => hx0 zg (he _ hr).symm
    unfold b_X9_digest_60 at h
    try dsimp only at h
    refine x_iload_n C dX9_digest_60 rfl 2 rfl ?_
    refine x_bipush C dX9_digest_61 (v := 7) (by decide) ?_
    by_cases hc1 : (7 : Int32) ≤ y2
    · replace h := (if_pos hc1).symm.trans h
      refine x_icmp_geT C dX9_digest_63 (tgt := 83) (by decide) hc1 ?_
      refine x_lv (lv' := [(0, .ref (gs_a E 57)), (1, .int x1)]) [0, 1] rfl ?_
      obtain rfl := Option.some.inj h
      exact hk0 yg rfl
    · replace h := (if_neg hc1).symm.trans h
      refine x_icmp_geF C dX9_digest_63 (tgt := 83) (by decide) hc1 ?_
      refine x_aload_n C dX9_digest_66 rfl 0 rfl ?_
      refine x_aload_n C dX9_digest_67 rfl 0 rfl ?_
      refine x_iload_n C dX9_digest_68 rfl 1 rfl ?_
      refine x_iload_n C dX9_digest_69 rfl 2 rfl ?_
      obtain ⟨v2, hv2, h⟩ := Option.bind_eq_some_iff.mp h
      refine x_callV C 57 (m_X9_tellThing hv2) rfl rfl kM_X9_179 kI_X9_tellThing kS_X9_tellThing kN_X9 kC_X9_tellThing kD_X9_tellThing rfl ⟨Nat.le_of_ble_eq_true rfl, Nat.le_of_ble_eq_true rfl⟩ ⟨Nat.le_refl _, Nat.le_refl _⟩ (rest := [.ref (gs_a E 57)]) rfl (Nat.le_of_ble_eq_true rfl) dX9_digest_70 (st' := [.int v2, .ref (gs_a E 57)]) rfl ?_
      refine x_i2l C dX9_digest_73 ?_
      refine x_callV C 57 (m_X9_say rfl) rfl rfl kM_X9_286 kI_X9_say kS_X9_say kN_X9 kC_X9_say kD_X9_say rfl ⟨Nat.le_of_ble_eq_true rfl, Nat.le_of_ble_eq_true rfl⟩ ⟨Nat.le_refl _, Nat.le_refl _⟩ (rest := []) rfl (Nat.le_of_ble_eq_true rfl) dX9_digest_74 (st' := []) rfl ?_
      refine x_iinc C dX9_digest_77 2 rfl (v := (y2 + (1 : Int32))) rfl (lv2 := [(0, .ref (gs_a E 57)), (1, .int x1), (2, .int (y2 + (1 : Int32)))]) (by decide) rfl [1, 2, 0] rfl ?_
      refine x_goto C dX9_digest_80 (tgt := 60) (by decide) ?_
      obtain rfl := Option.some.inj h
      exact hc (y2 + (1 : Int32)) (f_X9_say v2.toInt64 yg) rfl
set_option maxHeartbeats 4000000 in
set_option maxRecDepth 20000 in
theorem wl_X9_digest_50 {E : gs_E} {l : Launch} {p : Program} {e : Env} {s : State} {m : MethodId} {args : Array Value} {below : List Frame} {meth : Method} {c : Code} (C : gs_X E RX9 cX9_digest 3 p s m args meth c) {ov : Option Value} {σ0 : gs_H} {g0 : Int64} {σ : gs_H} {q : (Int64)} (hx0 : ∀ (zg : Int64), q = zg → gs_V E 3 (7, 157) p l e s m args below meth c ov σ0 g0 100 [(0, .ref (gs_a E 57))] [] σ zg) : ∀ (n : Nat) (y1 : Int32) (yg : Int64), lp (b_X9_digest_50 σ) n (y1, yg) = some q → gs_V E 3 (7, 157) p l e s m args below meth c ov σ0 g0 50 [(0, .ref (gs_a E 57)), (1, .int y1)] [] σ yg := by
  intro n
  induction n with
  | zero => intro y1 yg h; cases h
  | succ n ih =>
    intro y1 yg h
    obtain ⟨r, h, hl, he⟩ := lp_step h
    have hc := fun (y1 : Int32) (yg : Int64) (hr : r = Sum.inl (y1, yg)) => ih y1 yg (hl _ hr)
    have hk0 := fun (zg : Int64) (hr : r = Sum.inr zg) => hx0 zg (he _ hr).symm
    unfold b_X9_digest_50 at h
    try dsimp only at h
    refine x_iload_n C dX9_digest_50 rfl 1 rfl ?_
    refine x_aload_n C dX9_digest_51 rfl 0 rfl ?_
    refine x_geti C 57 rfl rfl inX9 5 (by decide) rfl kF_X9_107 rfl (v := (σ 57 5)) rfl dX9_digest_52 ?_
    by_cases hc1 : (σ 57 5) ≤ y1
    · replace h := (if_pos hc1).symm.trans h
      refine x_icmp_geT C dX9_digest_55 (tgt := 100) (by decide) hc1 ?_
      refine x_lv (lv' := [(0, .ref (gs_a E 57))]) [0] rfl ?_
      obtain rfl := Option.some.inj h
      exact hk0 yg rfl
    · replace h := (if_neg hc1).symm.trans h
      refine x_icmp_geF C dX9_digest_55 (tgt := 100) (by decide) hc1 ?_
      refine x_iconst C dX9_digest_58 (v := 0) (by decide) ?_
      refine x_istore_n C dX9_digest_59 rfl (lv2 := [(0, .ref (gs_a E 57)), (1, .int y1), (2, .int (0 : Int32))]) (by decide) rfl [1, 2, 0] rfl ?_
      obtain ⟨q2, hq2, h⟩ := Option.bind_eq_some_iff.mp h
      refine wl_X9_digest_60 C (fun g2_0 hz => ?_) 1000 _ _ hq2
      subst q2
      try dsimp only at h
      refine x_aload_n C dX9_digest_83 rfl 0 rfl ?_
      refine x_aload_n C dX9_digest_84 rfl 0 rfl ?_
      refine x_iload_n C dX9_digest_85 rfl 1 rfl ?_
      refine x_iconst C dX9_digest_86 (v := 0) (by decide) ?_
      obtain ⟨v3, hv3, h⟩ := Option.bind_eq_some_iff.mp h
      refine x_callV C 57 (m_X9_trialOf hv3) rfl rfl kM_X9_239 kI_X9_trialOf kS_X9_trialOf kN_X9 kC_X9_trialOf kD_X9_trialOf rfl ⟨Nat.le_of_ble_eq_true rfl, Nat.le_of_ble_eq_true rfl⟩ ⟨Nat.le_refl _, Nat.le_refl _⟩ (rest := [.ref (gs_a E 57)]) rfl (Nat.le_of_ble_eq_true rfl) dX9_digest_87 (st' := [.int v3, .ref (gs_a E 57)]) rfl ?_
      refine x_i2l C dX9_digest_90 ?_
      refine x_callV C 57 (m_X9_say rfl) rfl rfl kM_X9_286 kI_X9_say kS_X9_say kN_X9 kC_X9_say kD_X9_say rfl ⟨Nat.le_of_ble_eq_true rfl, Nat.le_of_ble_eq_true rfl⟩ ⟨Nat.le_refl _, Nat.le_refl _⟩ (rest := []) rfl (Nat.le_of_ble_eq_true rfl) dX9_digest_91 (st' := []) rfl ?_
      refine x_iinc C dX9_digest_94 1 rfl (v := (y1 + (1 : Int32))) rfl (lv2 := [(0, .ref (gs_a E 57)), (1, .int (y1 + (1 : Int32)))]) (by decide) rfl [1, 0] rfl ?_
      refine x_goto C dX9_digest_97 (tgt := 50) (by decide) ?_
      obtain rfl := Option.some.inj h
      exact hc (y1 + (1 : Int32)) (f_X9_say v3.toInt64 g2_0) rfl
set_option maxHeartbeats 4000000 in
set_option maxRecDepth 20000 in
theorem wl_X9_digest_19 {E : gs_E} {l : Launch} {p : Program} {e : Env} {s : State} {m : MethodId} {args : Array Value} {below : List Frame} {meth : Method} {c : Code} (C : gs_X E RX9 cX9_digest 3 p s m args meth c) {ov : Option Value} {σ0 : gs_H} {g0 : Int64} {x1 : Int32} {q : (gs_H × Int64)} (hx0 : ∀ (zs : gs_H) (zg : Int64), q = (zs, zg) → gs_V E 3 (7, 157) p l e s m args below meth c ov σ0 g0 42 [(0, .ref (gs_a E 57)), (1, .int x1)] [] zs zg) : ∀ (n : Nat) (y2 : Int32) (ys : gs_H) (yg : Int64), lp (b_X9_digest_19 x1) n (y2, ys, yg) = some q → gs_V E 3 (7, 157) p l e s m args below meth c ov σ0 g0 19 [(0, .ref (gs_a E 57)), (1, .int x1), (2, .int y2)] [] ys yg := by
  intro n
  induction n with
  | zero => intro y2 ys yg h; cases h
  | succ n ih =>
    intro y2 ys yg h
    obtain ⟨r, h, hl, he⟩ := lp_step h
    have hc := fun (y2 : Int32) (ys : gs_H) (yg : Int64) (hr : r = Sum.inl (y2, ys, yg)) => ih y2 ys yg (hl _ hr)
    have hk0 := fun (zs : gs_H) (zg : Int64) (hr : r = Sum.inr (zs, zg)) => hx0 zs zg (he _ hr).symm
    unfold b_X9_digest_19 at h
    try dsimp only at h
    refine x_iload_n C dX9_digest_19 rfl 2 rfl ?_
    refine x_bipush C dX9_digest_20 (v := 11) (by decide) ?_
    by_cases hc1 : (11 : Int32) ≤ y2
    · replace h := (if_pos hc1).symm.trans h
      refine x_icmp_geT C dX9_digest_22 (tgt := 42) (by decide) hc1 ?_
      refine x_lv (lv' := [(0, .ref (gs_a E 57)), (1, .int x1)]) [0, 1] rfl ?_
      obtain rfl := Option.some.inj h
      exact hk0 ys yg rfl
    · replace h := (if_neg hc1).symm.trans h
      refine x_icmp_geF C dX9_digest_22 (tgt := 42) (by decide) hc1 ?_
      refine x_aload_n C dX9_digest_25 rfl 0 rfl ?_
      refine x_aload_n C dX9_digest_26 rfl 0 rfl ?_
      refine x_iload_n C dX9_digest_27 rfl 1 rfl ?_
      refine x_iload_n C dX9_digest_28 rfl 2 rfl ?_
      obtain ⟨⟨v2, s2⟩, hv2, h⟩ := Option.bind_eq_some_iff.mp h
      try dsimp only at h
      refine x_callV C 57 (m_X9_tellRod hv2) rfl rfl kM_X9_166 kI_X9_tellRod kS_X9_tellRod kN_X9 kC_X9_tellRod kD_X9_tellRod rfl ⟨Nat.le_of_ble_eq_true rfl, Nat.le_of_ble_eq_true rfl⟩ ⟨Nat.le_refl _, Nat.le_refl _⟩ (rest := [.ref (gs_a E 57)]) rfl (Nat.le_of_ble_eq_true rfl) dX9_digest_29 (st' := [.int v2, .ref (gs_a E 57)]) rfl ?_
      refine x_i2l C dX9_digest_32 ?_
      refine x_callV C 57 (m_X9_say rfl) rfl rfl kM_X9_286 kI_X9_say kS_X9_say kN_X9 kC_X9_say kD_X9_say rfl ⟨Nat.le_of_ble_eq_true rfl, Nat.le_of_ble_eq_true rfl⟩ ⟨Nat.le_refl _, Nat.le_refl _⟩ (rest := []) rfl (Nat.le_of_ble_eq_true rfl) dX9_digest_33 (st' := []) rfl ?_
      refine x_iinc C dX9_digest_36 2 rfl (v := (y2 + (1 : Int32))) rfl (lv2 := [(0, .ref (gs_a E 57)), (1, .int x1), (2, .int (y2 + (1 : Int32)))]) (by decide) rfl [1, 2, 0] rfl ?_
      refine x_goto C dX9_digest_39 (tgt := 19) (by decide) ?_
      obtain rfl := Option.some.inj h
      exact hc (y2 + (1 : Int32)) s2 (f_X9_say v2.toInt64 yg) rfl
set_option maxHeartbeats 4000000 in
set_option maxRecDepth 20000 in
theorem wl_X9_digest_9 {E : gs_E} {l : Launch} {p : Program} {e : Env} {s : State} {m : MethodId} {args : Array Value} {below : List Frame} {meth : Method} {c : Code} (C : gs_X E RX9 cX9_digest 3 p s m args meth c) {ov : Option Value} {σ0 : gs_H} {g0 : Int64} {q : (gs_H × Int64)} (hx0 : ∀ (zs : gs_H) (zg : Int64), q = (zs, zg) → gs_V E 3 (7, 157) p l e s m args below meth c ov σ0 g0 48 [(0, .ref (gs_a E 57))] [] zs zg) : ∀ (n : Nat) (y1 : Int32) (ys : gs_H) (yg : Int64), lp (b_X9_digest_9) n (y1, ys, yg) = some q → gs_V E 3 (7, 157) p l e s m args below meth c ov σ0 g0 9 [(0, .ref (gs_a E 57)), (1, .int y1)] [] ys yg := by
  intro n
  induction n with
  | zero => intro y1 ys yg h; cases h
  | succ n ih =>
    intro y1 ys yg h
    obtain ⟨r, h, hl, he⟩ := lp_step h
    have hc := fun (y1 : Int32) (ys : gs_H) (yg : Int64) (hr : r = Sum.inl (y1, ys, yg)) => ih y1 ys yg (hl _ hr)
    have hk0 := fun (zs : gs_H) (zg : Int64) (hr : r = Sum.inr (zs, zg)) => hx0 zs zg (he _ hr).symm
    unfold b_X9_digest_9 at h
    try dsimp only at h
    refine x_iload_n C dX9_digest_9 rfl 1 rfl ?_
    refine x_aload_n C dX9_digest_10 rfl 0 rfl ?_
    refine x_geti C 57 rfl rfl inX9 4 (by decide) rfl kF_X9_104 rfl (v := (ys 57 4)) rfl dX9_digest_11 ?_
    by_cases hc1 : (ys 57 4) ≤ y1
    · replace h := (if_pos hc1).symm.trans h
      refine x_icmp_geT C dX9_digest_14 (tgt := 48) (by decide) hc1 ?_
      refine x_lv (lv' := [(0, .ref (gs_a E 57))]) [0] rfl ?_
      obtain rfl := Option.some.inj h
      exact hk0 ys yg rfl
    · replace h := (if_neg hc1).symm.trans h
      refine x_icmp_geF C dX9_digest_14 (tgt := 48) (by decide) hc1 ?_
      refine x_iconst C dX9_digest_17 (v := 0) (by decide) ?_
      refine x_istore_n C dX9_digest_18 rfl (lv2 := [(0, .ref (gs_a E 57)), (1, .int y1), (2, .int (0 : Int32))]) (by decide) rfl [1, 2, 0] rfl ?_
      obtain ⟨q2, hq2, h⟩ := Option.bind_eq_some_iff.mp h
      refine wl_X9_digest_19 C (fun s2_0 g2_0 hz => ?_) 1000 _ _ _ hq2
      subst q2
      try dsimp only at h
      refine x_iinc C dX9_digest_42 1 rfl (v := (y1 + (1 : Int32))) rfl (lv2 := [(0, .ref (gs_a E 57)), (1, .int (y1 + (1 : Int32)))]) (by decide) rfl [1, 0] rfl ?_
      refine x_goto C dX9_digest_45 (tgt := 9) (by decide) ?_
      obtain rfl := Option.some.inj h
      exact hc (y1 + (1 : Int32)) s2_0 g2_0 rfl
set_option maxHeartbeats 4000000 in
set_option maxRecDepth 20000 in
theorem m_X9_digest {E : gs_E} {l : Launch} {σ : gs_H} {g : Int64} {r0 : Int64} {σ0 : gs_H} {g0 : Int64} (h : f_X9_digest σ g = some (r0, σ0, g0)) : gs_M l E yX9_digest cX9_digest 3 (some .long) (7, 157) [.ref (gs_a E 57)] σ g (some (.long r0)) σ0 g0 := by
  refine x_enter (lv := [(0, .ref (gs_a E 57))]) (by decide +kernel) (Nat.le_of_ble_eq_true rfl) rfl (fun p e s m args below meth c C hr => ?_)
  unfold f_X9_digest at h
  refine x_aload_n C dX9_digest_0 rfl 0 rfl ?_
  refine x_ldc2 C kK_X9_284 dX9_digest_1 ?_
  refine x_putl C rfl rfl inX9 tyX9 tyX9_ok nmX9 34 (by decide) rfl gs_oneJ kF_X9_280 rfl rfl rfl rfl dX9_digest_4 ?_
  refine x_iconst C dX9_digest_7 (v := 0) (by decide) ?_
  refine x_istore_n C dX9_digest_8 rfl (lv2 := [(0, .ref (gs_a E 57)), (1, .int (0 : Int32))]) (by decide) rfl [1, 0] rfl ?_
  obtain ⟨q1, hq1, h⟩ := Option.bind_eq_some_iff.mp h
  refine wl_X9_digest_9 C (fun s1_0 g1_0 hz => ?_) 1000 _ _ _ hq1
  subst q1
  try dsimp only at h
  refine x_iconst C dX9_digest_48 (v := 0) (by decide) ?_
  refine x_istore_n C dX9_digest_49 rfl (lv2 := [(0, .ref (gs_a E 57)), (1, .int (0 : Int32))]) (by decide) rfl [1, 0] rfl ?_
  obtain ⟨q2, hq2, h⟩ := Option.bind_eq_some_iff.mp h
  refine wl_X9_digest_50 C (fun g2_0 hz => ?_) 1000 _ _ hq2
  subst q2
  try dsimp only at h
  refine x_aload_n C dX9_digest_100 rfl 0 rfl ?_
  refine x_callV C 57 (m_X9_lacks rfl) rfl rfl kM_X9_182 kI_X9_lacks kS_X9_lacks kN_X9 kC_X9_lacks kD_X9_lacks rfl ⟨Nat.le_of_ble_eq_true rfl, Nat.le_of_ble_eq_true rfl⟩ ⟨Nat.le_refl _, Nat.le_refl _⟩ (rest := []) rfl (Nat.le_of_ble_eq_true rfl) dX9_digest_101 (st' := [.int (f_X9_lacks s1_0)]) rfl ?_
  by_cases hc4 : (f_X9_lacks s1_0) = 0
  · replace h := (if_pos hc4).symm.trans h
    refine x_if_neF C dX9_digest_104 (tgt := 145) (by decide) hc4 ?_
    refine x_aload_n C dX9_digest_107 rfl 0 rfl ?_
    refine x_aload_n C dX9_digest_108 rfl 0 rfl ?_
    obtain ⟨⟨v7, s7⟩, hv7, h⟩ := Option.bind_eq_some_iff.mp h
    try dsimp only at h
    refine x_callV C 57 (m_X9_bestOf hv7) rfl rfl kM_X9_201 kI_X9_bestOf kS_X9_bestOf kN_X9 kC_X9_bestOf kD_X9_bestOf rfl ⟨Nat.le_of_ble_eq_true rfl, Nat.le_of_ble_eq_true rfl⟩ ⟨Nat.le_refl _, Nat.le_refl _⟩ (rest := [.ref (gs_a E 57)]) rfl (Nat.le_of_ble_eq_true rfl) dX9_digest_109 (st' := [.int v7, .ref (gs_a E 57)]) rfl ?_
    refine x_i2l C dX9_digest_112 ?_
    refine x_callV C 57 (m_X9_say rfl) rfl rfl kM_X9_286 kI_X9_say kS_X9_say kN_X9 kC_X9_say kD_X9_say rfl ⟨Nat.le_of_ble_eq_true rfl, Nat.le_of_ble_eq_true rfl⟩ ⟨Nat.le_refl _, Nat.le_refl _⟩ (rest := []) rfl (Nat.le_of_ble_eq_true rfl) dX9_digest_113 (st' := []) rfl ?_
    refine x_aload_n C dX9_digest_116 rfl 0 rfl ?_
    refine x_aload_n C dX9_digest_117 rfl 0 rfl ?_
    obtain ⟨⟨v9, s9⟩, hv9, h⟩ := Option.bind_eq_some_iff.mp h
    try dsimp only at h
    refine x_callV C 57 (m_X9_evenOf hv9) rfl rfl kM_X9_227 kI_X9_evenOf kS_X9_evenOf kN_X9 kC_X9_evenOf kD_X9_evenOf rfl ⟨Nat.le_of_ble_eq_true rfl, Nat.le_of_ble_eq_true rfl⟩ ⟨Nat.le_refl _, Nat.le_refl _⟩ (rest := [.ref (gs_a E 57)]) rfl (Nat.le_of_ble_eq_true rfl) dX9_digest_118 (st' := [.int v9, .ref (gs_a E 57)]) rfl ?_
    refine x_i2l C dX9_digest_121 ?_
    refine x_callV C 57 (m_X9_say rfl) rfl rfl kM_X9_286 kI_X9_say kS_X9_say kN_X9 kC_X9_say kD_X9_say rfl ⟨Nat.le_of_ble_eq_true rfl, Nat.le_of_ble_eq_true rfl⟩ ⟨Nat.le_refl _, Nat.le_refl _⟩ (rest := []) rfl (Nat.le_of_ble_eq_true rfl) dX9_digest_122 (st' := []) rfl ?_
    refine x_aload_n C dX9_digest_125 rfl 0 rfl ?_
    refine x_aload_n C dX9_digest_126 rfl 0 rfl ?_
    refine x_iconst C dX9_digest_127 (v := 0) (by decide) ?_
    obtain ⟨⟨v11, s11⟩, hv11, h⟩ := Option.bind_eq_some_iff.mp h
    try dsimp only at h
    refine x_callV C 57 (m_X9_oddsOf hv11) rfl rfl kM_X9_230 kI_X9_oddsOf kS_X9_oddsOf kN_X9 kC_X9_oddsOf kD_X9_oddsOf rfl ⟨Nat.le_of_ble_eq_true rfl, Nat.le_of_ble_eq_true rfl⟩ ⟨Nat.le_refl _, Nat.le_refl _⟩ (rest := [.ref (gs_a E 57)]) rfl (Nat.le_of_ble_eq_true rfl) dX9_digest_128 (st' := [.int v11, .ref (gs_a E 57)]) rfl ?_
    refine x_i2l C dX9_digest_131 ?_
    refine x_callV C 57 (m_X9_say rfl) rfl rfl kM_X9_286 kI_X9_say kS_X9_say kN_X9 kC_X9_say kD_X9_say rfl ⟨Nat.le_of_ble_eq_true rfl, Nat.le_of_ble_eq_true rfl⟩ ⟨Nat.le_refl _, Nat.le_refl _⟩ (rest := []) rfl (Nat.le_of_ble_eq_true rfl) dX9_digest_132 (st' := []) rfl ?_
    refine x_aload_n C dX9_digest_135 rfl 0 rfl ?_
    refine x_aload_n C dX9_digest_136 rfl 0 rfl ?_
    refine x_iconst C dX9_digest_137 (v := 1) (by decide) ?_
    obtain ⟨⟨v13, s13⟩, hv13, h⟩ := Option.bind_eq_some_iff.mp h
    try dsimp only at h
    refine x_callV C 57 (m_X9_oddsOf hv13) rfl rfl kM_X9_230 kI_X9_oddsOf kS_X9_oddsOf kN_X9 kC_X9_oddsOf kD_X9_oddsOf rfl ⟨Nat.le_of_ble_eq_true rfl, Nat.le_of_ble_eq_true rfl⟩ ⟨Nat.le_refl _, Nat.le_refl _⟩ (rest := [.ref (gs_a E 57)]) rfl (Nat.le_of_ble_eq_true rfl) dX9_digest_138 (st' := [.int v13, .ref (gs_a E 57)]) rfl ?_
    refine x_i2l C dX9_digest_141 ?_
    refine x_callV C 57 (m_X9_say rfl) rfl rfl kM_X9_286 kI_X9_say kS_X9_say kN_X9 kC_X9_say kD_X9_say rfl ⟨Nat.le_of_ble_eq_true rfl, Nat.le_of_ble_eq_true rfl⟩ ⟨Nat.le_refl _, Nat.le_refl _⟩ (rest := []) rfl (Nat.le_of_ble_eq_true rfl) dX9_digest_142 (st' := []) rfl ?_
    refine x_iconst C dX9_digest_145 (v := 0) (by decide) ?_
    refine x_istore_n C dX9_digest_146 rfl (lv2 := [(0, .ref (gs_a E 57)), (1, .int (0 : Int32))]) (by decide) rfl [1, 0] rfl ?_
    obtain ⟨q15, hq15, h⟩ := Option.bind_eq_some_iff.mp h
    refine wl_X9_digest_147 C (fun g15_0 hz => ?_) 1000 _ _ hq15
    subst q15
    try dsimp only at h
    refine x_iconst C dX9_digest_172 (v := 0) (by decide) ?_
    refine x_istore_n C dX9_digest_173 rfl (lv2 := [(0, .ref (gs_a E 57)), (1, .int (0 : Int32))]) (by decide) rfl [1, 0] rfl ?_
    obtain ⟨q16, hq16, h⟩ := Option.bind_eq_some_iff.mp h
    refine wl_X9_digest_174 C (fun s16_0 g16_0 hz => ?_) 1000 _ _ _ hq16
    subst q16
    try dsimp only at h
    refine x_aload_n C dX9_digest_196 rfl 0 rfl ?_
    refine x_getl C 57 rfl rfl inX9 34 (by decide) rfl kF_X9_280 rfl dX9_digest_197 ?_
    replace h := Option.some.inj h
    obtain ⟨rfl, h9⟩ := Prod.mk.inj h
    obtain ⟨rfl, rfl⟩ := Prod.mk.inj h9
    exact x_retl C hr rfl dX9_digest_200
  · replace h := (if_neg hc4).symm.trans h
    refine x_if_neT C dX9_digest_104 (tgt := 145) (by decide) hc4 ?_
    refine x_iconst C dX9_digest_145 (v := 0) (by decide) ?_
    refine x_istore_n C dX9_digest_146 rfl (lv2 := [(0, .ref (gs_a E 57)), (1, .int (0 : Int32))]) (by decide) rfl [1, 0] rfl ?_
    obtain ⟨q5, hq5, h⟩ := Option.bind_eq_some_iff.mp h
    refine wl_X9_digest_147 C (fun g5_0 hz => ?_) 1000 _ _ hq5
    subst q5
    try dsimp only at h
    refine x_iconst C dX9_digest_172 (v := 0) (by decide) ?_
    refine x_istore_n C dX9_digest_173 rfl (lv2 := [(0, .ref (gs_a E 57)), (1, .int (0 : Int32))]) (by decide) rfl [1, 0] rfl ?_
    obtain ⟨q6, hq6, h⟩ := Option.bind_eq_some_iff.mp h
    refine wl_X9_digest_174 C (fun s6_0 g6_0 hz => ?_) 1000 _ _ _ hq6
    subst q6
    try dsimp only at h
    refine x_aload_n C dX9_digest_196 rfl 0 rfl ?_
    refine x_getl C 57 rfl rfl inX9 34 (by decide) rfl kF_X9_280 rfl dX9_digest_197 ?_
    replace h := Option.some.inj h
    obtain ⟨rfl, h9⟩ := Prod.mk.inj h
    obtain ⟨rfl, rfl⟩ := Prod.mk.inj h9
    exact x_retl C hr rfl dX9_digest_200
def f_X9_draw (x1 : Int32) (σ : gs_H) : Option (Int32 × gs_H) :=
if ¬ x1 = 0 then
some (((((((1103515245 : Int64) * (σ 57 23).toInt64) + (12345 : Int64)) &&& (2147483647 : Int64)).toInt32 / (65536 : Int32)) - (((((1103515245 : Int64) * (σ 57 23).toInt64) + (12345 : Int64)) &&& (2147483647 : Int64)).toInt32 / (65536 : Int32)) / x1 * x1), (up2 σ 57 23 ((((1103515245 : Int64) * (σ 57 23).toInt64) + (12345 : Int64)) &&& (2147483647 : Int64)).toInt32)) else none
set_option maxHeartbeats 4000000 in
set_option maxRecDepth 20000 in
theorem m_X9_draw {E : gs_E} {l : Launch} {x1 : Int32} {σ : gs_H} {g : Int64} {r0 : Int32} {σ0 : gs_H} (h : f_X9_draw x1 σ = some (r0, σ0)) : gs_M l E yX9_draw cX9_draw 2 (some .int) (0, 0) [.ref (gs_a E 57), .int x1] σ g (some (.int r0)) σ0 g := by
  refine x_enter (lv := [(0, .ref (gs_a E 57)), (1, .int x1)]) (by decide +kernel) (Nat.le_of_ble_eq_true rfl) rfl (fun p e s m args below meth c C hr => ?_)
  unfold f_X9_draw at h
  refine x_aload_n C dX9_draw_0 rfl 0 rfl ?_
  refine x_ldc2 C kK_X9_242 dX9_draw_1 ?_
  refine x_aload_n C dX9_draw_4 rfl 0 rfl ?_
  refine x_geti C 57 rfl rfl inX9 23 (by decide) rfl kF_X9_244 rfl (v := (σ 57 23)) rfl dX9_draw_5 ?_
  refine x_i2l C dX9_draw_8 ?_
  refine x_lmul C dX9_draw_9 ?_
  refine x_ldc2 C kK_X9_247 dX9_draw_10 ?_
  refine x_ladd C dX9_draw_13 ?_
  refine x_ldc2 C kK_X9_249 dX9_draw_14 ?_
  refine x_land C dX9_draw_17 ?_
  refine x_l2i C dX9_draw_18 ?_
  refine x_puti C 57 rfl rfl inX9 tyX9 tyX9_ok nmX9 23 (by decide) rfl kF_X9_244 rfl rfl rfl rfl dX9_draw_19 ?_
  refine x_aload_n C dX9_draw_22 rfl 0 rfl ?_
  refine x_geti C 57 rfl rfl inX9 23 (by decide) rfl kF_X9_244 rfl (v := ((((1103515245 : Int64) * (σ 57 23).toInt64) + (12345 : Int64)) &&& (2147483647 : Int64)).toInt32) rfl dX9_draw_23 ?_
  refine x_ldc C kK_X9_251 dX9_draw_26 ?_
  refine x_idiv C dX9_draw_28 (by decide) ?_
  refine x_iload_n C dX9_draw_29 rfl 1 rfl ?_
  obtain ⟨hn1, h⟩ := ck_some h
  refine x_irem C dX9_draw_30 hn1 ?_
  replace h := Option.some.inj h
  obtain ⟨rfl, rfl⟩ := Prod.mk.inj h
  exact x_ret C hr rfl rfl dX9_draw_31
def f_X9_isRod (x1 : Int32) (σ : gs_H) : Option (Int32) :=
if (f_X9_in x1.toInt64 (0 : Int64) ((σ 57 4) - (1 : Int32)).toInt64) = 0 ∨ (f_X9_in x1.toInt64 (0 : Int64) ((σ 57 4) - (1 : Int32)).toInt64) = 1 then
some (f_X9_in x1.toInt64 (0 : Int64) ((σ 57 4) - (1 : Int32)).toInt64) else none
set_option maxHeartbeats 4000000 in
set_option maxRecDepth 20000 in
theorem m_X9_isRod {E : gs_E} {l : Launch} {x1 : Int32} {σ : gs_H} {g : Int64} {r0 : Int32} (h : f_X9_isRod x1 σ = some r0) : gs_M l E yX9_isRod cX9_isRod 2 (some .boolean) (1, 25) [.ref (gs_a E 57), .int x1] σ g (some (.int r0)) σ g := by
  refine x_enter (lv := [(0, .ref (gs_a E 57)), (1, .int x1)]) (by decide +kernel) (Nat.le_of_ble_eq_true rfl) rfl (fun p e s m args below meth c C hr => ?_)
  unfold f_X9_isRod at h
  refine x_iload_n C dX9_isRod_0 rfl 1 rfl ?_
  refine x_i2l C dX9_isRod_1 ?_
  refine x_lconst C dX9_isRod_2 (v := 0) (by decide) ?_
  refine x_aload_n C dX9_isRod_3 rfl 0 rfl ?_
  refine x_geti C 57 rfl rfl inX9 4 (by decide) rfl kF_X9_104 rfl (v := (σ 57 4)) rfl dX9_isRod_4 ?_
  refine x_iconst C dX9_isRod_7 (v := 1) (by decide) ?_
  refine x_isub C dX9_isRod_8 ?_
  refine x_i2l C dX9_isRod_9 ?_
  refine x_callS C (m_X9_in rfl) kM_X9_64 kT_X9_in kN_X9 kC_X9_in kD_X9_in rfl ⟨Nat.le_of_ble_eq_true rfl, Nat.le_of_ble_eq_true rfl⟩ ⟨Nat.le_refl _, Nat.le_refl _⟩ (rest := []) rfl (Nat.le_of_ble_eq_true rfl) dX9_isRod_10 (st' := [.int (f_X9_in x1.toInt64 (0 : Int64) ((σ 57 4) - (1 : Int32)).toInt64)]) rfl ?_
  obtain ⟨hbo, h⟩ := ck_some h
  replace h := Option.some.inj h
  subst h
  exact x_retb C hr hbo rfl dX9_isRod_13
def f_X9_drop (x1 : Int32) (σ : gs_H) : Option (Int32 × gs_H) :=
(f_X9_isRod x1 σ).bind fun q1 =>
if q1 = 0 then (
some ((-101 : Int32), σ))
else (
if x1 = 0 then (
some ((-101 : Int32), σ))
else (
if (((σ 57 8) >>> (x1 &&& 31)) &&& (1 : Int32)) = (1 : Int32) then (
some ((-103 : Int32), σ))
else (
(f_X9_there (up2 σ 57 8 ((σ 57 8) ||| ((1 : Int32) <<< (x1 &&& 31))))).bind fun q5 =>
(f_X9_ones q5).bind fun q6 =>
some (q6, (up2 σ 57 8 ((σ 57 8) ||| ((1 : Int32) <<< (x1 &&& 31))))))))
set_option maxHeartbeats 4000000 in
set_option maxRecDepth 20000 in
theorem m_X9_drop {E : gs_E} {l : Launch} {x1 : Int32} {σ : gs_H} {g : Int64} {r0 : Int32} {σ0 : gs_H} (h : f_X9_drop x1 σ = some (r0, σ0)) : gs_M l E yX9_drop cX9_drop 2 (some .int) (2, 46) [.ref (gs_a E 57), .int x1] σ g (some (.int r0)) σ0 g := by
  refine x_enter (lv := [(0, .ref (gs_a E 57)), (1, .int x1)]) (by decide +kernel) (Nat.le_of_ble_eq_true rfl) rfl (fun p e s m args below meth c C hr => ?_)
  unfold f_X9_drop at h
  refine x_aload_n C dX9_drop_0 rfl 0 rfl ?_
  refine x_iload_n C dX9_drop_1 rfl 1 rfl ?_
  obtain ⟨v1, hv1, h⟩ := Option.bind_eq_some_iff.mp h
  refine x_callV C 57 (m_X9_isRod hv1) rfl rfl kM_X9_163 kI_X9_isRod kS_X9_isRod kN_X9 kC_X9_isRod kD_X9_isRod rfl ⟨Nat.le_of_ble_eq_true rfl, Nat.le_of_ble_eq_true rfl⟩ ⟨Nat.le_refl _, Nat.le_refl _⟩ (rest := []) rfl (Nat.le_of_ble_eq_true rfl) dX9_drop_2 (st' := [.int v1]) rfl ?_
  by_cases hc2 : v1 = 0
  · replace h := (if_pos hc2).symm.trans h
    refine x_if_eqT C dX9_drop_5 (tgt := 12) (by decide) hc2 ?_
    refine x_bipush C dX9_drop_12 (v := -101) (by decide) ?_
    replace h := Option.some.inj h
    obtain ⟨rfl, rfl⟩ := Prod.mk.inj h
    exact x_ret C hr rfl rfl dX9_drop_14
  · replace h := (if_neg hc2).symm.trans h
    refine x_if_eqF C dX9_drop_5 (tgt := 12) (by decide) hc2 ?_
    refine x_iload_n C dX9_drop_8 rfl 1 rfl ?_
    by_cases hc3 : x1 = 0
    · replace h := (if_pos hc3).symm.trans h
      refine x_if_neF C dX9_drop_9 (tgt := 15) (by decide) hc3 ?_
      refine x_bipush C dX9_drop_12 (v := -101) (by decide) ?_
      replace h := Option.some.inj h
      obtain ⟨rfl, rfl⟩ := Prod.mk.inj h
      exact x_ret C hr rfl rfl dX9_drop_14
    · replace h := (if_neg hc3).symm.trans h
      refine x_if_neT C dX9_drop_9 (tgt := 15) (by decide) hc3 ?_
      refine x_aload_n C dX9_drop_15 rfl 0 rfl ?_
      refine x_geti C 57 rfl rfl inX9 8 (by decide) rfl kF_X9_113 rfl (v := (σ 57 8)) rfl dX9_drop_16 ?_
      refine x_iload_n C dX9_drop_19 rfl 1 rfl ?_
      refine x_ishr C dX9_drop_20 ?_
      refine x_iconst C dX9_drop_21 (v := 1) (by decide) ?_
      refine x_iand C dX9_drop_22 ?_
      refine x_iconst C dX9_drop_23 (v := 1) (by decide) ?_
      by_cases hc4 : (((σ 57 8) >>> (x1 &&& 31)) &&& (1 : Int32)) = (1 : Int32)
      · replace h := (if_pos hc4).symm.trans h
        refine x_icmp_neF C dX9_drop_24 (tgt := 30) (by decide) hc4 ?_
        refine x_bipush C dX9_drop_27 (v := -103) (by decide) ?_
        replace h := Option.some.inj h
        obtain ⟨rfl, rfl⟩ := Prod.mk.inj h
        exact x_ret C hr rfl rfl dX9_drop_29
      · replace h := (if_neg hc4).symm.trans h
        refine x_icmp_neT C dX9_drop_24 (tgt := 30) (by decide) hc4 ?_
        refine x_aload_n C dX9_drop_30 rfl 0 rfl ?_
        refine x_dup C dX9_drop_31 rfl ?_
        refine x_geti C 57 rfl rfl inX9 8 (by decide) rfl kF_X9_113 rfl (v := (σ 57 8)) rfl dX9_drop_32 ?_
        refine x_iconst C dX9_drop_35 (v := 1) (by decide) ?_
        refine x_iload_n C dX9_drop_36 rfl 1 rfl ?_
        refine x_ishl C dX9_drop_37 ?_
        refine x_ior C dX9_drop_38 ?_
        refine x_puti C 57 rfl rfl inX9 tyX9 tyX9_ok nmX9 8 (by decide) rfl kF_X9_113 rfl rfl rfl rfl dX9_drop_39 ?_
        refine x_aload_n C dX9_drop_42 rfl 0 rfl ?_
        obtain ⟨v5, hv5, h⟩ := Option.bind_eq_some_iff.mp h
        refine x_callV C 57 (m_X9_there hv5) rfl rfl kM_X9_145 kI_X9_there kS_X9_there kN_X9 kC_X9_there kD_X9_there rfl ⟨Nat.le_of_ble_eq_true rfl, Nat.le_of_ble_eq_true rfl⟩ ⟨Nat.le_refl _, Nat.le_refl _⟩ (rest := []) rfl (Nat.le_of_ble_eq_true rfl) dX9_drop_43 (st' := [.int v5]) rfl ?_
        obtain ⟨v6, hv6, h⟩ := Option.bind_eq_some_iff.mp h
        refine x_callS C (m_X9_ones hv6) kM_X9_196 kT_X9_ones kN_X9 kC_X9_ones kD_X9_ones rfl ⟨Nat.le_of_ble_eq_true rfl, Nat.le_of_ble_eq_true rfl⟩ ⟨Nat.le_refl _, Nat.le_refl _⟩ (rest := []) rfl (Nat.le_of_ble_eq_true rfl) dX9_drop_46 (st' := [.int v6]) rfl ?_
        replace h := Option.some.inj h
        obtain ⟨rfl, rfl⟩ := Prod.mk.inj h
        exact x_ret C hr rfl rfl dX9_drop_49
def f_X9_even (σ : gs_H) : Option (Int32 × gs_H) :=
if (f_X9_lacks σ) = 0 then (
(f_X9_evenOf σ).bind fun q3 =>
some (q3.1, q3.2))
else (
some ((-103 : Int32), σ))
set_option maxHeartbeats 4000000 in
set_option maxRecDepth 20000 in
theorem m_X9_even {E : gs_E} {l : Launch} {σ : gs_H} {g : Int64} {r0 : Int32} {σ0 : gs_H} (h : f_X9_even σ = some (r0, σ0)) : gs_M l E yX9_even cX9_even 1 (some .int) (6, 133) [.ref (gs_a E 57)] σ g (some (.int r0)) σ0 g := by
  refine x_enter (lv := [(0, .ref (gs_a E 57))]) (by decide +kernel) (Nat.le_of_ble_eq_true rfl) rfl (fun p e s m args below meth c C hr => ?_)
  unfold f_X9_even at h
  refine x_aload_n C dX9_even_0 rfl 0 rfl ?_
  refine x_callV C 57 (m_X9_lacks rfl) rfl rfl kM_X9_182 kI_X9_lacks kS_X9_lacks kN_X9 kC_X9_lacks kD_X9_lacks rfl ⟨Nat.le_of_ble_eq_true rfl, Nat.le_of_ble_eq_true rfl⟩ ⟨Nat.le_refl _, Nat.le_refl _⟩ (rest := []) rfl (Nat.le_of_ble_eq_true rfl) dX9_even_1 (st' := [.int (f_X9_lacks σ)]) rfl ?_
  by_cases hc2 : (f_X9_lacks σ) = 0
  · replace h := (if_pos hc2).symm.trans h
    refine x_if_eqT C dX9_even_4 (tgt := 12) (by decide) hc2 ?_
    refine x_aload_n C dX9_even_12 rfl 0 rfl ?_
    obtain ⟨⟨v3, s3⟩, hv3, h⟩ := Option.bind_eq_some_iff.mp h
    try dsimp only at h
    refine x_callV C 57 (m_X9_evenOf hv3) rfl rfl kM_X9_227 kI_X9_evenOf kS_X9_evenOf kN_X9 kC_X9_evenOf kD_X9_evenOf rfl ⟨Nat.le_of_ble_eq_true rfl, Nat.le_of_ble_eq_true rfl⟩ ⟨Nat.le_refl _, Nat.le_refl _⟩ (rest := []) rfl (Nat.le_of_ble_eq_true rfl) dX9_even_13 (st' := [.int v3]) rfl ?_
    replace h := Option.some.inj h
    obtain ⟨rfl, rfl⟩ := Prod.mk.inj h
    exact x_ret C hr rfl rfl dX9_even_16
  · replace h := (if_neg hc2).symm.trans h
    refine x_if_eqF C dX9_even_4 (tgt := 12) (by decide) hc2 ?_
    refine x_bipush C dX9_even_7 (v := -103) (by decide) ?_
    refine x_goto C dX9_even_9 (tgt := 16) (by decide) ?_
    replace h := Option.some.inj h
    obtain ⟨rfl, rfl⟩ := Prod.mk.inj h
    exact x_ret C hr rfl rfl dX9_even_16
def j_X9_evenings_118 (x1 : Int32) (x4 : Int32) (x5 : Int32) (σ : gs_H) : Option ((Int32 × Int32 × gs_H) ⊕ ((Int32 × gs_H))) :=
(f_X9_levelThen (up2 σ 57 17 ((σ 57 17) + (1 : Int32)))).bind fun q22 =>
some (Sum.inl ((x4 + q22.1), (x5 + (1 : Int32)), q22.2))
def b_X9_evenings_56 (x1 : Int32) (y : Int32 × Int32 × gs_H) : Option ((Int32 × Int32 × gs_H) ⊕ ((Int32 × gs_H))) :=
if x1 ≤ y.2.1 then (
some (Sum.inr (y.1, y.2.2)))
else (
(f_X9_draw (y.2.2 57 5) y.2.2).bind fun q14 =>
(f_X9_draw (q14.2 57 5) q14.2).bind fun q15 =>
if q14.1 = q15.1 then (
j_X9_evenings_118 x1 y.1 y.2.1 q15.2)
else (
if (f_X9_isCut q14.1 q15.2) = 0 then (
if (f_X9_isCut q15.1 q15.2) = 0 then (
(f_X9_trade 65 q14.1 q15.1 q15.2).bind fun q21 =>
j_X9_evenings_118 x1 y.1 y.2.1 q21)
else (
j_X9_evenings_118 x1 y.1 y.2.1 q15.2))
else (
j_X9_evenings_118 x1 y.1 y.2.1 q15.2)))
def f_X9_evenings (x1 : Int32) (x2 : Int32) (x3 : Int32) (σ : gs_H) : Option (Int32 × gs_H) :=
if (f_X9_in x1.toInt64 (1 : Int64) (60 : Int64)) = 0 then (
some ((-102 : Int32), σ))
else (
if x2 < 0 then (
some ((-102 : Int32), σ))
else (
if (f_X9_in x3.toInt64 (0 : Int64) (2 : Int64)) = 0 then (
some ((-102 : Int32), σ))
else (
if (f_X9_lacks σ) = 0 then (
(f_X9_begin (up2 σ 57 23 x2)).bind fun q8 =>
(lp (b_X9_evenings_56 x1) 1000 ((0 : Int32), (0 : Int32), q8)).bind fun q9 =>
if x3 = 0 then (
some (q9.1, q9.2))
else (
if x3 = (1 : Int32) then (
if inb (0 : Int32) 5 then
some (((10000 : Int32) + (q9.2 67 (0 : Int32).toNatClampNeg)), q9.2) else none)
else (
some ((q9.2 57 23), q9.2))))
else (
some ((-103 : Int32), σ)))))
set_option maxHeartbeats 4000000 in
set_option maxRecDepth 20000 in
theorem wj_X9_evenings_118 {E : gs_E} {l : Launch} {p : Program} {e : Env} {s : State} {m : MethodId} {args : Array Value} {below : List Frame} {meth : Method} {c : Code} (C : gs_X E RX9 cX9_evenings 8 p s m args meth c) {ov : Option Value} {σ0 : gs_H} {g0 : Int64} {x1 : Int32} {x4 : Int32} {x5 : Int32} {x3 : Int32} {σ : gs_H} {g : Int64} {r : (Int32 × Int32 × gs_H) ⊕ ((Int32 × gs_H))} (h : j_X9_evenings_118 x1 x4 x5 σ = some r) (hc : ∀ (y4 : Int32) (y5 : Int32) (ys : gs_H), r = Sum.inl (y4, y5, ys) → gs_V E 8 (5, 111) p l e s m args below meth c ov σ0 g0 56 [(0, .ref (gs_a E 57)), (1, .int x1), (3, .int x3), (4, .int y4), (5, .int y5)] [] ys g) (hk0 : ∀ (z4 : Int32) (zs : gs_H), r = Sum.inr (z4, zs) → gs_V E 8 (5, 111) p l e s m args below meth c ov σ0 g0 143 [(0, .ref (gs_a E 57)), (3, .int x3), (4, .int z4)] [] zs g) : gs_V E 8 (5, 111) p l e s m args below meth c ov σ0 g0 118 [(0, .ref (gs_a E 57)), (1, .int x1), (3, .int x3), (4, .int x4), (5, .int x5)] [] σ g := by
  unfold j_X9_evenings_118 at h
  refine x_aload_n C dX9_evenings_118 rfl 0 rfl ?_
  refine x_dup C dX9_evenings_119 rfl ?_
  refine x_geti C 57 rfl rfl inX9 17 (by decide) rfl kF_X9_129 rfl (v := (σ 57 17)) rfl dX9_evenings_120 ?_
  refine x_iconst C dX9_evenings_123 (v := 1) (by decide) ?_
  refine x_iadd C dX9_evenings_124 ?_
  refine x_puti C 57 rfl rfl inX9 tyX9 tyX9_ok nmX9 17 (by decide) rfl kF_X9_129 rfl rfl rfl rfl dX9_evenings_125 ?_
  refine x_iload C dX9_evenings_128 3 rfl ?_
  refine x_aload_n C dX9_evenings_130 rfl 0 rfl ?_
  obtain ⟨⟨v1, s1⟩, hv1, h⟩ := Option.bind_eq_some_iff.mp h
  try dsimp only at h
  refine x_callV C 57 (m_X9_levelThen hv1) rfl rfl kM_X9_151 kI_X9_levelThen kS_X9_levelThen kN_X9 kC_X9_levelThen kD_X9_levelThen rfl ⟨Nat.le_of_ble_eq_true rfl, Nat.le_of_ble_eq_true rfl⟩ ⟨Nat.le_refl _, Nat.le_refl _⟩ (rest := [.int x4]) rfl (Nat.le_of_ble_eq_true rfl) dX9_evenings_131 (st' := [.int v1, .int x4]) rfl ?_
  refine x_iadd C dX9_evenings_134 ?_
  refine x_istore C dX9_evenings_135 (lv2 := [(0, .ref (gs_a E 57)), (1, .int x1), (3, .int x3), (4, .int (x4 + v1)), (5, .int x5)]) (by decide) rfl [1, 2, 3, 0, 4] rfl ?_
  refine x_iinc C dX9_evenings_137 4 rfl (v := (x5 + (1 : Int32))) rfl (lv2 := [(0, .ref (gs_a E 57)), (1, .int x1), (3, .int x3), (4, .int (x4 + v1)), (5, .int (x5 + (1 : Int32)))]) (by decide) rfl [1, 2, 3, 4, 0] rfl ?_
  refine x_goto C dX9_evenings_140 (tgt := 56) (by decide) ?_
  obtain rfl := Option.some.inj h
  exact hc (x4 + v1) (x5 + (1 : Int32)) s1 rfl
set_option maxHeartbeats 4000000 in
set_option maxRecDepth 20000 in
theorem wl_X9_evenings_56 {E : gs_E} {l : Launch} {p : Program} {e : Env} {s : State} {m : MethodId} {args : Array Value} {below : List Frame} {meth : Method} {c : Code} (C : gs_X E RX9 cX9_evenings 8 p s m args meth c) {ov : Option Value} {σ0 : gs_H} {g0 : Int64} {x1 : Int32} {x3 : Int32} {g : Int64} {q : (Int32 × gs_H)} (hx0 : ∀ (z4 : Int32) (zs : gs_H), q = (z4, zs) → gs_V E 8 (5, 111) p l e s m args below meth c ov σ0 g0 143 [(0, .ref (gs_a E 57)), (3, .int x3), (4, .int z4)] [] zs g) : ∀ (n : Nat) (y4 : Int32) (y5 : Int32) (ys : gs_H), lp (b_X9_evenings_56 x1) n (y4, y5, ys) = some q → gs_V E 8 (5, 111) p l e s m args below meth c ov σ0 g0 56 [(0, .ref (gs_a E 57)), (1, .int x1), (3, .int x3), (4, .int y4), (5, .int y5)] [] ys g := by
  intro n
  induction n with
  | zero => intro y4 y5 ys h; cases h
  | succ n ih =>
    intro y4 y5 ys h
    obtain ⟨r, h, hl, he⟩ := lp_step h
    have hc := fun (y4 : Int32) (y5 : Int32) (ys : gs_H) (hr : r = Sum.inl (y4, y5, ys)) => ih y4 y5 ys (hl _ hr)
    have hk0 := fun (z4 : Int32) (zs : gs_H) (hr : r = Sum.inr (z4, zs)) => hx0 z4 zs (he _ hr).symm
    unfold b_X9_evenings_56 at h
    try dsimp only at h
    refine x_iload C dX9_evenings_56 4 rfl ?_
    refine x_iload_n C dX9_evenings_58 rfl 1 rfl ?_
    by_cases hc1 : x1 ≤ y5
    · replace h := (if_pos hc1).symm.trans h
      refine x_icmp_geT C dX9_evenings_59 (tgt := 143) (by decide) hc1 ?_
      refine x_lv (lv' := [(0, .ref (gs_a E 57)), (3, .int x3), (4, .int y4)]) [0, 2, 3] rfl ?_
      obtain rfl := Option.some.inj h
      exact hk0 y4 ys rfl
    · replace h := (if_neg hc1).symm.trans h
      refine x_icmp_geF C dX9_evenings_59 (tgt := 143) (by decide) hc1 ?_
      refine x_aload_n C dX9_evenings_62 rfl 0 rfl ?_
      refine x_aload_n C dX9_evenings_63 rfl 0 rfl ?_
      refine x_geti C 57 rfl rfl inX9 5 (by decide) rfl kF_X9_107 rfl (v := (ys 57 5)) rfl dX9_evenings_64 ?_
      obtain ⟨⟨v2, s2⟩, hv2, h⟩ := Option.bind_eq_some_iff.mp h
      try dsimp only at h
      refine x_callV C 57 (m_X9_draw hv2) rfl rfl kM_X9_254 kI_X9_draw kS_X9_draw kN_X9 kC_X9_draw kD_X9_draw rfl ⟨Nat.le_of_ble_eq_true rfl, Nat.le_of_ble_eq_true rfl⟩ ⟨Nat.le_refl _, Nat.le_refl _⟩ (rest := []) rfl (Nat.le_of_ble_eq_true rfl) dX9_evenings_67 (st' := [.int v2]) rfl ?_
      refine x_istore C dX9_evenings_70 (lv2 := [(0, .ref (gs_a E 57)), (1, .int x1), (3, .int x3), (4, .int y4), (5, .int y5), (6, .int v2)]) (by decide) rfl [1, 2, 3, 4, 5, 0] rfl ?_
      refine x_aload_n C dX9_evenings_72 rfl 0 rfl ?_
      refine x_aload_n C dX9_evenings_73 rfl 0 rfl ?_
      refine x_geti C 57 rfl rfl inX9 5 (by decide) rfl kF_X9_107 rfl (v := (s2 57 5)) rfl dX9_evenings_74 ?_
      obtain ⟨⟨v3, s3⟩, hv3, h⟩ := Option.bind_eq_some_iff.mp h
      try dsimp only at h
      refine x_callV C 57 (m_X9_draw hv3) rfl rfl kM_X9_254 kI_X9_draw kS_X9_draw kN_X9 kC_X9_draw kD_X9_draw rfl ⟨Nat.le_of_ble_eq_true rfl, Nat.le_of_ble_eq_true rfl⟩ ⟨Nat.le_refl _, Nat.le_refl _⟩ (rest := []) rfl (Nat.le_of_ble_eq_true rfl) dX9_evenings_77 (st' := [.int v3]) rfl ?_
      refine x_istore C dX9_evenings_80 (lv2 := [(0, .ref (gs_a E 57)), (1, .int x1), (3, .int x3), (4, .int y4), (5, .int y5), (6, .int v2), (7, .int v3)]) (by decide) rfl [1, 2, 3, 4, 5, 6, 0] rfl ?_
      refine x_iload C dX9_evenings_82 5 rfl ?_
      refine x_iload C dX9_evenings_84 6 rfl ?_
      by_cases hc4 : v2 = v3
      · replace h := (if_pos hc4).symm.trans h
        refine x_icmp_eqT C dX9_evenings_86 (tgt := 118) (by decide) hc4 ?_
        refine x_lv (lv' := [(0, .ref (gs_a E 57)), (1, .int x1), (3, .int x3), (4, .int y4), (5, .int y5)]) [0, 1, 2, 3, 4] rfl ?_
        exact wj_X9_evenings_118 C h hc hk0
      · replace h := (if_neg hc4).symm.trans h
        refine x_icmp_eqF C dX9_evenings_86 (tgt := 118) (by decide) hc4 ?_
        refine x_aload_n C dX9_evenings_89 rfl 0 rfl ?_
        refine x_iload C dX9_evenings_90 5 rfl ?_
        refine x_callV C 57 (m_X9_isCut rfl) rfl rfl kM_X9_186 kI_X9_isCut kS_X9_isCut kN_X9 kC_X9_isCut kD_X9_isCut rfl ⟨Nat.le_of_ble_eq_true rfl, Nat.le_of_ble_eq_true rfl⟩ ⟨Nat.le_refl _, Nat.le_refl _⟩ (rest := []) rfl (Nat.le_of_ble_eq_true rfl) dX9_evenings_92 (st' := [.int (f_X9_isCut v2 s3)]) rfl ?_
        by_cases hc6 : (f_X9_isCut v2 s3) = 0
        · replace h := (if_pos hc6).symm.trans h
          refine x_if_neF C dX9_evenings_95 (tgt := 118) (by decide) hc6 ?_
          refine x_aload_n C dX9_evenings_98 rfl 0 rfl ?_
          refine x_iload C dX9_evenings_99 6 rfl ?_
          refine x_callV C 57 (m_X9_isCut rfl) rfl rfl kM_X9_186 kI_X9_isCut kS_X9_isCut kN_X9 kC_X9_isCut kD_X9_isCut rfl ⟨Nat.le_of_ble_eq_true rfl, Nat.le_of_ble_eq_true rfl⟩ ⟨Nat.le_refl _, Nat.le_refl _⟩ (rest := []) rfl (Nat.le_of_ble_eq_true rfl) dX9_evenings_101 (st' := [.int (f_X9_isCut v3 s3)]) rfl ?_
          by_cases hc8 : (f_X9_isCut v3 s3) = 0
          · replace h := (if_pos hc8).symm.trans h
            refine x_if_neF C dX9_evenings_104 (tgt := 118) (by decide) hc8 ?_
            refine x_aload_n C dX9_evenings_107 rfl 0 rfl ?_
            refine x_getr C 57 rfl rfl inX9 16 (by decide) rfl kF_X9_31 rfl dX9_evenings_108 ?_
            refine x_iload C dX9_evenings_111 5 rfl ?_
            refine x_iload C dX9_evenings_113 6 rfl ?_
            obtain ⟨s9, hv9, h⟩ := Option.bind_eq_some_iff.mp h
            refine x_callS C (m_X9_trade_65 hv9) kM_X9_189 kT_X9_trade kN_X9 kC_X9_trade kD_X9_trade rfl ⟨Nat.le_of_ble_eq_true rfl, Nat.le_of_ble_eq_true rfl⟩ ⟨Nat.le_refl _, Nat.le_refl _⟩ (rest := []) rfl (Nat.le_of_ble_eq_true rfl) dX9_evenings_115 (st' := []) rfl ?_
            refine x_lv (lv' := [(0, .ref (gs_a E 57)), (1, .int x1), (3, .int x3), (4, .int y4), (5, .int y5)]) [0, 1, 2, 3, 4] rfl ?_
            exact wj_X9_evenings_118 C h hc hk0
          · replace h := (if_neg hc8).symm.trans h
            refine x_if_neT C dX9_evenings_104 (tgt := 118) (by decide) hc8 ?_
            refine x_lv (lv' := [(0, .ref (gs_a E 57)), (1, .int x1), (3, .int x3), (4, .int y4), (5, .int y5)]) [0, 1, 2, 3, 4] rfl ?_
            exact wj_X9_evenings_118 C h hc hk0
        · replace h := (if_neg hc6).symm.trans h
          refine x_if_neT C dX9_evenings_95 (tgt := 118) (by decide) hc6 ?_
          refine x_lv (lv' := [(0, .ref (gs_a E 57)), (1, .int x1), (3, .int x3), (4, .int y4), (5, .int y5)]) [0, 1, 2, 3, 4] rfl ?_
          exact wj_X9_evenings_118 C h hc hk0
set_option maxHeartbeats 4000000 in
set_option maxRecDepth 20000 in
theorem m_X9_evenings {E : gs_E} {l : Launch} {x1 : Int32} {x2 : Int32} {x3 : Int32} {σ : gs_H} {g : Int64} {r0 : Int32} {σ0 : gs_H} (h : f_X9_evenings x1 x2 x3 σ = some (r0, σ0)) : gs_M l E yX9_evenings cX9_evenings 8 (some .int) (5, 111) [.ref (gs_a E 57), .int x1, .int x2, .int x3] σ g (some (.int r0)) σ0 g := by
  refine x_enter (lv := [(0, .ref (gs_a E 57)), (1, .int x1), (2, .int x2), (3, .int x3)]) (by decide +kernel) (Nat.le_of_ble_eq_true rfl) rfl (fun p e s m args below meth c C hr => ?_)
  unfold f_X9_evenings at h
  refine x_iload_n C dX9_evenings_0 rfl 1 rfl ?_
  refine x_i2l C dX9_evenings_1 ?_
  refine x_lconst C dX9_evenings_2 (v := 1) (by decide) ?_
  refine x_ldc2 C kK_X9_252 dX9_evenings_3 ?_
  refine x_callS C (m_X9_in rfl) kM_X9_64 kT_X9_in kN_X9 kC_X9_in kD_X9_in rfl ⟨Nat.le_of_ble_eq_true rfl, Nat.le_of_ble_eq_true rfl⟩ ⟨Nat.le_refl _, Nat.le_refl _⟩ (rest := []) rfl (Nat.le_of_ble_eq_true rfl) dX9_evenings_6 (st' := [.int (f_X9_in x1.toInt64 (1 : Int64) (60 : Int64))]) rfl ?_
  by_cases hc2 : (f_X9_in x1.toInt64 (1 : Int64) (60 : Int64)) = 0
  · replace h := (if_pos hc2).symm.trans h
    refine x_if_eqT C dX9_evenings_9 (tgt := 28) (by decide) hc2 ?_
    refine x_bipush C dX9_evenings_28 (v := -102) (by decide) ?_
    replace h := Option.some.inj h
    obtain ⟨rfl, rfl⟩ := Prod.mk.inj h
    exact x_ret C hr rfl rfl dX9_evenings_30
  · replace h := (if_neg hc2).symm.trans h
    refine x_if_eqF C dX9_evenings_9 (tgt := 28) (by decide) hc2 ?_
    refine x_iload_n C dX9_evenings_12 rfl 2 rfl ?_
    by_cases hc3 : x2 < 0
    · replace h := (if_pos hc3).symm.trans h
      refine x_if_ltT C dX9_evenings_13 (tgt := 28) (by decide) hc3 ?_
      refine x_bipush C dX9_evenings_28 (v := -102) (by decide) ?_
      replace h := Option.some.inj h
      obtain ⟨rfl, rfl⟩ := Prod.mk.inj h
      exact x_ret C hr rfl rfl dX9_evenings_30
    · replace h := (if_neg hc3).symm.trans h
      refine x_if_ltF C dX9_evenings_13 (tgt := 28) (by decide) hc3 ?_
      refine x_iload_n C dX9_evenings_16 rfl 3 rfl ?_
      refine x_i2l C dX9_evenings_17 ?_
      refine x_lconst C dX9_evenings_18 (v := 0) (by decide) ?_
      refine x_ldc2 C kK_X9_233 dX9_evenings_19 ?_
      refine x_callS C (m_X9_in rfl) kM_X9_64 kT_X9_in kN_X9 kC_X9_in kD_X9_in rfl ⟨Nat.le_of_ble_eq_true rfl, Nat.le_of_ble_eq_true rfl⟩ ⟨Nat.le_refl _, Nat.le_refl _⟩ (rest := []) rfl (Nat.le_of_ble_eq_true rfl) dX9_evenings_22 (st' := [.int (f_X9_in x3.toInt64 (0 : Int64) (2 : Int64))]) rfl ?_
      by_cases hc5 : (f_X9_in x3.toInt64 (0 : Int64) (2 : Int64)) = 0
      · replace h := (if_pos hc5).symm.trans h
        refine x_if_neF C dX9_evenings_25 (tgt := 31) (by decide) hc5 ?_
        refine x_bipush C dX9_evenings_28 (v := -102) (by decide) ?_
        replace h := Option.some.inj h
        obtain ⟨rfl, rfl⟩ := Prod.mk.inj h
        exact x_ret C hr rfl rfl dX9_evenings_30
      · replace h := (if_neg hc5).symm.trans h
        refine x_if_neT C dX9_evenings_25 (tgt := 31) (by decide) hc5 ?_
        refine x_aload_n C dX9_evenings_31 rfl 0 rfl ?_
        refine x_callV C 57 (m_X9_lacks rfl) rfl rfl kM_X9_182 kI_X9_lacks kS_X9_lacks kN_X9 kC_X9_lacks kD_X9_lacks rfl ⟨Nat.le_of_ble_eq_true rfl, Nat.le_of_ble_eq_true rfl⟩ ⟨Nat.le_refl _, Nat.le_refl _⟩ (rest := []) rfl (Nat.le_of_ble_eq_true rfl) dX9_evenings_32 (st' := [.int (f_X9_lacks σ)]) rfl ?_
        by_cases hc7 : (f_X9_lacks σ) = 0
        · replace h := (if_pos hc7).symm.trans h
          refine x_if_eqT C dX9_evenings_35 (tgt := 41) (by decide) hc7 ?_
          refine x_aload_n C dX9_evenings_41 rfl 0 rfl ?_
          refine x_iload_n C dX9_evenings_42 rfl 2 rfl ?_
          refine x_puti C 57 rfl rfl inX9 tyX9 tyX9_ok nmX9 23 (by decide) rfl kF_X9_244 rfl rfl rfl rfl dX9_evenings_43 ?_
          refine x_aload_n C dX9_evenings_46 rfl 0 rfl ?_
          obtain ⟨s8, hv8, h⟩ := Option.bind_eq_some_iff.mp h
          refine x_callV C 57 (m_X9_begin hv8) rfl rfl kM_X9_148 kI_X9_begin kS_X9_begin kN_X9 kC_X9_begin kD_X9_begin rfl ⟨Nat.le_of_ble_eq_true rfl, Nat.le_of_ble_eq_true rfl⟩ ⟨Nat.le_refl _, Nat.le_refl _⟩ (rest := []) rfl (Nat.le_of_ble_eq_true rfl) dX9_evenings_47 (st' := []) rfl ?_
          refine x_iconst C dX9_evenings_50 (v := 0) (by decide) ?_
          refine x_istore C dX9_evenings_51 (lv2 := [(0, .ref (gs_a E 57)), (1, .int x1), (2, .int x2), (3, .int x3), (4, .int (0 : Int32))]) (by decide) rfl [1, 2, 3, 4, 0] rfl ?_
          refine x_iconst C dX9_evenings_53 (v := 0) (by decide) ?_
          refine x_istore C dX9_evenings_54 (lv2 := [(0, .ref (gs_a E 57)), (1, .int x1), (2, .int x2), (3, .int x3), (4, .int (0 : Int32)), (5, .int (0 : Int32))]) (by decide) rfl [1, 2, 3, 4, 5, 0] rfl ?_
          refine x_lv (lv' := [(0, .ref (gs_a E 57)), (1, .int x1), (3, .int x3), (4, .int (0 : Int32)), (5, .int (0 : Int32))]) [0, 1, 3, 4, 5] rfl ?_
          obtain ⟨q9, hq9, h⟩ := Option.bind_eq_some_iff.mp h
          refine wl_X9_evenings_56 C (fun v9_0_4 s9_0 hz => ?_) 1000 _ _ _ hq9
          subst q9
          try dsimp only at h
          refine x_iload_n C dX9_evenings_143 rfl 1 rfl ?_
          by_cases hc10 : x3 = 0
          · replace h := (if_pos hc10).symm.trans h
            refine x_if_neF C dX9_evenings_144 (tgt := 152) (by decide) hc10 ?_
            refine x_iload C dX9_evenings_147 2 rfl ?_
            refine x_goto C dX9_evenings_149 (tgt := 174) (by decide) ?_
            replace h := Option.some.inj h
            obtain ⟨rfl, rfl⟩ := Prod.mk.inj h
            exact x_ret C hr rfl rfl dX9_evenings_174
          · replace h := (if_neg hc10).symm.trans h
            refine x_if_neT C dX9_evenings_144 (tgt := 152) (by decide) hc10 ?_
            refine x_iload_n C dX9_evenings_152 rfl 1 rfl ?_
            refine x_iconst C dX9_evenings_153 (v := 1) (by decide) ?_
            by_cases hc11 : x3 = (1 : Int32)
            · replace h := (if_pos hc11).symm.trans h
              refine x_icmp_neF C dX9_evenings_154 (tgt := 170) (by decide) hc11 ?_
              refine x_sipush C dX9_evenings_157 (v := 10000) (by decide) ?_
              refine x_aload_n C dX9_evenings_160 rfl 0 rfl ?_
              refine x_getr C 57 rfl rfl inX9 19 (by decide) rfl kF_X9_37 rfl dX9_evenings_161 ?_
              refine x_iconst C dX9_evenings_164 (v := 0) (by decide) ?_
              obtain ⟨hb12, h⟩ := ck_some h
              refine x_iald C 67 rfl hb12 (v := (s9_0 67 (0 : Int32).toNatClampNeg)) rfl dX9_evenings_165 ?_
              refine x_iadd C dX9_evenings_166 ?_
              refine x_goto C dX9_evenings_167 (tgt := 174) (by decide) ?_
              replace h := Option.some.inj h
              obtain ⟨rfl, rfl⟩ := Prod.mk.inj h
              exact x_ret C hr rfl rfl dX9_evenings_174
            · replace h := (if_neg hc11).symm.trans h
              refine x_icmp_neT C dX9_evenings_154 (tgt := 170) (by decide) hc11 ?_
              refine x_aload_n C dX9_evenings_170 rfl 0 rfl ?_
              refine x_geti C 57 rfl rfl inX9 23 (by decide) rfl kF_X9_244 rfl (v := (s9_0 57 23)) rfl dX9_evenings_171 ?_
              replace h := Option.some.inj h
              obtain ⟨rfl, rfl⟩ := Prod.mk.inj h
              exact x_ret C hr rfl rfl dX9_evenings_174
        · replace h := (if_neg hc7).symm.trans h
          refine x_if_eqF C dX9_evenings_35 (tgt := 41) (by decide) hc7 ?_
          refine x_bipush C dX9_evenings_38 (v := -103) (by decide) ?_
          replace h := Option.some.inj h
          obtain ⟨rfl, rfl⟩ := Prod.mk.inj h
          exact x_ret C hr rfl rfl dX9_evenings_40
def f_X9_exchange (x1 : Int32) (x2 : Int32) (σ : gs_H) : Option (Int32 × gs_H) :=
(f_X9_isThing x1 σ).bind fun q1 =>
if q1 = 0 then (
some ((-101 : Int32), σ))
else (
(f_X9_isThing x2 σ).bind fun q3 =>
if q3 = 0 then (
some ((-101 : Int32), σ))
else (
if x1 = x2 then (
some ((-101 : Int32), σ))
else (
if (f_X9_isCut x1 σ) = 0 then (
if (f_X9_isCut x2 σ) = 0 then (
(f_X9_trade 64 x1 x2 σ).bind fun q10 =>
(f_X9_levelNow q10).bind fun q11 =>
some (q11.1, q11.2))
else (
some ((-103 : Int32), σ)))
else (
some ((-103 : Int32), σ)))))
set_option maxHeartbeats 4000000 in
set_option maxRecDepth 20000 in
theorem m_X9_exchange {E : gs_E} {l : Launch} {x1 : Int32} {x2 : Int32} {σ : gs_H} {g : Int64} {r0 : Int32} {σ0 : gs_H} (h : f_X9_exchange x1 x2 σ = some (r0, σ0)) : gs_M l E yX9_exchange cX9_exchange 3 (some .int) (6, 131) [.ref (gs_a E 57), .int x1, .int x2] σ g (some (.int r0)) σ0 g := by
  refine x_enter (lv := [(0, .ref (gs_a E 57)), (1, .int x1), (2, .int x2)]) (by decide +kernel) (Nat.le_of_ble_eq_true rfl) rfl (fun p e s m args below meth c C hr => ?_)
  unfold f_X9_exchange at h
  refine x_aload_n C dX9_exchange_0 rfl 0 rfl ?_
  refine x_iload_n C dX9_exchange_1 rfl 1 rfl ?_
  obtain ⟨v1, hv1, h⟩ := Option.bind_eq_some_iff.mp h
  refine x_callV C 57 (m_X9_isThing hv1) rfl rfl kM_X9_176 kI_X9_isThing kS_X9_isThing kN_X9 kC_X9_isThing kD_X9_isThing rfl ⟨Nat.le_of_ble_eq_true rfl, Nat.le_of_ble_eq_true rfl⟩ ⟨Nat.le_refl _, Nat.le_refl _⟩ (rest := []) rfl (Nat.le_of_ble_eq_true rfl) dX9_exchange_2 (st' := [.int v1]) rfl ?_
  by_cases hc2 : v1 = 0
  · replace h := (if_pos hc2).symm.trans h
    refine x_if_eqT C dX9_exchange_5 (tgt := 21) (by decide) hc2 ?_
    refine x_bipush C dX9_exchange_21 (v := -101) (by decide) ?_
    replace h := Option.some.inj h
    obtain ⟨rfl, rfl⟩ := Prod.mk.inj h
    exact x_ret C hr rfl rfl dX9_exchange_23
  · replace h := (if_neg hc2).symm.trans h
    refine x_if_eqF C dX9_exchange_5 (tgt := 21) (by decide) hc2 ?_
    refine x_aload_n C dX9_exchange_8 rfl 0 rfl ?_
    refine x_iload_n C dX9_exchange_9 rfl 2 rfl ?_
    obtain ⟨v3, hv3, h⟩ := Option.bind_eq_some_iff.mp h
    refine x_callV C 57 (m_X9_isThing hv3) rfl rfl kM_X9_176 kI_X9_isThing kS_X9_isThing kN_X9 kC_X9_isThing kD_X9_isThing rfl ⟨Nat.le_of_ble_eq_true rfl, Nat.le_of_ble_eq_true rfl⟩ ⟨Nat.le_refl _, Nat.le_refl _⟩ (rest := []) rfl (Nat.le_of_ble_eq_true rfl) dX9_exchange_10 (st' := [.int v3]) rfl ?_
    by_cases hc4 : v3 = 0
    · replace h := (if_pos hc4).symm.trans h
      refine x_if_eqT C dX9_exchange_13 (tgt := 21) (by decide) hc4 ?_
      refine x_bipush C dX9_exchange_21 (v := -101) (by decide) ?_
      replace h := Option.some.inj h
      obtain ⟨rfl, rfl⟩ := Prod.mk.inj h
      exact x_ret C hr rfl rfl dX9_exchange_23
    · replace h := (if_neg hc4).symm.trans h
      refine x_if_eqF C dX9_exchange_13 (tgt := 21) (by decide) hc4 ?_
      refine x_iload_n C dX9_exchange_16 rfl 1 rfl ?_
      refine x_iload_n C dX9_exchange_17 rfl 2 rfl ?_
      by_cases hc5 : x1 = x2
      · replace h := (if_pos hc5).symm.trans h
        refine x_icmp_neF C dX9_exchange_18 (tgt := 24) (by decide) hc5 ?_
        refine x_bipush C dX9_exchange_21 (v := -101) (by decide) ?_
        replace h := Option.some.inj h
        obtain ⟨rfl, rfl⟩ := Prod.mk.inj h
        exact x_ret C hr rfl rfl dX9_exchange_23
      · replace h := (if_neg hc5).symm.trans h
        refine x_icmp_neT C dX9_exchange_18 (tgt := 24) (by decide) hc5 ?_
        refine x_aload_n C dX9_exchange_24 rfl 0 rfl ?_
        refine x_iload_n C dX9_exchange_25 rfl 1 rfl ?_
        refine x_callV C 57 (m_X9_isCut rfl) rfl rfl kM_X9_186 kI_X9_isCut kS_X9_isCut kN_X9 kC_X9_isCut kD_X9_isCut rfl ⟨Nat.le_of_ble_eq_true rfl, Nat.le_of_ble_eq_true rfl⟩ ⟨Nat.le_refl _, Nat.le_refl _⟩ (rest := []) rfl (Nat.le_of_ble_eq_true rfl) dX9_exchange_26 (st' := [.int (f_X9_isCut x1 σ)]) rfl ?_
        by_cases hc7 : (f_X9_isCut x1 σ) = 0
        · replace h := (if_pos hc7).symm.trans h
          refine x_if_neF C dX9_exchange_29 (tgt := 40) (by decide) hc7 ?_
          refine x_aload_n C dX9_exchange_32 rfl 0 rfl ?_
          refine x_iload_n C dX9_exchange_33 rfl 2 rfl ?_
          refine x_callV C 57 (m_X9_isCut rfl) rfl rfl kM_X9_186 kI_X9_isCut kS_X9_isCut kN_X9 kC_X9_isCut kD_X9_isCut rfl ⟨Nat.le_of_ble_eq_true rfl, Nat.le_of_ble_eq_true rfl⟩ ⟨Nat.le_refl _, Nat.le_refl _⟩ (rest := []) rfl (Nat.le_of_ble_eq_true rfl) dX9_exchange_34 (st' := [.int (f_X9_isCut x2 σ)]) rfl ?_
          by_cases hc9 : (f_X9_isCut x2 σ) = 0
          · replace h := (if_pos hc9).symm.trans h
            refine x_if_eqT C dX9_exchange_37 (tgt := 43) (by decide) hc9 ?_
            refine x_aload_n C dX9_exchange_43 rfl 0 rfl ?_
            refine x_getr C 57 rfl rfl inX9 15 (by decide) rfl kF_X9_28 rfl dX9_exchange_44 ?_
            refine x_iload_n C dX9_exchange_47 rfl 1 rfl ?_
            refine x_iload_n C dX9_exchange_48 rfl 2 rfl ?_
            obtain ⟨s10, hv10, h⟩ := Option.bind_eq_some_iff.mp h
            refine x_callS C (m_X9_trade_64 hv10) kM_X9_189 kT_X9_trade kN_X9 kC_X9_trade kD_X9_trade rfl ⟨Nat.le_of_ble_eq_true rfl, Nat.le_of_ble_eq_true rfl⟩ ⟨Nat.le_refl _, Nat.le_refl _⟩ (rest := []) rfl (Nat.le_of_ble_eq_true rfl) dX9_exchange_49 (st' := []) rfl ?_
            refine x_aload_n C dX9_exchange_52 rfl 0 rfl ?_
            obtain ⟨⟨v11, s11⟩, hv11, h⟩ := Option.bind_eq_some_iff.mp h
            try dsimp only at h
            refine x_callV C 57 (m_X9_levelNow hv11) rfl rfl kM_X9_193 kI_X9_levelNow kS_X9_levelNow kN_X9 kC_X9_levelNow kD_X9_levelNow rfl ⟨Nat.le_of_ble_eq_true rfl, Nat.le_of_ble_eq_true rfl⟩ ⟨Nat.le_refl _, Nat.le_refl _⟩ (rest := []) rfl (Nat.le_of_ble_eq_true rfl) dX9_exchange_53 (st' := [.int v11]) rfl ?_
            replace h := Option.some.inj h
            obtain ⟨rfl, rfl⟩ := Prod.mk.inj h
            exact x_ret C hr rfl rfl dX9_exchange_56
          · replace h := (if_neg hc9).symm.trans h
            refine x_if_eqF C dX9_exchange_37 (tgt := 43) (by decide) hc9 ?_
            refine x_bipush C dX9_exchange_40 (v := -103) (by decide) ?_
            replace h := Option.some.inj h
            obtain ⟨rfl, rfl⟩ := Prod.mk.inj h
            exact x_ret C hr rfl rfl dX9_exchange_42
        · replace h := (if_neg hc7).symm.trans h
          refine x_if_neT C dX9_exchange_29 (tgt := 40) (by decide) hc7 ?_
          refine x_bipush C dX9_exchange_40 (v := -103) (by decide) ?_
          replace h := Option.some.inj h
          obtain ⟨rfl, rfl⟩ := Prod.mk.inj h
          exact x_ret C hr rfl rfl dX9_exchange_42
def j_X9_isHanging_72 (x2 : Int32) (x3 : Int32) (t0 : Int32) (σ : gs_H) : Int32 × gs_H :=
if x3 = 0 then (
((1 : Int32), σ))
else (
if t0 = 0 then (
((1 : Int32), σ))
else (
if (((σ 57 3) >>> ((x2 + (1 : Int32)) &&& 31)) &&& (1 : Int32)) = (1 : Int32) then (
((1 : Int32), σ))
else (
((0 : Int32), σ))))
def j_X9_isHanging_56 (x2 : Int32) (x3 : Int32) (σ : gs_H) : Int32 × gs_H :=
if ((σ 57 3) >>> ((x2 + (1 : Int32)) &&& 31)) ≤ 0 then (
j_X9_isHanging_72 x2 x3 (0 : Int32) σ)
else (
j_X9_isHanging_72 x2 x3 (1 : Int32) σ)
def f_X9_isHanging (x1 : Int32) (x2 : Int32) (x3 : Int32) (σ : gs_H) : Int32 × gs_H :=
if x1 = (42 : Int32) then (
j_X9_isHanging_56 x2 x3 σ)
else (
if (f_X9_in (x1 - (48 : Int32)).toInt64 (x2 + (1 : Int32)).toInt64 (4 : Int64)) = 0 then (
((0 : Int32), σ))
else (
if (((σ 57 3) >>> ((x1 - (48 : Int32)) &&& 31)) &&& (1 : Int32)) = (1 : Int32) then (
((0 : Int32), σ))
else (
j_X9_isHanging_56 x2 x3 (up2 σ 57 3 ((σ 57 3) ||| ((1 : Int32) <<< ((x1 - (48 : Int32)) &&& 31)))))))
set_option maxHeartbeats 4000000 in
set_option maxRecDepth 20000 in
theorem wj_X9_isHanging_72 {E : gs_E} {l : Launch} {p : Program} {e : Env} {s : State} {m : MethodId} {args : Array Value} {below : List Frame} {meth : Method} {c : Code} (C : gs_X E RX9 cX9_isHanging 5 p s m args meth c) {x2 : Int32} {x3 : Int32} {t0 : Int32} {σ : gs_H} {g : Int64} {r0 : Int32} {σ0 : gs_H} (hr : meth.sig.returnType = some .boolean) (h : j_X9_isHanging_72 x2 x3 t0 σ = (r0, σ0)) : gs_V E 5 (1, 25) p l e s m args below meth c (some (.int r0)) σ0 g 72 [(0, .ref (gs_a E 57)), (2, .int x2), (3, .int x3)] [.int t0] σ g := by
  unfold j_X9_isHanging_72 at h
  refine x_istore C dX9_isHanging_72 (lv2 := [(0, .ref (gs_a E 57)), (2, .int x2), (3, .int x3), (4, .int t0)]) (by decide) rfl [1, 2, 3, 0] rfl ?_
  refine x_iload_n C dX9_isHanging_74 rfl 2 rfl ?_
  by_cases hc1 : x3 = 0
  · replace h := (if_pos hc1).symm.trans h
    refine x_if_eqT C dX9_isHanging_75 (tgt := 97) (by decide) hc1 ?_
    refine x_iconst C dX9_isHanging_97 (v := 1) (by decide) ?_
    refine x_goto C dX9_isHanging_98 (tgt := 102) (by decide) ?_
    obtain ⟨rfl, rfl⟩ := Prod.mk.inj h
    exact x_retb C hr (by decide) rfl dX9_isHanging_102
  · replace h := (if_neg hc1).symm.trans h
    refine x_if_eqF C dX9_isHanging_75 (tgt := 97) (by decide) hc1 ?_
    refine x_iload C dX9_isHanging_78 3 rfl ?_
    by_cases hc2 : t0 = 0
    · replace h := (if_pos hc2).symm.trans h
      refine x_if_eqT C dX9_isHanging_80 (tgt := 97) (by decide) hc2 ?_
      refine x_iconst C dX9_isHanging_97 (v := 1) (by decide) ?_
      refine x_goto C dX9_isHanging_98 (tgt := 102) (by decide) ?_
      obtain ⟨rfl, rfl⟩ := Prod.mk.inj h
      exact x_retb C hr (by decide) rfl dX9_isHanging_102
    · replace h := (if_neg hc2).symm.trans h
      refine x_if_eqF C dX9_isHanging_80 (tgt := 97) (by decide) hc2 ?_
      refine x_aload_n C dX9_isHanging_83 rfl 0 rfl ?_
      refine x_geti C 57 rfl rfl inX9 3 (by decide) rfl kF_X9_73 rfl (v := (σ 57 3)) rfl dX9_isHanging_84 ?_
      refine x_iload_n C dX9_isHanging_87 rfl 1 rfl ?_
      refine x_iconst C dX9_isHanging_88 (v := 1) (by decide) ?_
      refine x_iadd C dX9_isHanging_89 ?_
      refine x_ishr C dX9_isHanging_90 ?_
      refine x_iconst C dX9_isHanging_91 (v := 1) (by decide) ?_
      refine x_iand C dX9_isHanging_92 ?_
      refine x_iconst C dX9_isHanging_93 (v := 1) (by decide) ?_
      by_cases hc3 : (((σ 57 3) >>> ((x2 + (1 : Int32)) &&& 31)) &&& (1 : Int32)) = (1 : Int32)
      · replace h := (if_pos hc3).symm.trans h
        refine x_icmp_neF C dX9_isHanging_94 (tgt := 101) (by decide) hc3 ?_
        refine x_iconst C dX9_isHanging_97 (v := 1) (by decide) ?_
        refine x_goto C dX9_isHanging_98 (tgt := 102) (by decide) ?_
        obtain ⟨rfl, rfl⟩ := Prod.mk.inj h
        exact x_retb C hr (by decide) rfl dX9_isHanging_102
      · replace h := (if_neg hc3).symm.trans h
        refine x_icmp_neT C dX9_isHanging_94 (tgt := 101) (by decide) hc3 ?_
        refine x_iconst C dX9_isHanging_101 (v := 0) (by decide) ?_
        obtain ⟨rfl, rfl⟩ := Prod.mk.inj h
        exact x_retb C hr (by decide) rfl dX9_isHanging_102
set_option maxHeartbeats 4000000 in
set_option maxRecDepth 20000 in
theorem wj_X9_isHanging_56 {E : gs_E} {l : Launch} {p : Program} {e : Env} {s : State} {m : MethodId} {args : Array Value} {below : List Frame} {meth : Method} {c : Code} (C : gs_X E RX9 cX9_isHanging 5 p s m args meth c) {x2 : Int32} {x3 : Int32} {σ : gs_H} {g : Int64} {r0 : Int32} {σ0 : gs_H} (hr : meth.sig.returnType = some .boolean) (h : j_X9_isHanging_56 x2 x3 σ = (r0, σ0)) : gs_V E 5 (1, 25) p l e s m args below meth c (some (.int r0)) σ0 g 56 [(0, .ref (gs_a E 57)), (2, .int x2), (3, .int x3)] [] σ g := by
  unfold j_X9_isHanging_56 at h
  refine x_aload_n C dX9_isHanging_56 rfl 0 rfl ?_
  refine x_geti C 57 rfl rfl inX9 3 (by decide) rfl kF_X9_73 rfl (v := (σ 57 3)) rfl dX9_isHanging_57 ?_
  refine x_iload_n C dX9_isHanging_60 rfl 1 rfl ?_
  refine x_iconst C dX9_isHanging_61 (v := 1) (by decide) ?_
  refine x_iadd C dX9_isHanging_62 ?_
  refine x_ishr C dX9_isHanging_63 ?_
  by_cases hc1 : ((σ 57 3) >>> ((x2 + (1 : Int32)) &&& 31)) ≤ 0
  · replace h := (if_pos hc1).symm.trans h
    refine x_if_leT C dX9_isHanging_64 (tgt := 71) (by decide) hc1 ?_
    refine x_iconst C dX9_isHanging_71 (v := 0) (by decide) ?_
    exact wj_X9_isHanging_72 C hr h
  · replace h := (if_neg hc1).symm.trans h
    refine x_if_leF C dX9_isHanging_64 (tgt := 71) (by decide) hc1 ?_
    refine x_iconst C dX9_isHanging_67 (v := 1) (by decide) ?_
    refine x_goto C dX9_isHanging_68 (tgt := 72) (by decide) ?_
    exact wj_X9_isHanging_72 C hr h
set_option maxHeartbeats 4000000 in
set_option maxRecDepth 20000 in
theorem m_X9_isHanging {E : gs_E} {l : Launch} {x1 : Int32} {x2 : Int32} {x3 : Int32} {σ : gs_H} {g : Int64} {r0 : Int32} {σ0 : gs_H} (h : f_X9_isHanging x1 x2 x3 σ = (r0, σ0)) : gs_M l E yX9_isHanging cX9_isHanging 5 (some .boolean) (1, 25) [.ref (gs_a E 57), .int x1, .int x2, .int x3] σ g (some (.int r0)) σ0 g := by
  refine x_enter (lv := [(0, .ref (gs_a E 57)), (1, .int x1), (2, .int x2), (3, .int x3)]) (by decide +kernel) (Nat.le_of_ble_eq_true rfl) rfl (fun p e s m args below meth c C hr => ?_)
  unfold f_X9_isHanging at h
  refine x_iload_n C dX9_isHanging_0 rfl 1 rfl ?_
  refine x_bipush C dX9_isHanging_1 (v := 42) (by decide) ?_
  by_cases hc1 : x1 = (42 : Int32)
  · replace h := (if_pos hc1).symm.trans h
    refine x_icmp_eqT C dX9_isHanging_3 (tgt := 56) (by decide) hc1 ?_
    refine x_lv (lv' := [(0, .ref (gs_a E 57)), (2, .int x2), (3, .int x3)]) [0, 2, 3] rfl ?_
    exact wj_X9_isHanging_56 C hr h
  · replace h := (if_neg hc1).symm.trans h
    refine x_icmp_eqF C dX9_isHanging_3 (tgt := 56) (by decide) hc1 ?_
    refine x_iload_n C dX9_isHanging_6 rfl 1 rfl ?_
    refine x_bipush C dX9_isHanging_7 (v := 48) (by decide) ?_
    refine x_isub C dX9_isHanging_9 ?_
    refine x_istore C dX9_isHanging_10 (lv2 := [(0, .ref (gs_a E 57)), (1, .int x1), (2, .int x2), (3, .int x3), (4, .int (x1 - (48 : Int32)))]) (by decide) rfl [1, 2, 3, 4, 0] rfl ?_
    refine x_iload C dX9_isHanging_12 4 rfl ?_
    refine x_i2l C dX9_isHanging_14 ?_
    refine x_iload_n C dX9_isHanging_15 rfl 2 rfl ?_
    refine x_iconst C dX9_isHanging_16 (v := 1) (by decide) ?_
    refine x_iadd C dX9_isHanging_17 ?_
    refine x_i2l C dX9_isHanging_18 ?_
    refine x_ldc2 C kK_X9_71 dX9_isHanging_19 ?_
    refine x_callS C (m_X9_in rfl) kM_X9_64 kT_X9_in kN_X9 kC_X9_in kD_X9_in rfl ⟨Nat.le_of_ble_eq_true rfl, Nat.le_of_ble_eq_true rfl⟩ ⟨Nat.le_refl _, Nat.le_refl _⟩ (rest := []) rfl (Nat.le_of_ble_eq_true rfl) dX9_isHanging_22 (st' := [.int (f_X9_in (x1 - (48 : Int32)).toInt64 (x2 + (1 : Int32)).toInt64 (4 : Int64))]) rfl ?_
    by_cases hc3 : (f_X9_in (x1 - (48 : Int32)).toInt64 (x2 + (1 : Int32)).toInt64 (4 : Int64)) = 0
    · replace h := (if_pos hc3).symm.trans h
      refine x_if_eqT C dX9_isHanging_25 (tgt := 41) (by decide) hc3 ?_
      refine x_iconst C dX9_isHanging_41 (v := 0) (by decide) ?_
      obtain ⟨rfl, rfl⟩ := Prod.mk.inj h
      exact x_retb C hr (by decide) rfl dX9_isHanging_42
    · replace h := (if_neg hc3).symm.trans h
      refine x_if_eqF C dX9_isHanging_25 (tgt := 41) (by decide) hc3 ?_
      refine x_aload_n C dX9_isHanging_28 rfl 0 rfl ?_
      refine x_geti C 57 rfl rfl inX9 3 (by decide) rfl kF_X9_73 rfl (v := (σ 57 3)) rfl dX9_isHanging_29 ?_
      refine x_iload C dX9_isHanging_32 4 rfl ?_
      refine x_ishr C dX9_isHanging_34 ?_
      refine x_iconst C dX9_isHanging_35 (v := 1) (by decide) ?_
      refine x_iand C dX9_isHanging_36 ?_
      refine x_iconst C dX9_isHanging_37 (v := 1) (by decide) ?_
      by_cases hc4 : (((σ 57 3) >>> ((x1 - (48 : Int32)) &&& 31)) &&& (1 : Int32)) = (1 : Int32)
      · replace h := (if_pos hc4).symm.trans h
        refine x_icmp_neF C dX9_isHanging_38 (tgt := 43) (by decide) hc4 ?_
        refine x_iconst C dX9_isHanging_41 (v := 0) (by decide) ?_
        obtain ⟨rfl, rfl⟩ := Prod.mk.inj h
        exact x_retb C hr (by decide) rfl dX9_isHanging_42
      · replace h := (if_neg hc4).symm.trans h
        refine x_icmp_neT C dX9_isHanging_38 (tgt := 43) (by decide) hc4 ?_
        refine x_aload_n C dX9_isHanging_43 rfl 0 rfl ?_
        refine x_dup C dX9_isHanging_44 rfl ?_
        refine x_geti C 57 rfl rfl inX9 3 (by decide) rfl kF_X9_73 rfl (v := (σ 57 3)) rfl dX9_isHanging_45 ?_
        refine x_iconst C dX9_isHanging_48 (v := 1) (by decide) ?_
        refine x_iload C dX9_isHanging_49 4 rfl ?_
        refine x_ishl C dX9_isHanging_51 ?_
        refine x_ior C dX9_isHanging_52 ?_
        refine x_puti C 57 rfl rfl inX9 tyX9 tyX9_ok nmX9 3 (by decide) rfl kF_X9_73 rfl rfl rfl rfl dX9_isHanging_53 ?_
        refine x_lv (lv' := [(0, .ref (gs_a E 57)), (2, .int x2), (3, .int x3)]) [0, 2, 3] rfl ?_
        exact wj_X9_isHanging_56 C hr h
def f_X9_isRodLetter (x1 : Int32) (σ : gs_H) : Option (Int32 × gs_H) :=
if inb x1 46 then
if (x1 - x1 / (5 : Int32) * (5 : Int32)) = 0 then (
if (f_X9_in (σ 58 x1.toNatClampNeg).toInt64 (49 : Int64) (57 : Int64)) = 0 ∨ (f_X9_in (σ 58 x1.toNatClampNeg).toInt64 (49 : Int64) (57 : Int64)) = 1 then
some ((f_X9_in (σ 58 x1.toNatClampNeg).toInt64 (49 : Int64) (57 : Int64)), σ) else none)
else (
if (x1 - x1 / (5 : Int32) * (5 : Int32)) = 1 then (
if (f_X9_isHanging (σ 58 x1.toNatClampNeg) (x1 / (5 : Int32)) (0 : Int32) σ).1 = 0 ∨ (f_X9_isHanging (σ 58 x1.toNatClampNeg) (x1 / (5 : Int32)) (0 : Int32) σ).1 = 1 then
some ((f_X9_isHanging (σ 58 x1.toNatClampNeg) (x1 / (5 : Int32)) (0 : Int32) σ).1, (f_X9_isHanging (σ 58 x1.toNatClampNeg) (x1 / (5 : Int32)) (0 : Int32) σ).2) else none)
else (
if (x1 - x1 / (5 : Int32) * (5 : Int32)) = 2 then (
if (f_X9_in (σ 58 x1.toNatClampNeg).toInt64 (49 : Int64) (57 : Int64)) = 0 ∨ (f_X9_in (σ 58 x1.toNatClampNeg).toInt64 (49 : Int64) (57 : Int64)) = 1 then
some ((f_X9_in (σ 58 x1.toNatClampNeg).toInt64 (49 : Int64) (57 : Int64)), σ) else none)
else (
if (x1 - x1 / (5 : Int32) * (5 : Int32)) = 3 then (
if (f_X9_isHanging (σ 58 x1.toNatClampNeg) (x1 / (5 : Int32)) (1 : Int32) σ).1 = 0 ∨ (f_X9_isHanging (σ 58 x1.toNatClampNeg) (x1 / (5 : Int32)) (1 : Int32) σ).1 = 1 then
some ((f_X9_isHanging (σ 58 x1.toNatClampNeg) (x1 / (5 : Int32)) (1 : Int32) σ).1, (f_X9_isHanging (σ 58 x1.toNatClampNeg) (x1 / (5 : Int32)) (1 : Int32) σ).2) else none)
else (
if ((σ 57 3) >>> (((x1 / (5 : Int32)) + (1 : Int32)) &&& 31)) ≤ 0 then (
if (σ 58 x1.toNatClampNeg) = (59 : Int32) then (
some ((1 : Int32), (up2 σ 57 2 x1)))
else (
some ((0 : Int32), (up2 σ 57 2 x1))))
else (
if (σ 58 x1.toNatClampNeg) = (44 : Int32) then (
some ((1 : Int32), σ))
else (
some ((0 : Int32), σ))))))) else none
set_option maxHeartbeats 4000000 in
set_option maxRecDepth 20000 in
theorem m_X9_isRodLetter {E : gs_E} {l : Launch} {x1 : Int32} {σ : gs_H} {g : Int64} {r0 : Int32} {σ0 : gs_H} (h : f_X9_isRodLetter x1 σ = some (r0, σ0)) : gs_M l E yX9_isRodLetter cX9_isRodLetter 4 (some .boolean) (2, 49) [.ref (gs_a E 57), .int x1] σ g (some (.int r0)) σ0 g := by
  refine x_enter (lv := [(0, .ref (gs_a E 57)), (1, .int x1)]) (by decide +kernel) (Nat.le_of_ble_eq_true rfl) rfl (fun p e s m args below meth c C hr => ?_)
  unfold f_X9_isRodLetter at h
  refine x_aload_n C dX9_isRodLetter_0 rfl 0 rfl ?_
  refine x_getr C 57 rfl rfl inX9 0 (by decide) rfl kF_X9_7 rfl dX9_isRodLetter_1 ?_
  refine x_iload_n C dX9_isRodLetter_4 rfl 1 rfl ?_
  obtain ⟨hb1, h⟩ := ck_some h
  refine x_iald C 58 rfl hb1 (v := (σ 58 x1.toNatClampNeg)) rfl dX9_isRodLetter_5 ?_
  refine x_istore_n C dX9_isRodLetter_6 rfl (lv2 := [(0, .ref (gs_a E 57)), (1, .int x1), (2, .int (σ 58 x1.toNatClampNeg))]) (by decide) rfl [1, 2, 0] rfl ?_
  refine x_iload_n C dX9_isRodLetter_7 rfl 1 rfl ?_
  refine x_iconst C dX9_isRodLetter_8 (v := 5) (by decide) ?_
  refine x_idiv C dX9_isRodLetter_9 (by decide) ?_
  refine x_istore_n C dX9_isRodLetter_10 rfl (lv2 := [(0, .ref (gs_a E 57)), (1, .int x1), (2, .int (σ 58 x1.toNatClampNeg)), (3, .int (x1 / (5 : Int32)))]) (by decide) rfl [1, 2, 3, 0] rfl ?_
  refine x_iload_n C dX9_isRodLetter_11 rfl 1 rfl ?_
  refine x_iconst C dX9_isRodLetter_12 (v := 5) (by decide) ?_
  refine x_irem C dX9_isRodLetter_13 (by decide) ?_
  by_cases hs2_0 : (x1 - x1 / (5 : Int32) * (5 : Int32)) = 0
  · replace h := (if_pos hs2_0).symm.trans h
    refine x_tsw C dX9_isRodLetter_14 0 hs2_0 (by decide) (by decide) (off := 30) rfl (tgt := 44) (by decide) ?_
    refine x_iload_n C dX9_isRodLetter_44 rfl 2 rfl ?_
    refine x_i2l C dX9_isRodLetter_45 ?_
    refine x_ldc2 C kK_X9_76 dX9_isRodLetter_46 ?_
    refine x_ldc2 C kK_X9_78 dX9_isRodLetter_49 ?_
    refine x_callS C (m_X9_in rfl) kM_X9_64 kT_X9_in kN_X9 kC_X9_in kD_X9_in rfl ⟨Nat.le_of_ble_eq_true rfl, Nat.le_of_ble_eq_true rfl⟩ ⟨Nat.le_refl _, Nat.le_refl _⟩ (rest := []) rfl (Nat.le_of_ble_eq_true rfl) dX9_isRodLetter_52 (st' := [.int (f_X9_in (σ 58 x1.toNatClampNeg).toInt64 (49 : Int64) (57 : Int64))]) rfl ?_
    obtain ⟨hbo, h⟩ := ck_some h
    replace h := Option.some.inj h
    obtain ⟨rfl, rfl⟩ := Prod.mk.inj h
    exact x_retb C hr hbo rfl dX9_isRodLetter_55
  · replace h := (if_neg hs2_0).symm.trans h
    by_cases hs2_1 : (x1 - x1 / (5 : Int32) * (5 : Int32)) = 1
    · replace h := (if_pos hs2_1).symm.trans h
      refine x_tsw C dX9_isRodLetter_14 1 hs2_1 (by decide) (by decide) (off := 42) rfl (tgt := 56) (by decide) ?_
      refine x_aload_n C dX9_isRodLetter_56 rfl 0 rfl ?_
      refine x_iload_n C dX9_isRodLetter_57 rfl 2 rfl ?_
      refine x_iload_n C dX9_isRodLetter_58 rfl 3 rfl ?_
      refine x_iconst C dX9_isRodLetter_59 (v := 0) (by decide) ?_
      refine x_callV C 57 (m_X9_isHanging rfl) rfl rfl kM_X9_80 kI_X9_isHanging kS_X9_isHanging kN_X9 kC_X9_isHanging kD_X9_isHanging rfl ⟨Nat.le_of_ble_eq_true rfl, Nat.le_of_ble_eq_true rfl⟩ ⟨Nat.le_refl _, Nat.le_refl _⟩ (rest := []) rfl (Nat.le_of_ble_eq_true rfl) dX9_isRodLetter_60 (st' := [.int (f_X9_isHanging (σ 58 x1.toNatClampNeg) (x1 / (5 : Int32)) (0 : Int32) σ).1]) rfl ?_
      obtain ⟨hbo, h⟩ := ck_some h
      replace h := Option.some.inj h
      obtain ⟨rfl, rfl⟩ := Prod.mk.inj h
      exact x_retb C hr hbo rfl dX9_isRodLetter_63
    · replace h := (if_neg hs2_1).symm.trans h
      by_cases hs2_2 : (x1 - x1 / (5 : Int32) * (5 : Int32)) = 2
      · replace h := (if_pos hs2_2).symm.trans h
        refine x_tsw C dX9_isRodLetter_14 2 hs2_2 (by decide) (by decide) (off := 30) rfl (tgt := 44) (by decide) ?_
        refine x_iload_n C dX9_isRodLetter_44 rfl 2 rfl ?_
        refine x_i2l C dX9_isRodLetter_45 ?_
        refine x_ldc2 C kK_X9_76 dX9_isRodLetter_46 ?_
        refine x_ldc2 C kK_X9_78 dX9_isRodLetter_49 ?_
        refine x_callS C (m_X9_in rfl) kM_X9_64 kT_X9_in kN_X9 kC_X9_in kD_X9_in rfl ⟨Nat.le_of_ble_eq_true rfl, Nat.le_of_ble_eq_true rfl⟩ ⟨Nat.le_refl _, Nat.le_refl _⟩ (rest := []) rfl (Nat.le_of_ble_eq_true rfl) dX9_isRodLetter_52 (st' := [.int (f_X9_in (σ 58 x1.toNatClampNeg).toInt64 (49 : Int64) (57 : Int64))]) rfl ?_
        obtain ⟨hbo, h⟩ := ck_some h
        replace h := Option.some.inj h
        obtain ⟨rfl, rfl⟩ := Prod.mk.inj h
        exact x_retb C hr hbo rfl dX9_isRodLetter_55
      · replace h := (if_neg hs2_2).symm.trans h
        by_cases hs2_3 : (x1 - x1 / (5 : Int32) * (5 : Int32)) = 3
        · replace h := (if_pos hs2_3).symm.trans h
          refine x_tsw C dX9_isRodLetter_14 3 hs2_3 (by decide) (by decide) (off := 50) rfl (tgt := 64) (by decide) ?_
          refine x_aload_n C dX9_isRodLetter_64 rfl 0 rfl ?_
          refine x_iload_n C dX9_isRodLetter_65 rfl 2 rfl ?_
          refine x_iload_n C dX9_isRodLetter_66 rfl 3 rfl ?_
          refine x_iconst C dX9_isRodLetter_67 (v := 1) (by decide) ?_
          refine x_callV C 57 (m_X9_isHanging rfl) rfl rfl kM_X9_80 kI_X9_isHanging kS_X9_isHanging kN_X9 kC_X9_isHanging kD_X9_isHanging rfl ⟨Nat.le_of_ble_eq_true rfl, Nat.le_of_ble_eq_true rfl⟩ ⟨Nat.le_refl _, Nat.le_refl _⟩ (rest := []) rfl (Nat.le_of_ble_eq_true rfl) dX9_isRodLetter_68 (st' := [.int (f_X9_isHanging (σ 58 x1.toNatClampNeg) (x1 / (5 : Int32)) (1 : Int32) σ).1]) rfl ?_
          obtain ⟨hbo, h⟩ := ck_some h
          replace h := Option.some.inj h
          obtain ⟨rfl, rfl⟩ := Prod.mk.inj h
          exact x_retb C hr hbo rfl dX9_isRodLetter_71
        · replace h := (if_neg hs2_3).symm.trans h
          refine x_tswD C dX9_isRodLetter_14 (tgt := 72) (by have e0 := lv_neT hs2_0 (a := 0) rfl; have e1 := lv_neT hs2_1 (a := 1) rfl; have e2 := lv_neT hs2_2 (a := 2) rfl; have e3 := lv_neT hs2_3 (a := 3) rfl; omega) (by decide) ?_
          refine x_aload_n C dX9_isRodLetter_72 rfl 0 rfl ?_
          refine x_geti C 57 rfl rfl inX9 3 (by decide) rfl kF_X9_73 rfl (v := (σ 57 3)) rfl dX9_isRodLetter_73 ?_
          refine x_iload_n C dX9_isRodLetter_76 rfl 3 rfl ?_
          refine x_iconst C dX9_isRodLetter_77 (v := 1) (by decide) ?_
          refine x_iadd C dX9_isRodLetter_78 ?_
          refine x_ishr C dX9_isRodLetter_79 ?_
          by_cases hc7 : ((σ 57 3) >>> (((x1 / (5 : Int32)) + (1 : Int32)) &&& 31)) ≤ 0
          · replace h := (if_pos hc7).symm.trans h
            refine x_if_leT C dX9_isRodLetter_80 (tgt := 95) (by decide) hc7 ?_
            refine x_aload_n C dX9_isRodLetter_95 rfl 0 rfl ?_
            refine x_iload_n C dX9_isRodLetter_96 rfl 1 rfl ?_
            refine x_puti C 57 rfl rfl inX9 tyX9 tyX9_ok nmX9 2 (by decide) rfl kF_X9_84 rfl rfl rfl rfl dX9_isRodLetter_97 ?_
            refine x_iload_n C dX9_isRodLetter_100 rfl 2 rfl ?_
            refine x_bipush C dX9_isRodLetter_101 (v := 59) (by decide) ?_
            by_cases hc8 : (σ 58 x1.toNatClampNeg) = (59 : Int32)
            · replace h := (if_pos hc8).symm.trans h
              refine x_icmp_neF C dX9_isRodLetter_103 (tgt := 110) (by decide) hc8 ?_
              refine x_iconst C dX9_isRodLetter_106 (v := 1) (by decide) ?_
              refine x_goto C dX9_isRodLetter_107 (tgt := 111) (by decide) ?_
              replace h := Option.some.inj h
              obtain ⟨rfl, rfl⟩ := Prod.mk.inj h
              exact x_retb C hr (by decide) rfl dX9_isRodLetter_111
            · replace h := (if_neg hc8).symm.trans h
              refine x_icmp_neT C dX9_isRodLetter_103 (tgt := 110) (by decide) hc8 ?_
              refine x_iconst C dX9_isRodLetter_110 (v := 0) (by decide) ?_
              replace h := Option.some.inj h
              obtain ⟨rfl, rfl⟩ := Prod.mk.inj h
              exact x_retb C hr (by decide) rfl dX9_isRodLetter_111
          · replace h := (if_neg hc7).symm.trans h
            refine x_if_leF C dX9_isRodLetter_80 (tgt := 95) (by decide) hc7 ?_
            refine x_iload_n C dX9_isRodLetter_83 rfl 2 rfl ?_
            refine x_bipush C dX9_isRodLetter_84 (v := 44) (by decide) ?_
            by_cases hc9 : (σ 58 x1.toNatClampNeg) = (44 : Int32)
            · replace h := (if_pos hc9).symm.trans h
              refine x_icmp_neF C dX9_isRodLetter_86 (tgt := 93) (by decide) hc9 ?_
              refine x_iconst C dX9_isRodLetter_89 (v := 1) (by decide) ?_
              refine x_goto C dX9_isRodLetter_90 (tgt := 94) (by decide) ?_
              replace h := Option.some.inj h
              obtain ⟨rfl, rfl⟩ := Prod.mk.inj h
              exact x_retb C hr (by decide) rfl dX9_isRodLetter_94
            · replace h := (if_neg hc9).symm.trans h
              refine x_icmp_neT C dX9_isRodLetter_86 (tgt := 93) (by decide) hc9 ?_
              refine x_iconst C dX9_isRodLetter_93 (v := 0) (by decide) ?_
              replace h := Option.some.inj h
              obtain ⟨rfl, rfl⟩ := Prod.mk.inj h
              exact x_retb C hr (by decide) rfl dX9_isRodLetter_94
def f_X9_kindBy (x0 : Int32) : Int32 :=
if x0 = 98 then (
(0 : Int32))
else (
if x0 = 99 then (
(-1 : Int32))
else (
if x0 = 100 then (
(4 : Int32))
else (
if x0 = 101 then (
(-1 : Int32))
else (
if x0 = 102 then (
(2 : Int32))
else (
if x0 = 103 then (
(-1 : Int32))
else (
if x0 = 104 then (
(-1 : Int32))
else (
if x0 = 105 then (
(-1 : Int32))
else (
if x0 = 106 then (
(-1 : Int32))
else (
if x0 = 107 then (
(-1 : Int32))
else (
if x0 = 108 then (
(1 : Int32))
else (
if x0 = 109 then (
(-1 : Int32))
else (
if x0 = 110 then (
(-1 : Int32))
else (
if x0 = 111 then (
(3 : Int32))
else (
(-1 : Int32)))))))))))))))
set_option maxHeartbeats 4000000 in
set_option maxRecDepth 20000 in
theorem m_X9_kindBy {E : gs_E} {l : Launch} {x0 : Int32} {σ : gs_H} {g : Int64} {r0 : Int32} (h : f_X9_kindBy x0 = r0) : gs_M l E yX9_kindBy cX9_kindBy 1 (some .int) (0, 0) [.int x0] σ g (some (.int r0)) σ g := by
  refine x_enter (lv := [(0, .int x0)]) (by decide +kernel) (Nat.le_of_ble_eq_true rfl) rfl (fun p e s m args below meth c C hr => ?_)
  unfold f_X9_kindBy at h
  refine x_iload_n C dX9_kindBy_0 rfl 0 rfl ?_
  by_cases hs1_0 : x0 = 98
  · replace h := (if_pos hs1_0).symm.trans h
    refine x_tsw C dX9_kindBy_1 98 hs1_0 (by decide) (by decide) (off := 71) rfl (tgt := 72) (by decide) ?_
    refine x_iconst C dX9_kindBy_72 (v := 0) (by decide) ?_
    subst h
    exact x_ret C hr rfl rfl dX9_kindBy_73
  · replace h := (if_neg hs1_0).symm.trans h
    by_cases hs1_1 : x0 = 99
    · replace h := (if_pos hs1_1).symm.trans h
      refine x_tsw C dX9_kindBy_1 99 hs1_1 (by decide) (by decide) (off := 81) rfl (tgt := 82) (by decide) ?_
      refine x_iconst C dX9_kindBy_82 (v := -1) (by decide) ?_
      subst h
      exact x_ret C hr rfl rfl dX9_kindBy_83
    · replace h := (if_neg hs1_1).symm.trans h
      by_cases hs1_2 : x0 = 100
      · replace h := (if_pos hs1_2).symm.trans h
        refine x_tsw C dX9_kindBy_1 100 hs1_2 (by decide) (by decide) (off := 79) rfl (tgt := 80) (by decide) ?_
        refine x_iconst C dX9_kindBy_80 (v := 4) (by decide) ?_
        subst h
        exact x_ret C hr rfl rfl dX9_kindBy_81
      · replace h := (if_neg hs1_2).symm.trans h
        by_cases hs1_3 : x0 = 101
        · replace h := (if_pos hs1_3).symm.trans h
          refine x_tsw C dX9_kindBy_1 101 hs1_3 (by decide) (by decide) (off := 81) rfl (tgt := 82) (by decide) ?_
          refine x_iconst C dX9_kindBy_82 (v := -1) (by decide) ?_
          subst h
          exact x_ret C hr rfl rfl dX9_kindBy_83
        · replace h := (if_neg hs1_3).symm.trans h
          by_cases hs1_4 : x0 = 102
          · replace h := (if_pos hs1_4).symm.trans h
            refine x_tsw C dX9_kindBy_1 102 hs1_4 (by decide) (by decide) (off := 75) rfl (tgt := 76) (by decide) ?_
            refine x_iconst C dX9_kindBy_76 (v := 2) (by decide) ?_
            subst h
            exact x_ret C hr rfl rfl dX9_kindBy_77
          · replace h := (if_neg hs1_4).symm.trans h
            by_cases hs1_5 : x0 = 103
            · replace h := (if_pos hs1_5).symm.trans h
              refine x_tsw C dX9_kindBy_1 103 hs1_5 (by decide) (by decide) (off := 81) rfl (tgt := 82) (by decide) ?_
              refine x_iconst C dX9_kindBy_82 (v := -1) (by decide) ?_
              subst h
              exact x_ret C hr rfl rfl dX9_kindBy_83
            · replace h := (if_neg hs1_5).symm.trans h
              by_cases hs1_6 : x0 = 104
              · replace h := (if_pos hs1_6).symm.trans h
                refine x_tsw C dX9_kindBy_1 104 hs1_6 (by decide) (by decide) (off := 81) rfl (tgt := 82) (by decide) ?_
                refine x_iconst C dX9_kindBy_82 (v := -1) (by decide) ?_
                subst h
                exact x_ret C hr rfl rfl dX9_kindBy_83
              · replace h := (if_neg hs1_6).symm.trans h
                by_cases hs1_7 : x0 = 105
                · replace h := (if_pos hs1_7).symm.trans h
                  refine x_tsw C dX9_kindBy_1 105 hs1_7 (by decide) (by decide) (off := 81) rfl (tgt := 82) (by decide) ?_
                  refine x_iconst C dX9_kindBy_82 (v := -1) (by decide) ?_
                  subst h
                  exact x_ret C hr rfl rfl dX9_kindBy_83
                · replace h := (if_neg hs1_7).symm.trans h
                  by_cases hs1_8 : x0 = 106
                  · replace h := (if_pos hs1_8).symm.trans h
                    refine x_tsw C dX9_kindBy_1 106 hs1_8 (by decide) (by decide) (off := 81) rfl (tgt := 82) (by decide) ?_
                    refine x_iconst C dX9_kindBy_82 (v := -1) (by decide) ?_
                    subst h
                    exact x_ret C hr rfl rfl dX9_kindBy_83
                  · replace h := (if_neg hs1_8).symm.trans h
                    by_cases hs1_9 : x0 = 107
                    · replace h := (if_pos hs1_9).symm.trans h
                      refine x_tsw C dX9_kindBy_1 107 hs1_9 (by decide) (by decide) (off := 81) rfl (tgt := 82) (by decide) ?_
                      refine x_iconst C dX9_kindBy_82 (v := -1) (by decide) ?_
                      subst h
                      exact x_ret C hr rfl rfl dX9_kindBy_83
                    · replace h := (if_neg hs1_9).symm.trans h
                      by_cases hs1_10 : x0 = 108
                      · replace h := (if_pos hs1_10).symm.trans h
                        refine x_tsw C dX9_kindBy_1 108 hs1_10 (by decide) (by decide) (off := 73) rfl (tgt := 74) (by decide) ?_
                        refine x_iconst C dX9_kindBy_74 (v := 1) (by decide) ?_
                        subst h
                        exact x_ret C hr rfl rfl dX9_kindBy_75
                      · replace h := (if_neg hs1_10).symm.trans h
                        by_cases hs1_11 : x0 = 109
                        · replace h := (if_pos hs1_11).symm.trans h
                          refine x_tsw C dX9_kindBy_1 109 hs1_11 (by decide) (by decide) (off := 81) rfl (tgt := 82) (by decide) ?_
                          refine x_iconst C dX9_kindBy_82 (v := -1) (by decide) ?_
                          subst h
                          exact x_ret C hr rfl rfl dX9_kindBy_83
                        · replace h := (if_neg hs1_11).symm.trans h
                          by_cases hs1_12 : x0 = 110
                          · replace h := (if_pos hs1_12).symm.trans h
                            refine x_tsw C dX9_kindBy_1 110 hs1_12 (by decide) (by decide) (off := 81) rfl (tgt := 82) (by decide) ?_
                            refine x_iconst C dX9_kindBy_82 (v := -1) (by decide) ?_
                            subst h
                            exact x_ret C hr rfl rfl dX9_kindBy_83
                          · replace h := (if_neg hs1_12).symm.trans h
                            by_cases hs1_13 : x0 = 111
                            · replace h := (if_pos hs1_13).symm.trans h
                              refine x_tsw C dX9_kindBy_1 111 hs1_13 (by decide) (by decide) (off := 77) rfl (tgt := 78) (by decide) ?_
                              refine x_iconst C dX9_kindBy_78 (v := 3) (by decide) ?_
                              subst h
                              exact x_ret C hr rfl rfl dX9_kindBy_79
                            · replace h := (if_neg hs1_13).symm.trans h
                              refine x_tswD C dX9_kindBy_1 (tgt := 82) (by have e0 := lv_neT hs1_0 (a := 98) rfl; have e1 := lv_neT hs1_1 (a := 99) rfl; have e2 := lv_neT hs1_2 (a := 100) rfl; have e3 := lv_neT hs1_3 (a := 101) rfl; have e4 := lv_neT hs1_4 (a := 102) rfl; have e5 := lv_neT hs1_5 (a := 103) rfl; have e6 := lv_neT hs1_6 (a := 104) rfl; have e7 := lv_neT hs1_7 (a := 105) rfl; have e8 := lv_neT hs1_8 (a := 106) rfl; have e9 := lv_neT hs1_9 (a := 107) rfl; have e10 := lv_neT hs1_10 (a := 108) rfl; have e11 := lv_neT hs1_11 (a := 109) rfl; have e12 := lv_neT hs1_12 (a := 110) rfl; have e13 := lv_neT hs1_13 (a := 111) rfl; omega) (by decide) ?_
                              refine x_iconst C dX9_kindBy_82 (v := -1) (by decide) ?_
                              subst h
                              exact x_ret C hr rfl rfl dX9_kindBy_83
def f_X9_isThingLetter (x1 : Int32) (σ : gs_H) : Option (Int32) :=
if inb x1 46 then
if (((x1 - (σ 57 2)) - (1 : Int32)) - ((x1 - (σ 57 2)) - (1 : Int32)) / (3 : Int32) * (3 : Int32)) = 0 then (
if (f_X9_kindBy (σ 58 x1.toNatClampNeg)) = (-1 : Int32) then (
some (0 : Int32))
else (
some (1 : Int32)))
else (
if (((x1 - (σ 57 2)) - (1 : Int32)) - ((x1 - (σ 57 2)) - (1 : Int32)) / (3 : Int32) * (3 : Int32)) = 1 then (
if (f_X9_in (σ 58 x1.toNatClampNeg).toInt64 (48 : Int64) (57 : Int64)) = 0 ∨ (f_X9_in (σ 58 x1.toNatClampNeg).toInt64 (48 : Int64) (57 : Int64)) = 1 then
some (f_X9_in (σ 58 x1.toNatClampNeg).toInt64 (48 : Int64) (57 : Int64)) else none)
else (
if (σ 58 x1.toNatClampNeg) = (44 : Int32) then (
if (((3 : Int32) * ((((σ 57 2) + (1 : Int32)) / (5 : Int32)) + (1 : Int32))) - (1 : Int32)) ≤ ((x1 - (σ 57 2)) - (1 : Int32)) then (
some (0 : Int32))
else (
some (1 : Int32)))
else (
some (0 : Int32)))) else none
set_option maxHeartbeats 4000000 in
set_option maxRecDepth 20000 in
theorem m_X9_isThingLetter {E : gs_E} {l : Launch} {x1 : Int32} {σ : gs_H} {g : Int64} {r0 : Int32} (h : f_X9_isThingLetter x1 σ = some r0) : gs_M l E yX9_isThingLetter cX9_isThingLetter 5 (some .boolean) (1, 25) [.ref (gs_a E 57), .int x1] σ g (some (.int r0)) σ g := by
  refine x_enter (lv := [(0, .ref (gs_a E 57)), (1, .int x1)]) (by decide +kernel) (Nat.le_of_ble_eq_true rfl) rfl (fun p e s m args below meth c C hr => ?_)
  unfold f_X9_isThingLetter at h
  refine x_aload_n C dX9_isThingLetter_0 rfl 0 rfl ?_
  refine x_getr C 57 rfl rfl inX9 0 (by decide) rfl kF_X9_7 rfl dX9_isThingLetter_1 ?_
  refine x_iload_n C dX9_isThingLetter_4 rfl 1 rfl ?_
  obtain ⟨hb1, h⟩ := ck_some h
  refine x_iald C 58 rfl hb1 (v := (σ 58 x1.toNatClampNeg)) rfl dX9_isThingLetter_5 ?_
  refine x_istore_n C dX9_isThingLetter_6 rfl (lv2 := [(0, .ref (gs_a E 57)), (1, .int x1), (2, .int (σ 58 x1.toNatClampNeg))]) (by decide) rfl [1, 2, 0] rfl ?_
  refine x_iload_n C dX9_isThingLetter_7 rfl 1 rfl ?_
  refine x_aload_n C dX9_isThingLetter_8 rfl 0 rfl ?_
  refine x_geti C 57 rfl rfl inX9 2 (by decide) rfl kF_X9_84 rfl (v := (σ 57 2)) rfl dX9_isThingLetter_9 ?_
  refine x_isub C dX9_isThingLetter_12 ?_
  refine x_iconst C dX9_isThingLetter_13 (v := 1) (by decide) ?_
  refine x_isub C dX9_isThingLetter_14 ?_
  refine x_istore_n C dX9_isThingLetter_15 rfl (lv2 := [(0, .ref (gs_a E 57)), (1, .int x1), (2, .int (σ 58 x1.toNatClampNeg)), (3, .int ((x1 - (σ 57 2)) - (1 : Int32)))]) (by decide) rfl [1, 2, 3, 0] rfl ?_
  refine x_aload_n C dX9_isThingLetter_16 rfl 0 rfl ?_
  refine x_geti C 57 rfl rfl inX9 2 (by decide) rfl kF_X9_84 rfl (v := (σ 57 2)) rfl dX9_isThingLetter_17 ?_
  refine x_iconst C dX9_isThingLetter_20 (v := 1) (by decide) ?_
  refine x_iadd C dX9_isThingLetter_21 ?_
  refine x_iconst C dX9_isThingLetter_22 (v := 5) (by decide) ?_
  refine x_idiv C dX9_isThingLetter_23 (by decide) ?_
  refine x_iconst C dX9_isThingLetter_24 (v := 1) (by decide) ?_
  refine x_iadd C dX9_isThingLetter_25 ?_
  refine x_istore C dX9_isThingLetter_26 (lv2 := [(0, .ref (gs_a E 57)), (1, .int x1), (2, .int (σ 58 x1.toNatClampNeg)), (3, .int ((x1 - (σ 57 2)) - (1 : Int32))), (4, .int ((((σ 57 2) + (1 : Int32)) / (5 : Int32)) + (1 : Int32)))]) (by decide) rfl [1, 2, 3, 4, 0] rfl ?_
  refine x_iload_n C dX9_isThingLetter_28 rfl 3 rfl ?_
  refine x_iconst C dX9_isThingLetter_29 (v := 3) (by decide) ?_
  refine x_irem C dX9_isThingLetter_30 (by decide) ?_
  by_cases hs2_0 : (((x1 - (σ 57 2)) - (1 : Int32)) - ((x1 - (σ 57 2)) - (1 : Int32)) / (3 : Int32) * (3 : Int32)) = 0
  · replace h := (if_pos hs2_0).symm.trans h
    refine x_lsw C dX9_isThingLetter_31 (by decide) (off := 25) (by rw [hs2_0]; rfl) (tgt := 56) (by decide) ?_
    refine x_iload_n C dX9_isThingLetter_56 rfl 2 rfl ?_
    refine x_callS C (m_X9_kindBy rfl) kM_X9_87 kT_X9_kindBy kN_X9 kC_X9_kindBy kD_X9_kindBy rfl ⟨Nat.le_of_ble_eq_true rfl, Nat.le_of_ble_eq_true rfl⟩ ⟨Nat.le_refl _, Nat.le_refl _⟩ (rest := []) rfl (Nat.le_of_ble_eq_true rfl) dX9_isThingLetter_57 (st' := [.int (f_X9_kindBy (σ 58 x1.toNatClampNeg))]) rfl ?_
    refine x_iconst C dX9_isThingLetter_60 (v := -1) (by decide) ?_
    by_cases hc4 : (f_X9_kindBy (σ 58 x1.toNatClampNeg)) = (-1 : Int32)
    · replace h := (if_pos hc4).symm.trans h
      refine x_icmp_eqT C dX9_isThingLetter_61 (tgt := 68) (by decide) hc4 ?_
      refine x_iconst C dX9_isThingLetter_68 (v := 0) (by decide) ?_
      replace h := Option.some.inj h
      subst h
      exact x_retb C hr (by decide) rfl dX9_isThingLetter_69
    · replace h := (if_neg hc4).symm.trans h
      refine x_icmp_eqF C dX9_isThingLetter_61 (tgt := 68) (by decide) hc4 ?_
      refine x_iconst C dX9_isThingLetter_64 (v := 1) (by decide) ?_
      refine x_goto C dX9_isThingLetter_65 (tgt := 69) (by decide) ?_
      replace h := Option.some.inj h
      subst h
      exact x_retb C hr (by decide) rfl dX9_isThingLetter_69
  · replace h := (if_neg hs2_0).symm.trans h
    by_cases hs2_1 : (((x1 - (σ 57 2)) - (1 : Int32)) - ((x1 - (σ 57 2)) - (1 : Int32)) / (3 : Int32) * (3 : Int32)) = 1
    · replace h := (if_pos hs2_1).symm.trans h
      refine x_lsw C dX9_isThingLetter_31 (by decide) (off := 39) (by rw [hs2_1]; rfl) (tgt := 70) (by decide) ?_
      refine x_iload_n C dX9_isThingLetter_70 rfl 2 rfl ?_
      refine x_i2l C dX9_isThingLetter_71 ?_
      refine x_ldc2 C kK_X9_91 dX9_isThingLetter_72 ?_
      refine x_ldc2 C kK_X9_78 dX9_isThingLetter_75 ?_
      refine x_callS C (m_X9_in rfl) kM_X9_64 kT_X9_in kN_X9 kC_X9_in kD_X9_in rfl ⟨Nat.le_of_ble_eq_true rfl, Nat.le_of_ble_eq_true rfl⟩ ⟨Nat.le_refl _, Nat.le_refl _⟩ (rest := []) rfl (Nat.le_of_ble_eq_true rfl) dX9_isThingLetter_78 (st' := [.int (f_X9_in (σ 58 x1.toNatClampNeg).toInt64 (48 : Int64) (57 : Int64))]) rfl ?_
      obtain ⟨hbo, h⟩ := ck_some h
      replace h := Option.some.inj h
      subst h
      exact x_retb C hr hbo rfl dX9_isThingLetter_81
    · replace h := (if_neg hs2_1).symm.trans h
      refine x_lsw C dX9_isThingLetter_31 (by decide) (off := 51) (by show Op.lookupswitch.offset [(0, 25), (1, 39)] 51 _ = _; rw [lv_osw hs2_0 (a := 0) rfl, lv_osw hs2_1 (a := 1) rfl]; rfl) (tgt := 82) (by decide) ?_
      refine x_iload_n C dX9_isThingLetter_82 rfl 2 rfl ?_
      refine x_bipush C dX9_isThingLetter_83 (v := 44) (by decide) ?_
      by_cases hc6 : (σ 58 x1.toNatClampNeg) = (44 : Int32)
      · replace h := (if_pos hc6).symm.trans h
        refine x_icmp_neF C dX9_isThingLetter_85 (tgt := 102) (by decide) hc6 ?_
        refine x_iload_n C dX9_isThingLetter_88 rfl 3 rfl ?_
        refine x_iconst C dX9_isThingLetter_89 (v := 3) (by decide) ?_
        refine x_iload C dX9_isThingLetter_90 4 rfl ?_
        refine x_imul C dX9_isThingLetter_92 ?_
        refine x_iconst C dX9_isThingLetter_93 (v := 1) (by decide) ?_
        refine x_isub C dX9_isThingLetter_94 ?_
        by_cases hc7 : (((3 : Int32) * ((((σ 57 2) + (1 : Int32)) / (5 : Int32)) + (1 : Int32))) - (1 : Int32)) ≤ ((x1 - (σ 57 2)) - (1 : Int32))
        · replace h := (if_pos hc7).symm.trans h
          refine x_icmp_geT C dX9_isThingLetter_95 (tgt := 102) (by decide) hc7 ?_
          refine x_iconst C dX9_isThingLetter_102 (v := 0) (by decide) ?_
          replace h := Option.some.inj h
          subst h
          exact x_retb C hr (by decide) rfl dX9_isThingLetter_103
        · replace h := (if_neg hc7).symm.trans h
          refine x_icmp_geF C dX9_isThingLetter_95 (tgt := 102) (by decide) hc7 ?_
          refine x_iconst C dX9_isThingLetter_98 (v := 1) (by decide) ?_
          refine x_goto C dX9_isThingLetter_99 (tgt := 103) (by decide) ?_
          replace h := Option.some.inj h
          subst h
          exact x_retb C hr (by decide) rfl dX9_isThingLetter_103
      · replace h := (if_neg hc6).symm.trans h
        refine x_icmp_neT C dX9_isThingLetter_85 (tgt := 102) (by decide) hc6 ?_
        refine x_iconst C dX9_isThingLetter_102 (v := 0) (by decide) ?_
        replace h := Option.some.inj h
        subst h
        exact x_retb C hr (by decide) rfl dX9_isThingLetter_103
def b_X9_faultOf_12 (y : Int32 × gs_H) : Option ((Int32 × gs_H) ⊕ ((Int32 × gs_H))) :=
if (y.2 57 1) ≤ y.1 then (
some (Sum.inr (y.1, y.2)))
else (
if (y.2 57 2) = 0 then (
(f_X9_isRodLetter y.1 y.2).bind fun q6 =>
if q6.1 = 0 then (
some (Sum.inr (y.1, q6.2)))
else (
some (Sum.inl ((y.1 + (1 : Int32)), q6.2))))
else (
(f_X9_isThingLetter y.1 y.2).bind fun q4 =>
if q4 = 0 then (
some (Sum.inr (y.1, y.2)))
else (
some (Sum.inl ((y.1 + (1 : Int32)), y.2)))))
def f_X9_faultOf (σ : gs_H) : Option (Int32 × gs_H) :=
(lp (b_X9_faultOf_12) 1000 ((0 : Int32), (up2 (up2 σ 57 2 (0 : Int32)) 57 3 (0 : Int32)))).bind fun q1 =>
some (q1.1, q1.2)
set_option maxHeartbeats 4000000 in
set_option maxRecDepth 20000 in
theorem wl_X9_faultOf_12 {E : gs_E} {l : Launch} {p : Program} {e : Env} {s : State} {m : MethodId} {args : Array Value} {below : List Frame} {meth : Method} {c : Code} (C : gs_X E RX9 cX9_faultOf 2 p s m args meth c) {ov : Option Value} {σ0 : gs_H} {g0 : Int64} {g : Int64} {q : (Int32 × gs_H)} (hx0 : ∀ (z1 : Int32) (zs : gs_H), q = (z1, zs) → gs_V E 2 (3, 72) p l e s m args below meth c ov σ0 g0 52 [(1, .int z1)] [] zs g) : ∀ (n : Nat) (y1 : Int32) (ys : gs_H), lp (b_X9_faultOf_12) n (y1, ys) = some q → gs_V E 2 (3, 72) p l e s m args below meth c ov σ0 g0 12 [(0, .ref (gs_a E 57)), (1, .int y1)] [] ys g := by
  intro n
  induction n with
  | zero => intro y1 ys h; cases h
  | succ n ih =>
    intro y1 ys h
    obtain ⟨r, h, hl, he⟩ := lp_step h
    have hc := fun (y1 : Int32) (ys : gs_H) (hr : r = Sum.inl (y1, ys)) => ih y1 ys (hl _ hr)
    have hk0 := fun (z1 : Int32) (zs : gs_H) (hr : r = Sum.inr (z1, zs)) => hx0 z1 zs (he _ hr).symm
    unfold b_X9_faultOf_12 at h
    try dsimp only at h
    refine x_iload_n C dX9_faultOf_12 rfl 1 rfl ?_
    refine x_aload_n C dX9_faultOf_13 rfl 0 rfl ?_
    refine x_geti C 57 rfl rfl inX9 1 (by decide) rfl kF_X9_68 rfl (v := (ys 57 1)) rfl dX9_faultOf_14 ?_
    by_cases hc1 : (ys 57 1) ≤ y1
    · replace h := (if_pos hc1).symm.trans h
      refine x_icmp_geT C dX9_faultOf_17 (tgt := 52) (by decide) hc1 ?_
      refine x_lv (lv' := [(1, .int y1)]) [1] rfl ?_
      obtain rfl := Option.some.inj h
      exact hk0 y1 ys rfl
    · replace h := (if_neg hc1).symm.trans h
      refine x_icmp_geF C dX9_faultOf_17 (tgt := 52) (by decide) hc1 ?_
      refine x_aload_n C dX9_faultOf_20 rfl 0 rfl ?_
      refine x_geti C 57 rfl rfl inX9 2 (by decide) rfl kF_X9_84 rfl (v := (ys 57 2)) rfl dX9_faultOf_21 ?_
      by_cases hc2 : (ys 57 2) = 0
      · replace h := (if_pos hc2).symm.trans h
        refine x_if_neF C dX9_faultOf_24 (tgt := 38) (by decide) hc2 ?_
        refine x_aload_n C dX9_faultOf_27 rfl 0 rfl ?_
        refine x_iload_n C dX9_faultOf_28 rfl 1 rfl ?_
        obtain ⟨⟨v5, s5⟩, hv5, h⟩ := Option.bind_eq_some_iff.mp h
        try dsimp only at h
        refine x_callV C 57 (m_X9_isRodLetter hv5) rfl rfl kM_X9_93 kI_X9_isRodLetter kS_X9_isRodLetter kN_X9 kC_X9_isRodLetter kD_X9_isRodLetter rfl ⟨Nat.le_of_ble_eq_true rfl, Nat.le_of_ble_eq_true rfl⟩ ⟨Nat.le_refl _, Nat.le_refl _⟩ (rest := []) rfl (Nat.le_of_ble_eq_true rfl) dX9_faultOf_29 (st' := [.int v5]) rfl ?_
        by_cases hc6 : v5 = 0
        · replace h := (if_pos hc6).symm.trans h
          refine x_if_eqT C dX9_faultOf_32 (tgt := 52) (by decide) hc6 ?_
          refine x_lv (lv' := [(1, .int y1)]) [1] rfl ?_
          obtain rfl := Option.some.inj h
          exact hk0 y1 s5 rfl
        · replace h := (if_neg hc6).symm.trans h
          refine x_if_eqF C dX9_faultOf_32 (tgt := 52) (by decide) hc6 ?_
          refine x_goto C dX9_faultOf_35 (tgt := 46) (by decide) ?_
          refine x_iinc C dX9_faultOf_46 1 rfl (v := (y1 + (1 : Int32))) rfl (lv2 := [(0, .ref (gs_a E 57)), (1, .int (y1 + (1 : Int32)))]) (by decide) rfl [1, 0] rfl ?_
          refine x_goto C dX9_faultOf_49 (tgt := 12) (by decide) ?_
          obtain rfl := Option.some.inj h
          exact hc (y1 + (1 : Int32)) s5 rfl
      · replace h := (if_neg hc2).symm.trans h
        refine x_if_neT C dX9_faultOf_24 (tgt := 38) (by decide) hc2 ?_
        refine x_aload_n C dX9_faultOf_38 rfl 0 rfl ?_
        refine x_iload_n C dX9_faultOf_39 rfl 1 rfl ?_
        obtain ⟨v3, hv3, h⟩ := Option.bind_eq_some_iff.mp h
        refine x_callV C 57 (m_X9_isThingLetter hv3) rfl rfl kM_X9_97 kI_X9_isThingLetter kS_X9_isThingLetter kN_X9 kC_X9_isThingLetter kD_X9_isThingLetter rfl ⟨Nat.le_of_ble_eq_true rfl, Nat.le_of_ble_eq_true rfl⟩ ⟨Nat.le_refl _, Nat.le_refl _⟩ (rest := []) rfl (Nat.le_of_ble_eq_true rfl) dX9_faultOf_40 (st' := [.int v3]) rfl ?_
        by_cases hc4 : v3 = 0
        · replace h := (if_pos hc4).symm.trans h
          refine x_if_eqT C dX9_faultOf_43 (tgt := 52) (by decide) hc4 ?_
          refine x_lv (lv' := [(1, .int y1)]) [1] rfl ?_
          obtain rfl := Option.some.inj h
          exact hk0 y1 ys rfl
        · replace h := (if_neg hc4).symm.trans h
          refine x_if_eqF C dX9_faultOf_43 (tgt := 52) (by decide) hc4 ?_
          refine x_iinc C dX9_faultOf_46 1 rfl (v := (y1 + (1 : Int32))) rfl (lv2 := [(0, .ref (gs_a E 57)), (1, .int (y1 + (1 : Int32)))]) (by decide) rfl [1, 0] rfl ?_
          refine x_goto C dX9_faultOf_49 (tgt := 12) (by decide) ?_
          obtain rfl := Option.some.inj h
          exact hc (y1 + (1 : Int32)) ys rfl
set_option maxHeartbeats 4000000 in
set_option maxRecDepth 20000 in
theorem m_X9_faultOf {E : gs_E} {l : Launch} {σ : gs_H} {g : Int64} {r0 : Int32} {σ0 : gs_H} (h : f_X9_faultOf σ = some (r0, σ0)) : gs_M l E yX9_faultOf cX9_faultOf 2 (some .int) (3, 72) [.ref (gs_a E 57)] σ g (some (.int r0)) σ0 g := by
  refine x_enter (lv := [(0, .ref (gs_a E 57))]) (by decide +kernel) (Nat.le_of_ble_eq_true rfl) rfl (fun p e s m args below meth c C hr => ?_)
  unfold f_X9_faultOf at h
  refine x_aload_n C dX9_faultOf_0 rfl 0 rfl ?_
  refine x_iconst C dX9_faultOf_1 (v := 0) (by decide) ?_
  refine x_puti C 57 rfl rfl inX9 tyX9 tyX9_ok nmX9 2 (by decide) rfl kF_X9_84 rfl rfl rfl rfl dX9_faultOf_2 ?_
  refine x_aload_n C dX9_faultOf_5 rfl 0 rfl ?_
  refine x_iconst C dX9_faultOf_6 (v := 0) (by decide) ?_
  refine x_puti C 57 rfl rfl inX9 tyX9 tyX9_ok nmX9 3 (by decide) rfl kF_X9_73 rfl rfl rfl rfl dX9_faultOf_7 ?_
  refine x_iconst C dX9_faultOf_10 (v := 0) (by decide) ?_
  refine x_istore_n C dX9_faultOf_11 rfl (lv2 := [(0, .ref (gs_a E 57)), (1, .int (0 : Int32))]) (by decide) rfl [1, 0] rfl ?_
  obtain ⟨q1, hq1, h⟩ := Option.bind_eq_some_iff.mp h
  refine wl_X9_faultOf_12 C (fun v1_0_1 s1_0 hz => ?_) 1000 _ _ hq1
  subst q1
  try dsimp only at h
  refine x_iload_n C dX9_faultOf_52 rfl 0 rfl ?_
  replace h := Option.some.inj h
  obtain ⟨rfl, rfl⟩ := Prod.mk.inj h
  exact x_ret C hr rfl rfl dX9_faultOf_53
def f_X9_fault (σ : gs_H) : Option (Int32 × gs_H) :=
(f_X9_faultOf σ).bind fun q1 =>
some (q1.1, q1.2)
set_option maxHeartbeats 4000000 in
set_option maxRecDepth 20000 in
theorem m_X9_fault {E : gs_E} {l : Launch} {σ : gs_H} {g : Int64} {r0 : Int32} {σ0 : gs_H} (h : f_X9_fault σ = some (r0, σ0)) : gs_M l E yX9_fault cX9_fault 1 (some .int) (4, 93) [.ref (gs_a E 57)] σ g (some (.int r0)) σ0 g := by
  refine x_enter (lv := [(0, .ref (gs_a E 57))]) (by decide +kernel) (Nat.le_of_ble_eq_true rfl) rfl (fun p e s m args below meth c C hr => ?_)
  unfold f_X9_fault at h
  refine x_aload_n C dX9_fault_0 rfl 0 rfl ?_
  obtain ⟨⟨v1, s1⟩, hv1, h⟩ := Option.bind_eq_some_iff.mp h
  try dsimp only at h
  refine x_callV C 57 (m_X9_faultOf hv1) rfl rfl kM_X9_100 kI_X9_faultOf kS_X9_faultOf kN_X9 kC_X9_faultOf kD_X9_faultOf rfl ⟨Nat.le_of_ble_eq_true rfl, Nat.le_of_ble_eq_true rfl⟩ ⟨Nat.le_refl _, Nat.le_refl _⟩ (rest := []) rfl (Nat.le_of_ble_eq_true rfl) dX9_fault_1 (st' := [.int v1]) rfl ?_
  replace h := Option.some.inj h
  obtain ⟨rfl, rfl⟩ := Prod.mk.inj h
  exact x_ret C hr rfl rfl dX9_fault_4
def f_X9_forget (σ : gs_H) : Int32 × gs_H :=
((σ 57 21), (up2 σ 57 21 (0 : Int32)))
set_option maxHeartbeats 4000000 in
set_option maxRecDepth 20000 in
theorem m_X9_forget {E : gs_E} {l : Launch} {σ : gs_H} {g : Int64} {r0 : Int32} {σ0 : gs_H} (h : f_X9_forget σ = (r0, σ0)) : gs_M l E yX9_forget cX9_forget 2 (some .int) (0, 0) [.ref (gs_a E 57)] σ g (some (.int r0)) σ0 g := by
  refine x_enter (lv := [(0, .ref (gs_a E 57))]) (by decide +kernel) (Nat.le_of_ble_eq_true rfl) rfl (fun p e s m args below meth c C hr => ?_)
  unfold f_X9_forget at h
  refine x_aload_n C dX9_forget_0 rfl 0 rfl ?_
  refine x_geti C 57 rfl rfl inX9 21 (by decide) rfl kF_X9_119 rfl (v := (σ 57 21)) rfl dX9_forget_1 ?_
  refine x_istore_n C dX9_forget_4 rfl (lv2 := [(0, .ref (gs_a E 57)), (1, .int (σ 57 21))]) (by decide) rfl [1, 0] rfl ?_
  refine x_aload_n C dX9_forget_5 rfl 0 rfl ?_
  refine x_iconst C dX9_forget_6 (v := 0) (by decide) ?_
  refine x_puti C 57 rfl rfl inX9 tyX9 tyX9_ok nmX9 21 (by decide) rfl kF_X9_119 rfl rfl rfl rfl dX9_forget_7 ?_
  refine x_iload_n C dX9_forget_10 rfl 1 rfl ?_
  obtain ⟨rfl, rfl⟩ := Prod.mk.inj h
  exact x_ret C hr rfl rfl dX9_forget_11
def f_X9_hour (σ : gs_H) : Int32 × gs_H :=
if (f_X9_lacks σ) = 0 then (
if (σ 57 6) = (999 : Int32) then (
((-104 : Int32), σ))
else (
(((σ 57 6) + (1 : Int32)), (up2 σ 57 6 ((σ 57 6) + (1 : Int32))))))
else (
((-103 : Int32), σ))
set_option maxHeartbeats 4000000 in
set_option maxRecDepth 20000 in
theorem m_X9_hour {E : gs_E} {l : Launch} {σ : gs_H} {g : Int64} {r0 : Int32} {σ0 : gs_H} (h : f_X9_hour σ = (r0, σ0)) : gs_M l E yX9_hour cX9_hour 1 (some .int) (1, 20) [.ref (gs_a E 57)] σ g (some (.int r0)) σ0 g := by
  refine x_enter (lv := [(0, .ref (gs_a E 57))]) (by decide +kernel) (Nat.le_of_ble_eq_true rfl) rfl (fun p e s m args below meth c C hr => ?_)
  unfold f_X9_hour at h
  refine x_aload_n C dX9_hour_0 rfl 0 rfl ?_
  refine x_callV C 57 (m_X9_lacks rfl) rfl rfl kM_X9_182 kI_X9_lacks kS_X9_lacks kN_X9 kC_X9_lacks kD_X9_lacks rfl ⟨Nat.le_of_ble_eq_true rfl, Nat.le_of_ble_eq_true rfl⟩ ⟨Nat.le_refl _, Nat.le_refl _⟩ (rest := []) rfl (Nat.le_of_ble_eq_true rfl) dX9_hour_1 (st' := [.int (f_X9_lacks σ)]) rfl ?_
  by_cases hc2 : (f_X9_lacks σ) = 0
  · replace h := (if_pos hc2).symm.trans h
    refine x_if_eqT C dX9_hour_4 (tgt := 10) (by decide) hc2 ?_
    refine x_aload_n C dX9_hour_10 rfl 0 rfl ?_
    refine x_geti C 57 rfl rfl inX9 6 (by decide) rfl kF_X9_110 rfl (v := (σ 57 6)) rfl dX9_hour_11 ?_
    refine x_sipush C dX9_hour_14 (v := 999) (by decide) ?_
    by_cases hc3 : (σ 57 6) = (999 : Int32)
    · replace h := (if_pos hc3).symm.trans h
      refine x_icmp_neF C dX9_hour_17 (tgt := 23) (by decide) hc3 ?_
      refine x_bipush C dX9_hour_20 (v := -104) (by decide) ?_
      obtain ⟨rfl, rfl⟩ := Prod.mk.inj h
      exact x_ret C hr rfl rfl dX9_hour_22
    · replace h := (if_neg hc3).symm.trans h
      refine x_icmp_neT C dX9_hour_17 (tgt := 23) (by decide) hc3 ?_
      refine x_aload_n C dX9_hour_23 rfl 0 rfl ?_
      refine x_dup C dX9_hour_24 rfl ?_
      refine x_geti C 57 rfl rfl inX9 6 (by decide) rfl kF_X9_110 rfl (v := (σ 57 6)) rfl dX9_hour_25 ?_
      refine x_iconst C dX9_hour_28 (v := 1) (by decide) ?_
      refine x_iadd C dX9_hour_29 ?_
      refine x_puti C 57 rfl rfl inX9 tyX9 tyX9_ok nmX9 6 (by decide) rfl kF_X9_110 rfl rfl rfl rfl dX9_hour_30 ?_
      refine x_aload_n C dX9_hour_33 rfl 0 rfl ?_
      refine x_geti C 57 rfl rfl inX9 6 (by decide) rfl kF_X9_110 rfl (v := ((σ 57 6) + (1 : Int32))) rfl dX9_hour_34 ?_
      obtain ⟨rfl, rfl⟩ := Prod.mk.inj h
      exact x_ret C hr rfl rfl dX9_hour_37
  · replace h := (if_neg hc2).symm.trans h
    refine x_if_eqF C dX9_hour_4 (tgt := 10) (by decide) hc2 ?_
    refine x_bipush C dX9_hour_7 (v := -103) (by decide) ?_
    obtain ⟨rfl, rfl⟩ := Prod.mk.inj h
    exact x_ret C hr rfl rfl dX9_hour_9
def f_X9_image (σ : gs_H) : Option (Int32 × gs_H) :=
if (f_X9_lacks σ) = 0 then (
(f_X9_copy 59 69 σ).bind fun q3 =>
(f_X9_copy 62 70 q3).bind fun q4 =>
(f_X9_copy 63 71 q4).bind fun q5 =>
(f_X9_copy 64 72 q5).bind fun q6 =>
(f_X9_copy 68 73 q6).bind fun q7 =>
some ((q7 57 6), (up2 (up2 (up2 (up2 (up2 q7 57 25 (q7 57 6)) 57 26 (q7 57 8)) 57 27 (q7 57 9)) 57 28 (q7 57 21)) 57 24 (q7 57 7))))
else (
some ((-103 : Int32), σ))
set_option maxHeartbeats 4000000 in
set_option maxRecDepth 20000 in
theorem m_X9_image {E : gs_E} {l : Launch} {σ : gs_H} {g : Int64} {r0 : Int32} {σ0 : gs_H} (h : f_X9_image σ = some (r0, σ0)) : gs_M l E yX9_image cX9_image 1 (some .int) (1, 22) [.ref (gs_a E 57)] σ g (some (.int r0)) σ0 g := by
  refine x_enter (lv := [(0, .ref (gs_a E 57))]) (by decide +kernel) (Nat.le_of_ble_eq_true rfl) rfl (fun p e s m args below meth c C hr => ?_)
  unfold f_X9_image at h
  refine x_aload_n C dX9_image_0 rfl 0 rfl ?_
  refine x_callV C 57 (m_X9_lacks rfl) rfl rfl kM_X9_182 kI_X9_lacks kS_X9_lacks kN_X9 kC_X9_lacks kD_X9_lacks rfl ⟨Nat.le_of_ble_eq_true rfl, Nat.le_of_ble_eq_true rfl⟩ ⟨Nat.le_refl _, Nat.le_refl _⟩ (rest := []) rfl (Nat.le_of_ble_eq_true rfl) dX9_image_1 (st' := [.int (f_X9_lacks σ)]) rfl ?_
  by_cases hc2 : (f_X9_lacks σ) = 0
  · replace h := (if_pos hc2).symm.trans h
    refine x_if_eqT C dX9_image_4 (tgt := 10) (by decide) hc2 ?_
    refine x_aload_n C dX9_image_10 rfl 0 rfl ?_
    refine x_getr C 57 rfl rfl inX9 10 (by decide) rfl kF_X9_13 rfl dX9_image_11 ?_
    refine x_aload_n C dX9_image_14 rfl 0 rfl ?_
    refine x_getr C 57 rfl rfl inX9 29 (by decide) rfl kF_X9_43 rfl dX9_image_15 ?_
    obtain ⟨s3, hv3, h⟩ := Option.bind_eq_some_iff.mp h
    refine x_callS C (m_X9_copy_59_69 hv3) kM_X9_125 kT_X9_copy kN_X9 kC_X9_copy kD_X9_copy rfl ⟨Nat.le_of_ble_eq_true rfl, Nat.le_of_ble_eq_true rfl⟩ ⟨Nat.le_refl _, Nat.le_refl _⟩ (rest := []) rfl (Nat.le_of_ble_eq_true rfl) dX9_image_18 (st' := []) rfl ?_
    refine x_aload_n C dX9_image_21 rfl 0 rfl ?_
    refine x_getr C 57 rfl rfl inX9 13 (by decide) rfl kF_X9_22 rfl dX9_image_22 ?_
    refine x_aload_n C dX9_image_25 rfl 0 rfl ?_
    refine x_getr C 57 rfl rfl inX9 30 (by decide) rfl kF_X9_46 rfl dX9_image_26 ?_
    obtain ⟨s4, hv4, h⟩ := Option.bind_eq_some_iff.mp h
    refine x_callS C (m_X9_copy_62_70 hv4) kM_X9_125 kT_X9_copy kN_X9 kC_X9_copy kD_X9_copy rfl ⟨Nat.le_of_ble_eq_true rfl, Nat.le_of_ble_eq_true rfl⟩ ⟨Nat.le_refl _, Nat.le_refl _⟩ (rest := []) rfl (Nat.le_of_ble_eq_true rfl) dX9_image_29 (st' := []) rfl ?_
    refine x_aload_n C dX9_image_32 rfl 0 rfl ?_
    refine x_getr C 57 rfl rfl inX9 14 (by decide) rfl kF_X9_25 rfl dX9_image_33 ?_
    refine x_aload_n C dX9_image_36 rfl 0 rfl ?_
    refine x_getr C 57 rfl rfl inX9 31 (by decide) rfl kF_X9_49 rfl dX9_image_37 ?_
    obtain ⟨s5, hv5, h⟩ := Option.bind_eq_some_iff.mp h
    refine x_callS C (m_X9_copy_63_71 hv5) kM_X9_125 kT_X9_copy kN_X9 kC_X9_copy kD_X9_copy rfl ⟨Nat.le_of_ble_eq_true rfl, Nat.le_of_ble_eq_true rfl⟩ ⟨Nat.le_refl _, Nat.le_refl _⟩ (rest := []) rfl (Nat.le_of_ble_eq_true rfl) dX9_image_40 (st' := []) rfl ?_
    refine x_aload_n C dX9_image_43 rfl 0 rfl ?_
    refine x_getr C 57 rfl rfl inX9 15 (by decide) rfl kF_X9_28 rfl dX9_image_44 ?_
    refine x_aload_n C dX9_image_47 rfl 0 rfl ?_
    refine x_getr C 57 rfl rfl inX9 32 (by decide) rfl kF_X9_52 rfl dX9_image_48 ?_
    obtain ⟨s6, hv6, h⟩ := Option.bind_eq_some_iff.mp h
    refine x_callS C (m_X9_copy_64_72 hv6) kM_X9_125 kT_X9_copy kN_X9 kC_X9_copy kD_X9_copy rfl ⟨Nat.le_of_ble_eq_true rfl, Nat.le_of_ble_eq_true rfl⟩ ⟨Nat.le_refl _, Nat.le_refl _⟩ (rest := []) rfl (Nat.le_of_ble_eq_true rfl) dX9_image_51 (st' := []) rfl ?_
    refine x_aload_n C dX9_image_54 rfl 0 rfl ?_
    refine x_getr C 57 rfl rfl inX9 22 (by decide) rfl kF_X9_40 rfl dX9_image_55 ?_
    refine x_aload_n C dX9_image_58 rfl 0 rfl ?_
    refine x_getr C 57 rfl rfl inX9 33 (by decide) rfl kF_X9_55 rfl dX9_image_59 ?_
    obtain ⟨s7, hv7, h⟩ := Option.bind_eq_some_iff.mp h
    refine x_callS C (m_X9_copy_68_73 hv7) kM_X9_125 kT_X9_copy kN_X9 kC_X9_copy kD_X9_copy rfl ⟨Nat.le_of_ble_eq_true rfl, Nat.le_of_ble_eq_true rfl⟩ ⟨Nat.le_refl _, Nat.le_refl _⟩ (rest := []) rfl (Nat.le_of_ble_eq_true rfl) dX9_image_62 (st' := []) rfl ?_
    refine x_aload_n C dX9_image_65 rfl 0 rfl ?_
    refine x_aload_n C dX9_image_66 rfl 0 rfl ?_
    refine x_geti C 57 rfl rfl inX9 6 (by decide) rfl kF_X9_110 rfl (v := (s7 57 6)) rfl dX9_image_67 ?_
    refine x_puti C 57 rfl rfl inX9 tyX9 tyX9_ok nmX9 25 (by decide) rfl kF_X9_257 rfl rfl rfl rfl dX9_image_70 ?_
    refine x_aload_n C dX9_image_73 rfl 0 rfl ?_
    refine x_aload_n C dX9_image_74 rfl 0 rfl ?_
    refine x_geti C 57 rfl rfl inX9 8 (by decide) rfl kF_X9_113 rfl (v := (s7 57 8)) rfl dX9_image_75 ?_
    refine x_puti C 57 rfl rfl inX9 tyX9 tyX9_ok nmX9 26 (by decide) rfl kF_X9_260 rfl rfl rfl rfl dX9_image_78 ?_
    refine x_aload_n C dX9_image_81 rfl 0 rfl ?_
    refine x_aload_n C dX9_image_82 rfl 0 rfl ?_
    refine x_geti C 57 rfl rfl inX9 9 (by decide) rfl kF_X9_116 rfl (v := (s7 57 9)) rfl dX9_image_83 ?_
    refine x_puti C 57 rfl rfl inX9 tyX9 tyX9_ok nmX9 27 (by decide) rfl kF_X9_263 rfl rfl rfl rfl dX9_image_86 ?_
    refine x_aload_n C dX9_image_89 rfl 0 rfl ?_
    refine x_aload_n C dX9_image_90 rfl 0 rfl ?_
    refine x_geti C 57 rfl rfl inX9 21 (by decide) rfl kF_X9_119 rfl (v := (s7 57 21)) rfl dX9_image_91 ?_
    refine x_puti C 57 rfl rfl inX9 tyX9 tyX9_ok nmX9 28 (by decide) rfl kF_X9_266 rfl rfl rfl rfl dX9_image_94 ?_
    refine x_aload_n C dX9_image_97 rfl 0 rfl ?_
    refine x_aload_n C dX9_image_98 rfl 0 rfl ?_
    refine x_geti C 57 rfl rfl inX9 7 (by decide) rfl kF_X9_122 rfl (v := (s7 57 7)) rfl dX9_image_99 ?_
    refine x_puti C 57 rfl rfl inX9 tyX9 tyX9_ok nmX9 24 (by decide) rfl kF_X9_58 rfl rfl rfl rfl dX9_image_102 ?_
    refine x_aload_n C dX9_image_105 rfl 0 rfl ?_
    refine x_geti C 57 rfl rfl inX9 6 (by decide) rfl kF_X9_110 rfl (v := (s7 57 6)) rfl dX9_image_106 ?_
    replace h := Option.some.inj h
    obtain ⟨rfl, rfl⟩ := Prod.mk.inj h
    exact x_ret C hr rfl rfl dX9_image_109
  · replace h := (if_neg hc2).symm.trans h
    refine x_if_eqF C dX9_image_4 (tgt := 10) (by decide) hc2 ?_
    refine x_bipush C dX9_image_7 (v := -103) (by decide) ?_
    replace h := Option.some.inj h
    obtain ⟨rfl, rfl⟩ := Prod.mk.inj h
    exact x_ret C hr rfl rfl dX9_image_9
def j_X9_tiltsAll_43 (x1 : Int32) (x2 : Int32) (x3 : Int32) (t0 : Int32) (σ : gs_H) : Option ((Int32 × Int32) ⊕ ((Int32))) :=
if ((x1 >>> (x3 &&& 31)) &&& (1 : Int32)) = (1 : Int32) then (
some (Sum.inl ((x2 + t0), (x3 + (1 : Int32)))))
else (
some (Sum.inl ((x2 + (0 : Int32)), (x3 + (1 : Int32)))))
def b_X9_tiltsAll_9 (x1 : Int32) (σ : gs_H) (y : Int32 × Int32) : Option ((Int32 × Int32) ⊕ ((Int32))) :=
if (σ 57 4) ≤ y.2 then (
some (Sum.inr y.1))
else (
if inb y.2 5 then
if 0 ≤ (σ 67 y.2.toNatClampNeg) then (
if inb y.2 5 then
j_X9_tiltsAll_43 x1 y.1 y.2 (σ 67 y.2.toNatClampNeg) σ else none)
else (
if inb y.2 5 then
j_X9_tiltsAll_43 x1 y.1 y.2 ((0 : Int32) - (σ 67 y.2.toNatClampNeg)) σ else none) else none)
def f_X9_tiltsAll (σ : gs_H) : Option (Int32) :=
(f_X9_there σ).bind fun q1 =>
(lp (b_X9_tiltsAll_9 q1 σ) 1000 ((0 : Int32), (0 : Int32))).bind fun q2 =>
some q2
set_option maxHeartbeats 4000000 in
set_option maxRecDepth 20000 in
theorem wj_X9_tiltsAll_43 {E : gs_E} {l : Launch} {p : Program} {e : Env} {s : State} {m : MethodId} {args : Array Value} {below : List Frame} {meth : Method} {c : Code} (C : gs_X E RX9 cX9_tiltsAll 5 p s m args meth c) {ov : Option Value} {σ0 : gs_H} {g0 : Int64} {x1 : Int32} {x2 : Int32} {x3 : Int32} {t0 : Int32} {σ : gs_H} {g : Int64} {r : (Int32 × Int32) ⊕ ((Int32))} (h : j_X9_tiltsAll_43 x1 x2 x3 t0 σ = some r) (hc : ∀ (y2 : Int32) (y3 : Int32), r = Sum.inl (y2, y3) → gs_V E 5 (1, 24) p l e s m args below meth c ov σ0 g0 9 [(0, .ref (gs_a E 57)), (1, .int x1), (2, .int y2), (3, .int y3)] [] σ g) (hk0 : ∀ (z2 : Int32), r = Sum.inr z2 → gs_V E 5 (1, 24) p l e s m args below meth c ov σ0 g0 69 [(2, .int z2)] [] σ g) : gs_V E 5 (1, 24) p l e s m args below meth c ov σ0 g0 43 [(0, .ref (gs_a E 57)), (1, .int x1), (2, .int x2), (3, .int x3)] [.int t0] σ g := by
  unfold j_X9_tiltsAll_43 at h
  refine x_istore C dX9_tiltsAll_43 (lv2 := [(0, .ref (gs_a E 57)), (1, .int x1), (2, .int x2), (3, .int x3), (4, .int t0)]) (by decide) rfl [1, 2, 3, 4, 0] rfl ?_
  refine x_iload_n C dX9_tiltsAll_45 rfl 2 rfl ?_
  refine x_iload_n C dX9_tiltsAll_46 rfl 1 rfl ?_
  refine x_iload_n C dX9_tiltsAll_47 rfl 3 rfl ?_
  refine x_ishr C dX9_tiltsAll_48 ?_
  refine x_iconst C dX9_tiltsAll_49 (v := 1) (by decide) ?_
  refine x_iand C dX9_tiltsAll_50 ?_
  refine x_iconst C dX9_tiltsAll_51 (v := 1) (by decide) ?_
  by_cases hc1 : ((x1 >>> (x3 &&& 31)) &&& (1 : Int32)) = (1 : Int32)
  · replace h := (if_pos hc1).symm.trans h
    refine x_icmp_neF C dX9_tiltsAll_52 (tgt := 60) (by decide) hc1 ?_
    refine x_iload C dX9_tiltsAll_55 4 rfl ?_
    refine x_goto C dX9_tiltsAll_57 (tgt := 61) (by decide) ?_
    refine x_iadd C dX9_tiltsAll_61 ?_
    refine x_istore_n C dX9_tiltsAll_62 rfl (lv2 := [(0, .ref (gs_a E 57)), (1, .int x1), (2, .int (x2 + t0)), (3, .int x3), (4, .int t0)]) (by decide) rfl [1, 2, 0, 3, 4] rfl ?_
    refine x_iinc C dX9_tiltsAll_63 3 rfl (v := (x3 + (1 : Int32))) rfl (lv2 := [(0, .ref (gs_a E 57)), (1, .int x1), (2, .int (x2 + t0)), (3, .int (x3 + (1 : Int32))), (4, .int t0)]) (by decide) rfl [1, 2, 3, 0, 4] rfl ?_
    refine x_goto C dX9_tiltsAll_66 (tgt := 9) (by decide) ?_
    refine x_lv (lv' := [(0, .ref (gs_a E 57)), (1, .int x1), (2, .int (x2 + t0)), (3, .int (x3 + (1 : Int32)))]) [0, 1, 2, 3] rfl ?_
    obtain rfl := Option.some.inj h
    exact hc (x2 + t0) (x3 + (1 : Int32)) rfl
  · replace h := (if_neg hc1).symm.trans h
    refine x_icmp_neT C dX9_tiltsAll_52 (tgt := 60) (by decide) hc1 ?_
    refine x_iconst C dX9_tiltsAll_60 (v := 0) (by decide) ?_
    refine x_iadd C dX9_tiltsAll_61 ?_
    refine x_istore_n C dX9_tiltsAll_62 rfl (lv2 := [(0, .ref (gs_a E 57)), (1, .int x1), (2, .int (x2 + (0 : Int32))), (3, .int x3), (4, .int t0)]) (by decide) rfl [1, 2, 0, 3, 4] rfl ?_
    refine x_iinc C dX9_tiltsAll_63 3 rfl (v := (x3 + (1 : Int32))) rfl (lv2 := [(0, .ref (gs_a E 57)), (1, .int x1), (2, .int (x2 + (0 : Int32))), (3, .int (x3 + (1 : Int32))), (4, .int t0)]) (by decide) rfl [1, 2, 3, 0, 4] rfl ?_
    refine x_goto C dX9_tiltsAll_66 (tgt := 9) (by decide) ?_
    refine x_lv (lv' := [(0, .ref (gs_a E 57)), (1, .int x1), (2, .int (x2 + (0 : Int32))), (3, .int (x3 + (1 : Int32)))]) [0, 1, 2, 3] rfl ?_
    obtain rfl := Option.some.inj h
    exact hc (x2 + (0 : Int32)) (x3 + (1 : Int32)) rfl
set_option maxHeartbeats 4000000 in
set_option maxRecDepth 20000 in
theorem wl_X9_tiltsAll_9 {E : gs_E} {l : Launch} {p : Program} {e : Env} {s : State} {m : MethodId} {args : Array Value} {below : List Frame} {meth : Method} {c : Code} (C : gs_X E RX9 cX9_tiltsAll 5 p s m args meth c) {ov : Option Value} {σ0 : gs_H} {g0 : Int64} {x1 : Int32} {σ : gs_H} {g : Int64} {q : (Int32)} (hx0 : ∀ (z2 : Int32), q = z2 → gs_V E 5 (1, 24) p l e s m args below meth c ov σ0 g0 69 [(2, .int z2)] [] σ g) : ∀ (n : Nat) (y2 : Int32) (y3 : Int32), lp (b_X9_tiltsAll_9 x1 σ) n (y2, y3) = some q → gs_V E 5 (1, 24) p l e s m args below meth c ov σ0 g0 9 [(0, .ref (gs_a E 57)), (1, .int x1), (2, .int y2), (3, .int y3)] [] σ g := by
  intro n
  induction n with
  | zero => intro y2 y3 h; cases h
  | succ n ih =>
    intro y2 y3 h
    obtain ⟨r, h, hl, he⟩ := lp_step h
    have hc := fun (y2 : Int32) (y3 : Int32) (hr : r = Sum.inl (y2, y3)) => ih y2 y3 (hl _ hr)
    have hk0 := fun (z2 : Int32) (hr : r = Sum.inr z2) => hx0 z2 (he _ hr).symm
    unfold b_X9_tiltsAll_9 at h
    try dsimp only at h
    refine x_iload_n C dX9_tiltsAll_9 rfl 3 rfl ?_
    refine x_aload_n C dX9_tiltsAll_10 rfl 0 rfl ?_
    refine x_geti C 57 rfl rfl inX9 4 (by decide) rfl kF_X9_104 rfl (v := (σ 57 4)) rfl dX9_tiltsAll_11 ?_
    by_cases hc1 : (σ 57 4) ≤ y3
    · replace h := (if_pos hc1).symm.trans h
      refine x_icmp_geT C dX9_tiltsAll_14 (tgt := 69) (by decide) hc1 ?_
      refine x_lv (lv' := [(2, .int y2)]) [2] rfl ?_
      obtain rfl := Option.some.inj h
      exact hk0 y2 rfl
    · replace h := (if_neg hc1).symm.trans h
      refine x_icmp_geF C dX9_tiltsAll_14 (tgt := 69) (by decide) hc1 ?_
      refine x_aload_n C dX9_tiltsAll_17 rfl 0 rfl ?_
      refine x_getr C 57 rfl rfl inX9 19 (by decide) rfl kF_X9_37 rfl dX9_tiltsAll_18 ?_
      refine x_iload_n C dX9_tiltsAll_21 rfl 3 rfl ?_
      obtain ⟨hb2, h⟩ := ck_some h
      refine x_iald C 67 rfl hb2 (v := (σ 67 y3.toNatClampNeg)) rfl dX9_tiltsAll_22 ?_
      by_cases hc3 : 0 ≤ (σ 67 y3.toNatClampNeg)
      · replace h := (if_pos hc3).symm.trans h
        refine x_if_geT C dX9_tiltsAll_23 (tgt := 37) (by decide) hc3 ?_
        refine x_aload_n C dX9_tiltsAll_37 rfl 0 rfl ?_
        refine x_getr C 57 rfl rfl inX9 19 (by decide) rfl kF_X9_37 rfl dX9_tiltsAll_38 ?_
        refine x_iload_n C dX9_tiltsAll_41 rfl 3 rfl ?_
        obtain ⟨hb4, h⟩ := ck_some h
        refine x_iald C 67 rfl hb4 (v := (σ 67 y3.toNatClampNeg)) rfl dX9_tiltsAll_42 ?_
        exact wj_X9_tiltsAll_43 C h hc hk0
      · replace h := (if_neg hc3).symm.trans h
        refine x_if_geF C dX9_tiltsAll_23 (tgt := 37) (by decide) hc3 ?_
        refine x_iconst C dX9_tiltsAll_26 (v := 0) (by decide) ?_
        refine x_aload_n C dX9_tiltsAll_27 rfl 0 rfl ?_
        refine x_getr C 57 rfl rfl inX9 19 (by decide) rfl kF_X9_37 rfl dX9_tiltsAll_28 ?_
        refine x_iload_n C dX9_tiltsAll_31 rfl 3 rfl ?_
        obtain ⟨hb5, h⟩ := ck_some h
        refine x_iald C 67 rfl hb5 (v := (σ 67 y3.toNatClampNeg)) rfl dX9_tiltsAll_32 ?_
        refine x_isub C dX9_tiltsAll_33 ?_
        refine x_goto C dX9_tiltsAll_34 (tgt := 43) (by decide) ?_
        exact wj_X9_tiltsAll_43 C h hc hk0
set_option maxHeartbeats 4000000 in
set_option maxRecDepth 20000 in
theorem m_X9_tiltsAll {E : gs_E} {l : Launch} {σ : gs_H} {g : Int64} {r0 : Int32} (h : f_X9_tiltsAll σ = some r0) : gs_M l E yX9_tiltsAll cX9_tiltsAll 5 (some .int) (1, 24) [.ref (gs_a E 57)] σ g (some (.int r0)) σ g := by
  refine x_enter (lv := [(0, .ref (gs_a E 57))]) (by decide +kernel) (Nat.le_of_ble_eq_true rfl) rfl (fun p e s m args below meth c C hr => ?_)
  unfold f_X9_tiltsAll at h
  refine x_aload_n C dX9_tiltsAll_0 rfl 0 rfl ?_
  obtain ⟨v1, hv1, h⟩ := Option.bind_eq_some_iff.mp h
  refine x_callV C 57 (m_X9_there hv1) rfl rfl kM_X9_145 kI_X9_there kS_X9_there kN_X9 kC_X9_there kD_X9_there rfl ⟨Nat.le_of_ble_eq_true rfl, Nat.le_of_ble_eq_true rfl⟩ ⟨Nat.le_refl _, Nat.le_refl _⟩ (rest := []) rfl (Nat.le_of_ble_eq_true rfl) dX9_tiltsAll_1 (st' := [.int v1]) rfl ?_
  refine x_istore_n C dX9_tiltsAll_4 rfl (lv2 := [(0, .ref (gs_a E 57)), (1, .int v1)]) (by decide) rfl [1, 0] rfl ?_
  refine x_iconst C dX9_tiltsAll_5 (v := 0) (by decide) ?_
  refine x_istore_n C dX9_tiltsAll_6 rfl (lv2 := [(0, .ref (gs_a E 57)), (1, .int v1), (2, .int (0 : Int32))]) (by decide) rfl [1, 2, 0] rfl ?_
  refine x_iconst C dX9_tiltsAll_7 (v := 0) (by decide) ?_
  refine x_istore_n C dX9_tiltsAll_8 rfl (lv2 := [(0, .ref (gs_a E 57)), (1, .int v1), (2, .int (0 : Int32)), (3, .int (0 : Int32))]) (by decide) rfl [1, 2, 3, 0] rfl ?_
  obtain ⟨q2, hq2, h⟩ := Option.bind_eq_some_iff.mp h
  refine wl_X9_tiltsAll_9 C (fun v2_0_2 hz => ?_) 1000 _ _ hq2
  subst q2
  try dsimp only at h
  refine x_iload_n C dX9_tiltsAll_69 rfl 0 rfl ?_
  replace h := Option.some.inj h
  subst h
  exact x_ret C hr rfl rfl dX9_tiltsAll_70
def b_X9_layOf_10 (y : Int32 × Int32 × Int32 × Int32 × gs_H) : Option ((Int32 × Int32 × Int32 × Int32 × gs_H) ⊕ ((Int32 × Int32 × Int32 × gs_H))) :=
(f_X9_looseMany y.2.2.2.2).bind fun q10 =>
(f_X9_factorial q10).bind fun q11 =>
if q11 ≤ y.2.2.2.1 then (
some (Sum.inr (y.1, y.2.1, y.2.2.1, y.2.2.2.2)))
else (
(f_X9_layOrder y.2.2.2.1 y.2.2.2.2).bind fun q13 =>
(f_X9_levelThen q13).bind fun q14 =>
(f_X9_tiltsAll q14.2).bind fun q15 =>
if y.2.1 < q14.1 then (
some (Sum.inl (y.2.2.2.1, q14.1, q15, (y.2.2.2.1 + (1 : Int32)), q14.2)))
else (
if q14.1 = y.2.1 then (
if y.2.2.1 ≤ q15 then (
some (Sum.inl (y.1, y.2.1, y.2.2.1, (y.2.2.2.1 + (1 : Int32)), q14.2)))
else (
some (Sum.inl (y.2.2.2.1, q14.1, q15, (y.2.2.2.1 + (1 : Int32)), q14.2))))
else (
some (Sum.inl (y.1, y.2.1, y.2.2.1, (y.2.2.2.1 + (1 : Int32)), q14.2)))))
def f_X9_layOf (x1 : Int32) (σ : gs_H) : Option (Int32 × gs_H) :=
(lp (b_X9_layOf_10) 1000 ((0 : Int32), (-1 : Int32), (0 : Int32), (0 : Int32), σ)).bind fun q1 =>
if (2 : Int32) ≤ x1 then (
(f_X9_layOrder q1.1 q1.2.2.2).bind fun q3 =>
if (q3 57 5) ≤ (x1 - (10 : Int32)) then (
some ((-1 : Int32), q3))
else (
if inb (x1 - (10 : Int32)) 6 then
if (f_X9_isCut (q3 64 (x1 - (10 : Int32)).toNatClampNeg) q3) = 0 then (
if inb (x1 - (10 : Int32)) 6 then
some ((q3 65 (x1 - (10 : Int32)).toNatClampNeg), q3) else none)
else (
some ((-1 : Int32), q3)) else none))
else (
if x1 = 0 then (
some (q1.2.1, q1.2.2.2))
else (
some (q1.2.2.1, q1.2.2.2)))
set_option maxHeartbeats 4000000 in
set_option maxRecDepth 20000 in
theorem wl_X9_layOf_10 {E : gs_E} {l : Launch} {p : Program} {e : Env} {s : State} {m : MethodId} {args : Array Value} {below : List Frame} {meth : Method} {c : Code} (C : gs_X E RX9 cX9_layOf 8 p s m args meth c) {ov : Option Value} {σ0 : gs_H} {g0 : Int64} {x1 : Int32} {g : Int64} {q : (Int32 × Int32 × Int32 × gs_H)} (hx0 : ∀ (z2 : Int32) (z3 : Int32) (z4 : Int32) (zs : gs_H), q = (z2, z3, z4, zs) → gs_V E 8 (5, 111) p l e s m args below meth c ov σ0 g0 75 [(0, .ref (gs_a E 57)), (1, .int x1), (2, .int z2), (3, .int z3), (4, .int z4)] [] zs g) : ∀ (n : Nat) (y2 : Int32) (y3 : Int32) (y4 : Int32) (y5 : Int32) (ys : gs_H), lp (b_X9_layOf_10) n (y2, y3, y4, y5, ys) = some q → gs_V E 8 (5, 111) p l e s m args below meth c ov σ0 g0 10 [(0, .ref (gs_a E 57)), (1, .int x1), (2, .int y2), (3, .int y3), (4, .int y4), (5, .int y5)] [] ys g := by
  intro n
  induction n with
  | zero => intro y2 y3 y4 y5 ys h; cases h
  | succ n ih =>
    intro y2 y3 y4 y5 ys h
    obtain ⟨r, h, hl, he⟩ := lp_step h
    have hc := fun (y2 : Int32) (y3 : Int32) (y4 : Int32) (y5 : Int32) (ys : gs_H) (hr : r = Sum.inl (y2, y3, y4, y5, ys)) => ih y2 y3 y4 y5 ys (hl _ hr)
    have hk0 := fun (z2 : Int32) (z3 : Int32) (z4 : Int32) (zs : gs_H) (hr : r = Sum.inr (z2, z3, z4, zs)) => hx0 z2 z3 z4 zs (he _ hr).symm
    unfold b_X9_layOf_10 at h
    try dsimp only at h
    refine x_iload C dX9_layOf_10 5 rfl ?_
    refine x_aload_n C dX9_layOf_12 rfl 0 rfl ?_
    obtain ⟨v1, hv1, h⟩ := Option.bind_eq_some_iff.mp h
    refine x_callV C 57 (m_X9_looseMany hv1) rfl rfl kM_X9_204 kI_X9_looseMany kS_X9_looseMany kN_X9 kC_X9_looseMany kD_X9_looseMany rfl ⟨Nat.le_of_ble_eq_true rfl, Nat.le_of_ble_eq_true rfl⟩ ⟨Nat.le_refl _, Nat.le_refl _⟩ (rest := [.int y5]) rfl (Nat.le_of_ble_eq_true rfl) dX9_layOf_13 (st' := [.int v1, .int y5]) rfl ?_
    obtain ⟨v2, hv2, h⟩ := Option.bind_eq_some_iff.mp h
    refine x_callS C (m_X9_factorial hv2) kM_X9_207 kT_X9_factorial kN_X9 kC_X9_factorial kD_X9_factorial rfl ⟨Nat.le_of_ble_eq_true rfl, Nat.le_of_ble_eq_true rfl⟩ ⟨Nat.le_refl _, Nat.le_refl _⟩ (rest := [.int y5]) rfl (Nat.le_of_ble_eq_true rfl) dX9_layOf_16 (st' := [.int v2, .int y5]) rfl ?_
    by_cases hc3 : v2 ≤ y5
    · replace h := (if_pos hc3).symm.trans h
      refine x_icmp_geT C dX9_layOf_19 (tgt := 75) (by decide) hc3 ?_
      refine x_lv (lv' := [(0, .ref (gs_a E 57)), (1, .int x1), (2, .int y2), (3, .int y3), (4, .int y4)]) [0, 1, 2, 3, 4] rfl ?_
      obtain rfl := Option.some.inj h
      exact hk0 y2 y3 y4 ys rfl
    · replace h := (if_neg hc3).symm.trans h
      refine x_icmp_geF C dX9_layOf_19 (tgt := 75) (by decide) hc3 ?_
      refine x_aload_n C dX9_layOf_22 rfl 0 rfl ?_
      refine x_iload C dX9_layOf_23 5 rfl ?_
      obtain ⟨s4, hv4, h⟩ := Option.bind_eq_some_iff.mp h
      refine x_callV C 57 (m_X9_layOrder hv4) rfl rfl kM_X9_210 kI_X9_layOrder kS_X9_layOrder kN_X9 kC_X9_layOrder kD_X9_layOrder rfl ⟨Nat.le_of_ble_eq_true rfl, Nat.le_of_ble_eq_true rfl⟩ ⟨Nat.le_refl _, Nat.le_refl _⟩ (rest := []) rfl (Nat.le_of_ble_eq_true rfl) dX9_layOf_25 (st' := []) rfl ?_
      refine x_aload_n C dX9_layOf_28 rfl 0 rfl ?_
      obtain ⟨⟨v5, s5⟩, hv5, h⟩ := Option.bind_eq_some_iff.mp h
      try dsimp only at h
      refine x_callV C 57 (m_X9_levelThen hv5) rfl rfl kM_X9_151 kI_X9_levelThen kS_X9_levelThen kN_X9 kC_X9_levelThen kD_X9_levelThen rfl ⟨Nat.le_of_ble_eq_true rfl, Nat.le_of_ble_eq_true rfl⟩ ⟨Nat.le_refl _, Nat.le_refl _⟩ (rest := []) rfl (Nat.le_of_ble_eq_true rfl) dX9_layOf_29 (st' := [.int v5]) rfl ?_
      refine x_istore C dX9_layOf_32 (lv2 := [(0, .ref (gs_a E 57)), (1, .int x1), (2, .int y2), (3, .int y3), (4, .int y4), (5, .int y5), (6, .int v5)]) (by decide) rfl [1, 2, 3, 4, 5, 6, 0] rfl ?_
      refine x_aload_n C dX9_layOf_34 rfl 0 rfl ?_
      obtain ⟨v6, hv6, h⟩ := Option.bind_eq_some_iff.mp h
      refine x_callV C 57 (m_X9_tiltsAll hv6) rfl rfl kM_X9_214 kI_X9_tiltsAll kS_X9_tiltsAll kN_X9 kC_X9_tiltsAll kD_X9_tiltsAll rfl ⟨Nat.le_of_ble_eq_true rfl, Nat.le_of_ble_eq_true rfl⟩ ⟨Nat.le_refl _, Nat.le_refl _⟩ (rest := []) rfl (Nat.le_of_ble_eq_true rfl) dX9_layOf_35 (st' := [.int v6]) rfl ?_
      refine x_istore C dX9_layOf_38 (lv2 := [(0, .ref (gs_a E 57)), (1, .int x1), (2, .int y2), (3, .int y3), (4, .int y4), (5, .int y5), (6, .int v5), (7, .int v6)]) (by decide) rfl [1, 2, 3, 4, 5, 6, 7, 0] rfl ?_
      refine x_iload C dX9_layOf_40 6 rfl ?_
      refine x_iload_n C dX9_layOf_42 rfl 3 rfl ?_
      by_cases hc7 : y3 < v5
      · replace h := (if_pos hc7).symm.trans h
        refine x_icmp_gtT C dX9_layOf_43 (tgt := 59) (by decide) hc7 ?_
        refine x_iload C dX9_layOf_59 5 rfl ?_
        refine x_istore_n C dX9_layOf_61 rfl (lv2 := [(0, .ref (gs_a E 57)), (1, .int x1), (2, .int y5), (3, .int y3), (4, .int y4), (5, .int y5), (6, .int v5), (7, .int v6)]) (by decide) rfl [1, 2, 0, 3, 4, 5, 6, 7] rfl ?_
        refine x_iload C dX9_layOf_62 6 rfl ?_
        refine x_istore_n C dX9_layOf_64 rfl (lv2 := [(0, .ref (gs_a E 57)), (1, .int x1), (2, .int y5), (3, .int v5), (4, .int y4), (5, .int y5), (6, .int v5), (7, .int v6)]) (by decide) rfl [1, 2, 3, 0, 4, 5, 6, 7] rfl ?_
        refine x_iload C dX9_layOf_65 7 rfl ?_
        refine x_istore C dX9_layOf_67 (lv2 := [(0, .ref (gs_a E 57)), (1, .int x1), (2, .int y5), (3, .int v5), (4, .int v6), (5, .int y5), (6, .int v5), (7, .int v6)]) (by decide) rfl [1, 2, 3, 4, 0, 5, 6, 7] rfl ?_
        refine x_iinc C dX9_layOf_69 5 rfl (v := (y5 + (1 : Int32))) rfl (lv2 := [(0, .ref (gs_a E 57)), (1, .int x1), (2, .int y5), (3, .int v5), (4, .int v6), (5, .int (y5 + (1 : Int32))), (6, .int v5), (7, .int v6)]) (by decide) rfl [1, 2, 3, 4, 5, 0, 6, 7] rfl ?_
        refine x_goto C dX9_layOf_72 (tgt := 10) (by decide) ?_
        refine x_lv (lv' := [(0, .ref (gs_a E 57)), (1, .int x1), (2, .int y5), (3, .int v5), (4, .int v6), (5, .int (y5 + (1 : Int32)))]) [0, 1, 2, 3, 4, 5] rfl ?_
        obtain rfl := Option.some.inj h
        exact hc y5 v5 v6 (y5 + (1 : Int32)) s5 rfl
      · replace h := (if_neg hc7).symm.trans h
        refine x_icmp_gtF C dX9_layOf_43 (tgt := 59) (by decide) hc7 ?_
        refine x_iload C dX9_layOf_46 6 rfl ?_
        refine x_iload_n C dX9_layOf_48 rfl 3 rfl ?_
        by_cases hc8 : v5 = y3
        · replace h := (if_pos hc8).symm.trans h
          refine x_icmp_neF C dX9_layOf_49 (tgt := 69) (by decide) hc8 ?_
          refine x_iload C dX9_layOf_52 7 rfl ?_
          refine x_iload C dX9_layOf_54 4 rfl ?_
          by_cases hc9 : y4 ≤ v6
          · replace h := (if_pos hc9).symm.trans h
            refine x_icmp_geT C dX9_layOf_56 (tgt := 69) (by decide) hc9 ?_
            refine x_iinc C dX9_layOf_69 5 rfl (v := (y5 + (1 : Int32))) rfl (lv2 := [(0, .ref (gs_a E 57)), (1, .int x1), (2, .int y2), (3, .int y3), (4, .int y4), (5, .int (y5 + (1 : Int32))), (6, .int v5), (7, .int v6)]) (by decide) rfl [1, 2, 3, 4, 5, 0, 6, 7] rfl ?_
            refine x_goto C dX9_layOf_72 (tgt := 10) (by decide) ?_
            refine x_lv (lv' := [(0, .ref (gs_a E 57)), (1, .int x1), (2, .int y2), (3, .int y3), (4, .int y4), (5, .int (y5 + (1 : Int32)))]) [0, 1, 2, 3, 4, 5] rfl ?_
            obtain rfl := Option.some.inj h
            exact hc y2 y3 y4 (y5 + (1 : Int32)) s5 rfl
          · replace h := (if_neg hc9).symm.trans h
            refine x_icmp_geF C dX9_layOf_56 (tgt := 69) (by decide) hc9 ?_
            refine x_iload C dX9_layOf_59 5 rfl ?_
            refine x_istore_n C dX9_layOf_61 rfl (lv2 := [(0, .ref (gs_a E 57)), (1, .int x1), (2, .int y5), (3, .int y3), (4, .int y4), (5, .int y5), (6, .int v5), (7, .int v6)]) (by decide) rfl [1, 2, 0, 3, 4, 5, 6, 7] rfl ?_
            refine x_iload C dX9_layOf_62 6 rfl ?_
            refine x_istore_n C dX9_layOf_64 rfl (lv2 := [(0, .ref (gs_a E 57)), (1, .int x1), (2, .int y5), (3, .int v5), (4, .int y4), (5, .int y5), (6, .int v5), (7, .int v6)]) (by decide) rfl [1, 2, 3, 0, 4, 5, 6, 7] rfl ?_
            refine x_iload C dX9_layOf_65 7 rfl ?_
            refine x_istore C dX9_layOf_67 (lv2 := [(0, .ref (gs_a E 57)), (1, .int x1), (2, .int y5), (3, .int v5), (4, .int v6), (5, .int y5), (6, .int v5), (7, .int v6)]) (by decide) rfl [1, 2, 3, 4, 0, 5, 6, 7] rfl ?_
            refine x_iinc C dX9_layOf_69 5 rfl (v := (y5 + (1 : Int32))) rfl (lv2 := [(0, .ref (gs_a E 57)), (1, .int x1), (2, .int y5), (3, .int v5), (4, .int v6), (5, .int (y5 + (1 : Int32))), (6, .int v5), (7, .int v6)]) (by decide) rfl [1, 2, 3, 4, 5, 0, 6, 7] rfl ?_
            refine x_goto C dX9_layOf_72 (tgt := 10) (by decide) ?_
            refine x_lv (lv' := [(0, .ref (gs_a E 57)), (1, .int x1), (2, .int y5), (3, .int v5), (4, .int v6), (5, .int (y5 + (1 : Int32)))]) [0, 1, 2, 3, 4, 5] rfl ?_
            obtain rfl := Option.some.inj h
            exact hc y5 v5 v6 (y5 + (1 : Int32)) s5 rfl
        · replace h := (if_neg hc8).symm.trans h
          refine x_icmp_neT C dX9_layOf_49 (tgt := 69) (by decide) hc8 ?_
          refine x_iinc C dX9_layOf_69 5 rfl (v := (y5 + (1 : Int32))) rfl (lv2 := [(0, .ref (gs_a E 57)), (1, .int x1), (2, .int y2), (3, .int y3), (4, .int y4), (5, .int (y5 + (1 : Int32))), (6, .int v5), (7, .int v6)]) (by decide) rfl [1, 2, 3, 4, 5, 0, 6, 7] rfl ?_
          refine x_goto C dX9_layOf_72 (tgt := 10) (by decide) ?_
          refine x_lv (lv' := [(0, .ref (gs_a E 57)), (1, .int x1), (2, .int y2), (3, .int y3), (4, .int y4), (5, .int (y5 + (1 : Int32)))]) [0, 1, 2, 3, 4, 5] rfl ?_
          obtain rfl := Option.some.inj h
          exact hc y2 y3 y4 (y5 + (1 : Int32)) s5 rfl
set_option maxHeartbeats 4000000 in
set_option maxRecDepth 20000 in
theorem m_X9_layOf {E : gs_E} {l : Launch} {x1 : Int32} {σ : gs_H} {g : Int64} {r0 : Int32} {σ0 : gs_H} (h : f_X9_layOf x1 σ = some (r0, σ0)) : gs_M l E yX9_layOf cX9_layOf 8 (some .int) (5, 111) [.ref (gs_a E 57), .int x1] σ g (some (.int r0)) σ0 g := by
  refine x_enter (lv := [(0, .ref (gs_a E 57)), (1, .int x1)]) (by decide +kernel) (Nat.le_of_ble_eq_true rfl) rfl (fun p e s m args below meth c C hr => ?_)
  unfold f_X9_layOf at h
  refine x_iconst C dX9_layOf_0 (v := 0) (by decide) ?_
  refine x_istore_n C dX9_layOf_1 rfl (lv2 := [(0, .ref (gs_a E 57)), (1, .int x1), (2, .int (0 : Int32))]) (by decide) rfl [1, 2, 0] rfl ?_
  refine x_iconst C dX9_layOf_2 (v := -1) (by decide) ?_
  refine x_istore_n C dX9_layOf_3 rfl (lv2 := [(0, .ref (gs_a E 57)), (1, .int x1), (2, .int (0 : Int32)), (3, .int (-1 : Int32))]) (by decide) rfl [1, 2, 3, 0] rfl ?_
  refine x_iconst C dX9_layOf_4 (v := 0) (by decide) ?_
  refine x_istore C dX9_layOf_5 (lv2 := [(0, .ref (gs_a E 57)), (1, .int x1), (2, .int (0 : Int32)), (3, .int (-1 : Int32)), (4, .int (0 : Int32))]) (by decide) rfl [1, 2, 3, 4, 0] rfl ?_
  refine x_iconst C dX9_layOf_7 (v := 0) (by decide) ?_
  refine x_istore C dX9_layOf_8 (lv2 := [(0, .ref (gs_a E 57)), (1, .int x1), (2, .int (0 : Int32)), (3, .int (-1 : Int32)), (4, .int (0 : Int32)), (5, .int (0 : Int32))]) (by decide) rfl [1, 2, 3, 4, 5, 0] rfl ?_
  obtain ⟨q1, hq1, h⟩ := Option.bind_eq_some_iff.mp h
  refine wl_X9_layOf_10 C (fun v1_0_2 v1_0_3 v1_0_4 s1_0 hz => ?_) 1000 _ _ _ _ _ hq1
  subst q1
  try dsimp only at h
  refine x_iload_n C dX9_layOf_75 rfl 1 rfl ?_
  refine x_iconst C dX9_layOf_76 (v := 2) (by decide) ?_
  by_cases hc2 : (2 : Int32) ≤ x1
  · replace h := (if_pos hc2).symm.trans h
    refine x_icmp_geT C dX9_layOf_77 (tgt := 91) (by decide) hc2 ?_
    refine x_aload_n C dX9_layOf_91 rfl 0 rfl ?_
    refine x_iload_n C dX9_layOf_92 rfl 2 rfl ?_
    obtain ⟨s3, hv3, h⟩ := Option.bind_eq_some_iff.mp h
    refine x_callV C 57 (m_X9_layOrder hv3) rfl rfl kM_X9_210 kI_X9_layOrder kS_X9_layOrder kN_X9 kC_X9_layOrder kD_X9_layOrder rfl ⟨Nat.le_of_ble_eq_true rfl, Nat.le_of_ble_eq_true rfl⟩ ⟨Nat.le_refl _, Nat.le_refl _⟩ (rest := []) rfl (Nat.le_of_ble_eq_true rfl) dX9_layOf_93 (st' := []) rfl ?_
    refine x_iload_n C dX9_layOf_96 rfl 1 rfl ?_
    refine x_bipush C dX9_layOf_97 (v := 10) (by decide) ?_
    refine x_isub C dX9_layOf_99 ?_
    refine x_istore C dX9_layOf_100 (lv2 := [(0, .ref (gs_a E 57)), (1, .int x1), (2, .int v1_0_2), (3, .int v1_0_3), (4, .int v1_0_4), (5, .int (x1 - (10 : Int32)))]) (by decide) rfl [1, 2, 3, 4, 5, 0] rfl ?_
    refine x_iload C dX9_layOf_102 5 rfl ?_
    refine x_aload_n C dX9_layOf_104 rfl 0 rfl ?_
    refine x_geti C 57 rfl rfl inX9 5 (by decide) rfl kF_X9_107 rfl (v := (s3 57 5)) rfl dX9_layOf_105 ?_
    by_cases hc4 : (s3 57 5) ≤ (x1 - (10 : Int32))
    · replace h := (if_pos hc4).symm.trans h
      refine x_icmp_geT C dX9_layOf_108 (tgt := 135) (by decide) hc4 ?_
      refine x_iconst C dX9_layOf_135 (v := -1) (by decide) ?_
      replace h := Option.some.inj h
      obtain ⟨rfl, rfl⟩ := Prod.mk.inj h
      exact x_ret C hr rfl rfl dX9_layOf_136
    · replace h := (if_neg hc4).symm.trans h
      refine x_icmp_geF C dX9_layOf_108 (tgt := 135) (by decide) hc4 ?_
      refine x_aload_n C dX9_layOf_111 rfl 0 rfl ?_
      refine x_aload_n C dX9_layOf_112 rfl 0 rfl ?_
      refine x_getr C 57 rfl rfl inX9 15 (by decide) rfl kF_X9_28 rfl dX9_layOf_113 ?_
      refine x_iload C dX9_layOf_116 5 rfl ?_
      obtain ⟨hb5, h⟩ := ck_some h
      refine x_iald C 64 rfl hb5 (v := (s3 64 (x1 - (10 : Int32)).toNatClampNeg)) rfl dX9_layOf_118 ?_
      refine x_callV C 57 (m_X9_isCut rfl) rfl rfl kM_X9_186 kI_X9_isCut kS_X9_isCut kN_X9 kC_X9_isCut kD_X9_isCut rfl ⟨Nat.le_of_ble_eq_true rfl, Nat.le_of_ble_eq_true rfl⟩ ⟨Nat.le_refl _, Nat.le_refl _⟩ (rest := []) rfl (Nat.le_of_ble_eq_true rfl) dX9_layOf_119 (st' := [.int (f_X9_isCut (s3 64 (x1 - (10 : Int32)).toNatClampNeg) s3)]) rfl ?_
      by_cases hc7 : (f_X9_isCut (s3 64 (x1 - (10 : Int32)).toNatClampNeg) s3) = 0
      · replace h := (if_pos hc7).symm.trans h
        refine x_if_neF C dX9_layOf_122 (tgt := 135) (by decide) hc7 ?_
        refine x_aload_n C dX9_layOf_125 rfl 0 rfl ?_
        refine x_getr C 57 rfl rfl inX9 16 (by decide) rfl kF_X9_31 rfl dX9_layOf_126 ?_
        refine x_iload C dX9_layOf_129 5 rfl ?_
        obtain ⟨hb8, h⟩ := ck_some h
        refine x_iald C 65 rfl hb8 (v := (s3 65 (x1 - (10 : Int32)).toNatClampNeg)) rfl dX9_layOf_131 ?_
        refine x_goto C dX9_layOf_132 (tgt := 136) (by decide) ?_
        replace h := Option.some.inj h
        obtain ⟨rfl, rfl⟩ := Prod.mk.inj h
        exact x_ret C hr rfl rfl dX9_layOf_136
      · replace h := (if_neg hc7).symm.trans h
        refine x_if_neT C dX9_layOf_122 (tgt := 135) (by decide) hc7 ?_
        refine x_iconst C dX9_layOf_135 (v := -1) (by decide) ?_
        replace h := Option.some.inj h
        obtain ⟨rfl, rfl⟩ := Prod.mk.inj h
        exact x_ret C hr rfl rfl dX9_layOf_136
  · replace h := (if_neg hc2).symm.trans h
    refine x_icmp_geF C dX9_layOf_77 (tgt := 91) (by decide) hc2 ?_
    refine x_iload_n C dX9_layOf_80 rfl 1 rfl ?_
    by_cases hc9 : x1 = 0
    · replace h := (if_pos hc9).symm.trans h
      refine x_if_neF C dX9_layOf_81 (tgt := 88) (by decide) hc9 ?_
      refine x_iload_n C dX9_layOf_84 rfl 3 rfl ?_
      refine x_goto C dX9_layOf_85 (tgt := 90) (by decide) ?_
      replace h := Option.some.inj h
      obtain ⟨rfl, rfl⟩ := Prod.mk.inj h
      exact x_ret C hr rfl rfl dX9_layOf_90
    · replace h := (if_neg hc9).symm.trans h
      refine x_if_neT C dX9_layOf_81 (tgt := 88) (by decide) hc9 ?_
      refine x_iload C dX9_layOf_88 4 rfl ?_
      replace h := Option.some.inj h
      obtain ⟨rfl, rfl⟩ := Prod.mk.inj h
      exact x_ret C hr rfl rfl dX9_layOf_90
def j_X9_lay_27 (x1 : Int32) (σ : gs_H) : Option (Int32 × gs_H) :=
if (f_X9_lacks σ) = 0 then (
if (σ 57 20) = (20 : Int32) then (
some ((-103 : Int32), σ))
else (
(f_X9_layOf x1 (up2 σ 57 20 ((σ 57 20) + (1 : Int32)))).bind fun q8 =>
some (q8.1, q8.2)))
else (
some ((-103 : Int32), σ))
def f_X9_lay (x1 : Int32) (σ : gs_H) : Option (Int32 × gs_H) :=
if (f_X9_in x1.toInt64 (0 : Int64) (1 : Int64)) = 0 then (
if (f_X9_in x1.toInt64 (10 : Int64) (15 : Int64)) = 0 then (
some ((-102 : Int32), σ))
else (
j_X9_lay_27 x1 σ))
else (
j_X9_lay_27 x1 σ)
set_option maxHeartbeats 4000000 in
set_option maxRecDepth 20000 in
theorem wj_X9_lay_27 {E : gs_E} {l : Launch} {p : Program} {e : Env} {s : State} {m : MethodId} {args : Array Value} {below : List Frame} {meth : Method} {c : Code} (C : gs_X E RX9 cX9_lay 2 p s m args meth c) {x1 : Int32} {σ : gs_H} {g : Int64} {r0 : Int32} {σ0 : gs_H} (hr : meth.sig.returnType = some .int) (h : j_X9_lay_27 x1 σ = some (r0, σ0)) : gs_V E 2 (6, 138) p l e s m args below meth c (some (.int r0)) σ0 g 27 [(0, .ref (gs_a E 57)), (1, .int x1)] [] σ g := by
  unfold j_X9_lay_27 at h
  refine x_aload_n C dX9_lay_27 rfl 0 rfl ?_
  refine x_callV C 57 (m_X9_lacks rfl) rfl rfl kM_X9_182 kI_X9_lacks kS_X9_lacks kN_X9 kC_X9_lacks kD_X9_lacks rfl ⟨Nat.le_of_ble_eq_true rfl, Nat.le_of_ble_eq_true rfl⟩ ⟨Nat.le_refl _, Nat.le_refl _⟩ (rest := []) rfl (Nat.le_of_ble_eq_true rfl) dX9_lay_28 (st' := [.int (f_X9_lacks σ)]) rfl ?_
  by_cases hc2 : (f_X9_lacks σ) = 0
  · replace h := (if_pos hc2).symm.trans h
    refine x_if_neF C dX9_lay_31 (tgt := 43) (by decide) hc2 ?_
    refine x_aload_n C dX9_lay_34 rfl 0 rfl ?_
    refine x_geti C 57 rfl rfl inX9 20 (by decide) rfl kF_X9_221 rfl (v := (σ 57 20)) rfl dX9_lay_35 ?_
    refine x_bipush C dX9_lay_38 (v := 20) (by decide) ?_
    by_cases hc3 : (σ 57 20) = (20 : Int32)
    · replace h := (if_pos hc3).symm.trans h
      refine x_icmp_neF C dX9_lay_40 (tgt := 46) (by decide) hc3 ?_
      refine x_bipush C dX9_lay_43 (v := -103) (by decide) ?_
      replace h := Option.some.inj h
      obtain ⟨rfl, rfl⟩ := Prod.mk.inj h
      exact x_ret C hr rfl rfl dX9_lay_45
    · replace h := (if_neg hc3).symm.trans h
      refine x_icmp_neT C dX9_lay_40 (tgt := 46) (by decide) hc3 ?_
      refine x_aload_n C dX9_lay_46 rfl 0 rfl ?_
      refine x_dup C dX9_lay_47 rfl ?_
      refine x_geti C 57 rfl rfl inX9 20 (by decide) rfl kF_X9_221 rfl (v := (σ 57 20)) rfl dX9_lay_48 ?_
      refine x_iconst C dX9_lay_51 (v := 1) (by decide) ?_
      refine x_iadd C dX9_lay_52 ?_
      refine x_puti C 57 rfl rfl inX9 tyX9 tyX9_ok nmX9 20 (by decide) rfl kF_X9_221 rfl rfl rfl rfl dX9_lay_53 ?_
      refine x_aload_n C dX9_lay_56 rfl 0 rfl ?_
      refine x_iload_n C dX9_lay_57 rfl 1 rfl ?_
      obtain ⟨⟨v4, s4⟩, hv4, h⟩ := Option.bind_eq_some_iff.mp h
      try dsimp only at h
      refine x_callV C 57 (m_X9_layOf hv4) rfl rfl kM_X9_224 kI_X9_layOf kS_X9_layOf kN_X9 kC_X9_layOf kD_X9_layOf rfl ⟨Nat.le_of_ble_eq_true rfl, Nat.le_of_ble_eq_true rfl⟩ ⟨Nat.le_refl _, Nat.le_refl _⟩ (rest := []) rfl (Nat.le_of_ble_eq_true rfl) dX9_lay_58 (st' := [.int v4]) rfl ?_
      replace h := Option.some.inj h
      obtain ⟨rfl, rfl⟩ := Prod.mk.inj h
      exact x_ret C hr rfl rfl dX9_lay_61
  · replace h := (if_neg hc2).symm.trans h
    refine x_if_neT C dX9_lay_31 (tgt := 43) (by decide) hc2 ?_
    refine x_bipush C dX9_lay_43 (v := -103) (by decide) ?_
    replace h := Option.some.inj h
    obtain ⟨rfl, rfl⟩ := Prod.mk.inj h
    exact x_ret C hr rfl rfl dX9_lay_45
set_option maxHeartbeats 4000000 in
set_option maxRecDepth 20000 in
theorem m_X9_lay {E : gs_E} {l : Launch} {x1 : Int32} {σ : gs_H} {g : Int64} {r0 : Int32} {σ0 : gs_H} (h : f_X9_lay x1 σ = some (r0, σ0)) : gs_M l E yX9_lay cX9_lay 2 (some .int) (6, 138) [.ref (gs_a E 57), .int x1] σ g (some (.int r0)) σ0 g := by
  refine x_enter (lv := [(0, .ref (gs_a E 57)), (1, .int x1)]) (by decide +kernel) (Nat.le_of_ble_eq_true rfl) rfl (fun p e s m args below meth c C hr => ?_)
  unfold f_X9_lay at h
  refine x_iload_n C dX9_lay_0 rfl 1 rfl ?_
  refine x_i2l C dX9_lay_1 ?_
  refine x_lconst C dX9_lay_2 (v := 0) (by decide) ?_
  refine x_lconst C dX9_lay_3 (v := 1) (by decide) ?_
  refine x_callS C (m_X9_in rfl) kM_X9_64 kT_X9_in kN_X9 kC_X9_in kD_X9_in rfl ⟨Nat.le_of_ble_eq_true rfl, Nat.le_of_ble_eq_true rfl⟩ ⟨Nat.le_refl _, Nat.le_refl _⟩ (rest := []) rfl (Nat.le_of_ble_eq_true rfl) dX9_lay_4 (st' := [.int (f_X9_in x1.toInt64 (0 : Int64) (1 : Int64))]) rfl ?_
  by_cases hc2 : (f_X9_in x1.toInt64 (0 : Int64) (1 : Int64)) = 0
  · replace h := (if_pos hc2).symm.trans h
    refine x_if_neF C dX9_lay_7 (tgt := 27) (by decide) hc2 ?_
    refine x_iload_n C dX9_lay_10 rfl 1 rfl ?_
    refine x_i2l C dX9_lay_11 ?_
    refine x_ldc2 C kK_X9_217 dX9_lay_12 ?_
    refine x_ldc2 C kK_X9_219 dX9_lay_15 ?_
    refine x_callS C (m_X9_in rfl) kM_X9_64 kT_X9_in kN_X9 kC_X9_in kD_X9_in rfl ⟨Nat.le_of_ble_eq_true rfl, Nat.le_of_ble_eq_true rfl⟩ ⟨Nat.le_refl _, Nat.le_refl _⟩ (rest := []) rfl (Nat.le_of_ble_eq_true rfl) dX9_lay_18 (st' := [.int (f_X9_in x1.toInt64 (10 : Int64) (15 : Int64))]) rfl ?_
    by_cases hc4 : (f_X9_in x1.toInt64 (10 : Int64) (15 : Int64)) = 0
    · replace h := (if_pos hc4).symm.trans h
      refine x_if_neF C dX9_lay_21 (tgt := 27) (by decide) hc4 ?_
      refine x_bipush C dX9_lay_24 (v := -102) (by decide) ?_
      replace h := Option.some.inj h
      obtain ⟨rfl, rfl⟩ := Prod.mk.inj h
      exact x_ret C hr rfl rfl dX9_lay_26
    · replace h := (if_neg hc4).symm.trans h
      refine x_if_neT C dX9_lay_21 (tgt := 27) (by decide) hc4 ?_
      exact wj_X9_lay_27 C hr h
  · replace h := (if_neg hc2).symm.trans h
    refine x_if_neT C dX9_lay_7 (tgt := 27) (by decide) hc2 ?_
    exact wj_X9_lay_27 C hr h
def f_X9_letter (x1 : Int32) (σ : gs_H) : Option (Int32 × gs_H) :=
if (f_X9_in x1.toInt64 (1 : Int64) (126 : Int64)) = 0 then (
some ((-102 : Int32), σ))
else (
if (σ 57 1) = (46 : Int32) then (
some ((-104 : Int32), σ))
else (
if inb (σ 57 1) 46 then
some (((σ 57 1) + (1 : Int32)), (up2 (up2 σ 58 (σ 57 1).toNatClampNeg x1) 57 1 ((σ 57 1) + (1 : Int32)))) else none))
set_option maxHeartbeats 4000000 in
set_option maxRecDepth 20000 in
theorem m_X9_letter {E : gs_E} {l : Launch} {x1 : Int32} {σ : gs_H} {g : Int64} {r0 : Int32} {σ0 : gs_H} (h : f_X9_letter x1 σ = some (r0, σ0)) : gs_M l E yX9_letter cX9_letter 2 (some .int) (1, 25) [.ref (gs_a E 57), .int x1] σ g (some (.int r0)) σ0 g := by
  refine x_enter (lv := [(0, .ref (gs_a E 57)), (1, .int x1)]) (by decide +kernel) (Nat.le_of_ble_eq_true rfl) rfl (fun p e s m args below meth c C hr => ?_)
  unfold f_X9_letter at h
  refine x_iload_n C dX9_letter_0 rfl 1 rfl ?_
  refine x_i2l C dX9_letter_1 ?_
  refine x_lconst C dX9_letter_2 (v := 1) (by decide) ?_
  refine x_ldc2 C kK_X9_62 dX9_letter_3 ?_
  refine x_callS C (m_X9_in rfl) kM_X9_64 kT_X9_in kN_X9 kC_X9_in kD_X9_in rfl ⟨Nat.le_of_ble_eq_true rfl, Nat.le_of_ble_eq_true rfl⟩ ⟨Nat.le_refl _, Nat.le_refl _⟩ (rest := []) rfl (Nat.le_of_ble_eq_true rfl) dX9_letter_6 (st' := [.int (f_X9_in x1.toInt64 (1 : Int64) (126 : Int64))]) rfl ?_
  by_cases hc2 : (f_X9_in x1.toInt64 (1 : Int64) (126 : Int64)) = 0
  · replace h := (if_pos hc2).symm.trans h
    refine x_if_neF C dX9_letter_9 (tgt := 15) (by decide) hc2 ?_
    refine x_bipush C dX9_letter_12 (v := -102) (by decide) ?_
    replace h := Option.some.inj h
    obtain ⟨rfl, rfl⟩ := Prod.mk.inj h
    exact x_ret C hr rfl rfl dX9_letter_14
  · replace h := (if_neg hc2).symm.trans h
    refine x_if_neT C dX9_letter_9 (tgt := 15) (by decide) hc2 ?_
    refine x_aload_n C dX9_letter_15 rfl 0 rfl ?_
    refine x_geti C 57 rfl rfl inX9 1 (by decide) rfl kF_X9_68 rfl (v := (σ 57 1)) rfl dX9_letter_16 ?_
    refine x_bipush C dX9_letter_19 (v := 46) (by decide) ?_
    by_cases hc3 : (σ 57 1) = (46 : Int32)
    · replace h := (if_pos hc3).symm.trans h
      refine x_icmp_neF C dX9_letter_21 (tgt := 27) (by decide) hc3 ?_
      refine x_bipush C dX9_letter_24 (v := -104) (by decide) ?_
      replace h := Option.some.inj h
      obtain ⟨rfl, rfl⟩ := Prod.mk.inj h
      exact x_ret C hr rfl rfl dX9_letter_26
    · replace h := (if_neg hc3).symm.trans h
      refine x_icmp_neT C dX9_letter_21 (tgt := 27) (by decide) hc3 ?_
      refine x_aload_n C dX9_letter_27 rfl 0 rfl ?_
      refine x_getr C 57 rfl rfl inX9 0 (by decide) rfl kF_X9_7 rfl dX9_letter_28 ?_
      refine x_aload_n C dX9_letter_31 rfl 0 rfl ?_
      refine x_geti C 57 rfl rfl inX9 1 (by decide) rfl kF_X9_68 rfl (v := (σ 57 1)) rfl dX9_letter_32 ?_
      refine x_iload_n C dX9_letter_35 rfl 1 rfl ?_
      obtain ⟨hb4, h⟩ := ck_some h
      refine x_iast C 58 rfl hb4 dX9_letter_36 ?_
      refine x_aload_n C dX9_letter_37 rfl 0 rfl ?_
      refine x_dup C dX9_letter_38 rfl ?_
      refine x_geti C 57 rfl rfl inX9 1 (by decide) rfl kF_X9_68 rfl (v := (σ 57 1)) rfl dX9_letter_39 ?_
      refine x_iconst C dX9_letter_42 (v := 1) (by decide) ?_
      refine x_iadd C dX9_letter_43 ?_
      refine x_puti C 57 rfl rfl inX9 tyX9 tyX9_ok nmX9 1 (by decide) rfl kF_X9_68 rfl rfl rfl rfl dX9_letter_44 ?_
      refine x_aload_n C dX9_letter_47 rfl 0 rfl ?_
      refine x_geti C 57 rfl rfl inX9 1 (by decide) rfl kF_X9_68 rfl (v := ((σ 57 1) + (1 : Int32))) rfl dX9_letter_48 ?_
      replace h := Option.some.inj h
      obtain ⟨rfl, rfl⟩ := Prod.mk.inj h
      exact x_ret C hr rfl rfl dX9_letter_51
def f_X9_mend (σ : gs_H) : Option (Int32 × gs_H) :=
(f_X9_ones (σ 57 9)).bind fun q1 =>
(f_X9_ones (σ 57 8)).bind fun q2 =>
some ((q1 + q2), (up2 (up2 σ 57 9 (0 : Int32)) 57 8 (0 : Int32)))
set_option maxHeartbeats 4000000 in
set_option maxRecDepth 20000 in
theorem m_X9_mend {E : gs_E} {l : Launch} {σ : gs_H} {g : Int64} {r0 : Int32} {σ0 : gs_H} (h : f_X9_mend σ = some (r0, σ0)) : gs_M l E yX9_mend cX9_mend 2 (some .int) (1, 22) [.ref (gs_a E 57)] σ g (some (.int r0)) σ0 g := by
  refine x_enter (lv := [(0, .ref (gs_a E 57))]) (by decide +kernel) (Nat.le_of_ble_eq_true rfl) rfl (fun p e s m args below meth c C hr => ?_)
  unfold f_X9_mend at h
  refine x_aload_n C dX9_mend_0 rfl 0 rfl ?_
  refine x_geti C 57 rfl rfl inX9 9 (by decide) rfl kF_X9_116 rfl (v := (σ 57 9)) rfl dX9_mend_1 ?_
  obtain ⟨v1, hv1, h⟩ := Option.bind_eq_some_iff.mp h
  refine x_callS C (m_X9_ones hv1) kM_X9_196 kT_X9_ones kN_X9 kC_X9_ones kD_X9_ones rfl ⟨Nat.le_of_ble_eq_true rfl, Nat.le_of_ble_eq_true rfl⟩ ⟨Nat.le_refl _, Nat.le_refl _⟩ (rest := []) rfl (Nat.le_of_ble_eq_true rfl) dX9_mend_4 (st' := [.int v1]) rfl ?_
  refine x_aload_n C dX9_mend_7 rfl 0 rfl ?_
  refine x_geti C 57 rfl rfl inX9 8 (by decide) rfl kF_X9_113 rfl (v := (σ 57 8)) rfl dX9_mend_8 ?_
  obtain ⟨v2, hv2, h⟩ := Option.bind_eq_some_iff.mp h
  refine x_callS C (m_X9_ones hv2) kM_X9_196 kT_X9_ones kN_X9 kC_X9_ones kD_X9_ones rfl ⟨Nat.le_of_ble_eq_true rfl, Nat.le_of_ble_eq_true rfl⟩ ⟨Nat.le_refl _, Nat.le_refl _⟩ (rest := [.int v1]) rfl (Nat.le_of_ble_eq_true rfl) dX9_mend_11 (st' := [.int v2, .int v1]) rfl ?_
  refine x_iadd C dX9_mend_14 ?_
  refine x_istore_n C dX9_mend_15 rfl (lv2 := [(0, .ref (gs_a E 57)), (1, .int (v1 + v2))]) (by decide) rfl [1, 0] rfl ?_
  refine x_aload_n C dX9_mend_16 rfl 0 rfl ?_
  refine x_iconst C dX9_mend_17 (v := 0) (by decide) ?_
  refine x_puti C 57 rfl rfl inX9 tyX9 tyX9_ok nmX9 9 (by decide) rfl kF_X9_116 rfl rfl rfl rfl dX9_mend_18 ?_
  refine x_aload_n C dX9_mend_21 rfl 0 rfl ?_
  refine x_iconst C dX9_mend_22 (v := 0) (by decide) ?_
  refine x_puti C 57 rfl rfl inX9 tyX9 tyX9_ok nmX9 8 (by decide) rfl kF_X9_113 rfl rfl rfl rfl dX9_mend_23 ?_
  refine x_iload_n C dX9_mend_26 rfl 1 rfl ?_
  replace h := Option.some.inj h
  obtain ⟨rfl, rfl⟩ := Prod.mk.inj h
  exact x_ret C hr rfl rfl dX9_mend_27
def b_X9_mobile_183 (y : Int32 × gs_H) : Option ((Int32 × gs_H) ⊕ ((gs_H))) :=
if (y.2 57 5) ≤ y.1 then (
some (Sum.inr y.2))
else (
if inb (((y.2 57 2) + (1 : Int32)) + ((3 : Int32) * y.1)) 46 then
if inb y.1 6 then
if inb (((y.2 57 2) + (2 : Int32)) + ((3 : Int32) * y.1)) 46 then
if inb y.1 6 then
if inb y.1 6 then
some (Sum.inl ((y.1 + (1 : Int32)), (up2 (up2 (up2 y.2 62 y.1.toNatClampNeg (f_X9_kindBy (y.2 58 (((y.2 57 2) + (1 : Int32)) + ((3 : Int32) * y.1)).toNatClampNeg))) 63 y.1.toNatClampNeg ((y.2 58 (((y.2 57 2) + (2 : Int32)) + ((3 : Int32) * y.1)).toNatClampNeg) - (48 : Int32))) 64 y.1.toNatClampNeg y.1))) else none else none else none else none else none)
def j_X9_mobile_150 (x2 : Int32) (x3 : Int32) (x4 : Int32) (t1 : Int32) (t2 : Int32) (σ : gs_H) : Option ((Int32 × Int32 × gs_H) ⊕ ((gs_H))) :=
if inb t1 10 then
if inb (x4 + (1 : Int32)) 46 then
if (σ 58 (x4 + (1 : Int32)).toNatClampNeg) = (42 : Int32) then (
if inb x2 6 then
some (Sum.inl ((x2 + (1 : Int32)), (x3 + (1 : Int32)), (up2 (up2 σ 60 t1.toNatClampNeg t2) 61 x2.toNatClampNeg x3))) else none)
else (
some (Sum.inl (x2, (x3 + (1 : Int32)), (up2 σ 60 t1.toNatClampNeg t2)))) else none else none
def b_X9_mobile_73 (y : Int32 × Int32 × gs_H) : Option ((Int32 × Int32 × gs_H) ⊕ ((gs_H))) :=
if ((2 : Int32) * (y.2.2 57 4)) ≤ y.2.1 then (
some (Sum.inr y.2.2))
else (
if inb (((5 : Int32) * (y.2.1 / (2 : Int32))) + ((2 : Int32) * (y.2.1 - y.2.1 / (2 : Int32) * (2 : Int32)))) 46 then
if inb y.2.1 10 then
if inb ((((5 : Int32) * (y.2.1 / (2 : Int32))) + ((2 : Int32) * (y.2.1 - y.2.1 / (2 : Int32) * (2 : Int32)))) + (1 : Int32)) 46 then
if (y.2.2 58 ((((5 : Int32) * (y.2.1 / (2 : Int32))) + ((2 : Int32) * (y.2.1 - y.2.1 / (2 : Int32) * (2 : Int32)))) + (1 : Int32)).toNatClampNeg) = (42 : Int32) then (
j_X9_mobile_150 y.1 y.2.1 (((5 : Int32) * (y.2.1 / (2 : Int32))) + ((2 : Int32) * (y.2.1 - y.2.1 / (2 : Int32) * (2 : Int32)))) y.2.1 ((10 : Int32) + y.1) (up2 y.2.2 59 y.2.1.toNatClampNeg ((y.2.2 58 (((5 : Int32) * (y.2.1 / (2 : Int32))) + ((2 : Int32) * (y.2.1 - y.2.1 / (2 : Int32) * (2 : Int32)))).toNatClampNeg) - (48 : Int32))))
else (
if inb ((((5 : Int32) * (y.2.1 / (2 : Int32))) + ((2 : Int32) * (y.2.1 - y.2.1 / (2 : Int32) * (2 : Int32)))) + (1 : Int32)) 46 then
j_X9_mobile_150 y.1 y.2.1 (((5 : Int32) * (y.2.1 / (2 : Int32))) + ((2 : Int32) * (y.2.1 - y.2.1 / (2 : Int32) * (2 : Int32)))) y.2.1 ((y.2.2 58 ((((5 : Int32) * (y.2.1 / (2 : Int32))) + ((2 : Int32) * (y.2.1 - y.2.1 / (2 : Int32) * (2 : Int32)))) + (1 : Int32)).toNatClampNeg) - (48 : Int32)) (up2 y.2.2 59 y.2.1.toNatClampNeg ((y.2.2 58 (((5 : Int32) * (y.2.1 / (2 : Int32))) + ((2 : Int32) * (y.2.1 - y.2.1 / (2 : Int32) * (2 : Int32)))).toNatClampNeg) - (48 : Int32))) else none) else none else none else none)
def f_X9_mobile (σ : gs_H) : Option (Int32 × gs_H) :=
(f_X9_faultOf σ).bind fun q1 =>
if q1.1 < (q1.2 57 1) then (
some ((-103 : Int32), q1.2))
else (
if (q1.2 57 2) = 0 then (
some ((-103 : Int32), q1.2))
else (
if ((q1.2 57 1) - (q1.2 57 2)) = ((3 : Int32) * ((((q1.2 57 2) + (1 : Int32)) / (5 : Int32)) + (1 : Int32))) then (
(lp (b_X9_mobile_73) 1000 ((0 : Int32), (0 : Int32), (up2 (up2 q1.2 57 4 (((q1.2 57 2) + (1 : Int32)) / (5 : Int32))) 57 5 ((((q1.2 57 2) + (1 : Int32)) / (5 : Int32)) + (1 : Int32))))).bind fun q5 =>
(lp (b_X9_mobile_183) 1000 ((0 : Int32), q5)).bind fun q6 =>
some ((q6 57 5), (up2 (up2 (up2 (up2 (up2 (up2 q6 57 6 (0 : Int32)) 57 8 (0 : Int32)) 57 9 (0 : Int32)) 57 21 (0 : Int32)) 57 7 ((q6 57 7) + (1 : Int32))) 57 1 (0 : Int32))))
else (
some ((-103 : Int32), q1.2))))
set_option maxHeartbeats 4000000 in
set_option maxRecDepth 20000 in
theorem wl_X9_mobile_183 {E : gs_E} {l : Launch} {p : Program} {e : Env} {s : State} {m : MethodId} {args : Array Value} {below : List Frame} {meth : Method} {c : Code} (C : gs_X E RX9 cX9_mobile 5 p s m args meth c) {ov : Option Value} {σ0 : gs_H} {g0 : Int64} {g : Int64} {q : (gs_H)} (hx0 : ∀ (zs : gs_H), q = zs → gs_V E 5 (4, 93) p l e s m args below meth c ov σ0 g0 252 [(0, .ref (gs_a E 57))] [] zs g) : ∀ (n : Nat) (y3 : Int32) (ys : gs_H), lp (b_X9_mobile_183) n (y3, ys) = some q → gs_V E 5 (4, 93) p l e s m args below meth c ov σ0 g0 183 [(0, .ref (gs_a E 57)), (3, .int y3)] [] ys g := by
  intro n
  induction n with
  | zero => intro y3 ys h; cases h
  | succ n ih =>
    intro y3 ys h
    obtain ⟨r, h, hl, he⟩ := lp_step h
    have hc := fun (y3 : Int32) (ys : gs_H) (hr : r = Sum.inl (y3, ys)) => ih y3 ys (hl _ hr)
    have hk0 := fun (zs : gs_H) (hr : r = Sum.inr zs) => hx0 zs (he _ hr).symm
    unfold b_X9_mobile_183 at h
    try dsimp only at h
    refine x_iload_n C dX9_mobile_183 rfl 1 rfl ?_
    refine x_aload_n C dX9_mobile_184 rfl 0 rfl ?_
    refine x_geti C 57 rfl rfl inX9 5 (by decide) rfl kF_X9_107 rfl (v := (ys 57 5)) rfl dX9_mobile_185 ?_
    by_cases hc1 : (ys 57 5) ≤ y3
    · replace h := (if_pos hc1).symm.trans h
      refine x_icmp_geT C dX9_mobile_188 (tgt := 252) (by decide) hc1 ?_
      refine x_lv (lv' := [(0, .ref (gs_a E 57))]) [0] rfl ?_
      obtain rfl := Option.some.inj h
      exact hk0 ys rfl
    · replace h := (if_neg hc1).symm.trans h
      refine x_icmp_geF C dX9_mobile_188 (tgt := 252) (by decide) hc1 ?_
      refine x_aload_n C dX9_mobile_191 rfl 0 rfl ?_
      refine x_getr C 57 rfl rfl inX9 13 (by decide) rfl kF_X9_22 rfl dX9_mobile_192 ?_
      refine x_iload_n C dX9_mobile_195 rfl 1 rfl ?_
      refine x_aload_n C dX9_mobile_196 rfl 0 rfl ?_
      refine x_getr C 57 rfl rfl inX9 0 (by decide) rfl kF_X9_7 rfl dX9_mobile_197 ?_
      refine x_aload_n C dX9_mobile_200 rfl 0 rfl ?_
      refine x_geti C 57 rfl rfl inX9 2 (by decide) rfl kF_X9_84 rfl (v := (ys 57 2)) rfl dX9_mobile_201 ?_
      refine x_iconst C dX9_mobile_204 (v := 1) (by decide) ?_
      refine x_iadd C dX9_mobile_205 ?_
      refine x_iconst C dX9_mobile_206 (v := 3) (by decide) ?_
      refine x_iload_n C dX9_mobile_207 rfl 1 rfl ?_
      refine x_imul C dX9_mobile_208 ?_
      refine x_iadd C dX9_mobile_209 ?_
      obtain ⟨hb2, h⟩ := ck_some h
      refine x_iald C 58 rfl hb2 (v := (ys 58 (((ys 57 2) + (1 : Int32)) + ((3 : Int32) * y3)).toNatClampNeg)) rfl dX9_mobile_210 ?_
      refine x_callS C (m_X9_kindBy rfl) kM_X9_87 kT_X9_kindBy kN_X9 kC_X9_kindBy kD_X9_kindBy rfl ⟨Nat.le_of_ble_eq_true rfl, Nat.le_of_ble_eq_true rfl⟩ ⟨Nat.le_refl _, Nat.le_refl _⟩ (rest := [.int y3, .ref (gs_a E 62)]) rfl (Nat.le_of_ble_eq_true rfl) dX9_mobile_211 (st' := [.int (f_X9_kindBy (ys 58 (((ys 57 2) + (1 : Int32)) + ((3 : Int32) * y3)).toNatClampNeg)), .int y3, .ref (gs_a E 62)]) rfl ?_
      obtain ⟨hb4, h⟩ := ck_some h
      refine x_iast C 62 rfl hb4 dX9_mobile_214 ?_
      refine x_aload_n C dX9_mobile_215 rfl 0 rfl ?_
      refine x_getr C 57 rfl rfl inX9 14 (by decide) rfl kF_X9_25 rfl dX9_mobile_216 ?_
      refine x_iload_n C dX9_mobile_219 rfl 1 rfl ?_
      refine x_aload_n C dX9_mobile_220 rfl 0 rfl ?_
      refine x_getr C 57 rfl rfl inX9 0 (by decide) rfl kF_X9_7 rfl dX9_mobile_221 ?_
      refine x_aload_n C dX9_mobile_224 rfl 0 rfl ?_
      refine x_geti C 57 rfl rfl inX9 2 (by decide) rfl kF_X9_84 rfl (v := (ys 57 2)) rfl dX9_mobile_225 ?_
      refine x_iconst C dX9_mobile_228 (v := 2) (by decide) ?_
      refine x_iadd C dX9_mobile_229 ?_
      refine x_iconst C dX9_mobile_230 (v := 3) (by decide) ?_
      refine x_iload_n C dX9_mobile_231 rfl 1 rfl ?_
      refine x_imul C dX9_mobile_232 ?_
      refine x_iadd C dX9_mobile_233 ?_
      obtain ⟨hb5, h⟩ := ck_some h
      refine x_iald C 58 rfl hb5 (v := (ys 58 (((ys 57 2) + (2 : Int32)) + ((3 : Int32) * y3)).toNatClampNeg)) rfl dX9_mobile_234 ?_
      refine x_bipush C dX9_mobile_235 (v := 48) (by decide) ?_
      refine x_isub C dX9_mobile_237 ?_
      obtain ⟨hb6, h⟩ := ck_some h
      refine x_iast C 63 rfl hb6 dX9_mobile_238 ?_
      refine x_aload_n C dX9_mobile_239 rfl 0 rfl ?_
      refine x_getr C 57 rfl rfl inX9 15 (by decide) rfl kF_X9_28 rfl dX9_mobile_240 ?_
      refine x_iload_n C dX9_mobile_243 rfl 1 rfl ?_
      refine x_iload_n C dX9_mobile_244 rfl 1 rfl ?_
      obtain ⟨hb7, h⟩ := ck_some h
      refine x_iast C 64 rfl hb7 dX9_mobile_245 ?_
      refine x_iinc C dX9_mobile_246 1 rfl (v := (y3 + (1 : Int32))) rfl (lv2 := [(0, .ref (gs_a E 57)), (3, .int (y3 + (1 : Int32)))]) (by decide) rfl [1, 0] rfl ?_
      refine x_goto C dX9_mobile_249 (tgt := 183) (by decide) ?_
      obtain rfl := Option.some.inj h
      exact hc (y3 + (1 : Int32)) (up2 (up2 (up2 ys 62 y3.toNatClampNeg (f_X9_kindBy (ys 58 (((ys 57 2) + (1 : Int32)) + ((3 : Int32) * y3)).toNatClampNeg))) 63 y3.toNatClampNeg ((ys 58 (((ys 57 2) + (2 : Int32)) + ((3 : Int32) * y3)).toNatClampNeg) - (48 : Int32))) 64 y3.toNatClampNeg y3) rfl
set_option maxHeartbeats 4000000 in
set_option maxRecDepth 20000 in
theorem wj_X9_mobile_150 {E : gs_E} {l : Launch} {p : Program} {e : Env} {s : State} {m : MethodId} {args : Array Value} {below : List Frame} {meth : Method} {c : Code} (C : gs_X E RX9 cX9_mobile 5 p s m args meth c) {ov : Option Value} {σ0 : gs_H} {g0 : Int64} {x2 : Int32} {x3 : Int32} {x4 : Int32} {t1 : Int32} {t2 : Int32} {σ : gs_H} {g : Int64} {r : (Int32 × Int32 × gs_H) ⊕ ((gs_H))} (h : j_X9_mobile_150 x2 x3 x4 t1 t2 σ = some r) (hc : ∀ (y2 : Int32) (y3 : Int32) (ys : gs_H), r = Sum.inl (y2, y3, ys) → gs_V E 5 (4, 93) p l e s m args below meth c ov σ0 g0 73 [(0, .ref (gs_a E 57)), (2, .int y2), (3, .int y3)] [] ys g) (hk0 : ∀ (zs : gs_H), r = Sum.inr zs → gs_V E 5 (4, 93) p l e s m args below meth c ov σ0 g0 181 [(0, .ref (gs_a E 57))] [] zs g) : gs_V E 5 (4, 93) p l e s m args below meth c ov σ0 g0 150 [(0, .ref (gs_a E 57)), (2, .int x2), (3, .int x3), (4, .int x4)] [.int t2, .int t1, .ref (gs_a E 60)] σ g := by
  unfold j_X9_mobile_150 at h
  obtain ⟨hb1, h⟩ := ck_some h
  refine x_iast C 60 rfl hb1 dX9_mobile_150 ?_
  refine x_aload_n C dX9_mobile_151 rfl 0 rfl ?_
  refine x_getr C 57 rfl rfl inX9 0 (by decide) rfl kF_X9_7 rfl dX9_mobile_152 ?_
  refine x_iload C dX9_mobile_155 3 rfl ?_
  refine x_iconst C dX9_mobile_157 (v := 1) (by decide) ?_
  refine x_iadd C dX9_mobile_158 ?_
  obtain ⟨hb2, h⟩ := ck_some h
  refine x_iald C 58 rfl hb2 (v := (σ 58 (x4 + (1 : Int32)).toNatClampNeg)) rfl dX9_mobile_159 ?_
  refine x_bipush C dX9_mobile_160 (v := 42) (by decide) ?_
  by_cases hc3 : (σ 58 (x4 + (1 : Int32)).toNatClampNeg) = (42 : Int32)
  · replace h := (if_pos hc3).symm.trans h
    refine x_icmp_neF C dX9_mobile_162 (tgt := 175) (by decide) hc3 ?_
    refine x_aload_n C dX9_mobile_165 rfl 0 rfl ?_
    refine x_getr C 57 rfl rfl inX9 12 (by decide) rfl kF_X9_19 rfl dX9_mobile_166 ?_
    refine x_iload_n C dX9_mobile_169 rfl 1 rfl ?_
    refine x_iload_n C dX9_mobile_170 rfl 2 rfl ?_
    obtain ⟨hb4, h⟩ := ck_some h
    refine x_iast C 61 rfl hb4 dX9_mobile_171 ?_
    refine x_iinc C dX9_mobile_172 1 rfl (v := (x2 + (1 : Int32))) rfl (lv2 := [(0, .ref (gs_a E 57)), (2, .int (x2 + (1 : Int32))), (3, .int x3), (4, .int x4)]) (by decide) rfl [1, 0, 2, 3] rfl ?_
    refine x_iinc C dX9_mobile_175 2 rfl (v := (x3 + (1 : Int32))) rfl (lv2 := [(0, .ref (gs_a E 57)), (2, .int (x2 + (1 : Int32))), (3, .int (x3 + (1 : Int32))), (4, .int x4)]) (by decide) rfl [1, 2, 0, 3] rfl ?_
    refine x_goto C dX9_mobile_178 (tgt := 73) (by decide) ?_
    refine x_lv (lv' := [(0, .ref (gs_a E 57)), (2, .int (x2 + (1 : Int32))), (3, .int (x3 + (1 : Int32)))]) [0, 1, 2] rfl ?_
    obtain rfl := Option.some.inj h
    exact hc (x2 + (1 : Int32)) (x3 + (1 : Int32)) (up2 (up2 σ 60 t1.toNatClampNeg t2) 61 x2.toNatClampNeg x3) rfl
  · replace h := (if_neg hc3).symm.trans h
    refine x_icmp_neT C dX9_mobile_162 (tgt := 175) (by decide) hc3 ?_
    refine x_iinc C dX9_mobile_175 2 rfl (v := (x3 + (1 : Int32))) rfl (lv2 := [(0, .ref (gs_a E 57)), (2, .int x2), (3, .int (x3 + (1 : Int32))), (4, .int x4)]) (by decide) rfl [1, 2, 0, 3] rfl ?_
    refine x_goto C dX9_mobile_178 (tgt := 73) (by decide) ?_
    refine x_lv (lv' := [(0, .ref (gs_a E 57)), (2, .int x2), (3, .int (x3 + (1 : Int32)))]) [0, 1, 2] rfl ?_
    obtain rfl := Option.some.inj h
    exact hc x2 (x3 + (1 : Int32)) (up2 σ 60 t1.toNatClampNeg t2) rfl
set_option maxHeartbeats 4000000 in
set_option maxRecDepth 20000 in
theorem wl_X9_mobile_73 {E : gs_E} {l : Launch} {p : Program} {e : Env} {s : State} {m : MethodId} {args : Array Value} {below : List Frame} {meth : Method} {c : Code} (C : gs_X E RX9 cX9_mobile 5 p s m args meth c) {ov : Option Value} {σ0 : gs_H} {g0 : Int64} {g : Int64} {q : (gs_H)} (hx0 : ∀ (zs : gs_H), q = zs → gs_V E 5 (4, 93) p l e s m args below meth c ov σ0 g0 181 [(0, .ref (gs_a E 57))] [] zs g) : ∀ (n : Nat) (y2 : Int32) (y3 : Int32) (ys : gs_H), lp (b_X9_mobile_73) n (y2, y3, ys) = some q → gs_V E 5 (4, 93) p l e s m args below meth c ov σ0 g0 73 [(0, .ref (gs_a E 57)), (2, .int y2), (3, .int y3)] [] ys g := by
  intro n
  induction n with
  | zero => intro y2 y3 ys h; cases h
  | succ n ih =>
    intro y2 y3 ys h
    obtain ⟨r, h, hl, he⟩ := lp_step h
    have hc := fun (y2 : Int32) (y3 : Int32) (ys : gs_H) (hr : r = Sum.inl (y2, y3, ys)) => ih y2 y3 ys (hl _ hr)
    have hk0 := fun (zs : gs_H) (hr : r = Sum.inr zs) => hx0 zs (he _ hr).symm
    unfold b_X9_mobile_73 at h
    try dsimp only at h
    refine x_iload_n C dX9_mobile_73 rfl 2 rfl ?_
    refine x_iconst C dX9_mobile_74 (v := 2) (by decide) ?_
    refine x_aload_n C dX9_mobile_75 rfl 0 rfl ?_
    refine x_geti C 57 rfl rfl inX9 4 (by decide) rfl kF_X9_104 rfl (v := (ys 57 4)) rfl dX9_mobile_76 ?_
    refine x_imul C dX9_mobile_79 ?_
    by_cases hc1 : ((2 : Int32) * (ys 57 4)) ≤ y3
    · replace h := (if_pos hc1).symm.trans h
      refine x_icmp_geT C dX9_mobile_80 (tgt := 181) (by decide) hc1 ?_
      refine x_lv (lv' := [(0, .ref (gs_a E 57))]) [0] rfl ?_
      obtain rfl := Option.some.inj h
      exact hk0 ys rfl
    · replace h := (if_neg hc1).symm.trans h
      refine x_icmp_geF C dX9_mobile_80 (tgt := 181) (by decide) hc1 ?_
      refine x_iconst C dX9_mobile_83 (v := 5) (by decide) ?_
      refine x_iload_n C dX9_mobile_84 rfl 2 rfl ?_
      refine x_iconst C dX9_mobile_85 (v := 2) (by decide) ?_
      refine x_idiv C dX9_mobile_86 (by decide) ?_
      refine x_imul C dX9_mobile_87 ?_
      refine x_iconst C dX9_mobile_88 (v := 2) (by decide) ?_
      refine x_iload_n C dX9_mobile_89 rfl 2 rfl ?_
      refine x_iconst C dX9_mobile_90 (v := 2) (by decide) ?_
      refine x_irem C dX9_mobile_91 (by decide) ?_
      refine x_imul C dX9_mobile_92 ?_
      refine x_iadd C dX9_mobile_93 ?_
      refine x_istore C dX9_mobile_94 (lv2 := [(0, .ref (gs_a E 57)), (2, .int y2), (3, .int y3), (4, .int (((5 : Int32) * (y3 / (2 : Int32))) + ((2 : Int32) * (y3 - y3 / (2 : Int32) * (2 : Int32)))))]) (by decide) rfl [1, 2, 3, 0] rfl ?_
      refine x_aload_n C dX9_mobile_96 rfl 0 rfl ?_
      refine x_getr C 57 rfl rfl inX9 10 (by decide) rfl kF_X9_13 rfl dX9_mobile_97 ?_
      refine x_iload_n C dX9_mobile_100 rfl 2 rfl ?_
      refine x_aload_n C dX9_mobile_101 rfl 0 rfl ?_
      refine x_getr C 57 rfl rfl inX9 0 (by decide) rfl kF_X9_7 rfl dX9_mobile_102 ?_
      refine x_iload C dX9_mobile_105 3 rfl ?_
      obtain ⟨hb2, h⟩ := ck_some h
      refine x_iald C 58 rfl hb2 (v := (ys 58 (((5 : Int32) * (y3 / (2 : Int32))) + ((2 : Int32) * (y3 - y3 / (2 : Int32) * (2 : Int32)))).toNatClampNeg)) rfl dX9_mobile_107 ?_
      refine x_bipush C dX9_mobile_108 (v := 48) (by decide) ?_
      refine x_isub C dX9_mobile_110 ?_
      obtain ⟨hb3, h⟩ := ck_some h
      refine x_iast C 59 rfl hb3 dX9_mobile_111 ?_
      refine x_aload_n C dX9_mobile_112 rfl 0 rfl ?_
      refine x_getr C 57 rfl rfl inX9 11 (by decide) rfl kF_X9_16 rfl dX9_mobile_113 ?_
      refine x_iload_n C dX9_mobile_116 rfl 2 rfl ?_
      refine x_aload_n C dX9_mobile_117 rfl 0 rfl ?_
      refine x_getr C 57 rfl rfl inX9 0 (by decide) rfl kF_X9_7 rfl dX9_mobile_118 ?_
      refine x_iload C dX9_mobile_121 3 rfl ?_
      refine x_iconst C dX9_mobile_123 (v := 1) (by decide) ?_
      refine x_iadd C dX9_mobile_124 ?_
      obtain ⟨hb4, h⟩ := ck_some h
      refine x_iald C 58 rfl hb4 (v := (ys 58 ((((5 : Int32) * (y3 / (2 : Int32))) + ((2 : Int32) * (y3 - y3 / (2 : Int32) * (2 : Int32)))) + (1 : Int32)).toNatClampNeg)) rfl dX9_mobile_125 ?_
      refine x_bipush C dX9_mobile_126 (v := 42) (by decide) ?_
      by_cases hc5 : (ys 58 ((((5 : Int32) * (y3 / (2 : Int32))) + ((2 : Int32) * (y3 - y3 / (2 : Int32) * (2 : Int32)))) + (1 : Int32)).toNatClampNeg) = (42 : Int32)
      · replace h := (if_pos hc5).symm.trans h
        refine x_icmp_neF C dX9_mobile_128 (tgt := 138) (by decide) hc5 ?_
        refine x_bipush C dX9_mobile_131 (v := 10) (by decide) ?_
        refine x_iload_n C dX9_mobile_133 rfl 1 rfl ?_
        refine x_iadd C dX9_mobile_134 ?_
        refine x_goto C dX9_mobile_135 (tgt := 150) (by decide) ?_
        exact wj_X9_mobile_150 C h hc hk0
      · replace h := (if_neg hc5).symm.trans h
        refine x_icmp_neT C dX9_mobile_128 (tgt := 138) (by decide) hc5 ?_
        refine x_aload_n C dX9_mobile_138 rfl 0 rfl ?_
        refine x_getr C 57 rfl rfl inX9 0 (by decide) rfl kF_X9_7 rfl dX9_mobile_139 ?_
        refine x_iload C dX9_mobile_142 3 rfl ?_
        refine x_iconst C dX9_mobile_144 (v := 1) (by decide) ?_
        refine x_iadd C dX9_mobile_145 ?_
        obtain ⟨hb6, h⟩ := ck_some h
        refine x_iald C 58 rfl hb6 (v := (ys 58 ((((5 : Int32) * (y3 / (2 : Int32))) + ((2 : Int32) * (y3 - y3 / (2 : Int32) * (2 : Int32)))) + (1 : Int32)).toNatClampNeg)) rfl dX9_mobile_146 ?_
        refine x_bipush C dX9_mobile_147 (v := 48) (by decide) ?_
        refine x_isub C dX9_mobile_149 ?_
        exact wj_X9_mobile_150 C h hc hk0
set_option maxHeartbeats 4000000 in
set_option maxRecDepth 20000 in
theorem m_X9_mobile {E : gs_E} {l : Launch} {σ : gs_H} {g : Int64} {r0 : Int32} {σ0 : gs_H} (h : f_X9_mobile σ = some (r0, σ0)) : gs_M l E yX9_mobile cX9_mobile 5 (some .int) (4, 93) [.ref (gs_a E 57)] σ g (some (.int r0)) σ0 g := by
  refine x_enter (lv := [(0, .ref (gs_a E 57))]) (by decide +kernel) (Nat.le_of_ble_eq_true rfl) rfl (fun p e s m args below meth c C hr => ?_)
  unfold f_X9_mobile at h
  refine x_aload_n C dX9_mobile_0 rfl 0 rfl ?_
  obtain ⟨⟨v1, s1⟩, hv1, h⟩ := Option.bind_eq_some_iff.mp h
  try dsimp only at h
  refine x_callV C 57 (m_X9_faultOf hv1) rfl rfl kM_X9_100 kI_X9_faultOf kS_X9_faultOf kN_X9 kC_X9_faultOf kD_X9_faultOf rfl ⟨Nat.le_of_ble_eq_true rfl, Nat.le_of_ble_eq_true rfl⟩ ⟨Nat.le_refl _, Nat.le_refl _⟩ (rest := []) rfl (Nat.le_of_ble_eq_true rfl) dX9_mobile_1 (st' := [.int v1]) rfl ?_
  refine x_istore_n C dX9_mobile_4 rfl (lv2 := [(0, .ref (gs_a E 57)), (1, .int v1)]) (by decide) rfl [1, 0] rfl ?_
  refine x_iload_n C dX9_mobile_5 rfl 1 rfl ?_
  refine x_aload_n C dX9_mobile_6 rfl 0 rfl ?_
  refine x_geti C 57 rfl rfl inX9 1 (by decide) rfl kF_X9_68 rfl (v := (s1 57 1)) rfl dX9_mobile_7 ?_
  by_cases hc2 : v1 < (s1 57 1)
  · replace h := (if_pos hc2).symm.trans h
    refine x_icmp_ltT C dX9_mobile_10 (tgt := 44) (by decide) hc2 ?_
    refine x_bipush C dX9_mobile_44 (v := -103) (by decide) ?_
    replace h := Option.some.inj h
    obtain ⟨rfl, rfl⟩ := Prod.mk.inj h
    exact x_ret C hr rfl rfl dX9_mobile_46
  · replace h := (if_neg hc2).symm.trans h
    refine x_icmp_ltF C dX9_mobile_10 (tgt := 44) (by decide) hc2 ?_
    refine x_aload_n C dX9_mobile_13 rfl 0 rfl ?_
    refine x_geti C 57 rfl rfl inX9 2 (by decide) rfl kF_X9_84 rfl (v := (s1 57 2)) rfl dX9_mobile_14 ?_
    by_cases hc3 : (s1 57 2) = 0
    · replace h := (if_pos hc3).symm.trans h
      refine x_if_eqT C dX9_mobile_17 (tgt := 44) (by decide) hc3 ?_
      refine x_bipush C dX9_mobile_44 (v := -103) (by decide) ?_
      replace h := Option.some.inj h
      obtain ⟨rfl, rfl⟩ := Prod.mk.inj h
      exact x_ret C hr rfl rfl dX9_mobile_46
    · replace h := (if_neg hc3).symm.trans h
      refine x_if_eqF C dX9_mobile_17 (tgt := 44) (by decide) hc3 ?_
      refine x_aload_n C dX9_mobile_20 rfl 0 rfl ?_
      refine x_geti C 57 rfl rfl inX9 1 (by decide) rfl kF_X9_68 rfl (v := (s1 57 1)) rfl dX9_mobile_21 ?_
      refine x_aload_n C dX9_mobile_24 rfl 0 rfl ?_
      refine x_geti C 57 rfl rfl inX9 2 (by decide) rfl kF_X9_84 rfl (v := (s1 57 2)) rfl dX9_mobile_25 ?_
      refine x_isub C dX9_mobile_28 ?_
      refine x_iconst C dX9_mobile_29 (v := 3) (by decide) ?_
      refine x_aload_n C dX9_mobile_30 rfl 0 rfl ?_
      refine x_geti C 57 rfl rfl inX9 2 (by decide) rfl kF_X9_84 rfl (v := (s1 57 2)) rfl dX9_mobile_31 ?_
      refine x_iconst C dX9_mobile_34 (v := 1) (by decide) ?_
      refine x_iadd C dX9_mobile_35 ?_
      refine x_iconst C dX9_mobile_36 (v := 5) (by decide) ?_
      refine x_idiv C dX9_mobile_37 (by decide) ?_
      refine x_iconst C dX9_mobile_38 (v := 1) (by decide) ?_
      refine x_iadd C dX9_mobile_39 ?_
      refine x_imul C dX9_mobile_40 ?_
      by_cases hc4 : ((s1 57 1) - (s1 57 2)) = ((3 : Int32) * ((((s1 57 2) + (1 : Int32)) / (5 : Int32)) + (1 : Int32)))
      · replace h := (if_pos hc4).symm.trans h
        refine x_icmp_eqT C dX9_mobile_41 (tgt := 47) (by decide) hc4 ?_
        refine x_aload_n C dX9_mobile_47 rfl 0 rfl ?_
        refine x_aload_n C dX9_mobile_48 rfl 0 rfl ?_
        refine x_geti C 57 rfl rfl inX9 2 (by decide) rfl kF_X9_84 rfl (v := (s1 57 2)) rfl dX9_mobile_49 ?_
        refine x_iconst C dX9_mobile_52 (v := 1) (by decide) ?_
        refine x_iadd C dX9_mobile_53 ?_
        refine x_iconst C dX9_mobile_54 (v := 5) (by decide) ?_
        refine x_idiv C dX9_mobile_55 (by decide) ?_
        refine x_puti C 57 rfl rfl inX9 tyX9 tyX9_ok nmX9 4 (by decide) rfl kF_X9_104 rfl rfl rfl rfl dX9_mobile_56 ?_
        refine x_aload_n C dX9_mobile_59 rfl 0 rfl ?_
        refine x_aload_n C dX9_mobile_60 rfl 0 rfl ?_
        refine x_geti C 57 rfl rfl inX9 4 (by decide) rfl kF_X9_104 rfl (v := (((s1 57 2) + (1 : Int32)) / (5 : Int32))) rfl dX9_mobile_61 ?_
        refine x_iconst C dX9_mobile_64 (v := 1) (by decide) ?_
        refine x_iadd C dX9_mobile_65 ?_
        refine x_puti C 57 rfl rfl inX9 tyX9 tyX9_ok nmX9 5 (by decide) rfl kF_X9_107 rfl rfl rfl rfl dX9_mobile_66 ?_
        refine x_iconst C dX9_mobile_69 (v := 0) (by decide) ?_
        refine x_istore_n C dX9_mobile_70 rfl (lv2 := [(0, .ref (gs_a E 57)), (1, .int v1), (2, .int (0 : Int32))]) (by decide) rfl [1, 2, 0] rfl ?_
        refine x_iconst C dX9_mobile_71 (v := 0) (by decide) ?_
        refine x_istore_n C dX9_mobile_72 rfl (lv2 := [(0, .ref (gs_a E 57)), (1, .int v1), (2, .int (0 : Int32)), (3, .int (0 : Int32))]) (by decide) rfl [1, 2, 3, 0] rfl ?_
        refine x_lv (lv' := [(0, .ref (gs_a E 57)), (2, .int (0 : Int32)), (3, .int (0 : Int32))]) [0, 2, 3] rfl ?_
        obtain ⟨q5, hq5, h⟩ := Option.bind_eq_some_iff.mp h
        refine wl_X9_mobile_73 C (fun s5_0 hz => ?_) 1000 _ _ _ hq5
        subst q5
        try dsimp only at h
        refine x_iconst C dX9_mobile_181 (v := 0) (by decide) ?_
        refine x_istore_n C dX9_mobile_182 rfl (lv2 := [(0, .ref (gs_a E 57)), (3, .int (0 : Int32))]) (by decide) rfl [1, 0] rfl ?_
        obtain ⟨q6, hq6, h⟩ := Option.bind_eq_some_iff.mp h
        refine wl_X9_mobile_183 C (fun s6_0 hz => ?_) 1000 _ _ hq6
        subst q6
        try dsimp only at h
        refine x_aload_n C dX9_mobile_252 rfl 0 rfl ?_
        refine x_iconst C dX9_mobile_253 (v := 0) (by decide) ?_
        refine x_puti C 57 rfl rfl inX9 tyX9 tyX9_ok nmX9 6 (by decide) rfl kF_X9_110 rfl rfl rfl rfl dX9_mobile_254 ?_
        refine x_aload_n C dX9_mobile_257 rfl 0 rfl ?_
        refine x_iconst C dX9_mobile_258 (v := 0) (by decide) ?_
        refine x_puti C 57 rfl rfl inX9 tyX9 tyX9_ok nmX9 8 (by decide) rfl kF_X9_113 rfl rfl rfl rfl dX9_mobile_259 ?_
        refine x_aload_n C dX9_mobile_262 rfl 0 rfl ?_
        refine x_iconst C dX9_mobile_263 (v := 0) (by decide) ?_
        refine x_puti C 57 rfl rfl inX9 tyX9 tyX9_ok nmX9 9 (by decide) rfl kF_X9_116 rfl rfl rfl rfl dX9_mobile_264 ?_
        refine x_aload_n C dX9_mobile_267 rfl 0 rfl ?_
        refine x_iconst C dX9_mobile_268 (v := 0) (by decide) ?_
        refine x_puti C 57 rfl rfl inX9 tyX9 tyX9_ok nmX9 21 (by decide) rfl kF_X9_119 rfl rfl rfl rfl dX9_mobile_269 ?_
        refine x_aload_n C dX9_mobile_272 rfl 0 rfl ?_
        refine x_dup C dX9_mobile_273 rfl ?_
        refine x_geti C 57 rfl rfl inX9 7 (by decide) rfl kF_X9_122 rfl (v := (s6_0 57 7)) rfl dX9_mobile_274 ?_
        refine x_iconst C dX9_mobile_277 (v := 1) (by decide) ?_
        refine x_iadd C dX9_mobile_278 ?_
        refine x_puti C 57 rfl rfl inX9 tyX9 tyX9_ok nmX9 7 (by decide) rfl kF_X9_122 rfl rfl rfl rfl dX9_mobile_279 ?_
        refine x_aload_n C dX9_mobile_282 rfl 0 rfl ?_
        refine x_iconst C dX9_mobile_283 (v := 0) (by decide) ?_
        refine x_puti C 57 rfl rfl inX9 tyX9 tyX9_ok nmX9 1 (by decide) rfl kF_X9_68 rfl rfl rfl rfl dX9_mobile_284 ?_
        refine x_aload_n C dX9_mobile_287 rfl 0 rfl ?_
        refine x_geti C 57 rfl rfl inX9 5 (by decide) rfl kF_X9_107 rfl (v := (s6_0 57 5)) rfl dX9_mobile_288 ?_
        replace h := Option.some.inj h
        obtain ⟨rfl, rfl⟩ := Prod.mk.inj h
        exact x_ret C hr rfl rfl dX9_mobile_291
      · replace h := (if_neg hc4).symm.trans h
        refine x_icmp_eqF C dX9_mobile_41 (tgt := 47) (by decide) hc4 ?_
        refine x_bipush C dX9_mobile_44 (v := -103) (by decide) ?_
        replace h := Option.some.inj h
        obtain ⟨rfl, rfl⟩ := Prod.mk.inj h
        exact x_ret C hr rfl rfl dX9_mobile_46
def f_X9_move (x1 : Int32) (x2 : Int32) (σ : gs_H) : Option (Int32 × gs_H) :=
(f_X9_isRod x1 σ).bind fun q1 =>
if q1 = 0 then (
some ((-101 : Int32), σ))
else (
if inb ((2 : Int32) * x1) 10 then
if inb (((2 : Int32) * x1) + (1 : Int32)) 10 then
if (f_X9_in x2.toInt64 (1 : Int64) (((σ 59 ((2 : Int32) * x1).toNatClampNeg) + (σ 59 (((2 : Int32) * x1) + (1 : Int32)).toNatClampNeg)) - (1 : Int32)).toInt64) = 0 then (
some ((-102 : Int32), σ))
else (
if inb ((2 : Int32) * x1) 10 then
if inb ((2 : Int32) * x1) 10 then
if inb (((2 : Int32) * x1) + (1 : Int32)) 10 then
some ((σ 59 ((2 : Int32) * x1).toNatClampNeg), (up2 (up2 σ 59 ((2 : Int32) * x1).toNatClampNeg x2) 59 (((2 : Int32) * x1) + (1 : Int32)).toNatClampNeg (((σ 59 ((2 : Int32) * x1).toNatClampNeg) + (σ 59 (((2 : Int32) * x1) + (1 : Int32)).toNatClampNeg)) - x2))) else none else none else none) else none else none)
set_option maxHeartbeats 4000000 in
set_option maxRecDepth 20000 in
theorem m_X9_move {E : gs_E} {l : Launch} {x1 : Int32} {x2 : Int32} {σ : gs_H} {g : Int64} {r0 : Int32} {σ0 : gs_H} (h : f_X9_move x1 x2 σ = some (r0, σ0)) : gs_M l E yX9_move cX9_move 5 (some .int) (2, 46) [.ref (gs_a E 57), .int x1, .int x2] σ g (some (.int r0)) σ0 g := by
  refine x_enter (lv := [(0, .ref (gs_a E 57)), (1, .int x1), (2, .int x2)]) (by decide +kernel) (Nat.le_of_ble_eq_true rfl) rfl (fun p e s m args below meth c C hr => ?_)
  unfold f_X9_move at h
  refine x_aload_n C dX9_move_0 rfl 0 rfl ?_
  refine x_iload_n C dX9_move_1 rfl 1 rfl ?_
  obtain ⟨v1, hv1, h⟩ := Option.bind_eq_some_iff.mp h
  refine x_callV C 57 (m_X9_isRod hv1) rfl rfl kM_X9_163 kI_X9_isRod kS_X9_isRod kN_X9 kC_X9_isRod kD_X9_isRod rfl ⟨Nat.le_of_ble_eq_true rfl, Nat.le_of_ble_eq_true rfl⟩ ⟨Nat.le_refl _, Nat.le_refl _⟩ (rest := []) rfl (Nat.le_of_ble_eq_true rfl) dX9_move_2 (st' := [.int v1]) rfl ?_
  by_cases hc2 : v1 = 0
  · replace h := (if_pos hc2).symm.trans h
    refine x_if_neF C dX9_move_5 (tgt := 11) (by decide) hc2 ?_
    refine x_bipush C dX9_move_8 (v := -101) (by decide) ?_
    replace h := Option.some.inj h
    obtain ⟨rfl, rfl⟩ := Prod.mk.inj h
    exact x_ret C hr rfl rfl dX9_move_10
  · replace h := (if_neg hc2).symm.trans h
    refine x_if_neT C dX9_move_5 (tgt := 11) (by decide) hc2 ?_
    refine x_aload_n C dX9_move_11 rfl 0 rfl ?_
    refine x_getr C 57 rfl rfl inX9 10 (by decide) rfl kF_X9_13 rfl dX9_move_12 ?_
    refine x_iconst C dX9_move_15 (v := 2) (by decide) ?_
    refine x_iload_n C dX9_move_16 rfl 1 rfl ?_
    refine x_imul C dX9_move_17 ?_
    obtain ⟨hb3, h⟩ := ck_some h
    refine x_iald C 59 rfl hb3 (v := (σ 59 ((2 : Int32) * x1).toNatClampNeg)) rfl dX9_move_18 ?_
    refine x_aload_n C dX9_move_19 rfl 0 rfl ?_
    refine x_getr C 57 rfl rfl inX9 10 (by decide) rfl kF_X9_13 rfl dX9_move_20 ?_
    refine x_iconst C dX9_move_23 (v := 2) (by decide) ?_
    refine x_iload_n C dX9_move_24 rfl 1 rfl ?_
    refine x_imul C dX9_move_25 ?_
    refine x_iconst C dX9_move_26 (v := 1) (by decide) ?_
    refine x_iadd C dX9_move_27 ?_
    obtain ⟨hb4, h⟩ := ck_some h
    refine x_iald C 59 rfl hb4 (v := (σ 59 (((2 : Int32) * x1) + (1 : Int32)).toNatClampNeg)) rfl dX9_move_28 ?_
    refine x_iadd C dX9_move_29 ?_
    refine x_istore_n C dX9_move_30 rfl (lv2 := [(0, .ref (gs_a E 57)), (1, .int x1), (2, .int x2), (3, .int ((σ 59 ((2 : Int32) * x1).toNatClampNeg) + (σ 59 (((2 : Int32) * x1) + (1 : Int32)).toNatClampNeg)))]) (by decide) rfl [1, 2, 3, 0] rfl ?_
    refine x_iload_n C dX9_move_31 rfl 2 rfl ?_
    refine x_i2l C dX9_move_32 ?_
    refine x_lconst C dX9_move_33 (v := 1) (by decide) ?_
    refine x_iload_n C dX9_move_34 rfl 3 rfl ?_
    refine x_iconst C dX9_move_35 (v := 1) (by decide) ?_
    refine x_isub C dX9_move_36 ?_
    refine x_i2l C dX9_move_37 ?_
    refine x_callS C (m_X9_in rfl) kM_X9_64 kT_X9_in kN_X9 kC_X9_in kD_X9_in rfl ⟨Nat.le_of_ble_eq_true rfl, Nat.le_of_ble_eq_true rfl⟩ ⟨Nat.le_refl _, Nat.le_refl _⟩ (rest := []) rfl (Nat.le_of_ble_eq_true rfl) dX9_move_38 (st' := [.int (f_X9_in x2.toInt64 (1 : Int64) (((σ 59 ((2 : Int32) * x1).toNatClampNeg) + (σ 59 (((2 : Int32) * x1) + (1 : Int32)).toNatClampNeg)) - (1 : Int32)).toInt64)]) rfl ?_
    by_cases hc6 : (f_X9_in x2.toInt64 (1 : Int64) (((σ 59 ((2 : Int32) * x1).toNatClampNeg) + (σ 59 (((2 : Int32) * x1) + (1 : Int32)).toNatClampNeg)) - (1 : Int32)).toInt64) = 0
    · replace h := (if_pos hc6).symm.trans h
      refine x_if_neF C dX9_move_41 (tgt := 47) (by decide) hc6 ?_
      refine x_bipush C dX9_move_44 (v := -102) (by decide) ?_
      replace h := Option.some.inj h
      obtain ⟨rfl, rfl⟩ := Prod.mk.inj h
      exact x_ret C hr rfl rfl dX9_move_46
    · replace h := (if_neg hc6).symm.trans h
      refine x_if_neT C dX9_move_41 (tgt := 47) (by decide) hc6 ?_
      refine x_aload_n C dX9_move_47 rfl 0 rfl ?_
      refine x_getr C 57 rfl rfl inX9 10 (by decide) rfl kF_X9_13 rfl dX9_move_48 ?_
      refine x_iconst C dX9_move_51 (v := 2) (by decide) ?_
      refine x_iload_n C dX9_move_52 rfl 1 rfl ?_
      refine x_imul C dX9_move_53 ?_
      obtain ⟨hb7, h⟩ := ck_some h
      refine x_iald C 59 rfl hb7 (v := (σ 59 ((2 : Int32) * x1).toNatClampNeg)) rfl dX9_move_54 ?_
      refine x_istore C dX9_move_55 (lv2 := [(0, .ref (gs_a E 57)), (1, .int x1), (2, .int x2), (3, .int ((σ 59 ((2 : Int32) * x1).toNatClampNeg) + (σ 59 (((2 : Int32) * x1) + (1 : Int32)).toNatClampNeg))), (4, .int (σ 59 ((2 : Int32) * x1).toNatClampNeg))]) (by decide) rfl [1, 2, 3, 4, 0] rfl ?_
      refine x_aload_n C dX9_move_57 rfl 0 rfl ?_
      refine x_getr C 57 rfl rfl inX9 10 (by decide) rfl kF_X9_13 rfl dX9_move_58 ?_
      refine x_iconst C dX9_move_61 (v := 2) (by decide) ?_
      refine x_iload_n C dX9_move_62 rfl 1 rfl ?_
      refine x_imul C dX9_move_63 ?_
      refine x_iload_n C dX9_move_64 rfl 2 rfl ?_
      obtain ⟨hb8, h⟩ := ck_some h
      refine x_iast C 59 rfl hb8 dX9_move_65 ?_
      refine x_aload_n C dX9_move_66 rfl 0 rfl ?_
      refine x_getr C 57 rfl rfl inX9 10 (by decide) rfl kF_X9_13 rfl dX9_move_67 ?_
      refine x_iconst C dX9_move_70 (v := 2) (by decide) ?_
      refine x_iload_n C dX9_move_71 rfl 1 rfl ?_
      refine x_imul C dX9_move_72 ?_
      refine x_iconst C dX9_move_73 (v := 1) (by decide) ?_
      refine x_iadd C dX9_move_74 ?_
      refine x_iload_n C dX9_move_75 rfl 3 rfl ?_
      refine x_iload_n C dX9_move_76 rfl 2 rfl ?_
      refine x_isub C dX9_move_77 ?_
      obtain ⟨hb9, h⟩ := ck_some h
      refine x_iast C 59 rfl hb9 dX9_move_78 ?_
      refine x_iload C dX9_move_79 4 rfl ?_
      replace h := Option.some.inj h
      obtain ⟨rfl, rfl⟩ := Prod.mk.inj h
      exact x_ret C hr rfl rfl dX9_move_81
def f_X9_odds (x1 : Int32) (σ : gs_H) : Option (Int32 × gs_H) :=
if (f_X9_in x1.toInt64 (0 : Int64) (1 : Int64)) = 0 then (
some ((-102 : Int32), σ))
else (
if (f_X9_lacks σ) = 0 then (
(f_X9_oddsOf x1 σ).bind fun q5 =>
some (q5.1, q5.2))
else (
some ((-103 : Int32), σ)))
set_option maxHeartbeats 4000000 in
set_option maxRecDepth 20000 in
theorem m_X9_odds {E : gs_E} {l : Launch} {x1 : Int32} {σ : gs_H} {g : Int64} {r0 : Int32} {σ0 : gs_H} (h : f_X9_odds x1 σ = some (r0, σ0)) : gs_M l E yX9_odds cX9_odds 2 (some .int) (6, 138) [.ref (gs_a E 57), .int x1] σ g (some (.int r0)) σ0 g := by
  refine x_enter (lv := [(0, .ref (gs_a E 57)), (1, .int x1)]) (by decide +kernel) (Nat.le_of_ble_eq_true rfl) rfl (fun p e s m args below meth c C hr => ?_)
  unfold f_X9_odds at h
  refine x_iload_n C dX9_odds_0 rfl 1 rfl ?_
  refine x_i2l C dX9_odds_1 ?_
  refine x_lconst C dX9_odds_2 (v := 0) (by decide) ?_
  refine x_lconst C dX9_odds_3 (v := 1) (by decide) ?_
  refine x_callS C (m_X9_in rfl) kM_X9_64 kT_X9_in kN_X9 kC_X9_in kD_X9_in rfl ⟨Nat.le_of_ble_eq_true rfl, Nat.le_of_ble_eq_true rfl⟩ ⟨Nat.le_refl _, Nat.le_refl _⟩ (rest := []) rfl (Nat.le_of_ble_eq_true rfl) dX9_odds_4 (st' := [.int (f_X9_in x1.toInt64 (0 : Int64) (1 : Int64))]) rfl ?_
  by_cases hc2 : (f_X9_in x1.toInt64 (0 : Int64) (1 : Int64)) = 0
  · replace h := (if_pos hc2).symm.trans h
    refine x_if_neF C dX9_odds_7 (tgt := 13) (by decide) hc2 ?_
    refine x_bipush C dX9_odds_10 (v := -102) (by decide) ?_
    replace h := Option.some.inj h
    obtain ⟨rfl, rfl⟩ := Prod.mk.inj h
    exact x_ret C hr rfl rfl dX9_odds_12
  · replace h := (if_neg hc2).symm.trans h
    refine x_if_neT C dX9_odds_7 (tgt := 13) (by decide) hc2 ?_
    refine x_aload_n C dX9_odds_13 rfl 0 rfl ?_
    refine x_callV C 57 (m_X9_lacks rfl) rfl rfl kM_X9_182 kI_X9_lacks kS_X9_lacks kN_X9 kC_X9_lacks kD_X9_lacks rfl ⟨Nat.le_of_ble_eq_true rfl, Nat.le_of_ble_eq_true rfl⟩ ⟨Nat.le_refl _, Nat.le_refl _⟩ (rest := []) rfl (Nat.le_of_ble_eq_true rfl) dX9_odds_14 (st' := [.int (f_X9_lacks σ)]) rfl ?_
    by_cases hc4 : (f_X9_lacks σ) = 0
    · replace h := (if_pos hc4).symm.trans h
      refine x_if_eqT C dX9_odds_17 (tgt := 25) (by decide) hc4 ?_
      refine x_aload_n C dX9_odds_25 rfl 0 rfl ?_
      refine x_iload_n C dX9_odds_26 rfl 1 rfl ?_
      obtain ⟨⟨v5, s5⟩, hv5, h⟩ := Option.bind_eq_some_iff.mp h
      try dsimp only at h
      refine x_callV C 57 (m_X9_oddsOf hv5) rfl rfl kM_X9_230 kI_X9_oddsOf kS_X9_oddsOf kN_X9 kC_X9_oddsOf kD_X9_oddsOf rfl ⟨Nat.le_of_ble_eq_true rfl, Nat.le_of_ble_eq_true rfl⟩ ⟨Nat.le_refl _, Nat.le_refl _⟩ (rest := []) rfl (Nat.le_of_ble_eq_true rfl) dX9_odds_27 (st' := [.int v5]) rfl ?_
      replace h := Option.some.inj h
      obtain ⟨rfl, rfl⟩ := Prod.mk.inj h
      exact x_ret C hr rfl rfl dX9_odds_30
    · replace h := (if_neg hc4).symm.trans h
      refine x_if_eqF C dX9_odds_17 (tgt := 25) (by decide) hc4 ?_
      refine x_bipush C dX9_odds_20 (v := -103) (by decide) ?_
      refine x_goto C dX9_odds_22 (tgt := 30) (by decide) ?_
      replace h := Option.some.inj h
      obtain ⟨rfl, rfl⟩ := Prod.mk.inj h
      exact x_ret C hr rfl rfl dX9_odds_30
def f_X9_restore (σ : gs_H) : Option (Int32 × gs_H) :=
if (σ 57 24) = (σ 57 7) then (
(f_X9_copy 69 59 σ).bind fun q2 =>
(f_X9_copy 70 62 q2).bind fun q3 =>
(f_X9_copy 71 63 q3).bind fun q4 =>
(f_X9_copy 72 64 q4).bind fun q5 =>
(f_X9_copy 73 68 q5).bind fun q6 =>
some ((q6 57 25), (up2 (up2 (up2 (up2 q6 57 6 (q6 57 25)) 57 8 (q6 57 26)) 57 9 (q6 57 27)) 57 21 (q6 57 28))))
else (
some ((-103 : Int32), σ))
set_option maxHeartbeats 4000000 in
set_option maxRecDepth 20000 in
theorem m_X9_restore {E : gs_E} {l : Launch} {σ : gs_H} {g : Int64} {r0 : Int32} {σ0 : gs_H} (h : f_X9_restore σ = some (r0, σ0)) : gs_M l E yX9_restore cX9_restore 1 (some .int) (1, 22) [.ref (gs_a E 57)] σ g (some (.int r0)) σ0 g := by
  refine x_enter (lv := [(0, .ref (gs_a E 57))]) (by decide +kernel) (Nat.le_of_ble_eq_true rfl) rfl (fun p e s m args below meth c C hr => ?_)
  unfold f_X9_restore at h
  refine x_aload_n C dX9_restore_0 rfl 0 rfl ?_
  refine x_geti C 57 rfl rfl inX9 24 (by decide) rfl kF_X9_58 rfl (v := (σ 57 24)) rfl dX9_restore_1 ?_
  refine x_aload_n C dX9_restore_4 rfl 0 rfl ?_
  refine x_geti C 57 rfl rfl inX9 7 (by decide) rfl kF_X9_122 rfl (v := (σ 57 7)) rfl dX9_restore_5 ?_
  by_cases hc1 : (σ 57 24) = (σ 57 7)
  · replace h := (if_pos hc1).symm.trans h
    refine x_icmp_eqT C dX9_restore_8 (tgt := 14) (by decide) hc1 ?_
    refine x_aload_n C dX9_restore_14 rfl 0 rfl ?_
    refine x_getr C 57 rfl rfl inX9 29 (by decide) rfl kF_X9_43 rfl dX9_restore_15 ?_
    refine x_aload_n C dX9_restore_18 rfl 0 rfl ?_
    refine x_getr C 57 rfl rfl inX9 10 (by decide) rfl kF_X9_13 rfl dX9_restore_19 ?_
    obtain ⟨s2, hv2, h⟩ := Option.bind_eq_some_iff.mp h
    refine x_callS C (m_X9_copy_69_59 hv2) kM_X9_125 kT_X9_copy kN_X9 kC_X9_copy kD_X9_copy rfl ⟨Nat.le_of_ble_eq_true rfl, Nat.le_of_ble_eq_true rfl⟩ ⟨Nat.le_refl _, Nat.le_refl _⟩ (rest := []) rfl (Nat.le_of_ble_eq_true rfl) dX9_restore_22 (st' := []) rfl ?_
    refine x_aload_n C dX9_restore_25 rfl 0 rfl ?_
    refine x_getr C 57 rfl rfl inX9 30 (by decide) rfl kF_X9_46 rfl dX9_restore_26 ?_
    refine x_aload_n C dX9_restore_29 rfl 0 rfl ?_
    refine x_getr C 57 rfl rfl inX9 13 (by decide) rfl kF_X9_22 rfl dX9_restore_30 ?_
    obtain ⟨s3, hv3, h⟩ := Option.bind_eq_some_iff.mp h
    refine x_callS C (m_X9_copy_70_62 hv3) kM_X9_125 kT_X9_copy kN_X9 kC_X9_copy kD_X9_copy rfl ⟨Nat.le_of_ble_eq_true rfl, Nat.le_of_ble_eq_true rfl⟩ ⟨Nat.le_refl _, Nat.le_refl _⟩ (rest := []) rfl (Nat.le_of_ble_eq_true rfl) dX9_restore_33 (st' := []) rfl ?_
    refine x_aload_n C dX9_restore_36 rfl 0 rfl ?_
    refine x_getr C 57 rfl rfl inX9 31 (by decide) rfl kF_X9_49 rfl dX9_restore_37 ?_
    refine x_aload_n C dX9_restore_40 rfl 0 rfl ?_
    refine x_getr C 57 rfl rfl inX9 14 (by decide) rfl kF_X9_25 rfl dX9_restore_41 ?_
    obtain ⟨s4, hv4, h⟩ := Option.bind_eq_some_iff.mp h
    refine x_callS C (m_X9_copy_71_63 hv4) kM_X9_125 kT_X9_copy kN_X9 kC_X9_copy kD_X9_copy rfl ⟨Nat.le_of_ble_eq_true rfl, Nat.le_of_ble_eq_true rfl⟩ ⟨Nat.le_refl _, Nat.le_refl _⟩ (rest := []) rfl (Nat.le_of_ble_eq_true rfl) dX9_restore_44 (st' := []) rfl ?_
    refine x_aload_n C dX9_restore_47 rfl 0 rfl ?_
    refine x_getr C 57 rfl rfl inX9 32 (by decide) rfl kF_X9_52 rfl dX9_restore_48 ?_
    refine x_aload_n C dX9_restore_51 rfl 0 rfl ?_
    refine x_getr C 57 rfl rfl inX9 15 (by decide) rfl kF_X9_28 rfl dX9_restore_52 ?_
    obtain ⟨s5, hv5, h⟩ := Option.bind_eq_some_iff.mp h
    refine x_callS C (m_X9_copy_72_64 hv5) kM_X9_125 kT_X9_copy kN_X9 kC_X9_copy kD_X9_copy rfl ⟨Nat.le_of_ble_eq_true rfl, Nat.le_of_ble_eq_true rfl⟩ ⟨Nat.le_refl _, Nat.le_refl _⟩ (rest := []) rfl (Nat.le_of_ble_eq_true rfl) dX9_restore_55 (st' := []) rfl ?_
    refine x_aload_n C dX9_restore_58 rfl 0 rfl ?_
    refine x_getr C 57 rfl rfl inX9 33 (by decide) rfl kF_X9_55 rfl dX9_restore_59 ?_
    refine x_aload_n C dX9_restore_62 rfl 0 rfl ?_
    refine x_getr C 57 rfl rfl inX9 22 (by decide) rfl kF_X9_40 rfl dX9_restore_63 ?_
    obtain ⟨s6, hv6, h⟩ := Option.bind_eq_some_iff.mp h
    refine x_callS C (m_X9_copy_73_68 hv6) kM_X9_125 kT_X9_copy kN_X9 kC_X9_copy kD_X9_copy rfl ⟨Nat.le_of_ble_eq_true rfl, Nat.le_of_ble_eq_true rfl⟩ ⟨Nat.le_refl _, Nat.le_refl _⟩ (rest := []) rfl (Nat.le_of_ble_eq_true rfl) dX9_restore_66 (st' := []) rfl ?_
    refine x_aload_n C dX9_restore_69 rfl 0 rfl ?_
    refine x_aload_n C dX9_restore_70 rfl 0 rfl ?_
    refine x_geti C 57 rfl rfl inX9 25 (by decide) rfl kF_X9_257 rfl (v := (s6 57 25)) rfl dX9_restore_71 ?_
    refine x_puti C 57 rfl rfl inX9 tyX9 tyX9_ok nmX9 6 (by decide) rfl kF_X9_110 rfl rfl rfl rfl dX9_restore_74 ?_
    refine x_aload_n C dX9_restore_77 rfl 0 rfl ?_
    refine x_aload_n C dX9_restore_78 rfl 0 rfl ?_
    refine x_geti C 57 rfl rfl inX9 26 (by decide) rfl kF_X9_260 rfl (v := (s6 57 26)) rfl dX9_restore_79 ?_
    refine x_puti C 57 rfl rfl inX9 tyX9 tyX9_ok nmX9 8 (by decide) rfl kF_X9_113 rfl rfl rfl rfl dX9_restore_82 ?_
    refine x_aload_n C dX9_restore_85 rfl 0 rfl ?_
    refine x_aload_n C dX9_restore_86 rfl 0 rfl ?_
    refine x_geti C 57 rfl rfl inX9 27 (by decide) rfl kF_X9_263 rfl (v := (s6 57 27)) rfl dX9_restore_87 ?_
    refine x_puti C 57 rfl rfl inX9 tyX9 tyX9_ok nmX9 9 (by decide) rfl kF_X9_116 rfl rfl rfl rfl dX9_restore_90 ?_
    refine x_aload_n C dX9_restore_93 rfl 0 rfl ?_
    refine x_aload_n C dX9_restore_94 rfl 0 rfl ?_
    refine x_geti C 57 rfl rfl inX9 28 (by decide) rfl kF_X9_266 rfl (v := (s6 57 28)) rfl dX9_restore_95 ?_
    refine x_puti C 57 rfl rfl inX9 tyX9 tyX9_ok nmX9 21 (by decide) rfl kF_X9_119 rfl rfl rfl rfl dX9_restore_98 ?_
    refine x_aload_n C dX9_restore_101 rfl 0 rfl ?_
    refine x_geti C 57 rfl rfl inX9 6 (by decide) rfl kF_X9_110 rfl (v := (s6 57 25)) rfl dX9_restore_102 ?_
    replace h := Option.some.inj h
    obtain ⟨rfl, rfl⟩ := Prod.mk.inj h
    exact x_ret C hr rfl rfl dX9_restore_105
  · replace h := (if_neg hc1).symm.trans h
    refine x_icmp_eqF C dX9_restore_8 (tgt := 14) (by decide) hc1 ?_
    refine x_bipush C dX9_restore_11 (v := -103) (by decide) ?_
    replace h := Option.some.inj h
    obtain ⟨rfl, rfl⟩ := Prod.mk.inj h
    exact x_ret C hr rfl rfl dX9_restore_13
def f_X9_rod (x1 : Int32) (x2 : Int32) (σ : gs_H) : Option (Int32 × gs_H) :=
(f_X9_isRod x1 σ).bind fun q1 =>
if q1 = 0 then (
some ((-101 : Int32), σ))
else (
(f_X9_tellRod x1 x2 σ).bind fun q3 =>
some (q3.1, q3.2))
set_option maxHeartbeats 4000000 in
set_option maxRecDepth 20000 in
theorem m_X9_rod {E : gs_E} {l : Launch} {x1 : Int32} {x2 : Int32} {σ : gs_H} {g : Int64} {r0 : Int32} {σ0 : gs_H} (h : f_X9_rod x1 x2 σ = some (r0, σ0)) : gs_M l E yX9_rod cX9_rod 3 (some .int) (5, 112) [.ref (gs_a E 57), .int x1, .int x2] σ g (some (.int r0)) σ0 g := by
  refine x_enter (lv := [(0, .ref (gs_a E 57)), (1, .int x1), (2, .int x2)]) (by decide +kernel) (Nat.le_of_ble_eq_true rfl) rfl (fun p e s m args below meth c C hr => ?_)
  unfold f_X9_rod at h
  refine x_aload_n C dX9_rod_0 rfl 0 rfl ?_
  refine x_iload_n C dX9_rod_1 rfl 1 rfl ?_
  obtain ⟨v1, hv1, h⟩ := Option.bind_eq_some_iff.mp h
  refine x_callV C 57 (m_X9_isRod hv1) rfl rfl kM_X9_163 kI_X9_isRod kS_X9_isRod kN_X9 kC_X9_isRod kD_X9_isRod rfl ⟨Nat.le_of_ble_eq_true rfl, Nat.le_of_ble_eq_true rfl⟩ ⟨Nat.le_refl _, Nat.le_refl _⟩ (rest := []) rfl (Nat.le_of_ble_eq_true rfl) dX9_rod_2 (st' := [.int v1]) rfl ?_
  by_cases hc2 : v1 = 0
  · replace h := (if_pos hc2).symm.trans h
    refine x_if_eqT C dX9_rod_5 (tgt := 17) (by decide) hc2 ?_
    refine x_bipush C dX9_rod_17 (v := -101) (by decide) ?_
    replace h := Option.some.inj h
    obtain ⟨rfl, rfl⟩ := Prod.mk.inj h
    exact x_ret C hr rfl rfl dX9_rod_19
  · replace h := (if_neg hc2).symm.trans h
    refine x_if_eqF C dX9_rod_5 (tgt := 17) (by decide) hc2 ?_
    refine x_aload_n C dX9_rod_8 rfl 0 rfl ?_
    refine x_iload_n C dX9_rod_9 rfl 1 rfl ?_
    refine x_iload_n C dX9_rod_10 rfl 2 rfl ?_
    obtain ⟨⟨v3, s3⟩, hv3, h⟩ := Option.bind_eq_some_iff.mp h
    try dsimp only at h
    refine x_callV C 57 (m_X9_tellRod hv3) rfl rfl kM_X9_166 kI_X9_tellRod kS_X9_tellRod kN_X9 kC_X9_tellRod kD_X9_tellRod rfl ⟨Nat.le_of_ble_eq_true rfl, Nat.le_of_ble_eq_true rfl⟩ ⟨Nat.le_refl _, Nat.le_refl _⟩ (rest := []) rfl (Nat.le_of_ble_eq_true rfl) dX9_rod_11 (st' := [.int v3]) rfl ?_
    refine x_goto C dX9_rod_14 (tgt := 19) (by decide) ?_
    replace h := Option.some.inj h
    obtain ⟨rfl, rfl⟩ := Prod.mk.inj h
    exact x_ret C hr rfl rfl dX9_rod_19
def f_X9_see (x1 : Int32) (x2 : Int32) (x3 : Int32) (x4 : Int32) (σ : gs_H) : Option (Int32 × gs_H) :=
(f_X9_isThing x1 σ).bind fun q1 =>
if q1 = 0 then (
some ((-101 : Int32), σ))
else (
(f_X9_isRod x2 σ).bind fun q3 =>
if q3 = 0 then (
some ((-101 : Int32), σ))
else (
if (f_X9_in x3.toInt64 (0 : Int64) (9 : Int64)) = 0 then (
some ((-102 : Int32), σ))
else (
if (f_X9_in x4.toInt64 (0 : Int64) (2 : Int64)) = 0 then (
some ((-102 : Int32), σ))
else (
if (σ 57 21) = (6 : Int32) then (
some ((-104 : Int32), σ))
else (
if inb ((4 : Int32) * (σ 57 21)) 24 then
if inb (((4 : Int32) * (σ 57 21)) + (1 : Int32)) 24 then
if inb (((4 : Int32) * (σ 57 21)) + (2 : Int32)) 24 then
if inb (((4 : Int32) * (σ 57 21)) + (3 : Int32)) 24 then
some (((σ 57 21) + (1 : Int32)), (up2 (up2 (up2 (up2 (up2 σ 68 ((4 : Int32) * (σ 57 21)).toNatClampNeg x1) 68 (((4 : Int32) * (σ 57 21)) + (1 : Int32)).toNatClampNeg x2) 68 (((4 : Int32) * (σ 57 21)) + (2 : Int32)).toNatClampNeg x3) 68 (((4 : Int32) * (σ 57 21)) + (3 : Int32)).toNatClampNeg x4) 57 21 ((σ 57 21) + (1 : Int32)))) else none else none else none else none)))))
set_option maxHeartbeats 4000000 in
set_option maxRecDepth 20000 in
theorem m_X9_see {E : gs_E} {l : Launch} {x1 : Int32} {x2 : Int32} {x3 : Int32} {x4 : Int32} {σ : gs_H} {g : Int64} {r0 : Int32} {σ0 : gs_H} (h : f_X9_see x1 x2 x3 x4 σ = some (r0, σ0)) : gs_M l E yX9_see cX9_see 5 (some .int) (2, 46) [.ref (gs_a E 57), .int x1, .int x2, .int x3, .int x4] σ g (some (.int r0)) σ0 g := by
  refine x_enter (lv := [(0, .ref (gs_a E 57)), (1, .int x1), (2, .int x2), (3, .int x3), (4, .int x4)]) (by decide +kernel) (Nat.le_of_ble_eq_true rfl) rfl (fun p e s m args below meth c C hr => ?_)
  unfold f_X9_see at h
  refine x_aload_n C dX9_see_0 rfl 0 rfl ?_
  refine x_iload_n C dX9_see_1 rfl 1 rfl ?_
  obtain ⟨v1, hv1, h⟩ := Option.bind_eq_some_iff.mp h
  refine x_callV C 57 (m_X9_isThing hv1) rfl rfl kM_X9_176 kI_X9_isThing kS_X9_isThing kN_X9 kC_X9_isThing kD_X9_isThing rfl ⟨Nat.le_of_ble_eq_true rfl, Nat.le_of_ble_eq_true rfl⟩ ⟨Nat.le_refl _, Nat.le_refl _⟩ (rest := []) rfl (Nat.le_of_ble_eq_true rfl) dX9_see_2 (st' := [.int v1]) rfl ?_
  by_cases hc2 : v1 = 0
  · replace h := (if_pos hc2).symm.trans h
    refine x_if_eqT C dX9_see_5 (tgt := 16) (by decide) hc2 ?_
    refine x_bipush C dX9_see_16 (v := -101) (by decide) ?_
    replace h := Option.some.inj h
    obtain ⟨rfl, rfl⟩ := Prod.mk.inj h
    exact x_ret C hr rfl rfl dX9_see_18
  · replace h := (if_neg hc2).symm.trans h
    refine x_if_eqF C dX9_see_5 (tgt := 16) (by decide) hc2 ?_
    refine x_aload_n C dX9_see_8 rfl 0 rfl ?_
    refine x_iload_n C dX9_see_9 rfl 2 rfl ?_
    obtain ⟨v3, hv3, h⟩ := Option.bind_eq_some_iff.mp h
    refine x_callV C 57 (m_X9_isRod hv3) rfl rfl kM_X9_163 kI_X9_isRod kS_X9_isRod kN_X9 kC_X9_isRod kD_X9_isRod rfl ⟨Nat.le_of_ble_eq_true rfl, Nat.le_of_ble_eq_true rfl⟩ ⟨Nat.le_refl _, Nat.le_refl _⟩ (rest := []) rfl (Nat.le_of_ble_eq_true rfl) dX9_see_10 (st' := [.int v3]) rfl ?_
    by_cases hc4 : v3 = 0
    · replace h := (if_pos hc4).symm.trans h
      refine x_if_neF C dX9_see_13 (tgt := 19) (by decide) hc4 ?_
      refine x_bipush C dX9_see_16 (v := -101) (by decide) ?_
      replace h := Option.some.inj h
      obtain ⟨rfl, rfl⟩ := Prod.mk.inj h
      exact x_ret C hr rfl rfl dX9_see_18
    · replace h := (if_neg hc4).symm.trans h
      refine x_if_neT C dX9_see_13 (tgt := 19) (by decide) hc4 ?_
      refine x_iload_n C dX9_see_19 rfl 3 rfl ?_
      refine x_i2l C dX9_see_20 ?_
      refine x_lconst C dX9_see_21 (v := 0) (by decide) ?_
      refine x_ldc2 C kK_X9_199 dX9_see_22 ?_
      refine x_callS C (m_X9_in rfl) kM_X9_64 kT_X9_in kN_X9 kC_X9_in kD_X9_in rfl ⟨Nat.le_of_ble_eq_true rfl, Nat.le_of_ble_eq_true rfl⟩ ⟨Nat.le_refl _, Nat.le_refl _⟩ (rest := []) rfl (Nat.le_of_ble_eq_true rfl) dX9_see_25 (st' := [.int (f_X9_in x3.toInt64 (0 : Int64) (9 : Int64))]) rfl ?_
      by_cases hc6 : (f_X9_in x3.toInt64 (0 : Int64) (9 : Int64)) = 0
      · replace h := (if_pos hc6).symm.trans h
        refine x_if_eqT C dX9_see_28 (tgt := 44) (by decide) hc6 ?_
        refine x_bipush C dX9_see_44 (v := -102) (by decide) ?_
        replace h := Option.some.inj h
        obtain ⟨rfl, rfl⟩ := Prod.mk.inj h
        exact x_ret C hr rfl rfl dX9_see_46
      · replace h := (if_neg hc6).symm.trans h
        refine x_if_eqF C dX9_see_28 (tgt := 44) (by decide) hc6 ?_
        refine x_iload C dX9_see_31 4 rfl ?_
        refine x_i2l C dX9_see_33 ?_
        refine x_lconst C dX9_see_34 (v := 0) (by decide) ?_
        refine x_ldc2 C kK_X9_233 dX9_see_35 ?_
        refine x_callS C (m_X9_in rfl) kM_X9_64 kT_X9_in kN_X9 kC_X9_in kD_X9_in rfl ⟨Nat.le_of_ble_eq_true rfl, Nat.le_of_ble_eq_true rfl⟩ ⟨Nat.le_refl _, Nat.le_refl _⟩ (rest := []) rfl (Nat.le_of_ble_eq_true rfl) dX9_see_38 (st' := [.int (f_X9_in x4.toInt64 (0 : Int64) (2 : Int64))]) rfl ?_
        by_cases hc8 : (f_X9_in x4.toInt64 (0 : Int64) (2 : Int64)) = 0
        · replace h := (if_pos hc8).symm.trans h
          refine x_if_neF C dX9_see_41 (tgt := 47) (by decide) hc8 ?_
          refine x_bipush C dX9_see_44 (v := -102) (by decide) ?_
          replace h := Option.some.inj h
          obtain ⟨rfl, rfl⟩ := Prod.mk.inj h
          exact x_ret C hr rfl rfl dX9_see_46
        · replace h := (if_neg hc8).symm.trans h
          refine x_if_neT C dX9_see_41 (tgt := 47) (by decide) hc8 ?_
          refine x_aload_n C dX9_see_47 rfl 0 rfl ?_
          refine x_geti C 57 rfl rfl inX9 21 (by decide) rfl kF_X9_119 rfl (v := (σ 57 21)) rfl dX9_see_48 ?_
          refine x_bipush C dX9_see_51 (v := 6) (by decide) ?_
          by_cases hc9 : (σ 57 21) = (6 : Int32)
          · replace h := (if_pos hc9).symm.trans h
            refine x_icmp_neF C dX9_see_53 (tgt := 59) (by decide) hc9 ?_
            refine x_bipush C dX9_see_56 (v := -104) (by decide) ?_
            replace h := Option.some.inj h
            obtain ⟨rfl, rfl⟩ := Prod.mk.inj h
            exact x_ret C hr rfl rfl dX9_see_58
          · replace h := (if_neg hc9).symm.trans h
            refine x_icmp_neT C dX9_see_53 (tgt := 59) (by decide) hc9 ?_
            refine x_aload_n C dX9_see_59 rfl 0 rfl ?_
            refine x_getr C 57 rfl rfl inX9 22 (by decide) rfl kF_X9_40 rfl dX9_see_60 ?_
            refine x_iconst C dX9_see_63 (v := 4) (by decide) ?_
            refine x_aload_n C dX9_see_64 rfl 0 rfl ?_
            refine x_geti C 57 rfl rfl inX9 21 (by decide) rfl kF_X9_119 rfl (v := (σ 57 21)) rfl dX9_see_65 ?_
            refine x_imul C dX9_see_68 ?_
            refine x_iload_n C dX9_see_69 rfl 1 rfl ?_
            obtain ⟨hb10, h⟩ := ck_some h
            refine x_iast C 68 rfl hb10 dX9_see_70 ?_
            refine x_aload_n C dX9_see_71 rfl 0 rfl ?_
            refine x_getr C 57 rfl rfl inX9 22 (by decide) rfl kF_X9_40 rfl dX9_see_72 ?_
            refine x_iconst C dX9_see_75 (v := 4) (by decide) ?_
            refine x_aload_n C dX9_see_76 rfl 0 rfl ?_
            refine x_geti C 57 rfl rfl inX9 21 (by decide) rfl kF_X9_119 rfl (v := (σ 57 21)) rfl dX9_see_77 ?_
            refine x_imul C dX9_see_80 ?_
            refine x_iconst C dX9_see_81 (v := 1) (by decide) ?_
            refine x_iadd C dX9_see_82 ?_
            refine x_iload_n C dX9_see_83 rfl 2 rfl ?_
            obtain ⟨hb11, h⟩ := ck_some h
            refine x_iast C 68 rfl hb11 dX9_see_84 ?_
            refine x_aload_n C dX9_see_85 rfl 0 rfl ?_
            refine x_getr C 57 rfl rfl inX9 22 (by decide) rfl kF_X9_40 rfl dX9_see_86 ?_
            refine x_iconst C dX9_see_89 (v := 4) (by decide) ?_
            refine x_aload_n C dX9_see_90 rfl 0 rfl ?_
            refine x_geti C 57 rfl rfl inX9 21 (by decide) rfl kF_X9_119 rfl (v := (σ 57 21)) rfl dX9_see_91 ?_
            refine x_imul C dX9_see_94 ?_
            refine x_iconst C dX9_see_95 (v := 2) (by decide) ?_
            refine x_iadd C dX9_see_96 ?_
            refine x_iload_n C dX9_see_97 rfl 3 rfl ?_
            obtain ⟨hb12, h⟩ := ck_some h
            refine x_iast C 68 rfl hb12 dX9_see_98 ?_
            refine x_aload_n C dX9_see_99 rfl 0 rfl ?_
            refine x_getr C 57 rfl rfl inX9 22 (by decide) rfl kF_X9_40 rfl dX9_see_100 ?_
            refine x_iconst C dX9_see_103 (v := 4) (by decide) ?_
            refine x_aload_n C dX9_see_104 rfl 0 rfl ?_
            refine x_geti C 57 rfl rfl inX9 21 (by decide) rfl kF_X9_119 rfl (v := (σ 57 21)) rfl dX9_see_105 ?_
            refine x_imul C dX9_see_108 ?_
            refine x_iconst C dX9_see_109 (v := 3) (by decide) ?_
            refine x_iadd C dX9_see_110 ?_
            refine x_iload C dX9_see_111 4 rfl ?_
            obtain ⟨hb13, h⟩ := ck_some h
            refine x_iast C 68 rfl hb13 dX9_see_113 ?_
            refine x_aload_n C dX9_see_114 rfl 0 rfl ?_
            refine x_dup C dX9_see_115 rfl ?_
            refine x_geti C 57 rfl rfl inX9 21 (by decide) rfl kF_X9_119 rfl (v := (σ 57 21)) rfl dX9_see_116 ?_
            refine x_iconst C dX9_see_119 (v := 1) (by decide) ?_
            refine x_iadd C dX9_see_120 ?_
            refine x_puti C 57 rfl rfl inX9 tyX9 tyX9_ok nmX9 21 (by decide) rfl kF_X9_119 rfl rfl rfl rfl dX9_see_121 ?_
            refine x_aload_n C dX9_see_124 rfl 0 rfl ?_
            refine x_geti C 57 rfl rfl inX9 21 (by decide) rfl kF_X9_119 rfl (v := ((σ 57 21) + (1 : Int32))) rfl dX9_see_125 ?_
            replace h := Option.some.inj h
            obtain ⟨rfl, rfl⟩ := Prod.mk.inj h
            exact x_ret C hr rfl rfl dX9_see_128
def f_X9_thing (x1 : Int32) (x2 : Int32) (σ : gs_H) : Option (Int32) :=
(f_X9_isThing x1 σ).bind fun q1 =>
if q1 = 0 then (
some (-101 : Int32))
else (
(f_X9_tellThing x1 x2 σ).bind fun q3 =>
some q3)
set_option maxHeartbeats 4000000 in
set_option maxRecDepth 20000 in
theorem m_X9_thing {E : gs_E} {l : Launch} {x1 : Int32} {x2 : Int32} {σ : gs_H} {g : Int64} {r0 : Int32} (h : f_X9_thing x1 x2 σ = some r0) : gs_M l E yX9_thing cX9_thing 3 (some .int) (4, 94) [.ref (gs_a E 57), .int x1, .int x2] σ g (some (.int r0)) σ g := by
  refine x_enter (lv := [(0, .ref (gs_a E 57)), (1, .int x1), (2, .int x2)]) (by decide +kernel) (Nat.le_of_ble_eq_true rfl) rfl (fun p e s m args below meth c C hr => ?_)
  unfold f_X9_thing at h
  refine x_aload_n C dX9_thing_0 rfl 0 rfl ?_
  refine x_iload_n C dX9_thing_1 rfl 1 rfl ?_
  obtain ⟨v1, hv1, h⟩ := Option.bind_eq_some_iff.mp h
  refine x_callV C 57 (m_X9_isThing hv1) rfl rfl kM_X9_176 kI_X9_isThing kS_X9_isThing kN_X9 kC_X9_isThing kD_X9_isThing rfl ⟨Nat.le_of_ble_eq_true rfl, Nat.le_of_ble_eq_true rfl⟩ ⟨Nat.le_refl _, Nat.le_refl _⟩ (rest := []) rfl (Nat.le_of_ble_eq_true rfl) dX9_thing_2 (st' := [.int v1]) rfl ?_
  by_cases hc2 : v1 = 0
  · replace h := (if_pos hc2).symm.trans h
    refine x_if_eqT C dX9_thing_5 (tgt := 17) (by decide) hc2 ?_
    refine x_bipush C dX9_thing_17 (v := -101) (by decide) ?_
    replace h := Option.some.inj h
    subst h
    exact x_ret C hr rfl rfl dX9_thing_19
  · replace h := (if_neg hc2).symm.trans h
    refine x_if_eqF C dX9_thing_5 (tgt := 17) (by decide) hc2 ?_
    refine x_aload_n C dX9_thing_8 rfl 0 rfl ?_
    refine x_iload_n C dX9_thing_9 rfl 1 rfl ?_
    refine x_iload_n C dX9_thing_10 rfl 2 rfl ?_
    obtain ⟨v3, hv3, h⟩ := Option.bind_eq_some_iff.mp h
    refine x_callV C 57 (m_X9_tellThing hv3) rfl rfl kM_X9_179 kI_X9_tellThing kS_X9_tellThing kN_X9 kC_X9_tellThing kD_X9_tellThing rfl ⟨Nat.le_of_ble_eq_true rfl, Nat.le_of_ble_eq_true rfl⟩ ⟨Nat.le_refl _, Nat.le_refl _⟩ (rest := []) rfl (Nat.le_of_ble_eq_true rfl) dX9_thing_11 (st' := [.int v3]) rfl ?_
    refine x_goto C dX9_thing_14 (tgt := 19) (by decide) ?_
    replace h := Option.some.inj h
    subst h
    exact x_ret C hr rfl rfl dX9_thing_19
def f_X9_trial (x1 : Int32) (x2 : Int32) (σ : gs_H) : Option (Int32) :=
(f_X9_isThing x1 σ).bind fun q1 =>
if q1 = 0 then (
some (-101 : Int32))
else (
(f_X9_isRod x2 σ).bind fun q3 =>
if q3 = 0 then (
some (-101 : Int32))
else (
(f_X9_trialOf x1 x2 σ).bind fun q5 =>
some q5))
set_option maxHeartbeats 4000000 in
set_option maxRecDepth 20000 in
theorem m_X9_trial {E : gs_E} {l : Launch} {x1 : Int32} {x2 : Int32} {σ : gs_H} {g : Int64} {r0 : Int32} (h : f_X9_trial x1 x2 σ = some r0) : gs_M l E yX9_trial cX9_trial 3 (some .int) (4, 102) [.ref (gs_a E 57), .int x1, .int x2] σ g (some (.int r0)) σ g := by
  refine x_enter (lv := [(0, .ref (gs_a E 57)), (1, .int x1), (2, .int x2)]) (by decide +kernel) (Nat.le_of_ble_eq_true rfl) rfl (fun p e s m args below meth c C hr => ?_)
  unfold f_X9_trial at h
  refine x_aload_n C dX9_trial_0 rfl 0 rfl ?_
  refine x_iload_n C dX9_trial_1 rfl 1 rfl ?_
  obtain ⟨v1, hv1, h⟩ := Option.bind_eq_some_iff.mp h
  refine x_callV C 57 (m_X9_isThing hv1) rfl rfl kM_X9_176 kI_X9_isThing kS_X9_isThing kN_X9 kC_X9_isThing kD_X9_isThing rfl ⟨Nat.le_of_ble_eq_true rfl, Nat.le_of_ble_eq_true rfl⟩ ⟨Nat.le_refl _, Nat.le_refl _⟩ (rest := []) rfl (Nat.le_of_ble_eq_true rfl) dX9_trial_2 (st' := [.int v1]) rfl ?_
  by_cases hc2 : v1 = 0
  · replace h := (if_pos hc2).symm.trans h
    refine x_if_eqT C dX9_trial_5 (tgt := 25) (by decide) hc2 ?_
    refine x_bipush C dX9_trial_25 (v := -101) (by decide) ?_
    replace h := Option.some.inj h
    subst h
    exact x_ret C hr rfl rfl dX9_trial_27
  · replace h := (if_neg hc2).symm.trans h
    refine x_if_eqF C dX9_trial_5 (tgt := 25) (by decide) hc2 ?_
    refine x_aload_n C dX9_trial_8 rfl 0 rfl ?_
    refine x_iload_n C dX9_trial_9 rfl 2 rfl ?_
    obtain ⟨v3, hv3, h⟩ := Option.bind_eq_some_iff.mp h
    refine x_callV C 57 (m_X9_isRod hv3) rfl rfl kM_X9_163 kI_X9_isRod kS_X9_isRod kN_X9 kC_X9_isRod kD_X9_isRod rfl ⟨Nat.le_of_ble_eq_true rfl, Nat.le_of_ble_eq_true rfl⟩ ⟨Nat.le_refl _, Nat.le_refl _⟩ (rest := []) rfl (Nat.le_of_ble_eq_true rfl) dX9_trial_10 (st' := [.int v3]) rfl ?_
    by_cases hc4 : v3 = 0
    · replace h := (if_pos hc4).symm.trans h
      refine x_if_eqT C dX9_trial_13 (tgt := 25) (by decide) hc4 ?_
      refine x_bipush C dX9_trial_25 (v := -101) (by decide) ?_
      replace h := Option.some.inj h
      subst h
      exact x_ret C hr rfl rfl dX9_trial_27
    · replace h := (if_neg hc4).symm.trans h
      refine x_if_eqF C dX9_trial_13 (tgt := 25) (by decide) hc4 ?_
      refine x_aload_n C dX9_trial_16 rfl 0 rfl ?_
      refine x_iload_n C dX9_trial_17 rfl 1 rfl ?_
      refine x_iload_n C dX9_trial_18 rfl 2 rfl ?_
      obtain ⟨v5, hv5, h⟩ := Option.bind_eq_some_iff.mp h
      refine x_callV C 57 (m_X9_trialOf hv5) rfl rfl kM_X9_239 kI_X9_trialOf kS_X9_trialOf kN_X9 kC_X9_trialOf kD_X9_trialOf rfl ⟨Nat.le_of_ble_eq_true rfl, Nat.le_of_ble_eq_true rfl⟩ ⟨Nat.le_refl _, Nat.le_refl _⟩ (rest := []) rfl (Nat.le_of_ble_eq_true rfl) dX9_trial_19 (st' := [.int v5]) rfl ?_
      refine x_goto C dX9_trial_22 (tgt := 27) (by decide) ?_
      replace h := Option.some.inj h
      subst h
      exact x_ret C hr rfl rfl dX9_trial_27
