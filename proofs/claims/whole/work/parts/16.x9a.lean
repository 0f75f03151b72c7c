def b_X9_addOf_2 (x1 : Int32) (σ : gs_H) (y : Int32) : Option ((Int32) ⊕ ((Int32) ⊕ (Int32) ⊕ (Unit))) :=
if (31 : Int32) ≤ y then (
some (Sum.inr (Sum.inr (Sum.inr ()))))
else (
if inb x1 5 then
if inb (((2 : Int32) * x1) + (1 : Int32)) 10 then
if ((σ 67 x1.toNatClampNeg) + (y * (σ 59 (((2 : Int32) * x1) + (1 : Int32)).toNatClampNeg))) = 0 then (
some (Sum.inr (Sum.inl y)))
else (
if inb x1 5 then
if inb ((2 : Int32) * x1) 10 then
if ((σ 67 x1.toNatClampNeg) - (y * (σ 59 ((2 : Int32) * x1).toNatClampNeg))) = 0 then (
some (Sum.inr (Sum.inr (Sum.inl y))))
else (
some (Sum.inl (y + (1 : Int32)))) else none else none) else none else none)
def f_X9_addOf (x1 : Int32) (σ : gs_H) : Option (Int32) :=
(lp (b_X9_addOf_2 x1 σ) 1000 (0 : Int32)).bind fun q1 =>
match q1 with
| .inl q1_0 =>
some q1_0
| .inr (.inl q1_1) =>
some ((0 : Int32) - q1_1)
| .inr (.inr q1_2) =>
some (99 : Int32)
set_option maxHeartbeats 4000000 in
set_option maxRecDepth 20000 in
theorem wl_X9_addOf_2 {E : gs_E} {l : Launch} {p : Program} {e : Env} {s : State} {m : MethodId} {args : Array Value} {below : List Frame} {meth : Method} {c : Code} (C : gs_X E RX9 cX9_addOf 3 p s m args meth c) {ov : Option Value} {σ0 : gs_H} {g0 : Int64} {x1 : Int32} {σ : gs_H} {g : Int64} {q : (Int32) ⊕ (Int32) ⊕ (Unit)} (hx0 : ∀ (z2 : Int32), q = (Sum.inl z2) → gs_V E 3 (0, 0) p l e s m args below meth c ov σ0 g0 30 [(2, .int z2)] [] σ g) (hx1 : ∀ (z2 : Int32), q = (Sum.inr (Sum.inl z2)) → gs_V E 3 (0, 0) p l e s m args below meth c ov σ0 g0 52 [(2, .int z2)] [] σ g) (hx2 : q = (Sum.inr (Sum.inr ())) → gs_V E 3 (0, 0) p l e s m args below meth c ov σ0 g0 62 [] [] σ g) : ∀ (n : Nat) (y2 : Int32), lp (b_X9_addOf_2 x1 σ) n y2 = some q → gs_V E 3 (0, 0) p l e s m args below meth c ov σ0 g0 2 [(0, .ref (gs_a E 57)), (1, .int x1), (2, .int y2)] [] σ g := by
  intro n
  induction n with
  | zero => intro y2 h; cases h
  | succ n ih =>
    intro y2 h
    obtain ⟨r, h, hl, he⟩ := lp_step h
    have hc := fun (y2 : Int32) (hr : r = Sum.inl y2) => ih y2 (hl _ hr)
    have hk0 := fun (z2 : Int32) (hr : r = Sum.inr (Sum.inl z2)) => hx0 z2 (he _ hr).symm
    have hk1 := fun (z2 : Int32) (hr : r = Sum.inr (Sum.inr (Sum.inl z2))) => hx1 z2 (he _ hr).symm
    have hk2 := fun (hr : r = Sum.inr (Sum.inr (Sum.inr ()))) => hx2 (he _ hr).symm
    unfold b_X9_addOf_2 at h
    try dsimp only at h
    refine x_iload_n C dX9_addOf_2 rfl 2 rfl ?_
    refine x_bipush C dX9_addOf_3 (v := 31) (by decide) ?_
    by_cases hc1 : (31 : Int32) ≤ y2
    · replace h := (if_pos hc1).symm.trans h
      refine x_icmp_geT C dX9_addOf_5 (tgt := 62) (by decide) hc1 ?_
      refine x_lv (lv' := []) [] rfl ?_
      obtain rfl := Option.some.inj h
      exact hk2  rfl
    · replace h := (if_neg hc1).symm.trans h
      refine x_icmp_geF C dX9_addOf_5 (tgt := 62) (by decide) hc1 ?_
      refine x_aload_n C dX9_addOf_8 rfl 0 rfl ?_
      refine x_getr C 57 rfl rfl inX9 19 (by decide) rfl kF_X9_37 rfl dX9_addOf_9 ?_
      refine x_iload_n C dX9_addOf_12 rfl 1 rfl ?_
      obtain ⟨hb2, h⟩ := ck_some h
      refine x_iald C 67 rfl hb2 (v := (σ 67 x1.toNatClampNeg)) rfl dX9_addOf_13 ?_
      refine x_iload_n C dX9_addOf_14 rfl 2 rfl ?_
      refine x_aload_n C dX9_addOf_15 rfl 0 rfl ?_
      refine x_getr C 57 rfl rfl inX9 10 (by decide) rfl kF_X9_13 rfl dX9_addOf_16 ?_
      refine x_iconst C dX9_addOf_19 (v := 2) (by decide) ?_
      refine x_iload_n C dX9_addOf_20 rfl 1 rfl ?_
      refine x_imul C dX9_addOf_21 ?_
      refine x_iconst C dX9_addOf_22 (v := 1) (by decide) ?_
      refine x_iadd C dX9_addOf_23 ?_
      obtain ⟨hb3, h⟩ := ck_some h
      refine x_iald C 59 rfl hb3 (v := (σ 59 (((2 : Int32) * x1) + (1 : Int32)).toNatClampNeg)) rfl dX9_addOf_24 ?_
      refine x_imul C dX9_addOf_25 ?_
      refine x_iadd C dX9_addOf_26 ?_
      by_cases hc4 : ((σ 67 x1.toNatClampNeg) + (y2 * (σ 59 (((2 : Int32) * x1) + (1 : Int32)).toNatClampNeg))) = 0
      · replace h := (if_pos hc4).symm.trans h
        refine x_if_neF C dX9_addOf_27 (tgt := 32) (by decide) hc4 ?_
        refine x_lv (lv' := [(2, .int y2)]) [2] rfl ?_
        obtain rfl := Option.some.inj h
        exact hk0 y2 rfl
      · replace h := (if_neg hc4).symm.trans h
        refine x_if_neT C dX9_addOf_27 (tgt := 32) (by decide) hc4 ?_
        refine x_aload_n C dX9_addOf_32 rfl 0 rfl ?_
        refine x_getr C 57 rfl rfl inX9 19 (by decide) rfl kF_X9_37 rfl dX9_addOf_33 ?_
        refine x_iload_n C dX9_addOf_36 rfl 1 rfl ?_
        obtain ⟨hb5, h⟩ := ck_some h
        refine x_iald C 67 rfl hb5 (v := (σ 67 x1.toNatClampNeg)) rfl dX9_addOf_37 ?_
        refine x_iload_n C dX9_addOf_38 rfl 2 rfl ?_
        refine x_aload_n C dX9_addOf_39 rfl 0 rfl ?_
        refine x_getr C 57 rfl rfl inX9 10 (by decide) rfl kF_X9_13 rfl dX9_addOf_40 ?_
        refine x_iconst C dX9_addOf_43 (v := 2) (by decide) ?_
        refine x_iload_n C dX9_addOf_44 rfl 1 rfl ?_
        refine x_imul C dX9_addOf_45 ?_
        obtain ⟨hb6, h⟩ := ck_some h
        refine x_iald C 59 rfl hb6 (v := (σ 59 ((2 : Int32) * x1).toNatClampNeg)) rfl dX9_addOf_46 ?_
        refine x_imul C dX9_addOf_47 ?_
        refine x_isub C dX9_addOf_48 ?_
        by_cases hc7 : ((σ 67 x1.toNatClampNeg) - (y2 * (σ 59 ((2 : Int32) * x1).toNatClampNeg))) = 0
        · replace h := (if_pos hc7).symm.trans h
          refine x_if_neF C dX9_addOf_49 (tgt := 56) (by decide) hc7 ?_
          refine x_lv (lv' := [(2, .int y2)]) [2] rfl ?_
          obtain rfl := Option.some.inj h
          exact hk1 y2 rfl
        · replace h := (if_neg hc7).symm.trans h
          refine x_if_neT C dX9_addOf_49 (tgt := 56) (by decide) hc7 ?_
          refine x_iinc C dX9_addOf_56 2 rfl (v := (y2 + (1 : Int32))) rfl (lv2 := [(0, .ref (gs_a E 57)), (1, .int x1), (2, .int (y2 + (1 : Int32)))]) (by decide) rfl [1, 2, 0] rfl ?_
          refine x_goto C dX9_addOf_59 (tgt := 2) (by decide) ?_
          obtain rfl := Option.some.inj h
          exact hc (y2 + (1 : Int32)) rfl
set_option maxHeartbeats 4000000 in
set_option maxRecDepth 20000 in
theorem m_X9_addOf {E : gs_E} {l : Launch} {x1 : Int32} {σ : gs_H} {g : Int64} {r0 : Int32} (h : f_X9_addOf x1 σ = some r0) : gs_M l E yX9_addOf cX9_addOf 3 (some .int) (0, 0) [.ref (gs_a E 57), .int x1] σ g (some (.int r0)) σ g := by
  refine x_enter (lv := [(0, .ref (gs_a E 57)), (1, .int x1)]) (by decide +kernel) (Nat.le_of_ble_eq_true rfl) rfl (fun p e s m args below meth c C hr => ?_)
  unfold f_X9_addOf at h
  refine x_iconst C dX9_addOf_0 (v := 0) (by decide) ?_
  refine x_istore_n C dX9_addOf_1 rfl (lv2 := [(0, .ref (gs_a E 57)), (1, .int x1), (2, .int (0 : Int32))]) (by decide) rfl [1, 2, 0] rfl ?_
  obtain ⟨q1, hq1, h⟩ := Option.bind_eq_some_iff.mp h
  refine wl_X9_addOf_2 C (fun v1_0_2 hz => ?_) (fun v1_1_2 hz => ?_) (fun  hz => ?_) 1000 _ hq1
  · subst q1
    try dsimp only at h
    refine x_iload_n C dX9_addOf_30 rfl 0 rfl ?_
    replace h := Option.some.inj h
    subst h
    exact x_ret C hr rfl rfl dX9_addOf_31
  · subst q1
    try dsimp only at h
    refine x_iconst C dX9_addOf_52 (v := 0) (by decide) ?_
    refine x_iload_n C dX9_addOf_53 rfl 0 rfl ?_
    refine x_isub C dX9_addOf_54 ?_
    replace h := Option.some.inj h
    subst h
    exact x_ret C hr rfl rfl dX9_addOf_55
  · subst q1
    try dsimp only at h
    refine x_bipush C dX9_addOf_62 (v := 99) (by decide) ?_
    replace h := Option.some.inj h
    subst h
    exact x_ret C hr rfl rfl dX9_addOf_64
def b_X9_armOf_2 (x1 : Int32) (σ : gs_H) (y : Int32) : Option ((Int32) ⊕ ((Int32))) :=
if inb y 6 then
if (σ 64 y.toNatClampNeg) = x1 then (
some (Sum.inr y))
else (
some (Sum.inl (y + (1 : Int32)))) else none
def f_X9_armOf (x1 : Int32) (σ : gs_H) : Option (Int32) :=
(lp (b_X9_armOf_2 x1 σ) 1000 (0 : Int32)).bind fun q1 =>
if inb q1 6 then
some (σ 61 q1.toNatClampNeg) else none
set_option maxHeartbeats 4000000 in
set_option maxRecDepth 20000 in
theorem wl_X9_armOf_2 {E : gs_E} {l : Launch} {p : Program} {e : Env} {s : State} {m : MethodId} {args : Array Value} {below : List Frame} {meth : Method} {c : Code} (C : gs_X E RX9 cX9_armOf 3 p s m args meth c) {ov : Option Value} {σ0 : gs_H} {g0 : Int64} {x1 : Int32} {σ : gs_H} {g : Int64} {q : (Int32)} (hx0 : ∀ (z2 : Int32), q = z2 → gs_V E 3 (0, 0) p l e s m args below meth c ov σ0 g0 18 [(0, .ref (gs_a E 57)), (2, .int z2)] [] σ g) : ∀ (n : Nat) (y2 : Int32), lp (b_X9_armOf_2 x1 σ) n y2 = some q → gs_V E 3 (0, 0) p l e s m args below meth c ov σ0 g0 2 [(0, .ref (gs_a E 57)), (1, .int x1), (2, .int y2)] [] σ g := by
  intro n
  induction n with
  | zero => intro y2 h; cases h
  | succ n ih =>
    intro y2 h
    obtain ⟨r, h, hl, he⟩ := lp_step h
    have hc := fun (y2 : Int32) (hr : r = Sum.inl y2) => ih y2 (hl _ hr)
    have hk0 := fun (z2 : Int32) (hr : r = Sum.inr z2) => hx0 z2 (he _ hr).symm
    unfold b_X9_armOf_2 at h
    try dsimp only at h
    refine x_aload_n C dX9_armOf_2 rfl 0 rfl ?_
    refine x_getr C 57 rfl rfl inX9 15 (by decide) rfl kF_X9_28 rfl dX9_armOf_3 ?_
    refine x_iload_n C dX9_armOf_6 rfl 2 rfl ?_
    obtain ⟨hb1, h⟩ := ck_some h
    refine x_iald C 64 rfl hb1 (v := (σ 64 y2.toNatClampNeg)) rfl dX9_armOf_7 ?_
    refine x_iload_n C dX9_armOf_8 rfl 1 rfl ?_
    by_cases hc2 : (σ 64 y2.toNatClampNeg) = x1
    · replace h := (if_pos hc2).symm.trans h
      refine x_icmp_eqT C dX9_armOf_9 (tgt := 18) (by decide) hc2 ?_
      refine x_lv (lv' := [(0, .ref (gs_a E 57)), (2, .int y2)]) [0, 2] rfl ?_
      obtain rfl := Option.some.inj h
      exact hk0 y2 rfl
    · replace h := (if_neg hc2).symm.trans h
      refine x_icmp_eqF C dX9_armOf_9 (tgt := 18) (by decide) hc2 ?_
      refine x_iinc C dX9_armOf_12 2 rfl (v := (y2 + (1 : Int32))) rfl (lv2 := [(0, .ref (gs_a E 57)), (1, .int x1), (2, .int (y2 + (1 : Int32)))]) (by decide) rfl [1, 2, 0] rfl ?_
      refine x_goto C dX9_armOf_15 (tgt := 2) (by decide) ?_
      obtain rfl := Option.some.inj h
      exact hc (y2 + (1 : Int32)) rfl
set_option maxHeartbeats 4000000 in
set_option maxRecDepth 20000 in
theorem m_X9_armOf {E : gs_E} {l : Launch} {x1 : Int32} {σ : gs_H} {g : Int64} {r0 : Int32} (h : f_X9_armOf x1 σ = some r0) : gs_M l E yX9_armOf cX9_armOf 3 (some .int) (0, 0) [.ref (gs_a E 57), .int x1] σ g (some (.int r0)) σ g := by
  refine x_enter (lv := [(0, .ref (gs_a E 57)), (1, .int x1)]) (by decide +kernel) (Nat.le_of_ble_eq_true rfl) rfl (fun p e s m args below meth c C hr => ?_)
  unfold f_X9_armOf at h
  refine x_iconst C dX9_armOf_0 (v := 0) (by decide) ?_
  refine x_istore_n C dX9_armOf_1 rfl (lv2 := [(0, .ref (gs_a E 57)), (1, .int x1), (2, .int (0 : Int32))]) (by decide) rfl [1, 2, 0] rfl ?_
  obtain ⟨q1, hq1, h⟩ := Option.bind_eq_some_iff.mp h
  refine wl_X9_armOf_2 C (fun v1_0_2 hz => ?_) 1000 _ hq1
  subst q1
  try dsimp only at h
  refine x_aload_n C dX9_armOf_18 rfl 0 rfl ?_
  refine x_getr C 57 rfl rfl inX9 12 (by decide) rfl kF_X9_19 rfl dX9_armOf_19 ?_
  refine x_iload_n C dX9_armOf_22 rfl 1 rfl ?_
  obtain ⟨hb2, h⟩ := ck_some h
  refine x_iald C 61 rfl hb2 (v := (σ 61 v1_0_2.toNatClampNeg)) rfl dX9_armOf_23 ?_
  replace h := Option.some.inj h
  subst h
  exact x_ret C hr rfl rfl dX9_armOf_24
def f_X9_in (x0 : Int64) (x2 : Int64) (x4 : Int64) : Int32 :=
if (lg_cmp x0 x2) < 0 then (
(0 : Int32))
else (
if 0 < (lg_cmp x0 x4) then (
(0 : Int32))
else (
(1 : Int32)))
set_option maxHeartbeats 4000000 in
set_option maxRecDepth 20000 in
theorem m_X9_in {E : gs_E} {l : Launch} {x0 : Int64} {x2 : Int64} {x4 : Int64} {σ : gs_H} {g : Int64} {r0 : Int32} (h : f_X9_in x0 x2 x4 = r0) : gs_M l E yX9_in cX9_in 6 (some .boolean) (0, 0) [.long x0, .long x2, .long x4] σ g (some (.int r0)) σ g := by
  refine x_enter (lv := [(0, .long x0), (2, .long x2), (4, .long x4)]) (by decide +kernel) (Nat.le_of_ble_eq_true rfl) rfl (fun p e s m args below meth c C hr => ?_)
  unfold f_X9_in at h
  refine x_lload_n C dX9_in_0 rfl 0 rfl ?_
  refine x_lload_n C dX9_in_1 rfl 1 rfl ?_
  refine x_lcmp C dX9_in_2 ?_
  by_cases hc1 : (lg_cmp x0 x2) < 0
  · replace h := (if_pos hc1).symm.trans h
    refine x_if_ltT C dX9_in_3 (tgt := 17) (by decide) hc1 ?_
    refine x_iconst C dX9_in_17 (v := 0) (by decide) ?_
    subst h
    exact x_retb C hr (by decide) rfl dX9_in_18
  · replace h := (if_neg hc1).symm.trans h
    refine x_if_ltF C dX9_in_3 (tgt := 17) (by decide) hc1 ?_
    refine x_lload_n C dX9_in_6 rfl 0 rfl ?_
    refine x_lload C dX9_in_7 2 rfl ?_
    refine x_lcmp C dX9_in_9 ?_
    by_cases hc2 : 0 < (lg_cmp x0 x4)
    · replace h := (if_pos hc2).symm.trans h
      refine x_if_gtT C dX9_in_10 (tgt := 17) (by decide) hc2 ?_
      refine x_iconst C dX9_in_17 (v := 0) (by decide) ?_
      subst h
      exact x_retb C hr (by decide) rfl dX9_in_18
    · replace h := (if_neg hc2).symm.trans h
      refine x_if_gtF C dX9_in_10 (tgt := 17) (by decide) hc2 ?_
      refine x_iconst C dX9_in_13 (v := 1) (by decide) ?_
      refine x_goto C dX9_in_14 (tgt := 18) (by decide) ?_
      subst h
      exact x_retb C hr (by decide) rfl dX9_in_18
def f_X9_isThing (x1 : Int32) (σ : gs_H) : Option (Int32) :=
if (f_X9_in x1.toInt64 (0 : Int64) ((σ 57 5) - (1 : Int32)).toInt64) = 0 ∨ (f_X9_in x1.toInt64 (0 : Int64) ((σ 57 5) - (1 : Int32)).toInt64) = 1 then
some (f_X9_in x1.toInt64 (0 : Int64) ((σ 57 5) - (1 : Int32)).toInt64) else none
set_option maxHeartbeats 4000000 in
set_option maxRecDepth 20000 in
theorem m_X9_isThing {E : gs_E} {l : Launch} {x1 : Int32} {σ : gs_H} {g : Int64} {r0 : Int32} (h : f_X9_isThing x1 σ = some r0) : gs_M l E yX9_isThing cX9_isThing 2 (some .boolean) (1, 25) [.ref (gs_a E 57), .int x1] σ g (some (.int r0)) σ g := by
  refine x_enter (lv := [(0, .ref (gs_a E 57)), (1, .int x1)]) (by decide +kernel) (Nat.le_of_ble_eq_true rfl) rfl (fun p e s m args below meth c C hr => ?_)
  unfold f_X9_isThing at h
  refine x_iload_n C dX9_isThing_0 rfl 1 rfl ?_
  refine x_i2l C dX9_isThing_1 ?_
  refine x_lconst C dX9_isThing_2 (v := 0) (by decide) ?_
  refine x_aload_n C dX9_isThing_3 rfl 0 rfl ?_
  refine x_geti C 57 rfl rfl inX9 5 (by decide) rfl kF_X9_107 rfl (v := (σ 57 5)) rfl dX9_isThing_4 ?_
  refine x_iconst C dX9_isThing_7 (v := 1) (by decide) ?_
  refine x_isub C dX9_isThing_8 ?_
  refine x_i2l C dX9_isThing_9 ?_
  refine x_callS C (m_X9_in rfl) kM_X9_64 kT_X9_in kN_X9 kC_X9_in kD_X9_in rfl ⟨Nat.le_of_ble_eq_true rfl, Nat.le_of_ble_eq_true rfl⟩ ⟨Nat.le_refl _, Nat.le_refl _⟩ (rest := []) rfl (Nat.le_of_ble_eq_true rfl) dX9_isThing_10 (st' := [.int (f_X9_in x1.toInt64 (0 : Int64) ((σ 57 5) - (1 : Int32)).toInt64)]) rfl ?_
  obtain ⟨hbo, h⟩ := ck_some h
  replace h := Option.some.inj h
  subst h
  exact x_retb C hr hbo rfl dX9_isThing_13
def j_X9_as_60 (x1 : Int32) (t0 : Int32) (σ : gs_H) : Option (Int32) :=
if t0 = 0 then (
some (-1 : Int32))
else (
some x1)
def j_X9_as_55 (x1 : Int32) (σ : gs_H) : Option (Int32) :=
j_X9_as_60 x1 (1 : Int32) σ
def j_X9_as_59 (x1 : Int32) (σ : gs_H) : Option (Int32) :=
j_X9_as_60 x1 (0 : Int32) σ
def f_X9_as (x1 : Int32) (x2 : Int32) (σ : gs_H) : Option (Int32) :=
(f_X9_isThing x1 σ).bind fun q1 =>
if q1 = 0 then (
some (-101 : Int32))
else (
if (f_X9_in x2.toInt64 (0 : Int64) (4 : Int64)) = 0 then (
some (-102 : Int32))
else (
if x2 = 0 then (
j_X9_as_55 x1 σ)
else (
if inb x1 6 then
if x2 = (σ 62 x1.toNatClampNeg) then (
j_X9_as_55 x1 σ)
else (
if x2 = (1 : Int32) then (
if inb x1 6 then
if (σ 62 x1.toNatClampNeg) = (4 : Int32) then (
j_X9_as_55 x1 σ)
else (
j_X9_as_59 x1 σ) else none)
else (
j_X9_as_59 x1 σ)) else none)))
set_option maxHeartbeats 4000000 in
set_option maxRecDepth 20000 in
theorem wj_X9_as_60 {E : gs_E} {l : Launch} {p : Program} {e : Env} {s : State} {m : MethodId} {args : Array Value} {below : List Frame} {meth : Method} {c : Code} (C : gs_X E RX9 cX9_as 4 p s m args meth c) {x1 : Int32} {t0 : Int32} {σ : gs_H} {g : Int64} {r0 : Int32} (hr : meth.sig.returnType = some .int) (h : j_X9_as_60 x1 t0 σ = some r0) : gs_V E 4 (2, 46) p l e s m args below meth c (some (.int r0)) σ g 60 [(1, .int x1)] [.int t0] σ g := by
  unfold j_X9_as_60 at h
  refine x_istore_n C dX9_as_60 rfl (lv2 := [(1, .int x1), (3, .int t0)]) (by decide) rfl [1, 0] rfl ?_
  refine x_iload_n C dX9_as_61 rfl 1 rfl ?_
  by_cases hc1 : t0 = 0
  · replace h := (if_pos hc1).symm.trans h
    refine x_if_eqT C dX9_as_62 (tgt := 69) (by decide) hc1 ?_
    refine x_iconst C dX9_as_69 (v := -1) (by decide) ?_
    replace h := Option.some.inj h
    subst h
    exact x_ret C hr rfl rfl dX9_as_70
  · replace h := (if_neg hc1).symm.trans h
    refine x_if_eqF C dX9_as_62 (tgt := 69) (by decide) hc1 ?_
    refine x_iload_n C dX9_as_65 rfl 0 rfl ?_
    refine x_goto C dX9_as_66 (tgt := 70) (by decide) ?_
    replace h := Option.some.inj h
    subst h
    exact x_ret C hr rfl rfl dX9_as_70
set_option maxHeartbeats 4000000 in
set_option maxRecDepth 20000 in
theorem wj_X9_as_55 {E : gs_E} {l : Launch} {p : Program} {e : Env} {s : State} {m : MethodId} {args : Array Value} {below : List Frame} {meth : Method} {c : Code} (C : gs_X E RX9 cX9_as 4 p s m args meth c) {x1 : Int32} {σ : gs_H} {g : Int64} {r0 : Int32} (hr : meth.sig.returnType = some .int) (h : j_X9_as_55 x1 σ = some r0) : gs_V E 4 (2, 46) p l e s m args below meth c (some (.int r0)) σ g 55 [(1, .int x1)] [] σ g := by
  unfold j_X9_as_55 at h
  refine x_iconst C dX9_as_55 (v := 1) (by decide) ?_
  refine x_goto C dX9_as_56 (tgt := 60) (by decide) ?_
  exact wj_X9_as_60 C hr h
set_option maxHeartbeats 4000000 in
set_option maxRecDepth 20000 in
theorem wj_X9_as_59 {E : gs_E} {l : Launch} {p : Program} {e : Env} {s : State} {m : MethodId} {args : Array Value} {below : List Frame} {meth : Method} {c : Code} (C : gs_X E RX9 cX9_as 4 p s m args meth c) {x1 : Int32} {σ : gs_H} {g : Int64} {r0 : Int32} (hr : meth.sig.returnType = some .int) (h : j_X9_as_59 x1 σ = some r0) : gs_V E 4 (2, 46) p l e s m args below meth c (some (.int r0)) σ g 59 [(1, .int x1)] [] σ g := by
  unfold j_X9_as_59 at h
  refine x_iconst C dX9_as_59 (v := 0) (by decide) ?_
  exact wj_X9_as_60 C hr h
set_option maxHeartbeats 4000000 in
set_option maxRecDepth 20000 in
theorem m_X9_as {E : gs_E} {l : Launch} {x1 : Int32} {x2 : Int32} {σ : gs_H} {g : Int64} {r0 : Int32} (h : f_X9_as x1 x2 σ = some r0) : gs_M l E yX9_as cX9_as 4 (some .int) (2, 46) [.ref (gs_a E 57), .int x1, .int x2] σ g (some (.int r0)) σ g := by
  refine x_enter (lv := [(0, .ref (gs_a E 57)), (1, .int x1), (2, .int x2)]) (by decide +kernel) (Nat.le_of_ble_eq_true rfl) rfl (fun p e s m args below meth c C hr => ?_)
  unfold f_X9_as at h
  refine x_aload_n C dX9_as_0 rfl 0 rfl ?_
  refine x_iload_n C dX9_as_1 rfl 1 rfl ?_
  obtain ⟨v1, hv1, h⟩ := Option.bind_eq_some_iff.mp h
  refine x_callV C 57 (m_X9_isThing hv1) rfl rfl kM_X9_176 kI_X9_isThing kS_X9_isThing kN_X9 kC_X9_isThing kD_X9_isThing rfl ⟨Nat.le_of_ble_eq_true rfl, Nat.le_of_ble_eq_true rfl⟩ ⟨Nat.le_refl _, Nat.le_refl _⟩ (rest := []) rfl (Nat.le_of_ble_eq_true rfl) dX9_as_2 (st' := [.int v1]) rfl ?_
  by_cases hc2 : v1 = 0
  · replace h := (if_pos hc2).symm.trans h
    refine x_if_neF C dX9_as_5 (tgt := 11) (by decide) hc2 ?_
    refine x_bipush C dX9_as_8 (v := -101) (by decide) ?_
    replace h := Option.some.inj h
    subst h
    exact x_ret C hr rfl rfl dX9_as_10
  · replace h := (if_neg hc2).symm.trans h
    refine x_if_neT C dX9_as_5 (tgt := 11) (by decide) hc2 ?_
    refine x_iload_n C dX9_as_11 rfl 2 rfl ?_
    refine x_i2l C dX9_as_12 ?_
    refine x_lconst C dX9_as_13 (v := 0) (by decide) ?_
    refine x_ldc2 C kK_X9_71 dX9_as_14 ?_
    refine x_callS C (m_X9_in rfl) kM_X9_64 kT_X9_in kN_X9 kC_X9_in kD_X9_in rfl ⟨Nat.le_of_ble_eq_true rfl, Nat.le_of_ble_eq_true rfl⟩ ⟨Nat.le_refl _, Nat.le_refl _⟩ (rest := []) rfl (Nat.le_of_ble_eq_true rfl) dX9_as_17 (st' := [.int (f_X9_in x2.toInt64 (0 : Int64) (4 : Int64))]) rfl ?_
    by_cases hc4 : (f_X9_in x2.toInt64 (0 : Int64) (4 : Int64)) = 0
    · replace h := (if_pos hc4).symm.trans h
      refine x_if_neF C dX9_as_20 (tgt := 26) (by decide) hc4 ?_
      refine x_bipush C dX9_as_23 (v := -102) (by decide) ?_
      replace h := Option.some.inj h
      subst h
      exact x_ret C hr rfl rfl dX9_as_25
    · replace h := (if_neg hc4).symm.trans h
      refine x_if_neT C dX9_as_20 (tgt := 26) (by decide) hc4 ?_
      refine x_iload_n C dX9_as_26 rfl 2 rfl ?_
      by_cases hc5 : x2 = 0
      · replace h := (if_pos hc5).symm.trans h
        refine x_if_eqT C dX9_as_27 (tgt := 55) (by decide) hc5 ?_
        refine x_lv (lv' := [(1, .int x1)]) [1] rfl ?_
        exact wj_X9_as_55 C hr h
      · replace h := (if_neg hc5).symm.trans h
        refine x_if_eqF C dX9_as_27 (tgt := 55) (by decide) hc5 ?_
        refine x_iload_n C dX9_as_30 rfl 2 rfl ?_
        refine x_aload_n C dX9_as_31 rfl 0 rfl ?_
        refine x_getr C 57 rfl rfl inX9 13 (by decide) rfl kF_X9_22 rfl dX9_as_32 ?_
        refine x_iload_n C dX9_as_35 rfl 1 rfl ?_
        obtain ⟨hb6, h⟩ := ck_some h
        refine x_iald C 62 rfl hb6 (v := (σ 62 x1.toNatClampNeg)) rfl dX9_as_36 ?_
        by_cases hc7 : x2 = (σ 62 x1.toNatClampNeg)
        · replace h := (if_pos hc7).symm.trans h
          refine x_icmp_eqT C dX9_as_37 (tgt := 55) (by decide) hc7 ?_
          refine x_lv (lv' := [(1, .int x1)]) [1] rfl ?_
          exact wj_X9_as_55 C hr h
        · replace h := (if_neg hc7).symm.trans h
          refine x_icmp_eqF C dX9_as_37 (tgt := 55) (by decide) hc7 ?_
          refine x_iload_n C dX9_as_40 rfl 2 rfl ?_
          refine x_iconst C dX9_as_41 (v := 1) (by decide) ?_
          by_cases hc8 : x2 = (1 : Int32)
          · replace h := (if_pos hc8).symm.trans h
            refine x_icmp_neF C dX9_as_42 (tgt := 59) (by decide) hc8 ?_
            refine x_aload_n C dX9_as_45 rfl 0 rfl ?_
            refine x_getr C 57 rfl rfl inX9 13 (by decide) rfl kF_X9_22 rfl dX9_as_46 ?_
            refine x_iload_n C dX9_as_49 rfl 1 rfl ?_
            obtain ⟨hb9, h⟩ := ck_some h
            refine x_iald C 62 rfl hb9 (v := (σ 62 x1.toNatClampNeg)) rfl dX9_as_50 ?_
            refine x_iconst C dX9_as_51 (v := 4) (by decide) ?_
            by_cases hc10 : (σ 62 x1.toNatClampNeg) = (4 : Int32)
            · replace h := (if_pos hc10).symm.trans h
              refine x_icmp_neF C dX9_as_52 (tgt := 59) (by decide) hc10 ?_
              refine x_lv (lv' := [(1, .int x1)]) [1] rfl ?_
              exact wj_X9_as_55 C hr h
            · replace h := (if_neg hc10).symm.trans h
              refine x_icmp_neT C dX9_as_52 (tgt := 59) (by decide) hc10 ?_
              refine x_lv (lv' := [(1, .int x1)]) [1] rfl ?_
              exact wj_X9_as_59 C hr h
          · replace h := (if_neg hc8).symm.trans h
            refine x_icmp_neT C dX9_as_42 (tgt := 59) (by decide) hc8 ?_
            refine x_lv (lv' := [(1, .int x1)]) [1] rfl ?_
            exact wj_X9_as_59 C hr h
def b_X9_copy_2 (ar : Nat) (br : Nat) (y : Int32 × gs_H) : Option ((Int32 × gs_H) ⊕ ((gs_H))) :=
if (Int32.ofNat (al ar)) ≤ y.1 then (
some (Sum.inr y.2))
else (
if inb y.1 (al ar) then
if inb y.1 (al br) then
some (Sum.inl ((y.1 + (1 : Int32)), (up2 y.2 br y.1.toNatClampNeg (y.2 ar y.1.toNatClampNeg)))) else none else none)
def f_X9_copy (ar : Nat) (br : Nat) (σ : gs_H) : Option (gs_H) :=
(lp (b_X9_copy_2 ar br) 1000 ((0 : Int32), σ)).bind fun q1 =>
some q1
set_option maxHeartbeats 4000000 in
set_option maxRecDepth 20000 in
theorem wl_X9_copy_2_64_65 {E : gs_E} {l : Launch} {p : Program} {e : Env} {s : State} {m : MethodId} {args : Array Value} {below : List Frame} {meth : Method} {c : Code} (C : gs_X E RX9 cX9_copy 3 p s m args meth c) {ov : Option Value} {σ0 : gs_H} {g0 : Int64} {g : Int64} {q : (gs_H)} (hx0 : ∀ (zs : gs_H), q = zs → gs_V E 3 (0, 0) p l e s m args below meth c ov σ0 g0 20 [] [] zs g) : ∀ (n : Nat) (y2 : Int32) (ys : gs_H), lp (b_X9_copy_2 64 65) n (y2, ys) = some q → gs_V E 3 (0, 0) p l e s m args below meth c ov σ0 g0 2 [(0, .ref (gs_a E 64)), (1, .ref (gs_a E 65)), (2, .int y2)] [] ys g := by
  intro n
  induction n with
  | zero => intro y2 ys h; cases h
  | succ n ih =>
    intro y2 ys h
    obtain ⟨r, h, hl, he⟩ := lp_step h
    have hc := fun (y2 : Int32) (ys : gs_H) (hr : r = Sum.inl (y2, ys)) => ih y2 ys (hl _ hr)
    have hk0 := fun (zs : gs_H) (hr : r = Sum.inr zs) => hx0 zs (he _ hr).symm
    unfold b_X9_copy_2 at h
    try dsimp only at h
    refine x_iload_n C dX9_copy_2 rfl 2 rfl ?_
    refine x_aload_n C dX9_copy_3 rfl 0 rfl ?_
    refine x_alen C 64 rfl (v := (Int32.ofNat (al 64))) (by first | rfl | decide) dX9_copy_4 ?_
    by_cases hc1 : (Int32.ofNat (al 64)) ≤ y2
    · replace h := (if_pos hc1).symm.trans h
      refine x_icmp_geT C dX9_copy_5 (tgt := 20) (by decide) hc1 ?_
      refine x_lv (lv' := []) [] rfl ?_
      obtain rfl := Option.some.inj h
      exact hk0 ys rfl
    · replace h := (if_neg hc1).symm.trans h
      refine x_icmp_geF C dX9_copy_5 (tgt := 20) (by decide) hc1 ?_
      refine x_aload_n C dX9_copy_8 rfl 1 rfl ?_
      refine x_iload_n C dX9_copy_9 rfl 2 rfl ?_
      refine x_aload_n C dX9_copy_10 rfl 0 rfl ?_
      refine x_iload_n C dX9_copy_11 rfl 2 rfl ?_
      obtain ⟨hb2, h⟩ := ck_some h
      refine x_iald C 64 rfl hb2 (v := (ys 64 y2.toNatClampNeg)) rfl dX9_copy_12 ?_
      obtain ⟨hb3, h⟩ := ck_some h
      refine x_iast C 65 rfl hb3 dX9_copy_13 ?_
      refine x_iinc C dX9_copy_14 2 rfl (v := (y2 + (1 : Int32))) rfl (lv2 := [(0, .ref (gs_a E 64)), (1, .ref (gs_a E 65)), (2, .int (y2 + (1 : Int32)))]) (by decide) rfl [1, 2, 0] rfl ?_
      refine x_goto C dX9_copy_17 (tgt := 2) (by decide) ?_
      obtain rfl := Option.some.inj h
      exact hc (y2 + (1 : Int32)) (up2 ys 65 y2.toNatClampNeg (ys 64 y2.toNatClampNeg)) rfl
set_option maxHeartbeats 4000000 in
set_option maxRecDepth 20000 in
theorem m_X9_copy_64_65 {E : gs_E} {l : Launch} {σ : gs_H} {g : Int64} {σ0 : gs_H} (h : f_X9_copy 64 65 σ = some σ0) : gs_M l E yX9_copy cX9_copy 3 (none) (0, 0) [.ref (gs_a E 64), .ref (gs_a E 65)] σ g (none) σ0 g := by
  refine x_enter (lv := [(0, .ref (gs_a E 64)), (1, .ref (gs_a E 65))]) (by decide +kernel) (Nat.le_of_ble_eq_true rfl) rfl (fun p e s m args below meth c C hr => ?_)
  unfold f_X9_copy at h
  refine x_iconst C dX9_copy_0 (v := 0) (by decide) ?_
  refine x_istore_n C dX9_copy_1 rfl (lv2 := [(0, .ref (gs_a E 64)), (1, .ref (gs_a E 65)), (2, .int (0 : Int32))]) (by decide) rfl [1, 2, 0] rfl ?_
  obtain ⟨q1, hq1, h⟩ := Option.bind_eq_some_iff.mp h
  refine wl_X9_copy_2_64_65 C (fun s1_0 hz => ?_) 1000 _ _ hq1
  subst q1
  try dsimp only at h
  replace h := Option.some.inj h
  subst h
  exact x_retv C hr rfl dX9_copy_20
set_option maxHeartbeats 4000000 in
set_option maxRecDepth 20000 in
theorem wl_X9_copy_2_72_64 {E : gs_E} {l : Launch} {p : Program} {e : Env} {s : State} {m : MethodId} {args : Array Value} {below : List Frame} {meth : Method} {c : Code} (C : gs_X E RX9 cX9_copy 3 p s m args meth c) {ov : Option Value} {σ0 : gs_H} {g0 : Int64} {g : Int64} {q : (gs_H)} (hx0 : ∀ (zs : gs_H), q = zs → gs_V E 3 (0, 0) p l e s m args below meth c ov σ0 g0 20 [] [] zs g) : ∀ (n : Nat) (y2 : Int32) (ys : gs_H), lp (b_X9_copy_2 72 64) n (y2, ys) = some q → gs_V E 3 (0, 0) p l e s m args below meth c ov σ0 g0 2 [(0, .ref (gs_a E 72)), (1, .ref (gs_a E 64)), (2, .int y2)] [] ys g := by
  intro n
  induction n with
  | zero => intro y2 ys h; cases h
  | succ n ih =>
    intro y2 ys h
    obtain ⟨r, h, hl, he⟩ := lp_step h
    have hc := fun (y2 : Int32) (ys : gs_H) (hr : r = Sum.inl (y2, ys)) => ih y2 ys (hl _ hr)
    have hk0 := fun (zs : gs_H) (hr : r = Sum.inr zs) => hx0 zs (he _ hr).symm
    unfold b_X9_copy_2 at h
    try dsimp only at h
    refine x_iload_n C dX9_copy_2 rfl 2 rfl ?_
    refine x_aload_n C dX9_copy_3 rfl 0 rfl ?_
    refine x_alen C 72 rfl (v := (Int32.ofNat (al 72))) (by first | rfl | decide) dX9_copy_4 ?_
    by_cases hc1 : (Int32.ofNat (al 72)) ≤ y2
    · replace h := (if_pos hc1).symm.trans h
      refine x_icmp_geT C dX9_copy_5 (tgt := 20) (by decide) hc1 ?_
      refine x_lv (lv' := []) [] rfl ?_
      obtain rfl := Option.some.inj h
      exact hk0 ys rfl
    · replace h := (if_neg hc1).symm.trans h
      refine x_icmp_geF C dX9_copy_5 (tgt := 20) (by decide) hc1 ?_
      refine x_aload_n C dX9_copy_8 rfl 1 rfl ?_
      refine x_iload_n C dX9_copy_9 rfl 2 rfl ?_
      refine x_aload_n C dX9_copy_10 rfl 0 rfl ?_
      refine x_iload_n C dX9_copy_11 rfl 2 rfl ?_
      obtain ⟨hb2, h⟩ := ck_some h
      refine x_iald C 72 rfl hb2 (v := (ys 72 y2.toNatClampNeg)) rfl dX9_copy_12 ?_
      obtain ⟨hb3, h⟩ := ck_some h
      refine x_iast C 64 rfl hb3 dX9_copy_13 ?_
      refine x_iinc C dX9_copy_14 2 rfl (v := (y2 + (1 : Int32))) rfl (lv2 := [(0, .ref (gs_a E 72)), (1, .ref (gs_a E 64)), (2, .int (y2 + (1 : Int32)))]) (by decide) rfl [1, 2, 0] rfl ?_
      refine x_goto C dX9_copy_17 (tgt := 2) (by decide) ?_
      obtain rfl := Option.some.inj h
      exact hc (y2 + (1 : Int32)) (up2 ys 64 y2.toNatClampNeg (ys 72 y2.toNatClampNeg)) rfl
set_option maxHeartbeats 4000000 in
set_option maxRecDepth 20000 in
theorem m_X9_copy_72_64 {E : gs_E} {l : Launch} {σ : gs_H} {g : Int64} {σ0 : gs_H} (h : f_X9_copy 72 64 σ = some σ0) : gs_M l E yX9_copy cX9_copy 3 (none) (0, 0) [.ref (gs_a E 72), .ref (gs_a E 64)] σ g (none) σ0 g := by
  refine x_enter (lv := [(0, .ref (gs_a E 72)), (1, .ref (gs_a E 64))]) (by decide +kernel) (Nat.le_of_ble_eq_true rfl) rfl (fun p e s m args below meth c C hr => ?_)
  unfold f_X9_copy at h
  refine x_iconst C dX9_copy_0 (v := 0) (by decide) ?_
  refine x_istore_n C dX9_copy_1 rfl (lv2 := [(0, .ref (gs_a E 72)), (1, .ref (gs_a E 64)), (2, .int (0 : Int32))]) (by decide) rfl [1, 2, 0] rfl ?_
  obtain ⟨q1, hq1, h⟩ := Option.bind_eq_some_iff.mp h
  refine wl_X9_copy_2_72_64 C (fun s1_0 hz => ?_) 1000 _ _ hq1
  subst q1
  try dsimp only at h
  replace h := Option.some.inj h
  subst h
  exact x_retv C hr rfl dX9_copy_20
set_option maxHeartbeats 4000000 in
set_option maxRecDepth 20000 in
theorem wl_X9_copy_2_70_62 {E : gs_E} {l : Launch} {p : Program} {e : Env} {s : State} {m : MethodId} {args : Array Value} {below : List Frame} {meth : Method} {c : Code} (C : gs_X E RX9 cX9_copy 3 p s m args meth c) {ov : Option Value} {σ0 : gs_H} {g0 : Int64} {g : Int64} {q : (gs_H)} (hx0 : ∀ (zs : gs_H), q = zs → gs_V E 3 (0, 0) p l e s m args below meth c ov σ0 g0 20 [] [] zs g) : ∀ (n : Nat) (y2 : Int32) (ys : gs_H), lp (b_X9_copy_2 70 62) n (y2, ys) = some q → gs_V E 3 (0, 0) p l e s m args below meth c ov σ0 g0 2 [(0, .ref (gs_a E 70)), (1, .ref (gs_a E 62)), (2, .int y2)] [] ys g := by
  intro n
  induction n with
  | zero => intro y2 ys h; cases h
  | succ n ih =>
    intro y2 ys h
    obtain ⟨r, h, hl, he⟩ := lp_step h
    have hc := fun (y2 : Int32) (ys : gs_H) (hr : r = Sum.inl (y2, ys)) => ih y2 ys (hl _ hr)
    have hk0 := fun (zs : gs_H) (hr : r = Sum.inr zs) => hx0 zs (he _ hr).symm
    unfold b_X9_copy_2 at h
    try dsimp only at h
    refine x_iload_n C dX9_copy_2 rfl 2 rfl ?_
    refine x_aload_n C dX9_copy_3 rfl 0 rfl ?_
    refine x_alen C 70 rfl (v := (Int32.ofNat (al 70))) (by first | rfl | decide) dX9_copy_4 ?_
    by_cases hc1 : (Int32.ofNat (al 70)) ≤ y2
    · replace h := (if_pos hc1).symm.trans h
      refine x_icmp_geT C dX9_copy_5 (tgt := 20) (by decide) hc1 ?_
      refine x_lv (lv' := []) [] rfl ?_
      obtain rfl := Option.some.inj h
      exact hk0 ys rfl
    · replace h := (if_neg hc1).symm.trans h
      refine x_icmp_geF C dX9_copy_5 (tgt := 20) (by decide) hc1 ?_
      refine x_aload_n C dX9_copy_8 rfl 1 rfl ?_
      refine x_iload_n C dX9_copy_9 rfl 2 rfl ?_
      refine x_aload_n C dX9_copy_10 rfl 0 rfl ?_
      refine x_iload_n C dX9_copy_11 rfl 2 rfl ?_
      obtain ⟨hb2, h⟩ := ck_some h
      refine x_iald C 70 rfl hb2 (v := (ys 70 y2.toNatClampNeg)) rfl dX9_copy_12 ?_
      obtain ⟨hb3, h⟩ := ck_some h
      refine x_iast C 62 rfl hb3 dX9_copy_13 ?_
      refine x_iinc C dX9_copy_14 2 rfl (v := (y2 + (1 : Int32))) rfl (lv2 := [(0, .ref (gs_a E 70)), (1, .ref (gs_a E 62)), (2, .int (y2 + (1 : Int32)))]) (by decide) rfl [1, 2, 0] rfl ?_
      refine x_goto C dX9_copy_17 (tgt := 2) (by decide) ?_
      obtain rfl := Option.some.inj h
      exact hc (y2 + (1 : Int32)) (up2 ys 62 y2.toNatClampNeg (ys 70 y2.toNatClampNeg)) rfl
set_option maxHeartbeats 4000000 in
set_option maxRecDepth 20000 in
theorem m_X9_copy_70_62 {E : gs_E} {l : Launch} {σ : gs_H} {g : Int64} {σ0 : gs_H} (h : f_X9_copy 70 62 σ = some σ0) : gs_M l E yX9_copy cX9_copy 3 (none) (0, 0) [.ref (gs_a E 70), .ref (gs_a E 62)] σ g (none) σ0 g := by
  refine x_enter (lv := [(0, .ref (gs_a E 70)), (1, .ref (gs_a E 62))]) (by decide +kernel) (Nat.le_of_ble_eq_true rfl) rfl (fun p e s m args below meth c C hr => ?_)
  unfold f_X9_copy at h
  refine x_iconst C dX9_copy_0 (v := 0) (by decide) ?_
  refine x_istore_n C dX9_copy_1 rfl (lv2 := [(0, .ref (gs_a E 70)), (1, .ref (gs_a E 62)), (2, .int (0 : Int32))]) (by decide) rfl [1, 2, 0] rfl ?_
  obtain ⟨q1, hq1, h⟩ := Option.bind_eq_some_iff.mp h
  refine wl_X9_copy_2_70_62 C (fun s1_0 hz => ?_) 1000 _ _ hq1
  subst q1
  try dsimp only at h
  replace h := Option.some.inj h
  subst h
  exact x_retv C hr rfl dX9_copy_20
set_option maxHeartbeats 4000000 in
set_option maxRecDepth 20000 in
theorem wl_X9_copy_2_69_59 {E : gs_E} {l : Launch} {p : Program} {e : Env} {s : State} {m : MethodId} {args : Array Value} {below : List Frame} {meth : Method} {c : Code} (C : gs_X E RX9 cX9_copy 3 p s m args meth c) {ov : Option Value} {σ0 : gs_H} {g0 : Int64} {g : Int64} {q : (gs_H)} (hx0 : ∀ (zs : gs_H), q = zs → gs_V E 3 (0, 0) p l e s m args below meth c ov σ0 g0 20 [] [] zs g) : ∀ (n : Nat) (y2 : Int32) (ys : gs_H), lp (b_X9_copy_2 69 59) n (y2, ys) = some q → gs_V E 3 (0, 0) p l e s m args below meth c ov σ0 g0 2 [(0, .ref (gs_a E 69)), (1, .ref (gs_a E 59)), (2, .int y2)] [] ys g := by
  intro n
  induction n with
  | zero => intro y2 ys h; cases h
  | succ n ih =>
    intro y2 ys h
    obtain ⟨r, h, hl, he⟩ := lp_step h
    have hc := fun (y2 : Int32) (ys : gs_H) (hr : r = Sum.inl (y2, ys)) => ih y2 ys (hl _ hr)
    have hk0 := fun (zs : gs_H) (hr : r = Sum.inr zs) => hx0 zs (he _ hr).symm
    unfold b_X9_copy_2 at h
    try dsimp only at h
    refine x_iload_n C dX9_copy_2 rfl 2 rfl ?_
    refine x_aload_n C dX9_copy_3 rfl 0 rfl ?_
    refine x_alen C 69 rfl (v := (Int32.ofNat (al 69))) (by first | rfl | decide) dX9_copy_4 ?_
    by_cases hc1 : (Int32.ofNat (al 69)) ≤ y2
    · replace h := (if_pos hc1).symm.trans h
      refine x_icmp_geT C dX9_copy_5 (tgt := 20) (by decide) hc1 ?_
      refine x_lv (lv' := []) [] rfl ?_
      obtain rfl := Option.some.inj h
      exact hk0 ys rfl
    · replace h := (if_neg hc1).symm.trans h
      refine x_icmp_geF C dX9_copy_5 (tgt := 20) (by decide) hc1 ?_
      refine x_aload_n C dX9_copy_8 rfl 1 rfl ?_
      refine x_iload_n C dX9_copy_9 rfl 2 rfl ?_
      refine x_aload_n C dX9_copy_10 rfl 0 rfl ?_
      refine x_iload_n C dX9_copy_11 rfl 2 rfl ?_
      obtain ⟨hb2, h⟩ := ck_some h
      refine x_iald C 69 rfl hb2 (v := (ys 69 y2.toNatClampNeg)) rfl dX9_copy_12 ?_
      obtain ⟨hb3, h⟩ := ck_some h
      refine x_iast C 59 rfl hb3 dX9_copy_13 ?_
      refine x_iinc C dX9_copy_14 2 rfl (v := (y2 + (1 : Int32))) rfl (lv2 := [(0, .ref (gs_a E 69)), (1, .ref (gs_a E 59)), (2, .int (y2 + (1 : Int32)))]) (by decide) rfl [1, 2, 0] rfl ?_
      refine x_goto C dX9_copy_17 (tgt := 2) (by decide) ?_
      obtain rfl := Option.some.inj h
      exact hc (y2 + (1 : Int32)) (up2 ys 59 y2.toNatClampNeg (ys 69 y2.toNatClampNeg)) rfl
set_option maxHeartbeats 4000000 in
set_option maxRecDepth 20000 in
theorem m_X9_copy_69_59 {E : gs_E} {l : Launch} {σ : gs_H} {g : Int64} {σ0 : gs_H} (h : f_X9_copy 69 59 σ = some σ0) : gs_M l E yX9_copy cX9_copy 3 (none) (0, 0) [.ref (gs_a E 69), .ref (gs_a E 59)] σ g (none) σ0 g := by
  refine x_enter (lv := [(0, .ref (gs_a E 69)), (1, .ref (gs_a E 59))]) (by decide +kernel) (Nat.le_of_ble_eq_true rfl) rfl (fun p e s m args below meth c C hr => ?_)
  unfold f_X9_copy at h
  refine x_iconst C dX9_copy_0 (v := 0) (by decide) ?_
  refine x_istore_n C dX9_copy_1 rfl (lv2 := [(0, .ref (gs_a E 69)), (1, .ref (gs_a E 59)), (2, .int (0 : Int32))]) (by decide) rfl [1, 2, 0] rfl ?_
  obtain ⟨q1, hq1, h⟩ := Option.bind_eq_some_iff.mp h
  refine wl_X9_copy_2_69_59 C (fun s1_0 hz => ?_) 1000 _ _ hq1
  subst q1
  try dsimp only at h
  replace h := Option.some.inj h
  subst h
  exact x_retv C hr rfl dX9_copy_20
set_option maxHeartbeats 4000000 in
set_option maxRecDepth 20000 in
theorem wl_X9_copy_2_73_68 {E : gs_E} {l : Launch} {p : Program} {e : Env} {s : State} {m : MethodId} {args : Array Value} {below : List Frame} {meth : Method} {c : Code} (C : gs_X E RX9 cX9_copy 3 p s m args meth c) {ov : Option Value} {σ0 : gs_H} {g0 : Int64} {g : Int64} {q : (gs_H)} (hx0 : ∀ (zs : gs_H), q = zs → gs_V E 3 (0, 0) p l e s m args below meth c ov σ0 g0 20 [] [] zs g) : ∀ (n : Nat) (y2 : Int32) (ys : gs_H), lp (b_X9_copy_2 73 68) n (y2, ys) = some q → gs_V E 3 (0, 0) p l e s m args below meth c ov σ0 g0 2 [(0, .ref (gs_a E 73)), (1, .ref (gs_a E 68)), (2, .int y2)] [] ys g := by
  intro n
  induction n with
  | zero => intro y2 ys h; cases h
  | succ n ih =>
    intro y2 ys h
    obtain ⟨r, h, hl, he⟩ := lp_step h
    have hc := fun (y2 : Int32) (ys : gs_H) (hr : r = Sum.inl (y2, ys)) => ih y2 ys (hl _ hr)
    have hk0 := fun (zs : gs_H) (hr : r = Sum.inr zs) => hx0 zs (he _ hr).symm
    unfold b_X9_copy_2 at h
    try dsimp only at h
    refine x_iload_n C dX9_copy_2 rfl 2 rfl ?_
    refine x_aload_n C dX9_copy_3 rfl 0 rfl ?_
    refine x_alen C 73 rfl (v := (Int32.ofNat (al 73))) (by first | rfl | decide) dX9_copy_4 ?_
    by_cases hc1 : (Int32.ofNat (al 73)) ≤ y2
    · replace h := (if_pos hc1).symm.trans h
      refine x_icmp_geT C dX9_copy_5 (tgt := 20) (by decide) hc1 ?_
      refine x_lv (lv' := []) [] rfl ?_
      obtain rfl := Option.some.inj h
      exact hk0 ys rfl
    · replace h := (if_neg hc1).symm.trans h
      refine x_icmp_geF C dX9_copy_5 (tgt := 20) (by decide) hc1 ?_
      refine x_aload_n C dX9_copy_8 rfl 1 rfl ?_
      refine x_iload_n C dX9_copy_9 rfl 2 rfl ?_
      refine x_aload_n C dX9_copy_10 rfl 0 rfl ?_
      refine x_iload_n C dX9_copy_11 rfl 2 rfl ?_
      obtain ⟨hb2, h⟩ := ck_some h
      refine x_iald C 73 rfl hb2 (v := (ys 73 y2.toNatClampNeg)) rfl dX9_copy_12 ?_
      obtain ⟨hb3, h⟩ := ck_some h
      refine x_iast C 68 rfl hb3 dX9_copy_13 ?_
      refine x_iinc C dX9_copy_14 2 rfl (v := (y2 + (1 : Int32))) rfl (lv2 := [(0, .ref (gs_a E 73)), (1, .ref (gs_a E 68)), (2, .int (y2 + (1 : Int32)))]) (by decide) rfl [1, 2, 0] rfl ?_
      refine x_goto C dX9_copy_17 (tgt := 2) (by decide) ?_
      obtain rfl := Option.some.inj h
      exact hc (y2 + (1 : Int32)) (up2 ys 68 y2.toNatClampNeg (ys 73 y2.toNatClampNeg)) rfl
set_option maxHeartbeats 4000000 in
set_option maxRecDepth 20000 in
theorem m_X9_copy_73_68 {E : gs_E} {l : Launch} {σ : gs_H} {g : Int64} {σ0 : gs_H} (h : f_X9_copy 73 68 σ = some σ0) : gs_M l E yX9_copy cX9_copy 3 (none) (0, 0) [.ref (gs_a E 73), .ref (gs_a E 68)] σ g (none) σ0 g := by
  refine x_enter (lv := [(0, .ref (gs_a E 73)), (1, .ref (gs_a E 68))]) (by decide +kernel) (Nat.le_of_ble_eq_true rfl) rfl (fun p e s m args below meth c C hr => ?_)
  unfold f_X9_copy at h
  refine x_iconst C dX9_copy_0 (v := 0) (by decide) ?_
  refine x_istore_n C dX9_copy_1 rfl (lv2 := [(0, .ref (gs_a E 73)), (1, .ref (gs_a E 68)), (2, .int (0 : Int32))]) (by decide) rfl [1, 2, 0] rfl ?_
  obtain ⟨q1, hq1, h⟩ := Option.bind_eq_some_iff.mp h
  refine wl_X9_copy_2_73_68 C (fun s1_0 hz => ?_) 1000 _ _ hq1
  subst q1
  try dsimp only at h
  replace h := Option.some.inj h
  subst h
  exact x_retv C hr rfl dX9_copy_20
set_option maxHeartbeats 4000000 in
set_option maxRecDepth 20000 in
theorem wl_X9_copy_2_71_63 {E : gs_E} {l : Launch} {p : Program} {e : Env} {s : State} {m : MethodId} {args : Array Value} {below : List Frame} {meth : Method} {c : Code} (C : gs_X E RX9 cX9_copy 3 p s m args meth c) {ov : Option Value} {σ0 : gs_H} {g0 : Int64} {g : Int64} {q : (gs_H)} (hx0 : ∀ (zs : gs_H), q = zs → gs_V E 3 (0, 0) p l e s m args below meth c ov σ0 g0 20 [] [] zs g) : ∀ (n : Nat) (y2 : Int32) (ys : gs_H), lp (b_X9_copy_2 71 63) n (y2, ys) = some q → gs_V E 3 (0, 0) p l e s m args below meth c ov σ0 g0 2 [(0, .ref (gs_a E 71)), (1, .ref (gs_a E 63)), (2, .int y2)] [] ys g := by
  intro n
  induction n with
  | zero => intro y2 ys h; cases h
  | succ n ih =>
    intro y2 ys h
    obtain ⟨r, h, hl, he⟩ := lp_step h
    have hc := fun (y2 : Int32) (ys : gs_H) (hr : r = Sum.inl (y2, ys)) => ih y2 ys (hl _ hr)
    have hk0 := fun (zs : gs_H) (hr : r = Sum.inr zs) => hx0 zs (he _ hr).symm
    unfold b_X9_copy_2 at h
    try dsimp only at h
    refine x_iload_n C dX9_copy_2 rfl 2 rfl ?_
    refine x_aload_n C dX9_copy_3 rfl 0 rfl ?_
    refine x_alen C 71 rfl (v := (Int32.ofNat (al 71))) (by first | rfl | decide) dX9_copy_4 ?_
    by_cases hc1 : (Int32.ofNat (al 71)) ≤ y2
    · replace h := (if_pos hc1).symm.trans h
      refine x_icmp_geT C dX9_copy_5 (tgt := 20) (by decide) hc1 ?_
      refine x_lv (lv' := []) [] rfl ?_
      obtain rfl := Option.some.inj h
      exact hk0 ys rfl
    · replace h := (if_neg hc1).symm.trans h
      refine x_icmp_geF C dX9_copy_5 (tgt := 20) (by decide) hc1 ?_
      refine x_aload_n C dX9_copy_8 rfl 1 rfl ?_
      refine x_iload_n C dX9_copy_9 rfl 2 rfl ?_
      refine x_aload_n C dX9_copy_10 rfl 0 rfl ?_
      refine x_iload_n C dX9_copy_11 rfl 2 rfl ?_
      obtain ⟨hb2, h⟩ := ck_some h
      refine x_iald C 71 rfl hb2 (v := (ys 71 y2.toNatClampNeg)) rfl dX9_copy_12 ?_
      obtain ⟨hb3, h⟩ := ck_some h
      refine x_iast C 63 rfl hb3 dX9_copy_13 ?_
      refine x_iinc C dX9_copy_14 2 rfl (v := (y2 + (1 : Int32))) rfl (lv2 := [(0, .ref (gs_a E 71)), (1, .ref (gs_a E 63)), (2, .int (y2 + (1 : Int32)))]) (by decide) rfl [1, 2, 0] rfl ?_
      refine x_goto C dX9_copy_17 (tgt := 2) (by decide) ?_
      obtain rfl := Option.some.inj h
      exact hc (y2 + (1 : Int32)) (up2 ys 63 y2.toNatClampNeg (ys 71 y2.toNatClampNeg)) rfl
set_option maxHeartbeats 4000000 in
set_option maxRecDepth 20000 in
theorem m_X9_copy_71_63 {E : gs_E} {l : Launch} {σ : gs_H} {g : Int64} {σ0 : gs_H} (h : f_X9_copy 71 63 σ = some σ0) : gs_M l E yX9_copy cX9_copy 3 (none) (0, 0) [.ref (gs_a E 71), .ref (gs_a E 63)] σ g (none) σ0 g := by
  refine x_enter (lv := [(0, .ref (gs_a E 71)), (1, .ref (gs_a E 63))]) (by decide +kernel) (Nat.le_of_ble_eq_true rfl) rfl (fun p e s m args below meth c C hr => ?_)
  unfold f_X9_copy at h
  refine x_iconst C dX9_copy_0 (v := 0) (by decide) ?_
  refine x_istore_n C dX9_copy_1 rfl (lv2 := [(0, .ref (gs_a E 71)), (1, .ref (gs_a E 63)), (2, .int (0 : Int32))]) (by decide) rfl [1, 2, 0] rfl ?_
  obtain ⟨q1, hq1, h⟩ := Option.bind_eq_some_iff.mp h
  refine wl_X9_copy_2_71_63 C (fun s1_0 hz => ?_) 1000 _ _ hq1
  subst q1
  try dsimp only at h
  replace h := Option.some.inj h
  subst h
  exact x_retv C hr rfl dX9_copy_20
set_option maxHeartbeats 4000000 in
set_option maxRecDepth 20000 in
theorem wl_X9_copy_2_64_72 {E : gs_E} {l : Launch} {p : Program} {e : Env} {s : State} {m : MethodId} {args : Array Value} {below : List Frame} {meth : Method} {c : Code} (C : gs_X E RX9 cX9_copy 3 p s m args meth c) {ov : Option Value} {σ0 : gs_H} {g0 : Int64} {g : Int64} {q : (gs_H)} (hx0 : ∀ (zs : gs_H), q = zs → gs_V E 3 (0, 0) p l e s m args below meth c ov σ0 g0 20 [] [] zs g) : ∀ (n : Nat) (y2 : Int32) (ys : gs_H), lp (b_X9_copy_2 64 72) n (y2, ys) = some q → gs_V E 3 (0, 0) p l e s m args below meth c ov σ0 g0 2 [(0, .ref (gs_a E 64)), (1, .ref (gs_a E 72)), (2, .int y2)] [] ys g := by
  intro n
  induction n with
  | zero => intro y2 ys h; cases h
  | succ n ih =>
    intro y2 ys h
    obtain ⟨r, h, hl, he⟩ := lp_step h
    have hc := fun (y2 : Int32) (ys : gs_H) (hr : r = Sum.inl (y2, ys)) => ih y2 ys (hl _ hr)
    have hk0 := fun (zs : gs_H) (hr : r = Sum.inr zs) => hx0 zs (he _ hr).symm
    unfold b_X9_copy_2 at h
    try dsimp only at h
    refine x_iload_n C dX9_copy_2 rfl 2 rfl ?_
    refine x_aload_n C dX9_copy_3 rfl 0 rfl ?_
    refine x_alen C 64 rfl (v := (Int32.ofNat (al 64))) (by first | rfl | decide) dX9_copy_4 ?_
    by_cases hc1 : (Int32.ofNat (al 64)) ≤ y2
    · replace h := (if_pos hc1).symm.trans h
      refine x_icmp_geT C dX9_copy_5 (tgt := 20) (by decide) hc1 ?_
      refine x_lv (lv' := []) [] rfl ?_
      obtain rfl := Option.some.inj h
      exact hk0 ys rfl
    · replace h := (if_neg hc1).symm.trans h
      refine x_icmp_geF C dX9_copy_5 (tgt := 20) (by decide) hc1 ?_
      refine x_aload_n C dX9_copy_8 rfl 1 rfl ?_
      refine x_iload_n C dX9_copy_9 rfl 2 rfl ?_
      refine x_aload_n C dX9_copy_10 rfl 0 rfl ?_
      refine x_iload_n C dX9_copy_11 rfl 2 rfl ?_
      obtain ⟨hb2, h⟩ := ck_some h
      refine x_iald C 64 rfl hb2 (v := (ys 64 y2.toNatClampNeg)) rfl dX9_copy_12 ?_
      obtain ⟨hb3, h⟩ := ck_some h
      refine x_iast C 72 rfl hb3 dX9_copy_13 ?_
      refine x_iinc C dX9_copy_14 2 rfl (v := (y2 + (1 : Int32))) rfl (lv2 := [(0, .ref (gs_a E 64)), (1, .ref (gs_a E 72)), (2, .int (y2 + (1 : Int32)))]) (by decide) rfl [1, 2, 0] rfl ?_
      refine x_goto C dX9_copy_17 (tgt := 2) (by decide) ?_
      obtain rfl := Option.some.inj h
      exact hc (y2 + (1 : Int32)) (up2 ys 72 y2.toNatClampNeg (ys 64 y2.toNatClampNeg)) rfl
set_option maxHeartbeats 4000000 in
set_option maxRecDepth 20000 in
theorem m_X9_copy_64_72 {E : gs_E} {l : Launch} {σ : gs_H} {g : Int64} {σ0 : gs_H} (h : f_X9_copy 64 72 σ = some σ0) : gs_M l E yX9_copy cX9_copy 3 (none) (0, 0) [.ref (gs_a E 64), .ref (gs_a E 72)] σ g (none) σ0 g := by
  refine x_enter (lv := [(0, .ref (gs_a E 64)), (1, .ref (gs_a E 72))]) (by decide +kernel) (Nat.le_of_ble_eq_true rfl) rfl (fun p e s m args below meth c C hr => ?_)
  unfold f_X9_copy at h
  refine x_iconst C dX9_copy_0 (v := 0) (by decide) ?_
  refine x_istore_n C dX9_copy_1 rfl (lv2 := [(0, .ref (gs_a E 64)), (1, .ref (gs_a E 72)), (2, .int (0 : Int32))]) (by decide) rfl [1, 2, 0] rfl ?_
  obtain ⟨q1, hq1, h⟩ := Option.bind_eq_some_iff.mp h
  refine wl_X9_copy_2_64_72 C (fun s1_0 hz => ?_) 1000 _ _ hq1
  subst q1
  try dsimp only at h
  replace h := Option.some.inj h
  subst h
  exact x_retv C hr rfl dX9_copy_20
set_option maxHeartbeats 4000000 in
set_option maxRecDepth 20000 in
theorem wl_X9_copy_2_59_69 {E : gs_E} {l : Launch} {p : Program} {e : Env} {s : State} {m : MethodId} {args : Array Value} {below : List Frame} {meth : Method} {c : Code} (C : gs_X E RX9 cX9_copy 3 p s m args meth c) {ov : Option Value} {σ0 : gs_H} {g0 : Int64} {g : Int64} {q : (gs_H)} (hx0 : ∀ (zs : gs_H), q = zs → gs_V E 3 (0, 0) p l e s m args below meth c ov σ0 g0 20 [] [] zs g) : ∀ (n : Nat) (y2 : Int32) (ys : gs_H), lp (b_X9_copy_2 59 69) n (y2, ys) = some q → gs_V E 3 (0, 0) p l e s m args below meth c ov σ0 g0 2 [(0, .ref (gs_a E 59)), (1, .ref (gs_a E 69)), (2, .int y2)] [] ys g := by
  intro n
  induction n with
  | zero => intro y2 ys h; cases h
  | succ n ih =>
    intro y2 ys h
    obtain ⟨r, h, hl, he⟩ := lp_step h
    have hc := fun (y2 : Int32) (ys : gs_H) (hr : r = Sum.inl (y2, ys)) => ih y2 ys (hl _ hr)
    have hk0 := fun (zs : gs_H) (hr : r = Sum.inr zs) => hx0 zs (he _ hr).symm
    unfold b_X9_copy_2 at h
    try dsimp only at h
    refine x_iload_n C dX9_copy_2 rfl 2 rfl ?_
    refine x_aload_n C dX9_copy_3 rfl 0 rfl ?_
    refine x_alen C 59 rfl (v := (Int32.ofNat (al 59))) (by first | rfl | decide) dX9_copy_4 ?_
    by_cases hc1 : (Int32.ofNat (al 59)) ≤ y2
    · replace h := (if_pos hc1).symm.trans h
      refine x_icmp_geT C dX9_copy_5 (tgt := 20) (by decide) hc1 ?_
      refine x_lv (lv' := []) [] rfl ?_
      obtain rfl := Option.some.inj h
      exact hk0 ys rfl
    · replace h := (if_neg hc1).symm.trans h
      refine x_icmp_geF C dX9_copy_5 (tgt := 20) (by decide) hc1 ?_
      refine x_aload_n C dX9_copy_8 rfl 1 rfl ?_
      refine x_iload_n C dX9_copy_9 rfl 2 rfl ?_
      refine x_aload_n C dX9_copy_10 rfl 0 rfl ?_
      refine x_iload_n C dX9_copy_11 rfl 2 rfl ?_
      obtain ⟨hb2, h⟩ := ck_some h
      refine x_iald C 59 rfl hb2 (v := (ys 59 y2.toNatClampNeg)) rfl dX9_copy_12 ?_
      obtain ⟨hb3, h⟩ := ck_some h
      refine x_iast C 69 rfl hb3 dX9_copy_13 ?_
      refine x_iinc C dX9_copy_14 2 rfl (v := (y2 + (1 : Int32))) rfl (lv2 := [(0, .ref (gs_a E 59)), (1, .ref (gs_a E 69)), (2, .int (y2 + (1 : Int32)))]) (by decide) rfl [1, 2, 0] rfl ?_
      refine x_goto C dX9_copy_17 (tgt := 2) (by decide) ?_
      obtain rfl := Option.some.inj h
      exact hc (y2 + (1 : Int32)) (up2 ys 69 y2.toNatClampNeg (ys 59 y2.toNatClampNeg)) rfl
set_option maxHeartbeats 4000000 in
set_option maxRecDepth 20000 in
theorem m_X9_copy_59_69 {E : gs_E} {l : Launch} {σ : gs_H} {g : Int64} {σ0 : gs_H} (h : f_X9_copy 59 69 σ = some σ0) : gs_M l E yX9_copy cX9_copy 3 (none) (0, 0) [.ref (gs_a E 59), .ref (gs_a E 69)] σ g (none) σ0 g := by
  refine x_enter (lv := [(0, .ref (gs_a E 59)), (1, .ref (gs_a E 69))]) (by decide +kernel) (Nat.le_of_ble_eq_true rfl) rfl (fun p e s m args below meth c C hr => ?_)
  unfold f_X9_copy at h
  refine x_iconst C dX9_copy_0 (v := 0) (by decide) ?_
  refine x_istore_n C dX9_copy_1 rfl (lv2 := [(0, .ref (gs_a E 59)), (1, .ref (gs_a E 69)), (2, .int (0 : Int32))]) (by decide) rfl [1, 2, 0] rfl ?_
  obtain ⟨q1, hq1, h⟩ := Option.bind_eq_some_iff.mp h
  refine wl_X9_copy_2_59_69 C (fun s1_0 hz => ?_) 1000 _ _ hq1
  subst q1
  try dsimp only at h
  replace h := Option.some.inj h
  subst h
  exact x_retv C hr rfl dX9_copy_20
set_option maxHeartbeats 4000000 in
set_option maxRecDepth 20000 in
theorem wl_X9_copy_2_68_73 {E : gs_E} {l : Launch} {p : Program} {e : Env} {s : State} {m : MethodId} {args : Array Value} {below : List Frame} {meth : Method} {c : Code} (C : gs_X E RX9 cX9_copy 3 p s m args meth c) {ov : Option Value} {σ0 : gs_H} {g0 : Int64} {g : Int64} {q : (gs_H)} (hx0 : ∀ (zs : gs_H), q = zs → gs_V E 3 (0, 0) p l e s m args below meth c ov σ0 g0 20 [] [] zs g) : ∀ (n : Nat) (y2 : Int32) (ys : gs_H), lp (b_X9_copy_2 68 73) n (y2, ys) = some q → gs_V E 3 (0, 0) p l e s m args below meth c ov σ0 g0 2 [(0, .ref (gs_a E 68)), (1, .ref (gs_a E 73)), (2, .int y2)] [] ys g := by
  intro n
  induction n with
  | zero => intro y2 ys h; cases h
  | succ n ih =>
    intro y2 ys h
    obtain ⟨r, h, hl, he⟩ := lp_step h
    have hc := fun (y2 : Int32) (ys : gs_H) (hr : r = Sum.inl (y2, ys)) => ih y2 ys (hl _ hr)
    have hk0 := fun (zs : gs_H) (hr : r = Sum.inr zs) => hx0 zs (he _ hr).symm
    unfold b_X9_copy_2 at h
    try dsimp only at h
    refine x_iload_n C dX9_copy_2 rfl 2 rfl ?_
    refine x_aload_n C dX9_copy_3 rfl 0 rfl ?_
    refine x_alen C 68 rfl (v := (Int32.ofNat (al 68))) (by first | rfl | decide) dX9_copy_4 ?_
    by_cases hc1 : (Int32.ofNat (al 68)) ≤ y2
    · replace h := (if_pos hc1).symm.trans h
      refine x_icmp_geT C dX9_copy_5 (tgt := 20) (by decide) hc1 ?_
      refine x_lv (lv' := []) [] rfl ?_
      obtain rfl := Option.some.inj h
      exact hk0 ys rfl
    · replace h := (if_neg hc1).symm.trans h
      refine x_icmp_geF C dX9_copy_5 (tgt := 20) (by decide) hc1 ?_
      refine x_aload_n C dX9_copy_8 rfl 1 rfl ?_
      refine x_iload_n C dX9_copy_9 rfl 2 rfl ?_
      refine x_aload_n C dX9_copy_10 rfl 0 rfl ?_
      refine x_iload_n C dX9_copy_11 rfl 2 rfl ?_
      obtain ⟨hb2, h⟩ := ck_some h
      refine x_iald C 68 rfl hb2 (v := (ys 68 y2.toNatClampNeg)) rfl dX9_copy_12 ?_
      obtain ⟨hb3, h⟩ := ck_some h
      refine x_iast C 73 rfl hb3 dX9_copy_13 ?_
      refine x_iinc C dX9_copy_14 2 rfl (v := (y2 + (1 : Int32))) rfl (lv2 := [(0, .ref (gs_a E 68)), (1, .ref (gs_a E 73)), (2, .int (y2 + (1 : Int32)))]) (by decide) rfl [1, 2, 0] rfl ?_
      refine x_goto C dX9_copy_17 (tgt := 2) (by decide) ?_
      obtain rfl := Option.some.inj h
      exact hc (y2 + (1 : Int32)) (up2 ys 73 y2.toNatClampNeg (ys 68 y2.toNatClampNeg)) rfl
set_option maxHeartbeats 4000000 in
set_option maxRecDepth 20000 in
theorem m_X9_copy_68_73 {E : gs_E} {l : Launch} {σ : gs_H} {g : Int64} {σ0 : gs_H} (h : f_X9_copy 68 73 σ = some σ0) : gs_M l E yX9_copy cX9_copy 3 (none) (0, 0) [.ref (gs_a E 68), .ref (gs_a E 73)] σ g (none) σ0 g := by
  refine x_enter (lv := [(0, .ref (gs_a E 68)), (1, .ref (gs_a E 73))]) (by decide +kernel) (Nat.le_of_ble_eq_true rfl) rfl (fun p e s m args below meth c C hr => ?_)
  unfold f_X9_copy at h
  refine x_iconst C dX9_copy_0 (v := 0) (by decide) ?_
  refine x_istore_n C dX9_copy_1 rfl (lv2 := [(0, .ref (gs_a E 68)), (1, .ref (gs_a E 73)), (2, .int (0 : Int32))]) (by decide) rfl [1, 2, 0] rfl ?_
  obtain ⟨q1, hq1, h⟩ := Option.bind_eq_some_iff.mp h
  refine wl_X9_copy_2_68_73 C (fun s1_0 hz => ?_) 1000 _ _ hq1
  subst q1
  try dsimp only at h
  replace h := Option.some.inj h
  subst h
  exact x_retv C hr rfl dX9_copy_20
set_option maxHeartbeats 4000000 in
set_option maxRecDepth 20000 in
theorem wl_X9_copy_2_63_71 {E : gs_E} {l : Launch} {p : Program} {e : Env} {s : State} {m : MethodId} {args : Array Value} {below : List Frame} {meth : Method} {c : Code} (C : gs_X E RX9 cX9_copy 3 p s m args meth c) {ov : Option Value} {σ0 : gs_H} {g0 : Int64} {g : Int64} {q : (gs_H)} (hx0 : ∀ (zs : gs_H), q = zs → gs_V E 3 (0, 0) p l e s m args below meth c ov σ0 g0 20 [] [] zs g) : ∀ (n : Nat) (y2 : Int32) (ys : gs_H), lp (b_X9_copy_2 63 71) n (y2, ys) = some q → gs_V E 3 (0, 0) p l e s m args below meth c ov σ0 g0 2 [(0, .ref (gs_a E 63)), (1, .ref (gs_a E 71)), (2, .int y2)] [] ys g := by
  intro n
  induction n with
  | zero => intro y2 ys h; cases h
  | succ n ih =>
    intro y2 ys h
    obtain ⟨r, h, hl, he⟩ := lp_step h
    have hc := fun (y2 : Int32) (ys : gs_H) (hr : r = Sum.inl (y2, ys)) => ih y2 ys (hl _ hr)
    have hk0 := fun (zs : gs_H) (hr : r = Sum.inr zs) => hx0 zs (he _ hr).symm
    unfold b_X9_copy_2 at h
    try dsimp only at h
    refine x_iload_n C dX9_copy_2 rfl 2 rfl ?_
    refine x_aload_n C dX9_copy_3 rfl 0 rfl ?_
    refine x_alen C 63 rfl (v := (Int32.ofNat (al 63))) (by first | rfl | decide) dX9_copy_4 ?_
    by_cases hc1 : (Int32.ofNat (al 63)) ≤ y2
    · replace h := (if_pos hc1).symm.trans h
      refine x_icmp_geT C dX9_copy_5 (tgt := 20) (by decide) hc1 ?_
      refine x_lv (lv' := []) [] rfl ?_
      obtain rfl := Option.some.inj h
      exact hk0 ys rfl
    · replace h := (if_neg hc1).symm.trans h
      refine x_icmp_geF C dX9_copy_5 (tgt := 20) (by decide) hc1 ?_
      refine x_aload_n C dX9_copy_8 rfl 1 rfl ?_
      refine x_iload_n C dX9_copy_9 rfl 2 rfl ?_
      refine x_aload_n C dX9_copy_10 rfl 0 rfl ?_
      refine x_iload_n C dX9_copy_11 rfl 2 rfl ?_
      obtain ⟨hb2, h⟩ := ck_some h
      refine x_iald C 63 rfl hb2 (v := (ys 63 y2.toNatClampNeg)) rfl dX9_copy_12 ?_
      obtain ⟨hb3, h⟩ := ck_some h
      refine x_iast C 71 rfl hb3 dX9_copy_13 ?_
      refine x_iinc C dX9_copy_14 2 rfl (v := (y2 + (1 : Int32))) rfl (lv2 := [(0, .ref (gs_a E 63)), (1, .ref (gs_a E 71)), (2, .int (y2 + (1 : Int32)))]) (by decide) rfl [1, 2, 0] rfl ?_
      refine x_goto C dX9_copy_17 (tgt := 2) (by decide) ?_
      obtain rfl := Option.some.inj h
      exact hc (y2 + (1 : Int32)) (up2 ys 71 y2.toNatClampNeg (ys 63 y2.toNatClampNeg)) rfl
set_option maxHeartbeats 4000000 in
set_option maxRecDepth 20000 in
theorem m_X9_copy_63_71 {E : gs_E} {l : Launch} {σ : gs_H} {g : Int64} {σ0 : gs_H} (h : f_X9_copy 63 71 σ = some σ0) : gs_M l E yX9_copy cX9_copy 3 (none) (0, 0) [.ref (gs_a E 63), .ref (gs_a E 71)] σ g (none) σ0 g := by
  refine x_enter (lv := [(0, .ref (gs_a E 63)), (1, .ref (gs_a E 71))]) (by decide +kernel) (Nat.le_of_ble_eq_true rfl) rfl (fun p e s m args below meth c C hr => ?_)
  unfold f_X9_copy at h
  refine x_iconst C dX9_copy_0 (v := 0) (by decide) ?_
  refine x_istore_n C dX9_copy_1 rfl (lv2 := [(0, .ref (gs_a E 63)), (1, .ref (gs_a E 71)), (2, .int (0 : Int32))]) (by decide) rfl [1, 2, 0] rfl ?_
  obtain ⟨q1, hq1, h⟩ := Option.bind_eq_some_iff.mp h
  refine wl_X9_copy_2_63_71 C (fun s1_0 hz => ?_) 1000 _ _ hq1
  subst q1
  try dsimp only at h
  replace h := Option.some.inj h
  subst h
  exact x_retv C hr rfl dX9_copy_20
set_option maxHeartbeats 4000000 in
set_option maxRecDepth 20000 in
theorem wl_X9_copy_2_62_70 {E : gs_E} {l : Launch} {p : Program} {e : Env} {s : State} {m : MethodId} {args : Array Value} {below : List Frame} {meth : Method} {c : Code} (C : gs_X E RX9 cX9_copy 3 p s m args meth c) {ov : Option Value} {σ0 : gs_H} {g0 : Int64} {g : Int64} {q : (gs_H)} (hx0 : ∀ (zs : gs_H), q = zs → gs_V E 3 (0, 0) p l e s m args below meth c ov σ0 g0 20 [] [] zs g) : ∀ (n : Nat) (y2 : Int32) (ys : gs_H), lp (b_X9_copy_2 62 70) n (y2, ys) = some q → gs_V E 3 (0, 0) p l e s m args below meth c ov σ0 g0 2 [(0, .ref (gs_a E 62)), (1, .ref (gs_a E 70)), (2, .int y2)] [] ys g := by
  intro n
  induction n with
  | zero => intro y2 ys h; cases h
  | succ n ih =>
    intro y2 ys h
    obtain ⟨r, h, hl, he⟩ := lp_step h
    have hc := fun (y2 : Int32) (ys : gs_H) (hr : r = Sum.inl (y2, ys)) => ih y2 ys (hl _ hr)
    have hk0 := fun (zs : gs_H) (hr : r = Sum.inr zs) => hx0 zs (he _ hr).symm
    unfold b_X9_copy_2 at h
    try dsimp only at h
    refine x_iload_n C dX9_copy_2 rfl 2 rfl ?_
    refine x_aload_n C dX9_copy_3 rfl 0 rfl ?_
    refine x_alen C 62 rfl (v := (Int32.ofNat (al 62))) (by first | rfl | decide) dX9_copy_4 ?_
    by_cases hc1 : (Int32.ofNat (al 62)) ≤ y2
    · replace h := (if_pos hc1).symm.trans h
      refine x_icmp_geT C dX9_copy_5 (tgt := 20) (by decide) hc1 ?_
      refine x_lv (lv' := []) [] rfl ?_
      obtain rfl := Option.some.inj h
      exact hk0 ys rfl
    · replace h := (if_neg hc1).symm.trans h
      refine x_icmp_geF C dX9_copy_5 (tgt := 20) (by decide) hc1 ?_
      refine x_aload_n C dX9_copy_8 rfl 1 rfl ?_
      refine x_iload_n C dX9_copy_9 rfl 2 rfl ?_
      refine x_aload_n C dX9_copy_10 rfl 0 rfl ?_
      refine x_iload_n C dX9_copy_11 rfl 2 rfl ?_
      obtain ⟨hb2, h⟩ := ck_some h
      refine x_iald C 62 rfl hb2 (v := (ys 62 y2.toNatClampNeg)) rfl dX9_copy_12 ?_
      obtain ⟨hb3, h⟩ := ck_some h
      refine x_iast C 70 rfl hb3 dX9_copy_13 ?_
      refine x_iinc C dX9_copy_14 2 rfl (v := (y2 + (1 : Int32))) rfl (lv2 := [(0, .ref (gs_a E 62)), (1, .ref (gs_a E 70)), (2, .int (y2 + (1 : Int32)))]) (by decide) rfl [1, 2, 0] rfl ?_
      refine x_goto C dX9_copy_17 (tgt := 2) (by decide) ?_
      obtain rfl := Option.some.inj h
      exact hc (y2 + (1 : Int32)) (up2 ys 70 y2.toNatClampNeg (ys 62 y2.toNatClampNeg)) rfl
set_option maxHeartbeats 4000000 in
set_option maxRecDepth 20000 in
theorem m_X9_copy_62_70 {E : gs_E} {l : Launch} {σ : gs_H} {g : Int64} {σ0 : gs_H} (h : f_X9_copy 62 70 σ = some σ0) : gs_M l E yX9_copy cX9_copy 3 (none) (0, 0) [.ref (gs_a E 62), .ref (gs_a E 70)] σ g (none) σ0 g := by
  refine x_enter (lv := [(0, .ref (gs_a E 62)), (1, .ref (gs_a E 70))]) (by decide +kernel) (Nat.le_of_ble_eq_true rfl) rfl (fun p e s m args below meth c C hr => ?_)
  unfold f_X9_copy at h
  refine x_iconst C dX9_copy_0 (v := 0) (by decide) ?_
  refine x_istore_n C dX9_copy_1 rfl (lv2 := [(0, .ref (gs_a E 62)), (1, .ref (gs_a E 70)), (2, .int (0 : Int32))]) (by decide) rfl [1, 2, 0] rfl ?_
  obtain ⟨q1, hq1, h⟩ := Option.bind_eq_some_iff.mp h
  refine wl_X9_copy_2_62_70 C (fun s1_0 hz => ?_) 1000 _ _ hq1
  subst q1
  try dsimp only at h
  replace h := Option.some.inj h
  subst h
  exact x_retv C hr rfl dX9_copy_20
def f_X9_begin (σ : gs_H) : Option (gs_H) :=
(f_X9_copy 64 65 σ).bind fun q1 =>
some (up2 q1 57 17 (q1 57 6))
set_option maxHeartbeats 4000000 in
set_option maxRecDepth 20000 in
theorem m_X9_begin {E : gs_E} {l : Launch} {σ : gs_H} {g : Int64} {σ0 : gs_H} (h : f_X9_begin σ = some σ0) : gs_M l E yX9_begin cX9_begin 1 (none) (1, 22) [.ref (gs_a E 57)] σ g (none) σ0 g := by
  refine x_enter (lv := [(0, .ref (gs_a E 57))]) (by decide +kernel) (Nat.le_of_ble_eq_true rfl) rfl (fun p e s m args below meth c C hr => ?_)
  unfold f_X9_begin at h
  refine x_aload_n C dX9_begin_0 rfl 0 rfl ?_
  refine x_getr C 57 rfl rfl inX9 15 (by decide) rfl kF_X9_28 rfl dX9_begin_1 ?_
  refine x_aload_n C dX9_begin_4 rfl 0 rfl ?_
  refine x_getr C 57 rfl rfl inX9 16 (by decide) rfl kF_X9_31 rfl dX9_begin_5 ?_
  obtain ⟨s1, hv1, h⟩ := Option.bind_eq_some_iff.mp h
  refine x_callS C (m_X9_copy_64_65 hv1) kM_X9_125 kT_X9_copy kN_X9 kC_X9_copy kD_X9_copy rfl ⟨Nat.le_of_ble_eq_true rfl, Nat.le_of_ble_eq_true rfl⟩ ⟨Nat.le_refl _, Nat.le_refl _⟩ (rest := []) rfl (Nat.le_of_ble_eq_true rfl) dX9_begin_8 (st' := []) rfl ?_
  refine x_aload_n C dX9_begin_11 rfl 0 rfl ?_
  refine x_aload_n C dX9_begin_12 rfl 0 rfl ?_
  refine x_geti C 57 rfl rfl inX9 6 (by decide) rfl kF_X9_110 rfl (v := (s1 57 6)) rfl dX9_begin_13 ?_
  refine x_puti C 57 rfl rfl inX9 tyX9 tyX9_ok nmX9 17 (by decide) rfl kF_X9_129 rfl rfl rfl rfl dX9_begin_16 ?_
  replace h := Option.some.inj h
  subst h
  exact x_retv C hr rfl dX9_begin_19
def f_X9_isCut (x1 : Int32) (σ : gs_H) : Int32 :=
if (((σ 57 9) >>> (x1 &&& 31)) &&& (1 : Int32)) = (1 : Int32) then (
(1 : Int32))
else (
(0 : Int32))
set_option maxHeartbeats 4000000 in
set_option maxRecDepth 20000 in
theorem m_X9_isCut {E : gs_E} {l : Launch} {x1 : Int32} {σ : gs_H} {g : Int64} {r0 : Int32} (h : f_X9_isCut x1 σ = r0) : gs_M l E yX9_isCut cX9_isCut 2 (some .boolean) (0, 0) [.ref (gs_a E 57), .int x1] σ g (some (.int r0)) σ g := by
  refine x_enter (lv := [(0, .ref (gs_a E 57)), (1, .int x1)]) (by decide +kernel) (Nat.le_of_ble_eq_true rfl) rfl (fun p e s m args below meth c C hr => ?_)
  unfold f_X9_isCut at h
  refine x_aload_n C dX9_isCut_0 rfl 0 rfl ?_
  refine x_geti C 57 rfl rfl inX9 9 (by decide) rfl kF_X9_116 rfl (v := (σ 57 9)) rfl dX9_isCut_1 ?_
  refine x_iload_n C dX9_isCut_4 rfl 1 rfl ?_
  refine x_ishr C dX9_isCut_5 ?_
  refine x_iconst C dX9_isCut_6 (v := 1) (by decide) ?_
  refine x_iand C dX9_isCut_7 ?_
  refine x_iconst C dX9_isCut_8 (v := 1) (by decide) ?_
  by_cases hc1 : (((σ 57 9) >>> (x1 &&& 31)) &&& (1 : Int32)) = (1 : Int32)
  · replace h := (if_pos hc1).symm.trans h
    refine x_icmp_neF C dX9_isCut_9 (tgt := 16) (by decide) hc1 ?_
    refine x_iconst C dX9_isCut_12 (v := 1) (by decide) ?_
    refine x_goto C dX9_isCut_13 (tgt := 17) (by decide) ?_
    subst h
    exact x_retb C hr (by decide) rfl dX9_isCut_17
  · replace h := (if_neg hc1).symm.trans h
    refine x_icmp_neT C dX9_isCut_9 (tgt := 16) (by decide) hc1 ?_
    refine x_iconst C dX9_isCut_16 (v := 0) (by decide) ?_
    subst h
    exact x_retb C hr (by decide) rfl dX9_isCut_17
def f_X9_weighsBy (x0 : Int32) (x1 : Int32) (x2 : Int32) : Int32 :=
if x0 = 1 then (
((2 : Int32) * x1))
else (
if x0 = 2 then (
(0 : Int32))
else (
if x0 = 3 then (
((0 : Int32) - x1))
else (
if x0 = 4 then (
if ((2 : Int32) * x1) ≤ x2 then (
(0 : Int32))
else (
(((2 : Int32) * x1) - x2)))
else (
x1))))
set_option maxHeartbeats 4000000 in
set_option maxRecDepth 20000 in
theorem m_X9_weighsBy {E : gs_E} {l : Launch} {x0 : Int32} {x1 : Int32} {x2 : Int32} {σ : gs_H} {g : Int64} {r0 : Int32} (h : f_X9_weighsBy x0 x1 x2 = r0) : gs_M l E yX9_weighsBy cX9_weighsBy 3 (some .int) (0, 0) [.int x0, .int x1, .int x2] σ g (some (.int r0)) σ g := by
  refine x_enter (lv := [(0, .int x0), (1, .int x1), (2, .int x2)]) (by decide +kernel) (Nat.le_of_ble_eq_true rfl) rfl (fun p e s m args below meth c C hr => ?_)
  unfold f_X9_weighsBy at h
  refine x_iload_n C dX9_weighsBy_0 rfl 0 rfl ?_
  by_cases hs1_0 : x0 = 1
  · replace h := (if_pos hs1_0).symm.trans h
    refine x_tsw C dX9_weighsBy_1 1 hs1_0 (by decide) (by decide) (off := 31) rfl (tgt := 32) (by decide) ?_
    refine x_iconst C dX9_weighsBy_32 (v := 2) (by decide) ?_
    refine x_iload_n C dX9_weighsBy_33 rfl 1 rfl ?_
    refine x_imul C dX9_weighsBy_34 ?_
    subst h
    exact x_ret C hr rfl rfl dX9_weighsBy_35
  · replace h := (if_neg hs1_0).symm.trans h
    by_cases hs1_1 : x0 = 2
    · replace h := (if_pos hs1_1).symm.trans h
      refine x_tsw C dX9_weighsBy_1 2 hs1_1 (by decide) (by decide) (off := 35) rfl (tgt := 36) (by decide) ?_
      refine x_iconst C dX9_weighsBy_36 (v := 0) (by decide) ?_
      subst h
      exact x_ret C hr rfl rfl dX9_weighsBy_37
    · replace h := (if_neg hs1_1).symm.trans h
      by_cases hs1_2 : x0 = 3
      · replace h := (if_pos hs1_2).symm.trans h
        refine x_tsw C dX9_weighsBy_1 3 hs1_2 (by decide) (by decide) (off := 37) rfl (tgt := 38) (by decide) ?_
        refine x_iconst C dX9_weighsBy_38 (v := 0) (by decide) ?_
        refine x_iload_n C dX9_weighsBy_39 rfl 1 rfl ?_
        refine x_isub C dX9_weighsBy_40 ?_
        subst h
        exact x_ret C hr rfl rfl dX9_weighsBy_41
      · replace h := (if_neg hs1_2).symm.trans h
        by_cases hs1_3 : x0 = 4
        · replace h := (if_pos hs1_3).symm.trans h
          refine x_tsw C dX9_weighsBy_1 4 hs1_3 (by decide) (by decide) (off := 41) rfl (tgt := 42) (by decide) ?_
          refine x_iconst C dX9_weighsBy_42 (v := 2) (by decide) ?_
          refine x_iload_n C dX9_weighsBy_43 rfl 1 rfl ?_
          refine x_imul C dX9_weighsBy_44 ?_
          refine x_iload_n C dX9_weighsBy_45 rfl 2 rfl ?_
          by_cases hc2 : ((2 : Int32) * x1) ≤ x2
          · replace h := (if_pos hc2).symm.trans h
            refine x_icmp_leT C dX9_weighsBy_46 (tgt := 57) (by decide) hc2 ?_
            refine x_iconst C dX9_weighsBy_57 (v := 0) (by decide) ?_
            subst h
            exact x_ret C hr rfl rfl dX9_weighsBy_58
          · replace h := (if_neg hc2).symm.trans h
            refine x_icmp_leF C dX9_weighsBy_46 (tgt := 57) (by decide) hc2 ?_
            refine x_iconst C dX9_weighsBy_49 (v := 2) (by decide) ?_
            refine x_iload_n C dX9_weighsBy_50 rfl 1 rfl ?_
            refine x_imul C dX9_weighsBy_51 ?_
            refine x_iload_n C dX9_weighsBy_52 rfl 2 rfl ?_
            refine x_isub C dX9_weighsBy_53 ?_
            refine x_goto C dX9_weighsBy_54 (tgt := 58) (by decide) ?_
            subst h
            exact x_ret C hr rfl rfl dX9_weighsBy_58
        · replace h := (if_neg hs1_3).symm.trans h
          refine x_tswD C dX9_weighsBy_1 (tgt := 59) (by have e0 := lv_neT hs1_0 (a := 1) rfl; have e1 := lv_neT hs1_1 (a := 2) rfl; have e2 := lv_neT hs1_2 (a := 3) rfl; have e3 := lv_neT hs1_3 (a := 4) rfl; omega) (by decide) ?_
          refine x_iload_n C dX9_weighsBy_59 rfl 1 rfl ?_
          subst h
          exact x_ret C hr rfl rfl dX9_weighsBy_60
def f_X9_thingThen (x1 : Int32) (σ : gs_H) : Option (Int32) :=
if (((σ 57 9) >>> (x1 &&& 31)) &&& (1 : Int32)) = (1 : Int32) then (
some (0 : Int32))
else (
if inb x1 6 then
if inb x1 6 then
some (f_X9_weighsBy (σ 62 x1.toNatClampNeg) (σ 63 x1.toNatClampNeg) (σ 57 17)) else none else none)
set_option maxHeartbeats 4000000 in
set_option maxRecDepth 20000 in
theorem m_X9_thingThen {E : gs_E} {l : Launch} {x1 : Int32} {σ : gs_H} {g : Int64} {r0 : Int32} (h : f_X9_thingThen x1 σ = some r0) : gs_M l E yX9_thingThen cX9_thingThen 2 (some .int) (1, 22) [.ref (gs_a E 57), .int x1] σ g (some (.int r0)) σ g := by
  refine x_enter (lv := [(0, .ref (gs_a E 57)), (1, .int x1)]) (by decide +kernel) (Nat.le_of_ble_eq_true rfl) rfl (fun p e s m args below meth c C hr => ?_)
  unfold f_X9_thingThen at h
  refine x_aload_n C dX9_thingThen_0 rfl 0 rfl ?_
  refine x_geti C 57 rfl rfl inX9 9 (by decide) rfl kF_X9_116 rfl (v := (σ 57 9)) rfl dX9_thingThen_1 ?_
  refine x_iload_n C dX9_thingThen_4 rfl 1 rfl ?_
  refine x_ishr C dX9_thingThen_5 ?_
  refine x_iconst C dX9_thingThen_6 (v := 1) (by decide) ?_
  refine x_iand C dX9_thingThen_7 ?_
  refine x_iconst C dX9_thingThen_8 (v := 1) (by decide) ?_
  by_cases hc1 : (((σ 57 9) >>> (x1 &&& 31)) &&& (1 : Int32)) = (1 : Int32)
  · replace h := (if_pos hc1).symm.trans h
    refine x_icmp_neF C dX9_thingThen_9 (tgt := 16) (by decide) hc1 ?_
    refine x_iconst C dX9_thingThen_12 (v := 0) (by decide) ?_
    refine x_goto C dX9_thingThen_13 (tgt := 35) (by decide) ?_
    replace h := Option.some.inj h
    subst h
    exact x_ret C hr rfl rfl dX9_thingThen_35
  · replace h := (if_neg hc1).symm.trans h
    refine x_icmp_neT C dX9_thingThen_9 (tgt := 16) (by decide) hc1 ?_
    refine x_aload_n C dX9_thingThen_16 rfl 0 rfl ?_
    refine x_getr C 57 rfl rfl inX9 13 (by decide) rfl kF_X9_22 rfl dX9_thingThen_17 ?_
    refine x_iload_n C dX9_thingThen_20 rfl 1 rfl ?_
    obtain ⟨hb2, h⟩ := ck_some h
    refine x_iald C 62 rfl hb2 (v := (σ 62 x1.toNatClampNeg)) rfl dX9_thingThen_21 ?_
    refine x_aload_n C dX9_thingThen_22 rfl 0 rfl ?_
    refine x_getr C 57 rfl rfl inX9 14 (by decide) rfl kF_X9_25 rfl dX9_thingThen_23 ?_
    refine x_iload_n C dX9_thingThen_26 rfl 1 rfl ?_
    obtain ⟨hb3, h⟩ := ck_some h
    refine x_iald C 63 rfl hb3 (v := (σ 63 x1.toNatClampNeg)) rfl dX9_thingThen_27 ?_
    refine x_aload_n C dX9_thingThen_28 rfl 0 rfl ?_
    refine x_geti C 57 rfl rfl inX9 17 (by decide) rfl kF_X9_129 rfl (v := (σ 57 17)) rfl dX9_thingThen_29 ?_
    refine x_callS C (m_X9_weighsBy rfl) kM_X9_132 kT_X9_weighsBy kN_X9 kC_X9_weighsBy kD_X9_weighsBy rfl ⟨Nat.le_of_ble_eq_true rfl, Nat.le_of_ble_eq_true rfl⟩ ⟨Nat.le_refl _, Nat.le_refl _⟩ (rest := []) rfl (Nat.le_of_ble_eq_true rfl) dX9_thingThen_32 (st' := [.int (f_X9_weighsBy (σ 62 x1.toNatClampNeg) (σ 63 x1.toNatClampNeg) (σ 57 17))]) rfl ?_
    replace h := Option.some.inj h
    subst h
    exact x_ret C hr rfl rfl dX9_thingThen_35
def f_X9_hungThen (x1 : Int32) (σ : gs_H) : Option (Int32) :=
if inb x1 10 then
if (σ 60 x1.toNatClampNeg) < (10 : Int32) then (
if (((σ 57 8) >>> ((σ 60 x1.toNatClampNeg) &&& 31)) &&& (1 : Int32)) = (1 : Int32) then (
some (0 : Int32))
else (
if inb (σ 60 x1.toNatClampNeg) 5 then
some (σ 66 (σ 60 x1.toNatClampNeg).toNatClampNeg) else none))
else (
if inb ((σ 60 x1.toNatClampNeg) - (10 : Int32)) 6 then
(f_X9_thingThen (σ 65 ((σ 60 x1.toNatClampNeg) - (10 : Int32)).toNatClampNeg) σ).bind fun q6 =>
some q6 else none) else none
set_option maxHeartbeats 4000000 in
set_option maxRecDepth 20000 in
theorem m_X9_hungThen {E : gs_E} {l : Launch} {x1 : Int32} {σ : gs_H} {g : Int64} {r0 : Int32} (h : f_X9_hungThen x1 σ = some r0) : gs_M l E yX9_hungThen cX9_hungThen 3 (some .int) (2, 43) [.ref (gs_a E 57), .int x1] σ g (some (.int r0)) σ g := by
  refine x_enter (lv := [(0, .ref (gs_a E 57)), (1, .int x1)]) (by decide +kernel) (Nat.le_of_ble_eq_true rfl) rfl (fun p e s m args below meth c C hr => ?_)
  unfold f_X9_hungThen at h
  refine x_aload_n C dX9_hungThen_0 rfl 0 rfl ?_
  refine x_getr C 57 rfl rfl inX9 11 (by decide) rfl kF_X9_16 rfl dX9_hungThen_1 ?_
  refine x_iload_n C dX9_hungThen_4 rfl 1 rfl ?_
  obtain ⟨hb1, h⟩ := ck_some h
  refine x_iald C 60 rfl hb1 (v := (σ 60 x1.toNatClampNeg)) rfl dX9_hungThen_5 ?_
  refine x_istore_n C dX9_hungThen_6 rfl (lv2 := [(0, .ref (gs_a E 57)), (1, .int x1), (2, .int (σ 60 x1.toNatClampNeg))]) (by decide) rfl [1, 2, 0] rfl ?_
  refine x_iload_n C dX9_hungThen_7 rfl 2 rfl ?_
  refine x_bipush C dX9_hungThen_8 (v := 10) (by decide) ?_
  by_cases hc2 : (σ 60 x1.toNatClampNeg) < (10 : Int32)
  · replace h := (if_pos hc2).symm.trans h
    refine x_icmp_ltT C dX9_hungThen_10 (tgt := 27) (by decide) hc2 ?_
    refine x_aload_n C dX9_hungThen_27 rfl 0 rfl ?_
    refine x_geti C 57 rfl rfl inX9 8 (by decide) rfl kF_X9_113 rfl (v := (σ 57 8)) rfl dX9_hungThen_28 ?_
    refine x_iload_n C dX9_hungThen_31 rfl 2 rfl ?_
    refine x_ishr C dX9_hungThen_32 ?_
    refine x_iconst C dX9_hungThen_33 (v := 1) (by decide) ?_
    refine x_iand C dX9_hungThen_34 ?_
    refine x_iconst C dX9_hungThen_35 (v := 1) (by decide) ?_
    by_cases hc3 : (((σ 57 8) >>> ((σ 60 x1.toNatClampNeg) &&& 31)) &&& (1 : Int32)) = (1 : Int32)
    · replace h := (if_pos hc3).symm.trans h
      refine x_icmp_neF C dX9_hungThen_36 (tgt := 43) (by decide) hc3 ?_
      refine x_iconst C dX9_hungThen_39 (v := 0) (by decide) ?_
      refine x_goto C dX9_hungThen_40 (tgt := 49) (by decide) ?_
      replace h := Option.some.inj h
      subst h
      exact x_ret C hr rfl rfl dX9_hungThen_49
    · replace h := (if_neg hc3).symm.trans h
      refine x_icmp_neT C dX9_hungThen_36 (tgt := 43) (by decide) hc3 ?_
      refine x_aload_n C dX9_hungThen_43 rfl 0 rfl ?_
      refine x_getr C 57 rfl rfl inX9 18 (by decide) rfl kF_X9_34 rfl dX9_hungThen_44 ?_
      refine x_iload_n C dX9_hungThen_47 rfl 2 rfl ?_
      obtain ⟨hb4, h⟩ := ck_some h
      refine x_iald C 66 rfl hb4 (v := (σ 66 (σ 60 x1.toNatClampNeg).toNatClampNeg)) rfl dX9_hungThen_48 ?_
      replace h := Option.some.inj h
      subst h
      exact x_ret C hr rfl rfl dX9_hungThen_49
  · replace h := (if_neg hc2).symm.trans h
    refine x_icmp_ltF C dX9_hungThen_10 (tgt := 27) (by decide) hc2 ?_
    refine x_aload_n C dX9_hungThen_13 rfl 0 rfl ?_
    refine x_aload_n C dX9_hungThen_14 rfl 0 rfl ?_
    refine x_getr C 57 rfl rfl inX9 16 (by decide) rfl kF_X9_31 rfl dX9_hungThen_15 ?_
    refine x_iload_n C dX9_hungThen_18 rfl 2 rfl ?_
    refine x_bipush C dX9_hungThen_19 (v := 10) (by decide) ?_
    refine x_isub C dX9_hungThen_21 ?_
    obtain ⟨hb5, h⟩ := ck_some h
    refine x_iald C 65 rfl hb5 (v := (σ 65 ((σ 60 x1.toNatClampNeg) - (10 : Int32)).toNatClampNeg)) rfl dX9_hungThen_22 ?_
    obtain ⟨v6, hv6, h⟩ := Option.bind_eq_some_iff.mp h
    refine x_callV C 57 (m_X9_thingThen hv6) rfl rfl kM_X9_136 kI_X9_thingThen kS_X9_thingThen kN_X9 kC_X9_thingThen kD_X9_thingThen rfl ⟨Nat.le_of_ble_eq_true rfl, Nat.le_of_ble_eq_true rfl⟩ ⟨Nat.le_refl _, Nat.le_refl _⟩ (rest := []) rfl (Nat.le_of_ble_eq_true rfl) dX9_hungThen_23 (st' := [.int v6]) rfl ?_
    replace h := Option.some.inj h
    subst h
    exact x_ret C hr rfl rfl dX9_hungThen_26
def b_X9_layTilts_7 (y : Int32 × gs_H) : Option ((Int32 × gs_H) ⊕ ((gs_H))) :=
if y.1 < 0 then (
some (Sum.inr y.2))
else (
(f_X9_hungThen ((2 : Int32) * y.1) y.2).bind fun q3 =>
(f_X9_hungThen (((2 : Int32) * y.1) + (1 : Int32)) y.2).bind fun q4 =>
if inb y.1 5 then
if inb (((2 : Int32) * y.1) + (1 : Int32)) 10 then
if inb ((2 : Int32) * y.1) 10 then
if inb y.1 5 then
some (Sum.inl ((y.1 + (-1 : Int32)), (up2 (up2 y.2 66 y.1.toNatClampNeg (q3 + q4)) 67 y.1.toNatClampNeg ((q4 * (y.2 59 (((2 : Int32) * y.1) + (1 : Int32)).toNatClampNeg)) - (q3 * (y.2 59 ((2 : Int32) * y.1).toNatClampNeg)))))) else none else none else none else none)
def f_X9_layTilts (σ : gs_H) : Option (gs_H) :=
(lp (b_X9_layTilts_7) 1000 (((σ 57 4) - (1 : Int32)), σ)).bind fun q1 =>
some q1
set_option maxHeartbeats 4000000 in
set_option maxRecDepth 20000 in
theorem wl_X9_layTilts_7 {E : gs_E} {l : Launch} {p : Program} {e : Env} {s : State} {m : MethodId} {args : Array Value} {below : List Frame} {meth : Method} {c : Code} (C : gs_X E RX9 cX9_layTilts 4 p s m args meth c) {ov : Option Value} {σ0 : gs_H} {g0 : Int64} {g : Int64} {q : (gs_H)} (hx0 : ∀ (zs : gs_H), q = zs → gs_V E 4 (3, 65) p l e s m args below meth c ov σ0 g0 73 [] [] zs g) : ∀ (n : Nat) (y1 : Int32) (ys : gs_H), lp (b_X9_layTilts_7) n (y1, ys) = some q → gs_V E 4 (3, 65) p l e s m args below meth c ov σ0 g0 7 [(0, .ref (gs_a E 57)), (1, .int y1)] [] ys g := by
  intro n
  induction n with
  | zero => intro y1 ys h; cases h
  | succ n ih =>
    intro y1 ys h
    obtain ⟨r, h, hl, he⟩ := lp_step h
    have hc := fun (y1 : Int32) (ys : gs_H) (hr : r = Sum.inl (y1, ys)) => ih y1 ys (hl _ hr)
    have hk0 := fun (zs : gs_H) (hr : r = Sum.inr zs) => hx0 zs (he _ hr).symm
    unfold b_X9_layTilts_7 at h
    try dsimp only at h
    refine x_iload_n C dX9_layTilts_7 rfl 1 rfl ?_
    by_cases hc1 : y1 < 0
    · replace h := (if_pos hc1).symm.trans h
      refine x_if_ltT C dX9_layTilts_8 (tgt := 73) (by decide) hc1 ?_
      refine x_lv (lv' := []) [] rfl ?_
      obtain rfl := Option.some.inj h
      exact hk0 ys rfl
    · replace h := (if_neg hc1).symm.trans h
      refine x_if_ltF C dX9_layTilts_8 (tgt := 73) (by decide) hc1 ?_
      refine x_aload_n C dX9_layTilts_11 rfl 0 rfl ?_
      refine x_iconst C dX9_layTilts_12 (v := 2) (by decide) ?_
      refine x_iload_n C dX9_layTilts_13 rfl 1 rfl ?_
      refine x_imul C dX9_layTilts_14 ?_
      obtain ⟨v2, hv2, h⟩ := Option.bind_eq_some_iff.mp h
      refine x_callV C 57 (m_X9_hungThen hv2) rfl rfl kM_X9_139 kI_X9_hungThen kS_X9_hungThen kN_X9 kC_X9_hungThen kD_X9_hungThen rfl ⟨Nat.le_of_ble_eq_true rfl, Nat.le_of_ble_eq_true rfl⟩ ⟨Nat.le_refl _, Nat.le_refl _⟩ (rest := []) rfl (Nat.le_of_ble_eq_true rfl) dX9_layTilts_15 (st' := [.int v2]) rfl ?_
      refine x_istore_n C dX9_layTilts_18 rfl (lv2 := [(0, .ref (gs_a E 57)), (1, .int y1), (2, .int v2)]) (by decide) rfl [1, 2, 0] rfl ?_
      refine x_aload_n C dX9_layTilts_19 rfl 0 rfl ?_
      refine x_iconst C dX9_layTilts_20 (v := 2) (by decide) ?_
      refine x_iload_n C dX9_layTilts_21 rfl 1 rfl ?_
      refine x_imul C dX9_layTilts_22 ?_
      refine x_iconst C dX9_layTilts_23 (v := 1) (by decide) ?_
      refine x_iadd C dX9_layTilts_24 ?_
      obtain ⟨v3, hv3, h⟩ := Option.bind_eq_some_iff.mp h
      refine x_callV C 57 (m_X9_hungThen hv3) rfl rfl kM_X9_139 kI_X9_hungThen kS_X9_hungThen kN_X9 kC_X9_hungThen kD_X9_hungThen rfl ⟨Nat.le_of_ble_eq_true rfl, Nat.le_of_ble_eq_true rfl⟩ ⟨Nat.le_refl _, Nat.le_refl _⟩ (rest := []) rfl (Nat.le_of_ble_eq_true rfl) dX9_layTilts_25 (st' := [.int v3]) rfl ?_
      refine x_istore_n C dX9_layTilts_28 rfl (lv2 := [(0, .ref (gs_a E 57)), (1, .int y1), (2, .int v2), (3, .int v3)]) (by decide) rfl [1, 2, 3, 0] rfl ?_
      refine x_aload_n C dX9_layTilts_29 rfl 0 rfl ?_
      refine x_getr C 57 rfl rfl inX9 18 (by decide) rfl kF_X9_34 rfl dX9_layTilts_30 ?_
      refine x_iload_n C dX9_layTilts_33 rfl 1 rfl ?_
      refine x_iload_n C dX9_layTilts_34 rfl 2 rfl ?_
      refine x_iload_n C dX9_layTilts_35 rfl 3 rfl ?_
      refine x_iadd C dX9_layTilts_36 ?_
      obtain ⟨hb4, h⟩ := ck_some h
      refine x_iast C 66 rfl hb4 dX9_layTilts_37 ?_
      refine x_aload_n C dX9_layTilts_38 rfl 0 rfl ?_
      refine x_getr C 57 rfl rfl inX9 19 (by decide) rfl kF_X9_37 rfl dX9_layTilts_39 ?_
      refine x_iload_n C dX9_layTilts_42 rfl 1 rfl ?_
      refine x_iload_n C dX9_layTilts_43 rfl 3 rfl ?_
      refine x_aload_n C dX9_layTilts_44 rfl 0 rfl ?_
      refine x_getr C 57 rfl rfl inX9 10 (by decide) rfl kF_X9_13 rfl dX9_layTilts_45 ?_
      refine x_iconst C dX9_layTilts_48 (v := 2) (by decide) ?_
      refine x_iload_n C dX9_layTilts_49 rfl 1 rfl ?_
      refine x_imul C dX9_layTilts_50 ?_
      refine x_iconst C dX9_layTilts_51 (v := 1) (by decide) ?_
      refine x_iadd C dX9_layTilts_52 ?_
      obtain ⟨hb5, h⟩ := ck_some h
      refine x_iald C 59 rfl hb5 (v := (ys 59 (((2 : Int32) * y1) + (1 : Int32)).toNatClampNeg)) rfl dX9_layTilts_53 ?_
      refine x_imul C dX9_layTilts_54 ?_
      refine x_iload_n C dX9_layTilts_55 rfl 2 rfl ?_
      refine x_aload_n C dX9_layTilts_56 rfl 0 rfl ?_
      refine x_getr C 57 rfl rfl inX9 10 (by decide) rfl kF_X9_13 rfl dX9_layTilts_57 ?_
      refine x_iconst C dX9_layTilts_60 (v := 2) (by decide) ?_
      refine x_iload_n C dX9_layTilts_61 rfl 1 rfl ?_
      refine x_imul C dX9_layTilts_62 ?_
      obtain ⟨hb6, h⟩ := ck_some h
      refine x_iald C 59 rfl hb6 (v := (ys 59 ((2 : Int32) * y1).toNatClampNeg)) rfl dX9_layTilts_63 ?_
      refine x_imul C dX9_layTilts_64 ?_
      refine x_isub C dX9_layTilts_65 ?_
      obtain ⟨hb7, h⟩ := ck_some h
      refine x_iast C 67 rfl hb7 dX9_layTilts_66 ?_
      refine x_iinc C dX9_layTilts_67 1 rfl (v := (y1 + (-1 : Int32))) rfl (lv2 := [(0, .ref (gs_a E 57)), (1, .int (y1 + (-1 : Int32))), (2, .int v2), (3, .int v3)]) (by decide) rfl [1, 0, 2, 3] rfl ?_
      refine x_goto C dX9_layTilts_70 (tgt := 7) (by decide) ?_
      refine x_lv (lv' := [(0, .ref (gs_a E 57)), (1, .int (y1 + (-1 : Int32)))]) [0, 1] rfl ?_
      obtain rfl := Option.some.inj h
      exact hc (y1 + (-1 : Int32)) (up2 (up2 ys 66 y1.toNatClampNeg (v2 + v3)) 67 y1.toNatClampNeg ((v3 * (ys 59 (((2 : Int32) * y1) + (1 : Int32)).toNatClampNeg)) - (v2 * (ys 59 ((2 : Int32) * y1).toNatClampNeg)))) rfl
set_option maxHeartbeats 4000000 in
set_option maxRecDepth 20000 in
theorem m_X9_layTilts {E : gs_E} {l : Launch} {σ : gs_H} {g : Int64} {σ0 : gs_H} (h : f_X9_layTilts σ = some σ0) : gs_M l E yX9_layTilts cX9_layTilts 4 (none) (3, 65) [.ref (gs_a E 57)] σ g (none) σ0 g := by
  refine x_enter (lv := [(0, .ref (gs_a E 57))]) (by decide +kernel) (Nat.le_of_ble_eq_true rfl) rfl (fun p e s m args below meth c C hr => ?_)
  unfold f_X9_layTilts at h
  refine x_aload_n C dX9_layTilts_0 rfl 0 rfl ?_
  refine x_geti C 57 rfl rfl inX9 4 (by decide) rfl kF_X9_104 rfl (v := (σ 57 4)) rfl dX9_layTilts_1 ?_
  refine x_iconst C dX9_layTilts_4 (v := 1) (by decide) ?_
  refine x_isub C dX9_layTilts_5 ?_
  refine x_istore_n C dX9_layTilts_6 rfl (lv2 := [(0, .ref (gs_a E 57)), (1, .int ((σ 57 4) - (1 : Int32)))]) (by decide) rfl [1, 0] rfl ?_
  obtain ⟨q1, hq1, h⟩ := Option.bind_eq_some_iff.mp h
  refine wl_X9_layTilts_7 C (fun s1_0 hz => ?_) 1000 _ _ hq1
  subst q1
  try dsimp only at h
  replace h := Option.some.inj h
  subst h
  exact x_retv C hr rfl dX9_layTilts_73
def j_X9_there_65 (x1 : Int32) (x2 : Int32) (x3 : Int32) (t0 : Int32) (σ : gs_H) : Option ((Int32 × Int32) ⊕ ((Int32))) :=
if t0 = 0 then (
some (Sum.inl ((x1 ||| (0 : Int32)), (x2 + (1 : Int32)))))
else (
some (Sum.inl ((x1 ||| ((1 : Int32) <<< (x3 &&& 31))), (x2 + (1 : Int32)))))
def j_X9_there_64 (x1 : Int32) (x2 : Int32) (x3 : Int32) (σ : gs_H) : Option ((Int32 × Int32) ⊕ ((Int32))) :=
j_X9_there_65 x1 x2 x3 (0 : Int32) σ
def b_X9_there_15 (σ : gs_H) (y : Int32 × Int32) : Option ((Int32 × Int32) ⊕ ((Int32))) :=
if ((2 : Int32) * (σ 57 4)) ≤ y.2 then (
some (Sum.inr y.1))
else (
if inb y.2 10 then
if (10 : Int32) ≤ (σ 60 y.2.toNatClampNeg) then (
j_X9_there_64 y.1 y.2 (σ 60 y.2.toNatClampNeg) σ)
else (
if ((y.1 >>> ((y.2 / (2 : Int32)) &&& 31)) &&& (1 : Int32)) = (1 : Int32) then (
if (((σ 57 8) >>> ((σ 60 y.2.toNatClampNeg) &&& 31)) &&& (1 : Int32)) = 0 then (
j_X9_there_65 y.1 y.2 (σ 60 y.2.toNatClampNeg) (1 : Int32) σ)
else (
j_X9_there_64 y.1 y.2 (σ 60 y.2.toNatClampNeg) σ))
else (
j_X9_there_64 y.1 y.2 (σ 60 y.2.toNatClampNeg) σ)) else none)
def f_X9_there (σ : gs_H) : Option (Int32) :=
if (σ 57 4) ≤ 0 then (
(lp (b_X9_there_15 σ) 1000 ((0 : Int32), (0 : Int32))).bind fun q2 =>
some q2)
else (
(lp (b_X9_there_15 σ) 1000 ((1 : Int32), (0 : Int32))).bind fun q3 =>
some q3)
set_option maxHeartbeats 4000000 in
set_option maxRecDepth 20000 in
theorem wj_X9_there_65 {E : gs_E} {l : Launch} {p : Program} {e : Env} {s : State} {m : MethodId} {args : Array Value} {below : List Frame} {meth : Method} {c : Code} (C : gs_X E RX9 cX9_there 5 p s m args meth c) {ov : Option Value} {σ0 : gs_H} {g0 : Int64} {x1 : Int32} {x2 : Int32} {x3 : Int32} {t0 : Int32} {σ : gs_H} {g : Int64} {r : (Int32 × Int32) ⊕ ((Int32))} (h : j_X9_there_65 x1 x2 x3 t0 σ = some r) (hc : ∀ (y1 : Int32) (y2 : Int32), r = Sum.inl (y1, y2) → gs_V E 5 (0, 0) p l e s m args below meth c ov σ0 g0 15 [(0, .ref (gs_a E 57)), (1, .int y1), (2, .int y2)] [] σ g) (hk0 : ∀ (z1 : Int32), r = Sum.inr z1 → gs_V E 5 (0, 0) p l e s m args below meth c ov σ0 g0 88 [(1, .int z1)] [] σ g) : gs_V E 5 (0, 0) p l e s m args below meth c ov σ0 g0 65 [(0, .ref (gs_a E 57)), (1, .int x1), (2, .int x2), (3, .int x3)] [.int t0] σ g := by
  unfold j_X9_there_65 at h
  refine x_istore C dX9_there_65 (lv2 := [(0, .ref (gs_a E 57)), (1, .int x1), (2, .int x2), (3, .int x3), (4, .int t0)]) (by decide) rfl [1, 2, 3, 4, 0] rfl ?_
  refine x_iload_n C dX9_there_67 rfl 1 rfl ?_
  refine x_iload C dX9_there_68 4 rfl ?_
  by_cases hc1 : t0 = 0
  · replace h := (if_pos hc1).symm.trans h
    refine x_if_eqT C dX9_there_70 (tgt := 79) (by decide) hc1 ?_
    refine x_iconst C dX9_there_79 (v := 0) (by decide) ?_
    refine x_ior C dX9_there_80 ?_
    refine x_istore_n C dX9_there_81 rfl (lv2 := [(0, .ref (gs_a E 57)), (1, .int (x1 ||| (0 : Int32))), (2, .int x2), (3, .int x3), (4, .int t0)]) (by decide) rfl [1, 0, 2, 3, 4] rfl ?_
    refine x_iinc C dX9_there_82 2 rfl (v := (x2 + (1 : Int32))) rfl (lv2 := [(0, .ref (gs_a E 57)), (1, .int (x1 ||| (0 : Int32))), (2, .int (x2 + (1 : Int32))), (3, .int x3), (4, .int t0)]) (by decide) rfl [1, 2, 0, 3, 4] rfl ?_
    refine x_goto C dX9_there_85 (tgt := 15) (by decide) ?_
    refine x_lv (lv' := [(0, .ref (gs_a E 57)), (1, .int (x1 ||| (0 : Int32))), (2, .int (x2 + (1 : Int32)))]) [0, 1, 2] rfl ?_
    obtain rfl := Option.some.inj h
    exact hc (x1 ||| (0 : Int32)) (x2 + (1 : Int32)) rfl
  · replace h := (if_neg hc1).symm.trans h
    refine x_if_eqF C dX9_there_70 (tgt := 79) (by decide) hc1 ?_
    refine x_iconst C dX9_there_73 (v := 1) (by decide) ?_
    refine x_iload_n C dX9_there_74 rfl 3 rfl ?_
    refine x_ishl C dX9_there_75 ?_
    refine x_goto C dX9_there_76 (tgt := 80) (by decide) ?_
    refine x_ior C dX9_there_80 ?_
    refine x_istore_n C dX9_there_81 rfl (lv2 := [(0, .ref (gs_a E 57)), (1, .int (x1 ||| ((1 : Int32) <<< (x3 &&& 31)))), (2, .int x2), (3, .int x3), (4, .int t0)]) (by decide) rfl [1, 0, 2, 3, 4] rfl ?_
    refine x_iinc C dX9_there_82 2 rfl (v := (x2 + (1 : Int32))) rfl (lv2 := [(0, .ref (gs_a E 57)), (1, .int (x1 ||| ((1 : Int32) <<< (x3 &&& 31)))), (2, .int (x2 + (1 : Int32))), (3, .int x3), (4, .int t0)]) (by decide) rfl [1, 2, 0, 3, 4] rfl ?_
    refine x_goto C dX9_there_85 (tgt := 15) (by decide) ?_
    refine x_lv (lv' := [(0, .ref (gs_a E 57)), (1, .int (x1 ||| ((1 : Int32) <<< (x3 &&& 31)))), (2, .int (x2 + (1 : Int32)))]) [0, 1, 2] rfl ?_
    obtain rfl := Option.some.inj h
    exact hc (x1 ||| ((1 : Int32) <<< (x3 &&& 31))) (x2 + (1 : Int32)) rfl
set_option maxHeartbeats 4000000 in
set_option maxRecDepth 20000 in
theorem wj_X9_there_64 {E : gs_E} {l : Launch} {p : Program} {e : Env} {s : State} {m : MethodId} {args : Array Value} {below : List Frame} {meth : Method} {c : Code} (C : gs_X E RX9 cX9_there 5 p s m args meth c) {ov : Option Value} {σ0 : gs_H} {g0 : Int64} {x1 : Int32} {x2 : Int32} {x3 : Int32} {σ : gs_H} {g : Int64} {r : (Int32 × Int32) ⊕ ((Int32))} (h : j_X9_there_64 x1 x2 x3 σ = some r) (hc : ∀ (y1 : Int32) (y2 : Int32), r = Sum.inl (y1, y2) → gs_V E 5 (0, 0) p l e s m args below meth c ov σ0 g0 15 [(0, .ref (gs_a E 57)), (1, .int y1), (2, .int y2)] [] σ g) (hk0 : ∀ (z1 : Int32), r = Sum.inr z1 → gs_V E 5 (0, 0) p l e s m args below meth c ov σ0 g0 88 [(1, .int z1)] [] σ g) : gs_V E 5 (0, 0) p l e s m args below meth c ov σ0 g0 64 [(0, .ref (gs_a E 57)), (1, .int x1), (2, .int x2), (3, .int x3)] [] σ g := by
  unfold j_X9_there_64 at h
  refine x_iconst C dX9_there_64 (v := 0) (by decide) ?_
  exact wj_X9_there_65 C h hc hk0
set_option maxHeartbeats 4000000 in
set_option maxRecDepth 20000 in
theorem wl_X9_there_15 {E : gs_E} {l : Launch} {p : Program} {e : Env} {s : State} {m : MethodId} {args : Array Value} {below : List Frame} {meth : Method} {c : Code} (C : gs_X E RX9 cX9_there 5 p s m args meth c) {ov : Option Value} {σ0 : gs_H} {g0 : Int64} {σ : gs_H} {g : Int64} {q : (Int32)} (hx0 : ∀ (z1 : Int32), q = z1 → gs_V E 5 (0, 0) p l e s m args below meth c ov σ0 g0 88 [(1, .int z1)] [] σ g) : ∀ (n : Nat) (y1 : Int32) (y2 : Int32), lp (b_X9_there_15 σ) n (y1, y2) = some q → gs_V E 5 (0, 0) p l e s m args below meth c ov σ0 g0 15 [(0, .ref (gs_a E 57)), (1, .int y1), (2, .int y2)] [] σ g := by
  intro n
  induction n with
  | zero => intro y1 y2 h; cases h
  | succ n ih =>
    intro y1 y2 h
    obtain ⟨r, h, hl, he⟩ := lp_step h
    have hc := fun (y1 : Int32) (y2 : Int32) (hr : r = Sum.inl (y1, y2)) => ih y1 y2 (hl _ hr)
    have hk0 := fun (z1 : Int32) (hr : r = Sum.inr z1) => hx0 z1 (he _ hr).symm
    unfold b_X9_there_15 at h
    try dsimp only at h
    refine x_iload_n C dX9_there_15 rfl 2 rfl ?_
    refine x_iconst C dX9_there_16 (v := 2) (by decide) ?_
    refine x_aload_n C dX9_there_17 rfl 0 rfl ?_
    refine x_geti C 57 rfl rfl inX9 4 (by decide) rfl kF_X9_104 rfl (v := (σ 57 4)) rfl dX9_there_18 ?_
    refine x_imul C dX9_there_21 ?_
    by_cases hc1 : ((2 : Int32) * (σ 57 4)) ≤ y2
    · replace h := (if_pos hc1).symm.trans h
      refine x_icmp_geT C dX9_there_22 (tgt := 88) (by decide) hc1 ?_
      refine x_lv (lv' := [(1, .int y1)]) [1] rfl ?_
      obtain rfl := Option.some.inj h
      exact hk0 y1 rfl
    · replace h := (if_neg hc1).symm.trans h
      refine x_icmp_geF C dX9_there_22 (tgt := 88) (by decide) hc1 ?_
      refine x_aload_n C dX9_there_25 rfl 0 rfl ?_
      refine x_getr C 57 rfl rfl inX9 11 (by decide) rfl kF_X9_16 rfl dX9_there_26 ?_
      refine x_iload_n C dX9_there_29 rfl 2 rfl ?_
      obtain ⟨hb2, h⟩ := ck_some h
      refine x_iald C 60 rfl hb2 (v := (σ 60 y2.toNatClampNeg)) rfl dX9_there_30 ?_
      refine x_istore_n C dX9_there_31 rfl (lv2 := [(0, .ref (gs_a E 57)), (1, .int y1), (2, .int y2), (3, .int (σ 60 y2.toNatClampNeg))]) (by decide) rfl [1, 2, 3, 0] rfl ?_
      refine x_iload_n C dX9_there_32 rfl 3 rfl ?_
      refine x_bipush C dX9_there_33 (v := 10) (by decide) ?_
      by_cases hc3 : (10 : Int32) ≤ (σ 60 y2.toNatClampNeg)
      · replace h := (if_pos hc3).symm.trans h
        refine x_icmp_geT C dX9_there_35 (tgt := 64) (by decide) hc3 ?_
        exact wj_X9_there_64 C h hc hk0
      · replace h := (if_neg hc3).symm.trans h
        refine x_icmp_geF C dX9_there_35 (tgt := 64) (by decide) hc3 ?_
        refine x_iload_n C dX9_there_38 rfl 1 rfl ?_
        refine x_iload_n C dX9_there_39 rfl 2 rfl ?_
        refine x_iconst C dX9_there_40 (v := 2) (by decide) ?_
        refine x_idiv C dX9_there_41 (by decide) ?_
        refine x_ishr C dX9_there_42 ?_
        refine x_iconst C dX9_there_43 (v := 1) (by decide) ?_
        refine x_iand C dX9_there_44 ?_
        refine x_iconst C dX9_there_45 (v := 1) (by decide) ?_
        by_cases hc4 : ((y1 >>> ((y2 / (2 : Int32)) &&& 31)) &&& (1 : Int32)) = (1 : Int32)
        · replace h := (if_pos hc4).symm.trans h
          refine x_icmp_neF C dX9_there_46 (tgt := 64) (by decide) hc4 ?_
          refine x_aload_n C dX9_there_49 rfl 0 rfl ?_
          refine x_geti C 57 rfl rfl inX9 8 (by decide) rfl kF_X9_113 rfl (v := (σ 57 8)) rfl dX9_there_50 ?_
          refine x_iload_n C dX9_there_53 rfl 3 rfl ?_
          refine x_ishr C dX9_there_54 ?_
          refine x_iconst C dX9_there_55 (v := 1) (by decide) ?_
          refine x_iand C dX9_there_56 ?_
          by_cases hc5 : (((σ 57 8) >>> ((σ 60 y2.toNatClampNeg) &&& 31)) &&& (1 : Int32)) = 0
          · replace h := (if_pos hc5).symm.trans h
            refine x_if_neF C dX9_there_57 (tgt := 64) (by decide) hc5 ?_
            refine x_iconst C dX9_there_60 (v := 1) (by decide) ?_
            refine x_goto C dX9_there_61 (tgt := 65) (by decide) ?_
            exact wj_X9_there_65 C h hc hk0
          · replace h := (if_neg hc5).symm.trans h
            refine x_if_neT C dX9_there_57 (tgt := 64) (by decide) hc5 ?_
            exact wj_X9_there_64 C h hc hk0
        · replace h := (if_neg hc4).symm.trans h
          refine x_icmp_neT C dX9_there_46 (tgt := 64) (by decide) hc4 ?_
          exact wj_X9_there_64 C h hc hk0
set_option maxHeartbeats 4000000 in
set_option maxRecDepth 20000 in
theorem m_X9_there {E : gs_E} {l : Launch} {σ : gs_H} {g : Int64} {r0 : Int32} (h : f_X9_there σ = some r0) : gs_M l E yX9_there cX9_there 5 (some .int) (0, 0) [.ref (gs_a E 57)] σ g (some (.int r0)) σ g := by
  refine x_enter (lv := [(0, .ref (gs_a E 57))]) (by decide +kernel) (Nat.le_of_ble_eq_true rfl) rfl (fun p e s m args below meth c C hr => ?_)
  unfold f_X9_there at h
  refine x_aload_n C dX9_there_0 rfl 0 rfl ?_
  refine x_geti C 57 rfl rfl inX9 4 (by decide) rfl kF_X9_104 rfl (v := (σ 57 4)) rfl dX9_there_1 ?_
  by_cases hc1 : (σ 57 4) ≤ 0
  · replace h := (if_pos hc1).symm.trans h
    refine x_if_leT C dX9_there_4 (tgt := 11) (by decide) hc1 ?_
    refine x_iconst C dX9_there_11 (v := 0) (by decide) ?_
    refine x_istore_n C dX9_there_12 rfl (lv2 := [(0, .ref (gs_a E 57)), (1, .int (0 : Int32))]) (by decide) rfl [1, 0] rfl ?_
    refine x_iconst C dX9_there_13 (v := 0) (by decide) ?_
    refine x_istore_n C dX9_there_14 rfl (lv2 := [(0, .ref (gs_a E 57)), (1, .int (0 : Int32)), (2, .int (0 : Int32))]) (by decide) rfl [1, 2, 0] rfl ?_
    obtain ⟨q2, hq2, h⟩ := Option.bind_eq_some_iff.mp h
    refine wl_X9_there_15 C (fun v2_0_1 hz => ?_) 1000 _ _ hq2
    subst q2
    try dsimp only at h
    refine x_iload_n C dX9_there_88 rfl 0 rfl ?_
    replace h := Option.some.inj h
    subst h
    exact x_ret C hr rfl rfl dX9_there_89
  · replace h := (if_neg hc1).symm.trans h
    refine x_if_leF C dX9_there_4 (tgt := 11) (by decide) hc1 ?_
    refine x_iconst C dX9_there_7 (v := 1) (by decide) ?_
    refine x_goto C dX9_there_8 (tgt := 12) (by decide) ?_
    refine x_istore_n C dX9_there_12 rfl (lv2 := [(0, .ref (gs_a E 57)), (1, .int (1 : Int32))]) (by decide) rfl [1, 0] rfl ?_
    refine x_iconst C dX9_there_13 (v := 0) (by decide) ?_
    refine x_istore_n C dX9_there_14 rfl (lv2 := [(0, .ref (gs_a E 57)), (1, .int (1 : Int32)), (2, .int (0 : Int32))]) (by decide) rfl [1, 2, 0] rfl ?_
    obtain ⟨q3, hq3, h⟩ := Option.bind_eq_some_iff.mp h
    refine wl_X9_there_15 C (fun v3_0_1 hz => ?_) 1000 _ _ hq3
    subst q3
    try dsimp only at h
    refine x_iload_n C dX9_there_88 rfl 0 rfl ?_
    replace h := Option.some.inj h
    subst h
    exact x_ret C hr rfl rfl dX9_there_89
def b_X9_levelThen_13 (x1 : Int32) (σ : gs_H) (y : Int32 × Int32) : Option ((Int32 × Int32) ⊕ ((Int32))) :=
if (σ 57 4) ≤ y.2 then (
some (Sum.inr y.1))
else (
if ((x1 >>> (y.2 &&& 31)) &&& (1 : Int32)) = (1 : Int32) then (
if inb y.2 5 then
if (σ 67 y.2.toNatClampNeg) = 0 then (
some (Sum.inl ((y.1 + (1 : Int32)), (y.2 + (1 : Int32)))))
else (
some (Sum.inl ((y.1 + (0 : Int32)), (y.2 + (1 : Int32))))) else none)
else (
some (Sum.inl ((y.1 + (0 : Int32)), (y.2 + (1 : Int32))))))
def f_X9_levelThen (σ : gs_H) : Option (Int32 × gs_H) :=
(f_X9_layTilts σ).bind fun q1 =>
(f_X9_there q1).bind fun q2 =>
(lp (b_X9_levelThen_13 q2 q1) 1000 ((0 : Int32), (0 : Int32))).bind fun q3 =>
some (q3, q1)
set_option maxHeartbeats 4000000 in
set_option maxRecDepth 20000 in
theorem wl_X9_levelThen_13 {E : gs_E} {l : Launch} {p : Program} {e : Env} {s : State} {m : MethodId} {args : Array Value} {below : List Frame} {meth : Method} {c : Code} (C : gs_X E RX9 cX9_levelThen 4 p s m args meth c) {ov : Option Value} {σ0 : gs_H} {g0 : Int64} {x1 : Int32} {σ : gs_H} {g : Int64} {q : (Int32)} (hx0 : ∀ (z2 : Int32), q = z2 → gs_V E 4 (4, 88) p l e s m args below meth c ov σ0 g0 53 [(2, .int z2)] [] σ g) : ∀ (n : Nat) (y2 : Int32) (y3 : Int32), lp (b_X9_levelThen_13 x1 σ) n (y2, y3) = some q → gs_V E 4 (4, 88) p l e s m args below meth c ov σ0 g0 13 [(0, .ref (gs_a E 57)), (1, .int x1), (2, .int y2), (3, .int y3)] [] σ g := by
  intro n
  induction n with
  | zero => intro y2 y3 h; cases h
  | succ n ih =>
    intro y2 y3 h
    obtain ⟨r, h, hl, he⟩ := lp_step h
    have hc := fun (y2 : Int32) (y3 : Int32) (hr : r = Sum.inl (y2, y3)) => ih y2 y3 (hl _ hr)
    have hk0 := fun (z2 : Int32) (hr : r = Sum.inr z2) => hx0 z2 (he _ hr).symm
    unfold b_X9_levelThen_13 at h
    try dsimp only at h
    refine x_iload_n C dX9_levelThen_13 rfl 3 rfl ?_
    refine x_aload_n C dX9_levelThen_14 rfl 0 rfl ?_
    refine x_geti C 57 rfl rfl inX9 4 (by decide) rfl kF_X9_104 rfl (v := (σ 57 4)) rfl dX9_levelThen_15 ?_
    by_cases hc1 : (σ 57 4) ≤ y3
    · replace h := (if_pos hc1).symm.trans h
      refine x_icmp_geT C dX9_levelThen_18 (tgt := 53) (by decide) hc1 ?_
      refine x_lv (lv' := [(2, .int y2)]) [2] rfl ?_
      obtain rfl := Option.some.inj h
      exact hk0 y2 rfl
    · replace h := (if_neg hc1).symm.trans h
      refine x_icmp_geF C dX9_levelThen_18 (tgt := 53) (by decide) hc1 ?_
      refine x_iload_n C dX9_levelThen_21 rfl 2 rfl ?_
      refine x_iload_n C dX9_levelThen_22 rfl 1 rfl ?_
      refine x_iload_n C dX9_levelThen_23 rfl 3 rfl ?_
      refine x_ishr C dX9_levelThen_24 ?_
      refine x_iconst C dX9_levelThen_25 (v := 1) (by decide) ?_
      refine x_iand C dX9_levelThen_26 ?_
      refine x_iconst C dX9_levelThen_27 (v := 1) (by decide) ?_
      by_cases hc2 : ((x1 >>> (y3 &&& 31)) &&& (1 : Int32)) = (1 : Int32)
      · replace h := (if_pos hc2).symm.trans h
        refine x_icmp_neF C dX9_levelThen_28 (tgt := 44) (by decide) hc2 ?_
        refine x_aload_n C dX9_levelThen_31 rfl 0 rfl ?_
        refine x_getr C 57 rfl rfl inX9 19 (by decide) rfl kF_X9_37 rfl dX9_levelThen_32 ?_
        refine x_iload_n C dX9_levelThen_35 rfl 3 rfl ?_
        obtain ⟨hb3, h⟩ := ck_some h
        refine x_iald C 67 rfl hb3 (v := (σ 67 y3.toNatClampNeg)) rfl dX9_levelThen_36 ?_
        by_cases hc4 : (σ 67 y3.toNatClampNeg) = 0
        · replace h := (if_pos hc4).symm.trans h
          refine x_if_neF C dX9_levelThen_37 (tgt := 44) (by decide) hc4 ?_
          refine x_iconst C dX9_levelThen_40 (v := 1) (by decide) ?_
          refine x_goto C dX9_levelThen_41 (tgt := 45) (by decide) ?_
          refine x_iadd C dX9_levelThen_45 ?_
          refine x_istore_n C dX9_levelThen_46 rfl (lv2 := [(0, .ref (gs_a E 57)), (1, .int x1), (2, .int (y2 + (1 : Int32))), (3, .int y3)]) (by decide) rfl [1, 2, 0, 3] rfl ?_
          refine x_iinc C dX9_levelThen_47 3 rfl (v := (y3 + (1 : Int32))) rfl (lv2 := [(0, .ref (gs_a E 57)), (1, .int x1), (2, .int (y2 + (1 : Int32))), (3, .int (y3 + (1 : Int32)))]) (by decide) rfl [1, 2, 3, 0] rfl ?_
          refine x_goto C dX9_levelThen_50 (tgt := 13) (by decide) ?_
          obtain rfl := Option.some.inj h
          exact hc (y2 + (1 : Int32)) (y3 + (1 : Int32)) rfl
        · replace h := (if_neg hc4).symm.trans h
          refine x_if_neT C dX9_levelThen_37 (tgt := 44) (by decide) hc4 ?_
          refine x_iconst C dX9_levelThen_44 (v := 0) (by decide) ?_
          refine x_iadd C dX9_levelThen_45 ?_
          refine x_istore_n C dX9_levelThen_46 rfl (lv2 := [(0, .ref (gs_a E 57)), (1, .int x1), (2, .int (y2 + (0 : Int32))), (3, .int y3)]) (by decide) rfl [1, 2, 0, 3] rfl ?_
          refine x_iinc C dX9_levelThen_47 3 rfl (v := (y3 + (1 : Int32))) rfl (lv2 := [(0, .ref (gs_a E 57)), (1, .int x1), (2, .int (y2 + (0 : Int32))), (3, .int (y3 + (1 : Int32)))]) (by decide) rfl [1, 2, 3, 0] rfl ?_
          refine x_goto C dX9_levelThen_50 (tgt := 13) (by decide) ?_
          obtain rfl := Option.some.inj h
          exact hc (y2 + (0 : Int32)) (y3 + (1 : Int32)) rfl
      · replace h := (if_neg hc2).symm.trans h
        refine x_icmp_neT C dX9_levelThen_28 (tgt := 44) (by decide) hc2 ?_
        refine x_iconst C dX9_levelThen_44 (v := 0) (by decide) ?_
        refine x_iadd C dX9_levelThen_45 ?_
        refine x_istore_n C dX9_levelThen_46 rfl (lv2 := [(0, .ref (gs_a E 57)), (1, .int x1), (2, .int (y2 + (0 : Int32))), (3, .int y3)]) (by decide) rfl [1, 2, 0, 3] rfl ?_
        refine x_iinc C dX9_levelThen_47 3 rfl (v := (y3 + (1 : Int32))) rfl (lv2 := [(0, .ref (gs_a E 57)), (1, .int x1), (2, .int (y2 + (0 : Int32))), (3, .int (y3 + (1 : Int32)))]) (by decide) rfl [1, 2, 3, 0] rfl ?_
        refine x_goto C dX9_levelThen_50 (tgt := 13) (by decide) ?_
        obtain rfl := Option.some.inj h
        exact hc (y2 + (0 : Int32)) (y3 + (1 : Int32)) rfl
set_option maxHeartbeats 4000000 in
set_option maxRecDepth 20000 in
theorem m_X9_levelThen {E : gs_E} {l : Launch} {σ : gs_H} {g : Int64} {r0 : Int32} {σ0 : gs_H} (h : f_X9_levelThen σ = some (r0, σ0)) : gs_M l E yX9_levelThen cX9_levelThen 4 (some .int) (4, 88) [.ref (gs_a E 57)] σ g (some (.int r0)) σ0 g := by
  refine x_enter (lv := [(0, .ref (gs_a E 57))]) (by decide +kernel) (Nat.le_of_ble_eq_true rfl) rfl (fun p e s m args below meth c C hr => ?_)
  unfold f_X9_levelThen at h
  refine x_aload_n C dX9_levelThen_0 rfl 0 rfl ?_
  obtain ⟨s1, hv1, h⟩ := Option.bind_eq_some_iff.mp h
  refine x_callV C 57 (m_X9_layTilts hv1) rfl rfl kM_X9_142 kI_X9_layTilts kS_X9_layTilts kN_X9 kC_X9_layTilts kD_X9_layTilts rfl ⟨Nat.le_of_ble_eq_true rfl, Nat.le_of_ble_eq_true rfl⟩ ⟨Nat.le_refl _, Nat.le_refl _⟩ (rest := []) rfl (Nat.le_of_ble_eq_true rfl) dX9_levelThen_1 (st' := []) rfl ?_
  refine x_aload_n C dX9_levelThen_4 rfl 0 rfl ?_
  obtain ⟨v2, hv2, h⟩ := Option.bind_eq_some_iff.mp h
  refine x_callV C 57 (m_X9_there hv2) rfl rfl kM_X9_145 kI_X9_there kS_X9_there kN_X9 kC_X9_there kD_X9_there rfl ⟨Nat.le_of_ble_eq_true rfl, Nat.le_of_ble_eq_true rfl⟩ ⟨Nat.le_refl _, Nat.le_refl _⟩ (rest := []) rfl (Nat.le_of_ble_eq_true rfl) dX9_levelThen_5 (st' := [.int v2]) rfl ?_
  refine x_istore_n C dX9_levelThen_8 rfl (lv2 := [(0, .ref (gs_a E 57)), (1, .int v2)]) (by decide) rfl [1, 0] rfl ?_
  refine x_iconst C dX9_levelThen_9 (v := 0) (by decide) ?_
  refine x_istore_n C dX9_levelThen_10 rfl (lv2 := [(0, .ref (gs_a E 57)), (1, .int v2), (2, .int (0 : Int32))]) (by decide) rfl [1, 2, 0] rfl ?_
  refine x_iconst C dX9_levelThen_11 (v := 0) (by decide) ?_
  refine x_istore_n C dX9_levelThen_12 rfl (lv2 := [(0, .ref (gs_a E 57)), (1, .int v2), (2, .int (0 : Int32)), (3, .int (0 : Int32))]) (by decide) rfl [1, 2, 3, 0] rfl ?_
  obtain ⟨q3, hq3, h⟩ := Option.bind_eq_some_iff.mp h
  refine wl_X9_levelThen_13 C (fun v3_0_2 hz => ?_) 1000 _ _ hq3
  subst q3
  try dsimp only at h
  refine x_iload_n C dX9_levelThen_53 rfl 0 rfl ?_
  replace h := Option.some.inj h
  obtain ⟨rfl, rfl⟩ := Prod.mk.inj h
  exact x_ret C hr rfl rfl dX9_levelThen_54
def f_X9_levelNow (σ : gs_H) : Option (Int32 × gs_H) :=
(f_X9_begin σ).bind fun q1 =>
(f_X9_levelThen q1).bind fun q2 =>
some (q2.1, q2.2)
set_option maxHeartbeats 4000000 in
set_option maxRecDepth 20000 in
theorem m_X9_levelNow {E : gs_E} {l : Launch} {σ : gs_H} {g : Int64} {r0 : Int32} {σ0 : gs_H} (h : f_X9_levelNow σ = some (r0, σ0)) : gs_M l E yX9_levelNow cX9_levelNow 1 (some .int) (5, 111) [.ref (gs_a E 57)] σ g (some (.int r0)) σ0 g := by
  refine x_enter (lv := [(0, .ref (gs_a E 57))]) (by decide +kernel) (Nat.le_of_ble_eq_true rfl) rfl (fun p e s m args below meth c C hr => ?_)
  unfold f_X9_levelNow at h
  refine x_aload_n C dX9_levelNow_0 rfl 0 rfl ?_
  obtain ⟨s1, hv1, h⟩ := Option.bind_eq_some_iff.mp h
  refine x_callV C 57 (m_X9_begin hv1) rfl rfl kM_X9_148 kI_X9_begin kS_X9_begin kN_X9 kC_X9_begin kD_X9_begin rfl ⟨Nat.le_of_ble_eq_true rfl, Nat.le_of_ble_eq_true rfl⟩ ⟨Nat.le_refl _, Nat.le_refl _⟩ (rest := []) rfl (Nat.le_of_ble_eq_true rfl) dX9_levelNow_1 (st' := []) rfl ?_
  refine x_aload_n C dX9_levelNow_4 rfl 0 rfl ?_
  obtain ⟨⟨v2, s2⟩, hv2, h⟩ := Option.bind_eq_some_iff.mp h
  try dsimp only at h
  refine x_callV C 57 (m_X9_levelThen hv2) rfl rfl kM_X9_151 kI_X9_levelThen kS_X9_levelThen kN_X9 kC_X9_levelThen kD_X9_levelThen rfl ⟨Nat.le_of_ble_eq_true rfl, Nat.le_of_ble_eq_true rfl⟩ ⟨Nat.le_refl _, Nat.le_refl _⟩ (rest := []) rfl (Nat.le_of_ble_eq_true rfl) dX9_levelNow_5 (st' := [.int v2]) rfl ?_
  replace h := Option.some.inj h
  obtain ⟨rfl, rfl⟩ := Prod.mk.inj h
  exact x_ret C hr rfl rfl dX9_levelNow_8
def j_X9_trade_35 (ar : Nat) (x1 : Int32) (x2 : Int32) (x3 : Int32) (t1 : Int32) (t2 : Int32) (σ : gs_H) : Option ((Int32 × gs_H) ⊕ ((gs_H))) :=
if inb t1 6 then
some (Sum.inl ((x3 + (1 : Int32)), (up2 σ ar t1.toNatClampNeg t2))) else none
def b_X9_trade_2 (ar : Nat) (x1 : Int32) (x2 : Int32) (y : Int32 × gs_H) : Option ((Int32 × gs_H) ⊕ ((gs_H))) :=
if (6 : Int32) ≤ y.1 then (
some (Sum.inr y.2))
else (
if inb y.1 6 then
if (y.2 ar y.1.toNatClampNeg) = x1 then (
j_X9_trade_35 ar x1 x2 y.1 y.1 x2 y.2)
else (
if inb y.1 6 then
if (y.2 ar y.1.toNatClampNeg) = x2 then (
j_X9_trade_35 ar x1 x2 y.1 y.1 x1 y.2)
else (
if inb y.1 6 then
j_X9_trade_35 ar x1 x2 y.1 y.1 (y.2 ar y.1.toNatClampNeg) y.2 else none) else none) else none)
def f_X9_trade (ar : Nat) (x1 : Int32) (x2 : Int32) (σ : gs_H) : Option (gs_H) :=
(lp (b_X9_trade_2 ar x1 x2) 1000 ((0 : Int32), σ)).bind fun q1 =>
some q1
set_option maxHeartbeats 4000000 in
set_option maxRecDepth 20000 in
theorem wj_X9_trade_35_64 {E : gs_E} {l : Launch} {p : Program} {e : Env} {s : State} {m : MethodId} {args : Array Value} {below : List Frame} {meth : Method} {c : Code} (C : gs_X E RX9 cX9_trade 4 p s m args meth c) {ov : Option Value} {σ0 : gs_H} {g0 : Int64} {x1 : Int32} {x2 : Int32} {x3 : Int32} {t1 : Int32} {t2 : Int32} {σ : gs_H} {g : Int64} {r : (Int32 × gs_H) ⊕ ((gs_H))} (h : j_X9_trade_35 64 x1 x2 x3 t1 t2 σ = some r) (hc : ∀ (y3 : Int32) (ys : gs_H), r = Sum.inl (y3, ys) → gs_V E 4 (0, 0) p l e s m args below meth c ov σ0 g0 2 [(0, .ref (gs_a E 64)), (1, .int x1), (2, .int x2), (3, .int y3)] [] ys g) (hk0 : ∀ (zs : gs_H), r = Sum.inr zs → gs_V E 4 (0, 0) p l e s m args below meth c ov σ0 g0 42 [] [] zs g) : gs_V E 4 (0, 0) p l e s m args below meth c ov σ0 g0 35 [(0, .ref (gs_a E 64)), (1, .int x1), (2, .int x2), (3, .int x3)] [.int t2, .int t1, .ref (gs_a E 64)] σ g := by
  unfold j_X9_trade_35 at h
  obtain ⟨hb1, h⟩ := ck_some h
  refine x_iast C 64 rfl hb1 dX9_trade_35 ?_
  refine x_iinc C dX9_trade_36 3 rfl (v := (x3 + (1 : Int32))) rfl (lv2 := [(0, .ref (gs_a E 64)), (1, .int x1), (2, .int x2), (3, .int (x3 + (1 : Int32)))]) (by decide) rfl [1, 2, 3, 0] rfl ?_
  refine x_goto C dX9_trade_39 (tgt := 2) (by decide) ?_
  obtain rfl := Option.some.inj h
  exact hc (x3 + (1 : Int32)) (up2 σ 64 t1.toNatClampNeg t2) rfl
set_option maxHeartbeats 4000000 in
set_option maxRecDepth 20000 in
theorem wl_X9_trade_2_64 {E : gs_E} {l : Launch} {p : Program} {e : Env} {s : State} {m : MethodId} {args : Array Value} {below : List Frame} {meth : Method} {c : Code} (C : gs_X E RX9 cX9_trade 4 p s m args meth c) {ov : Option Value} {σ0 : gs_H} {g0 : Int64} {x1 : Int32} {x2 : Int32} {g : Int64} {q : (gs_H)} (hx0 : ∀ (zs : gs_H), q = zs → gs_V E 4 (0, 0) p l e s m args below meth c ov σ0 g0 42 [] [] zs g) : ∀ (n : Nat) (y3 : Int32) (ys : gs_H), lp (b_X9_trade_2 64 x1 x2) n (y3, ys) = some q → gs_V E 4 (0, 0) p l e s m args below meth c ov σ0 g0 2 [(0, .ref (gs_a E 64)), (1, .int x1), (2, .int x2), (3, .int y3)] [] ys g := by
  intro n
  induction n with
  | zero => intro y3 ys h; cases h
  | succ n ih =>
    intro y3 ys h
    obtain ⟨r, h, hl, he⟩ := lp_step h
    have hc := fun (y3 : Int32) (ys : gs_H) (hr : r = Sum.inl (y3, ys)) => ih y3 ys (hl _ hr)
    have hk0 := fun (zs : gs_H) (hr : r = Sum.inr zs) => hx0 zs (he _ hr).symm
    unfold b_X9_trade_2 at h
    try dsimp only at h
    refine x_iload_n C dX9_trade_2 rfl 3 rfl ?_
    refine x_bipush C dX9_trade_3 (v := 6) (by decide) ?_
    by_cases hc1 : (6 : Int32) ≤ y3
    · replace h := (if_pos hc1).symm.trans h
      refine x_icmp_geT C dX9_trade_5 (tgt := 42) (by decide) hc1 ?_
      refine x_lv (lv' := []) [] rfl ?_
      obtain rfl := Option.some.inj h
      exact hk0 ys rfl
    · replace h := (if_neg hc1).symm.trans h
      refine x_icmp_geF C dX9_trade_5 (tgt := 42) (by decide) hc1 ?_
      refine x_aload_n C dX9_trade_8 rfl 0 rfl ?_
      refine x_iload_n C dX9_trade_9 rfl 3 rfl ?_
      refine x_aload_n C dX9_trade_10 rfl 0 rfl ?_
      refine x_iload_n C dX9_trade_11 rfl 3 rfl ?_
      obtain ⟨hb2, h⟩ := ck_some h
      refine x_iald C 64 rfl hb2 (v := (ys 64 y3.toNatClampNeg)) rfl dX9_trade_12 ?_
      refine x_iload_n C dX9_trade_13 rfl 1 rfl ?_
      by_cases hc3 : (ys 64 y3.toNatClampNeg) = x1
      · replace h := (if_pos hc3).symm.trans h
        refine x_icmp_neF C dX9_trade_14 (tgt := 21) (by decide) hc3 ?_
        refine x_iload_n C dX9_trade_17 rfl 2 rfl ?_
        refine x_goto C dX9_trade_18 (tgt := 35) (by decide) ?_
        exact wj_X9_trade_35_64 C h hc hk0
      · replace h := (if_neg hc3).symm.trans h
        refine x_icmp_neT C dX9_trade_14 (tgt := 21) (by decide) hc3 ?_
        refine x_aload_n C dX9_trade_21 rfl 0 rfl ?_
        refine x_iload_n C dX9_trade_22 rfl 3 rfl ?_
        obtain ⟨hb4, h⟩ := ck_some h
        refine x_iald C 64 rfl hb4 (v := (ys 64 y3.toNatClampNeg)) rfl dX9_trade_23 ?_
        refine x_iload_n C dX9_trade_24 rfl 2 rfl ?_
        by_cases hc5 : (ys 64 y3.toNatClampNeg) = x2
        · replace h := (if_pos hc5).symm.trans h
          refine x_icmp_neF C dX9_trade_25 (tgt := 32) (by decide) hc5 ?_
          refine x_iload_n C dX9_trade_28 rfl 1 rfl ?_
          refine x_goto C dX9_trade_29 (tgt := 35) (by decide) ?_
          exact wj_X9_trade_35_64 C h hc hk0
        · replace h := (if_neg hc5).symm.trans h
          refine x_icmp_neT C dX9_trade_25 (tgt := 32) (by decide) hc5 ?_
          refine x_aload_n C dX9_trade_32 rfl 0 rfl ?_
          refine x_iload_n C dX9_trade_33 rfl 3 rfl ?_
          obtain ⟨hb6, h⟩ := ck_some h
          refine x_iald C 64 rfl hb6 (v := (ys 64 y3.toNatClampNeg)) rfl dX9_trade_34 ?_
          exact wj_X9_trade_35_64 C h hc hk0
set_option maxHeartbeats 4000000 in
set_option maxRecDepth 20000 in
theorem m_X9_trade_64 {E : gs_E} {l : Launch} {x1 : Int32} {x2 : Int32} {σ : gs_H} {g : Int64} {σ0 : gs_H} (h : f_X9_trade 64 x1 x2 σ = some σ0) : gs_M l E yX9_trade cX9_trade 4 (none) (0, 0) [.ref (gs_a E 64), .int x1, .int x2] σ g (none) σ0 g := by
  refine x_enter (lv := [(0, .ref (gs_a E 64)), (1, .int x1), (2, .int x2)]) (by decide +kernel) (Nat.le_of_ble_eq_true rfl) rfl (fun p e s m args below meth c C hr => ?_)
  unfold f_X9_trade at h
  refine x_iconst C dX9_trade_0 (v := 0) (by decide) ?_
  refine x_istore_n C dX9_trade_1 rfl (lv2 := [(0, .ref (gs_a E 64)), (1, .int x1), (2, .int x2), (3, .int (0 : Int32))]) (by decide) rfl [1, 2, 3, 0] rfl ?_
  obtain ⟨q1, hq1, h⟩ := Option.bind_eq_some_iff.mp h
  refine wl_X9_trade_2_64 C (fun s1_0 hz => ?_) 1000 _ _ hq1
  subst q1
  try dsimp only at h
  replace h := Option.some.inj h
  subst h
  exact x_retv C hr rfl dX9_trade_42
set_option maxHeartbeats 4000000 in
set_option maxRecDepth 20000 in
theorem wj_X9_trade_35_65 {E : gs_E} {l : Launch} {p : Program} {e : Env} {s : State} {m : MethodId} {args : Array Value} {below : List Frame} {meth : Method} {c : Code} (C : gs_X E RX9 cX9_trade 4 p s m args meth c) {ov : Option Value} {σ0 : gs_H} {g0 : Int64} {x1 : Int32} {x2 : Int32} {x3 : Int32} {t1 : Int32} {t2 : Int32} {σ : gs_H} {g : Int64} {r : (Int32 × gs_H) ⊕ ((gs_H))} (h : j_X9_trade_35 65 x1 x2 x3 t1 t2 σ = some r) (hc : ∀ (y3 : Int32) (ys : gs_H), r = Sum.inl (y3, ys) → gs_V E 4 (0, 0) p l e s m args below meth c ov σ0 g0 2 [(0, .ref (gs_a E 65)), (1, .int x1), (2, .int x2), (3, .int y3)] [] ys g) (hk0 : ∀ (zs : gs_H), r = Sum.inr zs → gs_V E 4 (0, 0) p l e s m args below meth c ov σ0 g0 42 [] [] zs g) : gs_V E 4 (0, 0) p l e s m args below meth c ov σ0 g0 35 [(0, .ref (gs_a E 65)), (1, .int x1), (2, .int x2), (3, .int x3)] [.int t2, .int t1, .ref (gs_a E 65)] σ g := by
  unfold j_X9_trade_35 at h
  obtain ⟨hb1, h⟩ := ck_some h
  refine x_iast C 65 rfl hb1 dX9_trade_35 ?_
  refine x_iinc C dX9_trade_36 3 rfl (v := (x3 + (1 : Int32))) rfl (lv2 := [(0, .ref (gs_a E 65)), (1, .int x1), (2, .int x2), (3, .int (x3 + (1 : Int32)))]) (by decide) rfl [1, 2, 3, 0] rfl ?_
  refine x_goto C dX9_trade_39 (tgt := 2) (by decide) ?_
  obtain rfl := Option.some.inj h
  exact hc (x3 + (1 : Int32)) (up2 σ 65 t1.toNatClampNeg t2) rfl
set_option maxHeartbeats 4000000 in
set_option maxRecDepth 20000 in
theorem wl_X9_trade_2_65 {E : gs_E} {l : Launch} {p : Program} {e : Env} {s : State} {m : MethodId} {args : Array Value} {below : List Frame} {meth : Method} {c : Code} (C : gs_X E RX9 cX9_trade 4 p s m args meth c) {ov : Option Value} {σ0 : gs_H} {g0 : Int64} {x1 : Int32} {x2 : Int32} {g : Int64} {q : (gs_H)} (hx0 : ∀ (zs : gs_H), q = zs → gs_V E 4 (0, 0) p l e s m args below meth c ov σ0 g0 42 [] [] zs g) : ∀ (n : Nat) (y3 : Int32) (ys : gs_H), lp (b_X9_trade_2 65 x1 x2) n (y3, ys) = some q → gs_V E 4 (0, 0) p l e s m args below meth c ov σ0 g0 2 [(0, .ref (gs_a E 65)), (1, .int x1), (2, .int x2), (3, .int y3)] [] ys g := by
  intro n
  induction n with
  | zero => intro y3 ys h; cases h
  | succ n ih =>
    intro y3 ys h
    obtain ⟨r, h, hl, he⟩ := lp_step h
    have hc := fun (y3 : Int32) (ys : gs_H) (hr : r = Sum.inl (y3, ys)) => ih y3 ys (hl _ hr)
    have hk0 := fun (zs : gs_H) (hr : r = Sum.inr zs) => hx0 zs (he _ hr).symm
    unfold b_X9_trade_2 at h
    try dsimp only at h
    refine x_iload_n C dX9_trade_2 rfl 3 rfl ?_
    refine x_bipush C dX9_trade_3 (v := 6) (by decide) ?_
    by_cases hc1 : (6 : Int32) ≤ y3
    · replace h := (if_pos hc1).symm.trans h
      refine x_icmp_geT C dX9_trade_5 (tgt := 42) (by decide) hc1 ?_
      refine x_lv (lv' := []) [] rfl ?_
      obtain rfl := Option.some.inj h
      exact hk0 ys rfl
    · replace h := (if_neg hc1).symm.trans h
      refine x_icmp_geF C dX9_trade_5 (tgt := 42) (by decide) hc1 ?_
      refine x_aload_n C dX9_trade_8 rfl 0 rfl ?_
      refine x_iload_n C dX9_trade_9 rfl 3 rfl ?_
      refine x_aload_n C dX9_trade_10 rfl 0 rfl ?_
      refine x_iload_n C dX9_trade_11 rfl 3 rfl ?_
      obtain ⟨hb2, h⟩ := ck_some h
      refine x_iald C 65 rfl hb2 (v := (ys 65 y3.toNatClampNeg)) rfl dX9_trade_12 ?_
      refine x_iload_n C dX9_trade_13 rfl 1 rfl ?_
      by_cases hc3 : (ys 65 y3.toNatClampNeg) = x1
      · replace h := (if_pos hc3).symm.trans h
        refine x_icmp_neF C dX9_trade_14 (tgt := 21) (by decide) hc3 ?_
        refine x_iload_n C dX9_trade_17 rfl 2 rfl ?_
        refine x_goto C dX9_trade_18 (tgt := 35) (by decide) ?_
        exact wj_X9_trade_35_65 C h hc hk0
      · replace h := (if_neg hc3).symm.trans h
        refine x_icmp_neT C dX9_trade_14 (tgt := 21) (by decide) hc3 ?_
        refine x_aload_n C dX9_trade_21 rfl 0 rfl ?_
        refine x_iload_n C dX9_trade_22 rfl 3 rfl ?_
        obtain ⟨hb4, h⟩ := ck_some h
        refine x_iald C 65 rfl hb4 (v := (ys 65 y3.toNatClampNeg)) rfl dX9_trade_23 ?_
        refine x_iload_n C dX9_trade_24 rfl 2 rfl ?_
        by_cases hc5 : (ys 65 y3.toNatClampNeg) = x2
        · replace h := (if_pos hc5).symm.trans h
          refine x_icmp_neF C dX9_trade_25 (tgt := 32) (by decide) hc5 ?_
          refine x_iload_n C dX9_trade_28 rfl 1 rfl ?_
          refine x_goto C dX9_trade_29 (tgt := 35) (by decide) ?_
          exact wj_X9_trade_35_65 C h hc hk0
        · replace h := (if_neg hc5).symm.trans h
          refine x_icmp_neT C dX9_trade_25 (tgt := 32) (by decide) hc5 ?_
          refine x_aload_n C dX9_trade_32 rfl 0 rfl ?_
          refine x_iload_n C dX9_trade_33 rfl 3 rfl ?_
          obtain ⟨hb6, h⟩ := ck_some h
          refine x_iald C 65 rfl hb6 (v := (ys 65 y3.toNatClampNeg)) rfl dX9_trade_34 ?_
          exact wj_X9_trade_35_65 C h hc hk0
set_option maxHeartbeats 4000000 in
set_option maxRecDepth 20000 in
theorem m_X9_trade_65 {E : gs_E} {l : Launch} {x1 : Int32} {x2 : Int32} {σ : gs_H} {g : Int64} {σ0 : gs_H} (h : f_X9_trade 65 x1 x2 σ = some σ0) : gs_M l E yX9_trade cX9_trade 4 (none) (0, 0) [.ref (gs_a E 65), .int x1, .int x2] σ g (none) σ0 g := by
  refine x_enter (lv := [(0, .ref (gs_a E 65)), (1, .int x1), (2, .int x2)]) (by decide +kernel) (Nat.le_of_ble_eq_true rfl) rfl (fun p e s m args below meth c C hr => ?_)
  unfold f_X9_trade at h
  refine x_iconst C dX9_trade_0 (v := 0) (by decide) ?_
  refine x_istore_n C dX9_trade_1 rfl (lv2 := [(0, .ref (gs_a E 65)), (1, .int x1), (2, .int x2), (3, .int (0 : Int32))]) (by decide) rfl [1, 2, 3, 0] rfl ?_
  obtain ⟨q1, hq1, h⟩ := Option.bind_eq_some_iff.mp h
  refine wl_X9_trade_2_65 C (fun s1_0 hz => ?_) 1000 _ _ hq1
  subst q1
  try dsimp only at h
  replace h := Option.some.inj h
  subst h
  exact x_retv C hr rfl dX9_trade_42
def j_X9_bestOf_102 (x1 : Int32) (x3 : Int32) (x6 : Int32) (t0 : Int32) (σ : gs_H) : Option ((Int32 × Int32 × Int32 × gs_H) ⊕ ((Int32 × gs_H))) :=
if x6 ≤ x1 then (
some (Sum.inl (x1, t0, (x3 + (1 : Int32)), σ)))
else (
some (Sum.inl (x6, t0, (x3 + (1 : Int32)), σ)))
def b_X9_bestOf_9 (y : Int32 × Int32 × Int32 × gs_H) : Option ((Int32 × Int32 × Int32 × gs_H) ⊕ ((Int32 × gs_H))) :=
if ((y.2.2.2 57 5) * (y.2.2.2 57 5)) ≤ y.2.2.1 then (
some (Sum.inr (y.2.1, y.2.2.2)))
else (
if ¬ (y.2.2.2 57 5) = 0 then
if ¬ (y.2.2.2 57 5) = 0 then
if (y.2.2.1 - y.2.2.1 / (y.2.2.2 57 5) * (y.2.2.2 57 5)) ≤ (y.2.2.1 / (y.2.2.2 57 5)) then (
some (Sum.inl (y.1, y.2.1, (y.2.2.1 + (1 : Int32)), y.2.2.2)))
else (
if (f_X9_isCut (y.2.2.1 / (y.2.2.2 57 5)) y.2.2.2) = 0 then (
if (f_X9_isCut (y.2.2.1 - y.2.2.1 / (y.2.2.2 57 5) * (y.2.2.2 57 5)) y.2.2.2) = 0 then (
(f_X9_begin y.2.2.2).bind fun q11 =>
(f_X9_trade 65 (y.2.2.1 / (y.2.2.2 57 5)) (y.2.2.1 - y.2.2.1 / (y.2.2.2 57 5) * (y.2.2.2 57 5)) q11).bind fun q12 =>
(f_X9_levelThen q12).bind fun q13 =>
if q13.1 ≤ y.1 then (
j_X9_bestOf_102 y.1 y.2.2.1 q13.1 y.2.1 q13.2)
else (
j_X9_bestOf_102 y.1 y.2.2.1 q13.1 (((10 : Int32) * (y.2.2.1 / (y.2.2.2 57 5))) + (y.2.2.1 - y.2.2.1 / (y.2.2.2 57 5) * (y.2.2.2 57 5))) q13.2))
else (
some (Sum.inl (y.1, y.2.1, (y.2.2.1 + (1 : Int32)), y.2.2.2))))
else (
some (Sum.inl (y.1, y.2.1, (y.2.2.1 + (1 : Int32)), y.2.2.2)))) else none else none)
def f_X9_bestOf (σ : gs_H) : Option (Int32 × gs_H) :=
(f_X9_levelNow σ).bind fun q1 =>
(lp (b_X9_bestOf_9) 1000 (q1.1, (-1 : Int32), (0 : Int32), q1.2)).bind fun q2 =>
some (q2.1, q2.2)
set_option maxHeartbeats 4000000 in
set_option maxRecDepth 20000 in
theorem wj_X9_bestOf_102 {E : gs_E} {l : Launch} {p : Program} {e : Env} {s : State} {m : MethodId} {args : Array Value} {below : List Frame} {meth : Method} {c : Code} (C : gs_X E RX9 cX9_bestOf 7 p s m args meth c) {ov : Option Value} {σ0 : gs_H} {g0 : Int64} {x1 : Int32} {x3 : Int32} {x6 : Int32} {t0 : Int32} {σ : gs_H} {g : Int64} {r : (Int32 × Int32 × Int32 × gs_H) ⊕ ((Int32 × gs_H))} (h : j_X9_bestOf_102 x1 x3 x6 t0 σ = some r) (hc : ∀ (y1 : Int32) (y2 : Int32) (y3 : Int32) (ys : gs_H), r = Sum.inl (y1, y2, y3, ys) → gs_V E 7 (6, 131) p l e s m args below meth c ov σ0 g0 9 [(0, .ref (gs_a E 57)), (1, .int y1), (2, .int y2), (3, .int y3)] [] ys g) (hk0 : ∀ (z2 : Int32) (zs : gs_H), r = Sum.inr (z2, zs) → gs_V E 7 (6, 131) p l e s m args below meth c ov σ0 g0 122 [(2, .int z2)] [] zs g) : gs_V E 7 (6, 131) p l e s m args below meth c ov σ0 g0 102 [(0, .ref (gs_a E 57)), (1, .int x1), (3, .int x3), (6, .int x6)] [.int t0] σ g := by
  unfold j_X9_bestOf_102 at h
  refine x_istore_n C dX9_bestOf_102 rfl (lv2 := [(0, .ref (gs_a E 57)), (1, .int x1), (2, .int t0), (3, .int x3), (6, .int x6)]) (by decide) rfl [1, 2, 0, 3, 4] rfl ?_
  refine x_iload C dX9_bestOf_103 4 rfl ?_
  refine x_iload_n C dX9_bestOf_105 rfl 1 rfl ?_
  by_cases hc1 : x6 ≤ x1
  · replace h := (if_pos hc1).symm.trans h
    refine x_icmp_leT C dX9_bestOf_106 (tgt := 114) (by decide) hc1 ?_
    refine x_iload_n C dX9_bestOf_114 rfl 1 rfl ?_
    refine x_istore_n C dX9_bestOf_115 rfl (lv2 := [(0, .ref (gs_a E 57)), (1, .int x1), (2, .int t0), (3, .int x3), (6, .int x6)]) (by decide) rfl [1, 0, 2, 3, 4] rfl ?_
    refine x_iinc C dX9_bestOf_116 3 rfl (v := (x3 + (1 : Int32))) rfl (lv2 := [(0, .ref (gs_a E 57)), (1, .int x1), (2, .int t0), (3, .int (x3 + (1 : Int32))), (6, .int x6)]) (by decide) rfl [1, 2, 3, 0, 4] rfl ?_
    refine x_goto C dX9_bestOf_119 (tgt := 9) (by decide) ?_
    refine x_lv (lv' := [(0, .ref (gs_a E 57)), (1, .int x1), (2, .int t0), (3, .int (x3 + (1 : Int32)))]) [0, 1, 2, 3] rfl ?_
    obtain rfl := Option.some.inj h
    exact hc x1 t0 (x3 + (1 : Int32)) σ rfl
  · replace h := (if_neg hc1).symm.trans h
    refine x_icmp_leF C dX9_bestOf_106 (tgt := 114) (by decide) hc1 ?_
    refine x_iload C dX9_bestOf_109 4 rfl ?_
    refine x_goto C dX9_bestOf_111 (tgt := 115) (by decide) ?_
    refine x_istore_n C dX9_bestOf_115 rfl (lv2 := [(0, .ref (gs_a E 57)), (1, .int x6), (2, .int t0), (3, .int x3), (6, .int x6)]) (by decide) rfl [1, 0, 2, 3, 4] rfl ?_
    refine x_iinc C dX9_bestOf_116 3 rfl (v := (x3 + (1 : Int32))) rfl (lv2 := [(0, .ref (gs_a E 57)), (1, .int x6), (2, .int t0), (3, .int (x3 + (1 : Int32))), (6, .int x6)]) (by decide) rfl [1, 2, 3, 0, 4] rfl ?_
    refine x_goto C dX9_bestOf_119 (tgt := 9) (by decide) ?_
    refine x_lv (lv' := [(0, .ref (gs_a E 57)), (1, .int x6), (2, .int t0), (3, .int (x3 + (1 : Int32)))]) [0, 1, 2, 3] rfl ?_
    obtain rfl := Option.some.inj h
    exact hc x6 t0 (x3 + (1 : Int32)) σ rfl
set_option maxHeartbeats 4000000 in
set_option maxRecDepth 20000 in
theorem wl_X9_bestOf_9 {E : gs_E} {l : Launch} {p : Program} {e : Env} {s : State} {m : MethodId} {args : Array Value} {below : List Frame} {meth : Method} {c : Code} (C : gs_X E RX9 cX9_bestOf 7 p s m args meth c) {ov : Option Value} {σ0 : gs_H} {g0 : Int64} {g : Int64} {q : (Int32 × gs_H)} (hx0 : ∀ (z2 : Int32) (zs : gs_H), q = (z2, zs) → gs_V E 7 (6, 131) p l e s m args below meth c ov σ0 g0 122 [(2, .int z2)] [] zs g) : ∀ (n : Nat) (y1 : Int32) (y2 : Int32) (y3 : Int32) (ys : gs_H), lp (b_X9_bestOf_9) n (y1, y2, y3, ys) = some q → gs_V E 7 (6, 131) p l e s m args below meth c ov σ0 g0 9 [(0, .ref (gs_a E 57)), (1, .int y1), (2, .int y2), (3, .int y3)] [] ys g := by
  intro n
  induction n with
  | zero => intro y1 y2 y3 ys h; cases h
  | succ n ih =>
    intro y1 y2 y3 ys h
    obtain ⟨r, h, hl, he⟩ := lp_step h
    have hc := fun (y1 : Int32) (y2 : Int32) (y3 : Int32) (ys : gs_H) (hr : r = Sum.inl (y1, y2, y3, ys)) => ih y1 y2 y3 ys (hl _ hr)
    have hk0 := fun (z2 : Int32) (zs : gs_H) (hr : r = Sum.inr (z2, zs)) => hx0 z2 zs (he _ hr).symm
    unfold b_X9_bestOf_9 at h
    try dsimp only at h
    refine x_iload_n C dX9_bestOf_9 rfl 3 rfl ?_
    refine x_aload_n C dX9_bestOf_10 rfl 0 rfl ?_
    refine x_geti C 57 rfl rfl inX9 5 (by decide) rfl kF_X9_107 rfl (v := (ys 57 5)) rfl dX9_bestOf_11 ?_
    refine x_aload_n C dX9_bestOf_14 rfl 0 rfl ?_
    refine x_geti C 57 rfl rfl inX9 5 (by decide) rfl kF_X9_107 rfl (v := (ys 57 5)) rfl dX9_bestOf_15 ?_
    refine x_imul C dX9_bestOf_18 ?_
    by_cases hc1 : ((ys 57 5) * (ys 57 5)) ≤ y3
    · replace h := (if_pos hc1).symm.trans h
      refine x_icmp_geT C dX9_bestOf_19 (tgt := 122) (by decide) hc1 ?_
      refine x_lv (lv' := [(2, .int y2)]) [2] rfl ?_
      obtain rfl := Option.some.inj h
      exact hk0 y2 ys rfl
    · replace h := (if_neg hc1).symm.trans h
      refine x_icmp_geF C dX9_bestOf_19 (tgt := 122) (by decide) hc1 ?_
      refine x_iload_n C dX9_bestOf_22 rfl 3 rfl ?_
      refine x_aload_n C dX9_bestOf_23 rfl 0 rfl ?_
      refine x_geti C 57 rfl rfl inX9 5 (by decide) rfl kF_X9_107 rfl (v := (ys 57 5)) rfl dX9_bestOf_24 ?_
      obtain ⟨hn2, h⟩ := ck_some h
      refine x_idiv C dX9_bestOf_27 hn2 ?_
      refine x_istore C dX9_bestOf_28 (lv2 := [(0, .ref (gs_a E 57)), (1, .int y1), (2, .int y2), (3, .int y3), (4, .int (y3 / (ys 57 5)))]) (by decide) rfl [1, 2, 3, 4, 0] rfl ?_
      refine x_iload_n C dX9_bestOf_30 rfl 3 rfl ?_
      refine x_aload_n C dX9_bestOf_31 rfl 0 rfl ?_
      refine x_geti C 57 rfl rfl inX9 5 (by decide) rfl kF_X9_107 rfl (v := (ys 57 5)) rfl dX9_bestOf_32 ?_
      obtain ⟨hn3, h⟩ := ck_some h
      refine x_irem C dX9_bestOf_35 hn3 ?_
      refine x_istore C dX9_bestOf_36 (lv2 := [(0, .ref (gs_a E 57)), (1, .int y1), (2, .int y2), (3, .int y3), (4, .int (y3 / (ys 57 5))), (5, .int (y3 - y3 / (ys 57 5) * (ys 57 5)))]) (by decide) rfl [1, 2, 3, 4, 5, 0] rfl ?_
      refine x_iload C dX9_bestOf_38 4 rfl ?_
      refine x_iload C dX9_bestOf_40 5 rfl ?_
      by_cases hc4 : (y3 - y3 / (ys 57 5) * (ys 57 5)) ≤ (y3 / (ys 57 5))
      · replace h := (if_pos hc4).symm.trans h
        refine x_icmp_geT C dX9_bestOf_42 (tgt := 116) (by decide) hc4 ?_
        refine x_iinc C dX9_bestOf_116 3 rfl (v := (y3 + (1 : Int32))) rfl (lv2 := [(0, .ref (gs_a E 57)), (1, .int y1), (2, .int y2), (3, .int (y3 + (1 : Int32))), (4, .int (y3 / (ys 57 5))), (5, .int (y3 - y3 / (ys 57 5) * (ys 57 5)))]) (by decide) rfl [1, 2, 3, 0, 4, 5] rfl ?_
        refine x_goto C dX9_bestOf_119 (tgt := 9) (by decide) ?_
        refine x_lv (lv' := [(0, .ref (gs_a E 57)), (1, .int y1), (2, .int y2), (3, .int (y3 + (1 : Int32)))]) [0, 1, 2, 3] rfl ?_
        obtain rfl := Option.some.inj h
        exact hc y1 y2 (y3 + (1 : Int32)) ys rfl
      · replace h := (if_neg hc4).symm.trans h
        refine x_icmp_geF C dX9_bestOf_42 (tgt := 116) (by decide) hc4 ?_
        refine x_aload_n C dX9_bestOf_45 rfl 0 rfl ?_
        refine x_iload C dX9_bestOf_46 4 rfl ?_
        refine x_callV C 57 (m_X9_isCut rfl) rfl rfl kM_X9_186 kI_X9_isCut kS_X9_isCut kN_X9 kC_X9_isCut kD_X9_isCut rfl ⟨Nat.le_of_ble_eq_true rfl, Nat.le_of_ble_eq_true rfl⟩ ⟨Nat.le_refl _, Nat.le_refl _⟩ (rest := []) rfl (Nat.le_of_ble_eq_true rfl) dX9_bestOf_48 (st' := [.int (f_X9_isCut (y3 / (ys 57 5)) ys)]) rfl ?_
        by_cases hc6 : (f_X9_isCut (y3 / (ys 57 5)) ys) = 0
        · replace h := (if_pos hc6).symm.trans h
          refine x_if_neF C dX9_bestOf_51 (tgt := 116) (by decide) hc6 ?_
          refine x_aload_n C dX9_bestOf_54 rfl 0 rfl ?_
          refine x_iload C dX9_bestOf_55 5 rfl ?_
          refine x_callV C 57 (m_X9_isCut rfl) rfl rfl kM_X9_186 kI_X9_isCut kS_X9_isCut kN_X9 kC_X9_isCut kD_X9_isCut rfl ⟨Nat.le_of_ble_eq_true rfl, Nat.le_of_ble_eq_true rfl⟩ ⟨Nat.le_refl _, Nat.le_refl _⟩ (rest := []) rfl (Nat.le_of_ble_eq_true rfl) dX9_bestOf_57 (st' := [.int (f_X9_isCut (y3 - y3 / (ys 57 5) * (ys 57 5)) ys)]) rfl ?_
          by_cases hc8 : (f_X9_isCut (y3 - y3 / (ys 57 5) * (ys 57 5)) ys) = 0
          · replace h := (if_pos hc8).symm.trans h
            refine x_if_neF C dX9_bestOf_60 (tgt := 116) (by decide) hc8 ?_
            refine x_aload_n C dX9_bestOf_63 rfl 0 rfl ?_
            obtain ⟨s9, hv9, h⟩ := Option.bind_eq_some_iff.mp h
            refine x_callV C 57 (m_X9_begin hv9) rfl rfl kM_X9_148 kI_X9_begin kS_X9_begin kN_X9 kC_X9_begin kD_X9_begin rfl ⟨Nat.le_of_ble_eq_true rfl, Nat.le_of_ble_eq_true rfl⟩ ⟨Nat.le_refl _, Nat.le_refl _⟩ (rest := []) rfl (Nat.le_of_ble_eq_true rfl) dX9_bestOf_64 (st' := []) rfl ?_
            refine x_aload_n C dX9_bestOf_67 rfl 0 rfl ?_
            refine x_getr C 57 rfl rfl inX9 16 (by decide) rfl kF_X9_31 rfl dX9_bestOf_68 ?_
            refine x_iload C dX9_bestOf_71 4 rfl ?_
            refine x_iload C dX9_bestOf_73 5 rfl ?_
            obtain ⟨s10, hv10, h⟩ := Option.bind_eq_some_iff.mp h
            refine x_callS C (m_X9_trade_65 hv10) kM_X9_189 kT_X9_trade kN_X9 kC_X9_trade kD_X9_trade rfl ⟨Nat.le_of_ble_eq_true rfl, Nat.le_of_ble_eq_true rfl⟩ ⟨Nat.le_refl _, Nat.le_refl _⟩ (rest := []) rfl (Nat.le_of_ble_eq_true rfl) dX9_bestOf_75 (st' := []) rfl ?_
            refine x_aload_n C dX9_bestOf_78 rfl 0 rfl ?_
            obtain ⟨⟨v11, s11⟩, hv11, h⟩ := Option.bind_eq_some_iff.mp h
            try dsimp only at h
            refine x_callV C 57 (m_X9_levelThen hv11) rfl rfl kM_X9_151 kI_X9_levelThen kS_X9_levelThen kN_X9 kC_X9_levelThen kD_X9_levelThen rfl ⟨Nat.le_of_ble_eq_true rfl, Nat.le_of_ble_eq_true rfl⟩ ⟨Nat.le_refl _, Nat.le_refl _⟩ (rest := []) rfl (Nat.le_of_ble_eq_true rfl) dX9_bestOf_79 (st' := [.int v11]) rfl ?_
            refine x_istore C dX9_bestOf_82 (lv2 := [(0, .ref (gs_a E 57)), (1, .int y1), (2, .int y2), (3, .int y3), (4, .int (y3 / (ys 57 5))), (5, .int (y3 - y3 / (ys 57 5) * (ys 57 5))), (6, .int v11)]) (by decide) rfl [1, 2, 3, 4, 5, 6, 0] rfl ?_
            refine x_iload C dX9_bestOf_84 6 rfl ?_
            refine x_iload_n C dX9_bestOf_86 rfl 1 rfl ?_
            by_cases hc12 : v11 ≤ y1
            · replace h := (if_pos hc12).symm.trans h
              refine x_icmp_leT C dX9_bestOf_87 (tgt := 101) (by decide) hc12 ?_
              refine x_iload_n C dX9_bestOf_101 rfl 2 rfl ?_
              refine x_lv (lv' := [(0, .ref (gs_a E 57)), (1, .int y1), (3, .int y3), (6, .int v11)]) [0, 1, 3, 6] rfl ?_
              exact wj_X9_bestOf_102 C h hc hk0
            · replace h := (if_neg hc12).symm.trans h
              refine x_icmp_leF C dX9_bestOf_87 (tgt := 101) (by decide) hc12 ?_
              refine x_bipush C dX9_bestOf_90 (v := 10) (by decide) ?_
              refine x_iload C dX9_bestOf_92 4 rfl ?_
              refine x_imul C dX9_bestOf_94 ?_
              refine x_iload C dX9_bestOf_95 5 rfl ?_
              refine x_iadd C dX9_bestOf_97 ?_
              refine x_goto C dX9_bestOf_98 (tgt := 102) (by decide) ?_
              refine x_lv (lv' := [(0, .ref (gs_a E 57)), (1, .int y1), (3, .int y3), (6, .int v11)]) [0, 1, 3, 6] rfl ?_
              exact wj_X9_bestOf_102 C h hc hk0
          · replace h := (if_neg hc8).symm.trans h
            refine x_if_neT C dX9_bestOf_60 (tgt := 116) (by decide) hc8 ?_
            refine x_iinc C dX9_bestOf_116 3 rfl (v := (y3 + (1 : Int32))) rfl (lv2 := [(0, .ref (gs_a E 57)), (1, .int y1), (2, .int y2), (3, .int (y3 + (1 : Int32))), (4, .int (y3 / (ys 57 5))), (5, .int (y3 - y3 / (ys 57 5) * (ys 57 5)))]) (by decide) rfl [1, 2, 3, 0, 4, 5] rfl ?_
            refine x_goto C dX9_bestOf_119 (tgt := 9) (by decide) ?_
            refine x_lv (lv' := [(0, .ref (gs_a E 57)), (1, .int y1), (2, .int y2), (3, .int (y3 + (1 : Int32)))]) [0, 1, 2, 3] rfl ?_
            obtain rfl := Option.some.inj h
            exact hc y1 y2 (y3 + (1 : Int32)) ys rfl
        · replace h := (if_neg hc6).symm.trans h
          refine x_if_neT C dX9_bestOf_51 (tgt := 116) (by decide) hc6 ?_
          refine x_iinc C dX9_bestOf_116 3 rfl (v := (y3 + (1 : Int32))) rfl (lv2 := [(0, .ref (gs_a E 57)), (1, .int y1), (2, .int y2), (3, .int (y3 + (1 : Int32))), (4, .int (y3 / (ys 57 5))), (5, .int (y3 - y3 / (ys 57 5) * (ys 57 5)))]) (by decide) rfl [1, 2, 3, 0, 4, 5] rfl ?_
          refine x_goto C dX9_bestOf_119 (tgt := 9) (by decide) ?_
          refine x_lv (lv' := [(0, .ref (gs_a E 57)), (1, .int y1), (2, .int y2), (3, .int (y3 + (1 : Int32)))]) [0, 1, 2, 3] rfl ?_
          obtain rfl := Option.some.inj h
          exact hc y1 y2 (y3 + (1 : Int32)) ys rfl
set_option maxHeartbeats 4000000 in
set_option maxRecDepth 20000 in
theorem m_X9_bestOf {E : gs_E} {l : Launch} {σ : gs_H} {g : Int64} {r0 : Int32} {σ0 : gs_H} (h : f_X9_bestOf σ = some (r0, σ0)) : gs_M l E yX9_bestOf cX9_bestOf 7 (some .int) (6, 131) [.ref (gs_a E 57)] σ g (some (.int r0)) σ0 g := by
  refine x_enter (lv := [(0, .ref (gs_a E 57))]) (by decide +kernel) (Nat.le_of_ble_eq_true rfl) rfl (fun p e s m args below meth c C hr => ?_)
  unfold f_X9_bestOf at h
  refine x_aload_n C dX9_bestOf_0 rfl 0 rfl ?_
  obtain ⟨⟨v1, s1⟩, hv1, h⟩ := Option.bind_eq_some_iff.mp h
  try dsimp only at h
  refine x_callV C 57 (m_X9_levelNow hv1) rfl rfl kM_X9_193 kI_X9_levelNow kS_X9_levelNow kN_X9 kC_X9_levelNow kD_X9_levelNow rfl ⟨Nat.le_of_ble_eq_true rfl, Nat.le_of_ble_eq_true rfl⟩ ⟨Nat.le_refl _, Nat.le_refl _⟩ (rest := []) rfl (Nat.le_of_ble_eq_true rfl) dX9_bestOf_1 (st' := [.int v1]) rfl ?_
  refine x_istore_n C dX9_bestOf_4 rfl (lv2 := [(0, .ref (gs_a E 57)), (1, .int v1)]) (by decide) rfl [1, 0] rfl ?_
  refine x_iconst C dX9_bestOf_5 (v := -1) (by decide) ?_
  refine x_istore_n C dX9_bestOf_6 rfl (lv2 := [(0, .ref (gs_a E 57)), (1, .int v1), (2, .int (-1 : Int32))]) (by decide) rfl [1, 2, 0] rfl ?_
  refine x_iconst C dX9_bestOf_7 (v := 0) (by decide) ?_
  refine x_istore_n C dX9_bestOf_8 rfl (lv2 := [(0, .ref (gs_a E 57)), (1, .int v1), (2, .int (-1 : Int32)), (3, .int (0 : Int32))]) (by decide) rfl [1, 2, 3, 0] rfl ?_
  obtain ⟨q2, hq2, h⟩ := Option.bind_eq_some_iff.mp h
  refine wl_X9_bestOf_9 C (fun v2_0_2 s2_0 hz => ?_) 1000 _ _ _ _ hq2
  subst q2
  try dsimp only at h
  refine x_iload_n C dX9_bestOf_122 rfl 0 rfl ?_
  replace h := Option.some.inj h
  obtain ⟨rfl, rfl⟩ := Prod.mk.inj h
  exact x_ret C hr rfl rfl dX9_bestOf_123
def f_X9_lacks (σ : gs_H) : Int32 :=
if (σ 57 4) = 0 then (
(1 : Int32))
else (
(0 : Int32))
set_option maxHeartbeats 4000000 in
set_option maxRecDepth 20000 in
theorem m_X9_lacks {E : gs_E} {l : Launch} {σ : gs_H} {g : Int64} {r0 : Int32} (h : f_X9_lacks σ = r0) : gs_M l E yX9_lacks cX9_lacks 1 (some .boolean) (0, 0) [.ref (gs_a E 57)] σ g (some (.int r0)) σ g := by
  refine x_enter (lv := [(0, .ref (gs_a E 57))]) (by decide +kernel) (Nat.le_of_ble_eq_true rfl) rfl (fun p e s m args below meth c C hr => ?_)
  unfold f_X9_lacks at h
  refine x_aload_n C dX9_lacks_0 rfl 0 rfl ?_
  refine x_geti C 57 rfl rfl inX9 4 (by decide) rfl kF_X9_104 rfl (v := (σ 57 4)) rfl dX9_lacks_1 ?_
  by_cases hc1 : (σ 57 4) = 0
  · replace h := (if_pos hc1).symm.trans h
    refine x_if_neF C dX9_lacks_4 (tgt := 11) (by decide) hc1 ?_
    refine x_iconst C dX9_lacks_7 (v := 1) (by decide) ?_
    refine x_goto C dX9_lacks_8 (tgt := 12) (by decide) ?_
    subst h
    exact x_retb C hr (by decide) rfl dX9_lacks_12
  · replace h := (if_neg hc1).symm.trans h
    refine x_if_neT C dX9_lacks_4 (tgt := 11) (by decide) hc1 ?_
    refine x_iconst C dX9_lacks_11 (v := 0) (by decide) ?_
    subst h
    exact x_retb C hr (by decide) rfl dX9_lacks_12
def f_X9_best (σ : gs_H) : Option (Int32 × gs_H) :=
if (f_X9_lacks σ) = 0 then (
(f_X9_bestOf σ).bind fun q3 =>
some (q3.1, q3.2))
else (
some ((-103 : Int32), σ))
set_option maxHeartbeats 4000000 in
set_option maxRecDepth 20000 in
theorem m_X9_best {E : gs_E} {l : Launch} {σ : gs_H} {g : Int64} {r0 : Int32} {σ0 : gs_H} (h : f_X9_best σ = some (r0, σ0)) : gs_M l E yX9_best cX9_best 1 (some .int) (7, 157) [.ref (gs_a E 57)] σ g (some (.int r0)) σ0 g := by
  refine x_enter (lv := [(0, .ref (gs_a E 57))]) (by decide +kernel) (Nat.le_of_ble_eq_true rfl) rfl (fun p e s m args below meth c C hr => ?_)
  unfold f_X9_best at h
  refine x_aload_n C dX9_best_0 rfl 0 rfl ?_
  refine x_callV C 57 (m_X9_lacks rfl) rfl rfl kM_X9_182 kI_X9_lacks kS_X9_lacks kN_X9 kC_X9_lacks kD_X9_lacks rfl ⟨Nat.le_of_ble_eq_true rfl, Nat.le_of_ble_eq_true rfl⟩ ⟨Nat.le_refl _, Nat.le_refl _⟩ (rest := []) rfl (Nat.le_of_ble_eq_true rfl) dX9_best_1 (st' := [.int (f_X9_lacks σ)]) rfl ?_
  by_cases hc2 : (f_X9_lacks σ) = 0
  · replace h := (if_pos hc2).symm.trans h
    refine x_if_eqT C dX9_best_4 (tgt := 12) (by decide) hc2 ?_
    refine x_aload_n C dX9_best_12 rfl 0 rfl ?_
    obtain ⟨⟨v3, s3⟩, hv3, h⟩ := Option.bind_eq_some_iff.mp h
    try dsimp only at h
    refine x_callV C 57 (m_X9_bestOf hv3) rfl rfl kM_X9_201 kI_X9_bestOf kS_X9_bestOf kN_X9 kC_X9_bestOf kD_X9_bestOf rfl ⟨Nat.le_of_ble_eq_true rfl, Nat.le_of_ble_eq_true rfl⟩ ⟨Nat.le_refl _, Nat.le_refl _⟩ (rest := []) rfl (Nat.le_of_ble_eq_true rfl) dX9_best_13 (st' := [.int v3]) rfl ?_
    replace h := Option.some.inj h
    obtain ⟨rfl, rfl⟩ := Prod.mk.inj h
    exact x_ret C hr rfl rfl dX9_best_16
  · replace h := (if_neg hc2).symm.trans h
    refine x_if_eqF C dX9_best_4 (tgt := 12) (by decide) hc2 ?_
    refine x_bipush C dX9_best_7 (v := -103) (by decide) ?_
    refine x_goto C dX9_best_9 (tgt := 16) (by decide) ?_
    replace h := Option.some.inj h
    obtain ⟨rfl, rfl⟩ := Prod.mk.inj h
    exact x_ret C hr rfl rfl dX9_best_16
def f_X9_blank (σ : gs_H) : Int32 × gs_H :=
((σ 57 1), (up2 σ 57 1 (0 : Int32)))
set_option maxHeartbeats 4000000 in
set_option maxRecDepth 20000 in
theorem m_X9_blank {E : gs_E} {l : Launch} {σ : gs_H} {g : Int64} {r0 : Int32} {σ0 : gs_H} (h : f_X9_blank σ = (r0, σ0)) : gs_M l E yX9_blank cX9_blank 2 (some .int) (0, 0) [.ref (gs_a E 57)] σ g (some (.int r0)) σ0 g := by
  refine x_enter (lv := [(0, .ref (gs_a E 57))]) (by decide +kernel) (Nat.le_of_ble_eq_true rfl) rfl (fun p e s m args below meth c C hr => ?_)
  unfold f_X9_blank at h
  refine x_aload_n C dX9_blank_0 rfl 0 rfl ?_
  refine x_geti C 57 rfl rfl inX9 1 (by decide) rfl kF_X9_68 rfl (v := (σ 57 1)) rfl dX9_blank_1 ?_
  refine x_istore_n C dX9_blank_4 rfl (lv2 := [(0, .ref (gs_a E 57)), (1, .int (σ 57 1))]) (by decide) rfl [1, 0] rfl ?_
  refine x_aload_n C dX9_blank_5 rfl 0 rfl ?_
  refine x_iconst C dX9_blank_6 (v := 0) (by decide) ?_
  refine x_puti C 57 rfl rfl inX9 tyX9 tyX9_ok nmX9 1 (by decide) rfl kF_X9_68 rfl rfl rfl rfl dX9_blank_7 ?_
  refine x_iload_n C dX9_blank_10 rfl 1 rfl ?_
  obtain ⟨rfl, rfl⟩ := Prod.mk.inj h
  exact x_ret C hr rfl rfl dX9_blank_11
def f_X9_change (x1 : Int32) (x2 : Int32) (x3 : Int32) (σ : gs_H) : Option (Int32 × gs_H) :=
(f_X9_isThing x1 σ).bind fun q1 =>
if q1 = 0 then (
some ((-101 : Int32), σ))
else (
if (f_X9_in x2.toInt64 (0 : Int64) (4 : Int64)) = 0 then (
some ((-102 : Int32), σ))
else (
if (f_X9_in x3.toInt64 (0 : Int64) (9 : Int64)) = 0 then (
some ((-102 : Int32), σ))
else (
if inb x1 6 then
if inb x1 6 then
if inb x1 6 then
some ((σ 62 x1.toNatClampNeg), (up2 (up2 σ 62 x1.toNatClampNeg x2) 63 x1.toNatClampNeg x3)) else none else none else none)))
set_option maxHeartbeats 4000000 in
set_option maxRecDepth 20000 in
theorem m_X9_change {E : gs_E} {l : Launch} {x1 : Int32} {x2 : Int32} {x3 : Int32} {σ : gs_H} {g : Int64} {r0 : Int32} {σ0 : gs_H} (h : f_X9_change x1 x2 x3 σ = some (r0, σ0)) : gs_M l E yX9_change cX9_change 5 (some .int) (2, 46) [.ref (gs_a E 57), .int x1, .int x2, .int x3] σ g (some (.int r0)) σ0 g := by
  refine x_enter (lv := [(0, .ref (gs_a E 57)), (1, .int x1), (2, .int x2), (3, .int x3)]) (by decide +kernel) (Nat.le_of_ble_eq_true rfl) rfl (fun p e s m args below meth c C hr => ?_)
  unfold f_X9_change at h
  refine x_aload_n C dX9_change_0 rfl 0 rfl ?_
  refine x_iload_n C dX9_change_1 rfl 1 rfl ?_
  obtain ⟨v1, hv1, h⟩ := Option.bind_eq_some_iff.mp h
  refine x_callV C 57 (m_X9_isThing hv1) rfl rfl kM_X9_176 kI_X9_isThing kS_X9_isThing kN_X9 kC_X9_isThing kD_X9_isThing rfl ⟨Nat.le_of_ble_eq_true rfl, Nat.le_of_ble_eq_true rfl⟩ ⟨Nat.le_refl _, Nat.le_refl _⟩ (rest := []) rfl (Nat.le_of_ble_eq_true rfl) dX9_change_2 (st' := [.int v1]) rfl ?_
  by_cases hc2 : v1 = 0
  · replace h := (if_pos hc2).symm.trans h
    refine x_if_neF C dX9_change_5 (tgt := 11) (by decide) hc2 ?_
    refine x_bipush C dX9_change_8 (v := -101) (by decide) ?_
    replace h := Option.some.inj h
    obtain ⟨rfl, rfl⟩ := Prod.mk.inj h
    exact x_ret C hr rfl rfl dX9_change_10
  · replace h := (if_neg hc2).symm.trans h
    refine x_if_neT C dX9_change_5 (tgt := 11) (by decide) hc2 ?_
    refine x_iload_n C dX9_change_11 rfl 2 rfl ?_
    refine x_i2l C dX9_change_12 ?_
    refine x_lconst C dX9_change_13 (v := 0) (by decide) ?_
    refine x_ldc2 C kK_X9_71 dX9_change_14 ?_
    refine x_callS C (m_X9_in rfl) kM_X9_64 kT_X9_in kN_X9 kC_X9_in kD_X9_in rfl ⟨Nat.le_of_ble_eq_true rfl, Nat.le_of_ble_eq_true rfl⟩ ⟨Nat.le_refl _, Nat.le_refl _⟩ (rest := []) rfl (Nat.le_of_ble_eq_true rfl) dX9_change_17 (st' := [.int (f_X9_in x2.toInt64 (0 : Int64) (4 : Int64))]) rfl ?_
    by_cases hc4 : (f_X9_in x2.toInt64 (0 : Int64) (4 : Int64)) = 0
    · replace h := (if_pos hc4).symm.trans h
      refine x_if_eqT C dX9_change_20 (tgt := 35) (by decide) hc4 ?_
      refine x_bipush C dX9_change_35 (v := -102) (by decide) ?_
      replace h := Option.some.inj h
      obtain ⟨rfl, rfl⟩ := Prod.mk.inj h
      exact x_ret C hr rfl rfl dX9_change_37
    · replace h := (if_neg hc4).symm.trans h
      refine x_if_eqF C dX9_change_20 (tgt := 35) (by decide) hc4 ?_
      refine x_iload_n C dX9_change_23 rfl 3 rfl ?_
      refine x_i2l C dX9_change_24 ?_
      refine x_lconst C dX9_change_25 (v := 0) (by decide) ?_
      refine x_ldc2 C kK_X9_199 dX9_change_26 ?_
      refine x_callS C (m_X9_in rfl) kM_X9_64 kT_X9_in kN_X9 kC_X9_in kD_X9_in rfl ⟨Nat.le_of_ble_eq_true rfl, Nat.le_of_ble_eq_true rfl⟩ ⟨Nat.le_refl _, Nat.le_refl _⟩ (rest := []) rfl (Nat.le_of_ble_eq_true rfl) dX9_change_29 (st' := [.int (f_X9_in x3.toInt64 (0 : Int64) (9 : Int64))]) rfl ?_
      by_cases hc6 : (f_X9_in x3.toInt64 (0 : Int64) (9 : Int64)) = 0
      · replace h := (if_pos hc6).symm.trans h
        refine x_if_neF C dX9_change_32 (tgt := 38) (by decide) hc6 ?_
        refine x_bipush C dX9_change_35 (v := -102) (by decide) ?_
        replace h := Option.some.inj h
        obtain ⟨rfl, rfl⟩ := Prod.mk.inj h
        exact x_ret C hr rfl rfl dX9_change_37
      · replace h := (if_neg hc6).symm.trans h
        refine x_if_neT C dX9_change_32 (tgt := 38) (by decide) hc6 ?_
        refine x_aload_n C dX9_change_38 rfl 0 rfl ?_
        refine x_getr C 57 rfl rfl inX9 13 (by decide) rfl kF_X9_22 rfl dX9_change_39 ?_
        refine x_iload_n C dX9_change_42 rfl 1 rfl ?_
        obtain ⟨hb7, h⟩ := ck_some h
        refine x_iald C 62 rfl hb7 (v := (σ 62 x1.toNatClampNeg)) rfl dX9_change_43 ?_
        refine x_istore C dX9_change_44 (lv2 := [(0, .ref (gs_a E 57)), (1, .int x1), (2, .int x2), (3, .int x3), (4, .int (σ 62 x1.toNatClampNeg))]) (by decide) rfl [1, 2, 3, 4, 0] rfl ?_
        refine x_aload_n C dX9_change_46 rfl 0 rfl ?_
        refine x_getr C 57 rfl rfl inX9 13 (by decide) rfl kF_X9_22 rfl dX9_change_47 ?_
        refine x_iload_n C dX9_change_50 rfl 1 rfl ?_
        refine x_iload_n C dX9_change_51 rfl 2 rfl ?_
        obtain ⟨hb8, h⟩ := ck_some h
        refine x_iast C 62 rfl hb8 dX9_change_52 ?_
        refine x_aload_n C dX9_change_53 rfl 0 rfl ?_
        refine x_getr C 57 rfl rfl inX9 14 (by decide) rfl kF_X9_25 rfl dX9_change_54 ?_
        refine x_iload_n C dX9_change_57 rfl 1 rfl ?_
        refine x_iload_n C dX9_change_58 rfl 3 rfl ?_
        obtain ⟨hb9, h⟩ := ck_some h
        refine x_iast C 63 rfl hb9 dX9_change_59 ?_
        refine x_iload C dX9_change_60 4 rfl ?_
        replace h := Option.some.inj h
        obtain ⟨rfl, rfl⟩ := Prod.mk.inj h
        exact x_ret C hr rfl rfl dX9_change_62
def b_X9_ones_4 (x0 : Int32) (y : Int32 × Int32) : Option ((Int32 × Int32) ⊕ ((Int32))) :=
if (10 : Int32) ≤ y.2 then (
some (Sum.inr y.1))
else (
some (Sum.inl ((y.1 + ((x0 >>> (y.2 &&& 31)) &&& (1 : Int32))), (y.2 + (1 : Int32)))))
def f_X9_ones (x0 : Int32) : Option (Int32) :=
(lp (b_X9_ones_4 x0) 1000 ((0 : Int32), (0 : Int32))).bind fun q1 =>
some q1
set_option maxHeartbeats 4000000 in
set_option maxRecDepth 20000 in
theorem wl_X9_ones_4 {E : gs_E} {l : Launch} {p : Program} {e : Env} {s : State} {m : MethodId} {args : Array Value} {below : List Frame} {meth : Method} {c : Code} (C : gs_X E RX9 cX9_ones 3 p s m args meth c) {ov : Option Value} {σ0 : gs_H} {g0 : Int64} {x0 : Int32} {σ : gs_H} {g : Int64} {q : (Int32)} (hx0 : ∀ (z1 : Int32), q = z1 → gs_V E 3 (0, 0) p l e s m args below meth c ov σ0 g0 24 [(1, .int z1)] [] σ g) : ∀ (n : Nat) (y1 : Int32) (y2 : Int32), lp (b_X9_ones_4 x0) n (y1, y2) = some q → gs_V E 3 (0, 0) p l e s m args below meth c ov σ0 g0 4 [(0, .int x0), (1, .int y1), (2, .int y2)] [] σ g := by
  intro n
  induction n with
  | zero => intro y1 y2 h; cases h
  | succ n ih =>
    intro y1 y2 h
    obtain ⟨r, h, hl, he⟩ := lp_step h
    have hc := fun (y1 : Int32) (y2 : Int32) (hr : r = Sum.inl (y1, y2)) => ih y1 y2 (hl _ hr)
    have hk0 := fun (z1 : Int32) (hr : r = Sum.inr z1) => hx0 z1 (he _ hr).symm
    unfold b_X9_ones_4 at h
    try dsimp only at h
    refine x_iload_n C dX9_ones_4 rfl 2 rfl ?_
    refine x_bipush C dX9_ones_5 (v := 10) (by decide) ?_
    by_cases hc1 : (10 : Int32) ≤ y2
    · replace h := (if_pos hc1).symm.trans h
      refine x_icmp_geT C dX9_ones_7 (tgt := 24) (by decide) hc1 ?_
      refine x_lv (lv' := [(1, .int y1)]) [1] rfl ?_
      obtain rfl := Option.some.inj h
      exact hk0 y1 rfl
    · replace h := (if_neg hc1).symm.trans h
      refine x_icmp_geF C dX9_ones_7 (tgt := 24) (by decide) hc1 ?_
      refine x_iload_n C dX9_ones_10 rfl 1 rfl ?_
      refine x_iload_n C dX9_ones_11 rfl 0 rfl ?_
      refine x_iload_n C dX9_ones_12 rfl 2 rfl ?_
      refine x_ishr C dX9_ones_13 ?_
      refine x_iconst C dX9_ones_14 (v := 1) (by decide) ?_
      refine x_iand C dX9_ones_15 ?_
      refine x_iadd C dX9_ones_16 ?_
      refine x_istore_n C dX9_ones_17 rfl (lv2 := [(0, .int x0), (1, .int (y1 + ((x0 >>> (y2 &&& 31)) &&& (1 : Int32)))), (2, .int y2)]) (by decide) rfl [1, 0, 2] rfl ?_
      refine x_iinc C dX9_ones_18 2 rfl (v := (y2 + (1 : Int32))) rfl (lv2 := [(0, .int x0), (1, .int (y1 + ((x0 >>> (y2 &&& 31)) &&& (1 : Int32)))), (2, .int (y2 + (1 : Int32)))]) (by decide) rfl [1, 2, 0] rfl ?_
      refine x_goto C dX9_ones_21 (tgt := 4) (by decide) ?_
      obtain rfl := Option.some.inj h
      exact hc (y1 + ((x0 >>> (y2 &&& 31)) &&& (1 : Int32))) (y2 + (1 : Int32)) rfl
set_option maxHeartbeats 4000000 in
set_option maxRecDepth 20000 in
theorem m_X9_ones {E : gs_E} {l : Launch} {x0 : Int32} {σ : gs_H} {g : Int64} {r0 : Int32} (h : f_X9_ones x0 = some r0) : gs_M l E yX9_ones cX9_ones 3 (some .int) (0, 0) [.int x0] σ g (some (.int r0)) σ g := by
  refine x_enter (lv := [(0, .int x0)]) (by decide +kernel) (Nat.le_of_ble_eq_true rfl) rfl (fun p e s m args below meth c C hr => ?_)
  unfold f_X9_ones at h
  refine x_iconst C dX9_ones_0 (v := 0) (by decide) ?_
  refine x_istore_n C dX9_ones_1 rfl (lv2 := [(0, .int x0), (1, .int (0 : Int32))]) (by decide) rfl [1, 0] rfl ?_
  refine x_iconst C dX9_ones_2 (v := 0) (by decide) ?_
  refine x_istore_n C dX9_ones_3 rfl (lv2 := [(0, .int x0), (1, .int (0 : Int32)), (2, .int (0 : Int32))]) (by decide) rfl [1, 2, 0] rfl ?_
  obtain ⟨q1, hq1, h⟩ := Option.bind_eq_some_iff.mp h
  refine wl_X9_ones_4 C (fun v1_0_1 hz => ?_) 1000 _ _ hq1
  subst q1
  try dsimp only at h
  refine x_iload_n C dX9_ones_24 rfl 0 rfl ?_
  replace h := Option.some.inj h
  subst h
  exact x_ret C hr rfl rfl dX9_ones_25
def b_X9_thingsThere_9 (x1 : Int32) (σ : gs_H) (y : Int32 × Int32) : Option ((Int32 × Int32) ⊕ ((Int32))) :=
if (σ 57 5) ≤ y.2 then (
some (Sum.inr y.1))
else (
if (f_X9_isCut y.2 σ) = 0 then (
(f_X9_armOf y.2 σ).bind fun q6 =>
if ((x1 >>> ((q6 / (2 : Int32)) &&& 31)) &&& (1 : Int32)) = (1 : Int32) then (
some (Sum.inl ((y.1 + (1 : Int32)), (y.2 + (1 : Int32)))))
else (
some (Sum.inl ((y.1 + (0 : Int32)), (y.2 + (1 : Int32))))))
else (
some (Sum.inl ((y.1 + (0 : Int32)), (y.2 + (1 : Int32))))))
def f_X9_thingsThere (σ : gs_H) : Option (Int32) :=
(f_X9_there σ).bind fun q1 =>
(lp (b_X9_thingsThere_9 q1 σ) 1000 ((0 : Int32), (0 : Int32))).bind fun q2 =>
some q2
set_option maxHeartbeats 4000000 in
set_option maxRecDepth 20000 in
theorem wl_X9_thingsThere_9 {E : gs_E} {l : Launch} {p : Program} {e : Env} {s : State} {m : MethodId} {args : Array Value} {below : List Frame} {meth : Method} {c : Code} (C : gs_X E RX9 cX9_thingsThere 4 p s m args meth c) {ov : Option Value} {σ0 : gs_H} {g0 : Int64} {x1 : Int32} {σ : gs_H} {g : Int64} {q : (Int32)} (hx0 : ∀ (z2 : Int32), q = z2 → gs_V E 4 (1, 24) p l e s m args below meth c ov σ0 g0 54 [(2, .int z2)] [] σ g) : ∀ (n : Nat) (y2 : Int32) (y3 : Int32), lp (b_X9_thingsThere_9 x1 σ) n (y2, y3) = some q → gs_V E 4 (1, 24) p l e s m args below meth c ov σ0 g0 9 [(0, .ref (gs_a E 57)), (1, .int x1), (2, .int y2), (3, .int y3)] [] σ g := by
  intro n
  induction n with
  | zero => intro y2 y3 h; cases h
  | succ n ih =>
    intro y2 y3 h
    obtain ⟨r, h, hl, he⟩ := lp_step h
    have hc := fun (y2 : Int32) (y3 : Int32) (hr : r = Sum.inl (y2, y3)) => ih y2 y3 (hl _ hr)
    have hk0 := fun (z2 : Int32) (hr : r = Sum.inr z2) => hx0 z2 (he _ hr).symm
    unfold b_X9_thingsThere_9 at h
    try dsimp only at h
    refine x_iload_n C dX9_thingsThere_9 rfl 3 rfl ?_
    refine x_aload_n C dX9_thingsThere_10 rfl 0 rfl ?_
    refine x_geti C 57 rfl rfl inX9 5 (by decide) rfl kF_X9_107 rfl (v := (σ 57 5)) rfl dX9_thingsThere_11 ?_
    by_cases hc1 : (σ 57 5) ≤ y3
    · replace h := (if_pos hc1).symm.trans h
      refine x_icmp_geT C dX9_thingsThere_14 (tgt := 54) (by decide) hc1 ?_
      refine x_lv (lv' := [(2, .int y2)]) [2] rfl ?_
      obtain rfl := Option.some.inj h
      exact hk0 y2 rfl
    · replace h := (if_neg hc1).symm.trans h
      refine x_icmp_geF C dX9_thingsThere_14 (tgt := 54) (by decide) hc1 ?_
      refine x_iload_n C dX9_thingsThere_17 rfl 2 rfl ?_
      refine x_aload_n C dX9_thingsThere_18 rfl 0 rfl ?_
      refine x_iload_n C dX9_thingsThere_19 rfl 3 rfl ?_
      refine x_callV C 57 (m_X9_isCut rfl) rfl rfl kM_X9_186 kI_X9_isCut kS_X9_isCut kN_X9 kC_X9_isCut kD_X9_isCut rfl ⟨Nat.le_of_ble_eq_true rfl, Nat.le_of_ble_eq_true rfl⟩ ⟨Nat.le_refl _, Nat.le_refl _⟩ (rest := [.int y2]) rfl (Nat.le_of_ble_eq_true rfl) dX9_thingsThere_20 (st' := [.int (f_X9_isCut y3 σ), .int y2]) rfl ?_
      by_cases hc3 : (f_X9_isCut y3 σ) = 0
      · replace h := (if_pos hc3).symm.trans h
        refine x_if_neF C dX9_thingsThere_23 (tgt := 45) (by decide) hc3 ?_
        refine x_iload_n C dX9_thingsThere_26 rfl 1 rfl ?_
        refine x_aload_n C dX9_thingsThere_27 rfl 0 rfl ?_
        refine x_iload_n C dX9_thingsThere_28 rfl 3 rfl ?_
        obtain ⟨v4, hv4, h⟩ := Option.bind_eq_some_iff.mp h
        refine x_callV C 57 (m_X9_armOf hv4) rfl rfl kM_X9_170 kI_X9_armOf kS_X9_armOf kN_X9 kC_X9_armOf kD_X9_armOf rfl ⟨Nat.le_of_ble_eq_true rfl, Nat.le_of_ble_eq_true rfl⟩ ⟨Nat.le_refl _, Nat.le_refl _⟩ (rest := [.int x1, .int y2]) rfl (Nat.le_of_ble_eq_true rfl) dX9_thingsThere_29 (st' := [.int v4, .int x1, .int y2]) rfl ?_
        refine x_iconst C dX9_thingsThere_32 (v := 2) (by decide) ?_
        refine x_idiv C dX9_thingsThere_33 (by decide) ?_
        refine x_ishr C dX9_thingsThere_34 ?_
        refine x_iconst C dX9_thingsThere_35 (v := 1) (by decide) ?_
        refine x_iand C dX9_thingsThere_36 ?_
        refine x_iconst C dX9_thingsThere_37 (v := 1) (by decide) ?_
        by_cases hc5 : ((x1 >>> ((v4 / (2 : Int32)) &&& 31)) &&& (1 : Int32)) = (1 : Int32)
        · replace h := (if_pos hc5).symm.trans h
          refine x_icmp_neF C dX9_thingsThere_38 (tgt := 45) (by decide) hc5 ?_
          refine x_iconst C dX9_thingsThere_41 (v := 1) (by decide) ?_
          refine x_goto C dX9_thingsThere_42 (tgt := 46) (by decide) ?_
          refine x_iadd C dX9_thingsThere_46 ?_
          refine x_istore_n C dX9_thingsThere_47 rfl (lv2 := [(0, .ref (gs_a E 57)), (1, .int x1), (2, .int (y2 + (1 : Int32))), (3, .int y3)]) (by decide) rfl [1, 2, 0, 3] rfl ?_
          refine x_iinc C dX9_thingsThere_48 3 rfl (v := (y3 + (1 : Int32))) rfl (lv2 := [(0, .ref (gs_a E 57)), (1, .int x1), (2, .int (y2 + (1 : Int32))), (3, .int (y3 + (1 : Int32)))]) (by decide) rfl [1, 2, 3, 0] rfl ?_
          refine x_goto C dX9_thingsThere_51 (tgt := 9) (by decide) ?_
          obtain rfl := Option.some.inj h
          exact hc (y2 + (1 : Int32)) (y3 + (1 : Int32)) rfl
        · replace h := (if_neg hc5).symm.trans h
          refine x_icmp_neT C dX9_thingsThere_38 (tgt := 45) (by decide) hc5 ?_
          refine x_iconst C dX9_thingsThere_45 (v := 0) (by decide) ?_
          refine x_iadd C dX9_thingsThere_46 ?_
          refine x_istore_n C dX9_thingsThere_47 rfl (lv2 := [(0, .ref (gs_a E 57)), (1, .int x1), (2, .int (y2 + (0 : Int32))), (3, .int y3)]) (by decide) rfl [1, 2, 0, 3] rfl ?_
          refine x_iinc C dX9_thingsThere_48 3 rfl (v := (y3 + (1 : Int32))) rfl (lv2 := [(0, .ref (gs_a E 57)), (1, .int x1), (2, .int (y2 + (0 : Int32))), (3, .int (y3 + (1 : Int32)))]) (by decide) rfl [1, 2, 3, 0] rfl ?_
          refine x_goto C dX9_thingsThere_51 (tgt := 9) (by decide) ?_
          obtain rfl := Option.some.inj h
          exact hc (y2 + (0 : Int32)) (y3 + (1 : Int32)) rfl
      · replace h := (if_neg hc3).symm.trans h
        refine x_if_neT C dX9_thingsThere_23 (tgt := 45) (by decide) hc3 ?_
        refine x_iconst C dX9_thingsThere_45 (v := 0) (by decide) ?_
        refine x_iadd C dX9_thingsThere_46 ?_
        refine x_istore_n C dX9_thingsThere_47 rfl (lv2 := [(0, .ref (gs_a E 57)), (1, .int x1), (2, .int (y2 + (0 : Int32))), (3, .int y3)]) (by decide) rfl [1, 2, 0, 3] rfl ?_
        refine x_iinc C dX9_thingsThere_48 3 rfl (v := (y3 + (1 : Int32))) rfl (lv2 := [(0, .ref (gs_a E 57)), (1, .int x1), (2, .int (y2 + (0 : Int32))), (3, .int (y3 + (1 : Int32)))]) (by decide) rfl [1, 2, 3, 0] rfl ?_
        refine x_goto C dX9_thingsThere_51 (tgt := 9) (by decide) ?_
        obtain rfl := Option.some.inj h
        exact hc (y2 + (0 : Int32)) (y3 + (1 : Int32)) rfl
set_option maxHeartbeats 4000000 in
set_option maxRecDepth 20000 in
theorem m_X9_thingsThere {E : gs_E} {l : Launch} {σ : gs_H} {g : Int64} {r0 : Int32} (h : f_X9_thingsThere σ = some r0) : gs_M l E yX9_thingsThere cX9_thingsThere 4 (some .int) (1, 24) [.ref (gs_a E 57)] σ g (some (.int r0)) σ g := by
  refine x_enter (lv := [(0, .ref (gs_a E 57))]) (by decide +kernel) (Nat.le_of_ble_eq_true rfl) rfl (fun p e s m args below meth c C hr => ?_)
  unfold f_X9_thingsThere at h
  refine x_aload_n C dX9_thingsThere_0 rfl 0 rfl ?_
  obtain ⟨v1, hv1, h⟩ := Option.bind_eq_some_iff.mp h
  refine x_callV C 57 (m_X9_there hv1) rfl rfl kM_X9_145 kI_X9_there kS_X9_there kN_X9 kC_X9_there kD_X9_there rfl ⟨Nat.le_of_ble_eq_true rfl, Nat.le_of_ble_eq_true rfl⟩ ⟨Nat.le_refl _, Nat.le_refl _⟩ (rest := []) rfl (Nat.le_of_ble_eq_true rfl) dX9_thingsThere_1 (st' := [.int v1]) rfl ?_
  refine x_istore_n C dX9_thingsThere_4 rfl (lv2 := [(0, .ref (gs_a E 57)), (1, .int v1)]) (by decide) rfl [1, 0] rfl ?_
  refine x_iconst C dX9_thingsThere_5 (v := 0) (by decide) ?_
  refine x_istore_n C dX9_thingsThere_6 rfl (lv2 := [(0, .ref (gs_a E 57)), (1, .int v1), (2, .int (0 : Int32))]) (by decide) rfl [1, 2, 0] rfl ?_
  refine x_iconst C dX9_thingsThere_7 (v := 0) (by decide) ?_
  refine x_istore_n C dX9_thingsThere_8 rfl (lv2 := [(0, .ref (gs_a E 57)), (1, .int v1), (2, .int (0 : Int32)), (3, .int (0 : Int32))]) (by decide) rfl [1, 2, 3, 0] rfl ?_
  obtain ⟨q2, hq2, h⟩ := Option.bind_eq_some_iff.mp h
  refine wl_X9_thingsThere_9 C (fun v2_0_2 hz => ?_) 1000 _ _ hq2
  subst q2
  try dsimp only at h
  refine x_iload_n C dX9_thingsThere_54 rfl 0 rfl ?_
  replace h := Option.some.inj h
  subst h
  exact x_ret C hr rfl rfl dX9_thingsThere_55
def f_X9_weighsAll (σ : gs_H) : Option (Int32 × gs_H) :=
(f_X9_begin σ).bind fun q1 =>
(f_X9_layTilts q1).bind fun q2 =>
if (f_X9_lacks q2) = 0 then (
if inb (0 : Int32) 5 then
some (((10000 : Int32) + (q2 66 (0 : Int32).toNatClampNeg)), q2) else none)
else (
some ((10000 : Int32), q2))
set_option maxHeartbeats 4000000 in
set_option maxRecDepth 20000 in
theorem m_X9_weighsAll {E : gs_E} {l : Launch} {σ : gs_H} {g : Int64} {r0 : Int32} {σ0 : gs_H} (h : f_X9_weighsAll σ = some (r0, σ0)) : gs_M l E yX9_weighsAll cX9_weighsAll 1 (some .int) (4, 88) [.ref (gs_a E 57)] σ g (some (.int r0)) σ0 g := by
  refine x_enter (lv := [(0, .ref (gs_a E 57))]) (by decide +kernel) (Nat.le_of_ble_eq_true rfl) rfl (fun p e s m args below meth c C hr => ?_)
  unfold f_X9_weighsAll at h
  refine x_aload_n C dX9_weighsAll_0 rfl 0 rfl ?_
  obtain ⟨s1, hv1, h⟩ := Option.bind_eq_some_iff.mp h
  refine x_callV C 57 (m_X9_begin hv1) rfl rfl kM_X9_148 kI_X9_begin kS_X9_begin kN_X9 kC_X9_begin kD_X9_begin rfl ⟨Nat.le_of_ble_eq_true rfl, Nat.le_of_ble_eq_true rfl⟩ ⟨Nat.le_refl _, Nat.le_refl _⟩ (rest := []) rfl (Nat.le_of_ble_eq_true rfl) dX9_weighsAll_1 (st' := []) rfl ?_
  refine x_aload_n C dX9_weighsAll_4 rfl 0 rfl ?_
  obtain ⟨s2, hv2, h⟩ := Option.bind_eq_some_iff.mp h
  refine x_callV C 57 (m_X9_layTilts hv2) rfl rfl kM_X9_142 kI_X9_layTilts kS_X9_layTilts kN_X9 kC_X9_layTilts kD_X9_layTilts rfl ⟨Nat.le_of_ble_eq_true rfl, Nat.le_of_ble_eq_true rfl⟩ ⟨Nat.le_refl _, Nat.le_refl _⟩ (rest := []) rfl (Nat.le_of_ble_eq_true rfl) dX9_weighsAll_5 (st' := []) rfl ?_
  refine x_aload_n C dX9_weighsAll_8 rfl 0 rfl ?_
  refine x_callV C 57 (m_X9_lacks rfl) rfl rfl kM_X9_182 kI_X9_lacks kS_X9_lacks kN_X9 kC_X9_lacks kD_X9_lacks rfl ⟨Nat.le_of_ble_eq_true rfl, Nat.le_of_ble_eq_true rfl⟩ ⟨Nat.le_refl _, Nat.le_refl _⟩ (rest := []) rfl (Nat.le_of_ble_eq_true rfl) dX9_weighsAll_9 (st' := [.int (f_X9_lacks s2)]) rfl ?_
  by_cases hc4 : (f_X9_lacks s2) = 0
  · replace h := (if_pos hc4).symm.trans h
    refine x_if_eqT C dX9_weighsAll_12 (tgt := 21) (by decide) hc4 ?_
    refine x_sipush C dX9_weighsAll_21 (v := 10000) (by decide) ?_
    refine x_aload_n C dX9_weighsAll_24 rfl 0 rfl ?_
    refine x_getr C 57 rfl rfl inX9 18 (by decide) rfl kF_X9_34 rfl dX9_weighsAll_25 ?_
    refine x_iconst C dX9_weighsAll_28 (v := 0) (by decide) ?_
    obtain ⟨hb5, h⟩ := ck_some h
    refine x_iald C 66 rfl hb5 (v := (s2 66 (0 : Int32).toNatClampNeg)) rfl dX9_weighsAll_29 ?_
    refine x_iadd C dX9_weighsAll_30 ?_
    replace h := Option.some.inj h
    obtain ⟨rfl, rfl⟩ := Prod.mk.inj h
    exact x_ret C hr rfl rfl dX9_weighsAll_31
  · replace h := (if_neg hc4).symm.trans h
    refine x_if_eqF C dX9_weighsAll_12 (tgt := 21) (by decide) hc4 ?_
    refine x_sipush C dX9_weighsAll_15 (v := 10000) (by decide) ?_
    refine x_goto C dX9_weighsAll_18 (tgt := 31) (by decide) ?_
    replace h := Option.some.inj h
    obtain ⟨rfl, rfl⟩ := Prod.mk.inj h
    exact x_ret C hr rfl rfl dX9_weighsAll_31
def f_X9_countOf (x1 : Int32) (σ : gs_H) : Option (Int32 × gs_H) :=
if x1 = 0 then (
some ((σ 57 4), σ))
else (
if x1 = 1 then (
some ((σ 57 5), σ))
else (
if x1 = 2 then (
(f_X9_there σ).bind fun q2 =>
(f_X9_ones q2).bind fun q3 =>
some (q3, σ))
else (
if x1 = 3 then (
(f_X9_levelNow σ).bind fun q4 =>
some (q4.1, q4.2))
else (
if x1 = 4 then (
(f_X9_thingsThere σ).bind fun q5 =>
some (q5, σ))
else (
if x1 = 5 then (
some ((σ 57 6), σ))
else (
if x1 = 6 then (
(f_X9_weighsAll σ).bind fun q6 =>
some (q6.1, q6.2))
else (
if x1 = 7 then (
some ((σ 57 21), σ))
else (
if x1 = 8 then (
some ((σ 57 1), σ))
else (
if x1 = 9 then (
some ((σ 57 7), σ))
else (
if x1 = 10 then (
some ((σ 57 20), σ))
else (
some ((-102 : Int32), σ))))))))))))
set_option maxHeartbeats 4000000 in
set_option maxRecDepth 20000 in
theorem m_X9_countOf {E : gs_E} {l : Launch} {x1 : Int32} {σ : gs_H} {g : Int64} {r0 : Int32} {σ0 : gs_H} (h : f_X9_countOf x1 σ = some (r0, σ0)) : gs_M l E yX9_countOf cX9_countOf 2 (some .int) (6, 131) [.ref (gs_a E 57), .int x1] σ g (some (.int r0)) σ0 g := by
  refine x_enter (lv := [(0, .ref (gs_a E 57)), (1, .int x1)]) (by decide +kernel) (Nat.le_of_ble_eq_true rfl) rfl (fun p e s m args below meth c C hr => ?_)
  unfold f_X9_countOf at h
  refine x_iload_n C dX9_countOf_0 rfl 1 rfl ?_
  by_cases hs1_0 : x1 = 0
  · replace h := (if_pos hs1_0).symm.trans h
    refine x_tsw C dX9_countOf_1 0 hs1_0 (by decide) (by decide) (off := 59) rfl (tgt := 60) (by decide) ?_
    refine x_aload_n C dX9_countOf_60 rfl 0 rfl ?_
    refine x_geti C 57 rfl rfl inX9 4 (by decide) rfl kF_X9_104 rfl (v := (σ 57 4)) rfl dX9_countOf_61 ?_
    replace h := Option.some.inj h
    obtain ⟨rfl, rfl⟩ := Prod.mk.inj h
    exact x_ret C hr rfl rfl dX9_countOf_64
  · replace h := (if_neg hs1_0).symm.trans h
    by_cases hs1_1 : x1 = 1
    · replace h := (if_pos hs1_1).symm.trans h
      refine x_tsw C dX9_countOf_1 1 hs1_1 (by decide) (by decide) (off := 64) rfl (tgt := 65) (by decide) ?_
      refine x_aload_n C dX9_countOf_65 rfl 0 rfl ?_
      refine x_geti C 57 rfl rfl inX9 5 (by decide) rfl kF_X9_107 rfl (v := (σ 57 5)) rfl dX9_countOf_66 ?_
      replace h := Option.some.inj h
      obtain ⟨rfl, rfl⟩ := Prod.mk.inj h
      exact x_ret C hr rfl rfl dX9_countOf_69
    · replace h := (if_neg hs1_1).symm.trans h
      by_cases hs1_2 : x1 = 2
      · replace h := (if_pos hs1_2).symm.trans h
        refine x_tsw C dX9_countOf_1 2 hs1_2 (by decide) (by decide) (off := 69) rfl (tgt := 70) (by decide) ?_
        refine x_aload_n C dX9_countOf_70 rfl 0 rfl ?_
        obtain ⟨v2, hv2, h⟩ := Option.bind_eq_some_iff.mp h
        refine x_callV C 57 (m_X9_there hv2) rfl rfl kM_X9_145 kI_X9_there kS_X9_there kN_X9 kC_X9_there kD_X9_there rfl ⟨Nat.le_of_ble_eq_true rfl, Nat.le_of_ble_eq_true rfl⟩ ⟨Nat.le_refl _, Nat.le_refl _⟩ (rest := []) rfl (Nat.le_of_ble_eq_true rfl) dX9_countOf_71 (st' := [.int v2]) rfl ?_
        obtain ⟨v3, hv3, h⟩ := Option.bind_eq_some_iff.mp h
        refine x_callS C (m_X9_ones hv3) kM_X9_196 kT_X9_ones kN_X9 kC_X9_ones kD_X9_ones rfl ⟨Nat.le_of_ble_eq_true rfl, Nat.le_of_ble_eq_true rfl⟩ ⟨Nat.le_refl _, Nat.le_refl _⟩ (rest := []) rfl (Nat.le_of_ble_eq_true rfl) dX9_countOf_74 (st' := [.int v3]) rfl ?_
        replace h := Option.some.inj h
        obtain ⟨rfl, rfl⟩ := Prod.mk.inj h
        exact x_ret C hr rfl rfl dX9_countOf_77
      · replace h := (if_neg hs1_2).symm.trans h
        by_cases hs1_3 : x1 = 3
        · replace h := (if_pos hs1_3).symm.trans h
          refine x_tsw C dX9_countOf_1 3 hs1_3 (by decide) (by decide) (off := 77) rfl (tgt := 78) (by decide) ?_
          refine x_aload_n C dX9_countOf_78 rfl 0 rfl ?_
          obtain ⟨⟨v4, s4⟩, hv4, h⟩ := Option.bind_eq_some_iff.mp h
          try dsimp only at h
          refine x_callV C 57 (m_X9_levelNow hv4) rfl rfl kM_X9_193 kI_X9_levelNow kS_X9_levelNow kN_X9 kC_X9_levelNow kD_X9_levelNow rfl ⟨Nat.le_of_ble_eq_true rfl, Nat.le_of_ble_eq_true rfl⟩ ⟨Nat.le_refl _, Nat.le_refl _⟩ (rest := []) rfl (Nat.le_of_ble_eq_true rfl) dX9_countOf_79 (st' := [.int v4]) rfl ?_
          replace h := Option.some.inj h
          obtain ⟨rfl, rfl⟩ := Prod.mk.inj h
          exact x_ret C hr rfl rfl dX9_countOf_82
        · replace h := (if_neg hs1_3).symm.trans h
          by_cases hs1_4 : x1 = 4
          · replace h := (if_pos hs1_4).symm.trans h
            refine x_tsw C dX9_countOf_1 4 hs1_4 (by decide) (by decide) (off := 82) rfl (tgt := 83) (by decide) ?_
            refine x_aload_n C dX9_countOf_83 rfl 0 rfl ?_
            obtain ⟨v5, hv5, h⟩ := Option.bind_eq_some_iff.mp h
            refine x_callV C 57 (m_X9_thingsThere hv5) rfl rfl kM_X9_269 kI_X9_thingsThere kS_X9_thingsThere kN_X9 kC_X9_thingsThere kD_X9_thingsThere rfl ⟨Nat.le_of_ble_eq_true rfl, Nat.le_of_ble_eq_true rfl⟩ ⟨Nat.le_refl _, Nat.le_refl _⟩ (rest := []) rfl (Nat.le_of_ble_eq_true rfl) dX9_countOf_84 (st' := [.int v5]) rfl ?_
            replace h := Option.some.inj h
            obtain ⟨rfl, rfl⟩ := Prod.mk.inj h
            exact x_ret C hr rfl rfl dX9_countOf_87
          · replace h := (if_neg hs1_4).symm.trans h
            by_cases hs1_5 : x1 = 5
            · replace h := (if_pos hs1_5).symm.trans h
              refine x_tsw C dX9_countOf_1 5 hs1_5 (by decide) (by decide) (off := 87) rfl (tgt := 88) (by decide) ?_
              refine x_aload_n C dX9_countOf_88 rfl 0 rfl ?_
              refine x_geti C 57 rfl rfl inX9 6 (by decide) rfl kF_X9_110 rfl (v := (σ 57 6)) rfl dX9_countOf_89 ?_
              replace h := Option.some.inj h
              obtain ⟨rfl, rfl⟩ := Prod.mk.inj h
              exact x_ret C hr rfl rfl dX9_countOf_92
            · replace h := (if_neg hs1_5).symm.trans h
              by_cases hs1_6 : x1 = 6
              · replace h := (if_pos hs1_6).symm.trans h
                refine x_tsw C dX9_countOf_1 6 hs1_6 (by decide) (by decide) (off := 92) rfl (tgt := 93) (by decide) ?_
                refine x_aload_n C dX9_countOf_93 rfl 0 rfl ?_
                obtain ⟨⟨v6, s6⟩, hv6, h⟩ := Option.bind_eq_some_iff.mp h
                try dsimp only at h
                refine x_callV C 57 (m_X9_weighsAll hv6) rfl rfl kM_X9_272 kI_X9_weighsAll kS_X9_weighsAll kN_X9 kC_X9_weighsAll kD_X9_weighsAll rfl ⟨Nat.le_of_ble_eq_true rfl, Nat.le_of_ble_eq_true rfl⟩ ⟨Nat.le_refl _, Nat.le_refl _⟩ (rest := []) rfl (Nat.le_of_ble_eq_true rfl) dX9_countOf_94 (st' := [.int v6]) rfl ?_
                replace h := Option.some.inj h
                obtain ⟨rfl, rfl⟩ := Prod.mk.inj h
                exact x_ret C hr rfl rfl dX9_countOf_97
              · replace h := (if_neg hs1_6).symm.trans h
                by_cases hs1_7 : x1 = 7
                · replace h := (if_pos hs1_7).symm.trans h
                  refine x_tsw C dX9_countOf_1 7 hs1_7 (by decide) (by decide) (off := 97) rfl (tgt := 98) (by decide) ?_
                  refine x_aload_n C dX9_countOf_98 rfl 0 rfl ?_
                  refine x_geti C 57 rfl rfl inX9 21 (by decide) rfl kF_X9_119 rfl (v := (σ 57 21)) rfl dX9_countOf_99 ?_
                  replace h := Option.some.inj h
                  obtain ⟨rfl, rfl⟩ := Prod.mk.inj h
                  exact x_ret C hr rfl rfl dX9_countOf_102
                · replace h := (if_neg hs1_7).symm.trans h
                  by_cases hs1_8 : x1 = 8
                  · replace h := (if_pos hs1_8).symm.trans h
                    refine x_tsw C dX9_countOf_1 8 hs1_8 (by decide) (by decide) (off := 102) rfl (tgt := 103) (by decide) ?_
                    refine x_aload_n C dX9_countOf_103 rfl 0 rfl ?_
                    refine x_geti C 57 rfl rfl inX9 1 (by decide) rfl kF_X9_68 rfl (v := (σ 57 1)) rfl dX9_countOf_104 ?_
                    replace h := Option.some.inj h
                    obtain ⟨rfl, rfl⟩ := Prod.mk.inj h
                    exact x_ret C hr rfl rfl dX9_countOf_107
                  · replace h := (if_neg hs1_8).symm.trans h
                    by_cases hs1_9 : x1 = 9
                    · replace h := (if_pos hs1_9).symm.trans h
                      refine x_tsw C dX9_countOf_1 9 hs1_9 (by decide) (by decide) (off := 107) rfl (tgt := 108) (by decide) ?_
                      refine x_aload_n C dX9_countOf_108 rfl 0 rfl ?_
                      refine x_geti C 57 rfl rfl inX9 7 (by decide) rfl kF_X9_122 rfl (v := (σ 57 7)) rfl dX9_countOf_109 ?_
                      replace h := Option.some.inj h
                      obtain ⟨rfl, rfl⟩ := Prod.mk.inj h
                      exact x_ret C hr rfl rfl dX9_countOf_112
                    · replace h := (if_neg hs1_9).symm.trans h
                      by_cases hs1_10 : x1 = 10
                      · replace h := (if_pos hs1_10).symm.trans h
                        refine x_tsw C dX9_countOf_1 10 hs1_10 (by decide) (by decide) (off := 112) rfl (tgt := 113) (by decide) ?_
                        refine x_aload_n C dX9_countOf_113 rfl 0 rfl ?_
                        refine x_geti C 57 rfl rfl inX9 20 (by decide) rfl kF_X9_221 rfl (v := (σ 57 20)) rfl dX9_countOf_114 ?_
                        replace h := Option.some.inj h
                        obtain ⟨rfl, rfl⟩ := Prod.mk.inj h
                        exact x_ret C hr rfl rfl dX9_countOf_117
                      · replace h := (if_neg hs1_10).symm.trans h
                        refine x_tswD C dX9_countOf_1 (tgt := 118) (by have e0 := lv_neT hs1_0 (a := 0) rfl; have e1 := lv_neT hs1_1 (a := 1) rfl; have e2 := lv_neT hs1_2 (a := 2) rfl; have e3 := lv_neT hs1_3 (a := 3) rfl; have e4 := lv_neT hs1_4 (a := 4) rfl; have e5 := lv_neT hs1_5 (a := 5) rfl; have e6 := lv_neT hs1_6 (a := 6) rfl; have e7 := lv_neT hs1_7 (a := 7) rfl; have e8 := lv_neT hs1_8 (a := 8) rfl; have e9 := lv_neT hs1_9 (a := 9) rfl; have e10 := lv_neT hs1_10 (a := 10) rfl; omega) (by decide) ?_
                        refine x_bipush C dX9_countOf_118 (v := -102) (by decide) ?_
                        replace h := Option.some.inj h
                        obtain ⟨rfl, rfl⟩ := Prod.mk.inj h
                        exact x_ret C hr rfl rfl dX9_countOf_120
def f_X9_count (x1 : Int32) (σ : gs_H) : Option (Int32 × gs_H) :=
(f_X9_countOf x1 σ).bind fun q1 =>
some (q1.1, q1.2)
set_option maxHeartbeats 4000000 in
set_option maxRecDepth 20000 in
theorem m_X9_count {E : gs_E} {l : Launch} {x1 : Int32} {σ : gs_H} {g : Int64} {r0 : Int32} {σ0 : gs_H} (h : f_X9_count x1 σ = some (r0, σ0)) : gs_M l E yX9_count cX9_count 2 (some .int) (7, 152) [.ref (gs_a E 57), .int x1] σ g (some (.int r0)) σ0 g := by
  refine x_enter (lv := [(0, .ref (gs_a E 57)), (1, .int x1)]) (by decide +kernel) (Nat.le_of_ble_eq_true rfl) rfl (fun p e s m args below meth c C hr => ?_)
  unfold f_X9_count at h
  refine x_aload_n C dX9_count_0 rfl 0 rfl ?_
  refine x_iload_n C dX9_count_1 rfl 1 rfl ?_
  obtain ⟨⟨v1, s1⟩, hv1, h⟩ := Option.bind_eq_some_iff.mp h
  try dsimp only at h
  refine x_callV C 57 (m_X9_countOf hv1) rfl rfl kM_X9_275 kI_X9_countOf kS_X9_countOf kN_X9 kC_X9_countOf kD_X9_countOf rfl ⟨Nat.le_of_ble_eq_true rfl, Nat.le_of_ble_eq_true rfl⟩ ⟨Nat.le_refl _, Nat.le_refl _⟩ (rest := []) rfl (Nat.le_of_ble_eq_true rfl) dX9_count_2 (st' := [.int v1]) rfl ?_
  replace h := Option.some.inj h
  obtain ⟨rfl, rfl⟩ := Prod.mk.inj h
  exact x_ret C hr rfl rfl dX9_count_5
def f_X9_cut (x1 : Int32) (σ : gs_H) : Option (Int32 × gs_H) :=
(f_X9_isThing x1 σ).bind fun q1 =>
if q1 = 0 then (
some ((-101 : Int32), σ))
else (
if (f_X9_isCut x1 σ) = 0 then (
(f_X9_levelNow (up2 σ 57 9 ((σ 57 9) ||| ((1 : Int32) <<< (x1 &&& 31))))).bind fun q5 =>
some (q5.1, q5.2))
else (
some ((-103 : Int32), σ)))
set_option maxHeartbeats 4000000 in
set_option maxRecDepth 20000 in
theorem m_X9_cut {E : gs_E} {l : Launch} {x1 : Int32} {σ : gs_H} {g : Int64} {r0 : Int32} {σ0 : gs_H} (h : f_X9_cut x1 σ = some (r0, σ0)) : gs_M l E yX9_cut cX9_cut 2 (some .int) (6, 131) [.ref (gs_a E 57), .int x1] σ g (some (.int r0)) σ0 g := by
  refine x_enter (lv := [(0, .ref (gs_a E 57)), (1, .int x1)]) (by decide +kernel) (Nat.le_of_ble_eq_true rfl) rfl (fun p e s m args below meth c C hr => ?_)
  unfold f_X9_cut at h
  refine x_aload_n C dX9_cut_0 rfl 0 rfl ?_
  refine x_iload_n C dX9_cut_1 rfl 1 rfl ?_
  obtain ⟨v1, hv1, h⟩ := Option.bind_eq_some_iff.mp h
  refine x_callV C 57 (m_X9_isThing hv1) rfl rfl kM_X9_176 kI_X9_isThing kS_X9_isThing kN_X9 kC_X9_isThing kD_X9_isThing rfl ⟨Nat.le_of_ble_eq_true rfl, Nat.le_of_ble_eq_true rfl⟩ ⟨Nat.le_refl _, Nat.le_refl _⟩ (rest := []) rfl (Nat.le_of_ble_eq_true rfl) dX9_cut_2 (st' := [.int v1]) rfl ?_
  by_cases hc2 : v1 = 0
  · replace h := (if_pos hc2).symm.trans h
    refine x_if_neF C dX9_cut_5 (tgt := 11) (by decide) hc2 ?_
    refine x_bipush C dX9_cut_8 (v := -101) (by decide) ?_
    replace h := Option.some.inj h
    obtain ⟨rfl, rfl⟩ := Prod.mk.inj h
    exact x_ret C hr rfl rfl dX9_cut_10
  · replace h := (if_neg hc2).symm.trans h
    refine x_if_neT C dX9_cut_5 (tgt := 11) (by decide) hc2 ?_
    refine x_aload_n C dX9_cut_11 rfl 0 rfl ?_
    refine x_iload_n C dX9_cut_12 rfl 1 rfl ?_
    refine x_callV C 57 (m_X9_isCut rfl) rfl rfl kM_X9_186 kI_X9_isCut kS_X9_isCut kN_X9 kC_X9_isCut kD_X9_isCut rfl ⟨Nat.le_of_ble_eq_true rfl, Nat.le_of_ble_eq_true rfl⟩ ⟨Nat.le_refl _, Nat.le_refl _⟩ (rest := []) rfl (Nat.le_of_ble_eq_true rfl) dX9_cut_13 (st' := [.int (f_X9_isCut x1 σ)]) rfl ?_
    by_cases hc4 : (f_X9_isCut x1 σ) = 0
    · replace h := (if_pos hc4).symm.trans h
      refine x_if_eqT C dX9_cut_16 (tgt := 22) (by decide) hc4 ?_
      refine x_aload_n C dX9_cut_22 rfl 0 rfl ?_
      refine x_dup C dX9_cut_23 rfl ?_
      refine x_geti C 57 rfl rfl inX9 9 (by decide) rfl kF_X9_116 rfl (v := (σ 57 9)) rfl dX9_cut_24 ?_
      refine x_iconst C dX9_cut_27 (v := 1) (by decide) ?_
      refine x_iload_n C dX9_cut_28 rfl 1 rfl ?_
      refine x_ishl C dX9_cut_29 ?_
      refine x_ior C dX9_cut_30 ?_
      refine x_puti C 57 rfl rfl inX9 tyX9 tyX9_ok nmX9 9 (by decide) rfl kF_X9_116 rfl rfl rfl rfl dX9_cut_31 ?_
      refine x_aload_n C dX9_cut_34 rfl 0 rfl ?_
      obtain ⟨⟨v5, s5⟩, hv5, h⟩ := Option.bind_eq_some_iff.mp h
      try dsimp only at h
      refine x_callV C 57 (m_X9_levelNow hv5) rfl rfl kM_X9_193 kI_X9_levelNow kS_X9_levelNow kN_X9 kC_X9_levelNow kD_X9_levelNow rfl ⟨Nat.le_of_ble_eq_true rfl, Nat.le_of_ble_eq_true rfl⟩ ⟨Nat.le_refl _, Nat.le_refl _⟩ (rest := []) rfl (Nat.le_of_ble_eq_true rfl) dX9_cut_35 (st' := [.int v5]) rfl ?_
      replace h := Option.some.inj h
      obtain ⟨rfl, rfl⟩ := Prod.mk.inj h
      exact x_ret C hr rfl rfl dX9_cut_38
    · replace h := (if_neg hc4).symm.trans h
      refine x_if_eqF C dX9_cut_16 (tgt := 22) (by decide) hc4 ?_
      refine x_bipush C dX9_cut_19 (v := -103) (by decide) ?_
      replace h := Option.some.inj h
      obtain ⟨rfl, rfl⟩ := Prod.mk.inj h
      exact x_ret C hr rfl rfl dX9_cut_21
def b_X9_evenOf_10 (x1 : Int32) (y : Int32 × gs_H) : Option ((Int32 × gs_H) ⊕ ((Int32 × gs_H) ⊕ (gs_H))) :=
if (21 : Int32) ≤ y.1 then (
some (Sum.inr (Sum.inr y.2)))
else (
(f_X9_begin y.2).bind fun q5 =>
(f_X9_levelThen (up2 q5 57 17 ((q5 57 6) + y.1))).bind fun q6 =>
if q6.1 = x1 then (
some (Sum.inr (Sum.inl (y.1, q6.2))))
else (
some (Sum.inl ((y.1 + (1 : Int32)), q6.2))))
def f_X9_evenOf (σ : gs_H) : Option (Int32 × gs_H) :=
(f_X9_there σ).bind fun q1 =>
(f_X9_ones q1).bind fun q2 =>
(lp (b_X9_evenOf_10 q2) 1000 ((0 : Int32), σ)).bind fun q3 =>
match q3 with
| .inl q3_0 =>
some (q3_0.1, q3_0.2)
| .inr q3_1 =>
some ((-1 : Int32), q3_1)
set_option maxHeartbeats 4000000 in
set_option maxRecDepth 20000 in
theorem wl_X9_evenOf_10 {E : gs_E} {l : Launch} {p : Program} {e : Env} {s : State} {m : MethodId} {args : Array Value} {below : List Frame} {meth : Method} {c : Code} (C : gs_X E RX9 cX9_evenOf 3 p s m args meth c) {ov : Option Value} {σ0 : gs_H} {g0 : Int64} {x1 : Int32} {g : Int64} {q : (Int32 × gs_H) ⊕ (gs_H)} (hx0 : ∀ (z2 : Int32) (zs : gs_H), q = (Sum.inl (z2, zs)) → gs_V E 3 (5, 111) p l e s m args below meth c ov σ0 g0 38 [(2, .int z2)] [] zs g) (hx1 : ∀ (zs : gs_H), q = (Sum.inr zs) → gs_V E 3 (5, 111) p l e s m args below meth c ov σ0 g0 46 [] [] zs g) : ∀ (n : Nat) (y2 : Int32) (ys : gs_H), lp (b_X9_evenOf_10 x1) n (y2, ys) = some q → gs_V E 3 (5, 111) p l e s m args below meth c ov σ0 g0 10 [(0, .ref (gs_a E 57)), (1, .int x1), (2, .int y2)] [] ys g := by
  intro n
  induction n with
  | zero => intro y2 ys h; cases h
  | succ n ih =>
    intro y2 ys h
    obtain ⟨r, h, hl, he⟩ := lp_step h
    have hc := fun (y2 : Int32) (ys : gs_H) (hr : r = Sum.inl (y2, ys)) => ih y2 ys (hl _ hr)
    have hk0 := fun (z2 : Int32) (zs : gs_H) (hr : r = Sum.inr (Sum.inl (z2, zs))) => hx0 z2 zs (he _ hr).symm
    have hk1 := fun (zs : gs_H) (hr : r = Sum.inr (Sum.inr zs)) => hx1 zs (he _ hr).symm
    unfold b_X9_evenOf_10 at h
    try dsimp only at h
    refine x_iload_n C dX9_evenOf_10 rfl 2 rfl ?_
    refine x_bipush C dX9_evenOf_11 (v := 21) (by decide) ?_
    by_cases hc1 : (21 : Int32) ≤ y2
    · replace h := (if_pos hc1).symm.trans h
      refine x_icmp_geT C dX9_evenOf_13 (tgt := 46) (by decide) hc1 ?_
      refine x_lv (lv' := []) [] rfl ?_
      obtain rfl := Option.some.inj h
      exact hk1 ys rfl
    · replace h := (if_neg hc1).symm.trans h
      refine x_icmp_geF C dX9_evenOf_13 (tgt := 46) (by decide) hc1 ?_
      refine x_aload_n C dX9_evenOf_16 rfl 0 rfl ?_
      obtain ⟨s2, hv2, h⟩ := Option.bind_eq_some_iff.mp h
      refine x_callV C 57 (m_X9_begin hv2) rfl rfl kM_X9_148 kI_X9_begin kS_X9_begin kN_X9 kC_X9_begin kD_X9_begin rfl ⟨Nat.le_of_ble_eq_true rfl, Nat.le_of_ble_eq_true rfl⟩ ⟨Nat.le_refl _, Nat.le_refl _⟩ (rest := []) rfl (Nat.le_of_ble_eq_true rfl) dX9_evenOf_17 (st' := []) rfl ?_
      refine x_aload_n C dX9_evenOf_20 rfl 0 rfl ?_
      refine x_aload_n C dX9_evenOf_21 rfl 0 rfl ?_
      refine x_geti C 57 rfl rfl inX9 6 (by decide) rfl kF_X9_110 rfl (v := (s2 57 6)) rfl dX9_evenOf_22 ?_
      refine x_iload_n C dX9_evenOf_25 rfl 2 rfl ?_
      refine x_iadd C dX9_evenOf_26 ?_
      refine x_puti C 57 rfl rfl inX9 tyX9 tyX9_ok nmX9 17 (by decide) rfl kF_X9_129 rfl rfl rfl rfl dX9_evenOf_27 ?_
      refine x_aload_n C dX9_evenOf_30 rfl 0 rfl ?_
      obtain ⟨⟨v3, s3⟩, hv3, h⟩ := Option.bind_eq_some_iff.mp h
      try dsimp only at h
      refine x_callV C 57 (m_X9_levelThen hv3) rfl rfl kM_X9_151 kI_X9_levelThen kS_X9_levelThen kN_X9 kC_X9_levelThen kD_X9_levelThen rfl ⟨Nat.le_of_ble_eq_true rfl, Nat.le_of_ble_eq_true rfl⟩ ⟨Nat.le_refl _, Nat.le_refl _⟩ (rest := []) rfl (Nat.le_of_ble_eq_true rfl) dX9_evenOf_31 (st' := [.int v3]) rfl ?_
      refine x_iload_n C dX9_evenOf_34 rfl 1 rfl ?_
      by_cases hc4 : v3 = x1
      · replace h := (if_pos hc4).symm.trans h
        refine x_icmp_neF C dX9_evenOf_35 (tgt := 40) (by decide) hc4 ?_
        refine x_lv (lv' := [(2, .int y2)]) [2] rfl ?_
        obtain rfl := Option.some.inj h
        exact hk0 y2 s3 rfl
      · replace h := (if_neg hc4).symm.trans h
        refine x_icmp_neT C dX9_evenOf_35 (tgt := 40) (by decide) hc4 ?_
        refine x_iinc C dX9_evenOf_40 2 rfl (v := (y2 + (1 : Int32))) rfl (lv2 := [(0, .ref (gs_a E 57)), (1, .int x1), (2, .int (y2 + (1 : Int32)))]) (by decide) rfl [1, 2, 0] rfl ?_
        refine x_goto C dX9_evenOf_43 (tgt := 10) (by decide) ?_
        obtain rfl := Option.some.inj h
        exact hc (y2 + (1 : Int32)) s3 rfl
set_option maxHeartbeats 4000000 in
set_option maxRecDepth 20000 in
theorem m_X9_evenOf {E : gs_E} {l : Launch} {σ : gs_H} {g : Int64} {r0 : Int32} {σ0 : gs_H} (h : f_X9_evenOf σ = some (r0, σ0)) : gs_M l E yX9_evenOf cX9_evenOf 3 (some .int) (5, 111) [.ref (gs_a E 57)] σ g (some (.int r0)) σ0 g := by
  refine x_enter (lv := [(0, .ref (gs_a E 57))]) (by decide +kernel) (Nat.le_of_ble_eq_true rfl) rfl (fun p e s m args below meth c C hr => ?_)
  unfold f_X9_evenOf at h
  refine x_aload_n C dX9_evenOf_0 rfl 0 rfl ?_
  obtain ⟨v1, hv1, h⟩ := Option.bind_eq_some_iff.mp h
  refine x_callV C 57 (m_X9_there hv1) rfl rfl kM_X9_145 kI_X9_there kS_X9_there kN_X9 kC_X9_there kD_X9_there rfl ⟨Nat.le_of_ble_eq_true rfl, Nat.le_of_ble_eq_true rfl⟩ ⟨Nat.le_refl _, Nat.le_refl _⟩ (rest := []) rfl (Nat.le_of_ble_eq_true rfl) dX9_evenOf_1 (st' := [.int v1]) rfl ?_
  obtain ⟨v2, hv2, h⟩ := Option.bind_eq_some_iff.mp h
  refine x_callS C (m_X9_ones hv2) kM_X9_196 kT_X9_ones kN_X9 kC_X9_ones kD_X9_ones rfl ⟨Nat.le_of_ble_eq_true rfl, Nat.le_of_ble_eq_true rfl⟩ ⟨Nat.le_refl _, Nat.le_refl _⟩ (rest := []) rfl (Nat.le_of_ble_eq_true rfl) dX9_evenOf_4 (st' := [.int v2]) rfl ?_
  refine x_istore_n C dX9_evenOf_7 rfl (lv2 := [(0, .ref (gs_a E 57)), (1, .int v2)]) (by decide) rfl [1, 0] rfl ?_
  refine x_iconst C dX9_evenOf_8 (v := 0) (by decide) ?_
  refine x_istore_n C dX9_evenOf_9 rfl (lv2 := [(0, .ref (gs_a E 57)), (1, .int v2), (2, .int (0 : Int32))]) (by decide) rfl [1, 2, 0] rfl ?_
  obtain ⟨q3, hq3, h⟩ := Option.bind_eq_some_iff.mp h
  refine wl_X9_evenOf_10 C (fun v3_0_2 s3_0 hz => ?_) (fun s3_1 hz => ?_) 1000 _ _ hq3
  · subst q3
    try dsimp only at h
    refine x_iload_n C dX9_evenOf_38 rfl 0 rfl ?_
    replace h := Option.some.inj h
    obtain ⟨rfl, rfl⟩ := Prod.mk.inj h
    exact x_ret C hr rfl rfl dX9_evenOf_39
  · subst q3
    try dsimp only at h
    refine x_iconst C dX9_evenOf_46 (v := -1) (by decide) ?_
    replace h := Option.some.inj h
    obtain ⟨rfl, rfl⟩ := Prod.mk.inj h
    exact x_ret C hr rfl rfl dX9_evenOf_47
def b_X9_factorial_4 (x0 : Int32) (y : Int32 × Int32) : Option ((Int32 × Int32) ⊕ ((Int32))) :=
if x0 < y.2 then (
some (Sum.inr y.1))
else (
some (Sum.inl ((y.1 * y.2), (y.2 + (1 : Int32)))))
def f_X9_factorial (x0 : Int32) : Option (Int32) :=
(lp (b_X9_factorial_4 x0) 1000 ((1 : Int32), (2 : Int32))).bind fun q1 =>
some q1
set_option maxHeartbeats 4000000 in
set_option maxRecDepth 20000 in
theorem wl_X9_factorial_4 {E : gs_E} {l : Launch} {p : Program} {e : Env} {s : State} {m : MethodId} {args : Array Value} {below : List Frame} {meth : Method} {c : Code} (C : gs_X E RX9 cX9_factorial 3 p s m args meth c) {ov : Option Value} {σ0 : gs_H} {g0 : Int64} {x0 : Int32} {σ : gs_H} {g : Int64} {q : (Int32)} (hx0 : ∀ (z1 : Int32), q = z1 → gs_V E 3 (0, 0) p l e s m args below meth c ov σ0 g0 19 [(1, .int z1)] [] σ g) : ∀ (n : Nat) (y1 : Int32) (y2 : Int32), lp (b_X9_factorial_4 x0) n (y1, y2) = some q → gs_V E 3 (0, 0) p l e s m args below meth c ov σ0 g0 4 [(0, .int x0), (1, .int y1), (2, .int y2)] [] σ g := by
  intro n
  induction n with
  | zero => intro y1 y2 h; cases h
  | succ n ih =>
    intro y1 y2 h
    obtain ⟨r, h, hl, he⟩ := lp_step h
    have hc := fun (y1 : Int32) (y2 : Int32) (hr : r = Sum.inl (y1, y2)) => ih y1 y2 (hl _ hr)
    have hk0 := fun (z1 : Int32) (hr : r = Sum.inr z1) => hx0 z1 (he _ hr).symm
    unfold b_X9_factorial_4 at h
    try dsimp only at h
    refine x_iload_n C dX9_factorial_4 rfl 2 rfl ?_
    refine x_iload_n C dX9_factorial_5 rfl 0 rfl ?_
    by_cases hc1 : x0 < y2
    · replace h := (if_pos hc1).symm.trans h
      refine x_icmp_gtT C dX9_factorial_6 (tgt := 19) (by decide) hc1 ?_
      refine x_lv (lv' := [(1, .int y1)]) [1] rfl ?_
      obtain rfl := Option.some.inj h
      exact hk0 y1 rfl
    · replace h := (if_neg hc1).symm.trans h
      refine x_icmp_gtF C dX9_factorial_6 (tgt := 19) (by decide) hc1 ?_
      refine x_iload_n C dX9_factorial_9 rfl 1 rfl ?_
      refine x_iload_n C dX9_factorial_10 rfl 2 rfl ?_
      refine x_imul C dX9_factorial_11 ?_
      refine x_istore_n C dX9_factorial_12 rfl (lv2 := [(0, .int x0), (1, .int (y1 * y2)), (2, .int y2)]) (by decide) rfl [1, 0, 2] rfl ?_
      refine x_iinc C dX9_factorial_13 2 rfl (v := (y2 + (1 : Int32))) rfl (lv2 := [(0, .int x0), (1, .int (y1 * y2)), (2, .int (y2 + (1 : Int32)))]) (by decide) rfl [1, 2, 0] rfl ?_
      refine x_goto C dX9_factorial_16 (tgt := 4) (by decide) ?_
      obtain rfl := Option.some.inj h
      exact hc (y1 * y2) (y2 + (1 : Int32)) rfl
set_option maxHeartbeats 4000000 in
set_option maxRecDepth 20000 in
theorem m_X9_factorial {E : gs_E} {l : Launch} {x0 : Int32} {σ : gs_H} {g : Int64} {r0 : Int32} (h : f_X9_factorial x0 = some r0) : gs_M l E yX9_factorial cX9_factorial 3 (some .int) (0, 0) [.int x0] σ g (some (.int r0)) σ g := by
  refine x_enter (lv := [(0, .int x0)]) (by decide +kernel) (Nat.le_of_ble_eq_true rfl) rfl (fun p e s m args below meth c C hr => ?_)
  unfold f_X9_factorial at h
  refine x_iconst C dX9_factorial_0 (v := 1) (by decide) ?_
  refine x_istore_n C dX9_factorial_1 rfl (lv2 := [(0, .int x0), (1, .int (1 : Int32))]) (by decide) rfl [1, 0] rfl ?_
  refine x_iconst C dX9_factorial_2 (v := 2) (by decide) ?_
  refine x_istore_n C dX9_factorial_3 rfl (lv2 := [(0, .int x0), (1, .int (1 : Int32)), (2, .int (2 : Int32))]) (by decide) rfl [1, 2, 0] rfl ?_
  obtain ⟨q1, hq1, h⟩ := Option.bind_eq_some_iff.mp h
  refine wl_X9_factorial_4 C (fun v1_0_1 hz => ?_) 1000 _ _ hq1
  subst q1
  try dsimp only at h
  refine x_iload_n C dX9_factorial_19 rfl 0 rfl ?_
  replace h := Option.some.inj h
  subst h
  exact x_ret C hr rfl rfl dX9_factorial_20
def f_X9_looseMany (σ : gs_H) : Option (Int32) :=
(f_X9_ones (σ 57 9)).bind fun q1 =>
some ((σ 57 5) - q1)
set_option maxHeartbeats 4000000 in
set_option maxRecDepth 20000 in
theorem m_X9_looseMany {E : gs_E} {l : Launch} {σ : gs_H} {g : Int64} {r0 : Int32} (h : f_X9_looseMany σ = some r0) : gs_M l E yX9_looseMany cX9_looseMany 1 (some .int) (1, 22) [.ref (gs_a E 57)] σ g (some (.int r0)) σ g := by
  refine x_enter (lv := [(0, .ref (gs_a E 57))]) (by decide +kernel) (Nat.le_of_ble_eq_true rfl) rfl (fun p e s m args below meth c C hr => ?_)
  unfold f_X9_looseMany at h
  refine x_aload_n C dX9_looseMany_0 rfl 0 rfl ?_
  refine x_geti C 57 rfl rfl inX9 5 (by decide) rfl kF_X9_107 rfl (v := (σ 57 5)) rfl dX9_looseMany_1 ?_
  refine x_aload_n C dX9_looseMany_4 rfl 0 rfl ?_
  refine x_geti C 57 rfl rfl inX9 9 (by decide) rfl kF_X9_116 rfl (v := (σ 57 9)) rfl dX9_looseMany_5 ?_
  obtain ⟨v1, hv1, h⟩ := Option.bind_eq_some_iff.mp h
  refine x_callS C (m_X9_ones hv1) kM_X9_196 kT_X9_ones kN_X9 kC_X9_ones kD_X9_ones rfl ⟨Nat.le_of_ble_eq_true rfl, Nat.le_of_ble_eq_true rfl⟩ ⟨Nat.le_refl _, Nat.le_refl _⟩ (rest := [.int (σ 57 5)]) rfl (Nat.le_of_ble_eq_true rfl) dX9_looseMany_8 (st' := [.int v1, .int (σ 57 5)]) rfl ?_
  refine x_isub C dX9_looseMany_11 ?_
  replace h := Option.some.inj h
  subst h
  exact x_ret C hr rfl rfl dX9_looseMany_12
def j_X9_layOrder_81 (x3 : Int32) (x6 : Int32) (x7 : Int32) (σ : gs_H) : Option ((Int32 × Int32) ⊕ ((Int32))) :=
if ((x3 >>> (x7 &&& 31)) &&& (1 : Int32)) = (1 : Int32) then (
some (Sum.inl ((x6 - (0 : Int32)), (x7 + (1 : Int32)))))
else (
some (Sum.inl ((x6 - (1 : Int32)), (x7 + (1 : Int32)))))
def b_X9_layOrder_66 (x3 : Int32) (σ : gs_H) (y : Int32 × Int32) : Option ((Int32 × Int32) ⊕ ((Int32))) :=
if ((x3 >>> (y.2 &&& 31)) &&& (1 : Int32)) = (1 : Int32) then (
j_X9_layOrder_81 x3 y.1 y.2 σ)
else (
if y.1 ≤ 0 then (
some (Sum.inr y.2))
else (
j_X9_layOrder_81 x3 y.1 y.2 σ))
def b_X9_layOrder_20 (y : Int32 × Int32 × Int32 × Int32 × gs_H) : Option ((Int32 × Int32 × Int32 × Int32 × gs_H) ⊕ ((gs_H))) :=
if (y.2.2.2.2 57 5) ≤ y.2.2.2.1 then (
some (Sum.inr y.2.2.2.2))
else (
if inb y.2.2.2.1 6 then
if (f_X9_isCut (y.2.2.2.2 64 y.2.2.2.1.toNatClampNeg) y.2.2.2.2) = 0 then (
(f_X9_factorial (y.2.2.1 + (-1 : Int32))).bind fun q10 =>
if ¬ q10 = 0 then
(f_X9_factorial (y.2.2.1 + (-1 : Int32))).bind fun q12 =>
if ¬ q12 = 0 then
(lp (b_X9_layOrder_66 y.2.1 y.2.2.2.2) 1000 ((y.1 / q10), (0 : Int32))).bind fun q14 =>
if inb y.2.2.2.1 6 then
some (Sum.inl ((y.1 - y.1 / q12 * q12), (y.2.1 ||| ((1 : Int32) <<< (q14 &&& 31))), (y.2.2.1 + (-1 : Int32)), (y.2.2.2.1 + (1 : Int32)), (up2 y.2.2.2.2 65 y.2.2.2.1.toNatClampNeg q14))) else none else none else none)
else (
some (Sum.inl (y.1, y.2.1, y.2.2.1, (y.2.2.2.1 + (1 : Int32)), y.2.2.2.2))) else none)
def f_X9_layOrder (x1 : Int32) (σ : gs_H) : Option (gs_H) :=
(f_X9_begin σ).bind fun q1 =>
(f_X9_looseMany q1).bind fun q2 =>
(lp (b_X9_layOrder_20) 1000 (x1, (q1 57 9), q2, (0 : Int32), q1)).bind fun q3 =>
some q3
set_option maxHeartbeats 4000000 in
set_option maxRecDepth 20000 in
theorem wj_X9_layOrder_81 {E : gs_E} {l : Launch} {p : Program} {e : Env} {s : State} {m : MethodId} {args : Array Value} {below : List Frame} {meth : Method} {c : Code} (C : gs_X E RX9 cX9_layOrder 8 p s m args meth c) {ov : Option Value} {σ0 : gs_H} {g0 : Int64} {x3 : Int32} {x6 : Int32} {x7 : Int32} {x2 : Int32} {x4 : Int32} {x5 : Int32} {σ : gs_H} {g : Int64} {r : (Int32 × Int32) ⊕ ((Int32))} (h : j_X9_layOrder_81 x3 x6 x7 σ = some r) (hc : ∀ (y6 : Int32) (y7 : Int32), r = Sum.inl (y6, y7) → gs_V E 8 (2, 42) p l e s m args below meth c ov σ0 g0 66 [(0, .ref (gs_a E 57)), (2, .int x2), (3, .int x3), (4, .int x4), (5, .int x5), (6, .int y6), (7, .int y7)] [] σ g) (hk0 : ∀ (z7 : Int32), r = Sum.inr z7 → gs_V E 8 (2, 42) p l e s m args below meth c ov σ0 g0 107 [(0, .ref (gs_a E 57)), (2, .int x2), (3, .int x3), (4, .int x4), (5, .int x5), (7, .int z7)] [] σ g) : gs_V E 8 (2, 42) p l e s m args below meth c ov σ0 g0 81 [(0, .ref (gs_a E 57)), (2, .int x2), (3, .int x3), (4, .int x4), (5, .int x5), (6, .int x6), (7, .int x7)] [] σ g := by
  unfold j_X9_layOrder_81 at h
  refine x_iload C dX9_layOrder_81 5 rfl ?_
  refine x_iload_n C dX9_layOrder_83 rfl 2 rfl ?_
  refine x_iload C dX9_layOrder_84 6 rfl ?_
  refine x_ishr C dX9_layOrder_86 ?_
  refine x_iconst C dX9_layOrder_87 (v := 1) (by decide) ?_
  refine x_iand C dX9_layOrder_88 ?_
  refine x_iconst C dX9_layOrder_89 (v := 1) (by decide) ?_
  by_cases hc1 : ((x3 >>> (x7 &&& 31)) &&& (1 : Int32)) = (1 : Int32)
  · replace h := (if_pos hc1).symm.trans h
    refine x_icmp_neF C dX9_layOrder_90 (tgt := 97) (by decide) hc1 ?_
    refine x_iconst C dX9_layOrder_93 (v := 0) (by decide) ?_
    refine x_goto C dX9_layOrder_94 (tgt := 98) (by decide) ?_
    refine x_isub C dX9_layOrder_98 ?_
    refine x_istore C dX9_layOrder_99 (lv2 := [(0, .ref (gs_a E 57)), (2, .int x2), (3, .int x3), (4, .int x4), (5, .int x5), (6, .int (x6 - (0 : Int32))), (7, .int x7)]) (by decide) rfl [1, 2, 3, 4, 5, 0, 6] rfl ?_
    refine x_iinc C dX9_layOrder_101 6 rfl (v := (x7 + (1 : Int32))) rfl (lv2 := [(0, .ref (gs_a E 57)), (2, .int x2), (3, .int x3), (4, .int x4), (5, .int x5), (6, .int (x6 - (0 : Int32))), (7, .int (x7 + (1 : Int32)))]) (by decide) rfl [1, 2, 3, 4, 5, 6, 0] rfl ?_
    refine x_goto C dX9_layOrder_104 (tgt := 66) (by decide) ?_
    obtain rfl := Option.some.inj h
    exact hc (x6 - (0 : Int32)) (x7 + (1 : Int32)) rfl
  · replace h := (if_neg hc1).symm.trans h
    refine x_icmp_neT C dX9_layOrder_90 (tgt := 97) (by decide) hc1 ?_
    refine x_iconst C dX9_layOrder_97 (v := 1) (by decide) ?_
    refine x_isub C dX9_layOrder_98 ?_
    refine x_istore C dX9_layOrder_99 (lv2 := [(0, .ref (gs_a E 57)), (2, .int x2), (3, .int x3), (4, .int x4), (5, .int x5), (6, .int (x6 - (1 : Int32))), (7, .int x7)]) (by decide) rfl [1, 2, 3, 4, 5, 0, 6] rfl ?_
    refine x_iinc C dX9_layOrder_101 6 rfl (v := (x7 + (1 : Int32))) rfl (lv2 := [(0, .ref (gs_a E 57)), (2, .int x2), (3, .int x3), (4, .int x4), (5, .int x5), (6, .int (x6 - (1 : Int32))), (7, .int (x7 + (1 : Int32)))]) (by decide) rfl [1, 2, 3, 4, 5, 6, 0] rfl ?_
    refine x_goto C dX9_layOrder_104 (tgt := 66) (by decide) ?_
    obtain rfl := Option.some.inj h
    exact hc (x6 - (1 : Int32)) (x7 + (1 : Int32)) rfl
set_option maxHeartbeats 4000000 in
set_option maxRecDepth 20000 in
theorem wl_X9_layOrder_66 {E : gs_E} {l : Launch} {p : Program} {e : Env} {s : State} {m : MethodId} {args : Array Value} {below : List Frame} {meth : Method} {c : Code} (C : gs_X E RX9 cX9_layOrder 8 p s m args meth c) {ov : Option Value} {σ0 : gs_H} {g0 : Int64} {x2 : Int32} {x3 : Int32} {x4 : Int32} {x5 : Int32} {σ : gs_H} {g : Int64} {q : (Int32)} (hx0 : ∀ (z7 : Int32), q = z7 → gs_V E 8 (2, 42) p l e s m args below meth c ov σ0 g0 107 [(0, .ref (gs_a E 57)), (2, .int x2), (3, .int x3), (4, .int x4), (5, .int x5), (7, .int z7)] [] σ g) : ∀ (n : Nat) (y6 : Int32) (y7 : Int32), lp (b_X9_layOrder_66 x3 σ) n (y6, y7) = some q → gs_V E 8 (2, 42) p l e s m args below meth c ov σ0 g0 66 [(0, .ref (gs_a E 57)), (2, .int x2), (3, .int x3), (4, .int x4), (5, .int x5), (6, .int y6), (7, .int y7)] [] σ g := by
  intro n
  induction n with
  | zero => intro y6 y7 h; cases h
  | succ n ih =>
    intro y6 y7 h
    obtain ⟨r, h, hl, he⟩ := lp_step h
    have hc := fun (y6 : Int32) (y7 : Int32) (hr : r = Sum.inl (y6, y7)) => ih y6 y7 (hl _ hr)
    have hk0 := fun (z7 : Int32) (hr : r = Sum.inr z7) => hx0 z7 (he _ hr).symm
    unfold b_X9_layOrder_66 at h
    try dsimp only at h
    refine x_iload_n C dX9_layOrder_66 rfl 2 rfl ?_
    refine x_iload C dX9_layOrder_67 6 rfl ?_
    refine x_ishr C dX9_layOrder_69 ?_
    refine x_iconst C dX9_layOrder_70 (v := 1) (by decide) ?_
    refine x_iand C dX9_layOrder_71 ?_
    refine x_iconst C dX9_layOrder_72 (v := 1) (by decide) ?_
    by_cases hc1 : ((x3 >>> (y7 &&& 31)) &&& (1 : Int32)) = (1 : Int32)
    · replace h := (if_pos hc1).symm.trans h
      refine x_icmp_eqT C dX9_layOrder_73 (tgt := 81) (by decide) hc1 ?_
      exact wj_X9_layOrder_81 C h hc hk0
    · replace h := (if_neg hc1).symm.trans h
      refine x_icmp_eqF C dX9_layOrder_73 (tgt := 81) (by decide) hc1 ?_
      refine x_iload C dX9_layOrder_76 5 rfl ?_
      by_cases hc2 : y6 ≤ 0
      · replace h := (if_pos hc2).symm.trans h
        refine x_if_leT C dX9_layOrder_78 (tgt := 107) (by decide) hc2 ?_
        refine x_lv (lv' := [(0, .ref (gs_a E 57)), (2, .int x2), (3, .int x3), (4, .int x4), (5, .int x5), (7, .int y7)]) [0, 1, 2, 3, 4, 6] rfl ?_
        obtain rfl := Option.some.inj h
        exact hk0 y7 rfl
      · replace h := (if_neg hc2).symm.trans h
        refine x_if_leF C dX9_layOrder_78 (tgt := 107) (by decide) hc2 ?_
        exact wj_X9_layOrder_81 C h hc hk0
set_option maxHeartbeats 4000000 in
set_option maxRecDepth 20000 in
theorem wl_X9_layOrder_20 {E : gs_E} {l : Launch} {p : Program} {e : Env} {s : State} {m : MethodId} {args : Array Value} {below : List Frame} {meth : Method} {c : Code} (C : gs_X E RX9 cX9_layOrder 8 p s m args meth c) {ov : Option Value} {σ0 : gs_H} {g0 : Int64} {g : Int64} {q : (gs_H)} (hx0 : ∀ (zs : gs_H), q = zs → gs_V E 8 (2, 42) p l e s m args below meth c ov σ0 g0 129 [] [] zs g) : ∀ (n : Nat) (y2 : Int32) (y3 : Int32) (y4 : Int32) (y5 : Int32) (ys : gs_H), lp (b_X9_layOrder_20) n (y2, y3, y4, y5, ys) = some q → gs_V E 8 (2, 42) p l e s m args below meth c ov σ0 g0 20 [(0, .ref (gs_a E 57)), (2, .int y2), (3, .int y3), (4, .int y4), (5, .int y5)] [] ys g := by
  intro n
  induction n with
  | zero => intro y2 y3 y4 y5 ys h; cases h
  | succ n ih =>
    intro y2 y3 y4 y5 ys h
    obtain ⟨r, h, hl, he⟩ := lp_step h
    have hc := fun (y2 : Int32) (y3 : Int32) (y4 : Int32) (y5 : Int32) (ys : gs_H) (hr : r = Sum.inl (y2, y3, y4, y5, ys)) => ih y2 y3 y4 y5 ys (hl _ hr)
    have hk0 := fun (zs : gs_H) (hr : r = Sum.inr zs) => hx0 zs (he _ hr).symm
    unfold b_X9_layOrder_20 at h
    try dsimp only at h
    refine x_iload C dX9_layOrder_20 4 rfl ?_
    refine x_aload_n C dX9_layOrder_22 rfl 0 rfl ?_
    refine x_geti C 57 rfl rfl inX9 5 (by decide) rfl kF_X9_107 rfl (v := (ys 57 5)) rfl dX9_layOrder_23 ?_
    by_cases hc1 : (ys 57 5) ≤ y5
    · replace h := (if_pos hc1).symm.trans h
      refine x_icmp_geT C dX9_layOrder_26 (tgt := 129) (by decide) hc1 ?_
      refine x_lv (lv' := []) [] rfl ?_
      obtain rfl := Option.some.inj h
      exact hk0 ys rfl
    · replace h := (if_neg hc1).symm.trans h
      refine x_icmp_geF C dX9_layOrder_26 (tgt := 129) (by decide) hc1 ?_
      refine x_aload_n C dX9_layOrder_29 rfl 0 rfl ?_
      refine x_aload_n C dX9_layOrder_30 rfl 0 rfl ?_
      refine x_getr C 57 rfl rfl inX9 15 (by decide) rfl kF_X9_28 rfl dX9_layOrder_31 ?_
      refine x_iload C dX9_layOrder_34 4 rfl ?_
      obtain ⟨hb2, h⟩ := ck_some h
      refine x_iald C 64 rfl hb2 (v := (ys 64 y5.toNatClampNeg)) rfl dX9_layOrder_36 ?_
      refine x_callV C 57 (m_X9_isCut rfl) rfl rfl kM_X9_186 kI_X9_isCut kS_X9_isCut kN_X9 kC_X9_isCut kD_X9_isCut rfl ⟨Nat.le_of_ble_eq_true rfl, Nat.le_of_ble_eq_true rfl⟩ ⟨Nat.le_refl _, Nat.le_refl _⟩ (rest := []) rfl (Nat.le_of_ble_eq_true rfl) dX9_layOrder_37 (st' := [.int (f_X9_isCut (ys 64 y5.toNatClampNeg) ys)]) rfl ?_
      by_cases hc4 : (f_X9_isCut (ys 64 y5.toNatClampNeg) ys) = 0
      · replace h := (if_pos hc4).symm.trans h
        refine x_if_neF C dX9_layOrder_40 (tgt := 123) (by decide) hc4 ?_
        refine x_iinc C dX9_layOrder_43 3 rfl (v := (y4 + (-1 : Int32))) rfl (lv2 := [(0, .ref (gs_a E 57)), (2, .int y2), (3, .int y3), (4, .int (y4 + (-1 : Int32))), (5, .int y5)]) (by decide) rfl [1, 2, 3, 0, 4] rfl ?_
        refine x_iload_n C dX9_layOrder_46 rfl 1 rfl ?_
        refine x_iload C dX9_layOrder_47 3 rfl ?_
        obtain ⟨v5, hv5, h⟩ := Option.bind_eq_some_iff.mp h
        refine x_callS C (m_X9_factorial hv5) kM_X9_207 kT_X9_factorial kN_X9 kC_X9_factorial kD_X9_factorial rfl ⟨Nat.le_of_ble_eq_true rfl, Nat.le_of_ble_eq_true rfl⟩ ⟨Nat.le_refl _, Nat.le_refl _⟩ (rest := [.int y2]) rfl (Nat.le_of_ble_eq_true rfl) dX9_layOrder_49 (st' := [.int v5, .int y2]) rfl ?_
        obtain ⟨hn6, h⟩ := ck_some h
        refine x_idiv C dX9_layOrder_52 hn6 ?_
        refine x_istore C dX9_layOrder_53 (lv2 := [(0, .ref (gs_a E 57)), (2, .int y2), (3, .int y3), (4, .int (y4 + (-1 : Int32))), (5, .int y5), (6, .int (y2 / v5))]) (by decide) rfl [1, 2, 3, 4, 5, 0] rfl ?_
        refine x_iload_n C dX9_layOrder_55 rfl 1 rfl ?_
        refine x_iload C dX9_layOrder_56 3 rfl ?_
        obtain ⟨v7, hv7, h⟩ := Option.bind_eq_some_iff.mp h
        refine x_callS C (m_X9_factorial hv7) kM_X9_207 kT_X9_factorial kN_X9 kC_X9_factorial kD_X9_factorial rfl ⟨Nat.le_of_ble_eq_true rfl, Nat.le_of_ble_eq_true rfl⟩ ⟨Nat.le_refl _, Nat.le_refl _⟩ (rest := [.int y2]) rfl (Nat.le_of_ble_eq_true rfl) dX9_layOrder_58 (st' := [.int v7, .int y2]) rfl ?_
        obtain ⟨hn8, h⟩ := ck_some h
        refine x_irem C dX9_layOrder_61 hn8 ?_
        refine x_istore_n C dX9_layOrder_62 rfl (lv2 := [(0, .ref (gs_a E 57)), (2, .int (y2 - y2 / v7 * v7)), (3, .int y3), (4, .int (y4 + (-1 : Int32))), (5, .int y5), (6, .int (y2 / v5))]) (by decide) rfl [1, 0, 2, 3, 4, 5] rfl ?_
        refine x_iconst C dX9_layOrder_63 (v := 0) (by decide) ?_
        refine x_istore C dX9_layOrder_64 (lv2 := [(0, .ref (gs_a E 57)), (2, .int (y2 - y2 / v7 * v7)), (3, .int y3), (4, .int (y4 + (-1 : Int32))), (5, .int y5), (6, .int (y2 / v5)), (7, .int (0 : Int32))]) (by decide) rfl [1, 2, 3, 4, 5, 6, 0] rfl ?_
        obtain ⟨q9, hq9, h⟩ := Option.bind_eq_some_iff.mp h
        refine wl_X9_layOrder_66 C (fun v9_0_7 hz => ?_) 1000 _ _ hq9
        subst q9
        try dsimp only at h
        refine x_iload_n C dX9_layOrder_107 rfl 2 rfl ?_
        refine x_iconst C dX9_layOrder_108 (v := 1) (by decide) ?_
        refine x_iload C dX9_layOrder_109 5 rfl ?_
        refine x_ishl C dX9_layOrder_111 ?_
        refine x_ior C dX9_layOrder_112 ?_
        refine x_istore_n C dX9_layOrder_113 rfl (lv2 := [(0, .ref (gs_a E 57)), (2, .int (y2 - y2 / v7 * v7)), (3, .int (y3 ||| ((1 : Int32) <<< (v9_0_7 &&& 31)))), (4, .int (y4 + (-1 : Int32))), (5, .int y5), (7, .int v9_0_7)]) (by decide) rfl [1, 2, 0, 3, 4, 5] rfl ?_
        refine x_aload_n C dX9_layOrder_114 rfl 0 rfl ?_
        refine x_getr C 57 rfl rfl inX9 16 (by decide) rfl kF_X9_31 rfl dX9_layOrder_115 ?_
        refine x_iload C dX9_layOrder_118 4 rfl ?_
        refine x_iload C dX9_layOrder_120 5 rfl ?_
        obtain ⟨hb10, h⟩ := ck_some h
        refine x_iast C 65 rfl hb10 dX9_layOrder_122 ?_
        refine x_iinc C dX9_layOrder_123 4 rfl (v := (y5 + (1 : Int32))) rfl (lv2 := [(0, .ref (gs_a E 57)), (2, .int (y2 - y2 / v7 * v7)), (3, .int (y3 ||| ((1 : Int32) <<< (v9_0_7 &&& 31)))), (4, .int (y4 + (-1 : Int32))), (5, .int (y5 + (1 : Int32))), (7, .int v9_0_7)]) (by decide) rfl [1, 2, 3, 4, 0, 5] rfl ?_
        refine x_goto C dX9_layOrder_126 (tgt := 20) (by decide) ?_
        refine x_lv (lv' := [(0, .ref (gs_a E 57)), (2, .int (y2 - y2 / v7 * v7)), (3, .int (y3 ||| ((1 : Int32) <<< (v9_0_7 &&& 31)))), (4, .int (y4 + (-1 : Int32))), (5, .int (y5 + (1 : Int32)))]) [0, 1, 2, 3, 4] rfl ?_
        obtain rfl := Option.some.inj h
        exact hc (y2 - y2 / v7 * v7) (y3 ||| ((1 : Int32) <<< (v9_0_7 &&& 31))) (y4 + (-1 : Int32)) (y5 + (1 : Int32)) (up2 ys 65 y5.toNatClampNeg v9_0_7) rfl
      · replace h := (if_neg hc4).symm.trans h
        refine x_if_neT C dX9_layOrder_40 (tgt := 123) (by decide) hc4 ?_
        refine x_iinc C dX9_layOrder_123 4 rfl (v := (y5 + (1 : Int32))) rfl (lv2 := [(0, .ref (gs_a E 57)), (2, .int y2), (3, .int y3), (4, .int y4), (5, .int (y5 + (1 : Int32)))]) (by decide) rfl [1, 2, 3, 4, 0] rfl ?_
        refine x_goto C dX9_layOrder_126 (tgt := 20) (by decide) ?_
        obtain rfl := Option.some.inj h
        exact hc y2 y3 y4 (y5 + (1 : Int32)) ys rfl
set_option maxHeartbeats 4000000 in
set_option maxRecDepth 20000 in
theorem m_X9_layOrder {E : gs_E} {l : Launch} {x1 : Int32} {σ : gs_H} {g : Int64} {σ0 : gs_H} (h : f_X9_layOrder x1 σ = some σ0) : gs_M l E yX9_layOrder cX9_layOrder 8 (none) (2, 42) [.ref (gs_a E 57), .int x1] σ g (none) σ0 g := by
  refine x_enter (lv := [(0, .ref (gs_a E 57)), (1, .int x1)]) (by decide +kernel) (Nat.le_of_ble_eq_true rfl) rfl (fun p e s m args below meth c C hr => ?_)
  unfold f_X9_layOrder at h
  refine x_aload_n C dX9_layOrder_0 rfl 0 rfl ?_
  obtain ⟨s1, hv1, h⟩ := Option.bind_eq_some_iff.mp h
  refine x_callV C 57 (m_X9_begin hv1) rfl rfl kM_X9_148 kI_X9_begin kS_X9_begin kN_X9 kC_X9_begin kD_X9_begin rfl ⟨Nat.le_of_ble_eq_true rfl, Nat.le_of_ble_eq_true rfl⟩ ⟨Nat.le_refl _, Nat.le_refl _⟩ (rest := []) rfl (Nat.le_of_ble_eq_true rfl) dX9_layOrder_1 (st' := []) rfl ?_
  refine x_iload_n C dX9_layOrder_4 rfl 1 rfl ?_
  refine x_istore_n C dX9_layOrder_5 rfl (lv2 := [(0, .ref (gs_a E 57)), (1, .int x1), (2, .int x1)]) (by decide) rfl [1, 2, 0] rfl ?_
  refine x_aload_n C dX9_layOrder_6 rfl 0 rfl ?_
  refine x_geti C 57 rfl rfl inX9 9 (by decide) rfl kF_X9_116 rfl (v := (s1 57 9)) rfl dX9_layOrder_7 ?_
  refine x_istore_n C dX9_layOrder_10 rfl (lv2 := [(0, .ref (gs_a E 57)), (1, .int x1), (2, .int x1), (3, .int (s1 57 9))]) (by decide) rfl [1, 2, 3, 0] rfl ?_
  refine x_aload_n C dX9_layOrder_11 rfl 0 rfl ?_
  obtain ⟨v2, hv2, h⟩ := Option.bind_eq_some_iff.mp h
  refine x_callV C 57 (m_X9_looseMany hv2) rfl rfl kM_X9_204 kI_X9_looseMany kS_X9_looseMany kN_X9 kC_X9_looseMany kD_X9_looseMany rfl ⟨Nat.le_of_ble_eq_true rfl, Nat.le_of_ble_eq_true rfl⟩ ⟨Nat.le_refl _, Nat.le_refl _⟩ (rest := []) rfl (Nat.le_of_ble_eq_true rfl) dX9_layOrder_12 (st' := [.int v2]) rfl ?_
  refine x_istore C dX9_layOrder_15 (lv2 := [(0, .ref (gs_a E 57)), (1, .int x1), (2, .int x1), (3, .int (s1 57 9)), (4, .int v2)]) (by decide) rfl [1, 2, 3, 4, 0] rfl ?_
  refine x_iconst C dX9_layOrder_17 (v := 0) (by decide) ?_
  refine x_istore C dX9_layOrder_18 (lv2 := [(0, .ref (gs_a E 57)), (1, .int x1), (2, .int x1), (3, .int (s1 57 9)), (4, .int v2), (5, .int (0 : Int32))]) (by decide) rfl [1, 2, 3, 4, 5, 0] rfl ?_
  refine x_lv (lv' := [(0, .ref (gs_a E 57)), (2, .int x1), (3, .int (s1 57 9)), (4, .int v2), (5, .int (0 : Int32))]) [0, 2, 3, 4, 5] rfl ?_
  obtain ⟨q3, hq3, h⟩ := Option.bind_eq_some_iff.mp h
  refine wl_X9_layOrder_20 C (fun s3_0 hz => ?_) 1000 _ _ _ _ _ hq3
  subst q3
  try dsimp only at h
  replace h := Option.some.inj h
  subst h
  exact x_retv C hr rfl dX9_layOrder_129
def b_X9_oddsOf_65 (σ : gs_H) (y : Int32 × Int32) : Option ((Int32 × Int32) ⊕ ((Int32))) :=
if y.2 ≤ 0 then (
some (Sum.inr y.1))
else (
if ¬ y.2 = 0 then
some (Sum.inl (y.2, (y.1 - y.1 / y.2 * y.2))) else none)
def b_X9_oddsOf_22 (x2 : Int32) (x3 : Int32) (y : Int32 × Int32 × gs_H) : Option ((Int32 × Int32 × gs_H) ⊕ ((Int32 × gs_H))) :=
if x3 ≤ y.2.1 then (
some (Sum.inr (y.1, y.2.2)))
else (
(f_X9_layOrder y.2.1 y.2.2).bind fun q13 =>
(f_X9_levelThen q13).bind fun q14 =>
if q14.1 = x2 then (
some (Sum.inl ((y.1 + (1 : Int32)), (y.2.1 + (1 : Int32)), q14.2)))
else (
some (Sum.inl ((y.1 + (0 : Int32)), (y.2.1 + (1 : Int32)), q14.2))))
def f_X9_oddsOf (x1 : Int32) (σ : gs_H) : Option (Int32 × gs_H) :=
(f_X9_there σ).bind fun q1 =>
(f_X9_ones q1).bind fun q2 =>
(f_X9_looseMany σ).bind fun q3 =>
(f_X9_factorial q3).bind fun q4 =>
(lp (b_X9_oddsOf_22 q2 q4) 1000 ((0 : Int32), (0 : Int32), σ)).bind fun q5 =>
(lp (b_X9_oddsOf_65 q5.2) 1000 (q4, q5.1)).bind fun q6 =>
if x1 = 0 then (
if ¬ q6 = 0 then
some ((q5.1 / q6), q5.2) else none)
else (
if ¬ q6 = 0 then
some ((q4 / q6), q5.2) else none)
set_option maxHeartbeats 4000000 in
set_option maxRecDepth 20000 in
theorem wl_X9_oddsOf_65 {E : gs_E} {l : Launch} {p : Program} {e : Env} {s : State} {m : MethodId} {args : Array Value} {below : List Frame} {meth : Method} {c : Code} (C : gs_X E RX9 cX9_oddsOf 8 p s m args meth c) {ov : Option Value} {σ0 : gs_H} {g0 : Int64} {x1 : Int32} {x3 : Int32} {x4 : Int32} {σ : gs_H} {g : Int64} {q : (Int32)} (hx0 : ∀ (z5 : Int32), q = z5 → gs_V E 8 (5, 111) p l e s m args below meth c ov σ0 g0 88 [(1, .int x1), (3, .int x3), (4, .int x4), (5, .int z5)] [] σ g) : ∀ (n : Nat) (y5 : Int32) (y6 : Int32), lp (b_X9_oddsOf_65 σ) n (y5, y6) = some q → gs_V E 8 (5, 111) p l e s m args below meth c ov σ0 g0 65 [(1, .int x1), (3, .int x3), (4, .int x4), (5, .int y5), (6, .int y6)] [] σ g := by
  intro n
  induction n with
  | zero => intro y5 y6 h; cases h
  | succ n ih =>
    intro y5 y6 h
    obtain ⟨r, h, hl, he⟩ := lp_step h
    have hc := fun (y5 : Int32) (y6 : Int32) (hr : r = Sum.inl (y5, y6)) => ih y5 y6 (hl _ hr)
    have hk0 := fun (z5 : Int32) (hr : r = Sum.inr z5) => hx0 z5 (he _ hr).symm
    unfold b_X9_oddsOf_65 at h
    try dsimp only at h
    refine x_iload C dX9_oddsOf_65 4 rfl ?_
    by_cases hc1 : y6 ≤ 0
    · replace h := (if_pos hc1).symm.trans h
      refine x_if_leT C dX9_oddsOf_67 (tgt := 88) (by decide) hc1 ?_
      refine x_lv (lv' := [(1, .int x1), (3, .int x3), (4, .int x4), (5, .int y5)]) [0, 1, 2, 3] rfl ?_
      obtain rfl := Option.some.inj h
      exact hk0 y5 rfl
    · replace h := (if_neg hc1).symm.trans h
      refine x_if_leF C dX9_oddsOf_67 (tgt := 88) (by decide) hc1 ?_
      refine x_iload C dX9_oddsOf_70 3 rfl ?_
      refine x_iload C dX9_oddsOf_72 4 rfl ?_
      obtain ⟨hn2, h⟩ := ck_some h
      refine x_irem C dX9_oddsOf_74 hn2 ?_
      refine x_istore C dX9_oddsOf_75 (lv2 := [(1, .int x1), (3, .int x3), (4, .int x4), (5, .int y5), (6, .int y6), (7, .int (y5 - y5 / y6 * y6))]) (by decide) rfl [1, 2, 3, 4, 5, 0] rfl ?_
      refine x_iload C dX9_oddsOf_77 4 rfl ?_
      refine x_istore C dX9_oddsOf_79 (lv2 := [(1, .int x1), (3, .int x3), (4, .int x4), (5, .int y6), (6, .int y6), (7, .int (y5 - y5 / y6 * y6))]) (by decide) rfl [1, 2, 3, 0, 4, 5] rfl ?_
      refine x_iload C dX9_oddsOf_81 5 rfl ?_
      refine x_istore C dX9_oddsOf_83 (lv2 := [(1, .int x1), (3, .int x3), (4, .int x4), (5, .int y6), (6, .int (y5 - y5 / y6 * y6)), (7, .int (y5 - y5 / y6 * y6))]) (by decide) rfl [1, 2, 3, 4, 0, 5] rfl ?_
      refine x_goto C dX9_oddsOf_85 (tgt := 65) (by decide) ?_
      refine x_lv (lv' := [(1, .int x1), (3, .int x3), (4, .int x4), (5, .int y6), (6, .int (y5 - y5 / y6 * y6))]) [0, 1, 2, 3, 4] rfl ?_
      obtain rfl := Option.some.inj h
      exact hc y6 (y5 - y5 / y6 * y6) rfl
set_option maxHeartbeats 4000000 in
set_option maxRecDepth 20000 in
theorem wl_X9_oddsOf_22 {E : gs_E} {l : Launch} {p : Program} {e : Env} {s : State} {m : MethodId} {args : Array Value} {below : List Frame} {meth : Method} {c : Code} (C : gs_X E RX9 cX9_oddsOf 8 p s m args meth c) {ov : Option Value} {σ0 : gs_H} {g0 : Int64} {x1 : Int32} {x2 : Int32} {x3 : Int32} {g : Int64} {q : (Int32 × gs_H)} (hx0 : ∀ (z4 : Int32) (zs : gs_H), q = (z4, zs) → gs_V E 8 (5, 111) p l e s m args below meth c ov σ0 g0 58 [(1, .int x1), (3, .int x3), (4, .int z4)] [] zs g) : ∀ (n : Nat) (y4 : Int32) (y5 : Int32) (ys : gs_H), lp (b_X9_oddsOf_22 x2 x3) n (y4, y5, ys) = some q → gs_V E 8 (5, 111) p l e s m args below meth c ov σ0 g0 22 [(0, .ref (gs_a E 57)), (1, .int x1), (2, .int x2), (3, .int x3), (4, .int y4), (5, .int y5)] [] ys g := by
  intro n
  induction n with
  | zero => intro y4 y5 ys h; cases h
  | succ n ih =>
    intro y4 y5 ys h
    obtain ⟨r, h, hl, he⟩ := lp_step h
    have hc := fun (y4 : Int32) (y5 : Int32) (ys : gs_H) (hr : r = Sum.inl (y4, y5, ys)) => ih y4 y5 ys (hl _ hr)
    have hk0 := fun (z4 : Int32) (zs : gs_H) (hr : r = Sum.inr (z4, zs)) => hx0 z4 zs (he _ hr).symm
    unfold b_X9_oddsOf_22 at h
    try dsimp only at h
    refine x_iload C dX9_oddsOf_22 5 rfl ?_
    refine x_iload_n C dX9_oddsOf_24 rfl 3 rfl ?_
    by_cases hc1 : x3 ≤ y5
    · replace h := (if_pos hc1).symm.trans h
      refine x_icmp_geT C dX9_oddsOf_25 (tgt := 58) (by decide) hc1 ?_
      refine x_lv (lv' := [(1, .int x1), (3, .int x3), (4, .int y4)]) [1, 3, 4] rfl ?_
      obtain rfl := Option.some.inj h
      exact hk0 y4 ys rfl
    · replace h := (if_neg hc1).symm.trans h
      refine x_icmp_geF C dX9_oddsOf_25 (tgt := 58) (by decide) hc1 ?_
      refine x_aload_n C dX9_oddsOf_28 rfl 0 rfl ?_
      refine x_iload C dX9_oddsOf_29 5 rfl ?_
      obtain ⟨s2, hv2, h⟩ := Option.bind_eq_some_iff.mp h
      refine x_callV C 57 (m_X9_layOrder hv2) rfl rfl kM_X9_210 kI_X9_layOrder kS_X9_layOrder kN_X9 kC_X9_layOrder kD_X9_layOrder rfl ⟨Nat.le_of_ble_eq_true rfl, Nat.le_of_ble_eq_true rfl⟩ ⟨Nat.le_refl _, Nat.le_refl _⟩ (rest := []) rfl (Nat.le_of_ble_eq_true rfl) dX9_oddsOf_31 (st' := []) rfl ?_
      refine x_iload C dX9_oddsOf_34 4 rfl ?_
      refine x_aload_n C dX9_oddsOf_36 rfl 0 rfl ?_
      obtain ⟨⟨v3, s3⟩, hv3, h⟩ := Option.bind_eq_some_iff.mp h
      try dsimp only at h
      refine x_callV C 57 (m_X9_levelThen hv3) rfl rfl kM_X9_151 kI_X9_levelThen kS_X9_levelThen kN_X9 kC_X9_levelThen kD_X9_levelThen rfl ⟨Nat.le_of_ble_eq_true rfl, Nat.le_of_ble_eq_true rfl⟩ ⟨Nat.le_refl _, Nat.le_refl _⟩ (rest := [.int y4]) rfl (Nat.le_of_ble_eq_true rfl) dX9_oddsOf_37 (st' := [.int v3, .int y4]) rfl ?_
      refine x_iload_n C dX9_oddsOf_40 rfl 2 rfl ?_
      by_cases hc4 : v3 = x2
      · replace h := (if_pos hc4).symm.trans h
        refine x_icmp_neF C dX9_oddsOf_41 (tgt := 48) (by decide) hc4 ?_
        refine x_iconst C dX9_oddsOf_44 (v := 1) (by decide) ?_
        refine x_goto C dX9_oddsOf_45 (tgt := 49) (by decide) ?_
        refine x_iadd C dX9_oddsOf_49 ?_
        refine x_istore C dX9_oddsOf_50 (lv2 := [(0, .ref (gs_a E 57)), (1, .int x1), (2, .int x2), (3, .int x3), (4, .int (y4 + (1 : Int32))), (5, .int y5)]) (by decide) rfl [1, 2, 3, 4, 0, 5] rfl ?_
        refine x_iinc C dX9_oddsOf_52 5 rfl (v := (y5 + (1 : Int32))) rfl (lv2 := [(0, .ref (gs_a E 57)), (1, .int x1), (2, .int x2), (3, .int x3), (4, .int (y4 + (1 : Int32))), (5, .int (y5 + (1 : Int32)))]) (by decide) rfl [1, 2, 3, 4, 5, 0] rfl ?_
        refine x_goto C dX9_oddsOf_55 (tgt := 22) (by decide) ?_
        obtain rfl := Option.some.inj h
        exact hc (y4 + (1 : Int32)) (y5 + (1 : Int32)) s3 rfl
      · replace h := (if_neg hc4).symm.trans h
        refine x_icmp_neT C dX9_oddsOf_41 (tgt := 48) (by decide) hc4 ?_
        refine x_iconst C dX9_oddsOf_48 (v := 0) (by decide) ?_
        refine x_iadd C dX9_oddsOf_49 ?_
        refine x_istore C dX9_oddsOf_50 (lv2 := [(0, .ref (gs_a E 57)), (1, .int x1), (2, .int x2), (3, .int x3), (4, .int (y4 + (0 : Int32))), (5, .int y5)]) (by decide) rfl [1, 2, 3, 4, 0, 5] rfl ?_
        refine x_iinc C dX9_oddsOf_52 5 rfl (v := (y5 + (1 : Int32))) rfl (lv2 := [(0, .ref (gs_a E 57)), (1, .int x1), (2, .int x2), (3, .int x3), (4, .int (y4 + (0 : Int32))), (5, .int (y5 + (1 : Int32)))]) (by decide) rfl [1, 2, 3, 4, 5, 0] rfl ?_
        refine x_goto C dX9_oddsOf_55 (tgt := 22) (by decide) ?_
        obtain rfl := Option.some.inj h
        exact hc (y4 + (0 : Int32)) (y5 + (1 : Int32)) s3 rfl
set_option maxHeartbeats 4000000 in
set_option maxRecDepth 20000 in
theorem m_X9_oddsOf {E : gs_E} {l : Launch} {x1 : Int32} {σ : gs_H} {g : Int64} {r0 : Int32} {σ0 : gs_H} (h : f_X9_oddsOf x1 σ = some (r0, σ0)) : gs_M l E yX9_oddsOf cX9_oddsOf 8 (some .int) (5, 111) [.ref (gs_a E 57), .int x1] σ g (some (.int r0)) σ0 g := by
  refine x_enter (lv := [(0, .ref (gs_a E 57)), (1, .int x1)]) (by decide +kernel) (Nat.le_of_ble_eq_true rfl) rfl (fun p e s m args below meth c C hr => ?_)
  unfold f_X9_oddsOf at h
  refine x_aload_n C dX9_oddsOf_0 rfl 0 rfl ?_
  obtain ⟨v1, hv1, h⟩ := Option.bind_eq_some_iff.mp h
  refine x_callV C 57 (m_X9_there hv1) rfl rfl kM_X9_145 kI_X9_there kS_X9_there kN_X9 kC_X9_there kD_X9_there rfl ⟨Nat.le_of_ble_eq_true rfl, Nat.le_of_ble_eq_true rfl⟩ ⟨Nat.le_refl _, Nat.le_refl _⟩ (rest := []) rfl (Nat.le_of_ble_eq_true rfl) dX9_oddsOf_1 (st' := [.int v1]) rfl ?_
  obtain ⟨v2, hv2, h⟩ := Option.bind_eq_some_iff.mp h
  refine x_callS C (m_X9_ones hv2) kM_X9_196 kT_X9_ones kN_X9 kC_X9_ones kD_X9_ones rfl ⟨Nat.le_of_ble_eq_true rfl, Nat.le_of_ble_eq_true rfl⟩ ⟨Nat.le_refl _, Nat.le_refl _⟩ (rest := []) rfl (Nat.le_of_ble_eq_true rfl) dX9_oddsOf_4 (st' := [.int v2]) rfl ?_
  refine x_istore_n C dX9_oddsOf_7 rfl (lv2 := [(0, .ref (gs_a E 57)), (1, .int x1), (2, .int v2)]) (by decide) rfl [1, 2, 0] rfl ?_
  refine x_aload_n C dX9_oddsOf_8 rfl 0 rfl ?_
  obtain ⟨v3, hv3, h⟩ := Option.bind_eq_some_iff.mp h
  refine x_callV C 57 (m_X9_looseMany hv3) rfl rfl kM_X9_204 kI_X9_looseMany kS_X9_looseMany kN_X9 kC_X9_looseMany kD_X9_looseMany rfl ⟨Nat.le_of_ble_eq_true rfl, Nat.le_of_ble_eq_true rfl⟩ ⟨Nat.le_refl _, Nat.le_refl _⟩ (rest := []) rfl (Nat.le_of_ble_eq_true rfl) dX9_oddsOf_9 (st' := [.int v3]) rfl ?_
  obtain ⟨v4, hv4, h⟩ := Option.bind_eq_some_iff.mp h
  refine x_callS C (m_X9_factorial hv4) kM_X9_207 kT_X9_factorial kN_X9 kC_X9_factorial kD_X9_factorial rfl ⟨Nat.le_of_ble_eq_true rfl, Nat.le_of_ble_eq_true rfl⟩ ⟨Nat.le_refl _, Nat.le_refl _⟩ (rest := []) rfl (Nat.le_of_ble_eq_true rfl) dX9_oddsOf_12 (st' := [.int v4]) rfl ?_
  refine x_istore_n C dX9_oddsOf_15 rfl (lv2 := [(0, .ref (gs_a E 57)), (1, .int x1), (2, .int v2), (3, .int v4)]) (by decide) rfl [1, 2, 3, 0] rfl ?_
  refine x_iconst C dX9_oddsOf_16 (v := 0) (by decide) ?_
  refine x_istore C dX9_oddsOf_17 (lv2 := [(0, .ref (gs_a E 57)), (1, .int x1), (2, .int v2), (3, .int v4), (4, .int (0 : Int32))]) (by decide) rfl [1, 2, 3, 4, 0] rfl ?_
  refine x_iconst C dX9_oddsOf_19 (v := 0) (by decide) ?_
  refine x_istore C dX9_oddsOf_20 (lv2 := [(0, .ref (gs_a E 57)), (1, .int x1), (2, .int v2), (3, .int v4), (4, .int (0 : Int32)), (5, .int (0 : Int32))]) (by decide) rfl [1, 2, 3, 4, 5, 0] rfl ?_
  obtain ⟨q5, hq5, h⟩ := Option.bind_eq_some_iff.mp h
  refine wl_X9_oddsOf_22 C (fun v5_0_4 s5_0 hz => ?_) 1000 _ _ _ hq5
  subst q5
  try dsimp only at h
  refine x_iload_n C dX9_oddsOf_58 rfl 1 rfl ?_
  refine x_istore C dX9_oddsOf_59 (lv2 := [(1, .int x1), (3, .int v4), (4, .int v5_0_4), (5, .int v4)]) (by decide) rfl [1, 2, 3, 0] rfl ?_
  refine x_iload C dX9_oddsOf_61 2 rfl ?_
  refine x_istore C dX9_oddsOf_63 (lv2 := [(1, .int x1), (3, .int v4), (4, .int v5_0_4), (5, .int v4), (6, .int v5_0_4)]) (by decide) rfl [1, 2, 3, 4, 0] rfl ?_
  obtain ⟨q6, hq6, h⟩ := Option.bind_eq_some_iff.mp h
  refine wl_X9_oddsOf_65 C (fun v6_0_5 hz => ?_) 1000 _ _ hq6
  subst q6
  try dsimp only at h
  refine x_iload_n C dX9_oddsOf_88 rfl 0 rfl ?_
  by_cases hc7 : x1 = 0
  · replace h := (if_pos hc7).symm.trans h
    refine x_if_neF C dX9_oddsOf_89 (tgt := 100) (by decide) hc7 ?_
    refine x_iload C dX9_oddsOf_92 2 rfl ?_
    refine x_iload C dX9_oddsOf_94 3 rfl ?_
    obtain ⟨hn9, h⟩ := ck_some h
    refine x_idiv C dX9_oddsOf_96 hn9 ?_
    refine x_goto C dX9_oddsOf_97 (tgt := 104) (by decide) ?_
    replace h := Option.some.inj h
    obtain ⟨rfl, rfl⟩ := Prod.mk.inj h
    exact x_ret C hr rfl rfl dX9_oddsOf_104
  · replace h := (if_neg hc7).symm.trans h
    refine x_if_neT C dX9_oddsOf_89 (tgt := 100) (by decide) hc7 ?_
    refine x_iload_n C dX9_oddsOf_100 rfl 1 rfl ?_
    refine x_iload C dX9_oddsOf_101 3 rfl ?_
    obtain ⟨hn8, h⟩ := ck_some h
    refine x_idiv C dX9_oddsOf_103 hn8 ?_
    replace h := Option.some.inj h
    obtain ⟨rfl, rfl⟩ := Prod.mk.inj h
    exact x_ret C hr rfl rfl dX9_oddsOf_104
def f_X9_say (x1 : Int64) (g : Int64) : Int64 :=
(((31 : Int64) * g) + x1)
set_option maxHeartbeats 4000000 in
set_option maxRecDepth 20000 in
theorem m_X9_say {E : gs_E} {l : Launch} {x1 : Int64} {σ : gs_H} {g : Int64} {g0 : Int64} (h : f_X9_say x1 g = g0) : gs_M l E yX9_say cX9_say 3 (none) (0, 0) [.ref (gs_a E 57), .long x1] σ g (none) σ g0 := by
  refine x_enter (lv := [(0, .ref (gs_a E 57)), (1, .long x1)]) (by decide +kernel) (Nat.le_of_ble_eq_true rfl) rfl (fun p e s m args below meth c C hr => ?_)
  unfold f_X9_say at h
  refine x_aload_n C dX9_say_0 rfl 0 rfl ?_
  refine x_ldc2 C kK_X9_278 dX9_say_1 ?_
  refine x_aload_n C dX9_say_4 rfl 0 rfl ?_
  refine x_getl C 57 rfl rfl inX9 34 (by decide) rfl kF_X9_280 rfl dX9_say_5 ?_
  refine x_lmul C dX9_say_8 ?_
  refine x_lload_n C dX9_say_9 rfl 1 rfl ?_
  refine x_ladd C dX9_say_10 ?_
  refine x_putl C rfl rfl inX9 tyX9 tyX9_ok nmX9 34 (by decide) rfl gs_oneJ kF_X9_280 rfl rfl rfl rfl dX9_say_11 ?_
  subst h
  exact x_retv C hr rfl dX9_say_14
def f_X9_hangsOf (x1 : Int32) (σ : gs_H) : Option (Int32) :=
if inb x1 10 then
if (10 : Int32) ≤ (σ 60 x1.toNatClampNeg) then (
if inb x1 10 then
if inb ((σ 60 x1.toNatClampNeg) - (10 : Int32)) 6 then
some ((10 : Int32) + (σ 64 ((σ 60 x1.toNatClampNeg) - (10 : Int32)).toNatClampNeg)) else none else none)
else (
if inb x1 10 then
some (σ 60 x1.toNatClampNeg) else none) else none
set_option maxHeartbeats 4000000 in
set_option maxRecDepth 20000 in
theorem m_X9_hangsOf {E : gs_E} {l : Launch} {x1 : Int32} {σ : gs_H} {g : Int64} {r0 : Int32} (h : f_X9_hangsOf x1 σ = some r0) : gs_M l E yX9_hangsOf cX9_hangsOf 2 (some .int) (0, 0) [.ref (gs_a E 57), .int x1] σ g (some (.int r0)) σ g := by
  refine x_enter (lv := [(0, .ref (gs_a E 57)), (1, .int x1)]) (by decide +kernel) (Nat.le_of_ble_eq_true rfl) rfl (fun p e s m args below meth c C hr => ?_)
  unfold f_X9_hangsOf at h
  refine x_aload_n C dX9_hangsOf_0 rfl 0 rfl ?_
  refine x_getr C 57 rfl rfl inX9 11 (by decide) rfl kF_X9_16 rfl dX9_hangsOf_1 ?_
  refine x_iload_n C dX9_hangsOf_4 rfl 1 rfl ?_
  obtain ⟨hb1, h⟩ := ck_some h
  refine x_iald C 60 rfl hb1 (v := (σ 60 x1.toNatClampNeg)) rfl dX9_hangsOf_5 ?_
  refine x_bipush C dX9_hangsOf_6 (v := 10) (by decide) ?_
  by_cases hc2 : (10 : Int32) ≤ (σ 60 x1.toNatClampNeg)
  · replace h := (if_pos hc2).symm.trans h
    refine x_icmp_geT C dX9_hangsOf_8 (tgt := 20) (by decide) hc2 ?_
    refine x_bipush C dX9_hangsOf_20 (v := 10) (by decide) ?_
    refine x_aload_n C dX9_hangsOf_22 rfl 0 rfl ?_
    refine x_getr C 57 rfl rfl inX9 15 (by decide) rfl kF_X9_28 rfl dX9_hangsOf_23 ?_
    refine x_aload_n C dX9_hangsOf_26 rfl 0 rfl ?_
    refine x_getr C 57 rfl rfl inX9 11 (by decide) rfl kF_X9_16 rfl dX9_hangsOf_27 ?_
    refine x_iload_n C dX9_hangsOf_30 rfl 1 rfl ?_
    obtain ⟨hb3, h⟩ := ck_some h
    refine x_iald C 60 rfl hb3 (v := (σ 60 x1.toNatClampNeg)) rfl dX9_hangsOf_31 ?_
    refine x_bipush C dX9_hangsOf_32 (v := 10) (by decide) ?_
    refine x_isub C dX9_hangsOf_34 ?_
    obtain ⟨hb4, h⟩ := ck_some h
    refine x_iald C 64 rfl hb4 (v := (σ 64 ((σ 60 x1.toNatClampNeg) - (10 : Int32)).toNatClampNeg)) rfl dX9_hangsOf_35 ?_
    refine x_iadd C dX9_hangsOf_36 ?_
    replace h := Option.some.inj h
    subst h
    exact x_ret C hr rfl rfl dX9_hangsOf_37
  · replace h := (if_neg hc2).symm.trans h
    refine x_icmp_geF C dX9_hangsOf_8 (tgt := 20) (by decide) hc2 ?_
    refine x_aload_n C dX9_hangsOf_11 rfl 0 rfl ?_
    refine x_getr C 57 rfl rfl inX9 11 (by decide) rfl kF_X9_16 rfl dX9_hangsOf_12 ?_
    refine x_iload_n C dX9_hangsOf_15 rfl 1 rfl ?_
    obtain ⟨hb5, h⟩ := ck_some h
    refine x_iald C 60 rfl hb5 (v := (σ 60 x1.toNatClampNeg)) rfl dX9_hangsOf_16 ?_
    refine x_goto C dX9_hangsOf_17 (tgt := 37) (by decide) ?_
    replace h := Option.some.inj h
    subst h
    exact x_ret C hr rfl rfl dX9_hangsOf_37
