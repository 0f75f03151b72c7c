def f_X3_hangingFrom (x1 : Int32) (σ : gs_H) : Option (Int32) :=
if inb x1 10 then
if (10 : Int32) ≤ (σ 11 x1.toNatClampNeg) then (
if inb ((σ 11 x1.toNatClampNeg) - (10 : Int32)) 6 then
some ((10 : Int32) + (σ 12 ((σ 11 x1.toNatClampNeg) - (10 : Int32)).toNatClampNeg)) else none)
else (
some (σ 11 x1.toNatClampNeg)) else none
set_option maxHeartbeats 4000000 in
set_option maxRecDepth 20000 in
theorem m_X3_hangingFrom {E : gs_E} {l : Launch} {x1 : Int32} {σ : gs_H} {g : Int64} {r0 : Int32} (h : f_X3_hangingFrom x1 σ = some r0) : gs_M l E yX3_hangingFrom cX3_hangingFrom 3 (some .int) (0, 0) [.ref (gs_a E 9), .int x1] σ g (some (.int r0)) σ g := by
  refine x_enter (lv := [(0, .ref (gs_a E 9)), (1, .int x1)]) (by decide +kernel) (Nat.le_of_ble_eq_true rfl) rfl (fun p e s m args below meth c C hr => ?_)
  unfold f_X3_hangingFrom at h
  refine x_aload_n C dX3_hangingFrom_0 rfl 0 rfl ?_
  refine x_getr C 9 rfl rfl inX3 4 (by decide) rfl kF_X3_15 rfl dX3_hangingFrom_1 ?_
  refine x_iload_n C dX3_hangingFrom_4 rfl 1 rfl ?_
  obtain ⟨hb1, h⟩ := ck_some h
  refine x_iald C 11 rfl hb1 (v := (σ 11 x1.toNatClampNeg)) rfl dX3_hangingFrom_5 ?_
  refine x_istore_n C dX3_hangingFrom_6 rfl (lv2 := [(0, .ref (gs_a E 9)), (1, .int x1), (2, .int (σ 11 x1.toNatClampNeg))]) (by decide) rfl [1, 2, 0] rfl ?_
  refine x_iload_n C dX3_hangingFrom_7 rfl 2 rfl ?_
  refine x_bipush C dX3_hangingFrom_8 (v := 10) (by decide) ?_
  by_cases hc2 : (10 : Int32) ≤ (σ 11 x1.toNatClampNeg)
  · replace h := (if_pos hc2).symm.trans h
    refine x_icmp_geT C dX3_hangingFrom_10 (tgt := 17) (by decide) hc2 ?_
    refine x_bipush C dX3_hangingFrom_17 (v := 10) (by decide) ?_
    refine x_aload_n C dX3_hangingFrom_19 rfl 0 rfl ?_
    refine x_getr C 9 rfl rfl inX3 5 (by decide) rfl kF_X3_18 rfl dX3_hangingFrom_20 ?_
    refine x_iload_n C dX3_hangingFrom_23 rfl 2 rfl ?_
    refine x_bipush C dX3_hangingFrom_24 (v := 10) (by decide) ?_
    refine x_isub C dX3_hangingFrom_26 ?_
    obtain ⟨hb3, h⟩ := ck_some h
    refine x_iald C 12 rfl hb3 (v := (σ 12 ((σ 11 x1.toNatClampNeg) - (10 : Int32)).toNatClampNeg)) rfl dX3_hangingFrom_27 ?_
    refine x_iadd C dX3_hangingFrom_28 ?_
    replace h := Option.some.inj h
    subst h
    exact x_ret C hr rfl rfl dX3_hangingFrom_29
  · replace h := (if_neg hc2).symm.trans h
    refine x_icmp_geF C dX3_hangingFrom_10 (tgt := 17) (by decide) hc2 ?_
    refine x_iload_n C dX3_hangingFrom_13 rfl 2 rfl ?_
    refine x_goto C dX3_hangingFrom_14 (tgt := 29) (by decide) ?_
    replace h := Option.some.inj h
    subst h
    exact x_ret C hr rfl rfl dX3_hangingFrom_29
def b_X3_armOf_2 (x1 : Int32) (σ : gs_H) (y : Int32) : Option ((Int32) ⊕ ((Int32) ⊕ (Unit))) :=
if ((2 : Int32) * (σ 9 0)) ≤ y then (
some (Sum.inr (Sum.inr ())))
else (
(f_X3_hangingFrom y σ).bind fun q3 =>
if q3 = ((10 : Int32) + x1) then (
some (Sum.inr (Sum.inl y)))
else (
some (Sum.inl (y + (1 : Int32)))))
def f_X3_armOf (x1 : Int32) (σ : gs_H) : Option (Int32) :=
(lp (b_X3_armOf_2 x1 σ) 1000 (0 : Int32)).bind fun q1 =>
match q1 with
| .inl q1_0 =>
some q1_0
| .inr q1_1 =>
some (0 : Int32)
set_option maxHeartbeats 4000000 in
set_option maxRecDepth 20000 in
theorem wl_X3_armOf_2 {E : gs_E} {l : Launch} {p : Program} {e : Env} {s : State} {m : MethodId} {args : Array Value} {below : List Frame} {meth : Method} {c : Code} (C : gs_X E RX3 cX3_armOf 3 p s m args meth c) {ov : Option Value} {σ0 : gs_H} {g0 : Int64} {x1 : Int32} {σ : gs_H} {g : Int64} {q : (Int32) ⊕ (Unit)} (hx0 : ∀ (z2 : Int32), q = (Sum.inl z2) → gs_V E 3 (1, 22) p l e s m args below meth c ov σ0 g0 24 [(2, .int z2)] [] σ g) (hx1 : q = (Sum.inr ()) → gs_V E 3 (1, 22) p l e s m args below meth c ov σ0 g0 32 [] [] σ g) : ∀ (n : Nat) (y2 : Int32), lp (b_X3_armOf_2 x1 σ) n y2 = some q → gs_V E 3 (1, 22) p l e s m args below meth c ov σ0 g0 2 [(0, .ref (gs_a E 9)), (1, .int x1), (2, .int y2)] [] σ g := by
  intro n
  induction n with
  | zero => intro y2 h; cases h
  | succ n ih =>
    intro y2 h
    obtain ⟨r, h, hl, he⟩ := lp_step h
    have hc := fun (y2 : Int32) (hr : r = Sum.inl y2) => ih y2 (hl _ hr)
    have hk0 := fun (z2 : Int32) (hr : r = Sum.inr (Sum.inl z2)) => hx0 z2 (he _ hr).symm
    have hk1 := fun (hr : r = Sum.inr (Sum.inr ())) => hx1 (he _ hr).symm
    unfold b_X3_armOf_2 at h
    try dsimp only at h
    refine x_iload_n C dX3_armOf_2 rfl 2 rfl ?_
    refine x_iconst C dX3_armOf_3 (v := 2) (by decide) ?_
    refine x_aload_n C dX3_armOf_4 rfl 0 rfl ?_
    refine x_geti C 9 rfl rfl inX3 0 (by decide) rfl kF_X3_47 rfl (v := (σ 9 0)) rfl dX3_armOf_5 ?_
    refine x_imul C dX3_armOf_8 ?_
    by_cases hc1 : ((2 : Int32) * (σ 9 0)) ≤ y2
    · replace h := (if_pos hc1).symm.trans h
      refine x_icmp_geT C dX3_armOf_9 (tgt := 32) (by decide) hc1 ?_
      refine x_lv (lv' := []) [] rfl ?_
      obtain rfl := Option.some.inj h
      exact hk1  rfl
    · replace h := (if_neg hc1).symm.trans h
      refine x_icmp_geF C dX3_armOf_9 (tgt := 32) (by decide) hc1 ?_
      refine x_aload_n C dX3_armOf_12 rfl 0 rfl ?_
      refine x_iload_n C dX3_armOf_13 rfl 2 rfl ?_
      obtain ⟨v2, hv2, h⟩ := Option.bind_eq_some_iff.mp h
      refine x_callV C 9 (m_X3_hangingFrom hv2) rfl rfl kM_X3_74 kI_X3_hangingFrom kS_X3_hangingFrom kN_X3 kC_X3_hangingFrom kD_X3_hangingFrom rfl ⟨Nat.le_of_ble_eq_true rfl, Nat.le_of_ble_eq_true rfl⟩ ⟨Nat.le_refl _, Nat.le_refl _⟩ (rest := []) rfl (Nat.le_of_ble_eq_true rfl) dX3_armOf_14 (st' := [.int v2]) rfl ?_
      refine x_bipush C dX3_armOf_17 (v := 10) (by decide) ?_
      refine x_iload_n C dX3_armOf_19 rfl 1 rfl ?_
      refine x_iadd C dX3_armOf_20 ?_
      by_cases hc3 : v2 = ((10 : Int32) + x1)
      · replace h := (if_pos hc3).symm.trans h
        refine x_icmp_neF C dX3_armOf_21 (tgt := 26) (by decide) hc3 ?_
        refine x_lv (lv' := [(2, .int y2)]) [2] rfl ?_
        obtain rfl := Option.some.inj h
        exact hk0 y2 rfl
      · replace h := (if_neg hc3).symm.trans h
        refine x_icmp_neT C dX3_armOf_21 (tgt := 26) (by decide) hc3 ?_
        refine x_iinc C dX3_armOf_26 2 rfl (v := (y2 + (1 : Int32))) rfl (lv2 := [(0, .ref (gs_a E 9)), (1, .int x1), (2, .int (y2 + (1 : Int32)))]) (by decide) rfl [1, 2, 0] rfl ?_
        refine x_goto C dX3_armOf_29 (tgt := 2) (by decide) ?_
        obtain rfl := Option.some.inj h
        exact hc (y2 + (1 : Int32)) rfl
set_option maxHeartbeats 4000000 in
set_option maxRecDepth 20000 in
theorem m_X3_armOf {E : gs_E} {l : Launch} {x1 : Int32} {σ : gs_H} {g : Int64} {r0 : Int32} (h : f_X3_armOf x1 σ = some r0) : gs_M l E yX3_armOf cX3_armOf 3 (some .int) (1, 22) [.ref (gs_a E 9), .int x1] σ g (some (.int r0)) σ g := by
  refine x_enter (lv := [(0, .ref (gs_a E 9)), (1, .int x1)]) (by decide +kernel) (Nat.le_of_ble_eq_true rfl) rfl (fun p e s m args below meth c C hr => ?_)
  unfold f_X3_armOf at h
  refine x_iconst C dX3_armOf_0 (v := 0) (by decide) ?_
  refine x_istore_n C dX3_armOf_1 rfl (lv2 := [(0, .ref (gs_a E 9)), (1, .int x1), (2, .int (0 : Int32))]) (by decide) rfl [1, 2, 0] rfl ?_
  obtain ⟨q1, hq1, h⟩ := Option.bind_eq_some_iff.mp h
  refine wl_X3_armOf_2 C (fun v1_0_2 hz => ?_) (fun  hz => ?_) 1000 _ hq1
  · subst q1
    try dsimp only at h
    refine x_iload_n C dX3_armOf_24 rfl 0 rfl ?_
    replace h := Option.some.inj h
    subst h
    exact x_ret C hr rfl rfl dX3_armOf_25
  · subst q1
    try dsimp only at h
    refine x_iconst C dX3_armOf_32 (v := 0) (by decide) ?_
    replace h := Option.some.inj h
    subst h
    exact x_ret C hr rfl rfl dX3_armOf_33
def b_X7_copyFrom_10 (ar : Nat) (br : Nat) (y : Int32 × gs_H) : Option ((Int32 × gs_H) ⊕ ((gs_H))) :=
if (6 : Int32) ≤ y.1 then (
some (Sum.inr y.2))
else (
if inb y.1 6 then
if inb y.1 6 then
if inb y.1 6 then
if inb y.1 6 then
if inb y.1 6 then
if inb y.1 6 then
if inb y.1 6 then
if inb y.1 6 then
some (Sum.inl ((y.1 + (1 : Int32)), (up2 (up2 (up2 (up2 y.2 (ar + 1) y.1.toNatClampNeg (y.2 (br + 1) y.1.toNatClampNeg)) (ar + 2) y.1.toNatClampNeg ((up2 y.2 (ar + 1) y.1.toNatClampNeg (y.2 (br + 1) y.1.toNatClampNeg)) (br + 2) y.1.toNatClampNeg)) (ar + 3) y.1.toNatClampNeg ((up2 (up2 y.2 (ar + 1) y.1.toNatClampNeg (y.2 (br + 1) y.1.toNatClampNeg)) (ar + 2) y.1.toNatClampNeg ((up2 y.2 (ar + 1) y.1.toNatClampNeg (y.2 (br + 1) y.1.toNatClampNeg)) (br + 2) y.1.toNatClampNeg)) (br + 3) y.1.toNatClampNeg)) (ar + 4) y.1.toNatClampNeg ((up2 (up2 (up2 y.2 (ar + 1) y.1.toNatClampNeg (y.2 (br + 1) y.1.toNatClampNeg)) (ar + 2) y.1.toNatClampNeg ((up2 y.2 (ar + 1) y.1.toNatClampNeg (y.2 (br + 1) y.1.toNatClampNeg)) (br + 2) y.1.toNatClampNeg)) (ar + 3) y.1.toNatClampNeg ((up2 (up2 y.2 (ar + 1) y.1.toNatClampNeg (y.2 (br + 1) y.1.toNatClampNeg)) (ar + 2) y.1.toNatClampNeg ((up2 y.2 (ar + 1) y.1.toNatClampNeg (y.2 (br + 1) y.1.toNatClampNeg)) (br + 2) y.1.toNatClampNeg)) (br + 3) y.1.toNatClampNeg)) (br + 4) y.1.toNatClampNeg)))) else none else none else none else none else none else none else none else none)
def f_X7_copyFrom (ar : Nat) (br : Nat) (σ : gs_H) : Option (gs_H) :=
(lp (b_X7_copyFrom_10 ar br) 1000 ((0 : Int32), (up2 σ ar 0 (σ br 0)))).bind fun q1 =>
some q1
set_option maxHeartbeats 4000000 in
set_option maxRecDepth 20000 in
theorem wl_X7_copyFrom_10_17_30 {E : gs_E} {l : Launch} {p : Program} {e : Env} {s : State} {m : MethodId} {args : Array Value} {below : List Frame} {meth : Method} {c : Code} (C : gs_X E RX7 cX7_copyFrom 3 p s m args meth c) {ov : Option Value} {σ0 : gs_H} {g0 : Int64} {g : Int64} {q : (gs_H)} (hx0 : ∀ (zs : gs_H), q = zs → gs_V E 3 (0, 0) p l e s m args below meth c ov σ0 g0 70 [] [] zs g) : ∀ (n : Nat) (y2 : Int32) (ys : gs_H), lp (b_X7_copyFrom_10 17 30) n (y2, ys) = some q → gs_V E 3 (0, 0) p l e s m args below meth c ov σ0 g0 10 [(0, .ref (gs_a E 17)), (1, .ref (gs_a E 30)), (2, .int y2)] [] ys g := by
  intro n
  induction n with
  | zero => intro y2 ys h; cases h
  | succ n ih =>
    intro y2 ys h
    obtain ⟨r, h, hl, he⟩ := lp_step h
    have hc := fun (y2 : Int32) (ys : gs_H) (hr : r = Sum.inl (y2, ys)) => ih y2 ys (hl _ hr)
    have hk0 := fun (zs : gs_H) (hr : r = Sum.inr zs) => hx0 zs (he _ hr).symm
    unfold b_X7_copyFrom_10 at h
    try dsimp only at h
    refine x_iload_n C dX7_copyFrom_10 rfl 2 rfl ?_
    refine x_bipush C dX7_copyFrom_11 (v := 6) (by decide) ?_
    by_cases hc1 : (6 : Int32) ≤ y2
    · replace h := (if_pos hc1).symm.trans h
      refine x_icmp_geT C dX7_copyFrom_13 (tgt := 70) (by decide) hc1 ?_
      refine x_lv (lv' := []) [] rfl ?_
      obtain rfl := Option.some.inj h
      exact hk0 ys rfl
    · replace h := (if_neg hc1).symm.trans h
      refine x_icmp_geF C dX7_copyFrom_13 (tgt := 70) (by decide) hc1 ?_
      refine x_aload_n C dX7_copyFrom_16 rfl 0 rfl ?_
      refine x_getr C 17 rfl rfl inX7 1 (by decide) rfl kF_X7_9 rfl dX7_copyFrom_17 ?_
      refine x_iload_n C dX7_copyFrom_20 rfl 2 rfl ?_
      refine x_aload_n C dX7_copyFrom_21 rfl 1 rfl ?_
      refine x_getr C 30 rfl rfl inX7 1 (by decide) rfl kF_X7_9 rfl dX7_copyFrom_22 ?_
      refine x_iload_n C dX7_copyFrom_25 rfl 2 rfl ?_
      obtain ⟨hb2, h⟩ := ck_some h
      refine x_iald C 31 rfl hb2 (v := (ys (30 + 1) y2.toNatClampNeg)) rfl dX7_copyFrom_26 ?_
      obtain ⟨hb3, h⟩ := ck_some h
      refine x_iast C 18 rfl hb3 dX7_copyFrom_27 ?_
      refine x_aload_n C dX7_copyFrom_28 rfl 0 rfl ?_
      refine x_getr C 17 rfl rfl inX7 2 (by decide) rfl kF_X7_15 rfl dX7_copyFrom_29 ?_
      refine x_iload_n C dX7_copyFrom_32 rfl 2 rfl ?_
      refine x_aload_n C dX7_copyFrom_33 rfl 1 rfl ?_
      refine x_getr C 30 rfl rfl inX7 2 (by decide) rfl kF_X7_15 rfl dX7_copyFrom_34 ?_
      refine x_iload_n C dX7_copyFrom_37 rfl 2 rfl ?_
      obtain ⟨hb4, h⟩ := ck_some h
      refine x_iald C 32 rfl hb4 (v := ((up2 ys (17 + 1) y2.toNatClampNeg (ys (30 + 1) y2.toNatClampNeg)) (30 + 2) y2.toNatClampNeg)) rfl dX7_copyFrom_38 ?_
      obtain ⟨hb5, h⟩ := ck_some h
      refine x_iast C 19 rfl hb5 dX7_copyFrom_39 ?_
      refine x_aload_n C dX7_copyFrom_40 rfl 0 rfl ?_
      refine x_getr C 17 rfl rfl inX7 3 (by decide) rfl kF_X7_18 rfl dX7_copyFrom_41 ?_
      refine x_iload_n C dX7_copyFrom_44 rfl 2 rfl ?_
      refine x_aload_n C dX7_copyFrom_45 rfl 1 rfl ?_
      refine x_getr C 30 rfl rfl inX7 3 (by decide) rfl kF_X7_18 rfl dX7_copyFrom_46 ?_
      refine x_iload_n C dX7_copyFrom_49 rfl 2 rfl ?_
      obtain ⟨hb6, h⟩ := ck_some h
      refine x_iald C 33 rfl hb6 (v := ((up2 (up2 ys (17 + 1) y2.toNatClampNeg (ys (30 + 1) y2.toNatClampNeg)) (17 + 2) y2.toNatClampNeg ((up2 ys (17 + 1) y2.toNatClampNeg (ys (30 + 1) y2.toNatClampNeg)) (30 + 2) y2.toNatClampNeg)) (30 + 3) y2.toNatClampNeg)) rfl dX7_copyFrom_50 ?_
      obtain ⟨hb7, h⟩ := ck_some h
      refine x_iast C 20 rfl hb7 dX7_copyFrom_51 ?_
      refine x_aload_n C dX7_copyFrom_52 rfl 0 rfl ?_
      refine x_getr C 17 rfl rfl inX7 4 (by decide) rfl kF_X7_21 rfl dX7_copyFrom_53 ?_
      refine x_iload_n C dX7_copyFrom_56 rfl 2 rfl ?_
      refine x_aload_n C dX7_copyFrom_57 rfl 1 rfl ?_
      refine x_getr C 30 rfl rfl inX7 4 (by decide) rfl kF_X7_21 rfl dX7_copyFrom_58 ?_
      refine x_iload_n C dX7_copyFrom_61 rfl 2 rfl ?_
      obtain ⟨hb8, h⟩ := ck_some h
      refine x_iald C 34 rfl hb8 (v := ((up2 (up2 (up2 ys (17 + 1) y2.toNatClampNeg (ys (30 + 1) y2.toNatClampNeg)) (17 + 2) y2.toNatClampNeg ((up2 ys (17 + 1) y2.toNatClampNeg (ys (30 + 1) y2.toNatClampNeg)) (30 + 2) y2.toNatClampNeg)) (17 + 3) y2.toNatClampNeg ((up2 (up2 ys (17 + 1) y2.toNatClampNeg (ys (30 + 1) y2.toNatClampNeg)) (17 + 2) y2.toNatClampNeg ((up2 ys (17 + 1) y2.toNatClampNeg (ys (30 + 1) y2.toNatClampNeg)) (30 + 2) y2.toNatClampNeg)) (30 + 3) y2.toNatClampNeg)) (30 + 4) y2.toNatClampNeg)) rfl dX7_copyFrom_62 ?_
      obtain ⟨hb9, h⟩ := ck_some h
      refine x_iast C 21 rfl hb9 dX7_copyFrom_63 ?_
      refine x_iinc C dX7_copyFrom_64 2 rfl (v := (y2 + (1 : Int32))) rfl (lv2 := [(0, .ref (gs_a E 17)), (1, .ref (gs_a E 30)), (2, .int (y2 + (1 : Int32)))]) (by decide) rfl [1, 2, 0] rfl ?_
      refine x_goto C dX7_copyFrom_67 (tgt := 10) (by decide) ?_
      obtain rfl := Option.some.inj h
      exact hc (y2 + (1 : Int32)) (up2 (up2 (up2 (up2 ys (17 + 1) y2.toNatClampNeg (ys (30 + 1) y2.toNatClampNeg)) (17 + 2) y2.toNatClampNeg ((up2 ys (17 + 1) y2.toNatClampNeg (ys (30 + 1) y2.toNatClampNeg)) (30 + 2) y2.toNatClampNeg)) (17 + 3) y2.toNatClampNeg ((up2 (up2 ys (17 + 1) y2.toNatClampNeg (ys (30 + 1) y2.toNatClampNeg)) (17 + 2) y2.toNatClampNeg ((up2 ys (17 + 1) y2.toNatClampNeg (ys (30 + 1) y2.toNatClampNeg)) (30 + 2) y2.toNatClampNeg)) (30 + 3) y2.toNatClampNeg)) (17 + 4) y2.toNatClampNeg ((up2 (up2 (up2 ys (17 + 1) y2.toNatClampNeg (ys (30 + 1) y2.toNatClampNeg)) (17 + 2) y2.toNatClampNeg ((up2 ys (17 + 1) y2.toNatClampNeg (ys (30 + 1) y2.toNatClampNeg)) (30 + 2) y2.toNatClampNeg)) (17 + 3) y2.toNatClampNeg ((up2 (up2 ys (17 + 1) y2.toNatClampNeg (ys (30 + 1) y2.toNatClampNeg)) (17 + 2) y2.toNatClampNeg ((up2 ys (17 + 1) y2.toNatClampNeg (ys (30 + 1) y2.toNatClampNeg)) (30 + 2) y2.toNatClampNeg)) (30 + 3) y2.toNatClampNeg)) (30 + 4) y2.toNatClampNeg)) rfl
set_option maxHeartbeats 4000000 in
set_option maxRecDepth 20000 in
theorem m_X7_copyFrom_17_30 {E : gs_E} {l : Launch} {σ : gs_H} {g : Int64} {σ0 : gs_H} (h : f_X7_copyFrom 17 30 σ = some σ0) : gs_M l E yX7_copyFrom cX7_copyFrom 3 (none) (0, 0) [.ref (gs_a E 17), .ref (gs_a E 30)] σ g (none) σ0 g := by
  refine x_enter (lv := [(0, .ref (gs_a E 17)), (1, .ref (gs_a E 30))]) (by decide +kernel) (Nat.le_of_ble_eq_true rfl) rfl (fun p e s m args below meth c C hr => ?_)
  unfold f_X7_copyFrom at h
  refine x_aload_n C dX7_copyFrom_0 rfl 0 rfl ?_
  refine x_aload_n C dX7_copyFrom_1 rfl 1 rfl ?_
  refine x_geti C 30 rfl rfl inX7 0 (by decide) rfl kF_X7_24 rfl (v := (σ 30 0)) rfl dX7_copyFrom_2 ?_
  refine x_puti C 17 rfl rfl inX7 tyX7 tyX7_ok nmX7 0 (by decide) rfl kF_X7_24 rfl rfl rfl rfl dX7_copyFrom_5 ?_
  refine x_iconst C dX7_copyFrom_8 (v := 0) (by decide) ?_
  refine x_istore_n C dX7_copyFrom_9 rfl (lv2 := [(0, .ref (gs_a E 17)), (1, .ref (gs_a E 30)), (2, .int (0 : Int32))]) (by decide) rfl [1, 2, 0] rfl ?_
  obtain ⟨q1, hq1, h⟩ := Option.bind_eq_some_iff.mp h
  refine wl_X7_copyFrom_10_17_30 C (fun s1_0 hz => ?_) 1000 _ _ hq1
  subst q1
  try dsimp only at h
  replace h := Option.some.inj h
  subst h
  exact x_retv C hr rfl dX7_copyFrom_70
set_option maxHeartbeats 4000000 in
set_option maxRecDepth 20000 in
theorem wl_X7_copyFrom_10_30_17 {E : gs_E} {l : Launch} {p : Program} {e : Env} {s : State} {m : MethodId} {args : Array Value} {below : List Frame} {meth : Method} {c : Code} (C : gs_X E RX7 cX7_copyFrom 3 p s m args meth c) {ov : Option Value} {σ0 : gs_H} {g0 : Int64} {g : Int64} {q : (gs_H)} (hx0 : ∀ (zs : gs_H), q = zs → gs_V E 3 (0, 0) p l e s m args below meth c ov σ0 g0 70 [] [] zs g) : ∀ (n : Nat) (y2 : Int32) (ys : gs_H), lp (b_X7_copyFrom_10 30 17) n (y2, ys) = some q → gs_V E 3 (0, 0) p l e s m args below meth c ov σ0 g0 10 [(0, .ref (gs_a E 30)), (1, .ref (gs_a E 17)), (2, .int y2)] [] ys g := by
  intro n
  induction n with
  | zero => intro y2 ys h; cases h
  | succ n ih =>
    intro y2 ys h
    obtain ⟨r, h, hl, he⟩ := lp_step h
    have hc := fun (y2 : Int32) (ys : gs_H) (hr : r = Sum.inl (y2, ys)) => ih y2 ys (hl _ hr)
    have hk0 := fun (zs : gs_H) (hr : r = Sum.inr zs) => hx0 zs (he _ hr).symm
    unfold b_X7_copyFrom_10 at h
    try dsimp only at h
    refine x_iload_n C dX7_copyFrom_10 rfl 2 rfl ?_
    refine x_bipush C dX7_copyFrom_11 (v := 6) (by decide) ?_
    by_cases hc1 : (6 : Int32) ≤ y2
    · replace h := (if_pos hc1).symm.trans h
      refine x_icmp_geT C dX7_copyFrom_13 (tgt := 70) (by decide) hc1 ?_
      refine x_lv (lv' := []) [] rfl ?_
      obtain rfl := Option.some.inj h
      exact hk0 ys rfl
    · replace h := (if_neg hc1).symm.trans h
      refine x_icmp_geF C dX7_copyFrom_13 (tgt := 70) (by decide) hc1 ?_
      refine x_aload_n C dX7_copyFrom_16 rfl 0 rfl ?_
      refine x_getr C 30 rfl rfl inX7 1 (by decide) rfl kF_X7_9 rfl dX7_copyFrom_17 ?_
      refine x_iload_n C dX7_copyFrom_20 rfl 2 rfl ?_
      refine x_aload_n C dX7_copyFrom_21 rfl 1 rfl ?_
      refine x_getr C 17 rfl rfl inX7 1 (by decide) rfl kF_X7_9 rfl dX7_copyFrom_22 ?_
      refine x_iload_n C dX7_copyFrom_25 rfl 2 rfl ?_
      obtain ⟨hb2, h⟩ := ck_some h
      refine x_iald C 18 rfl hb2 (v := (ys (17 + 1) y2.toNatClampNeg)) rfl dX7_copyFrom_26 ?_
      obtain ⟨hb3, h⟩ := ck_some h
      refine x_iast C 31 rfl hb3 dX7_copyFrom_27 ?_
      refine x_aload_n C dX7_copyFrom_28 rfl 0 rfl ?_
      refine x_getr C 30 rfl rfl inX7 2 (by decide) rfl kF_X7_15 rfl dX7_copyFrom_29 ?_
      refine x_iload_n C dX7_copyFrom_32 rfl 2 rfl ?_
      refine x_aload_n C dX7_copyFrom_33 rfl 1 rfl ?_
      refine x_getr C 17 rfl rfl inX7 2 (by decide) rfl kF_X7_15 rfl dX7_copyFrom_34 ?_
      refine x_iload_n C dX7_copyFrom_37 rfl 2 rfl ?_
      obtain ⟨hb4, h⟩ := ck_some h
      refine x_iald C 19 rfl hb4 (v := ((up2 ys (30 + 1) y2.toNatClampNeg (ys (17 + 1) y2.toNatClampNeg)) (17 + 2) y2.toNatClampNeg)) rfl dX7_copyFrom_38 ?_
      obtain ⟨hb5, h⟩ := ck_some h
      refine x_iast C 32 rfl hb5 dX7_copyFrom_39 ?_
      refine x_aload_n C dX7_copyFrom_40 rfl 0 rfl ?_
      refine x_getr C 30 rfl rfl inX7 3 (by decide) rfl kF_X7_18 rfl dX7_copyFrom_41 ?_
      refine x_iload_n C dX7_copyFrom_44 rfl 2 rfl ?_
      refine x_aload_n C dX7_copyFrom_45 rfl 1 rfl ?_
      refine x_getr C 17 rfl rfl inX7 3 (by decide) rfl kF_X7_18 rfl dX7_copyFrom_46 ?_
      refine x_iload_n C dX7_copyFrom_49 rfl 2 rfl ?_
      obtain ⟨hb6, h⟩ := ck_some h
      refine x_iald C 20 rfl hb6 (v := ((up2 (up2 ys (30 + 1) y2.toNatClampNeg (ys (17 + 1) y2.toNatClampNeg)) (30 + 2) y2.toNatClampNeg ((up2 ys (30 + 1) y2.toNatClampNeg (ys (17 + 1) y2.toNatClampNeg)) (17 + 2) y2.toNatClampNeg)) (17 + 3) y2.toNatClampNeg)) rfl dX7_copyFrom_50 ?_
      obtain ⟨hb7, h⟩ := ck_some h
      refine x_iast C 33 rfl hb7 dX7_copyFrom_51 ?_
      refine x_aload_n C dX7_copyFrom_52 rfl 0 rfl ?_
      refine x_getr C 30 rfl rfl inX7 4 (by decide) rfl kF_X7_21 rfl dX7_copyFrom_53 ?_
      refine x_iload_n C dX7_copyFrom_56 rfl 2 rfl ?_
      refine x_aload_n C dX7_copyFrom_57 rfl 1 rfl ?_
      refine x_getr C 17 rfl rfl inX7 4 (by decide) rfl kF_X7_21 rfl dX7_copyFrom_58 ?_
      refine x_iload_n C dX7_copyFrom_61 rfl 2 rfl ?_
      obtain ⟨hb8, h⟩ := ck_some h
      refine x_iald C 21 rfl hb8 (v := ((up2 (up2 (up2 ys (30 + 1) y2.toNatClampNeg (ys (17 + 1) y2.toNatClampNeg)) (30 + 2) y2.toNatClampNeg ((up2 ys (30 + 1) y2.toNatClampNeg (ys (17 + 1) y2.toNatClampNeg)) (17 + 2) y2.toNatClampNeg)) (30 + 3) y2.toNatClampNeg ((up2 (up2 ys (30 + 1) y2.toNatClampNeg (ys (17 + 1) y2.toNatClampNeg)) (30 + 2) y2.toNatClampNeg ((up2 ys (30 + 1) y2.toNatClampNeg (ys (17 + 1) y2.toNatClampNeg)) (17 + 2) y2.toNatClampNeg)) (17 + 3) y2.toNatClampNeg)) (17 + 4) y2.toNatClampNeg)) rfl dX7_copyFrom_62 ?_
      obtain ⟨hb9, h⟩ := ck_some h
      refine x_iast C 34 rfl hb9 dX7_copyFrom_63 ?_
      refine x_iinc C dX7_copyFrom_64 2 rfl (v := (y2 + (1 : Int32))) rfl (lv2 := [(0, .ref (gs_a E 30)), (1, .ref (gs_a E 17)), (2, .int (y2 + (1 : Int32)))]) (by decide) rfl [1, 2, 0] rfl ?_
      refine x_goto C dX7_copyFrom_67 (tgt := 10) (by decide) ?_
      obtain rfl := Option.some.inj h
      exact hc (y2 + (1 : Int32)) (up2 (up2 (up2 (up2 ys (30 + 1) y2.toNatClampNeg (ys (17 + 1) y2.toNatClampNeg)) (30 + 2) y2.toNatClampNeg ((up2 ys (30 + 1) y2.toNatClampNeg (ys (17 + 1) y2.toNatClampNeg)) (17 + 2) y2.toNatClampNeg)) (30 + 3) y2.toNatClampNeg ((up2 (up2 ys (30 + 1) y2.toNatClampNeg (ys (17 + 1) y2.toNatClampNeg)) (30 + 2) y2.toNatClampNeg ((up2 ys (30 + 1) y2.toNatClampNeg (ys (17 + 1) y2.toNatClampNeg)) (17 + 2) y2.toNatClampNeg)) (17 + 3) y2.toNatClampNeg)) (30 + 4) y2.toNatClampNeg ((up2 (up2 (up2 ys (30 + 1) y2.toNatClampNeg (ys (17 + 1) y2.toNatClampNeg)) (30 + 2) y2.toNatClampNeg ((up2 ys (30 + 1) y2.toNatClampNeg (ys (17 + 1) y2.toNatClampNeg)) (17 + 2) y2.toNatClampNeg)) (30 + 3) y2.toNatClampNeg ((up2 (up2 ys (30 + 1) y2.toNatClampNeg (ys (17 + 1) y2.toNatClampNeg)) (30 + 2) y2.toNatClampNeg ((up2 ys (30 + 1) y2.toNatClampNeg (ys (17 + 1) y2.toNatClampNeg)) (17 + 2) y2.toNatClampNeg)) (17 + 3) y2.toNatClampNeg)) (17 + 4) y2.toNatClampNeg)) rfl
set_option maxHeartbeats 4000000 in
set_option maxRecDepth 20000 in
theorem m_X7_copyFrom_30_17 {E : gs_E} {l : Launch} {σ : gs_H} {g : Int64} {σ0 : gs_H} (h : f_X7_copyFrom 30 17 σ = some σ0) : gs_M l E yX7_copyFrom cX7_copyFrom 3 (none) (0, 0) [.ref (gs_a E 30), .ref (gs_a E 17)] σ g (none) σ0 g := by
  refine x_enter (lv := [(0, .ref (gs_a E 30)), (1, .ref (gs_a E 17))]) (by decide +kernel) (Nat.le_of_ble_eq_true rfl) rfl (fun p e s m args below meth c C hr => ?_)
  unfold f_X7_copyFrom at h
  refine x_aload_n C dX7_copyFrom_0 rfl 0 rfl ?_
  refine x_aload_n C dX7_copyFrom_1 rfl 1 rfl ?_
  refine x_geti C 17 rfl rfl inX7 0 (by decide) rfl kF_X7_24 rfl (v := (σ 17 0)) rfl dX7_copyFrom_2 ?_
  refine x_puti C 30 rfl rfl inX7 tyX7 tyX7_ok nmX7 0 (by decide) rfl kF_X7_24 rfl rfl rfl rfl dX7_copyFrom_5 ?_
  refine x_iconst C dX7_copyFrom_8 (v := 0) (by decide) ?_
  refine x_istore_n C dX7_copyFrom_9 rfl (lv2 := [(0, .ref (gs_a E 30)), (1, .ref (gs_a E 17)), (2, .int (0 : Int32))]) (by decide) rfl [1, 2, 0] rfl ?_
  obtain ⟨q1, hq1, h⟩ := Option.bind_eq_some_iff.mp h
  refine wl_X7_copyFrom_10_30_17 C (fun s1_0 hz => ?_) 1000 _ _ hq1
  subst q1
  try dsimp only at h
  replace h := Option.some.inj h
  subst h
  exact x_retv C hr rfl dX7_copyFrom_70
def b_X3_copyFrom_126 (ar : Nat) (br : Nat) (y : Int32 × gs_H) : Option ((Int32 × gs_H) ⊕ ((gs_H))) :=
if (5 : Int32) ≤ y.1 then (
some (Sum.inr y.2))
else (
if inb y.1 5 then
if inb y.1 5 then
if (y.2 (br + 7) y.1.toNatClampNeg) = 0 ∨ (y.2 (br + 7) y.1.toNatClampNeg) = 1 then
some (Sum.inl ((y.1 + (1 : Int32)), (up2 y.2 (ar + 7) y.1.toNatClampNeg (y.2 (br + 7) y.1.toNatClampNeg)))) else none else none else none)
def b_X3_copyFrom_64 (ar : Nat) (br : Nat) (y : Int32 × gs_H) : Option ((Int32 × gs_H) ⊕ ((gs_H))) :=
if (6 : Int32) ≤ y.1 then (
some (Sum.inr y.2))
else (
if inb y.1 6 then
if inb y.1 6 then
if inb y.1 6 then
if inb y.1 6 then
if inb y.1 6 then
if inb y.1 6 then
if inb y.1 6 then
if inb y.1 6 then
if ((up2 (up2 (up2 y.2 (ar + 3) y.1.toNatClampNeg (y.2 (br + 3) y.1.toNatClampNeg)) (ar + 4) y.1.toNatClampNeg ((up2 y.2 (ar + 3) y.1.toNatClampNeg (y.2 (br + 3) y.1.toNatClampNeg)) (br + 4) y.1.toNatClampNeg)) (ar + 5) y.1.toNatClampNeg ((up2 (up2 y.2 (ar + 3) y.1.toNatClampNeg (y.2 (br + 3) y.1.toNatClampNeg)) (ar + 4) y.1.toNatClampNeg ((up2 y.2 (ar + 3) y.1.toNatClampNeg (y.2 (br + 3) y.1.toNatClampNeg)) (br + 4) y.1.toNatClampNeg)) (br + 5) y.1.toNatClampNeg)) (br + 6) y.1.toNatClampNeg) = 0 ∨ ((up2 (up2 (up2 y.2 (ar + 3) y.1.toNatClampNeg (y.2 (br + 3) y.1.toNatClampNeg)) (ar + 4) y.1.toNatClampNeg ((up2 y.2 (ar + 3) y.1.toNatClampNeg (y.2 (br + 3) y.1.toNatClampNeg)) (br + 4) y.1.toNatClampNeg)) (ar + 5) y.1.toNatClampNeg ((up2 (up2 y.2 (ar + 3) y.1.toNatClampNeg (y.2 (br + 3) y.1.toNatClampNeg)) (ar + 4) y.1.toNatClampNeg ((up2 y.2 (ar + 3) y.1.toNatClampNeg (y.2 (br + 3) y.1.toNatClampNeg)) (br + 4) y.1.toNatClampNeg)) (br + 5) y.1.toNatClampNeg)) (br + 6) y.1.toNatClampNeg) = 1 then
some (Sum.inl ((y.1 + (1 : Int32)), (up2 (up2 (up2 (up2 y.2 (ar + 3) y.1.toNatClampNeg (y.2 (br + 3) y.1.toNatClampNeg)) (ar + 4) y.1.toNatClampNeg ((up2 y.2 (ar + 3) y.1.toNatClampNeg (y.2 (br + 3) y.1.toNatClampNeg)) (br + 4) y.1.toNatClampNeg)) (ar + 5) y.1.toNatClampNeg ((up2 (up2 y.2 (ar + 3) y.1.toNatClampNeg (y.2 (br + 3) y.1.toNatClampNeg)) (ar + 4) y.1.toNatClampNeg ((up2 y.2 (ar + 3) y.1.toNatClampNeg (y.2 (br + 3) y.1.toNatClampNeg)) (br + 4) y.1.toNatClampNeg)) (br + 5) y.1.toNatClampNeg)) (ar + 6) y.1.toNatClampNeg ((up2 (up2 (up2 y.2 (ar + 3) y.1.toNatClampNeg (y.2 (br + 3) y.1.toNatClampNeg)) (ar + 4) y.1.toNatClampNeg ((up2 y.2 (ar + 3) y.1.toNatClampNeg (y.2 (br + 3) y.1.toNatClampNeg)) (br + 4) y.1.toNatClampNeg)) (ar + 5) y.1.toNatClampNeg ((up2 (up2 y.2 (ar + 3) y.1.toNatClampNeg (y.2 (br + 3) y.1.toNatClampNeg)) (ar + 4) y.1.toNatClampNeg ((up2 y.2 (ar + 3) y.1.toNatClampNeg (y.2 (br + 3) y.1.toNatClampNeg)) (br + 4) y.1.toNatClampNeg)) (br + 5) y.1.toNatClampNeg)) (br + 6) y.1.toNatClampNeg)))) else none else none else none else none else none else none else none else none else none)
def b_X3_copyFrom_26 (ar : Nat) (br : Nat) (y : Int32 × gs_H) : Option ((Int32 × gs_H) ⊕ ((gs_H))) :=
if (10 : Int32) ≤ y.1 then (
some (Sum.inr y.2))
else (
if inb y.1 10 then
if inb y.1 10 then
if inb y.1 10 then
if inb y.1 10 then
some (Sum.inl ((y.1 + (1 : Int32)), (up2 (up2 y.2 (ar + 1) y.1.toNatClampNeg (y.2 (br + 1) y.1.toNatClampNeg)) (ar + 2) y.1.toNatClampNeg ((up2 y.2 (ar + 1) y.1.toNatClampNeg (y.2 (br + 1) y.1.toNatClampNeg)) (br + 2) y.1.toNatClampNeg)))) else none else none else none else none)
def f_X3_copyFrom (ar : Nat) (br : Nat) (σ : gs_H) : Option (gs_H) :=
(lp (b_X3_copyFrom_26 ar br) 1000 ((0 : Int32), (up2 (up2 (up2 σ ar 0 (σ br 0)) ar 1 ((up2 σ ar 0 (σ br 0)) br 1)) ar 2 ((up2 (up2 σ ar 0 (σ br 0)) ar 1 ((up2 σ ar 0 (σ br 0)) br 1)) br 2)))).bind fun q1 =>
(lp (b_X3_copyFrom_64 ar br) 1000 ((0 : Int32), q1)).bind fun q2 =>
(lp (b_X3_copyFrom_126 ar br) 1000 ((0 : Int32), q2)).bind fun q3 =>
(f_X7_copyFrom (ar + 8) (br + 8) q3).bind fun q4 =>
some q4
set_option maxHeartbeats 4000000 in
set_option maxRecDepth 20000 in
theorem wl_X3_copyFrom_126_9_22 {E : gs_E} {l : Launch} {p : Program} {e : Env} {s : State} {m : MethodId} {args : Array Value} {below : List Frame} {meth : Method} {c : Code} (C : gs_X E RX3 cX3_copyFrom 3 p s m args meth c) {ov : Option Value} {σ0 : gs_H} {g0 : Int64} {g : Int64} {q : (gs_H)} (hx0 : ∀ (zs : gs_H), q = zs → gs_V E 3 (1, 22) p l e s m args below meth c ov σ0 g0 149 [(0, .ref (gs_a E 9)), (1, .ref (gs_a E 22))] [] zs g) : ∀ (n : Nat) (y2 : Int32) (ys : gs_H), lp (b_X3_copyFrom_126 9 22) n (y2, ys) = some q → gs_V E 3 (1, 22) p l e s m args below meth c ov σ0 g0 126 [(0, .ref (gs_a E 9)), (1, .ref (gs_a E 22)), (2, .int y2)] [] ys g := by
  intro n
  induction n with
  | zero => intro y2 ys h; cases h
  | succ n ih =>
    intro y2 ys h
    obtain ⟨r, h, hl, he⟩ := lp_step h
    have hc := fun (y2 : Int32) (ys : gs_H) (hr : r = Sum.inl (y2, ys)) => ih y2 ys (hl _ hr)
    have hk0 := fun (zs : gs_H) (hr : r = Sum.inr zs) => hx0 zs (he _ hr).symm
    unfold b_X3_copyFrom_126 at h
    try dsimp only at h
    refine x_iload_n C dX3_copyFrom_126 rfl 2 rfl ?_
    refine x_iconst C dX3_copyFrom_127 (v := 5) (by decide) ?_
    by_cases hc1 : (5 : Int32) ≤ y2
    · replace h := (if_pos hc1).symm.trans h
      refine x_icmp_geT C dX3_copyFrom_128 (tgt := 149) (by decide) hc1 ?_
      refine x_lv (lv' := [(0, .ref (gs_a E 9)), (1, .ref (gs_a E 22))]) [0, 1] rfl ?_
      obtain rfl := Option.some.inj h
      exact hk0 ys rfl
    · replace h := (if_neg hc1).symm.trans h
      refine x_icmp_geF C dX3_copyFrom_128 (tgt := 149) (by decide) hc1 ?_
      refine x_aload_n C dX3_copyFrom_131 rfl 0 rfl ?_
      refine x_getr C 9 rfl rfl inX3 9 (by decide) rfl kF_X3_31 rfl dX3_copyFrom_132 ?_
      refine x_iload_n C dX3_copyFrom_135 rfl 2 rfl ?_
      refine x_aload_n C dX3_copyFrom_136 rfl 1 rfl ?_
      refine x_getr C 22 rfl rfl inX3 9 (by decide) rfl kF_X3_31 rfl dX3_copyFrom_137 ?_
      refine x_iload_n C dX3_copyFrom_140 rfl 2 rfl ?_
      obtain ⟨hb2, h⟩ := ck_some h
      refine x_zald C 29 rfl hb2 (v := (ys (22 + 7) y2.toNatClampNeg)) rfl dX3_copyFrom_141 ?_
      obtain ⟨hb3, h⟩ := ck_some h
      obtain ⟨hz3, h⟩ := ck_some h
      refine x_zast C 16 rfl hb3 hz3 dX3_copyFrom_142 ?_
      refine x_iinc C dX3_copyFrom_143 2 rfl (v := (y2 + (1 : Int32))) rfl (lv2 := [(0, .ref (gs_a E 9)), (1, .ref (gs_a E 22)), (2, .int (y2 + (1 : Int32)))]) (by decide) rfl [1, 2, 0] rfl ?_
      refine x_goto C dX3_copyFrom_146 (tgt := 126) (by decide) ?_
      obtain rfl := Option.some.inj h
      exact hc (y2 + (1 : Int32)) (up2 ys (9 + 7) y2.toNatClampNeg (ys (22 + 7) y2.toNatClampNeg)) rfl
set_option maxHeartbeats 4000000 in
set_option maxRecDepth 20000 in
theorem wl_X3_copyFrom_64_9_22 {E : gs_E} {l : Launch} {p : Program} {e : Env} {s : State} {m : MethodId} {args : Array Value} {below : List Frame} {meth : Method} {c : Code} (C : gs_X E RX3 cX3_copyFrom 3 p s m args meth c) {ov : Option Value} {σ0 : gs_H} {g0 : Int64} {g : Int64} {q : (gs_H)} (hx0 : ∀ (zs : gs_H), q = zs → gs_V E 3 (1, 22) p l e s m args below meth c ov σ0 g0 124 [(0, .ref (gs_a E 9)), (1, .ref (gs_a E 22))] [] zs g) : ∀ (n : Nat) (y2 : Int32) (ys : gs_H), lp (b_X3_copyFrom_64 9 22) n (y2, ys) = some q → gs_V E 3 (1, 22) p l e s m args below meth c ov σ0 g0 64 [(0, .ref (gs_a E 9)), (1, .ref (gs_a E 22)), (2, .int y2)] [] ys g := by
  intro n
  induction n with
  | zero => intro y2 ys h; cases h
  | succ n ih =>
    intro y2 ys h
    obtain ⟨r, h, hl, he⟩ := lp_step h
    have hc := fun (y2 : Int32) (ys : gs_H) (hr : r = Sum.inl (y2, ys)) => ih y2 ys (hl _ hr)
    have hk0 := fun (zs : gs_H) (hr : r = Sum.inr zs) => hx0 zs (he _ hr).symm
    unfold b_X3_copyFrom_64 at h
    try dsimp only at h
    refine x_iload_n C dX3_copyFrom_64 rfl 2 rfl ?_
    refine x_bipush C dX3_copyFrom_65 (v := 6) (by decide) ?_
    by_cases hc1 : (6 : Int32) ≤ y2
    · replace h := (if_pos hc1).symm.trans h
      refine x_icmp_geT C dX3_copyFrom_67 (tgt := 124) (by decide) hc1 ?_
      refine x_lv (lv' := [(0, .ref (gs_a E 9)), (1, .ref (gs_a E 22))]) [0, 1] rfl ?_
      obtain rfl := Option.some.inj h
      exact hk0 ys rfl
    · replace h := (if_neg hc1).symm.trans h
      refine x_icmp_geF C dX3_copyFrom_67 (tgt := 124) (by decide) hc1 ?_
      refine x_aload_n C dX3_copyFrom_70 rfl 0 rfl ?_
      refine x_getr C 9 rfl rfl inX3 5 (by decide) rfl kF_X3_18 rfl dX3_copyFrom_71 ?_
      refine x_iload_n C dX3_copyFrom_74 rfl 2 rfl ?_
      refine x_aload_n C dX3_copyFrom_75 rfl 1 rfl ?_
      refine x_getr C 22 rfl rfl inX3 5 (by decide) rfl kF_X3_18 rfl dX3_copyFrom_76 ?_
      refine x_iload_n C dX3_copyFrom_79 rfl 2 rfl ?_
      obtain ⟨hb2, h⟩ := ck_some h
      refine x_iald C 25 rfl hb2 (v := (ys (22 + 3) y2.toNatClampNeg)) rfl dX3_copyFrom_80 ?_
      obtain ⟨hb3, h⟩ := ck_some h
      refine x_iast C 12 rfl hb3 dX3_copyFrom_81 ?_
      refine x_aload_n C dX3_copyFrom_82 rfl 0 rfl ?_
      refine x_getr C 9 rfl rfl inX3 6 (by decide) rfl kF_X3_21 rfl dX3_copyFrom_83 ?_
      refine x_iload_n C dX3_copyFrom_86 rfl 2 rfl ?_
      refine x_aload_n C dX3_copyFrom_87 rfl 1 rfl ?_
      refine x_getr C 22 rfl rfl inX3 6 (by decide) rfl kF_X3_21 rfl dX3_copyFrom_88 ?_
      refine x_iload_n C dX3_copyFrom_91 rfl 2 rfl ?_
      obtain ⟨hb4, h⟩ := ck_some h
      refine x_iald C 26 rfl hb4 (v := ((up2 ys (9 + 3) y2.toNatClampNeg (ys (22 + 3) y2.toNatClampNeg)) (22 + 4) y2.toNatClampNeg)) rfl dX3_copyFrom_92 ?_
      obtain ⟨hb5, h⟩ := ck_some h
      refine x_iast C 13 rfl hb5 dX3_copyFrom_93 ?_
      refine x_aload_n C dX3_copyFrom_94 rfl 0 rfl ?_
      refine x_getr C 9 rfl rfl inX3 7 (by decide) rfl kF_X3_24 rfl dX3_copyFrom_95 ?_
      refine x_iload_n C dX3_copyFrom_98 rfl 2 rfl ?_
      refine x_aload_n C dX3_copyFrom_99 rfl 1 rfl ?_
      refine x_getr C 22 rfl rfl inX3 7 (by decide) rfl kF_X3_24 rfl dX3_copyFrom_100 ?_
      refine x_iload_n C dX3_copyFrom_103 rfl 2 rfl ?_
      obtain ⟨hb6, h⟩ := ck_some h
      refine x_iald C 27 rfl hb6 (v := ((up2 (up2 ys (9 + 3) y2.toNatClampNeg (ys (22 + 3) y2.toNatClampNeg)) (9 + 4) y2.toNatClampNeg ((up2 ys (9 + 3) y2.toNatClampNeg (ys (22 + 3) y2.toNatClampNeg)) (22 + 4) y2.toNatClampNeg)) (22 + 5) y2.toNatClampNeg)) rfl dX3_copyFrom_104 ?_
      obtain ⟨hb7, h⟩ := ck_some h
      refine x_iast C 14 rfl hb7 dX3_copyFrom_105 ?_
      refine x_aload_n C dX3_copyFrom_106 rfl 0 rfl ?_
      refine x_getr C 9 rfl rfl inX3 8 (by decide) rfl kF_X3_27 rfl dX3_copyFrom_107 ?_
      refine x_iload_n C dX3_copyFrom_110 rfl 2 rfl ?_
      refine x_aload_n C dX3_copyFrom_111 rfl 1 rfl ?_
      refine x_getr C 22 rfl rfl inX3 8 (by decide) rfl kF_X3_27 rfl dX3_copyFrom_112 ?_
      refine x_iload_n C dX3_copyFrom_115 rfl 2 rfl ?_
      obtain ⟨hb8, h⟩ := ck_some h
      refine x_zald C 28 rfl hb8 (v := ((up2 (up2 (up2 ys (9 + 3) y2.toNatClampNeg (ys (22 + 3) y2.toNatClampNeg)) (9 + 4) y2.toNatClampNeg ((up2 ys (9 + 3) y2.toNatClampNeg (ys (22 + 3) y2.toNatClampNeg)) (22 + 4) y2.toNatClampNeg)) (9 + 5) y2.toNatClampNeg ((up2 (up2 ys (9 + 3) y2.toNatClampNeg (ys (22 + 3) y2.toNatClampNeg)) (9 + 4) y2.toNatClampNeg ((up2 ys (9 + 3) y2.toNatClampNeg (ys (22 + 3) y2.toNatClampNeg)) (22 + 4) y2.toNatClampNeg)) (22 + 5) y2.toNatClampNeg)) (22 + 6) y2.toNatClampNeg)) rfl dX3_copyFrom_116 ?_
      obtain ⟨hb9, h⟩ := ck_some h
      obtain ⟨hz9, h⟩ := ck_some h
      refine x_zast C 15 rfl hb9 hz9 dX3_copyFrom_117 ?_
      refine x_iinc C dX3_copyFrom_118 2 rfl (v := (y2 + (1 : Int32))) rfl (lv2 := [(0, .ref (gs_a E 9)), (1, .ref (gs_a E 22)), (2, .int (y2 + (1 : Int32)))]) (by decide) rfl [1, 2, 0] rfl ?_
      refine x_goto C dX3_copyFrom_121 (tgt := 64) (by decide) ?_
      obtain rfl := Option.some.inj h
      exact hc (y2 + (1 : Int32)) (up2 (up2 (up2 (up2 ys (9 + 3) y2.toNatClampNeg (ys (22 + 3) y2.toNatClampNeg)) (9 + 4) y2.toNatClampNeg ((up2 ys (9 + 3) y2.toNatClampNeg (ys (22 + 3) y2.toNatClampNeg)) (22 + 4) y2.toNatClampNeg)) (9 + 5) y2.toNatClampNeg ((up2 (up2 ys (9 + 3) y2.toNatClampNeg (ys (22 + 3) y2.toNatClampNeg)) (9 + 4) y2.toNatClampNeg ((up2 ys (9 + 3) y2.toNatClampNeg (ys (22 + 3) y2.toNatClampNeg)) (22 + 4) y2.toNatClampNeg)) (22 + 5) y2.toNatClampNeg)) (9 + 6) y2.toNatClampNeg ((up2 (up2 (up2 ys (9 + 3) y2.toNatClampNeg (ys (22 + 3) y2.toNatClampNeg)) (9 + 4) y2.toNatClampNeg ((up2 ys (9 + 3) y2.toNatClampNeg (ys (22 + 3) y2.toNatClampNeg)) (22 + 4) y2.toNatClampNeg)) (9 + 5) y2.toNatClampNeg ((up2 (up2 ys (9 + 3) y2.toNatClampNeg (ys (22 + 3) y2.toNatClampNeg)) (9 + 4) y2.toNatClampNeg ((up2 ys (9 + 3) y2.toNatClampNeg (ys (22 + 3) y2.toNatClampNeg)) (22 + 4) y2.toNatClampNeg)) (22 + 5) y2.toNatClampNeg)) (22 + 6) y2.toNatClampNeg)) rfl
set_option maxHeartbeats 4000000 in
set_option maxRecDepth 20000 in
theorem wl_X3_copyFrom_26_9_22 {E : gs_E} {l : Launch} {p : Program} {e : Env} {s : State} {m : MethodId} {args : Array Value} {below : List Frame} {meth : Method} {c : Code} (C : gs_X E RX3 cX3_copyFrom 3 p s m args meth c) {ov : Option Value} {σ0 : gs_H} {g0 : Int64} {g : Int64} {q : (gs_H)} (hx0 : ∀ (zs : gs_H), q = zs → gs_V E 3 (1, 22) p l e s m args below meth c ov σ0 g0 62 [(0, .ref (gs_a E 9)), (1, .ref (gs_a E 22))] [] zs g) : ∀ (n : Nat) (y2 : Int32) (ys : gs_H), lp (b_X3_copyFrom_26 9 22) n (y2, ys) = some q → gs_V E 3 (1, 22) p l e s m args below meth c ov σ0 g0 26 [(0, .ref (gs_a E 9)), (1, .ref (gs_a E 22)), (2, .int y2)] [] ys g := by
  intro n
  induction n with
  | zero => intro y2 ys h; cases h
  | succ n ih =>
    intro y2 ys h
    obtain ⟨r, h, hl, he⟩ := lp_step h
    have hc := fun (y2 : Int32) (ys : gs_H) (hr : r = Sum.inl (y2, ys)) => ih y2 ys (hl _ hr)
    have hk0 := fun (zs : gs_H) (hr : r = Sum.inr zs) => hx0 zs (he _ hr).symm
    unfold b_X3_copyFrom_26 at h
    try dsimp only at h
    refine x_iload_n C dX3_copyFrom_26 rfl 2 rfl ?_
    refine x_bipush C dX3_copyFrom_27 (v := 10) (by decide) ?_
    by_cases hc1 : (10 : Int32) ≤ y2
    · replace h := (if_pos hc1).symm.trans h
      refine x_icmp_geT C dX3_copyFrom_29 (tgt := 62) (by decide) hc1 ?_
      refine x_lv (lv' := [(0, .ref (gs_a E 9)), (1, .ref (gs_a E 22))]) [0, 1] rfl ?_
      obtain rfl := Option.some.inj h
      exact hk0 ys rfl
    · replace h := (if_neg hc1).symm.trans h
      refine x_icmp_geF C dX3_copyFrom_29 (tgt := 62) (by decide) hc1 ?_
      refine x_aload_n C dX3_copyFrom_32 rfl 0 rfl ?_
      refine x_getr C 9 rfl rfl inX3 3 (by decide) rfl kF_X3_9 rfl dX3_copyFrom_33 ?_
      refine x_iload_n C dX3_copyFrom_36 rfl 2 rfl ?_
      refine x_aload_n C dX3_copyFrom_37 rfl 1 rfl ?_
      refine x_getr C 22 rfl rfl inX3 3 (by decide) rfl kF_X3_9 rfl dX3_copyFrom_38 ?_
      refine x_iload_n C dX3_copyFrom_41 rfl 2 rfl ?_
      obtain ⟨hb2, h⟩ := ck_some h
      refine x_iald C 23 rfl hb2 (v := (ys (22 + 1) y2.toNatClampNeg)) rfl dX3_copyFrom_42 ?_
      obtain ⟨hb3, h⟩ := ck_some h
      refine x_iast C 10 rfl hb3 dX3_copyFrom_43 ?_
      refine x_aload_n C dX3_copyFrom_44 rfl 0 rfl ?_
      refine x_getr C 9 rfl rfl inX3 4 (by decide) rfl kF_X3_15 rfl dX3_copyFrom_45 ?_
      refine x_iload_n C dX3_copyFrom_48 rfl 2 rfl ?_
      refine x_aload_n C dX3_copyFrom_49 rfl 1 rfl ?_
      refine x_getr C 22 rfl rfl inX3 4 (by decide) rfl kF_X3_15 rfl dX3_copyFrom_50 ?_
      refine x_iload_n C dX3_copyFrom_53 rfl 2 rfl ?_
      obtain ⟨hb4, h⟩ := ck_some h
      refine x_iald C 24 rfl hb4 (v := ((up2 ys (9 + 1) y2.toNatClampNeg (ys (22 + 1) y2.toNatClampNeg)) (22 + 2) y2.toNatClampNeg)) rfl dX3_copyFrom_54 ?_
      obtain ⟨hb5, h⟩ := ck_some h
      refine x_iast C 11 rfl hb5 dX3_copyFrom_55 ?_
      refine x_iinc C dX3_copyFrom_56 2 rfl (v := (y2 + (1 : Int32))) rfl (lv2 := [(0, .ref (gs_a E 9)), (1, .ref (gs_a E 22)), (2, .int (y2 + (1 : Int32)))]) (by decide) rfl [1, 2, 0] rfl ?_
      refine x_goto C dX3_copyFrom_59 (tgt := 26) (by decide) ?_
      obtain rfl := Option.some.inj h
      exact hc (y2 + (1 : Int32)) (up2 (up2 ys (9 + 1) y2.toNatClampNeg (ys (22 + 1) y2.toNatClampNeg)) (9 + 2) y2.toNatClampNeg ((up2 ys (9 + 1) y2.toNatClampNeg (ys (22 + 1) y2.toNatClampNeg)) (22 + 2) y2.toNatClampNeg)) rfl
set_option maxHeartbeats 4000000 in
set_option maxRecDepth 20000 in
theorem m_X3_copyFrom_9_22 {E : gs_E} {l : Launch} {σ : gs_H} {g : Int64} {σ0 : gs_H} (h : f_X3_copyFrom 9 22 σ = some σ0) : gs_M l E yX3_copyFrom cX3_copyFrom 3 (none) (1, 22) [.ref (gs_a E 9), .ref (gs_a E 22)] σ g (none) σ0 g := by
  refine x_enter (lv := [(0, .ref (gs_a E 9)), (1, .ref (gs_a E 22))]) (by decide +kernel) (Nat.le_of_ble_eq_true rfl) rfl (fun p e s m args below meth c C hr => ?_)
  unfold f_X3_copyFrom at h
  refine x_aload_n C dX3_copyFrom_0 rfl 0 rfl ?_
  refine x_aload_n C dX3_copyFrom_1 rfl 1 rfl ?_
  refine x_geti C 22 rfl rfl inX3 0 (by decide) rfl kF_X3_47 rfl (v := (σ 22 0)) rfl dX3_copyFrom_2 ?_
  refine x_puti C 9 rfl rfl inX3 tyX3 tyX3_ok nmX3 0 (by decide) rfl kF_X3_47 rfl rfl rfl rfl dX3_copyFrom_5 ?_
  refine x_aload_n C dX3_copyFrom_8 rfl 0 rfl ?_
  refine x_aload_n C dX3_copyFrom_9 rfl 1 rfl ?_
  refine x_geti C 22 rfl rfl inX3 1 (by decide) rfl kF_X3_53 rfl (v := ((up2 σ 9 0 (σ 22 0)) 22 1)) rfl dX3_copyFrom_10 ?_
  refine x_puti C 9 rfl rfl inX3 tyX3 tyX3_ok nmX3 1 (by decide) rfl kF_X3_53 rfl rfl rfl rfl dX3_copyFrom_13 ?_
  refine x_aload_n C dX3_copyFrom_16 rfl 0 rfl ?_
  refine x_aload_n C dX3_copyFrom_17 rfl 1 rfl ?_
  refine x_geti C 22 rfl rfl inX3 2 (by decide) rfl kF_X3_56 rfl (v := ((up2 (up2 σ 9 0 (σ 22 0)) 9 1 ((up2 σ 9 0 (σ 22 0)) 22 1)) 22 2)) rfl dX3_copyFrom_18 ?_
  refine x_puti C 9 rfl rfl inX3 tyX3 tyX3_ok nmX3 2 (by decide) rfl kF_X3_56 rfl rfl rfl rfl dX3_copyFrom_21 ?_
  refine x_iconst C dX3_copyFrom_24 (v := 0) (by decide) ?_
  refine x_istore_n C dX3_copyFrom_25 rfl (lv2 := [(0, .ref (gs_a E 9)), (1, .ref (gs_a E 22)), (2, .int (0 : Int32))]) (by decide) rfl [1, 2, 0] rfl ?_
  obtain ⟨q1, hq1, h⟩ := Option.bind_eq_some_iff.mp h
  refine wl_X3_copyFrom_26_9_22 C (fun s1_0 hz => ?_) 1000 _ _ hq1
  subst q1
  try dsimp only at h
  refine x_iconst C dX3_copyFrom_62 (v := 0) (by decide) ?_
  refine x_istore_n C dX3_copyFrom_63 rfl (lv2 := [(0, .ref (gs_a E 9)), (1, .ref (gs_a E 22)), (2, .int (0 : Int32))]) (by decide) rfl [1, 2, 0] rfl ?_
  obtain ⟨q2, hq2, h⟩ := Option.bind_eq_some_iff.mp h
  refine wl_X3_copyFrom_64_9_22 C (fun s2_0 hz => ?_) 1000 _ _ hq2
  subst q2
  try dsimp only at h
  refine x_iconst C dX3_copyFrom_124 (v := 0) (by decide) ?_
  refine x_istore_n C dX3_copyFrom_125 rfl (lv2 := [(0, .ref (gs_a E 9)), (1, .ref (gs_a E 22)), (2, .int (0 : Int32))]) (by decide) rfl [1, 2, 0] rfl ?_
  obtain ⟨q3, hq3, h⟩ := Option.bind_eq_some_iff.mp h
  refine wl_X3_copyFrom_126_9_22 C (fun s3_0 hz => ?_) 1000 _ _ hq3
  subst q3
  try dsimp only at h
  refine x_aload_n C dX3_copyFrom_149 rfl 0 rfl ?_
  refine x_getr C 9 rfl rfl inX3 10 (by decide) rfl kF_X3_37 rfl dX3_copyFrom_150 ?_
  refine x_aload_n C dX3_copyFrom_153 rfl 1 rfl ?_
  refine x_getr C 22 rfl rfl inX3 10 (by decide) rfl kF_X3_37 rfl dX3_copyFrom_154 ?_
  obtain ⟨s4, hv4, h⟩ := Option.bind_eq_some_iff.mp h
  refine x_callV C 17 (m_X7_copyFrom_17_30 hv4) rfl rfl kM_X3_70 kI_X7_copyFrom kS_X7_copyFrom kN_X7 kC_X7_copyFrom kD_X7_copyFrom rfl ⟨Nat.le_of_ble_eq_true rfl, Nat.le_of_ble_eq_true rfl⟩ ⟨Nat.le_refl _, Nat.le_refl _⟩ (rest := []) rfl (Nat.le_of_ble_eq_true rfl) dX3_copyFrom_157 (st' := []) rfl ?_
  replace h := Option.some.inj h
  subst h
  exact x_retv C hr rfl dX3_copyFrom_160
set_option maxHeartbeats 4000000 in
set_option maxRecDepth 20000 in
theorem wl_X3_copyFrom_126_22_9 {E : gs_E} {l : Launch} {p : Program} {e : Env} {s : State} {m : MethodId} {args : Array Value} {below : List Frame} {meth : Method} {c : Code} (C : gs_X E RX3 cX3_copyFrom 3 p s m args meth c) {ov : Option Value} {σ0 : gs_H} {g0 : Int64} {g : Int64} {q : (gs_H)} (hx0 : ∀ (zs : gs_H), q = zs → gs_V E 3 (1, 22) p l e s m args below meth c ov σ0 g0 149 [(0, .ref (gs_a E 22)), (1, .ref (gs_a E 9))] [] zs g) : ∀ (n : Nat) (y2 : Int32) (ys : gs_H), lp (b_X3_copyFrom_126 22 9) n (y2, ys) = some q → gs_V E 3 (1, 22) p l e s m args below meth c ov σ0 g0 126 [(0, .ref (gs_a E 22)), (1, .ref (gs_a E 9)), (2, .int y2)] [] ys g := by
  intro n
  induction n with
  | zero => intro y2 ys h; cases h
  | succ n ih =>
    intro y2 ys h
    obtain ⟨r, h, hl, he⟩ := lp_step h
    have hc := fun (y2 : Int32) (ys : gs_H) (hr : r = Sum.inl (y2, ys)) => ih y2 ys (hl _ hr)
    have hk0 := fun (zs : gs_H) (hr : r = Sum.inr zs) => hx0 zs (he _ hr).symm
    unfold b_X3_copyFrom_126 at h
    try dsimp only at h
    refine x_iload_n C dX3_copyFrom_126 rfl 2 rfl ?_
    refine x_iconst C dX3_copyFrom_127 (v := 5) (by decide) ?_
    by_cases hc1 : (5 : Int32) ≤ y2
    · replace h := (if_pos hc1).symm.trans h
      refine x_icmp_geT C dX3_copyFrom_128 (tgt := 149) (by decide) hc1 ?_
      refine x_lv (lv' := [(0, .ref (gs_a E 22)), (1, .ref (gs_a E 9))]) [0, 1] rfl ?_
      obtain rfl := Option.some.inj h
      exact hk0 ys rfl
    · replace h := (if_neg hc1).symm.trans h
      refine x_icmp_geF C dX3_copyFrom_128 (tgt := 149) (by decide) hc1 ?_
      refine x_aload_n C dX3_copyFrom_131 rfl 0 rfl ?_
      refine x_getr C 22 rfl rfl inX3 9 (by decide) rfl kF_X3_31 rfl dX3_copyFrom_132 ?_
      refine x_iload_n C dX3_copyFrom_135 rfl 2 rfl ?_
      refine x_aload_n C dX3_copyFrom_136 rfl 1 rfl ?_
      refine x_getr C 9 rfl rfl inX3 9 (by decide) rfl kF_X3_31 rfl dX3_copyFrom_137 ?_
      refine x_iload_n C dX3_copyFrom_140 rfl 2 rfl ?_
      obtain ⟨hb2, h⟩ := ck_some h
      refine x_zald C 16 rfl hb2 (v := (ys (9 + 7) y2.toNatClampNeg)) rfl dX3_copyFrom_141 ?_
      obtain ⟨hb3, h⟩ := ck_some h
      obtain ⟨hz3, h⟩ := ck_some h
      refine x_zast C 29 rfl hb3 hz3 dX3_copyFrom_142 ?_
      refine x_iinc C dX3_copyFrom_143 2 rfl (v := (y2 + (1 : Int32))) rfl (lv2 := [(0, .ref (gs_a E 22)), (1, .ref (gs_a E 9)), (2, .int (y2 + (1 : Int32)))]) (by decide) rfl [1, 2, 0] rfl ?_
      refine x_goto C dX3_copyFrom_146 (tgt := 126) (by decide) ?_
      obtain rfl := Option.some.inj h
      exact hc (y2 + (1 : Int32)) (up2 ys (22 + 7) y2.toNatClampNeg (ys (9 + 7) y2.toNatClampNeg)) rfl
set_option maxHeartbeats 4000000 in
set_option maxRecDepth 20000 in
theorem wl_X3_copyFrom_64_22_9 {E : gs_E} {l : Launch} {p : Program} {e : Env} {s : State} {m : MethodId} {args : Array Value} {below : List Frame} {meth : Method} {c : Code} (C : gs_X E RX3 cX3_copyFrom 3 p s m args meth c) {ov : Option Value} {σ0 : gs_H} {g0 : Int64} {g : Int64} {q : (gs_H)} (hx0 : ∀ (zs : gs_H), q = zs → gs_V E 3 (1, 22) p l e s m args below meth c ov σ0 g0 124 [(0, .ref (gs_a E 22)), (1, .ref (gs_a E 9))] [] zs g) : ∀ (n : Nat) (y2 : Int32) (ys : gs_H), lp (b_X3_copyFrom_64 22 9) n (y2, ys) = some q → gs_V E 3 (1, 22) p l e s m args below meth c ov σ0 g0 64 [(0, .ref (gs_a E 22)), (1, .ref (gs_a E 9)), (2, .int y2)] [] ys g := by
  intro n
  induction n with
  | zero => intro y2 ys h; cases h
  | succ n ih =>
    intro y2 ys h
    obtain ⟨r, h, hl, he⟩ := lp_step h
    have hc := fun (y2 : Int32) (ys : gs_H) (hr : r = Sum.inl (y2, ys)) => ih y2 ys (hl _ hr)
    have hk0 := fun (zs : gs_H) (hr : r = Sum.inr zs) => hx0 zs (he _ hr).symm
    unfold b_X3_copyFrom_64 at h
    try dsimp only at h
    refine x_iload_n C dX3_copyFrom_64 rfl 2 rfl ?_
    refine x_bipush C dX3_copyFrom_65 (v := 6) (by decide) ?_
    by_cases hc1 : (6 : Int32) ≤ y2
    · replace h := (if_pos hc1).symm.trans h
      refine x_icmp_geT C dX3_copyFrom_67 (tgt := 124) (by decide) hc1 ?_
      refine x_lv (lv' := [(0, .ref (gs_a E 22)), (1, .ref (gs_a E 9))]) [0, 1] rfl ?_
      obtain rfl := Option.some.inj h
      exact hk0 ys rfl
    · replace h := (if_neg hc1).symm.trans h
      refine x_icmp_geF C dX3_copyFrom_67 (tgt := 124) (by decide) hc1 ?_
      refine x_aload_n C dX3_copyFrom_70 rfl 0 rfl ?_
      refine x_getr C 22 rfl rfl inX3 5 (by decide) rfl kF_X3_18 rfl dX3_copyFrom_71 ?_
      refine x_iload_n C dX3_copyFrom_74 rfl 2 rfl ?_
      refine x_aload_n C dX3_copyFrom_75 rfl 1 rfl ?_
      refine x_getr C 9 rfl rfl inX3 5 (by decide) rfl kF_X3_18 rfl dX3_copyFrom_76 ?_
      refine x_iload_n C dX3_copyFrom_79 rfl 2 rfl ?_
      obtain ⟨hb2, h⟩ := ck_some h
      refine x_iald C 12 rfl hb2 (v := (ys (9 + 3) y2.toNatClampNeg)) rfl dX3_copyFrom_80 ?_
      obtain ⟨hb3, h⟩ := ck_some h
      refine x_iast C 25 rfl hb3 dX3_copyFrom_81 ?_
      refine x_aload_n C dX3_copyFrom_82 rfl 0 rfl ?_
      refine x_getr C 22 rfl rfl inX3 6 (by decide) rfl kF_X3_21 rfl dX3_copyFrom_83 ?_
      refine x_iload_n C dX3_copyFrom_86 rfl 2 rfl ?_
      refine x_aload_n C dX3_copyFrom_87 rfl 1 rfl ?_
      refine x_getr C 9 rfl rfl inX3 6 (by decide) rfl kF_X3_21 rfl dX3_copyFrom_88 ?_
      refine x_iload_n C dX3_copyFrom_91 rfl 2 rfl ?_
      obtain ⟨hb4, h⟩ := ck_some h
      refine x_iald C 13 rfl hb4 (v := ((up2 ys (22 + 3) y2.toNatClampNeg (ys (9 + 3) y2.toNatClampNeg)) (9 + 4) y2.toNatClampNeg)) rfl dX3_copyFrom_92 ?_
      obtain ⟨hb5, h⟩ := ck_some h
      refine x_iast C 26 rfl hb5 dX3_copyFrom_93 ?_
      refine x_aload_n C dX3_copyFrom_94 rfl 0 rfl ?_
      refine x_getr C 22 rfl rfl inX3 7 (by decide) rfl kF_X3_24 rfl dX3_copyFrom_95 ?_
      refine x_iload_n C dX3_copyFrom_98 rfl 2 rfl ?_
      refine x_aload_n C dX3_copyFrom_99 rfl 1 rfl ?_
      refine x_getr C 9 rfl rfl inX3 7 (by decide) rfl kF_X3_24 rfl dX3_copyFrom_100 ?_
      refine x_iload_n C dX3_copyFrom_103 rfl 2 rfl ?_
      obtain ⟨hb6, h⟩ := ck_some h
      refine x_iald C 14 rfl hb6 (v := ((up2 (up2 ys (22 + 3) y2.toNatClampNeg (ys (9 + 3) y2.toNatClampNeg)) (22 + 4) y2.toNatClampNeg ((up2 ys (22 + 3) y2.toNatClampNeg (ys (9 + 3) y2.toNatClampNeg)) (9 + 4) y2.toNatClampNeg)) (9 + 5) y2.toNatClampNeg)) rfl dX3_copyFrom_104 ?_
      obtain ⟨hb7, h⟩ := ck_some h
      refine x_iast C 27 rfl hb7 dX3_copyFrom_105 ?_
      refine x_aload_n C dX3_copyFrom_106 rfl 0 rfl ?_
      refine x_getr C 22 rfl rfl inX3 8 (by decide) rfl kF_X3_27 rfl dX3_copyFrom_107 ?_
      refine x_iload_n C dX3_copyFrom_110 rfl 2 rfl ?_
      refine x_aload_n C dX3_copyFrom_111 rfl 1 rfl ?_
      refine x_getr C 9 rfl rfl inX3 8 (by decide) rfl kF_X3_27 rfl dX3_copyFrom_112 ?_
      refine x_iload_n C dX3_copyFrom_115 rfl 2 rfl ?_
      obtain ⟨hb8, h⟩ := ck_some h
      refine x_zald C 15 rfl hb8 (v := ((up2 (up2 (up2 ys (22 + 3) y2.toNatClampNeg (ys (9 + 3) y2.toNatClampNeg)) (22 + 4) y2.toNatClampNeg ((up2 ys (22 + 3) y2.toNatClampNeg (ys (9 + 3) y2.toNatClampNeg)) (9 + 4) y2.toNatClampNeg)) (22 + 5) y2.toNatClampNeg ((up2 (up2 ys (22 + 3) y2.toNatClampNeg (ys (9 + 3) y2.toNatClampNeg)) (22 + 4) y2.toNatClampNeg ((up2 ys (22 + 3) y2.toNatClampNeg (ys (9 + 3) y2.toNatClampNeg)) (9 + 4) y2.toNatClampNeg)) (9 + 5) y2.toNatClampNeg)) (9 + 6) y2.toNatClampNeg)) rfl dX3_copyFrom_116 ?_
      obtain ⟨hb9, h⟩ := ck_some h
      obtain ⟨hz9, h⟩ := ck_some h
      refine x_zast C 28 rfl hb9 hz9 dX3_copyFrom_117 ?_
      refine x_iinc C dX3_copyFrom_118 2 rfl (v := (y2 + (1 : Int32))) rfl (lv2 := [(0, .ref (gs_a E 22)), (1, .ref (gs_a E 9)), (2, .int (y2 + (1 : Int32)))]) (by decide) rfl [1, 2, 0] rfl ?_
      refine x_goto C dX3_copyFrom_121 (tgt := 64) (by decide) ?_
      obtain rfl := Option.some.inj h
      exact hc (y2 + (1 : Int32)) (up2 (up2 (up2 (up2 ys (22 + 3) y2.toNatClampNeg (ys (9 + 3) y2.toNatClampNeg)) (22 + 4) y2.toNatClampNeg ((up2 ys (22 + 3) y2.toNatClampNeg (ys (9 + 3) y2.toNatClampNeg)) (9 + 4) y2.toNatClampNeg)) (22 + 5) y2.toNatClampNeg ((up2 (up2 ys (22 + 3) y2.toNatClampNeg (ys (9 + 3) y2.toNatClampNeg)) (22 + 4) y2.toNatClampNeg ((up2 ys (22 + 3) y2.toNatClampNeg (ys (9 + 3) y2.toNatClampNeg)) (9 + 4) y2.toNatClampNeg)) (9 + 5) y2.toNatClampNeg)) (22 + 6) y2.toNatClampNeg ((up2 (up2 (up2 ys (22 + 3) y2.toNatClampNeg (ys (9 + 3) y2.toNatClampNeg)) (22 + 4) y2.toNatClampNeg ((up2 ys (22 + 3) y2.toNatClampNeg (ys (9 + 3) y2.toNatClampNeg)) (9 + 4) y2.toNatClampNeg)) (22 + 5) y2.toNatClampNeg ((up2 (up2 ys (22 + 3) y2.toNatClampNeg (ys (9 + 3) y2.toNatClampNeg)) (22 + 4) y2.toNatClampNeg ((up2 ys (22 + 3) y2.toNatClampNeg (ys (9 + 3) y2.toNatClampNeg)) (9 + 4) y2.toNatClampNeg)) (9 + 5) y2.toNatClampNeg)) (9 + 6) y2.toNatClampNeg)) rfl
set_option maxHeartbeats 4000000 in
set_option maxRecDepth 20000 in
theorem wl_X3_copyFrom_26_22_9 {E : gs_E} {l : Launch} {p : Program} {e : Env} {s : State} {m : MethodId} {args : Array Value} {below : List Frame} {meth : Method} {c : Code} (C : gs_X E RX3 cX3_copyFrom 3 p s m args meth c) {ov : Option Value} {σ0 : gs_H} {g0 : Int64} {g : Int64} {q : (gs_H)} (hx0 : ∀ (zs : gs_H), q = zs → gs_V E 3 (1, 22) p l e s m args below meth c ov σ0 g0 62 [(0, .ref (gs_a E 22)), (1, .ref (gs_a E 9))] [] zs g) : ∀ (n : Nat) (y2 : Int32) (ys : gs_H), lp (b_X3_copyFrom_26 22 9) n (y2, ys) = some q → gs_V E 3 (1, 22) p l e s m args below meth c ov σ0 g0 26 [(0, .ref (gs_a E 22)), (1, .ref (gs_a E 9)), (2, .int y2)] [] ys g := by
  intro n
  induction n with
  | zero => intro y2 ys h; cases h
  | succ n ih =>
    intro y2 ys h
    obtain ⟨r, h, hl, he⟩ := lp_step h
    have hc := fun (y2 : Int32) (ys : gs_H) (hr : r = Sum.inl (y2, ys)) => ih y2 ys (hl _ hr)
    have hk0 := fun (zs : gs_H) (hr : r = Sum.inr zs) => hx0 zs (he _ hr).symm
    unfold b_X3_copyFrom_26 at h
    try dsimp only at h
    refine x_iload_n C dX3_copyFrom_26 rfl 2 rfl ?_
    refine x_bipush C dX3_copyFrom_27 (v := 10) (by decide) ?_
    by_cases hc1 : (10 : Int32) ≤ y2
    · replace h := (if_pos hc1).symm.trans h
      refine x_icmp_geT C dX3_copyFrom_29 (tgt := 62) (by decide) hc1 ?_
      refine x_lv (lv' := [(0, .ref (gs_a E 22)), (1, .ref (gs_a E 9))]) [0, 1] rfl ?_
      obtain rfl := Option.some.inj h
      exact hk0 ys rfl
    · replace h := (if_neg hc1).symm.trans h
      refine x_icmp_geF C dX3_copyFrom_29 (tgt := 62) (by decide) hc1 ?_
      refine x_aload_n C dX3_copyFrom_32 rfl 0 rfl ?_
      refine x_getr C 22 rfl rfl inX3 3 (by decide) rfl kF_X3_9 rfl dX3_copyFrom_33 ?_
      refine x_iload_n C dX3_copyFrom_36 rfl 2 rfl ?_
      refine x_aload_n C dX3_copyFrom_37 rfl 1 rfl ?_
      refine x_getr C 9 rfl rfl inX3 3 (by decide) rfl kF_X3_9 rfl dX3_copyFrom_38 ?_
      refine x_iload_n C dX3_copyFrom_41 rfl 2 rfl ?_
      obtain ⟨hb2, h⟩ := ck_some h
      refine x_iald C 10 rfl hb2 (v := (ys (9 + 1) y2.toNatClampNeg)) rfl dX3_copyFrom_42 ?_
      obtain ⟨hb3, h⟩ := ck_some h
      refine x_iast C 23 rfl hb3 dX3_copyFrom_43 ?_
      refine x_aload_n C dX3_copyFrom_44 rfl 0 rfl ?_
      refine x_getr C 22 rfl rfl inX3 4 (by decide) rfl kF_X3_15 rfl dX3_copyFrom_45 ?_
      refine x_iload_n C dX3_copyFrom_48 rfl 2 rfl ?_
      refine x_aload_n C dX3_copyFrom_49 rfl 1 rfl ?_
      refine x_getr C 9 rfl rfl inX3 4 (by decide) rfl kF_X3_15 rfl dX3_copyFrom_50 ?_
      refine x_iload_n C dX3_copyFrom_53 rfl 2 rfl ?_
      obtain ⟨hb4, h⟩ := ck_some h
      refine x_iald C 11 rfl hb4 (v := ((up2 ys (22 + 1) y2.toNatClampNeg (ys (9 + 1) y2.toNatClampNeg)) (9 + 2) y2.toNatClampNeg)) rfl dX3_copyFrom_54 ?_
      obtain ⟨hb5, h⟩ := ck_some h
      refine x_iast C 24 rfl hb5 dX3_copyFrom_55 ?_
      refine x_iinc C dX3_copyFrom_56 2 rfl (v := (y2 + (1 : Int32))) rfl (lv2 := [(0, .ref (gs_a E 22)), (1, .ref (gs_a E 9)), (2, .int (y2 + (1 : Int32)))]) (by decide) rfl [1, 2, 0] rfl ?_
      refine x_goto C dX3_copyFrom_59 (tgt := 26) (by decide) ?_
      obtain rfl := Option.some.inj h
      exact hc (y2 + (1 : Int32)) (up2 (up2 ys (22 + 1) y2.toNatClampNeg (ys (9 + 1) y2.toNatClampNeg)) (22 + 2) y2.toNatClampNeg ((up2 ys (22 + 1) y2.toNatClampNeg (ys (9 + 1) y2.toNatClampNeg)) (9 + 2) y2.toNatClampNeg)) rfl
set_option maxHeartbeats 4000000 in
set_option maxRecDepth 20000 in
theorem m_X3_copyFrom_22_9 {E : gs_E} {l : Launch} {σ : gs_H} {g : Int64} {σ0 : gs_H} (h : f_X3_copyFrom 22 9 σ = some σ0) : gs_M l E yX3_copyFrom cX3_copyFrom 3 (none) (1, 22) [.ref (gs_a E 22), .ref (gs_a E 9)] σ g (none) σ0 g := by
  refine x_enter (lv := [(0, .ref (gs_a E 22)), (1, .ref (gs_a E 9))]) (by decide +kernel) (Nat.le_of_ble_eq_true rfl) rfl (fun p e s m args below meth c C hr => ?_)
  unfold f_X3_copyFrom at h
  refine x_aload_n C dX3_copyFrom_0 rfl 0 rfl ?_
  refine x_aload_n C dX3_copyFrom_1 rfl 1 rfl ?_
  refine x_geti C 9 rfl rfl inX3 0 (by decide) rfl kF_X3_47 rfl (v := (σ 9 0)) rfl dX3_copyFrom_2 ?_
  refine x_puti C 22 rfl rfl inX3 tyX3 tyX3_ok nmX3 0 (by decide) rfl kF_X3_47 rfl rfl rfl rfl dX3_copyFrom_5 ?_
  refine x_aload_n C dX3_copyFrom_8 rfl 0 rfl ?_
  refine x_aload_n C dX3_copyFrom_9 rfl 1 rfl ?_
  refine x_geti C 9 rfl rfl inX3 1 (by decide) rfl kF_X3_53 rfl (v := ((up2 σ 22 0 (σ 9 0)) 9 1)) rfl dX3_copyFrom_10 ?_
  refine x_puti C 22 rfl rfl inX3 tyX3 tyX3_ok nmX3 1 (by decide) rfl kF_X3_53 rfl rfl rfl rfl dX3_copyFrom_13 ?_
  refine x_aload_n C dX3_copyFrom_16 rfl 0 rfl ?_
  refine x_aload_n C dX3_copyFrom_17 rfl 1 rfl ?_
  refine x_geti C 9 rfl rfl inX3 2 (by decide) rfl kF_X3_56 rfl (v := ((up2 (up2 σ 22 0 (σ 9 0)) 22 1 ((up2 σ 22 0 (σ 9 0)) 9 1)) 9 2)) rfl dX3_copyFrom_18 ?_
  refine x_puti C 22 rfl rfl inX3 tyX3 tyX3_ok nmX3 2 (by decide) rfl kF_X3_56 rfl rfl rfl rfl dX3_copyFrom_21 ?_
  refine x_iconst C dX3_copyFrom_24 (v := 0) (by decide) ?_
  refine x_istore_n C dX3_copyFrom_25 rfl (lv2 := [(0, .ref (gs_a E 22)), (1, .ref (gs_a E 9)), (2, .int (0 : Int32))]) (by decide) rfl [1, 2, 0] rfl ?_
  obtain ⟨q1, hq1, h⟩ := Option.bind_eq_some_iff.mp h
  refine wl_X3_copyFrom_26_22_9 C (fun s1_0 hz => ?_) 1000 _ _ hq1
  subst q1
  try dsimp only at h
  refine x_iconst C dX3_copyFrom_62 (v := 0) (by decide) ?_
  refine x_istore_n C dX3_copyFrom_63 rfl (lv2 := [(0, .ref (gs_a E 22)), (1, .ref (gs_a E 9)), (2, .int (0 : Int32))]) (by decide) rfl [1, 2, 0] rfl ?_
  obtain ⟨q2, hq2, h⟩ := Option.bind_eq_some_iff.mp h
  refine wl_X3_copyFrom_64_22_9 C (fun s2_0 hz => ?_) 1000 _ _ hq2
  subst q2
  try dsimp only at h
  refine x_iconst C dX3_copyFrom_124 (v := 0) (by decide) ?_
  refine x_istore_n C dX3_copyFrom_125 rfl (lv2 := [(0, .ref (gs_a E 22)), (1, .ref (gs_a E 9)), (2, .int (0 : Int32))]) (by decide) rfl [1, 2, 0] rfl ?_
  obtain ⟨q3, hq3, h⟩ := Option.bind_eq_some_iff.mp h
  refine wl_X3_copyFrom_126_22_9 C (fun s3_0 hz => ?_) 1000 _ _ hq3
  subst q3
  try dsimp only at h
  refine x_aload_n C dX3_copyFrom_149 rfl 0 rfl ?_
  refine x_getr C 22 rfl rfl inX3 10 (by decide) rfl kF_X3_37 rfl dX3_copyFrom_150 ?_
  refine x_aload_n C dX3_copyFrom_153 rfl 1 rfl ?_
  refine x_getr C 9 rfl rfl inX3 10 (by decide) rfl kF_X3_37 rfl dX3_copyFrom_154 ?_
  obtain ⟨s4, hv4, h⟩ := Option.bind_eq_some_iff.mp h
  refine x_callV C 30 (m_X7_copyFrom_30_17 hv4) rfl rfl kM_X3_70 kI_X7_copyFrom kS_X7_copyFrom kN_X7 kC_X7_copyFrom kD_X7_copyFrom rfl ⟨Nat.le_of_ble_eq_true rfl, Nat.le_of_ble_eq_true rfl⟩ ⟨Nat.le_refl _, Nat.le_refl _⟩ (rest := []) rfl (Nat.le_of_ble_eq_true rfl) dX3_copyFrom_157 (st' := []) rfl ?_
  replace h := Option.some.inj h
  subst h
  exact x_retv C hr rfl dX3_copyFrom_160
def j_X3_hangAllAgain_62 (x2 : Int32) (t0 : Int32) (t1 : Int32) (σ : gs_H) : Option ((Int32 × Int32 × gs_H) ⊕ ((Int32 × gs_H))) :=
if inb x2 5 then
some (Sum.inl ((t0 + t1), (x2 + (1 : Int32)), (up2 σ 16 x2.toNatClampNeg (0 : Int32)))) else none
def b_X3_hangAllAgain_42 (y : Int32 × Int32 × gs_H) : Option ((Int32 × Int32 × gs_H) ⊕ ((Int32 × gs_H))) :=
if (5 : Int32) ≤ y.2.1 then (
some (Sum.inr (y.1, y.2.2)))
else (
if inb y.2.1 5 then
if (y.2.2 16 y.2.1.toNatClampNeg) = 0 then (
j_X3_hangAllAgain_62 y.2.1 y.1 (0 : Int32) y.2.2)
else (
j_X3_hangAllAgain_62 y.2.1 y.1 (1 : Int32) y.2.2) else none)
def j_X3_hangAllAgain_25 (x2 : Int32) (t0 : Int32) (t1 : Int32) (σ : gs_H) : Option ((Int32 × Int32 × gs_H) ⊕ ((Int32 × gs_H))) :=
if inb x2 6 then
some (Sum.inl ((t0 + t1), (x2 + (1 : Int32)), (up2 σ 15 x2.toNatClampNeg (0 : Int32)))) else none
def b_X3_hangAllAgain_4 (y : Int32 × Int32 × gs_H) : Option ((Int32 × Int32 × gs_H) ⊕ ((Int32 × gs_H))) :=
if (6 : Int32) ≤ y.2.1 then (
some (Sum.inr (y.1, y.2.2)))
else (
if inb y.2.1 6 then
if (y.2.2 15 y.2.1.toNatClampNeg) = 0 then (
j_X3_hangAllAgain_25 y.2.1 y.1 (0 : Int32) y.2.2)
else (
j_X3_hangAllAgain_25 y.2.1 y.1 (1 : Int32) y.2.2) else none)
def f_X3_hangAllAgain (σ : gs_H) : Option (Int32 × gs_H) :=
(lp (b_X3_hangAllAgain_4) 1000 ((0 : Int32), (0 : Int32), σ)).bind fun q1 =>
(lp (b_X3_hangAllAgain_42) 1000 (q1.1, (0 : Int32), q1.2)).bind fun q2 =>
some (q2.1, q2.2)
set_option maxHeartbeats 4000000 in
set_option maxRecDepth 20000 in
theorem wj_X3_hangAllAgain_62 {E : gs_E} {l : Launch} {p : Program} {e : Env} {s : State} {m : MethodId} {args : Array Value} {below : List Frame} {meth : Method} {c : Code} (C : gs_X E RX3 cX3_hangAllAgain 3 p s m args meth c) {ov : Option Value} {σ0 : gs_H} {g0 : Int64} {x2 : Int32} {t0 : Int32} {t1 : Int32} {σ : gs_H} {g : Int64} {r : (Int32 × Int32 × gs_H) ⊕ ((Int32 × gs_H))} (h : j_X3_hangAllAgain_62 x2 t0 t1 σ = some r) (hc : ∀ (y1 : Int32) (y2 : Int32) (ys : gs_H), r = Sum.inl (y1, y2, ys) → gs_V E 3 (0, 0) p l e s m args below meth c ov σ0 g0 42 [(0, .ref (gs_a E 9)), (1, .int y1), (2, .int y2)] [] ys g) (hk0 : ∀ (z1 : Int32) (zs : gs_H), r = Sum.inr (z1, zs) → gs_V E 3 (0, 0) p l e s m args below meth c ov σ0 g0 77 [(1, .int z1)] [] zs g) : gs_V E 3 (0, 0) p l e s m args below meth c ov σ0 g0 62 [(0, .ref (gs_a E 9)), (2, .int x2)] [.int t1, .int t0] σ g := by
  unfold j_X3_hangAllAgain_62 at h
  refine x_iadd C dX3_hangAllAgain_62 ?_
  refine x_istore_n C dX3_hangAllAgain_63 rfl (lv2 := [(0, .ref (gs_a E 9)), (1, .int (t0 + t1)), (2, .int x2)]) (by decide) rfl [1, 0, 2] rfl ?_
  refine x_aload_n C dX3_hangAllAgain_64 rfl 0 rfl ?_
  refine x_getr C 9 rfl rfl inX3 9 (by decide) rfl kF_X3_31 rfl dX3_hangAllAgain_65 ?_
  refine x_iload_n C dX3_hangAllAgain_68 rfl 2 rfl ?_
  refine x_iconst C dX3_hangAllAgain_69 (v := 0) (by decide) ?_
  obtain ⟨hb1, h⟩ := ck_some h
  refine x_zast C 16 rfl hb1 (by decide) dX3_hangAllAgain_70 ?_
  refine x_iinc C dX3_hangAllAgain_71 2 rfl (v := (x2 + (1 : Int32))) rfl (lv2 := [(0, .ref (gs_a E 9)), (1, .int (t0 + t1)), (2, .int (x2 + (1 : Int32)))]) (by decide) rfl [1, 2, 0] rfl ?_
  refine x_goto C dX3_hangAllAgain_74 (tgt := 42) (by decide) ?_
  obtain rfl := Option.some.inj h
  exact hc (t0 + t1) (x2 + (1 : Int32)) (up2 σ 16 x2.toNatClampNeg (0 : Int32)) rfl
set_option maxHeartbeats 4000000 in
set_option maxRecDepth 20000 in
theorem wl_X3_hangAllAgain_42 {E : gs_E} {l : Launch} {p : Program} {e : Env} {s : State} {m : MethodId} {args : Array Value} {below : List Frame} {meth : Method} {c : Code} (C : gs_X E RX3 cX3_hangAllAgain 3 p s m args meth c) {ov : Option Value} {σ0 : gs_H} {g0 : Int64} {g : Int64} {q : (Int32 × gs_H)} (hx0 : ∀ (z1 : Int32) (zs : gs_H), q = (z1, zs) → gs_V E 3 (0, 0) p l e s m args below meth c ov σ0 g0 77 [(1, .int z1)] [] zs g) : ∀ (n : Nat) (y1 : Int32) (y2 : Int32) (ys : gs_H), lp (b_X3_hangAllAgain_42) n (y1, y2, ys) = some q → gs_V E 3 (0, 0) p l e s m args below meth c ov σ0 g0 42 [(0, .ref (gs_a E 9)), (1, .int y1), (2, .int y2)] [] ys g := by
  intro n
  induction n with
  | zero => intro y1 y2 ys h; cases h
  | succ n ih =>
    intro y1 y2 ys h
    obtain ⟨r, h, hl, he⟩ := lp_step h
    have hc := fun (y1 : Int32) (y2 : Int32) (ys : gs_H) (hr : r = Sum.inl (y1, y2, ys)) => ih y1 y2 ys (hl _ hr)
    have hk0 := fun (z1 : Int32) (zs : gs_H) (hr : r = Sum.inr (z1, zs)) => hx0 z1 zs (he _ hr).symm
    unfold b_X3_hangAllAgain_42 at h
    try dsimp only at h
    refine x_iload_n C dX3_hangAllAgain_42 rfl 2 rfl ?_
    refine x_iconst C dX3_hangAllAgain_43 (v := 5) (by decide) ?_
    by_cases hc1 : (5 : Int32) ≤ y2
    · replace h := (if_pos hc1).symm.trans h
      refine x_icmp_geT C dX3_hangAllAgain_44 (tgt := 77) (by decide) hc1 ?_
      refine x_lv (lv' := [(1, .int y1)]) [1] rfl ?_
      obtain rfl := Option.some.inj h
      exact hk0 y1 ys rfl
    · replace h := (if_neg hc1).symm.trans h
      refine x_icmp_geF C dX3_hangAllAgain_44 (tgt := 77) (by decide) hc1 ?_
      refine x_iload_n C dX3_hangAllAgain_47 rfl 1 rfl ?_
      refine x_aload_n C dX3_hangAllAgain_48 rfl 0 rfl ?_
      refine x_getr C 9 rfl rfl inX3 9 (by decide) rfl kF_X3_31 rfl dX3_hangAllAgain_49 ?_
      refine x_iload_n C dX3_hangAllAgain_52 rfl 2 rfl ?_
      obtain ⟨hb2, h⟩ := ck_some h
      refine x_zald C 16 rfl hb2 (v := (ys 16 y2.toNatClampNeg)) rfl dX3_hangAllAgain_53 ?_
      by_cases hc3 : (ys 16 y2.toNatClampNeg) = 0
      · replace h := (if_pos hc3).symm.trans h
        refine x_if_eqT C dX3_hangAllAgain_54 (tgt := 61) (by decide) hc3 ?_
        refine x_iconst C dX3_hangAllAgain_61 (v := 0) (by decide) ?_
        refine x_lv (lv' := [(0, .ref (gs_a E 9)), (2, .int y2)]) [0, 2] rfl ?_
        exact wj_X3_hangAllAgain_62 C h hc hk0
      · replace h := (if_neg hc3).symm.trans h
        refine x_if_eqF C dX3_hangAllAgain_54 (tgt := 61) (by decide) hc3 ?_
        refine x_iconst C dX3_hangAllAgain_57 (v := 1) (by decide) ?_
        refine x_goto C dX3_hangAllAgain_58 (tgt := 62) (by decide) ?_
        refine x_lv (lv' := [(0, .ref (gs_a E 9)), (2, .int y2)]) [0, 2] rfl ?_
        exact wj_X3_hangAllAgain_62 C h hc hk0
set_option maxHeartbeats 4000000 in
set_option maxRecDepth 20000 in
theorem wj_X3_hangAllAgain_25 {E : gs_E} {l : Launch} {p : Program} {e : Env} {s : State} {m : MethodId} {args : Array Value} {below : List Frame} {meth : Method} {c : Code} (C : gs_X E RX3 cX3_hangAllAgain 3 p s m args meth c) {ov : Option Value} {σ0 : gs_H} {g0 : Int64} {x2 : Int32} {t0 : Int32} {t1 : Int32} {σ : gs_H} {g : Int64} {r : (Int32 × Int32 × gs_H) ⊕ ((Int32 × gs_H))} (h : j_X3_hangAllAgain_25 x2 t0 t1 σ = some r) (hc : ∀ (y1 : Int32) (y2 : Int32) (ys : gs_H), r = Sum.inl (y1, y2, ys) → gs_V E 3 (0, 0) p l e s m args below meth c ov σ0 g0 4 [(0, .ref (gs_a E 9)), (1, .int y1), (2, .int y2)] [] ys g) (hk0 : ∀ (z1 : Int32) (zs : gs_H), r = Sum.inr (z1, zs) → gs_V E 3 (0, 0) p l e s m args below meth c ov σ0 g0 40 [(0, .ref (gs_a E 9)), (1, .int z1)] [] zs g) : gs_V E 3 (0, 0) p l e s m args below meth c ov σ0 g0 25 [(0, .ref (gs_a E 9)), (2, .int x2)] [.int t1, .int t0] σ g := by
  unfold j_X3_hangAllAgain_25 at h
  refine x_iadd C dX3_hangAllAgain_25 ?_
  refine x_istore_n C dX3_hangAllAgain_26 rfl (lv2 := [(0, .ref (gs_a E 9)), (1, .int (t0 + t1)), (2, .int x2)]) (by decide) rfl [1, 0, 2] rfl ?_
  refine x_aload_n C dX3_hangAllAgain_27 rfl 0 rfl ?_
  refine x_getr C 9 rfl rfl inX3 8 (by decide) rfl kF_X3_27 rfl dX3_hangAllAgain_28 ?_
  refine x_iload_n C dX3_hangAllAgain_31 rfl 2 rfl ?_
  refine x_iconst C dX3_hangAllAgain_32 (v := 0) (by decide) ?_
  obtain ⟨hb1, h⟩ := ck_some h
  refine x_zast C 15 rfl hb1 (by decide) dX3_hangAllAgain_33 ?_
  refine x_iinc C dX3_hangAllAgain_34 2 rfl (v := (x2 + (1 : Int32))) rfl (lv2 := [(0, .ref (gs_a E 9)), (1, .int (t0 + t1)), (2, .int (x2 + (1 : Int32)))]) (by decide) rfl [1, 2, 0] rfl ?_
  refine x_goto C dX3_hangAllAgain_37 (tgt := 4) (by decide) ?_
  obtain rfl := Option.some.inj h
  exact hc (t0 + t1) (x2 + (1 : Int32)) (up2 σ 15 x2.toNatClampNeg (0 : Int32)) rfl
set_option maxHeartbeats 4000000 in
set_option maxRecDepth 20000 in
theorem wl_X3_hangAllAgain_4 {E : gs_E} {l : Launch} {p : Program} {e : Env} {s : State} {m : MethodId} {args : Array Value} {below : List Frame} {meth : Method} {c : Code} (C : gs_X E RX3 cX3_hangAllAgain 3 p s m args meth c) {ov : Option Value} {σ0 : gs_H} {g0 : Int64} {g : Int64} {q : (Int32 × gs_H)} (hx0 : ∀ (z1 : Int32) (zs : gs_H), q = (z1, zs) → gs_V E 3 (0, 0) p l e s m args below meth c ov σ0 g0 40 [(0, .ref (gs_a E 9)), (1, .int z1)] [] zs g) : ∀ (n : Nat) (y1 : Int32) (y2 : Int32) (ys : gs_H), lp (b_X3_hangAllAgain_4) n (y1, y2, ys) = some q → gs_V E 3 (0, 0) p l e s m args below meth c ov σ0 g0 4 [(0, .ref (gs_a E 9)), (1, .int y1), (2, .int y2)] [] ys g := by
  intro n
  induction n with
  | zero => intro y1 y2 ys h; cases h
  | succ n ih =>
    intro y1 y2 ys h
    obtain ⟨r, h, hl, he⟩ := lp_step h
    have hc := fun (y1 : Int32) (y2 : Int32) (ys : gs_H) (hr : r = Sum.inl (y1, y2, ys)) => ih y1 y2 ys (hl _ hr)
    have hk0 := fun (z1 : Int32) (zs : gs_H) (hr : r = Sum.inr (z1, zs)) => hx0 z1 zs (he _ hr).symm
    unfold b_X3_hangAllAgain_4 at h
    try dsimp only at h
    refine x_iload_n C dX3_hangAllAgain_4 rfl 2 rfl ?_
    refine x_bipush C dX3_hangAllAgain_5 (v := 6) (by decide) ?_
    by_cases hc1 : (6 : Int32) ≤ y2
    · replace h := (if_pos hc1).symm.trans h
      refine x_icmp_geT C dX3_hangAllAgain_7 (tgt := 40) (by decide) hc1 ?_
      refine x_lv (lv' := [(0, .ref (gs_a E 9)), (1, .int y1)]) [0, 1] rfl ?_
      obtain rfl := Option.some.inj h
      exact hk0 y1 ys rfl
    · replace h := (if_neg hc1).symm.trans h
      refine x_icmp_geF C dX3_hangAllAgain_7 (tgt := 40) (by decide) hc1 ?_
      refine x_iload_n C dX3_hangAllAgain_10 rfl 1 rfl ?_
      refine x_aload_n C dX3_hangAllAgain_11 rfl 0 rfl ?_
      refine x_getr C 9 rfl rfl inX3 8 (by decide) rfl kF_X3_27 rfl dX3_hangAllAgain_12 ?_
      refine x_iload_n C dX3_hangAllAgain_15 rfl 2 rfl ?_
      obtain ⟨hb2, h⟩ := ck_some h
      refine x_zald C 15 rfl hb2 (v := (ys 15 y2.toNatClampNeg)) rfl dX3_hangAllAgain_16 ?_
      by_cases hc3 : (ys 15 y2.toNatClampNeg) = 0
      · replace h := (if_pos hc3).symm.trans h
        refine x_if_eqT C dX3_hangAllAgain_17 (tgt := 24) (by decide) hc3 ?_
        refine x_iconst C dX3_hangAllAgain_24 (v := 0) (by decide) ?_
        refine x_lv (lv' := [(0, .ref (gs_a E 9)), (2, .int y2)]) [0, 2] rfl ?_
        exact wj_X3_hangAllAgain_25 C h hc hk0
      · replace h := (if_neg hc3).symm.trans h
        refine x_if_eqF C dX3_hangAllAgain_17 (tgt := 24) (by decide) hc3 ?_
        refine x_iconst C dX3_hangAllAgain_20 (v := 1) (by decide) ?_
        refine x_goto C dX3_hangAllAgain_21 (tgt := 25) (by decide) ?_
        refine x_lv (lv' := [(0, .ref (gs_a E 9)), (2, .int y2)]) [0, 2] rfl ?_
        exact wj_X3_hangAllAgain_25 C h hc hk0
set_option maxHeartbeats 4000000 in
set_option maxRecDepth 20000 in
theorem m_X3_hangAllAgain {E : gs_E} {l : Launch} {σ : gs_H} {g : Int64} {r0 : Int32} {σ0 : gs_H} (h : f_X3_hangAllAgain σ = some (r0, σ0)) : gs_M l E yX3_hangAllAgain cX3_hangAllAgain 3 (some .int) (0, 0) [.ref (gs_a E 9)] σ g (some (.int r0)) σ0 g := by
  refine x_enter (lv := [(0, .ref (gs_a E 9))]) (by decide +kernel) (Nat.le_of_ble_eq_true rfl) rfl (fun p e s m args below meth c C hr => ?_)
  unfold f_X3_hangAllAgain at h
  refine x_iconst C dX3_hangAllAgain_0 (v := 0) (by decide) ?_
  refine x_istore_n C dX3_hangAllAgain_1 rfl (lv2 := [(0, .ref (gs_a E 9)), (1, .int (0 : Int32))]) (by decide) rfl [1, 0] rfl ?_
  refine x_iconst C dX3_hangAllAgain_2 (v := 0) (by decide) ?_
  refine x_istore_n C dX3_hangAllAgain_3 rfl (lv2 := [(0, .ref (gs_a E 9)), (1, .int (0 : Int32)), (2, .int (0 : Int32))]) (by decide) rfl [1, 2, 0] rfl ?_
  obtain ⟨q1, hq1, h⟩ := Option.bind_eq_some_iff.mp h
  refine wl_X3_hangAllAgain_4 C (fun v1_0_1 s1_0 hz => ?_) 1000 _ _ _ hq1
  subst q1
  try dsimp only at h
  refine x_iconst C dX3_hangAllAgain_40 (v := 0) (by decide) ?_
  refine x_istore_n C dX3_hangAllAgain_41 rfl (lv2 := [(0, .ref (gs_a E 9)), (1, .int v1_0_1), (2, .int (0 : Int32))]) (by decide) rfl [1, 2, 0] rfl ?_
  obtain ⟨q2, hq2, h⟩ := Option.bind_eq_some_iff.mp h
  refine wl_X3_hangAllAgain_42 C (fun v2_0_1 s2_0 hz => ?_) 1000 _ _ _ hq2
  subst q2
  try dsimp only at h
  refine x_iload_n C dX3_hangAllAgain_77 rfl 0 rfl ?_
  replace h := Option.some.inj h
  obtain ⟨rfl, rfl⟩ := Prod.mk.inj h
  exact x_ret C hr rfl rfl dX3_hangAllAgain_78
def b_X3_hangAsRead_63 (y : Int32 × gs_H) : Option ((Int32 × gs_H) ⊕ ((gs_H))) :=
if (6 : Int32) ≤ y.1 then (
some (Sum.inr y.2))
else (
if inb y.1 6 then
if inb y.1 6 then
if inb y.1 6 then
if inb y.1 6 then
if inb y.1 6 then
some (Sum.inl ((y.1 + (1 : Int32)), (up2 (up2 (up2 y.2 12 y.1.toNatClampNeg y.1) 13 y.1.toNatClampNeg (y.2 6 y.1.toNatClampNeg)) 14 y.1.toNatClampNeg (y.2 7 y.1.toNatClampNeg)))) else none else none else none else none else none)
def b_X3_hangAsRead_25 (y : Int32 × gs_H) : Option ((Int32 × gs_H) ⊕ ((gs_H))) :=
if (10 : Int32) ≤ y.1 then (
some (Sum.inr y.2))
else (
if inb y.1 10 then
if inb y.1 10 then
if inb y.1 10 then
if inb y.1 10 then
some (Sum.inl ((y.1 + (1 : Int32)), (up2 (up2 y.2 10 y.1.toNatClampNeg (y.2 4 y.1.toNatClampNeg)) 11 y.1.toNatClampNeg (y.2 5 y.1.toNatClampNeg)))) else none else none else none else none)
def f_X3_hangAsRead (σ : gs_H) : Option (gs_H) :=
(lp (b_X3_hangAsRead_25) 1000 ((0 : Int32), (up2 (up2 (up2 σ 9 0 ((σ 3 4) + (1 : Int32))) 9 1 (σ 3 5)) 9 2 (0 : Int32)))).bind fun q1 =>
(lp (b_X3_hangAsRead_63) 1000 ((0 : Int32), q1)).bind fun q2 =>
(f_X3_hangAllAgain q2).bind fun q3 =>
some (up2 q3.2 17 0 (0 : Int32))
set_option maxHeartbeats 4000000 in
set_option maxRecDepth 20000 in
theorem wl_X3_hangAsRead_63 {E : gs_E} {l : Launch} {p : Program} {e : Env} {s : State} {m : MethodId} {args : Array Value} {below : List Frame} {meth : Method} {c : Code} (C : gs_X E RX3 cX3_hangAsRead 3 p s m args meth c) {ov : Option Value} {σ0 : gs_H} {g0 : Int64} {g : Int64} {q : (gs_H)} (hx0 : ∀ (zs : gs_H), q = zs → gs_V E 3 (1, 22) p l e s m args below meth c ov σ0 g0 106 [(0, .ref (gs_a E 9))] [] zs g) : ∀ (n : Nat) (y2 : Int32) (ys : gs_H), lp (b_X3_hangAsRead_63) n (y2, ys) = some q → gs_V E 3 (1, 22) p l e s m args below meth c ov σ0 g0 63 [(0, .ref (gs_a E 9)), (1, .ref (gs_a E 3)), (2, .int y2)] [] ys g := by
  intro n
  induction n with
  | zero => intro y2 ys h; cases h
  | succ n ih =>
    intro y2 ys h
    obtain ⟨r, h, hl, he⟩ := lp_step h
    have hc := fun (y2 : Int32) (ys : gs_H) (hr : r = Sum.inl (y2, ys)) => ih y2 ys (hl _ hr)
    have hk0 := fun (zs : gs_H) (hr : r = Sum.inr zs) => hx0 zs (he _ hr).symm
    unfold b_X3_hangAsRead_63 at h
    try dsimp only at h
    refine x_iload_n C dX3_hangAsRead_63 rfl 2 rfl ?_
    refine x_bipush C dX3_hangAsRead_64 (v := 6) (by decide) ?_
    by_cases hc1 : (6 : Int32) ≤ y2
    · replace h := (if_pos hc1).symm.trans h
      refine x_icmp_geT C dX3_hangAsRead_66 (tgt := 106) (by decide) hc1 ?_
      refine x_lv (lv' := [(0, .ref (gs_a E 9))]) [0] rfl ?_
      obtain rfl := Option.some.inj h
      exact hk0 ys rfl
    · replace h := (if_neg hc1).symm.trans h
      refine x_icmp_geF C dX3_hangAsRead_66 (tgt := 106) (by decide) hc1 ?_
      refine x_aload_n C dX3_hangAsRead_69 rfl 0 rfl ?_
      refine x_getr C 9 rfl rfl inX3 5 (by decide) rfl kF_X3_18 rfl dX3_hangAsRead_70 ?_
      refine x_iload_n C dX3_hangAsRead_73 rfl 2 rfl ?_
      refine x_iload_n C dX3_hangAsRead_74 rfl 2 rfl ?_
      obtain ⟨hb2, h⟩ := ck_some h
      refine x_iast C 12 rfl hb2 dX3_hangAsRead_75 ?_
      refine x_aload_n C dX3_hangAsRead_76 rfl 0 rfl ?_
      refine x_getr C 9 rfl rfl inX3 6 (by decide) rfl kF_X3_21 rfl dX3_hangAsRead_77 ?_
      refine x_iload_n C dX3_hangAsRead_80 rfl 2 rfl ?_
      refine x_aload_n C dX3_hangAsRead_81 rfl 1 rfl ?_
      refine x_getr C 3 rfl rfl inX5 2 (by decide) rfl kF_X3_61 rfl dX3_hangAsRead_82 ?_
      refine x_iload_n C dX3_hangAsRead_85 rfl 2 rfl ?_
      obtain ⟨hb3, h⟩ := ck_some h
      refine x_iald C 6 rfl hb3 (v := (ys 6 y2.toNatClampNeg)) rfl dX3_hangAsRead_86 ?_
      obtain ⟨hb4, h⟩ := ck_some h
      refine x_iast C 13 rfl hb4 dX3_hangAsRead_87 ?_
      refine x_aload_n C dX3_hangAsRead_88 rfl 0 rfl ?_
      refine x_getr C 9 rfl rfl inX3 7 (by decide) rfl kF_X3_24 rfl dX3_hangAsRead_89 ?_
      refine x_iload_n C dX3_hangAsRead_92 rfl 2 rfl ?_
      refine x_aload_n C dX3_hangAsRead_93 rfl 1 rfl ?_
      refine x_getr C 3 rfl rfl inX5 3 (by decide) rfl kF_X3_62 rfl dX3_hangAsRead_94 ?_
      refine x_iload_n C dX3_hangAsRead_97 rfl 2 rfl ?_
      obtain ⟨hb5, h⟩ := ck_some h
      refine x_iald C 7 rfl hb5 (v := (ys 7 y2.toNatClampNeg)) rfl dX3_hangAsRead_98 ?_
      obtain ⟨hb6, h⟩ := ck_some h
      refine x_iast C 14 rfl hb6 dX3_hangAsRead_99 ?_
      refine x_iinc C dX3_hangAsRead_100 2 rfl (v := (y2 + (1 : Int32))) rfl (lv2 := [(0, .ref (gs_a E 9)), (1, .ref (gs_a E 3)), (2, .int (y2 + (1 : Int32)))]) (by decide) rfl [1, 2, 0] rfl ?_
      refine x_goto C dX3_hangAsRead_103 (tgt := 63) (by decide) ?_
      obtain rfl := Option.some.inj h
      exact hc (y2 + (1 : Int32)) (up2 (up2 (up2 ys 12 y2.toNatClampNeg y2) 13 y2.toNatClampNeg (ys 6 y2.toNatClampNeg)) 14 y2.toNatClampNeg (ys 7 y2.toNatClampNeg)) rfl
set_option maxHeartbeats 4000000 in
set_option maxRecDepth 20000 in
theorem wl_X3_hangAsRead_25 {E : gs_E} {l : Launch} {p : Program} {e : Env} {s : State} {m : MethodId} {args : Array Value} {below : List Frame} {meth : Method} {c : Code} (C : gs_X E RX3 cX3_hangAsRead 3 p s m args meth c) {ov : Option Value} {σ0 : gs_H} {g0 : Int64} {g : Int64} {q : (gs_H)} (hx0 : ∀ (zs : gs_H), q = zs → gs_V E 3 (1, 22) p l e s m args below meth c ov σ0 g0 61 [(0, .ref (gs_a E 9)), (1, .ref (gs_a E 3))] [] zs g) : ∀ (n : Nat) (y2 : Int32) (ys : gs_H), lp (b_X3_hangAsRead_25) n (y2, ys) = some q → gs_V E 3 (1, 22) p l e s m args below meth c ov σ0 g0 25 [(0, .ref (gs_a E 9)), (1, .ref (gs_a E 3)), (2, .int y2)] [] ys g := by
  intro n
  induction n with
  | zero => intro y2 ys h; cases h
  | succ n ih =>
    intro y2 ys h
    obtain ⟨r, h, hl, he⟩ := lp_step h
    have hc := fun (y2 : Int32) (ys : gs_H) (hr : r = Sum.inl (y2, ys)) => ih y2 ys (hl _ hr)
    have hk0 := fun (zs : gs_H) (hr : r = Sum.inr zs) => hx0 zs (he _ hr).symm
    unfold b_X3_hangAsRead_25 at h
    try dsimp only at h
    refine x_iload_n C dX3_hangAsRead_25 rfl 2 rfl ?_
    refine x_bipush C dX3_hangAsRead_26 (v := 10) (by decide) ?_
    by_cases hc1 : (10 : Int32) ≤ y2
    · replace h := (if_pos hc1).symm.trans h
      refine x_icmp_geT C dX3_hangAsRead_28 (tgt := 61) (by decide) hc1 ?_
      refine x_lv (lv' := [(0, .ref (gs_a E 9)), (1, .ref (gs_a E 3))]) [0, 1] rfl ?_
      obtain rfl := Option.some.inj h
      exact hk0 ys rfl
    · replace h := (if_neg hc1).symm.trans h
      refine x_icmp_geF C dX3_hangAsRead_28 (tgt := 61) (by decide) hc1 ?_
      refine x_aload_n C dX3_hangAsRead_31 rfl 0 rfl ?_
      refine x_getr C 9 rfl rfl inX3 3 (by decide) rfl kF_X3_9 rfl dX3_hangAsRead_32 ?_
      refine x_iload_n C dX3_hangAsRead_35 rfl 2 rfl ?_
      refine x_aload_n C dX3_hangAsRead_36 rfl 1 rfl ?_
      refine x_getr C 3 rfl rfl inX5 0 (by decide) rfl kF_X3_59 rfl dX3_hangAsRead_37 ?_
      refine x_iload_n C dX3_hangAsRead_40 rfl 2 rfl ?_
      obtain ⟨hb2, h⟩ := ck_some h
      refine x_iald C 4 rfl hb2 (v := (ys 4 y2.toNatClampNeg)) rfl dX3_hangAsRead_41 ?_
      obtain ⟨hb3, h⟩ := ck_some h
      refine x_iast C 10 rfl hb3 dX3_hangAsRead_42 ?_
      refine x_aload_n C dX3_hangAsRead_43 rfl 0 rfl ?_
      refine x_getr C 9 rfl rfl inX3 4 (by decide) rfl kF_X3_15 rfl dX3_hangAsRead_44 ?_
      refine x_iload_n C dX3_hangAsRead_47 rfl 2 rfl ?_
      refine x_aload_n C dX3_hangAsRead_48 rfl 1 rfl ?_
      refine x_getr C 3 rfl rfl inX5 1 (by decide) rfl kF_X3_60 rfl dX3_hangAsRead_49 ?_
      refine x_iload_n C dX3_hangAsRead_52 rfl 2 rfl ?_
      obtain ⟨hb4, h⟩ := ck_some h
      refine x_iald C 5 rfl hb4 (v := (ys 5 y2.toNatClampNeg)) rfl dX3_hangAsRead_53 ?_
      obtain ⟨hb5, h⟩ := ck_some h
      refine x_iast C 11 rfl hb5 dX3_hangAsRead_54 ?_
      refine x_iinc C dX3_hangAsRead_55 2 rfl (v := (y2 + (1 : Int32))) rfl (lv2 := [(0, .ref (gs_a E 9)), (1, .ref (gs_a E 3)), (2, .int (y2 + (1 : Int32)))]) (by decide) rfl [1, 2, 0] rfl ?_
      refine x_goto C dX3_hangAsRead_58 (tgt := 25) (by decide) ?_
      obtain rfl := Option.some.inj h
      exact hc (y2 + (1 : Int32)) (up2 (up2 ys 10 y2.toNatClampNeg (ys 4 y2.toNatClampNeg)) 11 y2.toNatClampNeg (ys 5 y2.toNatClampNeg)) rfl
set_option maxHeartbeats 4000000 in
set_option maxRecDepth 20000 in
theorem m_X3_hangAsRead {E : gs_E} {l : Launch} {σ : gs_H} {g : Int64} {σ0 : gs_H} (h : f_X3_hangAsRead σ = some σ0) : gs_M l E yX3_hangAsRead cX3_hangAsRead 3 (none) (1, 22) [.ref (gs_a E 9), .ref (gs_a E 3)] σ g (none) σ0 g := by
  refine x_enter (lv := [(0, .ref (gs_a E 9)), (1, .ref (gs_a E 3))]) (by decide +kernel) (Nat.le_of_ble_eq_true rfl) rfl (fun p e s m args below meth c C hr => ?_)
  unfold f_X3_hangAsRead at h
  refine x_aload_n C dX3_hangAsRead_0 rfl 0 rfl ?_
  refine x_aload_n C dX3_hangAsRead_1 rfl 1 rfl ?_
  refine x_geti C 3 rfl rfl inX5 4 (by decide) rfl kF_X3_41 rfl (v := (σ 3 4)) rfl dX3_hangAsRead_2 ?_
  refine x_iconst C dX3_hangAsRead_5 (v := 1) (by decide) ?_
  refine x_iadd C dX3_hangAsRead_6 ?_
  refine x_puti C 9 rfl rfl inX3 tyX3 tyX3_ok nmX3 0 (by decide) rfl kF_X3_47 rfl rfl rfl rfl dX3_hangAsRead_7 ?_
  refine x_aload_n C dX3_hangAsRead_10 rfl 0 rfl ?_
  refine x_aload_n C dX3_hangAsRead_11 rfl 1 rfl ?_
  refine x_geti C 3 rfl rfl inX5 5 (by decide) rfl kF_X3_50 rfl (v := (σ 3 5)) rfl dX3_hangAsRead_12 ?_
  refine x_puti C 9 rfl rfl inX3 tyX3 tyX3_ok nmX3 1 (by decide) rfl kF_X3_53 rfl rfl rfl rfl dX3_hangAsRead_15 ?_
  refine x_aload_n C dX3_hangAsRead_18 rfl 0 rfl ?_
  refine x_iconst C dX3_hangAsRead_19 (v := 0) (by decide) ?_
  refine x_puti C 9 rfl rfl inX3 tyX3 tyX3_ok nmX3 2 (by decide) rfl kF_X3_56 rfl rfl rfl rfl dX3_hangAsRead_20 ?_
  refine x_iconst C dX3_hangAsRead_23 (v := 0) (by decide) ?_
  refine x_istore_n C dX3_hangAsRead_24 rfl (lv2 := [(0, .ref (gs_a E 9)), (1, .ref (gs_a E 3)), (2, .int (0 : Int32))]) (by decide) rfl [1, 2, 0] rfl ?_
  obtain ⟨q1, hq1, h⟩ := Option.bind_eq_some_iff.mp h
  refine wl_X3_hangAsRead_25 C (fun s1_0 hz => ?_) 1000 _ _ hq1
  subst q1
  try dsimp only at h
  refine x_iconst C dX3_hangAsRead_61 (v := 0) (by decide) ?_
  refine x_istore_n C dX3_hangAsRead_62 rfl (lv2 := [(0, .ref (gs_a E 9)), (1, .ref (gs_a E 3)), (2, .int (0 : Int32))]) (by decide) rfl [1, 2, 0] rfl ?_
  obtain ⟨q2, hq2, h⟩ := Option.bind_eq_some_iff.mp h
  refine wl_X3_hangAsRead_63 C (fun s2_0 hz => ?_) 1000 _ _ hq2
  subst q2
  try dsimp only at h
  refine x_aload_n C dX3_hangAsRead_106 rfl 0 rfl ?_
  obtain ⟨⟨v3, s3⟩, hv3, h⟩ := Option.bind_eq_some_iff.mp h
  try dsimp only at h
  refine x_callV C 9 (m_X3_hangAllAgain hv3) rfl rfl kM_X3_63 kI_X3_hangAllAgain kS_X3_hangAllAgain kN_X3 kC_X3_hangAllAgain kD_X3_hangAllAgain rfl ⟨Nat.le_of_ble_eq_true rfl, Nat.le_of_ble_eq_true rfl⟩ ⟨Nat.le_refl _, Nat.le_refl _⟩ (rest := []) rfl (Nat.le_of_ble_eq_true rfl) dX3_hangAsRead_107 (st' := [.int v3]) rfl ?_
  refine x_pop C dX3_hangAsRead_110 rfl ?_
  refine x_aload_n C dX3_hangAsRead_111 rfl 0 rfl ?_
  refine x_getr C 9 rfl rfl inX3 10 (by decide) rfl kF_X3_37 rfl dX3_hangAsRead_112 ?_
  refine x_iconst C dX3_hangAsRead_115 (v := 0) (by decide) ?_
  refine x_puti C 17 rfl rfl inX7 tyX7 tyX7_ok nmX7 0 (by decide) rfl kF_X3_67 rfl rfl rfl rfl dX3_hangAsRead_116 ?_
  replace h := Option.some.inj h
  subst h
  exact x_retv C hr rfl dX3_hangAsRead_119
def f_X7_add (x1 : Int32) (x2 : Int32) (x3 : Int32) (x4 : Int32) (σ : gs_H) : Option (gs_H) :=
if (σ 17 0) < (6 : Int32) then (
if inb (σ 17 0) 6 then
if inb (σ 17 0) 6 then
if inb (σ 17 0) 6 then
if inb (σ 17 0) 6 then
some (up2 (up2 (up2 (up2 (up2 σ 18 (σ 17 0).toNatClampNeg x1) 19 (σ 17 0).toNatClampNeg x2) 20 (σ 17 0).toNatClampNeg x3) 21 (σ 17 0).toNatClampNeg x4) 17 0 ((σ 17 0) + (1 : Int32))) else none else none else none else none)
else (
some σ)
set_option maxHeartbeats 4000000 in
set_option maxRecDepth 20000 in
theorem m_X7_add {E : gs_E} {l : Launch} {x1 : Int32} {x2 : Int32} {x3 : Int32} {x4 : Int32} {σ : gs_H} {g : Int64} {σ0 : gs_H} (h : f_X7_add x1 x2 x3 x4 σ = some σ0) : gs_M l E yX7_add cX7_add 5 (none) (0, 0) [.ref (gs_a E 17), .int x1, .int x2, .int x3, .int x4] σ g (none) σ0 g := by
  refine x_enter (lv := [(0, .ref (gs_a E 17)), (1, .int x1), (2, .int x2), (3, .int x3), (4, .int x4)]) (by decide +kernel) (Nat.le_of_ble_eq_true rfl) rfl (fun p e s m args below meth c C hr => ?_)
  unfold f_X7_add at h
  refine x_aload_n C dX7_add_0 rfl 0 rfl ?_
  refine x_geti C 17 rfl rfl inX7 0 (by decide) rfl kF_X7_24 rfl (v := (σ 17 0)) rfl dX7_add_1 ?_
  refine x_bipush C dX7_add_4 (v := 6) (by decide) ?_
  by_cases hc1 : (σ 17 0) < (6 : Int32)
  · replace h := (if_pos hc1).symm.trans h
    refine x_icmp_ltT C dX7_add_6 (tgt := 10) (by decide) hc1 ?_
    refine x_aload_n C dX7_add_10 rfl 0 rfl ?_
    refine x_getr C 17 rfl rfl inX7 1 (by decide) rfl kF_X7_9 rfl dX7_add_11 ?_
    refine x_aload_n C dX7_add_14 rfl 0 rfl ?_
    refine x_geti C 17 rfl rfl inX7 0 (by decide) rfl kF_X7_24 rfl (v := (σ 17 0)) rfl dX7_add_15 ?_
    refine x_iload_n C dX7_add_18 rfl 1 rfl ?_
    obtain ⟨hb2, h⟩ := ck_some h
    refine x_iast C 18 rfl hb2 dX7_add_19 ?_
    refine x_aload_n C dX7_add_20 rfl 0 rfl ?_
    refine x_getr C 17 rfl rfl inX7 2 (by decide) rfl kF_X7_15 rfl dX7_add_21 ?_
    refine x_aload_n C dX7_add_24 rfl 0 rfl ?_
    refine x_geti C 17 rfl rfl inX7 0 (by decide) rfl kF_X7_24 rfl (v := (σ 17 0)) rfl dX7_add_25 ?_
    refine x_iload_n C dX7_add_28 rfl 2 rfl ?_
    obtain ⟨hb3, h⟩ := ck_some h
    refine x_iast C 19 rfl hb3 dX7_add_29 ?_
    refine x_aload_n C dX7_add_30 rfl 0 rfl ?_
    refine x_getr C 17 rfl rfl inX7 3 (by decide) rfl kF_X7_18 rfl dX7_add_31 ?_
    refine x_aload_n C dX7_add_34 rfl 0 rfl ?_
    refine x_geti C 17 rfl rfl inX7 0 (by decide) rfl kF_X7_24 rfl (v := (σ 17 0)) rfl dX7_add_35 ?_
    refine x_iload_n C dX7_add_38 rfl 3 rfl ?_
    obtain ⟨hb4, h⟩ := ck_some h
    refine x_iast C 20 rfl hb4 dX7_add_39 ?_
    refine x_aload_n C dX7_add_40 rfl 0 rfl ?_
    refine x_getr C 17 rfl rfl inX7 4 (by decide) rfl kF_X7_21 rfl dX7_add_41 ?_
    refine x_aload_n C dX7_add_44 rfl 0 rfl ?_
    refine x_geti C 17 rfl rfl inX7 0 (by decide) rfl kF_X7_24 rfl (v := (σ 17 0)) rfl dX7_add_45 ?_
    refine x_iload C dX7_add_48 4 rfl ?_
    obtain ⟨hb5, h⟩ := ck_some h
    refine x_iast C 21 rfl hb5 dX7_add_50 ?_
    refine x_aload_n C dX7_add_51 rfl 0 rfl ?_
    refine x_dup C dX7_add_52 rfl ?_
    refine x_geti C 17 rfl rfl inX7 0 (by decide) rfl kF_X7_24 rfl (v := (σ 17 0)) rfl dX7_add_53 ?_
    refine x_iconst C dX7_add_56 (v := 1) (by decide) ?_
    refine x_iadd C dX7_add_57 ?_
    refine x_puti C 17 rfl rfl inX7 tyX7 tyX7_ok nmX7 0 (by decide) rfl kF_X7_24 rfl rfl rfl rfl dX7_add_58 ?_
    replace h := Option.some.inj h
    subst h
    exact x_retv C hr rfl dX7_add_61
  · replace h := (if_neg hc1).symm.trans h
    refine x_icmp_ltF C dX7_add_6 (tgt := 10) (by decide) hc1 ?_
    replace h := Option.some.inj h
    subst h
    exact x_retv C hr rfl dX7_add_9
def f_X7_wayOf (x0 : Int32) : Int32 :=
if x0 = 0 then (
(1 : Int32))
else (
if 0 ≤ x0 then (
(2 : Int32))
else (
(0 : Int32)))
set_option maxHeartbeats 4000000 in
set_option maxRecDepth 20000 in
theorem m_X7_wayOf {E : gs_E} {l : Launch} {x0 : Int32} {σ : gs_H} {g : Int64} {r0 : Int32} (h : f_X7_wayOf x0 = r0) : gs_M l E yX7_wayOf cX7_wayOf 1 (some .int) (0, 0) [.int x0] σ g (some (.int r0)) σ g := by
  refine x_enter (lv := [(0, .int x0)]) (by decide +kernel) (Nat.le_of_ble_eq_true rfl) rfl (fun p e s m args below meth c C hr => ?_)
  unfold f_X7_wayOf at h
  refine x_iload_n C dX7_wayOf_0 rfl 0 rfl ?_
  by_cases hc1 : x0 = 0
  · replace h := (if_pos hc1).symm.trans h
    refine x_if_neF C dX7_wayOf_1 (tgt := 6) (by decide) hc1 ?_
    refine x_iconst C dX7_wayOf_4 (v := 1) (by decide) ?_
    subst h
    exact x_ret C hr rfl rfl dX7_wayOf_5
  · replace h := (if_neg hc1).symm.trans h
    refine x_if_neT C dX7_wayOf_1 (tgt := 6) (by decide) hc1 ?_
    refine x_iload_n C dX7_wayOf_6 rfl 0 rfl ?_
    by_cases hc2 : 0 ≤ x0
    · replace h := (if_pos hc2).symm.trans h
      refine x_if_geT C dX7_wayOf_7 (tgt := 14) (by decide) hc2 ?_
      refine x_iconst C dX7_wayOf_14 (v := 2) (by decide) ?_
      subst h
      exact x_ret C hr rfl rfl dX7_wayOf_15
    · replace h := (if_neg hc2).symm.trans h
      refine x_if_geF C dX7_wayOf_7 (tgt := 14) (by decide) hc2 ?_
      refine x_iconst C dX7_wayOf_10 (v := 0) (by decide) ?_
      refine x_goto C dX7_wayOf_11 (tgt := 15) (by decide) ?_
      subst h
      exact x_ret C hr rfl rfl dX7_wayOf_15
def b_X7_sizesTilting_20 (x1 : Int32) (x2 : Int32) (x4 : Int32) (x6 : Int32) (σ : gs_H) (y : Int32 × Int32) : Option ((Int32 × Int32) ⊕ ((Int32))) :=
if (10 : Int32) ≤ y.2 then (
some (Sum.inr y.1))
else (
if inb x1 6 then
if inb ((2 : Int32) * x2) 10 then
if (f_X7_wayOf (x6 - ((f_X1_weight (σ 13 x1.toNatClampNeg) y.2 (σ 9 2)) * (σ 10 ((2 : Int32) * x2).toNatClampNeg)))) = x4 then (
some (Sum.inl ((y.1 ||| ((1 : Int32) <<< (y.2 &&& 31))), (y.2 + (1 : Int32)))))
else (
some (Sum.inl (y.1, (y.2 + (1 : Int32))))) else none else none)
def f_X7_sizesTilting (x1 : Int32) (x2 : Int32) (x3 : Int32) (x4 : Int32) (σ : gs_H) : Option (Int32) :=
if inb (((2 : Int32) * x2) + (1 : Int32)) 10 then
(lp (b_X7_sizesTilting_20 x1 x2 x4 (x3 * (σ 10 (((2 : Int32) * x2) + (1 : Int32)).toNatClampNeg)) σ) 1000 ((0 : Int32), (0 : Int32))).bind fun q2 =>
some q2 else none
set_option maxHeartbeats 4000000 in
set_option maxRecDepth 20000 in
theorem wl_X7_sizesTilting_20 {E : gs_E} {l : Launch} {p : Program} {e : Env} {s : State} {m : MethodId} {args : Array Value} {below : List Frame} {meth : Method} {c : Code} (C : gs_X E RX7 cX7_sizesTilting 10 p s m args meth c) {ov : Option Value} {σ0 : gs_H} {g0 : Int64} {x1 : Int32} {x2 : Int32} {x4 : Int32} {x6 : Int32} {σ : gs_H} {g : Int64} {q : (Int32)} (hx0 : ∀ (z5 : Int32), q = z5 → gs_V E 10 (2, 43) p l e s m args below meth c ov σ0 g0 85 [(5, .int z5)] [] σ g) : ∀ (n : Nat) (y5 : Int32) (y7 : Int32), lp (b_X7_sizesTilting_20 x1 x2 x4 x6 σ) n (y5, y7) = some q → gs_V E 10 (2, 43) p l e s m args below meth c ov σ0 g0 20 [(0, .ref (gs_a E 9)), (1, .int x1), (2, .int x2), (4, .int x4), (5, .int y5), (6, .int x6), (7, .int y7)] [] σ g := by
  intro n
  induction n with
  | zero => intro y5 y7 h; cases h
  | succ n ih =>
    intro y5 y7 h
    obtain ⟨r, h, hl, he⟩ := lp_step h
    have hc := fun (y5 : Int32) (y7 : Int32) (hr : r = Sum.inl (y5, y7)) => ih y5 y7 (hl _ hr)
    have hk0 := fun (z5 : Int32) (hr : r = Sum.inr z5) => hx0 z5 (he _ hr).symm
    unfold b_X7_sizesTilting_20 at h
    try dsimp only at h
    refine x_iload C dX7_sizesTilting_20 6 rfl ?_
    refine x_bipush C dX7_sizesTilting_22 (v := 10) (by decide) ?_
    by_cases hc1 : (10 : Int32) ≤ y7
    · replace h := (if_pos hc1).symm.trans h
      refine x_icmp_geT C dX7_sizesTilting_24 (tgt := 85) (by decide) hc1 ?_
      refine x_lv (lv' := [(5, .int y5)]) [4] rfl ?_
      obtain rfl := Option.some.inj h
      exact hk0 y5 rfl
    · replace h := (if_neg hc1).symm.trans h
      refine x_icmp_geF C dX7_sizesTilting_24 (tgt := 85) (by decide) hc1 ?_
      refine x_aload_n C dX7_sizesTilting_27 rfl 0 rfl ?_
      refine x_getr C 9 rfl rfl inX3 6 (by decide) rfl kF_X7_53 rfl dX7_sizesTilting_28 ?_
      refine x_iload_n C dX7_sizesTilting_31 rfl 1 rfl ?_
      obtain ⟨hb2, h⟩ := ck_some h
      refine x_iald C 13 rfl hb2 (v := (σ 13 x1.toNatClampNeg)) rfl dX7_sizesTilting_32 ?_
      refine x_iload C dX7_sizesTilting_33 6 rfl ?_
      refine x_aload_n C dX7_sizesTilting_35 rfl 0 rfl ?_
      refine x_geti C 9 rfl rfl inX3 2 (by decide) rfl kF_X7_56 rfl (v := (σ 9 2)) rfl dX7_sizesTilting_36 ?_
      refine x_callS C (m_X1_weight rfl) kM_X7_59 kT_X1_weight kN_X1 kC_X1_weight kD_X1_weight rfl ⟨Nat.le_of_ble_eq_true rfl, Nat.le_of_ble_eq_true rfl⟩ ⟨Nat.le_refl _, Nat.le_refl _⟩ (rest := []) rfl (Nat.le_of_ble_eq_true rfl) dX7_sizesTilting_39 (st' := [.int (f_X1_weight (σ 13 x1.toNatClampNeg) y7 (σ 9 2))]) rfl ?_
      refine x_istore C dX7_sizesTilting_42 (lv2 := [(0, .ref (gs_a E 9)), (1, .int x1), (2, .int x2), (4, .int x4), (5, .int y5), (6, .int x6), (7, .int y7), (8, .int (f_X1_weight (σ 13 x1.toNatClampNeg) y7 (σ 9 2)))]) (by decide) rfl [1, 2, 3, 4, 5, 6, 7, 0] rfl ?_
      refine x_iload C dX7_sizesTilting_44 5 rfl ?_
      refine x_iload C dX7_sizesTilting_46 7 rfl ?_
      refine x_aload_n C dX7_sizesTilting_48 rfl 0 rfl ?_
      refine x_getr C 9 rfl rfl inX3 3 (by decide) rfl kF_X7_48 rfl dX7_sizesTilting_49 ?_
      refine x_iconst C dX7_sizesTilting_52 (v := 2) (by decide) ?_
      refine x_iload_n C dX7_sizesTilting_53 rfl 2 rfl ?_
      refine x_imul C dX7_sizesTilting_54 ?_
      obtain ⟨hb4, h⟩ := ck_some h
      refine x_iald C 10 rfl hb4 (v := (σ 10 ((2 : Int32) * x2).toNatClampNeg)) rfl dX7_sizesTilting_55 ?_
      refine x_imul C dX7_sizesTilting_56 ?_
      refine x_isub C dX7_sizesTilting_57 ?_
      refine x_istore C dX7_sizesTilting_58 (lv2 := [(0, .ref (gs_a E 9)), (1, .int x1), (2, .int x2), (4, .int x4), (5, .int y5), (6, .int x6), (7, .int y7), (8, .int (f_X1_weight (σ 13 x1.toNatClampNeg) y7 (σ 9 2))), (9, .int (x6 - ((f_X1_weight (σ 13 x1.toNatClampNeg) y7 (σ 9 2)) * (σ 10 ((2 : Int32) * x2).toNatClampNeg))))]) (by decide) rfl [1, 2, 3, 4, 5, 6, 7, 8, 0] rfl ?_
      refine x_iload C dX7_sizesTilting_60 8 rfl ?_
      refine x_callS C (m_X7_wayOf rfl) kM_X7_65 kT_X7_wayOf kN_X7 kC_X7_wayOf kD_X7_wayOf rfl ⟨Nat.le_of_ble_eq_true rfl, Nat.le_of_ble_eq_true rfl⟩ ⟨Nat.le_refl _, Nat.le_refl _⟩ (rest := []) rfl (Nat.le_of_ble_eq_true rfl) dX7_sizesTilting_62 (st' := [.int (f_X7_wayOf (x6 - ((f_X1_weight (σ 13 x1.toNatClampNeg) y7 (σ 9 2)) * (σ 10 ((2 : Int32) * x2).toNatClampNeg))))]) rfl ?_
      refine x_iload C dX7_sizesTilting_65 3 rfl ?_
      by_cases hc6 : (f_X7_wayOf (x6 - ((f_X1_weight (σ 13 x1.toNatClampNeg) y7 (σ 9 2)) * (σ 10 ((2 : Int32) * x2).toNatClampNeg)))) = x4
      · replace h := (if_pos hc6).symm.trans h
        refine x_icmp_neF C dX7_sizesTilting_67 (tgt := 79) (by decide) hc6 ?_
        refine x_iload C dX7_sizesTilting_70 4 rfl ?_
        refine x_iconst C dX7_sizesTilting_72 (v := 1) (by decide) ?_
        refine x_iload C dX7_sizesTilting_73 6 rfl ?_
        refine x_ishl C dX7_sizesTilting_75 ?_
        refine x_ior C dX7_sizesTilting_76 ?_
        refine x_istore C dX7_sizesTilting_77 (lv2 := [(0, .ref (gs_a E 9)), (1, .int x1), (2, .int x2), (4, .int x4), (5, .int (y5 ||| ((1 : Int32) <<< (y7 &&& 31)))), (6, .int x6), (7, .int y7), (8, .int (f_X1_weight (σ 13 x1.toNatClampNeg) y7 (σ 9 2))), (9, .int (x6 - ((f_X1_weight (σ 13 x1.toNatClampNeg) y7 (σ 9 2)) * (σ 10 ((2 : Int32) * x2).toNatClampNeg))))]) (by decide) rfl [1, 2, 3, 4, 0, 5, 6, 7, 8] rfl ?_
        refine x_iinc C dX7_sizesTilting_79 6 rfl (v := (y7 + (1 : Int32))) rfl (lv2 := [(0, .ref (gs_a E 9)), (1, .int x1), (2, .int x2), (4, .int x4), (5, .int (y5 ||| ((1 : Int32) <<< (y7 &&& 31)))), (6, .int x6), (7, .int (y7 + (1 : Int32))), (8, .int (f_X1_weight (σ 13 x1.toNatClampNeg) y7 (σ 9 2))), (9, .int (x6 - ((f_X1_weight (σ 13 x1.toNatClampNeg) y7 (σ 9 2)) * (σ 10 ((2 : Int32) * x2).toNatClampNeg))))]) (by decide) rfl [1, 2, 3, 4, 5, 6, 0, 7, 8] rfl ?_
        refine x_goto C dX7_sizesTilting_82 (tgt := 20) (by decide) ?_
        refine x_lv (lv' := [(0, .ref (gs_a E 9)), (1, .int x1), (2, .int x2), (4, .int x4), (5, .int (y5 ||| ((1 : Int32) <<< (y7 &&& 31)))), (6, .int x6), (7, .int (y7 + (1 : Int32)))]) [0, 1, 2, 3, 4, 5, 6] rfl ?_
        obtain rfl := Option.some.inj h
        exact hc (y5 ||| ((1 : Int32) <<< (y7 &&& 31))) (y7 + (1 : Int32)) rfl
      · replace h := (if_neg hc6).symm.trans h
        refine x_icmp_neT C dX7_sizesTilting_67 (tgt := 79) (by decide) hc6 ?_
        refine x_iinc C dX7_sizesTilting_79 6 rfl (v := (y7 + (1 : Int32))) rfl (lv2 := [(0, .ref (gs_a E 9)), (1, .int x1), (2, .int x2), (4, .int x4), (5, .int y5), (6, .int x6), (7, .int (y7 + (1 : Int32))), (8, .int (f_X1_weight (σ 13 x1.toNatClampNeg) y7 (σ 9 2))), (9, .int (x6 - ((f_X1_weight (σ 13 x1.toNatClampNeg) y7 (σ 9 2)) * (σ 10 ((2 : Int32) * x2).toNatClampNeg))))]) (by decide) rfl [1, 2, 3, 4, 5, 6, 0, 7, 8] rfl ?_
        refine x_goto C dX7_sizesTilting_82 (tgt := 20) (by decide) ?_
        refine x_lv (lv' := [(0, .ref (gs_a E 9)), (1, .int x1), (2, .int x2), (4, .int x4), (5, .int y5), (6, .int x6), (7, .int (y7 + (1 : Int32)))]) [0, 1, 2, 3, 4, 5, 6] rfl ?_
        obtain rfl := Option.some.inj h
        exact hc y5 (y7 + (1 : Int32)) rfl
set_option maxHeartbeats 4000000 in
set_option maxRecDepth 20000 in
theorem m_X7_sizesTilting {E : gs_E} {l : Launch} {x1 : Int32} {x2 : Int32} {x3 : Int32} {x4 : Int32} {σ : gs_H} {g : Int64} {r0 : Int32} (h : f_X7_sizesTilting x1 x2 x3 x4 σ = some r0) : gs_M l E yX7_sizesTilting cX7_sizesTilting 10 (some .int) (2, 43) [.ref (gs_a E 9), .int x1, .int x2, .int x3, .int x4] σ g (some (.int r0)) σ g := by
  refine x_enter (lv := [(0, .ref (gs_a E 9)), (1, .int x1), (2, .int x2), (3, .int x3), (4, .int x4)]) (by decide +kernel) (Nat.le_of_ble_eq_true rfl) rfl (fun p e s m args below meth c C hr => ?_)
  unfold f_X7_sizesTilting at h
  refine x_iconst C dX7_sizesTilting_0 (v := 0) (by decide) ?_
  refine x_istore C dX7_sizesTilting_1 (lv2 := [(0, .ref (gs_a E 9)), (1, .int x1), (2, .int x2), (3, .int x3), (4, .int x4), (5, .int (0 : Int32))]) (by decide) rfl [1, 2, 3, 4, 5, 0] rfl ?_
  refine x_iload_n C dX7_sizesTilting_3 rfl 3 rfl ?_
  refine x_aload_n C dX7_sizesTilting_4 rfl 0 rfl ?_
  refine x_getr C 9 rfl rfl inX3 3 (by decide) rfl kF_X7_48 rfl dX7_sizesTilting_5 ?_
  refine x_iconst C dX7_sizesTilting_8 (v := 2) (by decide) ?_
  refine x_iload_n C dX7_sizesTilting_9 rfl 2 rfl ?_
  refine x_imul C dX7_sizesTilting_10 ?_
  refine x_iconst C dX7_sizesTilting_11 (v := 1) (by decide) ?_
  refine x_iadd C dX7_sizesTilting_12 ?_
  obtain ⟨hb1, h⟩ := ck_some h
  refine x_iald C 10 rfl hb1 (v := (σ 10 (((2 : Int32) * x2) + (1 : Int32)).toNatClampNeg)) rfl dX7_sizesTilting_13 ?_
  refine x_imul C dX7_sizesTilting_14 ?_
  refine x_istore C dX7_sizesTilting_15 (lv2 := [(0, .ref (gs_a E 9)), (1, .int x1), (2, .int x2), (3, .int x3), (4, .int x4), (5, .int (0 : Int32)), (6, .int (x3 * (σ 10 (((2 : Int32) * x2) + (1 : Int32)).toNatClampNeg)))]) (by decide) rfl [1, 2, 3, 4, 5, 6, 0] rfl ?_
  refine x_iconst C dX7_sizesTilting_17 (v := 0) (by decide) ?_
  refine x_istore C dX7_sizesTilting_18 (lv2 := [(0, .ref (gs_a E 9)), (1, .int x1), (2, .int x2), (3, .int x3), (4, .int x4), (5, .int (0 : Int32)), (6, .int (x3 * (σ 10 (((2 : Int32) * x2) + (1 : Int32)).toNatClampNeg))), (7, .int (0 : Int32))]) (by decide) rfl [1, 2, 3, 4, 5, 6, 7, 0] rfl ?_
  refine x_lv (lv' := [(0, .ref (gs_a E 9)), (1, .int x1), (2, .int x2), (4, .int x4), (5, .int (0 : Int32)), (6, .int (x3 * (σ 10 (((2 : Int32) * x2) + (1 : Int32)).toNatClampNeg))), (7, .int (0 : Int32))]) [0, 1, 2, 4, 5, 6, 7] rfl ?_
  obtain ⟨q2, hq2, h⟩ := Option.bind_eq_some_iff.mp h
  refine wl_X7_sizesTilting_20 C (fun v2_0_5 hz => ?_) 1000 _ _ hq2
  subst q2
  try dsimp only at h
  refine x_iload C dX7_sizesTilting_85 0 rfl ?_
  replace h := Option.some.inj h
  subst h
  exact x_ret C hr rfl rfl dX7_sizesTilting_87
def b_X7_sizesOf_7 (x2 : Int32) (σ : gs_H) (y : Int32 × Int32) : Option ((Int32 × Int32) ⊕ ((Int32))) :=
if (σ 17 0) ≤ y.2 then (
some (Sum.inr y.1))
else (
if inb y.2 6 then
if (σ 18 y.2.toNatClampNeg) = x2 then (
if inb y.2 6 then
if inb y.2 6 then
if inb y.2 6 then
(f_X7_sizesTilting x2 (σ 19 y.2.toNatClampNeg) (σ 20 y.2.toNatClampNeg) (σ 21 y.2.toNatClampNeg) σ).bind fun q8 =>
some (Sum.inl ((y.1 &&& q8), (y.2 + (1 : Int32)))) else none else none else none)
else (
some (Sum.inl (y.1, (y.2 + (1 : Int32))))) else none)
def f_X7_sizesOf (x2 : Int32) (σ : gs_H) : Option (Int32) :=
(lp (b_X7_sizesOf_7 x2 σ) 1000 ((1023 : Int32), (0 : Int32))).bind fun q1 =>
some q1
set_option maxHeartbeats 4000000 in
set_option maxRecDepth 20000 in
theorem wl_X7_sizesOf_7 {E : gs_E} {l : Launch} {p : Program} {e : Env} {s : State} {m : MethodId} {args : Array Value} {below : List Frame} {meth : Method} {c : Code} (C : gs_X E RX7 cX7_sizesOf 5 p s m args meth c) {ov : Option Value} {σ0 : gs_H} {g0 : Int64} {x2 : Int32} {σ : gs_H} {g : Int64} {q : (Int32)} (hx0 : ∀ (z3 : Int32), q = z3 → gs_V E 5 (3, 72) p l e s m args below meth c ov σ0 g0 62 [(3, .int z3)] [] σ g) : ∀ (n : Nat) (y3 : Int32) (y4 : Int32), lp (b_X7_sizesOf_7 x2 σ) n (y3, y4) = some q → gs_V E 5 (3, 72) p l e s m args below meth c ov σ0 g0 7 [(0, .ref (gs_a E 17)), (1, .ref (gs_a E 9)), (2, .int x2), (3, .int y3), (4, .int y4)] [] σ g := by
  intro n
  induction n with
  | zero => intro y3 y4 h; cases h
  | succ n ih =>
    intro y3 y4 h
    obtain ⟨r, h, hl, he⟩ := lp_step h
    have hc := fun (y3 : Int32) (y4 : Int32) (hr : r = Sum.inl (y3, y4)) => ih y3 y4 (hl _ hr)
    have hk0 := fun (z3 : Int32) (hr : r = Sum.inr z3) => hx0 z3 (he _ hr).symm
    unfold b_X7_sizesOf_7 at h
    try dsimp only at h
    refine x_iload C dX7_sizesOf_7 4 rfl ?_
    refine x_aload_n C dX7_sizesOf_9 rfl 0 rfl ?_
    refine x_geti C 17 rfl rfl inX7 0 (by decide) rfl kF_X7_24 rfl (v := (σ 17 0)) rfl dX7_sizesOf_10 ?_
    by_cases hc1 : (σ 17 0) ≤ y4
    · replace h := (if_pos hc1).symm.trans h
      refine x_icmp_geT C dX7_sizesOf_13 (tgt := 62) (by decide) hc1 ?_
      refine x_lv (lv' := [(3, .int y3)]) [3] rfl ?_
      obtain rfl := Option.some.inj h
      exact hk0 y3 rfl
    · replace h := (if_neg hc1).symm.trans h
      refine x_icmp_geF C dX7_sizesOf_13 (tgt := 62) (by decide) hc1 ?_
      refine x_aload_n C dX7_sizesOf_16 rfl 0 rfl ?_
      refine x_getr C 17 rfl rfl inX7 1 (by decide) rfl kF_X7_9 rfl dX7_sizesOf_17 ?_
      refine x_iload C dX7_sizesOf_20 4 rfl ?_
      obtain ⟨hb2, h⟩ := ck_some h
      refine x_iald C 18 rfl hb2 (v := (σ 18 y4.toNatClampNeg)) rfl dX7_sizesOf_22 ?_
      refine x_iload_n C dX7_sizesOf_23 rfl 2 rfl ?_
      by_cases hc3 : (σ 18 y4.toNatClampNeg) = x2
      · replace h := (if_pos hc3).symm.trans h
        refine x_icmp_neF C dX7_sizesOf_24 (tgt := 56) (by decide) hc3 ?_
        refine x_iload_n C dX7_sizesOf_27 rfl 3 rfl ?_
        refine x_aload_n C dX7_sizesOf_28 rfl 1 rfl ?_
        refine x_iload_n C dX7_sizesOf_29 rfl 2 rfl ?_
        refine x_aload_n C dX7_sizesOf_30 rfl 0 rfl ?_
        refine x_getr C 17 rfl rfl inX7 2 (by decide) rfl kF_X7_15 rfl dX7_sizesOf_31 ?_
        refine x_iload C dX7_sizesOf_34 4 rfl ?_
        obtain ⟨hb4, h⟩ := ck_some h
        refine x_iald C 19 rfl hb4 (v := (σ 19 y4.toNatClampNeg)) rfl dX7_sizesOf_36 ?_
        refine x_aload_n C dX7_sizesOf_37 rfl 0 rfl ?_
        refine x_getr C 17 rfl rfl inX7 3 (by decide) rfl kF_X7_18 rfl dX7_sizesOf_38 ?_
        refine x_iload C dX7_sizesOf_41 4 rfl ?_
        obtain ⟨hb5, h⟩ := ck_some h
        refine x_iald C 20 rfl hb5 (v := (σ 20 y4.toNatClampNeg)) rfl dX7_sizesOf_43 ?_
        refine x_aload_n C dX7_sizesOf_44 rfl 0 rfl ?_
        refine x_getr C 17 rfl rfl inX7 4 (by decide) rfl kF_X7_21 rfl dX7_sizesOf_45 ?_
        refine x_iload C dX7_sizesOf_48 4 rfl ?_
        obtain ⟨hb6, h⟩ := ck_some h
        refine x_iald C 21 rfl hb6 (v := (σ 21 y4.toNatClampNeg)) rfl dX7_sizesOf_50 ?_
        obtain ⟨v7, hv7, h⟩ := Option.bind_eq_some_iff.mp h
        refine x_callS C (m_X7_sizesTilting hv7) kM_X7_28 kT_X7_sizesTilting kN_X7 kC_X7_sizesTilting kD_X7_sizesTilting rfl ⟨Nat.le_of_ble_eq_true rfl, Nat.le_of_ble_eq_true rfl⟩ ⟨Nat.le_refl _, Nat.le_refl _⟩ (rest := [.int y3]) rfl (Nat.le_of_ble_eq_true rfl) dX7_sizesOf_51 (st' := [.int v7, .int y3]) rfl ?_
        refine x_iand C dX7_sizesOf_54 ?_
        refine x_istore_n C dX7_sizesOf_55 rfl (lv2 := [(0, .ref (gs_a E 17)), (1, .ref (gs_a E 9)), (2, .int x2), (3, .int (y3 &&& v7)), (4, .int y4)]) (by decide) rfl [1, 2, 3, 0, 4] rfl ?_
        refine x_iinc C dX7_sizesOf_56 4 rfl (v := (y4 + (1 : Int32))) rfl (lv2 := [(0, .ref (gs_a E 17)), (1, .ref (gs_a E 9)), (2, .int x2), (3, .int (y3 &&& v7)), (4, .int (y4 + (1 : Int32)))]) (by decide) rfl [1, 2, 3, 4, 0] rfl ?_
        refine x_goto C dX7_sizesOf_59 (tgt := 7) (by decide) ?_
        obtain rfl := Option.some.inj h
        exact hc (y3 &&& v7) (y4 + (1 : Int32)) rfl
      · replace h := (if_neg hc3).symm.trans h
        refine x_icmp_neT C dX7_sizesOf_24 (tgt := 56) (by decide) hc3 ?_
        refine x_iinc C dX7_sizesOf_56 4 rfl (v := (y4 + (1 : Int32))) rfl (lv2 := [(0, .ref (gs_a E 17)), (1, .ref (gs_a E 9)), (2, .int x2), (3, .int y3), (4, .int (y4 + (1 : Int32)))]) (by decide) rfl [1, 2, 3, 4, 0] rfl ?_
        refine x_goto C dX7_sizesOf_59 (tgt := 7) (by decide) ?_
        obtain rfl := Option.some.inj h
        exact hc y3 (y4 + (1 : Int32)) rfl
set_option maxHeartbeats 4000000 in
set_option maxRecDepth 20000 in
theorem m_X7_sizesOf {E : gs_E} {l : Launch} {x2 : Int32} {σ : gs_H} {g : Int64} {r0 : Int32} (h : f_X7_sizesOf x2 σ = some r0) : gs_M l E yX7_sizesOf cX7_sizesOf 5 (some .int) (3, 72) [.ref (gs_a E 17), .ref (gs_a E 9), .int x2] σ g (some (.int r0)) σ g := by
  refine x_enter (lv := [(0, .ref (gs_a E 17)), (1, .ref (gs_a E 9)), (2, .int x2)]) (by decide +kernel) (Nat.le_of_ble_eq_true rfl) rfl (fun p e s m args below meth c C hr => ?_)
  unfold f_X7_sizesOf at h
  refine x_sipush C dX7_sizesOf_0 (v := 1023) (by decide) ?_
  refine x_istore_n C dX7_sizesOf_3 rfl (lv2 := [(0, .ref (gs_a E 17)), (1, .ref (gs_a E 9)), (2, .int x2), (3, .int (1023 : Int32))]) (by decide) rfl [1, 2, 3, 0] rfl ?_
  refine x_iconst C dX7_sizesOf_4 (v := 0) (by decide) ?_
  refine x_istore C dX7_sizesOf_5 (lv2 := [(0, .ref (gs_a E 17)), (1, .ref (gs_a E 9)), (2, .int x2), (3, .int (1023 : Int32)), (4, .int (0 : Int32))]) (by decide) rfl [1, 2, 3, 4, 0] rfl ?_
  obtain ⟨q1, hq1, h⟩ := Option.bind_eq_some_iff.mp h
  refine wl_X7_sizesOf_7 C (fun v1_0_3 hz => ?_) 1000 _ _ hq1
  subst q1
  try dsimp only at h
  refine x_iload_n C dX7_sizesOf_62 rfl 0 rfl ?_
  replace h := Option.some.inj h
  subst h
  exact x_ret C hr rfl rfl dX7_sizesOf_63
def b_X7_beadToTry_38 (x2 : Int32) (x3 : Int32) (x4 : Int32) (x7 : Int32) (σ : gs_H) (y : Int32 × Int32) : Option ((Int32 × Int32) ⊕ ((Int32))) :=
if (2 : Int32) < y.2 then (
some (Sum.inr y.1))
else (
(f_X7_sizesTilting x2 x3 x7 y.2 σ).bind fun q5 =>
some (Sum.inl ((if y.1 < (f_J6_bitCount_0f7a4 (x4 &&& q5)) then (f_J6_bitCount_0f7a4 (x4 &&& q5)) else y.1), (y.2 + (1 : Int32)))))
def b_X7_beadToTry_25 (x2 : Int32) (x3 : Int32) (x4 : Int32) (σ : gs_H) (y : Int32 × Int32 × Int32) : Option ((Int32 × Int32 × Int32) ⊕ ((Int32))) :=
if (10 : Int32) ≤ y.2.2 then (
some (Sum.inr y.1))
else (
(lp (b_X7_beadToTry_38 x2 x3 x4 y.2.2 σ) 1000 ((0 : Int32), (0 : Int32))).bind fun q8 =>
if y.2.1 ≤ q8 then (
some (Sum.inl (y.1, y.2.1, (y.2.2 + (1 : Int32)))))
else (
some (Sum.inl (y.2.2, q8, (y.2.2 + (1 : Int32))))))
def f_X7_beadToTry (x2 : Int32) (x3 : Int32) (σ : gs_H) : Option (Int32) :=
(f_X7_sizesOf x2 σ).bind fun q1 =>
if q1 = 0 then (
some (-1 : Int32))
else (
(lp (b_X7_beadToTry_25 x2 x3 q1 σ) 1000 ((0 : Int32), (11 : Int32), (0 : Int32))).bind fun q3 =>
some q3)
set_option maxHeartbeats 4000000 in
set_option maxRecDepth 20000 in
theorem wl_X7_beadToTry_38 {E : gs_E} {l : Launch} {p : Program} {e : Env} {s : State} {m : MethodId} {args : Array Value} {below : List Frame} {meth : Method} {c : Code} (C : gs_X E RX7 cX7_beadToTry 11 p s m args meth c) {ov : Option Value} {σ0 : gs_H} {g0 : Int64} {x2 : Int32} {x3 : Int32} {x4 : Int32} {x5 : Int32} {x6 : Int32} {x7 : Int32} {σ : gs_H} {g : Int64} {q : (Int32)} (hx0 : ∀ (z8 : Int32), q = z8 → gs_V E 11 (4, 96) p l e s m args below meth c ov σ0 g0 77 [(1, .ref (gs_a E 9)), (2, .int x2), (3, .int x3), (4, .int x4), (5, .int x5), (6, .int x6), (7, .int x7), (8, .int z8)] [] σ g) : ∀ (n : Nat) (y8 : Int32) (y9 : Int32), lp (b_X7_beadToTry_38 x2 x3 x4 x7 σ) n (y8, y9) = some q → gs_V E 11 (4, 96) p l e s m args below meth c ov σ0 g0 38 [(1, .ref (gs_a E 9)), (2, .int x2), (3, .int x3), (4, .int x4), (5, .int x5), (6, .int x6), (7, .int x7), (8, .int y8), (9, .int y9)] [] σ g := by
  intro n
  induction n with
  | zero => intro y8 y9 h; cases h
  | succ n ih =>
    intro y8 y9 h
    obtain ⟨r, h, hl, he⟩ := lp_step h
    have hc := fun (y8 : Int32) (y9 : Int32) (hr : r = Sum.inl (y8, y9)) => ih y8 y9 (hl _ hr)
    have hk0 := fun (z8 : Int32) (hr : r = Sum.inr z8) => hx0 z8 (he _ hr).symm
    unfold b_X7_beadToTry_38 at h
    try dsimp only at h
    refine x_iload C dX7_beadToTry_38 8 rfl ?_
    refine x_iconst C dX7_beadToTry_40 (v := 2) (by decide) ?_
    by_cases hc1 : (2 : Int32) < y9
    · replace h := (if_pos hc1).symm.trans h
      refine x_icmp_gtT C dX7_beadToTry_41 (tgt := 77) (by decide) hc1 ?_
      refine x_lv (lv' := [(1, .ref (gs_a E 9)), (2, .int x2), (3, .int x3), (4, .int x4), (5, .int x5), (6, .int x6), (7, .int x7), (8, .int y8)]) [0, 1, 2, 3, 4, 5, 6, 7] rfl ?_
      obtain rfl := Option.some.inj h
      exact hk0 y8 rfl
    · replace h := (if_neg hc1).symm.trans h
      refine x_icmp_gtF C dX7_beadToTry_41 (tgt := 77) (by decide) hc1 ?_
      refine x_iload C dX7_beadToTry_44 3 rfl ?_
      refine x_aload_n C dX7_beadToTry_46 rfl 0 rfl ?_
      refine x_iload_n C dX7_beadToTry_47 rfl 1 rfl ?_
      refine x_iload_n C dX7_beadToTry_48 rfl 2 rfl ?_
      refine x_iload C dX7_beadToTry_49 6 rfl ?_
      refine x_iload C dX7_beadToTry_51 8 rfl ?_
      obtain ⟨v2, hv2, h⟩ := Option.bind_eq_some_iff.mp h
      refine x_callS C (m_X7_sizesTilting hv2) kM_X7_28 kT_X7_sizesTilting kN_X7 kC_X7_sizesTilting kD_X7_sizesTilting rfl ⟨Nat.le_of_ble_eq_true rfl, Nat.le_of_ble_eq_true rfl⟩ ⟨Nat.le_refl _, Nat.le_refl _⟩ (rest := [.int x4]) rfl (Nat.le_of_ble_eq_true rfl) dX7_beadToTry_53 (st' := [.int v2, .int x4]) rfl ?_
      refine x_iand C dX7_beadToTry_56 ?_
      refine x_istore C dX7_beadToTry_57 (lv2 := [(1, .ref (gs_a E 9)), (2, .int x2), (3, .int x3), (4, .int x4), (5, .int x5), (6, .int x6), (7, .int x7), (8, .int y8), (9, .int y9), (10, .int (x4 &&& v2))]) (by decide) rfl [1, 2, 3, 4, 5, 6, 7, 8, 9, 0] rfl ?_
      refine x_iload C dX7_beadToTry_59 7 rfl ?_
      refine x_iload C dX7_beadToTry_61 9 rfl ?_
      refine x_callS C (m_J6_bitCount_0f7a4 rfl) kM_X7_36 kT_J6_bitCount_0f7a4 kN_J6 kC_J6_bitCount_0f7a4 kD_J6_bitCount_0f7a4 rfl ⟨Nat.le_of_ble_eq_true rfl, Nat.le_of_ble_eq_true rfl⟩ ⟨Nat.le_refl _, Nat.le_refl _⟩ (rest := [.int y8]) rfl (Nat.le_of_ble_eq_true rfl) dX7_beadToTry_63 (st' := [.int (f_J6_bitCount_0f7a4 (x4 &&& v2)), .int y8]) rfl ?_
      refine x_mmax C kM_X7_42 kT_Math_max kN_J9 kC_Math_max (Nat.le_of_ble_eq_true rfl) (Nat.le_of_ble_eq_true rfl) ⟨Nat.le_refl _, Nat.le_refl _⟩ dX7_beadToTry_66 ?_
      refine x_istore C dX7_beadToTry_69 (lv2 := [(1, .ref (gs_a E 9)), (2, .int x2), (3, .int x3), (4, .int x4), (5, .int x5), (6, .int x6), (7, .int x7), (8, .int (if y8 < (f_J6_bitCount_0f7a4 (x4 &&& v2)) then (f_J6_bitCount_0f7a4 (x4 &&& v2)) else y8)), (9, .int y9), (10, .int (x4 &&& v2))]) (by decide) rfl [1, 2, 3, 4, 5, 6, 7, 0, 8, 9] rfl ?_
      refine x_iinc C dX7_beadToTry_71 8 rfl (v := (y9 + (1 : Int32))) rfl (lv2 := [(1, .ref (gs_a E 9)), (2, .int x2), (3, .int x3), (4, .int x4), (5, .int x5), (6, .int x6), (7, .int x7), (8, .int (if y8 < (f_J6_bitCount_0f7a4 (x4 &&& v2)) then (f_J6_bitCount_0f7a4 (x4 &&& v2)) else y8)), (9, .int (y9 + (1 : Int32))), (10, .int (x4 &&& v2))]) (by decide) rfl [1, 2, 3, 4, 5, 6, 7, 8, 0, 9] rfl ?_
      refine x_goto C dX7_beadToTry_74 (tgt := 38) (by decide) ?_
      refine x_lv (lv' := [(1, .ref (gs_a E 9)), (2, .int x2), (3, .int x3), (4, .int x4), (5, .int x5), (6, .int x6), (7, .int x7), (8, .int (if y8 < (f_J6_bitCount_0f7a4 (x4 &&& v2)) then (f_J6_bitCount_0f7a4 (x4 &&& v2)) else y8)), (9, .int (y9 + (1 : Int32)))]) [0, 1, 2, 3, 4, 5, 6, 7, 8] rfl ?_
      obtain rfl := Option.some.inj h
      exact hc (if y8 < (f_J6_bitCount_0f7a4 (x4 &&& v2)) then (f_J6_bitCount_0f7a4 (x4 &&& v2)) else y8) (y9 + (1 : Int32)) rfl
set_option maxHeartbeats 4000000 in
set_option maxRecDepth 20000 in
theorem wl_X7_beadToTry_25 {E : gs_E} {l : Launch} {p : Program} {e : Env} {s : State} {m : MethodId} {args : Array Value} {below : List Frame} {meth : Method} {c : Code} (C : gs_X E RX7 cX7_beadToTry 11 p s m args meth c) {ov : Option Value} {σ0 : gs_H} {g0 : Int64} {x2 : Int32} {x3 : Int32} {x4 : Int32} {σ : gs_H} {g : Int64} {q : (Int32)} (hx0 : ∀ (z5 : Int32), q = z5 → gs_V E 11 (4, 96) p l e s m args below meth c ov σ0 g0 98 [(5, .int z5)] [] σ g) : ∀ (n : Nat) (y5 : Int32) (y6 : Int32) (y7 : Int32), lp (b_X7_beadToTry_25 x2 x3 x4 σ) n (y5, y6, y7) = some q → gs_V E 11 (4, 96) p l e s m args below meth c ov σ0 g0 25 [(1, .ref (gs_a E 9)), (2, .int x2), (3, .int x3), (4, .int x4), (5, .int y5), (6, .int y6), (7, .int y7)] [] σ g := by
  intro n
  induction n with
  | zero => intro y5 y6 y7 h; cases h
  | succ n ih =>
    intro y5 y6 y7 h
    obtain ⟨r, h, hl, he⟩ := lp_step h
    have hc := fun (y5 : Int32) (y6 : Int32) (y7 : Int32) (hr : r = Sum.inl (y5, y6, y7)) => ih y5 y6 y7 (hl _ hr)
    have hk0 := fun (z5 : Int32) (hr : r = Sum.inr z5) => hx0 z5 (he _ hr).symm
    unfold b_X7_beadToTry_25 at h
    try dsimp only at h
    refine x_iload C dX7_beadToTry_25 6 rfl ?_
    refine x_bipush C dX7_beadToTry_27 (v := 10) (by decide) ?_
    by_cases hc1 : (10 : Int32) ≤ y7
    · replace h := (if_pos hc1).symm.trans h
      refine x_icmp_geT C dX7_beadToTry_29 (tgt := 98) (by decide) hc1 ?_
      refine x_lv (lv' := [(5, .int y5)]) [4] rfl ?_
      obtain rfl := Option.some.inj h
      exact hk0 y5 rfl
    · replace h := (if_neg hc1).symm.trans h
      refine x_icmp_geF C dX7_beadToTry_29 (tgt := 98) (by decide) hc1 ?_
      refine x_iconst C dX7_beadToTry_32 (v := 0) (by decide) ?_
      refine x_istore C dX7_beadToTry_33 (lv2 := [(1, .ref (gs_a E 9)), (2, .int x2), (3, .int x3), (4, .int x4), (5, .int y5), (6, .int y6), (7, .int y7), (8, .int (0 : Int32))]) (by decide) rfl [1, 2, 3, 4, 5, 6, 7, 0] rfl ?_
      refine x_iconst C dX7_beadToTry_35 (v := 0) (by decide) ?_
      refine x_istore C dX7_beadToTry_36 (lv2 := [(1, .ref (gs_a E 9)), (2, .int x2), (3, .int x3), (4, .int x4), (5, .int y5), (6, .int y6), (7, .int y7), (8, .int (0 : Int32)), (9, .int (0 : Int32))]) (by decide) rfl [1, 2, 3, 4, 5, 6, 7, 8, 0] rfl ?_
      obtain ⟨q2, hq2, h⟩ := Option.bind_eq_some_iff.mp h
      refine wl_X7_beadToTry_38 C (fun v2_0_8 hz => ?_) 1000 _ _ hq2
      subst q2
      try dsimp only at h
      refine x_iload C dX7_beadToTry_77 7 rfl ?_
      refine x_iload C dX7_beadToTry_79 5 rfl ?_
      by_cases hc3 : y6 ≤ v2_0_8
      · replace h := (if_pos hc3).symm.trans h
        refine x_icmp_geT C dX7_beadToTry_81 (tgt := 92) (by decide) hc3 ?_
        refine x_iinc C dX7_beadToTry_92 6 rfl (v := (y7 + (1 : Int32))) rfl (lv2 := [(1, .ref (gs_a E 9)), (2, .int x2), (3, .int x3), (4, .int x4), (5, .int y5), (6, .int y6), (7, .int (y7 + (1 : Int32))), (8, .int v2_0_8)]) (by decide) rfl [1, 2, 3, 4, 5, 6, 0, 7] rfl ?_
        refine x_goto C dX7_beadToTry_95 (tgt := 25) (by decide) ?_
        refine x_lv (lv' := [(1, .ref (gs_a E 9)), (2, .int x2), (3, .int x3), (4, .int x4), (5, .int y5), (6, .int y6), (7, .int (y7 + (1 : Int32)))]) [0, 1, 2, 3, 4, 5, 6] rfl ?_
        obtain rfl := Option.some.inj h
        exact hc y5 y6 (y7 + (1 : Int32)) rfl
      · replace h := (if_neg hc3).symm.trans h
        refine x_icmp_geF C dX7_beadToTry_81 (tgt := 92) (by decide) hc3 ?_
        refine x_iload C dX7_beadToTry_84 7 rfl ?_
        refine x_istore C dX7_beadToTry_86 (lv2 := [(1, .ref (gs_a E 9)), (2, .int x2), (3, .int x3), (4, .int x4), (5, .int y5), (6, .int v2_0_8), (7, .int y7), (8, .int v2_0_8)]) (by decide) rfl [1, 2, 3, 4, 5, 0, 6, 7] rfl ?_
        refine x_iload C dX7_beadToTry_88 6 rfl ?_
        refine x_istore C dX7_beadToTry_90 (lv2 := [(1, .ref (gs_a E 9)), (2, .int x2), (3, .int x3), (4, .int x4), (5, .int y7), (6, .int v2_0_8), (7, .int y7), (8, .int v2_0_8)]) (by decide) rfl [1, 2, 3, 4, 0, 5, 6, 7] rfl ?_
        refine x_iinc C dX7_beadToTry_92 6 rfl (v := (y7 + (1 : Int32))) rfl (lv2 := [(1, .ref (gs_a E 9)), (2, .int x2), (3, .int x3), (4, .int x4), (5, .int y7), (6, .int v2_0_8), (7, .int (y7 + (1 : Int32))), (8, .int v2_0_8)]) (by decide) rfl [1, 2, 3, 4, 5, 6, 0, 7] rfl ?_
        refine x_goto C dX7_beadToTry_95 (tgt := 25) (by decide) ?_
        refine x_lv (lv' := [(1, .ref (gs_a E 9)), (2, .int x2), (3, .int x3), (4, .int x4), (5, .int y7), (6, .int v2_0_8), (7, .int (y7 + (1 : Int32)))]) [0, 1, 2, 3, 4, 5, 6] rfl ?_
        obtain rfl := Option.some.inj h
        exact hc y7 v2_0_8 (y7 + (1 : Int32)) rfl
set_option maxHeartbeats 4000000 in
set_option maxRecDepth 20000 in
theorem m_X7_beadToTry {E : gs_E} {l : Launch} {x2 : Int32} {x3 : Int32} {σ : gs_H} {g : Int64} {r0 : Int32} (h : f_X7_beadToTry x2 x3 σ = some r0) : gs_M l E yX7_beadToTry cX7_beadToTry 11 (some .int) (4, 96) [.ref (gs_a E 17), .ref (gs_a E 9), .int x2, .int x3] σ g (some (.int r0)) σ g := by
  refine x_enter (lv := [(0, .ref (gs_a E 17)), (1, .ref (gs_a E 9)), (2, .int x2), (3, .int x3)]) (by decide +kernel) (Nat.le_of_ble_eq_true rfl) rfl (fun p e s m args below meth c C hr => ?_)
  unfold f_X7_beadToTry at h
  refine x_aload_n C dX7_beadToTry_0 rfl 0 rfl ?_
  refine x_aload_n C dX7_beadToTry_1 rfl 1 rfl ?_
  refine x_iload_n C dX7_beadToTry_2 rfl 2 rfl ?_
  obtain ⟨v1, hv1, h⟩ := Option.bind_eq_some_iff.mp h
  refine x_callV C 17 (m_X7_sizesOf hv1) rfl rfl kM_X7_32 kI_X7_sizesOf kS_X7_sizesOf kN_X7 kC_X7_sizesOf kD_X7_sizesOf rfl ⟨Nat.le_of_ble_eq_true rfl, Nat.le_of_ble_eq_true rfl⟩ ⟨Nat.le_refl _, Nat.le_refl _⟩ (rest := []) rfl (Nat.le_of_ble_eq_true rfl) dX7_beadToTry_3 (st' := [.int v1]) rfl ?_
  refine x_istore C dX7_beadToTry_6 (lv2 := [(0, .ref (gs_a E 17)), (1, .ref (gs_a E 9)), (2, .int x2), (3, .int x3), (4, .int v1)]) (by decide) rfl [1, 2, 3, 4, 0] rfl ?_
  refine x_iload C dX7_beadToTry_8 4 rfl ?_
  by_cases hc2 : v1 = 0
  · replace h := (if_pos hc2).symm.trans h
    refine x_if_neF C dX7_beadToTry_10 (tgt := 15) (by decide) hc2 ?_
    refine x_iconst C dX7_beadToTry_13 (v := -1) (by decide) ?_
    replace h := Option.some.inj h
    subst h
    exact x_ret C hr rfl rfl dX7_beadToTry_14
  · replace h := (if_neg hc2).symm.trans h
    refine x_if_neT C dX7_beadToTry_10 (tgt := 15) (by decide) hc2 ?_
    refine x_iconst C dX7_beadToTry_15 (v := 0) (by decide) ?_
    refine x_istore C dX7_beadToTry_16 (lv2 := [(0, .ref (gs_a E 17)), (1, .ref (gs_a E 9)), (2, .int x2), (3, .int x3), (4, .int v1), (5, .int (0 : Int32))]) (by decide) rfl [1, 2, 3, 4, 5, 0] rfl ?_
    refine x_bipush C dX7_beadToTry_18 (v := 11) (by decide) ?_
    refine x_istore C dX7_beadToTry_20 (lv2 := [(0, .ref (gs_a E 17)), (1, .ref (gs_a E 9)), (2, .int x2), (3, .int x3), (4, .int v1), (5, .int (0 : Int32)), (6, .int (11 : Int32))]) (by decide) rfl [1, 2, 3, 4, 5, 6, 0] rfl ?_
    refine x_iconst C dX7_beadToTry_22 (v := 0) (by decide) ?_
    refine x_istore C dX7_beadToTry_23 (lv2 := [(0, .ref (gs_a E 17)), (1, .ref (gs_a E 9)), (2, .int x2), (3, .int x3), (4, .int v1), (5, .int (0 : Int32)), (6, .int (11 : Int32)), (7, .int (0 : Int32))]) (by decide) rfl [1, 2, 3, 4, 5, 6, 7, 0] rfl ?_
    refine x_lv (lv' := [(1, .ref (gs_a E 9)), (2, .int x2), (3, .int x3), (4, .int v1), (5, .int (0 : Int32)), (6, .int (11 : Int32)), (7, .int (0 : Int32))]) [1, 2, 3, 4, 5, 6, 7] rfl ?_
    obtain ⟨q3, hq3, h⟩ := Option.bind_eq_some_iff.mp h
    refine wl_X7_beadToTry_25 C (fun v3_0_5 hz => ?_) 1000 _ _ _ hq3
    subst q3
    try dsimp only at h
    refine x_iload C dX7_beadToTry_98 0 rfl ?_
    replace h := Option.some.inj h
    subst h
    exact x_ret C hr rfl rfl dX7_beadToTry_100
