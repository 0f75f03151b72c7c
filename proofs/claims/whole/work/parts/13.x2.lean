def b_X2_copyLaid_2 (y : Int32 × gs_H) : Option ((Int32 × gs_H) ⊕ ((gs_H))) :=
if (6 : Int32) ≤ y.1 then (
some (Sum.inr y.2))
else (
if inb y.1 6 then
if inb y.1 6 then
some (Sum.inl ((y.1 + (1 : Int32)), (up2 y.2 47 y.1.toNatClampNeg (y.2 12 y.1.toNatClampNeg)))) else none else none)
def f_X2_copyLaid (σ : gs_H) : Option (gs_H) :=
(lp (b_X2_copyLaid_2) 1000 ((0 : Int32), σ)).bind fun q1 =>
some q1
set_option maxHeartbeats 4000000 in
set_option maxRecDepth 20000 in
theorem wl_X2_copyLaid_2 {E : gs_E} {l : Launch} {p : Program} {e : Env} {s : State} {m : MethodId} {args : Array Value} {below : List Frame} {meth : Method} {c : Code} (C : gs_X E RX2 cX2_copyLaid 3 p s m args meth c) {ov : Option Value} {σ0 : gs_H} {g0 : Int64} {g : Int64} {q : (gs_H)} (hx0 : ∀ (zs : gs_H), q = zs → gs_V E 3 (0, 0) p l e s m args below meth c ov σ0 g0 26 [] [] zs g) : ∀ (n : Nat) (y2 : Int32) (ys : gs_H), lp (b_X2_copyLaid_2) n (y2, ys) = some q → gs_V E 3 (0, 0) p l e s m args below meth c ov σ0 g0 2 [(0, .ref (gs_a E 40)), (1, .ref (gs_a E 9)), (2, .int y2)] [] ys g := by
  intro n
  induction n with
  | zero => intro y2 ys h; cases h
  | succ n ih =>
    intro y2 ys h
    obtain ⟨r, h, hl, he⟩ := lp_step h
    have hc := fun (y2 : Int32) (ys : gs_H) (hr : r = Sum.inl (y2, ys)) => ih y2 ys (hl _ hr)
    have hk0 := fun (zs : gs_H) (hr : r = Sum.inr zs) => hx0 zs (he _ hr).symm
    unfold b_X2_copyLaid_2 at h
    try dsimp only at h
    refine x_iload_n C dX2_copyLaid_2 rfl 2 rfl ?_
    refine x_bipush C dX2_copyLaid_3 (v := 6) (by decide) ?_
    by_cases hc1 : (6 : Int32) ≤ y2
    · replace h := (if_pos hc1).symm.trans h
      refine x_icmp_geT C dX2_copyLaid_5 (tgt := 26) (by decide) hc1 ?_
      refine x_lv (lv' := []) [] rfl ?_
      obtain rfl := Option.some.inj h
      exact hk0 ys rfl
    · replace h := (if_neg hc1).symm.trans h
      refine x_icmp_geF C dX2_copyLaid_5 (tgt := 26) (by decide) hc1 ?_
      refine x_aload_n C dX2_copyLaid_8 rfl 0 rfl ?_
      refine x_getr C 40 rfl rfl inX2 6 (by decide) rfl kF_X2_22 rfl dX2_copyLaid_9 ?_
      refine x_iload_n C dX2_copyLaid_12 rfl 2 rfl ?_
      refine x_aload_n C dX2_copyLaid_13 rfl 1 rfl ?_
      refine x_getr C 9 rfl rfl inX3 5 (by decide) rfl kF_X2_113 rfl dX2_copyLaid_14 ?_
      refine x_iload_n C dX2_copyLaid_17 rfl 2 rfl ?_
      obtain ⟨hb2, h⟩ := ck_some h
      refine x_iald C 12 rfl hb2 (v := (ys 12 y2.toNatClampNeg)) rfl dX2_copyLaid_18 ?_
      obtain ⟨hb3, h⟩ := ck_some h
      refine x_iast C 47 rfl hb3 dX2_copyLaid_19 ?_
      refine x_iinc C dX2_copyLaid_20 2 rfl (v := (y2 + (1 : Int32))) rfl (lv2 := [(0, .ref (gs_a E 40)), (1, .ref (gs_a E 9)), (2, .int (y2 + (1 : Int32)))]) (by decide) rfl [1, 2, 0] rfl ?_
      refine x_goto C dX2_copyLaid_23 (tgt := 2) (by decide) ?_
      obtain rfl := Option.some.inj h
      exact hc (y2 + (1 : Int32)) (up2 ys 47 y2.toNatClampNeg (ys 12 y2.toNatClampNeg)) rfl
set_option maxHeartbeats 4000000 in
set_option maxRecDepth 20000 in
theorem m_X2_copyLaid {E : gs_E} {l : Launch} {σ : gs_H} {g : Int64} {σ0 : gs_H} (h : f_X2_copyLaid σ = some σ0) : gs_M l E yX2_copyLaid cX2_copyLaid 3 (none) (0, 0) [.ref (gs_a E 40), .ref (gs_a E 9)] σ g (none) σ0 g := by
  refine x_enter (lv := [(0, .ref (gs_a E 40)), (1, .ref (gs_a E 9))]) (by decide +kernel) (Nat.le_of_ble_eq_true rfl) rfl (fun p e s m args below meth c C hr => ?_)
  unfold f_X2_copyLaid at h
  refine x_iconst C dX2_copyLaid_0 (v := 0) (by decide) ?_
  refine x_istore_n C dX2_copyLaid_1 rfl (lv2 := [(0, .ref (gs_a E 40)), (1, .ref (gs_a E 9)), (2, .int (0 : Int32))]) (by decide) rfl [1, 2, 0] rfl ?_
  obtain ⟨q1, hq1, h⟩ := Option.bind_eq_some_iff.mp h
  refine wl_X2_copyLaid_2 C (fun s1_0 hz => ?_) 1000 _ _ hq1
  subst q1
  try dsimp only at h
  replace h := Option.some.inj h
  subst h
  exact x_retv C hr rfl dX2_copyLaid_26
def b_X2_beginOrders_94 (y : Int32 × Int32 × gs_H) : Option ((Int32 × Int32 × gs_H) ⊕ ((gs_H))) :=
if (y.2.2 9 1) ≤ y.2.1 then (
some (Sum.inr y.2.2))
else (
if (y.2.2 40 9) ≤ y.1 then (
some (Sum.inr y.2.2))
else (
if inb y.2.1 6 then
if (y.2.2 15 y.2.1.toNatClampNeg) = 0 then (
if inb y.1 6 then
some (Sum.inl ((y.1 + (1 : Int32)), (y.2.1 + (1 : Int32)), (up2 y.2.2 49 y.1.toNatClampNeg y.2.1))) else none)
else (
some (Sum.inl (y.1, (y.2.1 + (1 : Int32)), y.2.2))) else none))
def b_X2_beginOrders_29 (y : Int32 × gs_H) : Option ((Int32 × gs_H) ⊕ ((gs_H))) :=
if (y.2 9 1) ≤ y.1 then (
some (Sum.inr y.2))
else (
if inb y.1 6 then
if inb (y.2 47 y.1.toNatClampNeg) 6 then
if (y.2 15 (y.2 47 y.1.toNatClampNeg).toNatClampNeg) = 0 then (
if inb (y.2 40 9) 6 then
some (Sum.inl ((y.1 + (1 : Int32)), (up2 (up2 (up2 y.2 48 (y.2 40 9).toNatClampNeg y.1) 40 9 ((y.2 40 9) + (1 : Int32))) 40 10 ((y.2 40 10) * ((y.2 40 9) + (1 : Int32)))))) else none)
else (
some (Sum.inl ((y.1 + (1 : Int32)), y.2))) else none else none)
def f_X2_beginOrders (σ : gs_H) : Option (gs_H) :=
(f_X6_prepare 42 (σ 9 2) σ).bind fun q1 =>
(f_X2_copyLaid q1).bind fun q2 =>
(lp (b_X2_beginOrders_29) 1000 ((0 : Int32), (up2 (up2 q2 40 9 (0 : Int32)) 40 10 (1 : Int32)))).bind fun q3 =>
(lp (b_X2_beginOrders_94) 1000 ((0 : Int32), (0 : Int32), q3)).bind fun q4 =>
some q4
set_option maxHeartbeats 4000000 in
set_option maxRecDepth 20000 in
theorem wl_X2_beginOrders_94 {E : gs_E} {l : Launch} {p : Program} {e : Env} {s : State} {m : MethodId} {args : Array Value} {below : List Frame} {meth : Method} {c : Code} (C : gs_X E RX2 cX2_beginOrders 4 p s m args meth c) {ov : Option Value} {σ0 : gs_H} {g0 : Int64} {g : Int64} {q : (gs_H)} (hx0 : ∀ (zs : gs_H), q = zs → gs_V E 4 (3, 67) p l e s m args below meth c ov σ0 g0 135 [] [] zs g) : ∀ (n : Nat) (y2 : Int32) (y3 : Int32) (ys : gs_H), lp (b_X2_beginOrders_94) n (y2, y3, ys) = some q → gs_V E 4 (3, 67) p l e s m args below meth c ov σ0 g0 94 [(0, .ref (gs_a E 40)), (1, .ref (gs_a E 9)), (2, .int y2), (3, .int y3)] [] ys g := by
  intro n
  induction n with
  | zero => intro y2 y3 ys h; cases h
  | succ n ih =>
    intro y2 y3 ys h
    obtain ⟨r, h, hl, he⟩ := lp_step h
    have hc := fun (y2 : Int32) (y3 : Int32) (ys : gs_H) (hr : r = Sum.inl (y2, y3, ys)) => ih y2 y3 ys (hl _ hr)
    have hk0 := fun (zs : gs_H) (hr : r = Sum.inr zs) => hx0 zs (he _ hr).symm
    unfold b_X2_beginOrders_94 at h
    try dsimp only at h
    refine x_iload_n C dX2_beginOrders_94 rfl 3 rfl ?_
    refine x_aload_n C dX2_beginOrders_95 rfl 1 rfl ?_
    refine x_geti C 9 rfl rfl inX3 1 (by decide) rfl kF_X2_42 rfl (v := (ys 9 1)) rfl dX2_beginOrders_96 ?_
    by_cases hc1 : (ys 9 1) ≤ y3
    · replace h := (if_pos hc1).symm.trans h
      refine x_icmp_geT C dX2_beginOrders_99 (tgt := 135) (by decide) hc1 ?_
      refine x_lv (lv' := []) [] rfl ?_
      obtain rfl := Option.some.inj h
      exact hk0 ys rfl
    · replace h := (if_neg hc1).symm.trans h
      refine x_icmp_geF C dX2_beginOrders_99 (tgt := 135) (by decide) hc1 ?_
      refine x_iload_n C dX2_beginOrders_102 rfl 2 rfl ?_
      refine x_aload_n C dX2_beginOrders_103 rfl 0 rfl ?_
      refine x_geti C 40 rfl rfl inX2 9 (by decide) rfl kF_X2_89 rfl (v := (ys 40 9)) rfl dX2_beginOrders_104 ?_
      by_cases hc2 : (ys 40 9) ≤ y2
      · replace h := (if_pos hc2).symm.trans h
        refine x_icmp_geT C dX2_beginOrders_107 (tgt := 135) (by decide) hc2 ?_
        refine x_lv (lv' := []) [] rfl ?_
        obtain rfl := Option.some.inj h
        exact hk0 ys rfl
      · replace h := (if_neg hc2).symm.trans h
        refine x_icmp_geF C dX2_beginOrders_107 (tgt := 135) (by decide) hc2 ?_
        refine x_aload_n C dX2_beginOrders_110 rfl 1 rfl ?_
        refine x_getr C 9 rfl rfl inX3 8 (by decide) rfl kF_X2_52 rfl dX2_beginOrders_111 ?_
        refine x_iload_n C dX2_beginOrders_114 rfl 3 rfl ?_
        obtain ⟨hb3, h⟩ := ck_some h
        refine x_zald C 15 rfl hb3 (v := (ys 15 y3.toNatClampNeg)) rfl dX2_beginOrders_115 ?_
        by_cases hc4 : (ys 15 y3.toNatClampNeg) = 0
        · replace h := (if_pos hc4).symm.trans h
          refine x_if_neF C dX2_beginOrders_116 (tgt := 129) (by decide) hc4 ?_
          refine x_aload_n C dX2_beginOrders_119 rfl 0 rfl ?_
          refine x_getr C 40 rfl rfl inX2 8 (by decide) rfl kF_X2_28 rfl dX2_beginOrders_120 ?_
          refine x_iload_n C dX2_beginOrders_123 rfl 2 rfl ?_
          refine x_iload_n C dX2_beginOrders_124 rfl 3 rfl ?_
          obtain ⟨hb5, h⟩ := ck_some h
          refine x_iast C 49 rfl hb5 dX2_beginOrders_125 ?_
          refine x_iinc C dX2_beginOrders_126 2 rfl (v := (y2 + (1 : Int32))) rfl (lv2 := [(0, .ref (gs_a E 40)), (1, .ref (gs_a E 9)), (2, .int (y2 + (1 : Int32))), (3, .int y3)]) (by decide) rfl [1, 2, 0, 3] rfl ?_
          refine x_iinc C dX2_beginOrders_129 3 rfl (v := (y3 + (1 : Int32))) rfl (lv2 := [(0, .ref (gs_a E 40)), (1, .ref (gs_a E 9)), (2, .int (y2 + (1 : Int32))), (3, .int (y3 + (1 : Int32)))]) (by decide) rfl [1, 2, 3, 0] rfl ?_
          refine x_goto C dX2_beginOrders_132 (tgt := 94) (by decide) ?_
          obtain rfl := Option.some.inj h
          exact hc (y2 + (1 : Int32)) (y3 + (1 : Int32)) (up2 ys 49 y2.toNatClampNeg y3) rfl
        · replace h := (if_neg hc4).symm.trans h
          refine x_if_neT C dX2_beginOrders_116 (tgt := 129) (by decide) hc4 ?_
          refine x_iinc C dX2_beginOrders_129 3 rfl (v := (y3 + (1 : Int32))) rfl (lv2 := [(0, .ref (gs_a E 40)), (1, .ref (gs_a E 9)), (2, .int y2), (3, .int (y3 + (1 : Int32)))]) (by decide) rfl [1, 2, 3, 0] rfl ?_
          refine x_goto C dX2_beginOrders_132 (tgt := 94) (by decide) ?_
          obtain rfl := Option.some.inj h
          exact hc y2 (y3 + (1 : Int32)) ys rfl
set_option maxHeartbeats 4000000 in
set_option maxRecDepth 20000 in
theorem wl_X2_beginOrders_29 {E : gs_E} {l : Launch} {p : Program} {e : Env} {s : State} {m : MethodId} {args : Array Value} {below : List Frame} {meth : Method} {c : Code} (C : gs_X E RX2 cX2_beginOrders 4 p s m args meth c) {ov : Option Value} {σ0 : gs_H} {g0 : Int64} {g : Int64} {q : (gs_H)} (hx0 : ∀ (zs : gs_H), q = zs → gs_V E 4 (3, 67) p l e s m args below meth c ov σ0 g0 90 [(0, .ref (gs_a E 40)), (1, .ref (gs_a E 9))] [] zs g) : ∀ (n : Nat) (y2 : Int32) (ys : gs_H), lp (b_X2_beginOrders_29) n (y2, ys) = some q → gs_V E 4 (3, 67) p l e s m args below meth c ov σ0 g0 29 [(0, .ref (gs_a E 40)), (1, .ref (gs_a E 9)), (2, .int y2)] [] ys g := by
  intro n
  induction n with
  | zero => intro y2 ys h; cases h
  | succ n ih =>
    intro y2 ys h
    obtain ⟨r, h, hl, he⟩ := lp_step h
    have hc := fun (y2 : Int32) (ys : gs_H) (hr : r = Sum.inl (y2, ys)) => ih y2 ys (hl _ hr)
    have hk0 := fun (zs : gs_H) (hr : r = Sum.inr zs) => hx0 zs (he _ hr).symm
    unfold b_X2_beginOrders_29 at h
    try dsimp only at h
    refine x_iload_n C dX2_beginOrders_29 rfl 2 rfl ?_
    refine x_aload_n C dX2_beginOrders_30 rfl 1 rfl ?_
    refine x_geti C 9 rfl rfl inX3 1 (by decide) rfl kF_X2_42 rfl (v := (ys 9 1)) rfl dX2_beginOrders_31 ?_
    by_cases hc1 : (ys 9 1) ≤ y2
    · replace h := (if_pos hc1).symm.trans h
      refine x_icmp_geT C dX2_beginOrders_34 (tgt := 90) (by decide) hc1 ?_
      refine x_lv (lv' := [(0, .ref (gs_a E 40)), (1, .ref (gs_a E 9))]) [0, 1] rfl ?_
      obtain rfl := Option.some.inj h
      exact hk0 ys rfl
    · replace h := (if_neg hc1).symm.trans h
      refine x_icmp_geF C dX2_beginOrders_34 (tgt := 90) (by decide) hc1 ?_
      refine x_aload_n C dX2_beginOrders_37 rfl 1 rfl ?_
      refine x_getr C 9 rfl rfl inX3 8 (by decide) rfl kF_X2_52 rfl dX2_beginOrders_38 ?_
      refine x_aload_n C dX2_beginOrders_41 rfl 0 rfl ?_
      refine x_getr C 40 rfl rfl inX2 6 (by decide) rfl kF_X2_22 rfl dX2_beginOrders_42 ?_
      refine x_iload_n C dX2_beginOrders_45 rfl 2 rfl ?_
      obtain ⟨hb2, h⟩ := ck_some h
      refine x_iald C 47 rfl hb2 (v := (ys 47 y2.toNatClampNeg)) rfl dX2_beginOrders_46 ?_
      obtain ⟨hb3, h⟩ := ck_some h
      refine x_zald C 15 rfl hb3 (v := (ys 15 (ys 47 y2.toNatClampNeg).toNatClampNeg)) rfl dX2_beginOrders_47 ?_
      by_cases hc4 : (ys 15 (ys 47 y2.toNatClampNeg).toNatClampNeg) = 0
      · replace h := (if_pos hc4).symm.trans h
        refine x_if_neF C dX2_beginOrders_48 (tgt := 84) (by decide) hc4 ?_
        refine x_aload_n C dX2_beginOrders_51 rfl 0 rfl ?_
        refine x_getr C 40 rfl rfl inX2 7 (by decide) rfl kF_X2_25 rfl dX2_beginOrders_52 ?_
        refine x_aload_n C dX2_beginOrders_55 rfl 0 rfl ?_
        refine x_geti C 40 rfl rfl inX2 9 (by decide) rfl kF_X2_89 rfl (v := (ys 40 9)) rfl dX2_beginOrders_56 ?_
        refine x_iload_n C dX2_beginOrders_59 rfl 2 rfl ?_
        obtain ⟨hb5, h⟩ := ck_some h
        refine x_iast C 48 rfl hb5 dX2_beginOrders_60 ?_
        refine x_aload_n C dX2_beginOrders_61 rfl 0 rfl ?_
        refine x_dup C dX2_beginOrders_62 rfl ?_
        refine x_geti C 40 rfl rfl inX2 9 (by decide) rfl kF_X2_89 rfl (v := (ys 40 9)) rfl dX2_beginOrders_63 ?_
        refine x_iconst C dX2_beginOrders_66 (v := 1) (by decide) ?_
        refine x_iadd C dX2_beginOrders_67 ?_
        refine x_puti C 40 rfl rfl inX2 tyX2 tyX2_ok nmX2 9 (by decide) rfl kF_X2_89 rfl rfl rfl rfl dX2_beginOrders_68 ?_
        refine x_aload_n C dX2_beginOrders_71 rfl 0 rfl ?_
        refine x_dup C dX2_beginOrders_72 rfl ?_
        refine x_geti C 40 rfl rfl inX2 10 (by decide) rfl kF_X2_70 rfl (v := (ys 40 10)) rfl dX2_beginOrders_73 ?_
        refine x_aload_n C dX2_beginOrders_76 rfl 0 rfl ?_
        refine x_geti C 40 rfl rfl inX2 9 (by decide) rfl kF_X2_89 rfl (v := ((ys 40 9) + (1 : Int32))) rfl dX2_beginOrders_77 ?_
        refine x_imul C dX2_beginOrders_80 ?_
        refine x_puti C 40 rfl rfl inX2 tyX2 tyX2_ok nmX2 10 (by decide) rfl kF_X2_70 rfl rfl rfl rfl dX2_beginOrders_81 ?_
        refine x_iinc C dX2_beginOrders_84 2 rfl (v := (y2 + (1 : Int32))) rfl (lv2 := [(0, .ref (gs_a E 40)), (1, .ref (gs_a E 9)), (2, .int (y2 + (1 : Int32)))]) (by decide) rfl [1, 2, 0] rfl ?_
        refine x_goto C dX2_beginOrders_87 (tgt := 29) (by decide) ?_
        obtain rfl := Option.some.inj h
        exact hc (y2 + (1 : Int32)) (up2 (up2 (up2 ys 48 (ys 40 9).toNatClampNeg y2) 40 9 ((ys 40 9) + (1 : Int32))) 40 10 ((ys 40 10) * ((ys 40 9) + (1 : Int32)))) rfl
      · replace h := (if_neg hc4).symm.trans h
        refine x_if_neT C dX2_beginOrders_48 (tgt := 84) (by decide) hc4 ?_
        refine x_iinc C dX2_beginOrders_84 2 rfl (v := (y2 + (1 : Int32))) rfl (lv2 := [(0, .ref (gs_a E 40)), (1, .ref (gs_a E 9)), (2, .int (y2 + (1 : Int32)))]) (by decide) rfl [1, 2, 0] rfl ?_
        refine x_goto C dX2_beginOrders_87 (tgt := 29) (by decide) ?_
        obtain rfl := Option.some.inj h
        exact hc (y2 + (1 : Int32)) ys rfl
set_option maxHeartbeats 4000000 in
set_option maxRecDepth 20000 in
theorem m_X2_beginOrders {E : gs_E} {l : Launch} {σ : gs_H} {g : Int64} {σ0 : gs_H} (h : f_X2_beginOrders σ = some σ0) : gs_M l E yX2_beginOrders cX2_beginOrders 4 (none) (3, 67) [.ref (gs_a E 40), .ref (gs_a E 9)] σ g (none) σ0 g := by
  refine x_enter (lv := [(0, .ref (gs_a E 40)), (1, .ref (gs_a E 9))]) (by decide +kernel) (Nat.le_of_ble_eq_true rfl) rfl (fun p e s m args below meth c C hr => ?_)
  unfold f_X2_beginOrders at h
  refine x_aload_n C dX2_beginOrders_0 rfl 0 rfl ?_
  refine x_getr C 40 rfl rfl inX2 5 (by decide) rfl kF_X2_18 rfl dX2_beginOrders_1 ?_
  refine x_aload_n C dX2_beginOrders_4 rfl 1 rfl ?_
  refine x_aload_n C dX2_beginOrders_5 rfl 1 rfl ?_
  refine x_geti C 9 rfl rfl inX3 2 (by decide) rfl kF_X2_106 rfl (v := (σ 9 2)) rfl dX2_beginOrders_6 ?_
  obtain ⟨s1, hv1, h⟩ := Option.bind_eq_some_iff.mp h
  refine x_callV C 42 (m_X6_prepare_42 hv1) rfl rfl kM_X2_109 kI_X6_prepare kS_X6_prepare kN_X6 kC_X6_prepare kD_X6_prepare rfl ⟨Nat.le_of_ble_eq_true rfl, Nat.le_of_ble_eq_true rfl⟩ ⟨Nat.le_refl _, Nat.le_refl _⟩ (rest := []) rfl (Nat.le_of_ble_eq_true rfl) dX2_beginOrders_9 (st' := []) rfl ?_
  refine x_aload_n C dX2_beginOrders_12 rfl 0 rfl ?_
  refine x_aload_n C dX2_beginOrders_13 rfl 1 rfl ?_
  obtain ⟨s2, hv2, h⟩ := Option.bind_eq_some_iff.mp h
  refine x_callV C 40 (m_X2_copyLaid hv2) rfl rfl kM_X2_39 kI_X2_copyLaid kS_X2_copyLaid kN_X2 kC_X2_copyLaid kD_X2_copyLaid rfl ⟨Nat.le_of_ble_eq_true rfl, Nat.le_of_ble_eq_true rfl⟩ ⟨Nat.le_refl _, Nat.le_refl _⟩ (rest := []) rfl (Nat.le_of_ble_eq_true rfl) dX2_beginOrders_14 (st' := []) rfl ?_
  refine x_aload_n C dX2_beginOrders_17 rfl 0 rfl ?_
  refine x_iconst C dX2_beginOrders_18 (v := 0) (by decide) ?_
  refine x_puti C 40 rfl rfl inX2 tyX2 tyX2_ok nmX2 9 (by decide) rfl kF_X2_89 rfl rfl rfl rfl dX2_beginOrders_19 ?_
  refine x_aload_n C dX2_beginOrders_22 rfl 0 rfl ?_
  refine x_iconst C dX2_beginOrders_23 (v := 1) (by decide) ?_
  refine x_puti C 40 rfl rfl inX2 tyX2 tyX2_ok nmX2 10 (by decide) rfl kF_X2_70 rfl rfl rfl rfl dX2_beginOrders_24 ?_
  refine x_iconst C dX2_beginOrders_27 (v := 0) (by decide) ?_
  refine x_istore_n C dX2_beginOrders_28 rfl (lv2 := [(0, .ref (gs_a E 40)), (1, .ref (gs_a E 9)), (2, .int (0 : Int32))]) (by decide) rfl [1, 2, 0] rfl ?_
  obtain ⟨q3, hq3, h⟩ := Option.bind_eq_some_iff.mp h
  refine wl_X2_beginOrders_29 C (fun s3_0 hz => ?_) 1000 _ _ hq3
  subst q3
  try dsimp only at h
  refine x_iconst C dX2_beginOrders_90 (v := 0) (by decide) ?_
  refine x_istore_n C dX2_beginOrders_91 rfl (lv2 := [(0, .ref (gs_a E 40)), (1, .ref (gs_a E 9)), (2, .int (0 : Int32))]) (by decide) rfl [1, 2, 0] rfl ?_
  refine x_iconst C dX2_beginOrders_92 (v := 0) (by decide) ?_
  refine x_istore_n C dX2_beginOrders_93 rfl (lv2 := [(0, .ref (gs_a E 40)), (1, .ref (gs_a E 9)), (2, .int (0 : Int32)), (3, .int (0 : Int32))]) (by decide) rfl [1, 2, 3, 0] rfl ?_
  obtain ⟨q4, hq4, h⟩ := Option.bind_eq_some_iff.mp h
  refine wl_X2_beginOrders_94 C (fun s4_0 hz => ?_) 1000 _ _ _ hq4
  subst q4
  try dsimp only at h
  replace h := Option.some.inj h
  subst h
  exact x_retv C hr rfl dX2_beginOrders_135
def f_X2_levelIfSwapped (x2 : Int32) (x3 : Int32) (σ : gs_H) : Option (Int32 × gs_H) :=
if inb x2 6 then
if (σ 15 x2.toNatClampNeg) = 0 then (
if inb x3 6 then
if (σ 15 x3.toNatClampNeg) = 0 then (
(f_X8_swapThings 47 x2 x3 σ).bind fun q5 =>
(f_X6_hang 42 47 q5).bind fun q6 =>
(f_X8_swapThings 47 x2 x3 q6).bind fun q7 =>
(f_X6_rodsLevel 42 q7).bind fun q8 =>
some (q8, q7))
else (
some ((-1 : Int32), σ)) else none)
else (
some ((-1 : Int32), σ)) else none
set_option maxHeartbeats 4000000 in
set_option maxRecDepth 20000 in
theorem m_X2_levelIfSwapped {E : gs_E} {l : Launch} {x2 : Int32} {x3 : Int32} {σ : gs_H} {g : Int64} {r0 : Int32} {σ0 : gs_H} (h : f_X2_levelIfSwapped x2 x3 σ = some (r0, σ0)) : gs_M l E yX2_levelIfSwapped cX2_levelIfSwapped 4 (some .int) (3, 72) [.ref (gs_a E 40), .ref (gs_a E 9), .int x2, .int x3] σ g (some (.int r0)) σ0 g := by
  refine x_enter (lv := [(0, .ref (gs_a E 40)), (1, .ref (gs_a E 9)), (2, .int x2), (3, .int x3)]) (by decide +kernel) (Nat.le_of_ble_eq_true rfl) rfl (fun p e s m args below meth c C hr => ?_)
  unfold f_X2_levelIfSwapped at h
  refine x_aload_n C dX2_levelIfSwapped_0 rfl 1 rfl ?_
  refine x_getr C 9 rfl rfl inX3 8 (by decide) rfl kF_X2_52 rfl dX2_levelIfSwapped_1 ?_
  refine x_iload_n C dX2_levelIfSwapped_4 rfl 2 rfl ?_
  obtain ⟨hb1, h⟩ := ck_some h
  refine x_zald C 15 rfl hb1 (v := (σ 15 x2.toNatClampNeg)) rfl dX2_levelIfSwapped_5 ?_
  by_cases hc2 : (σ 15 x2.toNatClampNeg) = 0
  · replace h := (if_pos hc2).symm.trans h
    refine x_if_neF C dX2_levelIfSwapped_6 (tgt := 18) (by decide) hc2 ?_
    refine x_aload_n C dX2_levelIfSwapped_9 rfl 1 rfl ?_
    refine x_getr C 9 rfl rfl inX3 8 (by decide) rfl kF_X2_52 rfl dX2_levelIfSwapped_10 ?_
    refine x_iload_n C dX2_levelIfSwapped_13 rfl 3 rfl ?_
    obtain ⟨hb3, h⟩ := ck_some h
    refine x_zald C 15 rfl hb3 (v := (σ 15 x3.toNatClampNeg)) rfl dX2_levelIfSwapped_14 ?_
    by_cases hc4 : (σ 15 x3.toNatClampNeg) = 0
    · replace h := (if_pos hc4).symm.trans h
      refine x_if_eqT C dX2_levelIfSwapped_15 (tgt := 20) (by decide) hc4 ?_
      refine x_aload_n C dX2_levelIfSwapped_20 rfl 0 rfl ?_
      refine x_getr C 40 rfl rfl inX2 6 (by decide) rfl kF_X2_22 rfl dX2_levelIfSwapped_21 ?_
      refine x_iload_n C dX2_levelIfSwapped_24 rfl 2 rfl ?_
      refine x_iload_n C dX2_levelIfSwapped_25 rfl 3 rfl ?_
      obtain ⟨s5, hv5, h⟩ := Option.bind_eq_some_iff.mp h
      refine x_callN C (m_X8_swapThings_47 hv5) C.2.2.2.2.2.1.2.2.2.2.1 kT_X8_swapThings kN_X8 kC_X8_swapThings kD_X8_swapThings rfl ⟨Nat.le_of_ble_eq_true rfl, Nat.le_of_ble_eq_true rfl⟩ ⟨Nat.le_refl _, Nat.le_refl _⟩ (rest := []) rfl (Nat.le_of_ble_eq_true rfl) dX2_levelIfSwapped_26 (st' := []) rfl ?_
      refine x_aload_n C dX2_levelIfSwapped_29 rfl 0 rfl ?_
      refine x_getr C 40 rfl rfl inX2 5 (by decide) rfl kF_X2_18 rfl dX2_levelIfSwapped_30 ?_
      refine x_aload_n C dX2_levelIfSwapped_33 rfl 1 rfl ?_
      refine x_aload_n C dX2_levelIfSwapped_34 rfl 0 rfl ?_
      refine x_getr C 40 rfl rfl inX2 6 (by decide) rfl kF_X2_22 rfl dX2_levelIfSwapped_35 ?_
      obtain ⟨s6, hv6, h⟩ := Option.bind_eq_some_iff.mp h
      refine x_callV C 42 (m_X6_hang_42_47 hv6) rfl rfl kM_X2_60 kI_X6_hang kS_X6_hang kN_X6 kC_X6_hang kD_X6_hang rfl ⟨Nat.le_of_ble_eq_true rfl, Nat.le_of_ble_eq_true rfl⟩ ⟨Nat.le_refl _, Nat.le_refl _⟩ (rest := []) rfl (Nat.le_of_ble_eq_true rfl) dX2_levelIfSwapped_38 (st' := []) rfl ?_
      refine x_aload_n C dX2_levelIfSwapped_41 rfl 0 rfl ?_
      refine x_getr C 40 rfl rfl inX2 6 (by decide) rfl kF_X2_22 rfl dX2_levelIfSwapped_42 ?_
      refine x_iload_n C dX2_levelIfSwapped_45 rfl 2 rfl ?_
      refine x_iload_n C dX2_levelIfSwapped_46 rfl 3 rfl ?_
      obtain ⟨s7, hv7, h⟩ := Option.bind_eq_some_iff.mp h
      refine x_callN C (m_X8_swapThings_47 hv7) C.2.2.2.2.2.1.2.2.2.2.1 kT_X8_swapThings kN_X8 kC_X8_swapThings kD_X8_swapThings rfl ⟨Nat.le_of_ble_eq_true rfl, Nat.le_of_ble_eq_true rfl⟩ ⟨Nat.le_refl _, Nat.le_refl _⟩ (rest := []) rfl (Nat.le_of_ble_eq_true rfl) dX2_levelIfSwapped_47 (st' := []) rfl ?_
      refine x_aload_n C dX2_levelIfSwapped_50 rfl 0 rfl ?_
      refine x_getr C 40 rfl rfl inX2 5 (by decide) rfl kF_X2_18 rfl dX2_levelIfSwapped_51 ?_
      refine x_aload_n C dX2_levelIfSwapped_54 rfl 1 rfl ?_
      obtain ⟨v8, hv8, h⟩ := Option.bind_eq_some_iff.mp h
      refine x_callV C 42 (m_X6_rodsLevel_42 hv8) rfl rfl kM_X2_35 kI_X6_rodsLevel kS_X6_rodsLevel kN_X6 kC_X6_rodsLevel kD_X6_rodsLevel rfl ⟨Nat.le_of_ble_eq_true rfl, Nat.le_of_ble_eq_true rfl⟩ ⟨Nat.le_refl _, Nat.le_refl _⟩ (rest := []) rfl (Nat.le_of_ble_eq_true rfl) dX2_levelIfSwapped_55 (st' := [.int v8]) rfl ?_
      replace h := Option.some.inj h
      obtain ⟨rfl, rfl⟩ := Prod.mk.inj h
      exact x_ret C hr rfl rfl dX2_levelIfSwapped_58
    · replace h := (if_neg hc4).symm.trans h
      refine x_if_eqF C dX2_levelIfSwapped_15 (tgt := 20) (by decide) hc4 ?_
      refine x_iconst C dX2_levelIfSwapped_18 (v := -1) (by decide) ?_
      replace h := Option.some.inj h
      obtain ⟨rfl, rfl⟩ := Prod.mk.inj h
      exact x_ret C hr rfl rfl dX2_levelIfSwapped_19
  · replace h := (if_neg hc2).symm.trans h
    refine x_if_neT C dX2_levelIfSwapped_6 (tgt := 18) (by decide) hc2 ?_
    refine x_iconst C dX2_levelIfSwapped_18 (v := -1) (by decide) ?_
    replace h := Option.some.inj h
    obtain ⟨rfl, rfl⟩ := Prod.mk.inj h
    exact x_ret C hr rfl rfl dX2_levelIfSwapped_19
def b_X2_bestExchange_42 (x4 : Int32) (y : Int32 × Int32 × Int32 × gs_H) : Option ((Int32 × Int32 × Int32 × gs_H) ⊕ ((Int32 × Int32 × gs_H))) :=
if (y.2.2.2 9 1) ≤ y.2.2.1 then (
some (Sum.inr (y.1, y.2.1, y.2.2.2)))
else (
(f_X2_levelIfSwapped x4 y.2.2.1 y.2.2.2).bind fun q6 =>
if q6.1 ≤ y.1 then (
some (Sum.inl (y.1, y.2.1, (y.2.2.1 + (1 : Int32)), q6.2)))
else (
some (Sum.inl (q6.1, (((10 : Int32) * x4) + y.2.2.1), (y.2.2.1 + (1 : Int32)), q6.2))))
def b_X2_bestExchange_27 (y : Int32 × Int32 × Int32 × gs_H) : Option ((Int32 × Int32 × Int32 × gs_H) ⊕ ((Int32 × gs_H))) :=
if (y.2.2.2 9 1) ≤ y.2.2.1 then (
some (Sum.inr (y.2.1, y.2.2.2)))
else (
(lp (b_X2_bestExchange_42 y.2.2.1) 1000 (y.1, y.2.1, (y.2.2.1 + (1 : Int32)), y.2.2.2)).bind fun q9 =>
some (Sum.inl (q9.1, q9.2.1, (y.2.2.1 + (1 : Int32)), q9.2.2)))
def f_X2_bestExchange (σ : gs_H) : Option (Int32 × gs_H) :=
(f_X6_weigh 42 σ).bind fun q1 =>
(f_X6_rodsLevel 42 q1).bind fun q2 =>
(f_X2_copyLaid q1).bind fun q3 =>
(lp (b_X2_bestExchange_27) 1000 (q2, (-1 : Int32), (0 : Int32), q3)).bind fun q4 =>
some (q4.1, q4.2)
set_option maxHeartbeats 4000000 in
set_option maxRecDepth 20000 in
theorem wl_X2_bestExchange_42 {E : gs_E} {l : Launch} {p : Program} {e : Env} {s : State} {m : MethodId} {args : Array Value} {below : List Frame} {meth : Method} {c : Code} (C : gs_X E RX2 cX2_bestExchange 7 p s m args meth c) {ov : Option Value} {σ0 : gs_H} {g0 : Int64} {x4 : Int32} {g : Int64} {q : (Int32 × Int32 × gs_H)} (hx0 : ∀ (z2 : Int32) (z3 : Int32) (zs : gs_H), q = (z2, z3, zs) → gs_V E 7 (4, 95) p l e s m args below meth c ov σ0 g0 86 [(0, .ref (gs_a E 40)), (1, .ref (gs_a E 9)), (2, .int z2), (3, .int z3), (4, .int x4)] [] zs g) : ∀ (n : Nat) (y2 : Int32) (y3 : Int32) (y5 : Int32) (ys : gs_H), lp (b_X2_bestExchange_42 x4) n (y2, y3, y5, ys) = some q → gs_V E 7 (4, 95) p l e s m args below meth c ov σ0 g0 42 [(0, .ref (gs_a E 40)), (1, .ref (gs_a E 9)), (2, .int y2), (3, .int y3), (4, .int x4), (5, .int y5)] [] ys g := by
  intro n
  induction n with
  | zero => intro y2 y3 y5 ys h; cases h
  | succ n ih =>
    intro y2 y3 y5 ys h
    obtain ⟨r, h, hl, he⟩ := lp_step h
    have hc := fun (y2 : Int32) (y3 : Int32) (y5 : Int32) (ys : gs_H) (hr : r = Sum.inl (y2, y3, y5, ys)) => ih y2 y3 y5 ys (hl _ hr)
    have hk0 := fun (z2 : Int32) (z3 : Int32) (zs : gs_H) (hr : r = Sum.inr (z2, z3, zs)) => hx0 z2 z3 zs (he _ hr).symm
    unfold b_X2_bestExchange_42 at h
    try dsimp only at h
    refine x_iload C dX2_bestExchange_42 5 rfl ?_
    refine x_aload_n C dX2_bestExchange_44 rfl 1 rfl ?_
    refine x_geti C 9 rfl rfl inX3 1 (by decide) rfl kF_X2_42 rfl (v := (ys 9 1)) rfl dX2_bestExchange_45 ?_
    by_cases hc1 : (ys 9 1) ≤ y5
    · replace h := (if_pos hc1).symm.trans h
      refine x_icmp_geT C dX2_bestExchange_48 (tgt := 86) (by decide) hc1 ?_
      refine x_lv (lv' := [(0, .ref (gs_a E 40)), (1, .ref (gs_a E 9)), (2, .int y2), (3, .int y3), (4, .int x4)]) [0, 1, 2, 3, 4] rfl ?_
      obtain rfl := Option.some.inj h
      exact hk0 y2 y3 ys rfl
    · replace h := (if_neg hc1).symm.trans h
      refine x_icmp_geF C dX2_bestExchange_48 (tgt := 86) (by decide) hc1 ?_
      refine x_aload_n C dX2_bestExchange_51 rfl 0 rfl ?_
      refine x_aload_n C dX2_bestExchange_52 rfl 1 rfl ?_
      refine x_iload C dX2_bestExchange_53 4 rfl ?_
      refine x_iload C dX2_bestExchange_55 5 rfl ?_
      obtain ⟨⟨v2, s2⟩, hv2, h⟩ := Option.bind_eq_some_iff.mp h
      try dsimp only at h
      refine x_callV C 40 (m_X2_levelIfSwapped hv2) rfl rfl kM_X2_48 kI_X2_levelIfSwapped kS_X2_levelIfSwapped kN_X2 kC_X2_levelIfSwapped kD_X2_levelIfSwapped rfl ⟨Nat.le_of_ble_eq_true rfl, Nat.le_of_ble_eq_true rfl⟩ ⟨Nat.le_refl _, Nat.le_refl _⟩ (rest := []) rfl (Nat.le_of_ble_eq_true rfl) dX2_bestExchange_57 (st' := [.int v2]) rfl ?_
      refine x_istore C dX2_bestExchange_60 (lv2 := [(0, .ref (gs_a E 40)), (1, .ref (gs_a E 9)), (2, .int y2), (3, .int y3), (4, .int x4), (5, .int y5), (6, .int v2)]) (by decide) rfl [1, 2, 3, 4, 5, 6, 0] rfl ?_
      refine x_iload C dX2_bestExchange_62 6 rfl ?_
      refine x_iload_n C dX2_bestExchange_64 rfl 2 rfl ?_
      by_cases hc3 : v2 ≤ y2
      · replace h := (if_pos hc3).symm.trans h
        refine x_icmp_leT C dX2_bestExchange_65 (tgt := 80) (by decide) hc3 ?_
        refine x_iinc C dX2_bestExchange_80 5 rfl (v := (y5 + (1 : Int32))) rfl (lv2 := [(0, .ref (gs_a E 40)), (1, .ref (gs_a E 9)), (2, .int y2), (3, .int y3), (4, .int x4), (5, .int (y5 + (1 : Int32))), (6, .int v2)]) (by decide) rfl [1, 2, 3, 4, 5, 0, 6] rfl ?_
        refine x_goto C dX2_bestExchange_83 (tgt := 42) (by decide) ?_
        refine x_lv (lv' := [(0, .ref (gs_a E 40)), (1, .ref (gs_a E 9)), (2, .int y2), (3, .int y3), (4, .int x4), (5, .int (y5 + (1 : Int32)))]) [0, 1, 2, 3, 4, 5] rfl ?_
        obtain rfl := Option.some.inj h
        exact hc y2 y3 (y5 + (1 : Int32)) s2 rfl
      · replace h := (if_neg hc3).symm.trans h
        refine x_icmp_leF C dX2_bestExchange_65 (tgt := 80) (by decide) hc3 ?_
        refine x_iload C dX2_bestExchange_68 6 rfl ?_
        refine x_istore_n C dX2_bestExchange_70 rfl (lv2 := [(0, .ref (gs_a E 40)), (1, .ref (gs_a E 9)), (2, .int v2), (3, .int y3), (4, .int x4), (5, .int y5), (6, .int v2)]) (by decide) rfl [1, 2, 0, 3, 4, 5, 6] rfl ?_
        refine x_bipush C dX2_bestExchange_71 (v := 10) (by decide) ?_
        refine x_iload C dX2_bestExchange_73 4 rfl ?_
        refine x_imul C dX2_bestExchange_75 ?_
        refine x_iload C dX2_bestExchange_76 5 rfl ?_
        refine x_iadd C dX2_bestExchange_78 ?_
        refine x_istore_n C dX2_bestExchange_79 rfl (lv2 := [(0, .ref (gs_a E 40)), (1, .ref (gs_a E 9)), (2, .int v2), (3, .int (((10 : Int32) * x4) + y5)), (4, .int x4), (5, .int y5), (6, .int v2)]) (by decide) rfl [1, 2, 3, 0, 4, 5, 6] rfl ?_
        refine x_iinc C dX2_bestExchange_80 5 rfl (v := (y5 + (1 : Int32))) rfl (lv2 := [(0, .ref (gs_a E 40)), (1, .ref (gs_a E 9)), (2, .int v2), (3, .int (((10 : Int32) * x4) + y5)), (4, .int x4), (5, .int (y5 + (1 : Int32))), (6, .int v2)]) (by decide) rfl [1, 2, 3, 4, 5, 0, 6] rfl ?_
        refine x_goto C dX2_bestExchange_83 (tgt := 42) (by decide) ?_
        refine x_lv (lv' := [(0, .ref (gs_a E 40)), (1, .ref (gs_a E 9)), (2, .int v2), (3, .int (((10 : Int32) * x4) + y5)), (4, .int x4), (5, .int (y5 + (1 : Int32)))]) [0, 1, 2, 3, 4, 5] rfl ?_
        obtain rfl := Option.some.inj h
        exact hc v2 (((10 : Int32) * x4) + y5) (y5 + (1 : Int32)) s2 rfl
set_option maxHeartbeats 4000000 in
set_option maxRecDepth 20000 in
theorem wl_X2_bestExchange_27 {E : gs_E} {l : Launch} {p : Program} {e : Env} {s : State} {m : MethodId} {args : Array Value} {below : List Frame} {meth : Method} {c : Code} (C : gs_X E RX2 cX2_bestExchange 7 p s m args meth c) {ov : Option Value} {σ0 : gs_H} {g0 : Int64} {g : Int64} {q : (Int32 × gs_H)} (hx0 : ∀ (z3 : Int32) (zs : gs_H), q = (z3, zs) → gs_V E 7 (4, 95) p l e s m args below meth c ov σ0 g0 92 [(3, .int z3)] [] zs g) : ∀ (n : Nat) (y2 : Int32) (y3 : Int32) (y4 : Int32) (ys : gs_H), lp (b_X2_bestExchange_27) n (y2, y3, y4, ys) = some q → gs_V E 7 (4, 95) p l e s m args below meth c ov σ0 g0 27 [(0, .ref (gs_a E 40)), (1, .ref (gs_a E 9)), (2, .int y2), (3, .int y3), (4, .int y4)] [] ys g := by
  intro n
  induction n with
  | zero => intro y2 y3 y4 ys h; cases h
  | succ n ih =>
    intro y2 y3 y4 ys h
    obtain ⟨r, h, hl, he⟩ := lp_step h
    have hc := fun (y2 : Int32) (y3 : Int32) (y4 : Int32) (ys : gs_H) (hr : r = Sum.inl (y2, y3, y4, ys)) => ih y2 y3 y4 ys (hl _ hr)
    have hk0 := fun (z3 : Int32) (zs : gs_H) (hr : r = Sum.inr (z3, zs)) => hx0 z3 zs (he _ hr).symm
    unfold b_X2_bestExchange_27 at h
    try dsimp only at h
    refine x_iload C dX2_bestExchange_27 4 rfl ?_
    refine x_aload_n C dX2_bestExchange_29 rfl 1 rfl ?_
    refine x_geti C 9 rfl rfl inX3 1 (by decide) rfl kF_X2_42 rfl (v := (ys 9 1)) rfl dX2_bestExchange_30 ?_
    by_cases hc1 : (ys 9 1) ≤ y4
    · replace h := (if_pos hc1).symm.trans h
      refine x_icmp_geT C dX2_bestExchange_33 (tgt := 92) (by decide) hc1 ?_
      refine x_lv (lv' := [(3, .int y3)]) [3] rfl ?_
      obtain rfl := Option.some.inj h
      exact hk0 y3 ys rfl
    · replace h := (if_neg hc1).symm.trans h
      refine x_icmp_geF C dX2_bestExchange_33 (tgt := 92) (by decide) hc1 ?_
      refine x_iload C dX2_bestExchange_36 4 rfl ?_
      refine x_iconst C dX2_bestExchange_38 (v := 1) (by decide) ?_
      refine x_iadd C dX2_bestExchange_39 ?_
      refine x_istore C dX2_bestExchange_40 (lv2 := [(0, .ref (gs_a E 40)), (1, .ref (gs_a E 9)), (2, .int y2), (3, .int y3), (4, .int y4), (5, .int (y4 + (1 : Int32)))]) (by decide) rfl [1, 2, 3, 4, 5, 0] rfl ?_
      obtain ⟨q2, hq2, h⟩ := Option.bind_eq_some_iff.mp h
      refine wl_X2_bestExchange_42 C (fun v2_0_2 v2_0_3 s2_0 hz => ?_) 1000 _ _ _ _ hq2
      subst q2
      try dsimp only at h
      refine x_iinc C dX2_bestExchange_86 4 rfl (v := (y4 + (1 : Int32))) rfl (lv2 := [(0, .ref (gs_a E 40)), (1, .ref (gs_a E 9)), (2, .int v2_0_2), (3, .int v2_0_3), (4, .int (y4 + (1 : Int32)))]) (by decide) rfl [1, 2, 3, 4, 0] rfl ?_
      refine x_goto C dX2_bestExchange_89 (tgt := 27) (by decide) ?_
      obtain rfl := Option.some.inj h
      exact hc v2_0_2 v2_0_3 (y4 + (1 : Int32)) s2_0 rfl
set_option maxHeartbeats 4000000 in
set_option maxRecDepth 20000 in
theorem m_X2_bestExchange {E : gs_E} {l : Launch} {σ : gs_H} {g : Int64} {r0 : Int32} {σ0 : gs_H} (h : f_X2_bestExchange σ = some (r0, σ0)) : gs_M l E yX2_bestExchange cX2_bestExchange 7 (some .int) (4, 95) [.ref (gs_a E 40), .ref (gs_a E 9)] σ g (some (.int r0)) σ0 g := by
  refine x_enter (lv := [(0, .ref (gs_a E 40)), (1, .ref (gs_a E 9))]) (by decide +kernel) (Nat.le_of_ble_eq_true rfl) rfl (fun p e s m args below meth c C hr => ?_)
  unfold f_X2_bestExchange at h
  refine x_aload_n C dX2_bestExchange_0 rfl 0 rfl ?_
  refine x_getr C 40 rfl rfl inX2 5 (by decide) rfl kF_X2_18 rfl dX2_bestExchange_1 ?_
  refine x_aload_n C dX2_bestExchange_4 rfl 1 rfl ?_
  obtain ⟨s1, hv1, h⟩ := Option.bind_eq_some_iff.mp h
  refine x_callV C 42 (m_X6_weigh_42 hv1) rfl rfl kM_X2_31 kI_X6_weigh kS_X6_weigh kN_X6 kC_X6_weigh kD_X6_weigh rfl ⟨Nat.le_of_ble_eq_true rfl, Nat.le_of_ble_eq_true rfl⟩ ⟨Nat.le_refl _, Nat.le_refl _⟩ (rest := []) rfl (Nat.le_of_ble_eq_true rfl) dX2_bestExchange_5 (st' := []) rfl ?_
  refine x_aload_n C dX2_bestExchange_8 rfl 0 rfl ?_
  refine x_getr C 40 rfl rfl inX2 5 (by decide) rfl kF_X2_18 rfl dX2_bestExchange_9 ?_
  refine x_aload_n C dX2_bestExchange_12 rfl 1 rfl ?_
  obtain ⟨v2, hv2, h⟩ := Option.bind_eq_some_iff.mp h
  refine x_callV C 42 (m_X6_rodsLevel_42 hv2) rfl rfl kM_X2_35 kI_X6_rodsLevel kS_X6_rodsLevel kN_X6 kC_X6_rodsLevel kD_X6_rodsLevel rfl ⟨Nat.le_of_ble_eq_true rfl, Nat.le_of_ble_eq_true rfl⟩ ⟨Nat.le_refl _, Nat.le_refl _⟩ (rest := []) rfl (Nat.le_of_ble_eq_true rfl) dX2_bestExchange_13 (st' := [.int v2]) rfl ?_
  refine x_istore_n C dX2_bestExchange_16 rfl (lv2 := [(0, .ref (gs_a E 40)), (1, .ref (gs_a E 9)), (2, .int v2)]) (by decide) rfl [1, 2, 0] rfl ?_
  refine x_iconst C dX2_bestExchange_17 (v := -1) (by decide) ?_
  refine x_istore_n C dX2_bestExchange_18 rfl (lv2 := [(0, .ref (gs_a E 40)), (1, .ref (gs_a E 9)), (2, .int v2), (3, .int (-1 : Int32))]) (by decide) rfl [1, 2, 3, 0] rfl ?_
  refine x_aload_n C dX2_bestExchange_19 rfl 0 rfl ?_
  refine x_aload_n C dX2_bestExchange_20 rfl 1 rfl ?_
  obtain ⟨s3, hv3, h⟩ := Option.bind_eq_some_iff.mp h
  refine x_callV C 40 (m_X2_copyLaid hv3) rfl rfl kM_X2_39 kI_X2_copyLaid kS_X2_copyLaid kN_X2 kC_X2_copyLaid kD_X2_copyLaid rfl ⟨Nat.le_of_ble_eq_true rfl, Nat.le_of_ble_eq_true rfl⟩ ⟨Nat.le_refl _, Nat.le_refl _⟩ (rest := []) rfl (Nat.le_of_ble_eq_true rfl) dX2_bestExchange_21 (st' := []) rfl ?_
  refine x_iconst C dX2_bestExchange_24 (v := 0) (by decide) ?_
  refine x_istore C dX2_bestExchange_25 (lv2 := [(0, .ref (gs_a E 40)), (1, .ref (gs_a E 9)), (2, .int v2), (3, .int (-1 : Int32)), (4, .int (0 : Int32))]) (by decide) rfl [1, 2, 3, 4, 0] rfl ?_
  obtain ⟨q4, hq4, h⟩ := Option.bind_eq_some_iff.mp h
  refine wl_X2_bestExchange_27 C (fun v4_0_3 s4_0 hz => ?_) 1000 _ _ _ _ hq4
  subst q4
  try dsimp only at h
  refine x_iload_n C dX2_bestExchange_92 rfl 0 rfl ?_
  replace h := Option.some.inj h
  obtain ⟨rfl, rfl⟩ := Prod.mk.inj h
  exact x_ret C hr rfl rfl dX2_bestExchange_93
def b_X2_keepIfBetter_58 (y : Int32 × gs_H) : Option ((Int32 × gs_H) ⊕ ((gs_H))) :=
if (y.2 40 9) ≤ y.1 then (
some (Sum.inr y.2))
else (
if inb y.1 6 then
if inb y.1 6 then
if inb (y.2 48 y.1.toNatClampNeg) 6 then
some (Sum.inl ((y.1 + (1 : Int32)), (up2 y.2 41 (y.2 48 y.1.toNatClampNeg).toNatClampNeg (y.2 49 y.1.toNatClampNeg)))) else none else none else none)
def b_X2_keepIfBetter_37 (y : Int32 × gs_H) : Option ((Int32 × gs_H) ⊕ ((gs_H))) :=
if (6 : Int32) ≤ y.1 then (
some (Sum.inr y.2))
else (
if inb y.1 6 then
some (Sum.inl ((y.1 + (1 : Int32)), (up2 y.2 41 y.1.toNatClampNeg (-1 : Int32)))) else none)
def f_X2_keepIfBetter (x1 : Int32) (x2 : Int32) (σ : gs_H) : Option (gs_H) :=
if x1 < (σ 40 0) then (
some σ)
else (
if x1 = (σ 40 0) then (
if x2 < (σ 40 1) then (
(lp (b_X2_keepIfBetter_37) 1000 ((0 : Int32), (up2 (up2 σ 40 0 x1) 40 1 x2))).bind fun q6 =>
(lp (b_X2_keepIfBetter_58) 1000 ((0 : Int32), q6)).bind fun q7 =>
some q7)
else (
some σ))
else (
(lp (b_X2_keepIfBetter_37) 1000 ((0 : Int32), (up2 (up2 σ 40 0 x1) 40 1 x2))).bind fun q3 =>
(lp (b_X2_keepIfBetter_58) 1000 ((0 : Int32), q3)).bind fun q4 =>
some q4))
set_option maxHeartbeats 4000000 in
set_option maxRecDepth 20000 in
theorem wl_X2_keepIfBetter_58 {E : gs_E} {l : Launch} {p : Program} {e : Env} {s : State} {m : MethodId} {args : Array Value} {below : List Frame} {meth : Method} {c : Code} (C : gs_X E RX2 cX2_keepIfBetter 4 p s m args meth c) {ov : Option Value} {σ0 : gs_H} {g0 : Int64} {g : Int64} {q : (gs_H)} (hx0 : ∀ (zs : gs_H), q = zs → gs_V E 4 (0, 0) p l e s m args below meth c ov σ0 g0 89 [] [] zs g) : ∀ (n : Nat) (y3 : Int32) (ys : gs_H), lp (b_X2_keepIfBetter_58) n (y3, ys) = some q → gs_V E 4 (0, 0) p l e s m args below meth c ov σ0 g0 58 [(0, .ref (gs_a E 40)), (3, .int y3)] [] ys g := by
  intro n
  induction n with
  | zero => intro y3 ys h; cases h
  | succ n ih =>
    intro y3 ys h
    obtain ⟨r, h, hl, he⟩ := lp_step h
    have hc := fun (y3 : Int32) (ys : gs_H) (hr : r = Sum.inl (y3, ys)) => ih y3 ys (hl _ hr)
    have hk0 := fun (zs : gs_H) (hr : r = Sum.inr zs) => hx0 zs (he _ hr).symm
    unfold b_X2_keepIfBetter_58 at h
    try dsimp only at h
    refine x_iload_n C dX2_keepIfBetter_58 rfl 1 rfl ?_
    refine x_aload_n C dX2_keepIfBetter_59 rfl 0 rfl ?_
    refine x_geti C 40 rfl rfl inX2 9 (by decide) rfl kF_X2_89 rfl (v := (ys 40 9)) rfl dX2_keepIfBetter_60 ?_
    by_cases hc1 : (ys 40 9) ≤ y3
    · replace h := (if_pos hc1).symm.trans h
      refine x_icmp_geT C dX2_keepIfBetter_63 (tgt := 89) (by decide) hc1 ?_
      refine x_lv (lv' := []) [] rfl ?_
      obtain rfl := Option.some.inj h
      exact hk0 ys rfl
    · replace h := (if_neg hc1).symm.trans h
      refine x_icmp_geF C dX2_keepIfBetter_63 (tgt := 89) (by decide) hc1 ?_
      refine x_aload_n C dX2_keepIfBetter_66 rfl 0 rfl ?_
      refine x_getr C 40 rfl rfl inX2 2 (by decide) rfl kF_X2_9 rfl dX2_keepIfBetter_67 ?_
      refine x_aload_n C dX2_keepIfBetter_70 rfl 0 rfl ?_
      refine x_getr C 40 rfl rfl inX2 7 (by decide) rfl kF_X2_25 rfl dX2_keepIfBetter_71 ?_
      refine x_iload_n C dX2_keepIfBetter_74 rfl 1 rfl ?_
      obtain ⟨hb2, h⟩ := ck_some h
      refine x_iald C 48 rfl hb2 (v := (ys 48 y3.toNatClampNeg)) rfl dX2_keepIfBetter_75 ?_
      refine x_aload_n C dX2_keepIfBetter_76 rfl 0 rfl ?_
      refine x_getr C 40 rfl rfl inX2 8 (by decide) rfl kF_X2_28 rfl dX2_keepIfBetter_77 ?_
      refine x_iload_n C dX2_keepIfBetter_80 rfl 1 rfl ?_
      obtain ⟨hb3, h⟩ := ck_some h
      refine x_iald C 49 rfl hb3 (v := (ys 49 y3.toNatClampNeg)) rfl dX2_keepIfBetter_81 ?_
      obtain ⟨hb4, h⟩ := ck_some h
      refine x_iast C 41 rfl hb4 dX2_keepIfBetter_82 ?_
      refine x_iinc C dX2_keepIfBetter_83 1 rfl (v := (y3 + (1 : Int32))) rfl (lv2 := [(0, .ref (gs_a E 40)), (3, .int (y3 + (1 : Int32)))]) (by decide) rfl [1, 0] rfl ?_
      refine x_goto C dX2_keepIfBetter_86 (tgt := 58) (by decide) ?_
      obtain rfl := Option.some.inj h
      exact hc (y3 + (1 : Int32)) (up2 ys 41 (ys 48 y3.toNatClampNeg).toNatClampNeg (ys 49 y3.toNatClampNeg)) rfl
set_option maxHeartbeats 4000000 in
set_option maxRecDepth 20000 in
theorem wl_X2_keepIfBetter_37 {E : gs_E} {l : Launch} {p : Program} {e : Env} {s : State} {m : MethodId} {args : Array Value} {below : List Frame} {meth : Method} {c : Code} (C : gs_X E RX2 cX2_keepIfBetter 4 p s m args meth c) {ov : Option Value} {σ0 : gs_H} {g0 : Int64} {g : Int64} {q : (gs_H)} (hx0 : ∀ (zs : gs_H), q = zs → gs_V E 4 (0, 0) p l e s m args below meth c ov σ0 g0 56 [(0, .ref (gs_a E 40))] [] zs g) : ∀ (n : Nat) (y3 : Int32) (ys : gs_H), lp (b_X2_keepIfBetter_37) n (y3, ys) = some q → gs_V E 4 (0, 0) p l e s m args below meth c ov σ0 g0 37 [(0, .ref (gs_a E 40)), (3, .int y3)] [] ys g := by
  intro n
  induction n with
  | zero => intro y3 ys h; cases h
  | succ n ih =>
    intro y3 ys h
    obtain ⟨r, h, hl, he⟩ := lp_step h
    have hc := fun (y3 : Int32) (ys : gs_H) (hr : r = Sum.inl (y3, ys)) => ih y3 ys (hl _ hr)
    have hk0 := fun (zs : gs_H) (hr : r = Sum.inr zs) => hx0 zs (he _ hr).symm
    unfold b_X2_keepIfBetter_37 at h
    try dsimp only at h
    refine x_iload_n C dX2_keepIfBetter_37 rfl 1 rfl ?_
    refine x_bipush C dX2_keepIfBetter_38 (v := 6) (by decide) ?_
    by_cases hc1 : (6 : Int32) ≤ y3
    · replace h := (if_pos hc1).symm.trans h
      refine x_icmp_geT C dX2_keepIfBetter_40 (tgt := 56) (by decide) hc1 ?_
      refine x_lv (lv' := [(0, .ref (gs_a E 40))]) [0] rfl ?_
      obtain rfl := Option.some.inj h
      exact hk0 ys rfl
    · replace h := (if_neg hc1).symm.trans h
      refine x_icmp_geF C dX2_keepIfBetter_40 (tgt := 56) (by decide) hc1 ?_
      refine x_aload_n C dX2_keepIfBetter_43 rfl 0 rfl ?_
      refine x_getr C 40 rfl rfl inX2 2 (by decide) rfl kF_X2_9 rfl dX2_keepIfBetter_44 ?_
      refine x_iload_n C dX2_keepIfBetter_47 rfl 1 rfl ?_
      refine x_iconst C dX2_keepIfBetter_48 (v := -1) (by decide) ?_
      obtain ⟨hb2, h⟩ := ck_some h
      refine x_iast C 41 rfl hb2 dX2_keepIfBetter_49 ?_
      refine x_iinc C dX2_keepIfBetter_50 1 rfl (v := (y3 + (1 : Int32))) rfl (lv2 := [(0, .ref (gs_a E 40)), (3, .int (y3 + (1 : Int32)))]) (by decide) rfl [1, 0] rfl ?_
      refine x_goto C dX2_keepIfBetter_53 (tgt := 37) (by decide) ?_
      obtain rfl := Option.some.inj h
      exact hc (y3 + (1 : Int32)) (up2 ys 41 y3.toNatClampNeg (-1 : Int32)) rfl
set_option maxHeartbeats 4000000 in
set_option maxRecDepth 20000 in
theorem m_X2_keepIfBetter {E : gs_E} {l : Launch} {x1 : Int32} {x2 : Int32} {σ : gs_H} {g : Int64} {σ0 : gs_H} (h : f_X2_keepIfBetter x1 x2 σ = some σ0) : gs_M l E yX2_keepIfBetter cX2_keepIfBetter 4 (none) (0, 0) [.ref (gs_a E 40), .int x1, .int x2] σ g (none) σ0 g := by
  refine x_enter (lv := [(0, .ref (gs_a E 40)), (1, .int x1), (2, .int x2)]) (by decide +kernel) (Nat.le_of_ble_eq_true rfl) rfl (fun p e s m args below meth c C hr => ?_)
  unfold f_X2_keepIfBetter at h
  refine x_iload_n C dX2_keepIfBetter_0 rfl 1 rfl ?_
  refine x_aload_n C dX2_keepIfBetter_1 rfl 0 rfl ?_
  refine x_geti C 40 rfl rfl inX2 0 (by decide) rfl kF_X2_67 rfl (v := (σ 40 0)) rfl dX2_keepIfBetter_2 ?_
  by_cases hc1 : x1 < (σ 40 0)
  · replace h := (if_pos hc1).symm.trans h
    refine x_icmp_ltT C dX2_keepIfBetter_5 (tgt := 24) (by decide) hc1 ?_
    replace h := Option.some.inj h
    subst h
    exact x_retv C hr rfl dX2_keepIfBetter_24
  · replace h := (if_neg hc1).symm.trans h
    refine x_icmp_ltF C dX2_keepIfBetter_5 (tgt := 24) (by decide) hc1 ?_
    refine x_iload_n C dX2_keepIfBetter_8 rfl 1 rfl ?_
    refine x_aload_n C dX2_keepIfBetter_9 rfl 0 rfl ?_
    refine x_geti C 40 rfl rfl inX2 0 (by decide) rfl kF_X2_67 rfl (v := (σ 40 0)) rfl dX2_keepIfBetter_10 ?_
    by_cases hc2 : x1 = (σ 40 0)
    · replace h := (if_pos hc2).symm.trans h
      refine x_icmp_neF C dX2_keepIfBetter_13 (tgt := 25) (by decide) hc2 ?_
      refine x_iload_n C dX2_keepIfBetter_16 rfl 2 rfl ?_
      refine x_aload_n C dX2_keepIfBetter_17 rfl 0 rfl ?_
      refine x_geti C 40 rfl rfl inX2 1 (by decide) rfl kF_X2_86 rfl (v := (σ 40 1)) rfl dX2_keepIfBetter_18 ?_
      by_cases hc5 : x2 < (σ 40 1)
      · replace h := (if_pos hc5).symm.trans h
        refine x_icmp_ltT C dX2_keepIfBetter_21 (tgt := 25) (by decide) hc5 ?_
        refine x_aload_n C dX2_keepIfBetter_25 rfl 0 rfl ?_
        refine x_iload_n C dX2_keepIfBetter_26 rfl 1 rfl ?_
        refine x_puti C 40 rfl rfl inX2 tyX2 tyX2_ok nmX2 0 (by decide) rfl kF_X2_67 rfl rfl rfl rfl dX2_keepIfBetter_27 ?_
        refine x_aload_n C dX2_keepIfBetter_30 rfl 0 rfl ?_
        refine x_iload_n C dX2_keepIfBetter_31 rfl 2 rfl ?_
        refine x_puti C 40 rfl rfl inX2 tyX2 tyX2_ok nmX2 1 (by decide) rfl kF_X2_86 rfl rfl rfl rfl dX2_keepIfBetter_32 ?_
        refine x_iconst C dX2_keepIfBetter_35 (v := 0) (by decide) ?_
        refine x_istore_n C dX2_keepIfBetter_36 rfl (lv2 := [(0, .ref (gs_a E 40)), (1, .int x1), (2, .int x2), (3, .int (0 : Int32))]) (by decide) rfl [1, 2, 3, 0] rfl ?_
        refine x_lv (lv' := [(0, .ref (gs_a E 40)), (3, .int (0 : Int32))]) [0, 3] rfl ?_
        obtain ⟨q6, hq6, h⟩ := Option.bind_eq_some_iff.mp h
        refine wl_X2_keepIfBetter_37 C (fun s6_0 hz => ?_) 1000 _ _ hq6
        subst q6
        try dsimp only at h
        refine x_iconst C dX2_keepIfBetter_56 (v := 0) (by decide) ?_
        refine x_istore_n C dX2_keepIfBetter_57 rfl (lv2 := [(0, .ref (gs_a E 40)), (3, .int (0 : Int32))]) (by decide) rfl [1, 0] rfl ?_
        obtain ⟨q7, hq7, h⟩ := Option.bind_eq_some_iff.mp h
        refine wl_X2_keepIfBetter_58 C (fun s7_0 hz => ?_) 1000 _ _ hq7
        subst q7
        try dsimp only at h
        replace h := Option.some.inj h
        subst h
        exact x_retv C hr rfl dX2_keepIfBetter_89
      · replace h := (if_neg hc5).symm.trans h
        refine x_icmp_ltF C dX2_keepIfBetter_21 (tgt := 25) (by decide) hc5 ?_
        replace h := Option.some.inj h
        subst h
        exact x_retv C hr rfl dX2_keepIfBetter_24
    · replace h := (if_neg hc2).symm.trans h
      refine x_icmp_neT C dX2_keepIfBetter_13 (tgt := 25) (by decide) hc2 ?_
      refine x_aload_n C dX2_keepIfBetter_25 rfl 0 rfl ?_
      refine x_iload_n C dX2_keepIfBetter_26 rfl 1 rfl ?_
      refine x_puti C 40 rfl rfl inX2 tyX2 tyX2_ok nmX2 0 (by decide) rfl kF_X2_67 rfl rfl rfl rfl dX2_keepIfBetter_27 ?_
      refine x_aload_n C dX2_keepIfBetter_30 rfl 0 rfl ?_
      refine x_iload_n C dX2_keepIfBetter_31 rfl 2 rfl ?_
      refine x_puti C 40 rfl rfl inX2 tyX2 tyX2_ok nmX2 1 (by decide) rfl kF_X2_86 rfl rfl rfl rfl dX2_keepIfBetter_32 ?_
      refine x_iconst C dX2_keepIfBetter_35 (v := 0) (by decide) ?_
      refine x_istore_n C dX2_keepIfBetter_36 rfl (lv2 := [(0, .ref (gs_a E 40)), (1, .int x1), (2, .int x2), (3, .int (0 : Int32))]) (by decide) rfl [1, 2, 3, 0] rfl ?_
      refine x_lv (lv' := [(0, .ref (gs_a E 40)), (3, .int (0 : Int32))]) [0, 3] rfl ?_
      obtain ⟨q3, hq3, h⟩ := Option.bind_eq_some_iff.mp h
      refine wl_X2_keepIfBetter_37 C (fun s3_0 hz => ?_) 1000 _ _ hq3
      subst q3
      try dsimp only at h
      refine x_iconst C dX2_keepIfBetter_56 (v := 0) (by decide) ?_
      refine x_istore_n C dX2_keepIfBetter_57 rfl (lv2 := [(0, .ref (gs_a E 40)), (3, .int (0 : Int32))]) (by decide) rfl [1, 0] rfl ?_
      obtain ⟨q4, hq4, h⟩ := Option.bind_eq_some_iff.mp h
      refine wl_X2_keepIfBetter_58 C (fun s4_0 hz => ?_) 1000 _ _ hq4
      subst q4
      try dsimp only at h
      replace h := Option.some.inj h
      subst h
      exact x_retv C hr rfl dX2_keepIfBetter_89
def b_X2_layInOrder_2 (y : Int32 × gs_H) : Option ((Int32 × gs_H) ⊕ ((gs_H))) :=
if (y.2 40 9) ≤ y.1 then (
some (Sum.inr y.2))
else (
if inb y.1 6 then
if inb y.1 6 then
if inb (y.2 48 y.1.toNatClampNeg) 6 then
some (Sum.inl ((y.1 + (1 : Int32)), (up2 y.2 47 (y.2 48 y.1.toNatClampNeg).toNatClampNeg (y.2 49 y.1.toNatClampNeg)))) else none else none else none)
def f_X2_layInOrder (σ : gs_H) : Option (gs_H) :=
(lp (b_X2_layInOrder_2) 1000 ((0 : Int32), σ)).bind fun q1 =>
some q1
set_option maxHeartbeats 4000000 in
set_option maxRecDepth 20000 in
theorem wl_X2_layInOrder_2 {E : gs_E} {l : Launch} {p : Program} {e : Env} {s : State} {m : MethodId} {args : Array Value} {below : List Frame} {meth : Method} {c : Code} (C : gs_X E RX2 cX2_layInOrder 2 p s m args meth c) {ov : Option Value} {σ0 : gs_H} {g0 : Int64} {g : Int64} {q : (gs_H)} (hx0 : ∀ (zs : gs_H), q = zs → gs_V E 2 (0, 0) p l e s m args below meth c ov σ0 g0 33 [] [] zs g) : ∀ (n : Nat) (y1 : Int32) (ys : gs_H), lp (b_X2_layInOrder_2) n (y1, ys) = some q → gs_V E 2 (0, 0) p l e s m args below meth c ov σ0 g0 2 [(0, .ref (gs_a E 40)), (1, .int y1)] [] ys g := by
  intro n
  induction n with
  | zero => intro y1 ys h; cases h
  | succ n ih =>
    intro y1 ys h
    obtain ⟨r, h, hl, he⟩ := lp_step h
    have hc := fun (y1 : Int32) (ys : gs_H) (hr : r = Sum.inl (y1, ys)) => ih y1 ys (hl _ hr)
    have hk0 := fun (zs : gs_H) (hr : r = Sum.inr zs) => hx0 zs (he _ hr).symm
    unfold b_X2_layInOrder_2 at h
    try dsimp only at h
    refine x_iload_n C dX2_layInOrder_2 rfl 1 rfl ?_
    refine x_aload_n C dX2_layInOrder_3 rfl 0 rfl ?_
    refine x_geti C 40 rfl rfl inX2 9 (by decide) rfl kF_X2_89 rfl (v := (ys 40 9)) rfl dX2_layInOrder_4 ?_
    by_cases hc1 : (ys 40 9) ≤ y1
    · replace h := (if_pos hc1).symm.trans h
      refine x_icmp_geT C dX2_layInOrder_7 (tgt := 33) (by decide) hc1 ?_
      refine x_lv (lv' := []) [] rfl ?_
      obtain rfl := Option.some.inj h
      exact hk0 ys rfl
    · replace h := (if_neg hc1).symm.trans h
      refine x_icmp_geF C dX2_layInOrder_7 (tgt := 33) (by decide) hc1 ?_
      refine x_aload_n C dX2_layInOrder_10 rfl 0 rfl ?_
      refine x_getr C 40 rfl rfl inX2 6 (by decide) rfl kF_X2_22 rfl dX2_layInOrder_11 ?_
      refine x_aload_n C dX2_layInOrder_14 rfl 0 rfl ?_
      refine x_getr C 40 rfl rfl inX2 7 (by decide) rfl kF_X2_25 rfl dX2_layInOrder_15 ?_
      refine x_iload_n C dX2_layInOrder_18 rfl 1 rfl ?_
      obtain ⟨hb2, h⟩ := ck_some h
      refine x_iald C 48 rfl hb2 (v := (ys 48 y1.toNatClampNeg)) rfl dX2_layInOrder_19 ?_
      refine x_aload_n C dX2_layInOrder_20 rfl 0 rfl ?_
      refine x_getr C 40 rfl rfl inX2 8 (by decide) rfl kF_X2_28 rfl dX2_layInOrder_21 ?_
      refine x_iload_n C dX2_layInOrder_24 rfl 1 rfl ?_
      obtain ⟨hb3, h⟩ := ck_some h
      refine x_iald C 49 rfl hb3 (v := (ys 49 y1.toNatClampNeg)) rfl dX2_layInOrder_25 ?_
      obtain ⟨hb4, h⟩ := ck_some h
      refine x_iast C 47 rfl hb4 dX2_layInOrder_26 ?_
      refine x_iinc C dX2_layInOrder_27 1 rfl (v := (y1 + (1 : Int32))) rfl (lv2 := [(0, .ref (gs_a E 40)), (1, .int (y1 + (1 : Int32)))]) (by decide) rfl [1, 0] rfl ?_
      refine x_goto C dX2_layInOrder_30 (tgt := 2) (by decide) ?_
      obtain rfl := Option.some.inj h
      exact hc (y1 + (1 : Int32)) (up2 ys 47 (ys 48 y1.toNatClampNeg).toNatClampNeg (ys 49 y1.toNatClampNeg)) rfl
set_option maxHeartbeats 4000000 in
set_option maxRecDepth 20000 in
theorem m_X2_layInOrder {E : gs_E} {l : Launch} {σ : gs_H} {g : Int64} {σ0 : gs_H} (h : f_X2_layInOrder σ = some σ0) : gs_M l E yX2_layInOrder cX2_layInOrder 2 (none) (0, 0) [.ref (gs_a E 40)] σ g (none) σ0 g := by
  refine x_enter (lv := [(0, .ref (gs_a E 40))]) (by decide +kernel) (Nat.le_of_ble_eq_true rfl) rfl (fun p e s m args below meth c C hr => ?_)
  unfold f_X2_layInOrder at h
  refine x_iconst C dX2_layInOrder_0 (v := 0) (by decide) ?_
  refine x_istore_n C dX2_layInOrder_1 rfl (lv2 := [(0, .ref (gs_a E 40)), (1, .int (0 : Int32))]) (by decide) rfl [1, 0] rfl ?_
  obtain ⟨q1, hq1, h⟩ := Option.bind_eq_some_iff.mp h
  refine wl_X2_layInOrder_2 C (fun s1_0 hz => ?_) 1000 _ _ hq1
  subst q1
  try dsimp only at h
  replace h := Option.some.inj h
  subst h
  exact x_retv C hr rfl dX2_layInOrder_33
def f_X2_swapAt (x1 : Int32) (x2 : Int32) (σ : gs_H) : Option (gs_H) :=
if inb x1 6 then
if inb x2 6 then
if inb x1 6 then
if inb x2 6 then
some (up2 (up2 σ 49 x1.toNatClampNeg (σ 49 x2.toNatClampNeg)) 49 x2.toNatClampNeg (σ 49 x1.toNatClampNeg)) else none else none else none else none
set_option maxHeartbeats 4000000 in
set_option maxRecDepth 20000 in
theorem m_X2_swapAt {E : gs_E} {l : Launch} {x1 : Int32} {x2 : Int32} {σ : gs_H} {g : Int64} {σ0 : gs_H} (h : f_X2_swapAt x1 x2 σ = some σ0) : gs_M l E yX2_swapAt cX2_swapAt 4 (none) (0, 0) [.ref (gs_a E 40), .int x1, .int x2] σ g (none) σ0 g := by
  refine x_enter (lv := [(0, .ref (gs_a E 40)), (1, .int x1), (2, .int x2)]) (by decide +kernel) (Nat.le_of_ble_eq_true rfl) rfl (fun p e s m args below meth c C hr => ?_)
  unfold f_X2_swapAt at h
  refine x_aload_n C dX2_swapAt_0 rfl 0 rfl ?_
  refine x_getr C 40 rfl rfl inX2 8 (by decide) rfl kF_X2_28 rfl dX2_swapAt_1 ?_
  refine x_iload_n C dX2_swapAt_4 rfl 1 rfl ?_
  obtain ⟨hb1, h⟩ := ck_some h
  refine x_iald C 49 rfl hb1 (v := (σ 49 x1.toNatClampNeg)) rfl dX2_swapAt_5 ?_
  refine x_istore_n C dX2_swapAt_6 rfl (lv2 := [(0, .ref (gs_a E 40)), (1, .int x1), (2, .int x2), (3, .int (σ 49 x1.toNatClampNeg))]) (by decide) rfl [1, 2, 3, 0] rfl ?_
  refine x_aload_n C dX2_swapAt_7 rfl 0 rfl ?_
  refine x_getr C 40 rfl rfl inX2 8 (by decide) rfl kF_X2_28 rfl dX2_swapAt_8 ?_
  refine x_iload_n C dX2_swapAt_11 rfl 1 rfl ?_
  refine x_aload_n C dX2_swapAt_12 rfl 0 rfl ?_
  refine x_getr C 40 rfl rfl inX2 8 (by decide) rfl kF_X2_28 rfl dX2_swapAt_13 ?_
  refine x_iload_n C dX2_swapAt_16 rfl 2 rfl ?_
  obtain ⟨hb2, h⟩ := ck_some h
  refine x_iald C 49 rfl hb2 (v := (σ 49 x2.toNatClampNeg)) rfl dX2_swapAt_17 ?_
  obtain ⟨hb3, h⟩ := ck_some h
  refine x_iast C 49 rfl hb3 dX2_swapAt_18 ?_
  refine x_aload_n C dX2_swapAt_19 rfl 0 rfl ?_
  refine x_getr C 40 rfl rfl inX2 8 (by decide) rfl kF_X2_28 rfl dX2_swapAt_20 ?_
  refine x_iload_n C dX2_swapAt_23 rfl 2 rfl ?_
  refine x_iload_n C dX2_swapAt_24 rfl 3 rfl ?_
  obtain ⟨hb4, h⟩ := ck_some h
  refine x_iast C 49 rfl hb4 dX2_swapAt_25 ?_
  replace h := Option.some.inj h
  subst h
  exact x_retv C hr rfl dX2_swapAt_26
def b_X2_nextOrder_90 (y : Int32 × Int32 × gs_H) : Option ((Int32 × Int32 × gs_H) ⊕ ((gs_H))) :=
if y.1 ≤ y.2.1 then (
some (Sum.inr y.2.2))
else (
(f_X2_swapAt y.2.1 y.1 y.2.2).bind fun q7 =>
some (Sum.inl ((y.1 + (-1 : Int32)), (y.2.1 + (1 : Int32)), q7)))
def b_X2_nextOrder_46 (x1 : Int32) (σ : gs_H) (y : Int32) : Option ((Int32) ⊕ ((Int32))) :=
if y ≤ x1 then (
some (Sum.inr y))
else (
if inb y 6 then
if inb x1 6 then
if (σ 49 x1.toNatClampNeg) ≤ (σ 49 y.toNatClampNeg) then (
some (Sum.inr y))
else (
some (Sum.inl (y + (-1 : Int32)))) else none else none)
def b_X2_nextOrder_7 (σ : gs_H) (y : Int32) : Option ((Int32) ⊕ ((Int32))) :=
if y < 0 then (
some (Sum.inr y))
else (
if inb y 6 then
if inb (y + (1 : Int32)) 6 then
if (σ 49 y.toNatClampNeg) ≤ (σ 49 (y + (1 : Int32)).toNatClampNeg) then (
some (Sum.inr y))
else (
some (Sum.inl (y + (-1 : Int32)))) else none else none)
def f_X2_nextOrder (σ : gs_H) : Option (gs_H) :=
(lp (b_X2_nextOrder_7 σ) 1000 ((σ 40 9) - (2 : Int32))).bind fun q1 =>
if 0 ≤ q1 then (
(lp (b_X2_nextOrder_46 q1 σ) 1000 ((σ 40 9) - (1 : Int32))).bind fun q3 =>
(f_X2_swapAt q1 q3 σ).bind fun q4 =>
(lp (b_X2_nextOrder_90) 1000 (((q4 40 9) - (1 : Int32)), (q1 + (1 : Int32)), q4)).bind fun q5 =>
some q5)
else (
some σ)
set_option maxHeartbeats 4000000 in
set_option maxRecDepth 20000 in
theorem wl_X2_nextOrder_90 {E : gs_E} {l : Launch} {p : Program} {e : Env} {s : State} {m : MethodId} {args : Array Value} {below : List Frame} {meth : Method} {c : Code} (C : gs_X E RX2 cX2_nextOrder 5 p s m args meth c) {ov : Option Value} {σ0 : gs_H} {g0 : Int64} {g : Int64} {q : (gs_H)} (hx0 : ∀ (zs : gs_H), q = zs → gs_V E 5 (1, 23) p l e s m args below meth c ov σ0 g0 112 [] [] zs g) : ∀ (n : Nat) (y3 : Int32) (y4 : Int32) (ys : gs_H), lp (b_X2_nextOrder_90) n (y3, y4, ys) = some q → gs_V E 5 (1, 23) p l e s m args below meth c ov σ0 g0 90 [(0, .ref (gs_a E 40)), (3, .int y3), (4, .int y4)] [] ys g := by
  intro n
  induction n with
  | zero => intro y3 y4 ys h; cases h
  | succ n ih =>
    intro y3 y4 ys h
    obtain ⟨r, h, hl, he⟩ := lp_step h
    have hc := fun (y3 : Int32) (y4 : Int32) (ys : gs_H) (hr : r = Sum.inl (y3, y4, ys)) => ih y3 y4 ys (hl _ hr)
    have hk0 := fun (zs : gs_H) (hr : r = Sum.inr zs) => hx0 zs (he _ hr).symm
    unfold b_X2_nextOrder_90 at h
    try dsimp only at h
    refine x_iload C dX2_nextOrder_90 2 rfl ?_
    refine x_iload_n C dX2_nextOrder_92 rfl 1 rfl ?_
    by_cases hc1 : y3 ≤ y4
    · replace h := (if_pos hc1).symm.trans h
      refine x_icmp_geT C dX2_nextOrder_93 (tgt := 112) (by decide) hc1 ?_
      refine x_lv (lv' := []) [] rfl ?_
      obtain rfl := Option.some.inj h
      exact hk0 ys rfl
    · replace h := (if_neg hc1).symm.trans h
      refine x_icmp_geF C dX2_nextOrder_93 (tgt := 112) (by decide) hc1 ?_
      refine x_aload_n C dX2_nextOrder_96 rfl 0 rfl ?_
      refine x_iload C dX2_nextOrder_97 2 rfl ?_
      refine x_iload_n C dX2_nextOrder_99 rfl 1 rfl ?_
      obtain ⟨s2, hv2, h⟩ := Option.bind_eq_some_iff.mp h
      refine x_callV C 40 (m_X2_swapAt hv2) rfl rfl kM_X2_114 kI_X2_swapAt kS_X2_swapAt kN_X2 kC_X2_swapAt kD_X2_swapAt rfl ⟨Nat.le_of_ble_eq_true rfl, Nat.le_of_ble_eq_true rfl⟩ ⟨Nat.le_refl _, Nat.le_refl _⟩ (rest := []) rfl (Nat.le_of_ble_eq_true rfl) dX2_nextOrder_100 (st' := []) rfl ?_
      refine x_iinc C dX2_nextOrder_103 1 rfl (v := (y3 + (-1 : Int32))) rfl (lv2 := [(0, .ref (gs_a E 40)), (3, .int (y3 + (-1 : Int32))), (4, .int y4)]) (by decide) rfl [1, 0, 2] rfl ?_
      refine x_iinc C dX2_nextOrder_106 2 rfl (v := (y4 + (1 : Int32))) rfl (lv2 := [(0, .ref (gs_a E 40)), (3, .int (y3 + (-1 : Int32))), (4, .int (y4 + (1 : Int32)))]) (by decide) rfl [1, 2, 0] rfl ?_
      refine x_goto C dX2_nextOrder_109 (tgt := 90) (by decide) ?_
      obtain rfl := Option.some.inj h
      exact hc (y3 + (-1 : Int32)) (y4 + (1 : Int32)) s2 rfl
set_option maxHeartbeats 4000000 in
set_option maxRecDepth 20000 in
theorem wl_X2_nextOrder_46 {E : gs_E} {l : Launch} {p : Program} {e : Env} {s : State} {m : MethodId} {args : Array Value} {below : List Frame} {meth : Method} {c : Code} (C : gs_X E RX2 cX2_nextOrder 5 p s m args meth c) {ov : Option Value} {σ0 : gs_H} {g0 : Int64} {x1 : Int32} {σ : gs_H} {g : Int64} {q : (Int32)} (hx0 : ∀ (z2 : Int32), q = z2 → gs_V E 5 (1, 23) p l e s m args below meth c ov σ0 g0 72 [(0, .ref (gs_a E 40)), (1, .int x1), (2, .int z2)] [] σ g) : ∀ (n : Nat) (y2 : Int32), lp (b_X2_nextOrder_46 x1 σ) n y2 = some q → gs_V E 5 (1, 23) p l e s m args below meth c ov σ0 g0 46 [(0, .ref (gs_a E 40)), (1, .int x1), (2, .int y2)] [] σ g := by
  intro n
  induction n with
  | zero => intro y2 h; cases h
  | succ n ih =>
    intro y2 h
    obtain ⟨r, h, hl, he⟩ := lp_step h
    have hc := fun (y2 : Int32) (hr : r = Sum.inl y2) => ih y2 (hl _ hr)
    have hk0 := fun (z2 : Int32) (hr : r = Sum.inr z2) => hx0 z2 (he _ hr).symm
    unfold b_X2_nextOrder_46 at h
    try dsimp only at h
    refine x_iload_n C dX2_nextOrder_46 rfl 2 rfl ?_
    refine x_iload_n C dX2_nextOrder_47 rfl 1 rfl ?_
    by_cases hc1 : y2 ≤ x1
    · replace h := (if_pos hc1).symm.trans h
      refine x_icmp_leT C dX2_nextOrder_48 (tgt := 72) (by decide) hc1 ?_
      obtain rfl := Option.some.inj h
      exact hk0 y2 rfl
    · replace h := (if_neg hc1).symm.trans h
      refine x_icmp_leF C dX2_nextOrder_48 (tgt := 72) (by decide) hc1 ?_
      refine x_aload_n C dX2_nextOrder_51 rfl 0 rfl ?_
      refine x_getr C 40 rfl rfl inX2 8 (by decide) rfl kF_X2_28 rfl dX2_nextOrder_52 ?_
      refine x_iload_n C dX2_nextOrder_55 rfl 2 rfl ?_
      obtain ⟨hb2, h⟩ := ck_some h
      refine x_iald C 49 rfl hb2 (v := (σ 49 y2.toNatClampNeg)) rfl dX2_nextOrder_56 ?_
      refine x_aload_n C dX2_nextOrder_57 rfl 0 rfl ?_
      refine x_getr C 40 rfl rfl inX2 8 (by decide) rfl kF_X2_28 rfl dX2_nextOrder_58 ?_
      refine x_iload_n C dX2_nextOrder_61 rfl 1 rfl ?_
      obtain ⟨hb3, h⟩ := ck_some h
      refine x_iald C 49 rfl hb3 (v := (σ 49 x1.toNatClampNeg)) rfl dX2_nextOrder_62 ?_
      by_cases hc4 : (σ 49 x1.toNatClampNeg) ≤ (σ 49 y2.toNatClampNeg)
      · replace h := (if_pos hc4).symm.trans h
        refine x_icmp_geT C dX2_nextOrder_63 (tgt := 72) (by decide) hc4 ?_
        obtain rfl := Option.some.inj h
        exact hk0 y2 rfl
      · replace h := (if_neg hc4).symm.trans h
        refine x_icmp_geF C dX2_nextOrder_63 (tgt := 72) (by decide) hc4 ?_
        refine x_iinc C dX2_nextOrder_66 2 rfl (v := (y2 + (-1 : Int32))) rfl (lv2 := [(0, .ref (gs_a E 40)), (1, .int x1), (2, .int (y2 + (-1 : Int32)))]) (by decide) rfl [1, 2, 0] rfl ?_
        refine x_goto C dX2_nextOrder_69 (tgt := 46) (by decide) ?_
        obtain rfl := Option.some.inj h
        exact hc (y2 + (-1 : Int32)) rfl
set_option maxHeartbeats 4000000 in
set_option maxRecDepth 20000 in
theorem wl_X2_nextOrder_7 {E : gs_E} {l : Launch} {p : Program} {e : Env} {s : State} {m : MethodId} {args : Array Value} {below : List Frame} {meth : Method} {c : Code} (C : gs_X E RX2 cX2_nextOrder 5 p s m args meth c) {ov : Option Value} {σ0 : gs_H} {g0 : Int64} {σ : gs_H} {g : Int64} {q : (Int32)} (hx0 : ∀ (z1 : Int32), q = z1 → gs_V E 5 (1, 23) p l e s m args below meth c ov σ0 g0 34 [(0, .ref (gs_a E 40)), (1, .int z1)] [] σ g) : ∀ (n : Nat) (y1 : Int32), lp (b_X2_nextOrder_7 σ) n y1 = some q → gs_V E 5 (1, 23) p l e s m args below meth c ov σ0 g0 7 [(0, .ref (gs_a E 40)), (1, .int y1)] [] σ g := by
  intro n
  induction n with
  | zero => intro y1 h; cases h
  | succ n ih =>
    intro y1 h
    obtain ⟨r, h, hl, he⟩ := lp_step h
    have hc := fun (y1 : Int32) (hr : r = Sum.inl y1) => ih y1 (hl _ hr)
    have hk0 := fun (z1 : Int32) (hr : r = Sum.inr z1) => hx0 z1 (he _ hr).symm
    unfold b_X2_nextOrder_7 at h
    try dsimp only at h
    refine x_iload_n C dX2_nextOrder_7 rfl 1 rfl ?_
    by_cases hc1 : y1 < 0
    · replace h := (if_pos hc1).symm.trans h
      refine x_if_ltT C dX2_nextOrder_8 (tgt := 34) (by decide) hc1 ?_
      obtain rfl := Option.some.inj h
      exact hk0 y1 rfl
    · replace h := (if_neg hc1).symm.trans h
      refine x_if_ltF C dX2_nextOrder_8 (tgt := 34) (by decide) hc1 ?_
      refine x_aload_n C dX2_nextOrder_11 rfl 0 rfl ?_
      refine x_getr C 40 rfl rfl inX2 8 (by decide) rfl kF_X2_28 rfl dX2_nextOrder_12 ?_
      refine x_iload_n C dX2_nextOrder_15 rfl 1 rfl ?_
      obtain ⟨hb2, h⟩ := ck_some h
      refine x_iald C 49 rfl hb2 (v := (σ 49 y1.toNatClampNeg)) rfl dX2_nextOrder_16 ?_
      refine x_aload_n C dX2_nextOrder_17 rfl 0 rfl ?_
      refine x_getr C 40 rfl rfl inX2 8 (by decide) rfl kF_X2_28 rfl dX2_nextOrder_18 ?_
      refine x_iload_n C dX2_nextOrder_21 rfl 1 rfl ?_
      refine x_iconst C dX2_nextOrder_22 (v := 1) (by decide) ?_
      refine x_iadd C dX2_nextOrder_23 ?_
      obtain ⟨hb3, h⟩ := ck_some h
      refine x_iald C 49 rfl hb3 (v := (σ 49 (y1 + (1 : Int32)).toNatClampNeg)) rfl dX2_nextOrder_24 ?_
      by_cases hc4 : (σ 49 y1.toNatClampNeg) ≤ (σ 49 (y1 + (1 : Int32)).toNatClampNeg)
      · replace h := (if_pos hc4).symm.trans h
        refine x_icmp_leT C dX2_nextOrder_25 (tgt := 34) (by decide) hc4 ?_
        obtain rfl := Option.some.inj h
        exact hk0 y1 rfl
      · replace h := (if_neg hc4).symm.trans h
        refine x_icmp_leF C dX2_nextOrder_25 (tgt := 34) (by decide) hc4 ?_
        refine x_iinc C dX2_nextOrder_28 1 rfl (v := (y1 + (-1 : Int32))) rfl (lv2 := [(0, .ref (gs_a E 40)), (1, .int (y1 + (-1 : Int32)))]) (by decide) rfl [1, 0] rfl ?_
        refine x_goto C dX2_nextOrder_31 (tgt := 7) (by decide) ?_
        obtain rfl := Option.some.inj h
        exact hc (y1 + (-1 : Int32)) rfl
set_option maxHeartbeats 4000000 in
set_option maxRecDepth 20000 in
theorem m_X2_nextOrder {E : gs_E} {l : Launch} {σ : gs_H} {g : Int64} {σ0 : gs_H} (h : f_X2_nextOrder σ = some σ0) : gs_M l E yX2_nextOrder cX2_nextOrder 5 (none) (1, 23) [.ref (gs_a E 40)] σ g (none) σ0 g := by
  refine x_enter (lv := [(0, .ref (gs_a E 40))]) (by decide +kernel) (Nat.le_of_ble_eq_true rfl) rfl (fun p e s m args below meth c C hr => ?_)
  unfold f_X2_nextOrder at h
  refine x_aload_n C dX2_nextOrder_0 rfl 0 rfl ?_
  refine x_geti C 40 rfl rfl inX2 9 (by decide) rfl kF_X2_89 rfl (v := (σ 40 9)) rfl dX2_nextOrder_1 ?_
  refine x_iconst C dX2_nextOrder_4 (v := 2) (by decide) ?_
  refine x_isub C dX2_nextOrder_5 ?_
  refine x_istore_n C dX2_nextOrder_6 rfl (lv2 := [(0, .ref (gs_a E 40)), (1, .int ((σ 40 9) - (2 : Int32)))]) (by decide) rfl [1, 0] rfl ?_
  obtain ⟨q1, hq1, h⟩ := Option.bind_eq_some_iff.mp h
  refine wl_X2_nextOrder_7 C (fun v1_0_1 hz => ?_) 1000 _ hq1
  subst q1
  try dsimp only at h
  refine x_iload_n C dX2_nextOrder_34 rfl 1 rfl ?_
  by_cases hc2 : 0 ≤ v1_0_1
  · replace h := (if_pos hc2).symm.trans h
    refine x_if_geT C dX2_nextOrder_35 (tgt := 39) (by decide) hc2 ?_
    refine x_aload_n C dX2_nextOrder_39 rfl 0 rfl ?_
    refine x_geti C 40 rfl rfl inX2 9 (by decide) rfl kF_X2_89 rfl (v := (σ 40 9)) rfl dX2_nextOrder_40 ?_
    refine x_iconst C dX2_nextOrder_43 (v := 1) (by decide) ?_
    refine x_isub C dX2_nextOrder_44 ?_
    refine x_istore_n C dX2_nextOrder_45 rfl (lv2 := [(0, .ref (gs_a E 40)), (1, .int v1_0_1), (2, .int ((σ 40 9) - (1 : Int32)))]) (by decide) rfl [1, 2, 0] rfl ?_
    obtain ⟨q3, hq3, h⟩ := Option.bind_eq_some_iff.mp h
    refine wl_X2_nextOrder_46 C (fun v3_0_2 hz => ?_) 1000 _ hq3
    subst q3
    try dsimp only at h
    refine x_aload_n C dX2_nextOrder_72 rfl 0 rfl ?_
    refine x_iload_n C dX2_nextOrder_73 rfl 1 rfl ?_
    refine x_iload_n C dX2_nextOrder_74 rfl 2 rfl ?_
    obtain ⟨s4, hv4, h⟩ := Option.bind_eq_some_iff.mp h
    refine x_callV C 40 (m_X2_swapAt hv4) rfl rfl kM_X2_114 kI_X2_swapAt kS_X2_swapAt kN_X2 kC_X2_swapAt kD_X2_swapAt rfl ⟨Nat.le_of_ble_eq_true rfl, Nat.le_of_ble_eq_true rfl⟩ ⟨Nat.le_refl _, Nat.le_refl _⟩ (rest := []) rfl (Nat.le_of_ble_eq_true rfl) dX2_nextOrder_75 (st' := []) rfl ?_
    refine x_aload_n C dX2_nextOrder_78 rfl 0 rfl ?_
    refine x_geti C 40 rfl rfl inX2 9 (by decide) rfl kF_X2_89 rfl (v := (s4 40 9)) rfl dX2_nextOrder_79 ?_
    refine x_iconst C dX2_nextOrder_82 (v := 1) (by decide) ?_
    refine x_isub C dX2_nextOrder_83 ?_
    refine x_istore_n C dX2_nextOrder_84 rfl (lv2 := [(0, .ref (gs_a E 40)), (1, .int v1_0_1), (2, .int v3_0_2), (3, .int ((s4 40 9) - (1 : Int32)))]) (by decide) rfl [1, 2, 3, 0] rfl ?_
    refine x_iload_n C dX2_nextOrder_85 rfl 1 rfl ?_
    refine x_iconst C dX2_nextOrder_86 (v := 1) (by decide) ?_
    refine x_iadd C dX2_nextOrder_87 ?_
    refine x_istore C dX2_nextOrder_88 (lv2 := [(0, .ref (gs_a E 40)), (1, .int v1_0_1), (2, .int v3_0_2), (3, .int ((s4 40 9) - (1 : Int32))), (4, .int (v1_0_1 + (1 : Int32)))]) (by decide) rfl [1, 2, 3, 4, 0] rfl ?_
    refine x_lv (lv' := [(0, .ref (gs_a E 40)), (3, .int ((s4 40 9) - (1 : Int32))), (4, .int (v1_0_1 + (1 : Int32)))]) [0, 3, 4] rfl ?_
    obtain ⟨q5, hq5, h⟩ := Option.bind_eq_some_iff.mp h
    refine wl_X2_nextOrder_90 C (fun s5_0 hz => ?_) 1000 _ _ _ hq5
    subst q5
    try dsimp only at h
    replace h := Option.some.inj h
    subst h
    exact x_retv C hr rfl dX2_nextOrder_112
  · replace h := (if_neg hc2).symm.trans h
    refine x_if_geF C dX2_nextOrder_35 (tgt := 39) (by decide) hc2 ?_
    replace h := Option.some.inj h
    subst h
    exact x_retv C hr rfl dX2_nextOrder_38
def b_X2_findBestLaying_12 (y : Int32 × gs_H) : Option ((Int32 × gs_H) ⊕ ((gs_H))) :=
if (y.2 40 10) ≤ y.1 then (
some (Sum.inr y.2))
else (
(f_X2_layInOrder y.2).bind fun q4 =>
(f_X6_hang 42 47 q4).bind fun q5 =>
(f_X6_rodsLevel 42 q5).bind fun q6 =>
(f_X6_tiltTogether q5).bind fun q7 =>
(f_X2_keepIfBetter q6 q7 q5).bind fun q8 =>
(f_X2_nextOrder q8).bind fun q9 =>
some (Sum.inl ((y.1 + (1 : Int32)), q9)))
def f_X2_findBestLaying (σ : gs_H) : Option (gs_H) :=
(f_X2_beginOrders σ).bind fun q1 =>
(lp (b_X2_findBestLaying_12) 1000 ((0 : Int32), (up2 q1 40 0 (-1 : Int32)))).bind fun q2 =>
some q2
set_option maxHeartbeats 4000000 in
set_option maxRecDepth 20000 in
theorem wl_X2_findBestLaying_12 {E : gs_E} {l : Launch} {p : Program} {e : Env} {s : State} {m : MethodId} {args : Array Value} {below : List Frame} {meth : Method} {c : Code} (C : gs_X E RX2 cX2_findBestLaying 3 p s m args meth c) {ov : Option Value} {σ0 : gs_H} {g0 : Int64} {g : Int64} {q : (gs_H)} (hx0 : ∀ (zs : gs_H), q = zs → gs_V E 3 (4, 90) p l e s m args below meth c ov σ0 g0 66 [] [] zs g) : ∀ (n : Nat) (y2 : Int32) (ys : gs_H), lp (b_X2_findBestLaying_12) n (y2, ys) = some q → gs_V E 3 (4, 90) p l e s m args below meth c ov σ0 g0 12 [(0, .ref (gs_a E 40)), (1, .ref (gs_a E 9)), (2, .int y2)] [] ys g := by
  intro n
  induction n with
  | zero => intro y2 ys h; cases h
  | succ n ih =>
    intro y2 ys h
    obtain ⟨r, h, hl, he⟩ := lp_step h
    have hc := fun (y2 : Int32) (ys : gs_H) (hr : r = Sum.inl (y2, ys)) => ih y2 ys (hl _ hr)
    have hk0 := fun (zs : gs_H) (hr : r = Sum.inr zs) => hx0 zs (he _ hr).symm
    unfold b_X2_findBestLaying_12 at h
    try dsimp only at h
    refine x_iload_n C dX2_findBestLaying_12 rfl 2 rfl ?_
    refine x_aload_n C dX2_findBestLaying_13 rfl 0 rfl ?_
    refine x_geti C 40 rfl rfl inX2 10 (by decide) rfl kF_X2_70 rfl (v := (ys 40 10)) rfl dX2_findBestLaying_14 ?_
    by_cases hc1 : (ys 40 10) ≤ y2
    · replace h := (if_pos hc1).symm.trans h
      refine x_icmp_geT C dX2_findBestLaying_17 (tgt := 66) (by decide) hc1 ?_
      refine x_lv (lv' := []) [] rfl ?_
      obtain rfl := Option.some.inj h
      exact hk0 ys rfl
    · replace h := (if_neg hc1).symm.trans h
      refine x_icmp_geF C dX2_findBestLaying_17 (tgt := 66) (by decide) hc1 ?_
      refine x_aload_n C dX2_findBestLaying_20 rfl 0 rfl ?_
      obtain ⟨s2, hv2, h⟩ := Option.bind_eq_some_iff.mp h
      refine x_callV C 40 (m_X2_layInOrder hv2) rfl rfl kM_X2_73 kI_X2_layInOrder kS_X2_layInOrder kN_X2 kC_X2_layInOrder kD_X2_layInOrder rfl ⟨Nat.le_of_ble_eq_true rfl, Nat.le_of_ble_eq_true rfl⟩ ⟨Nat.le_refl _, Nat.le_refl _⟩ (rest := []) rfl (Nat.le_of_ble_eq_true rfl) dX2_findBestLaying_21 (st' := []) rfl ?_
      refine x_aload_n C dX2_findBestLaying_24 rfl 0 rfl ?_
      refine x_getr C 40 rfl rfl inX2 5 (by decide) rfl kF_X2_18 rfl dX2_findBestLaying_25 ?_
      refine x_aload_n C dX2_findBestLaying_28 rfl 1 rfl ?_
      refine x_aload_n C dX2_findBestLaying_29 rfl 0 rfl ?_
      refine x_getr C 40 rfl rfl inX2 6 (by decide) rfl kF_X2_22 rfl dX2_findBestLaying_30 ?_
      obtain ⟨s3, hv3, h⟩ := Option.bind_eq_some_iff.mp h
      refine x_callV C 42 (m_X6_hang_42_47 hv3) rfl rfl kM_X2_60 kI_X6_hang kS_X6_hang kN_X6 kC_X6_hang kD_X6_hang rfl ⟨Nat.le_of_ble_eq_true rfl, Nat.le_of_ble_eq_true rfl⟩ ⟨Nat.le_refl _, Nat.le_refl _⟩ (rest := []) rfl (Nat.le_of_ble_eq_true rfl) dX2_findBestLaying_33 (st' := []) rfl ?_
      refine x_aload_n C dX2_findBestLaying_36 rfl 0 rfl ?_
      refine x_aload_n C dX2_findBestLaying_37 rfl 0 rfl ?_
      refine x_getr C 40 rfl rfl inX2 5 (by decide) rfl kF_X2_18 rfl dX2_findBestLaying_38 ?_
      refine x_aload_n C dX2_findBestLaying_41 rfl 1 rfl ?_
      obtain ⟨v4, hv4, h⟩ := Option.bind_eq_some_iff.mp h
      refine x_callV C 42 (m_X6_rodsLevel_42 hv4) rfl rfl kM_X2_35 kI_X6_rodsLevel kS_X6_rodsLevel kN_X6 kC_X6_rodsLevel kD_X6_rodsLevel rfl ⟨Nat.le_of_ble_eq_true rfl, Nat.le_of_ble_eq_true rfl⟩ ⟨Nat.le_refl _, Nat.le_refl _⟩ (rest := [.ref (gs_a E 40)]) rfl (Nat.le_of_ble_eq_true rfl) dX2_findBestLaying_42 (st' := [.int v4, .ref (gs_a E 40)]) rfl ?_
      refine x_aload_n C dX2_findBestLaying_45 rfl 0 rfl ?_
      refine x_getr C 40 rfl rfl inX2 5 (by decide) rfl kF_X2_18 rfl dX2_findBestLaying_46 ?_
      refine x_aload_n C dX2_findBestLaying_49 rfl 1 rfl ?_
      obtain ⟨v5, hv5, h⟩ := Option.bind_eq_some_iff.mp h
      refine x_callV C 42 (m_X6_tiltTogether hv5) rfl rfl kM_X2_76 kI_X6_tiltTogether kS_X6_tiltTogether kN_X6 kC_X6_tiltTogether kD_X6_tiltTogether rfl ⟨Nat.le_of_ble_eq_true rfl, Nat.le_of_ble_eq_true rfl⟩ ⟨Nat.le_refl _, Nat.le_refl _⟩ (rest := [.int v4, .ref (gs_a E 40)]) rfl (Nat.le_of_ble_eq_true rfl) dX2_findBestLaying_50 (st' := [.int v5, .int v4, .ref (gs_a E 40)]) rfl ?_
      obtain ⟨s6, hv6, h⟩ := Option.bind_eq_some_iff.mp h
      refine x_callV C 40 (m_X2_keepIfBetter hv6) rfl rfl kM_X2_79 kI_X2_keepIfBetter kS_X2_keepIfBetter kN_X2 kC_X2_keepIfBetter kD_X2_keepIfBetter rfl ⟨Nat.le_of_ble_eq_true rfl, Nat.le_of_ble_eq_true rfl⟩ ⟨Nat.le_refl _, Nat.le_refl _⟩ (rest := []) rfl (Nat.le_of_ble_eq_true rfl) dX2_findBestLaying_53 (st' := []) rfl ?_
      refine x_aload_n C dX2_findBestLaying_56 rfl 0 rfl ?_
      obtain ⟨s7, hv7, h⟩ := Option.bind_eq_some_iff.mp h
      refine x_callV C 40 (m_X2_nextOrder hv7) rfl rfl kM_X2_83 kI_X2_nextOrder kS_X2_nextOrder kN_X2 kC_X2_nextOrder kD_X2_nextOrder rfl ⟨Nat.le_of_ble_eq_true rfl, Nat.le_of_ble_eq_true rfl⟩ ⟨Nat.le_refl _, Nat.le_refl _⟩ (rest := []) rfl (Nat.le_of_ble_eq_true rfl) dX2_findBestLaying_57 (st' := []) rfl ?_
      refine x_iinc C dX2_findBestLaying_60 2 rfl (v := (y2 + (1 : Int32))) rfl (lv2 := [(0, .ref (gs_a E 40)), (1, .ref (gs_a E 9)), (2, .int (y2 + (1 : Int32)))]) (by decide) rfl [1, 2, 0] rfl ?_
      refine x_goto C dX2_findBestLaying_63 (tgt := 12) (by decide) ?_
      obtain rfl := Option.some.inj h
      exact hc (y2 + (1 : Int32)) s7 rfl
set_option maxHeartbeats 4000000 in
set_option maxRecDepth 20000 in
theorem m_X2_findBestLaying {E : gs_E} {l : Launch} {σ : gs_H} {g : Int64} {σ0 : gs_H} (h : f_X2_findBestLaying σ = some σ0) : gs_M l E yX2_findBestLaying cX2_findBestLaying 3 (none) (4, 90) [.ref (gs_a E 40), .ref (gs_a E 9)] σ g (none) σ0 g := by
  refine x_enter (lv := [(0, .ref (gs_a E 40)), (1, .ref (gs_a E 9))]) (by decide +kernel) (Nat.le_of_ble_eq_true rfl) rfl (fun p e s m args below meth c C hr => ?_)
  unfold f_X2_findBestLaying at h
  refine x_aload_n C dX2_findBestLaying_0 rfl 0 rfl ?_
  refine x_aload_n C dX2_findBestLaying_1 rfl 1 rfl ?_
  obtain ⟨s1, hv1, h⟩ := Option.bind_eq_some_iff.mp h
  refine x_callV C 40 (m_X2_beginOrders hv1) rfl rfl kM_X2_64 kI_X2_beginOrders kS_X2_beginOrders kN_X2 kC_X2_beginOrders kD_X2_beginOrders rfl ⟨Nat.le_of_ble_eq_true rfl, Nat.le_of_ble_eq_true rfl⟩ ⟨Nat.le_refl _, Nat.le_refl _⟩ (rest := []) rfl (Nat.le_of_ble_eq_true rfl) dX2_findBestLaying_2 (st' := []) rfl ?_
  refine x_aload_n C dX2_findBestLaying_5 rfl 0 rfl ?_
  refine x_iconst C dX2_findBestLaying_6 (v := -1) (by decide) ?_
  refine x_puti C 40 rfl rfl inX2 tyX2 tyX2_ok nmX2 0 (by decide) rfl kF_X2_67 rfl rfl rfl rfl dX2_findBestLaying_7 ?_
  refine x_iconst C dX2_findBestLaying_10 (v := 0) (by decide) ?_
  refine x_istore_n C dX2_findBestLaying_11 rfl (lv2 := [(0, .ref (gs_a E 40)), (1, .ref (gs_a E 9)), (2, .int (0 : Int32))]) (by decide) rfl [1, 2, 0] rfl ?_
  obtain ⟨q2, hq2, h⟩ := Option.bind_eq_some_iff.mp h
  refine wl_X2_findBestLaying_12 C (fun s2_0 hz => ?_) 1000 _ _ hq2
  subst q2
  try dsimp only at h
  replace h := Option.some.inj h
  subst h
  exact x_retv C hr rfl dX2_findBestLaying_66
def b_X2_greatestDivisor_2 (x0 : Int32) (x1 : Int32) (y : Int32) : Option ((Int32) ⊕ ((Int32) ⊕ (Unit))) :=
if y ≤ (1 : Int32) then (
some (Sum.inr (Sum.inr ())))
else (
if ¬ y = 0 then
if (x0 - x0 / y * y) = 0 then (
if ¬ y = 0 then
if (x1 - x1 / y * y) = 0 then (
some (Sum.inr (Sum.inl y)))
else (
some (Sum.inl (y + (-1 : Int32)))) else none)
else (
some (Sum.inl (y + (-1 : Int32)))) else none)
def f_X2_greatestDivisor (x0 : Int32) (x1 : Int32) : Option (Int32) :=
(lp (b_X2_greatestDivisor_2 x0 x1) 1000 x1).bind fun q1 =>
match q1 with
| .inl q1_0 =>
some q1_0
| .inr q1_1 =>
some (1 : Int32)
set_option maxHeartbeats 4000000 in
set_option maxRecDepth 20000 in
theorem wl_X2_greatestDivisor_2 {E : gs_E} {l : Launch} {p : Program} {e : Env} {s : State} {m : MethodId} {args : Array Value} {below : List Frame} {meth : Method} {c : Code} (C : gs_X E RX2 cX2_greatestDivisor 3 p s m args meth c) {ov : Option Value} {σ0 : gs_H} {g0 : Int64} {x0 : Int32} {x1 : Int32} {σ : gs_H} {g : Int64} {q : (Int32) ⊕ (Unit)} (hx0 : ∀ (z2 : Int32), q = (Sum.inl z2) → gs_V E 3 (0, 0) p l e s m args below meth c ov σ0 g0 19 [(2, .int z2)] [] σ g) (hx1 : q = (Sum.inr ()) → gs_V E 3 (0, 0) p l e s m args below meth c ov σ0 g0 27 [] [] σ g) : ∀ (n : Nat) (y2 : Int32), lp (b_X2_greatestDivisor_2 x0 x1) n y2 = some q → gs_V E 3 (0, 0) p l e s m args below meth c ov σ0 g0 2 [(0, .int x0), (1, .int x1), (2, .int y2)] [] σ g := by
  intro n
  induction n with
  | zero => intro y2 h; cases h
  | succ n ih =>
    intro y2 h
    obtain ⟨r, h, hl, he⟩ := lp_step h
    have hc := fun (y2 : Int32) (hr : r = Sum.inl y2) => ih y2 (hl _ hr)
    have hk0 := fun (z2 : Int32) (hr : r = Sum.inr (Sum.inl z2)) => hx0 z2 (he _ hr).symm
    have hk1 := fun (hr : r = Sum.inr (Sum.inr ())) => hx1 (he _ hr).symm
    unfold b_X2_greatestDivisor_2 at h
    try dsimp only at h
    refine x_iload_n C dX2_greatestDivisor_2 rfl 2 rfl ?_
    refine x_iconst C dX2_greatestDivisor_3 (v := 1) (by decide) ?_
    by_cases hc1 : y2 ≤ (1 : Int32)
    · replace h := (if_pos hc1).symm.trans h
      refine x_icmp_leT C dX2_greatestDivisor_4 (tgt := 27) (by decide) hc1 ?_
      refine x_lv (lv' := []) [] rfl ?_
      obtain rfl := Option.some.inj h
      exact hk1  rfl
    · replace h := (if_neg hc1).symm.trans h
      refine x_icmp_leF C dX2_greatestDivisor_4 (tgt := 27) (by decide) hc1 ?_
      refine x_iload_n C dX2_greatestDivisor_7 rfl 0 rfl ?_
      refine x_iload_n C dX2_greatestDivisor_8 rfl 2 rfl ?_
      obtain ⟨hn2, h⟩ := ck_some h
      refine x_irem C dX2_greatestDivisor_9 hn2 ?_
      by_cases hc3 : (x0 - x0 / y2 * y2) = 0
      · replace h := (if_pos hc3).symm.trans h
        refine x_if_neF C dX2_greatestDivisor_10 (tgt := 21) (by decide) hc3 ?_
        refine x_iload_n C dX2_greatestDivisor_13 rfl 1 rfl ?_
        refine x_iload_n C dX2_greatestDivisor_14 rfl 2 rfl ?_
        obtain ⟨hn4, h⟩ := ck_some h
        refine x_irem C dX2_greatestDivisor_15 hn4 ?_
        by_cases hc5 : (x1 - x1 / y2 * y2) = 0
        · replace h := (if_pos hc5).symm.trans h
          refine x_if_neF C dX2_greatestDivisor_16 (tgt := 21) (by decide) hc5 ?_
          refine x_lv (lv' := [(2, .int y2)]) [2] rfl ?_
          obtain rfl := Option.some.inj h
          exact hk0 y2 rfl
        · replace h := (if_neg hc5).symm.trans h
          refine x_if_neT C dX2_greatestDivisor_16 (tgt := 21) (by decide) hc5 ?_
          refine x_iinc C dX2_greatestDivisor_21 2 rfl (v := (y2 + (-1 : Int32))) rfl (lv2 := [(0, .int x0), (1, .int x1), (2, .int (y2 + (-1 : Int32)))]) (by decide) rfl [1, 2, 0] rfl ?_
          refine x_goto C dX2_greatestDivisor_24 (tgt := 2) (by decide) ?_
          obtain rfl := Option.some.inj h
          exact hc (y2 + (-1 : Int32)) rfl
      · replace h := (if_neg hc3).symm.trans h
        refine x_if_neT C dX2_greatestDivisor_10 (tgt := 21) (by decide) hc3 ?_
        refine x_iinc C dX2_greatestDivisor_21 2 rfl (v := (y2 + (-1 : Int32))) rfl (lv2 := [(0, .int x0), (1, .int x1), (2, .int (y2 + (-1 : Int32)))]) (by decide) rfl [1, 2, 0] rfl ?_
        refine x_goto C dX2_greatestDivisor_24 (tgt := 2) (by decide) ?_
        obtain rfl := Option.some.inj h
        exact hc (y2 + (-1 : Int32)) rfl
set_option maxHeartbeats 4000000 in
set_option maxRecDepth 20000 in
theorem m_X2_greatestDivisor {E : gs_E} {l : Launch} {x0 : Int32} {x1 : Int32} {σ : gs_H} {g : Int64} {r0 : Int32} (h : f_X2_greatestDivisor x0 x1 = some r0) : gs_M l E yX2_greatestDivisor cX2_greatestDivisor 3 (some .int) (0, 0) [.int x0, .int x1] σ g (some (.int r0)) σ g := by
  refine x_enter (lv := [(0, .int x0), (1, .int x1)]) (by decide +kernel) (Nat.le_of_ble_eq_true rfl) rfl (fun p e s m args below meth c C hr => ?_)
  unfold f_X2_greatestDivisor at h
  refine x_iload_n C dX2_greatestDivisor_0 rfl 1 rfl ?_
  refine x_istore_n C dX2_greatestDivisor_1 rfl (lv2 := [(0, .int x0), (1, .int x1), (2, .int x1)]) (by decide) rfl [1, 2, 0] rfl ?_
  obtain ⟨q1, hq1, h⟩ := Option.bind_eq_some_iff.mp h
  refine wl_X2_greatestDivisor_2 C (fun v1_0_2 hz => ?_) (fun  hz => ?_) 1000 _ hq1
  · subst q1
    try dsimp only at h
    refine x_iload_n C dX2_greatestDivisor_19 rfl 0 rfl ?_
    replace h := Option.some.inj h
    subst h
    exact x_ret C hr rfl rfl dX2_greatestDivisor_20
  · subst q1
    try dsimp only at h
    refine x_iconst C dX2_greatestDivisor_27 (v := 1) (by decide) ?_
    replace h := Option.some.inj h
    subst h
    exact x_ret C hr rfl rfl dX2_greatestDivisor_28
def j_X2_findOdds_42 (x3 : Int32) (t0 : Int32) (t1 : Int32) (σ : gs_H) : Option ((Int32 × Int32 × gs_H) ⊕ ((Int32 × gs_H))) :=
(f_X2_nextOrder σ).bind fun q10 =>
some (Sum.inl ((t0 + t1), (x3 + (1 : Int32)), q10))
def b_X2_findOdds_9 (y : Int32 × Int32 × gs_H) : Option ((Int32 × Int32 × gs_H) ⊕ ((Int32 × gs_H))) :=
if (y.2.2 40 10) ≤ y.2.1 then (
some (Sum.inr (y.1, y.2.2)))
else (
(f_X2_layInOrder y.2.2).bind fun q7 =>
(f_X6_hangsLevel 42 47 q7).bind fun q8 =>
if q8.1 = 0 then (
j_X2_findOdds_42 y.2.1 y.1 (0 : Int32) q8.2)
else (
j_X2_findOdds_42 y.2.1 y.1 (1 : Int32) q8.2))
def f_X2_findOdds (σ : gs_H) : Option (gs_H) :=
(f_X2_beginOrders σ).bind fun q1 =>
(lp (b_X2_findOdds_9) 1000 ((0 : Int32), (0 : Int32), q1)).bind fun q2 =>
(f_X2_greatestDivisor q2.1 (q2.2 40 10)).bind fun q3 =>
if ¬ q3 = 0 then
if ¬ q3 = 0 then
some (up2 (up2 q2.2 40 3 (q2.1 / q3)) 40 4 ((q2.2 40 10) / q3)) else none else none
set_option maxHeartbeats 4000000 in
set_option maxRecDepth 20000 in
theorem wj_X2_findOdds_42 {E : gs_E} {l : Launch} {p : Program} {e : Env} {s : State} {m : MethodId} {args : Array Value} {below : List Frame} {meth : Method} {c : Code} (C : gs_X E RX2 cX2_findOdds 4 p s m args meth c) {ov : Option Value} {σ0 : gs_H} {g0 : Int64} {x3 : Int32} {t0 : Int32} {t1 : Int32} {σ : gs_H} {g : Int64} {r : (Int32 × Int32 × gs_H) ⊕ ((Int32 × gs_H))} (h : j_X2_findOdds_42 x3 t0 t1 σ = some r) (hc : ∀ (y2 : Int32) (y3 : Int32) (ys : gs_H), r = Sum.inl (y2, y3, ys) → gs_V E 4 (4, 90) p l e s m args below meth c ov σ0 g0 9 [(0, .ref (gs_a E 40)), (1, .ref (gs_a E 9)), (2, .int y2), (3, .int y3)] [] ys g) (hk0 : ∀ (z2 : Int32) (zs : gs_H), r = Sum.inr (z2, zs) → gs_V E 4 (4, 90) p l e s m args below meth c ov σ0 g0 54 [(0, .ref (gs_a E 40)), (2, .int z2)] [] zs g) : gs_V E 4 (4, 90) p l e s m args below meth c ov σ0 g0 42 [(0, .ref (gs_a E 40)), (1, .ref (gs_a E 9)), (3, .int x3)] [.int t1, .int t0] σ g := by
  unfold j_X2_findOdds_42 at h
  refine x_iadd C dX2_findOdds_42 ?_
  refine x_istore_n C dX2_findOdds_43 rfl (lv2 := [(0, .ref (gs_a E 40)), (1, .ref (gs_a E 9)), (2, .int (t0 + t1)), (3, .int x3)]) (by decide) rfl [1, 2, 0, 3] rfl ?_
  refine x_aload_n C dX2_findOdds_44 rfl 0 rfl ?_
  obtain ⟨s1, hv1, h⟩ := Option.bind_eq_some_iff.mp h
  refine x_callV C 40 (m_X2_nextOrder hv1) rfl rfl kM_X2_83 kI_X2_nextOrder kS_X2_nextOrder kN_X2 kC_X2_nextOrder kD_X2_nextOrder rfl ⟨Nat.le_of_ble_eq_true rfl, Nat.le_of_ble_eq_true rfl⟩ ⟨Nat.le_refl _, Nat.le_refl _⟩ (rest := []) rfl (Nat.le_of_ble_eq_true rfl) dX2_findOdds_45 (st' := []) rfl ?_
  refine x_iinc C dX2_findOdds_48 3 rfl (v := (x3 + (1 : Int32))) rfl (lv2 := [(0, .ref (gs_a E 40)), (1, .ref (gs_a E 9)), (2, .int (t0 + t1)), (3, .int (x3 + (1 : Int32)))]) (by decide) rfl [1, 2, 3, 0] rfl ?_
  refine x_goto C dX2_findOdds_51 (tgt := 9) (by decide) ?_
  obtain rfl := Option.some.inj h
  exact hc (t0 + t1) (x3 + (1 : Int32)) s1 rfl
set_option maxHeartbeats 4000000 in
set_option maxRecDepth 20000 in
theorem wl_X2_findOdds_9 {E : gs_E} {l : Launch} {p : Program} {e : Env} {s : State} {m : MethodId} {args : Array Value} {below : List Frame} {meth : Method} {c : Code} (C : gs_X E RX2 cX2_findOdds 4 p s m args meth c) {ov : Option Value} {σ0 : gs_H} {g0 : Int64} {g : Int64} {q : (Int32 × gs_H)} (hx0 : ∀ (z2 : Int32) (zs : gs_H), q = (z2, zs) → gs_V E 4 (4, 90) p l e s m args below meth c ov σ0 g0 54 [(0, .ref (gs_a E 40)), (2, .int z2)] [] zs g) : ∀ (n : Nat) (y2 : Int32) (y3 : Int32) (ys : gs_H), lp (b_X2_findOdds_9) n (y2, y3, ys) = some q → gs_V E 4 (4, 90) p l e s m args below meth c ov σ0 g0 9 [(0, .ref (gs_a E 40)), (1, .ref (gs_a E 9)), (2, .int y2), (3, .int y3)] [] ys g := by
  intro n
  induction n with
  | zero => intro y2 y3 ys h; cases h
  | succ n ih =>
    intro y2 y3 ys h
    obtain ⟨r, h, hl, he⟩ := lp_step h
    have hc := fun (y2 : Int32) (y3 : Int32) (ys : gs_H) (hr : r = Sum.inl (y2, y3, ys)) => ih y2 y3 ys (hl _ hr)
    have hk0 := fun (z2 : Int32) (zs : gs_H) (hr : r = Sum.inr (z2, zs)) => hx0 z2 zs (he _ hr).symm
    unfold b_X2_findOdds_9 at h
    try dsimp only at h
    refine x_iload_n C dX2_findOdds_9 rfl 3 rfl ?_
    refine x_aload_n C dX2_findOdds_10 rfl 0 rfl ?_
    refine x_geti C 40 rfl rfl inX2 10 (by decide) rfl kF_X2_70 rfl (v := (ys 40 10)) rfl dX2_findOdds_11 ?_
    by_cases hc1 : (ys 40 10) ≤ y3
    · replace h := (if_pos hc1).symm.trans h
      refine x_icmp_geT C dX2_findOdds_14 (tgt := 54) (by decide) hc1 ?_
      refine x_lv (lv' := [(0, .ref (gs_a E 40)), (2, .int y2)]) [0, 2] rfl ?_
      obtain rfl := Option.some.inj h
      exact hk0 y2 ys rfl
    · replace h := (if_neg hc1).symm.trans h
      refine x_icmp_geF C dX2_findOdds_14 (tgt := 54) (by decide) hc1 ?_
      refine x_aload_n C dX2_findOdds_17 rfl 0 rfl ?_
      obtain ⟨s2, hv2, h⟩ := Option.bind_eq_some_iff.mp h
      refine x_callV C 40 (m_X2_layInOrder hv2) rfl rfl kM_X2_73 kI_X2_layInOrder kS_X2_layInOrder kN_X2 kC_X2_layInOrder kD_X2_layInOrder rfl ⟨Nat.le_of_ble_eq_true rfl, Nat.le_of_ble_eq_true rfl⟩ ⟨Nat.le_refl _, Nat.le_refl _⟩ (rest := []) rfl (Nat.le_of_ble_eq_true rfl) dX2_findOdds_18 (st' := []) rfl ?_
      refine x_iload_n C dX2_findOdds_21 rfl 2 rfl ?_
      refine x_aload_n C dX2_findOdds_22 rfl 0 rfl ?_
      refine x_getr C 40 rfl rfl inX2 5 (by decide) rfl kF_X2_18 rfl dX2_findOdds_23 ?_
      refine x_aload_n C dX2_findOdds_26 rfl 1 rfl ?_
      refine x_aload_n C dX2_findOdds_27 rfl 0 rfl ?_
      refine x_getr C 40 rfl rfl inX2 6 (by decide) rfl kF_X2_22 rfl dX2_findOdds_28 ?_
      obtain ⟨⟨v3, s3⟩, hv3, h⟩ := Option.bind_eq_some_iff.mp h
      try dsimp only at h
      refine x_callV C 42 (m_X6_hangsLevel_42_47 hv3) rfl rfl kM_X2_92 kI_X6_hangsLevel kS_X6_hangsLevel kN_X6 kC_X6_hangsLevel kD_X6_hangsLevel rfl ⟨Nat.le_of_ble_eq_true rfl, Nat.le_of_ble_eq_true rfl⟩ ⟨Nat.le_refl _, Nat.le_refl _⟩ (rest := [.int y2]) rfl (Nat.le_of_ble_eq_true rfl) dX2_findOdds_31 (st' := [.int v3, .int y2]) rfl ?_
      by_cases hc4 : v3 = 0
      · replace h := (if_pos hc4).symm.trans h
        refine x_if_eqT C dX2_findOdds_34 (tgt := 41) (by decide) hc4 ?_
        refine x_iconst C dX2_findOdds_41 (v := 0) (by decide) ?_
        refine x_lv (lv' := [(0, .ref (gs_a E 40)), (1, .ref (gs_a E 9)), (3, .int y3)]) [0, 1, 3] rfl ?_
        exact wj_X2_findOdds_42 C h hc hk0
      · replace h := (if_neg hc4).symm.trans h
        refine x_if_eqF C dX2_findOdds_34 (tgt := 41) (by decide) hc4 ?_
        refine x_iconst C dX2_findOdds_37 (v := 1) (by decide) ?_
        refine x_goto C dX2_findOdds_38 (tgt := 42) (by decide) ?_
        refine x_lv (lv' := [(0, .ref (gs_a E 40)), (1, .ref (gs_a E 9)), (3, .int y3)]) [0, 1, 3] rfl ?_
        exact wj_X2_findOdds_42 C h hc hk0
set_option maxHeartbeats 4000000 in
set_option maxRecDepth 20000 in
theorem m_X2_findOdds {E : gs_E} {l : Launch} {σ : gs_H} {g : Int64} {σ0 : gs_H} (h : f_X2_findOdds σ = some σ0) : gs_M l E yX2_findOdds cX2_findOdds 4 (none) (4, 90) [.ref (gs_a E 40), .ref (gs_a E 9)] σ g (none) σ0 g := by
  refine x_enter (lv := [(0, .ref (gs_a E 40)), (1, .ref (gs_a E 9))]) (by decide +kernel) (Nat.le_of_ble_eq_true rfl) rfl (fun p e s m args below meth c C hr => ?_)
  unfold f_X2_findOdds at h
  refine x_aload_n C dX2_findOdds_0 rfl 0 rfl ?_
  refine x_aload_n C dX2_findOdds_1 rfl 1 rfl ?_
  obtain ⟨s1, hv1, h⟩ := Option.bind_eq_some_iff.mp h
  refine x_callV C 40 (m_X2_beginOrders hv1) rfl rfl kM_X2_64 kI_X2_beginOrders kS_X2_beginOrders kN_X2 kC_X2_beginOrders kD_X2_beginOrders rfl ⟨Nat.le_of_ble_eq_true rfl, Nat.le_of_ble_eq_true rfl⟩ ⟨Nat.le_refl _, Nat.le_refl _⟩ (rest := []) rfl (Nat.le_of_ble_eq_true rfl) dX2_findOdds_2 (st' := []) rfl ?_
  refine x_iconst C dX2_findOdds_5 (v := 0) (by decide) ?_
  refine x_istore_n C dX2_findOdds_6 rfl (lv2 := [(0, .ref (gs_a E 40)), (1, .ref (gs_a E 9)), (2, .int (0 : Int32))]) (by decide) rfl [1, 2, 0] rfl ?_
  refine x_iconst C dX2_findOdds_7 (v := 0) (by decide) ?_
  refine x_istore_n C dX2_findOdds_8 rfl (lv2 := [(0, .ref (gs_a E 40)), (1, .ref (gs_a E 9)), (2, .int (0 : Int32)), (3, .int (0 : Int32))]) (by decide) rfl [1, 2, 3, 0] rfl ?_
  obtain ⟨q2, hq2, h⟩ := Option.bind_eq_some_iff.mp h
  refine wl_X2_findOdds_9 C (fun v2_0_2 s2_0 hz => ?_) 1000 _ _ _ hq2
  subst q2
  try dsimp only at h
  refine x_iload_n C dX2_findOdds_54 rfl 1 rfl ?_
  refine x_aload_n C dX2_findOdds_55 rfl 0 rfl ?_
  refine x_geti C 40 rfl rfl inX2 10 (by decide) rfl kF_X2_70 rfl (v := (s2_0 40 10)) rfl dX2_findOdds_56 ?_
  obtain ⟨v3, hv3, h⟩ := Option.bind_eq_some_iff.mp h
  refine x_callS C (m_X2_greatestDivisor hv3) kM_X2_96 kT_X2_greatestDivisor kN_X2 kC_X2_greatestDivisor kD_X2_greatestDivisor rfl ⟨Nat.le_of_ble_eq_true rfl, Nat.le_of_ble_eq_true rfl⟩ ⟨Nat.le_refl _, Nat.le_refl _⟩ (rest := []) rfl (Nat.le_of_ble_eq_true rfl) dX2_findOdds_59 (st' := [.int v3]) rfl ?_
  refine x_istore_n C dX2_findOdds_62 rfl (lv2 := [(0, .ref (gs_a E 40)), (2, .int v2_0_2), (3, .int v3)]) (by decide) rfl [1, 2, 0] rfl ?_
  refine x_aload_n C dX2_findOdds_63 rfl 0 rfl ?_
  refine x_iload_n C dX2_findOdds_64 rfl 1 rfl ?_
  refine x_iload_n C dX2_findOdds_65 rfl 2 rfl ?_
  obtain ⟨hn4, h⟩ := ck_some h
  refine x_idiv C dX2_findOdds_66 hn4 ?_
  refine x_puti C 40 rfl rfl inX2 tyX2 tyX2_ok nmX2 3 (by decide) rfl kF_X2_100 rfl rfl rfl rfl dX2_findOdds_67 ?_
  refine x_aload_n C dX2_findOdds_70 rfl 0 rfl ?_
  refine x_aload_n C dX2_findOdds_71 rfl 0 rfl ?_
  refine x_geti C 40 rfl rfl inX2 10 (by decide) rfl kF_X2_70 rfl (v := (s2_0 40 10)) rfl dX2_findOdds_72 ?_
  refine x_iload_n C dX2_findOdds_75 rfl 2 rfl ?_
  obtain ⟨hn5, h⟩ := ck_some h
  refine x_idiv C dX2_findOdds_76 hn5 ?_
  refine x_puti C 40 rfl rfl inX2 tyX2 tyX2_ok nmX2 4 (by decide) rfl kF_X2_103 rfl rfl rfl rfl dX2_findOdds_77 ?_
  replace h := Option.some.inj h
  subst h
  exact x_retv C hr rfl dX2_findOdds_80
def f_X0_draw (x1 : Int32) (σ : gs_H) : Option (Int32 × gs_H) :=
if x1 ≤ 0 then (
some ((0 : Int32), (up2 σ 50 2 ((((1103515245 : Int64) * (σ 50 2).toInt64) + (12345 : Int64)) &&& (2147483647 : Int64)).toInt32)))
else (
if ¬ x1 = 0 then
some (((((((1103515245 : Int64) * (σ 50 2).toInt64) + (12345 : Int64)) &&& (2147483647 : Int64)).toInt32 / (65536 : Int32)) - (((((1103515245 : Int64) * (σ 50 2).toInt64) + (12345 : Int64)) &&& (2147483647 : Int64)).toInt32 / (65536 : Int32)) / x1 * x1), (up2 σ 50 2 ((((1103515245 : Int64) * (σ 50 2).toInt64) + (12345 : Int64)) &&& (2147483647 : Int64)).toInt32)) else none)
set_option maxHeartbeats 4000000 in
set_option maxRecDepth 20000 in
theorem m_X0_draw {E : gs_E} {l : Launch} {x1 : Int32} {σ : gs_H} {g : Int64} {r0 : Int32} {σ0 : gs_H} (h : f_X0_draw x1 σ = some (r0, σ0)) : gs_M l E yX0_draw cX0_draw 2 (some .int) (0, 0) [.ref (gs_a E 50), .int x1] σ g (some (.int r0)) σ0 g := by
  refine x_enter (lv := [(0, .ref (gs_a E 50)), (1, .int x1)]) (by decide +kernel) (Nat.le_of_ble_eq_true rfl) rfl (fun p e s m args below meth c C hr => ?_)
  unfold f_X0_draw at h
  refine x_aload_n C dX0_draw_0 rfl 0 rfl ?_
  refine x_ldc2 C kK_X0_72 dX0_draw_1 ?_
  refine x_aload_n C dX0_draw_4 rfl 0 rfl ?_
  refine x_geti C 50 rfl rfl inX0 2 (by decide) rfl kF_X0_37 rfl (v := (σ 50 2)) rfl dX0_draw_5 ?_
  refine x_i2l C dX0_draw_8 ?_
  refine x_lmul C dX0_draw_9 ?_
  refine x_ldc2 C kK_X0_74 dX0_draw_10 ?_
  refine x_ladd C dX0_draw_13 ?_
  refine x_ldc2 C kK_X0_76 dX0_draw_14 ?_
  refine x_land C dX0_draw_17 ?_
  refine x_l2i C dX0_draw_18 ?_
  refine x_puti C 50 rfl rfl inX0 tyX0 tyX0_ok nmX0 2 (by decide) rfl kF_X0_37 rfl rfl rfl rfl dX0_draw_19 ?_
  refine x_iload_n C dX0_draw_22 rfl 1 rfl ?_
  by_cases hc1 : x1 ≤ 0
  · replace h := (if_pos hc1).symm.trans h
    refine x_if_leT C dX0_draw_23 (tgt := 38) (by decide) hc1 ?_
    refine x_iconst C dX0_draw_38 (v := 0) (by decide) ?_
    replace h := Option.some.inj h
    obtain ⟨rfl, rfl⟩ := Prod.mk.inj h
    exact x_ret C hr rfl rfl dX0_draw_39
  · replace h := (if_neg hc1).symm.trans h
    refine x_if_leF C dX0_draw_23 (tgt := 38) (by decide) hc1 ?_
    refine x_aload_n C dX0_draw_26 rfl 0 rfl ?_
    refine x_geti C 50 rfl rfl inX0 2 (by decide) rfl kF_X0_37 rfl (v := ((((1103515245 : Int64) * (σ 50 2).toInt64) + (12345 : Int64)) &&& (2147483647 : Int64)).toInt32) rfl dX0_draw_27 ?_
    refine x_ldc C kK_X0_78 dX0_draw_30 ?_
    refine x_idiv C dX0_draw_32 (by decide) ?_
    refine x_iload_n C dX0_draw_33 rfl 1 rfl ?_
    obtain ⟨hn2, h⟩ := ck_some h
    refine x_irem C dX0_draw_34 hn2 ?_
    refine x_goto C dX0_draw_35 (tgt := 39) (by decide) ?_
    replace h := Option.some.inj h
    obtain ⟨rfl, rfl⟩ := Prod.mk.inj h
    exact x_ret C hr rfl rfl dX0_draw_39
def b_X0_hoursUntilLevel_2 (y : Int32 × gs_H) : Option ((Int32 × gs_H) ⊕ ((Int32 × gs_H) ⊕ (gs_H))) :=
if (20 : Int32) < y.1 then (
some (Sum.inr (Sum.inr y.2)))
else (
(f_X6_prepare 51 ((y.2 9 2) + y.1) y.2).bind fun q3 =>
(f_X6_hangsLevel 51 12 q3).bind fun q4 =>
if q4.1 = 0 then (
some (Sum.inl ((y.1 + (1 : Int32)), q4.2)))
else (
some (Sum.inr (Sum.inl (y.1, q4.2)))))
def f_X0_hoursUntilLevel (σ : gs_H) : Option (Int32 × gs_H) :=
(lp (b_X0_hoursUntilLevel_2) 1000 ((0 : Int32), σ)).bind fun q1 =>
match q1 with
| .inl q1_0 =>
some (q1_0.1, q1_0.2)
| .inr q1_1 =>
some ((-1 : Int32), q1_1)
set_option maxHeartbeats 4000000 in
set_option maxRecDepth 20000 in
theorem wl_X0_hoursUntilLevel_2 {E : gs_E} {l : Launch} {p : Program} {e : Env} {s : State} {m : MethodId} {args : Array Value} {below : List Frame} {meth : Method} {c : Code} (C : gs_X E RX0 cX0_hoursUntilLevel 3 p s m args meth c) {ov : Option Value} {σ0 : gs_H} {g0 : Int64} {g : Int64} {q : (Int32 × gs_H) ⊕ (gs_H)} (hx0 : ∀ (z2 : Int32) (zs : gs_H), q = (Sum.inl (z2, zs)) → gs_V E 3 (3, 72) p l e s m args below meth c ov σ0 g0 37 [(2, .int z2)] [] zs g) (hx1 : ∀ (zs : gs_H), q = (Sum.inr zs) → gs_V E 3 (3, 72) p l e s m args below meth c ov σ0 g0 45 [] [] zs g) : ∀ (n : Nat) (y2 : Int32) (ys : gs_H), lp (b_X0_hoursUntilLevel_2) n (y2, ys) = some q → gs_V E 3 (3, 72) p l e s m args below meth c ov σ0 g0 2 [(0, .ref (gs_a E 50)), (1, .ref (gs_a E 9)), (2, .int y2)] [] ys g := by
  intro n
  induction n with
  | zero => intro y2 ys h; cases h
  | succ n ih =>
    intro y2 ys h
    obtain ⟨r, h, hl, he⟩ := lp_step h
    have hc := fun (y2 : Int32) (ys : gs_H) (hr : r = Sum.inl (y2, ys)) => ih y2 ys (hl _ hr)
    have hk0 := fun (z2 : Int32) (zs : gs_H) (hr : r = Sum.inr (Sum.inl (z2, zs))) => hx0 z2 zs (he _ hr).symm
    have hk1 := fun (zs : gs_H) (hr : r = Sum.inr (Sum.inr zs)) => hx1 zs (he _ hr).symm
    unfold b_X0_hoursUntilLevel_2 at h
    try dsimp only at h
    refine x_iload_n C dX0_hoursUntilLevel_2 rfl 2 rfl ?_
    refine x_bipush C dX0_hoursUntilLevel_3 (v := 20) (by decide) ?_
    by_cases hc1 : (20 : Int32) < y2
    · replace h := (if_pos hc1).symm.trans h
      refine x_icmp_gtT C dX0_hoursUntilLevel_5 (tgt := 45) (by decide) hc1 ?_
      refine x_lv (lv' := []) [] rfl ?_
      obtain rfl := Option.some.inj h
      exact hk1 ys rfl
    · replace h := (if_neg hc1).symm.trans h
      refine x_icmp_gtF C dX0_hoursUntilLevel_5 (tgt := 45) (by decide) hc1 ?_
      refine x_aload_n C dX0_hoursUntilLevel_8 rfl 0 rfl ?_
      refine x_getr C 50 rfl rfl inX0 3 (by decide) rfl kF_X0_12 rfl dX0_hoursUntilLevel_9 ?_
      refine x_aload_n C dX0_hoursUntilLevel_12 rfl 1 rfl ?_
      refine x_aload_n C dX0_hoursUntilLevel_13 rfl 1 rfl ?_
      refine x_geti C 9 rfl rfl inX3 2 (by decide) rfl kF_X0_22 rfl (v := (ys 9 2)) rfl dX0_hoursUntilLevel_14 ?_
      refine x_iload_n C dX0_hoursUntilLevel_17 rfl 2 rfl ?_
      refine x_iadd C dX0_hoursUntilLevel_18 ?_
      obtain ⟨s2, hv2, h⟩ := Option.bind_eq_some_iff.mp h
      refine x_callV C 51 (m_X6_prepare_51 hv2) rfl rfl kM_X0_28 kI_X6_prepare kS_X6_prepare kN_X6 kC_X6_prepare kD_X6_prepare rfl ⟨Nat.le_of_ble_eq_true rfl, Nat.le_of_ble_eq_true rfl⟩ ⟨Nat.le_refl _, Nat.le_refl _⟩ (rest := []) rfl (Nat.le_of_ble_eq_true rfl) dX0_hoursUntilLevel_19 (st' := []) rfl ?_
      refine x_aload_n C dX0_hoursUntilLevel_22 rfl 0 rfl ?_
      refine x_getr C 50 rfl rfl inX0 3 (by decide) rfl kF_X0_12 rfl dX0_hoursUntilLevel_23 ?_
      refine x_aload_n C dX0_hoursUntilLevel_26 rfl 1 rfl ?_
      refine x_aload_n C dX0_hoursUntilLevel_27 rfl 1 rfl ?_
      refine x_getr C 9 rfl rfl inX3 5 (by decide) rfl kF_X0_32 rfl dX0_hoursUntilLevel_28 ?_
      obtain ⟨⟨v3, s3⟩, hv3, h⟩ := Option.bind_eq_some_iff.mp h
      try dsimp only at h
      refine x_callV C 51 (m_X6_hangsLevel_51_12 hv3) rfl rfl kM_X0_33 kI_X6_hangsLevel kS_X6_hangsLevel kN_X6 kC_X6_hangsLevel kD_X6_hangsLevel rfl ⟨Nat.le_of_ble_eq_true rfl, Nat.le_of_ble_eq_true rfl⟩ ⟨Nat.le_refl _, Nat.le_refl _⟩ (rest := []) rfl (Nat.le_of_ble_eq_true rfl) dX0_hoursUntilLevel_31 (st' := [.int v3]) rfl ?_
      by_cases hc4 : v3 = 0
      · replace h := (if_pos hc4).symm.trans h
        refine x_if_eqT C dX0_hoursUntilLevel_34 (tgt := 39) (by decide) hc4 ?_
        refine x_iinc C dX0_hoursUntilLevel_39 2 rfl (v := (y2 + (1 : Int32))) rfl (lv2 := [(0, .ref (gs_a E 50)), (1, .ref (gs_a E 9)), (2, .int (y2 + (1 : Int32)))]) (by decide) rfl [1, 2, 0] rfl ?_
        refine x_goto C dX0_hoursUntilLevel_42 (tgt := 2) (by decide) ?_
        obtain rfl := Option.some.inj h
        exact hc (y2 + (1 : Int32)) s3 rfl
      · replace h := (if_neg hc4).symm.trans h
        refine x_if_eqF C dX0_hoursUntilLevel_34 (tgt := 39) (by decide) hc4 ?_
        refine x_lv (lv' := [(2, .int y2)]) [2] rfl ?_
        obtain rfl := Option.some.inj h
        exact hk0 y2 s3 rfl
set_option maxHeartbeats 4000000 in
set_option maxRecDepth 20000 in
theorem m_X0_hoursUntilLevel {E : gs_E} {l : Launch} {σ : gs_H} {g : Int64} {r0 : Int32} {σ0 : gs_H} (h : f_X0_hoursUntilLevel σ = some (r0, σ0)) : gs_M l E yX0_hoursUntilLevel cX0_hoursUntilLevel 3 (some .int) (3, 72) [.ref (gs_a E 50), .ref (gs_a E 9)] σ g (some (.int r0)) σ0 g := by
  refine x_enter (lv := [(0, .ref (gs_a E 50)), (1, .ref (gs_a E 9))]) (by decide +kernel) (Nat.le_of_ble_eq_true rfl) rfl (fun p e s m args below meth c C hr => ?_)
  unfold f_X0_hoursUntilLevel at h
  refine x_iconst C dX0_hoursUntilLevel_0 (v := 0) (by decide) ?_
  refine x_istore_n C dX0_hoursUntilLevel_1 rfl (lv2 := [(0, .ref (gs_a E 50)), (1, .ref (gs_a E 9)), (2, .int (0 : Int32))]) (by decide) rfl [1, 2, 0] rfl ?_
  obtain ⟨q1, hq1, h⟩ := Option.bind_eq_some_iff.mp h
  refine wl_X0_hoursUntilLevel_2 C (fun v1_0_2 s1_0 hz => ?_) (fun s1_1 hz => ?_) 1000 _ _ hq1
  · subst q1
    try dsimp only at h
    refine x_iload_n C dX0_hoursUntilLevel_37 rfl 0 rfl ?_
    replace h := Option.some.inj h
    obtain ⟨rfl, rfl⟩ := Prod.mk.inj h
    exact x_ret C hr rfl rfl dX0_hoursUntilLevel_38
  · subst q1
    try dsimp only at h
    refine x_iconst C dX0_hoursUntilLevel_45 (v := -1) (by decide) ?_
    replace h := Option.some.inj h
    obtain ⟨rfl, rfl⟩ := Prod.mk.inj h
    exact x_ret C hr rfl rfl dX0_hoursUntilLevel_46
def j_X0_pass_107 (x2 : Int32) (x4 : Int32) (σ : gs_H) : Option ((Int32 × gs_H) ⊕ ((gs_H))) :=
(f_X6_prepare 51 ((σ 9 2) + x4) σ).bind fun q16 =>
(f_X6_hang 51 56 q16).bind fun q17 =>
(f_X6_rodsLevel 51 q17).bind fun q18 =>
some (Sum.inl ((x4 + (1 : Int32)), (up2 q17 50 0 ((q17 50 0) + q18))))
def b_X0_pass_43 (x2 : Int32) (y : Int32 × gs_H) : Option ((Int32 × gs_H) ⊕ ((gs_H))) :=
if x2 < y.1 then (
some (Sum.inr y.2))
else (
(f_X0_draw (y.2 9 1) y.2).bind fun q5 =>
(f_X0_draw (q5.2 9 1) q5.2).bind fun q6 =>
if q5.1 = q6.1 then (
j_X0_pass_107 x2 y.1 q6.2)
else (
if inb q5.1 6 then
if (q6.2 15 q5.1.toNatClampNeg) = 0 then (
if inb q6.1 6 then
if (q6.2 15 q6.1.toNatClampNeg) = 0 then (
(f_X8_swapThings 56 q5.1 q6.1 q6.2).bind fun q12 =>
j_X0_pass_107 x2 y.1 q12)
else (
j_X0_pass_107 x2 y.1 q6.2) else none)
else (
j_X0_pass_107 x2 y.1 q6.2) else none))
def b_X0_pass_13 (y : Int32 × gs_H) : Option ((Int32 × gs_H) ⊕ ((gs_H))) :=
if (6 : Int32) ≤ y.1 then (
some (Sum.inr y.2))
else (
if inb y.1 6 then
if inb y.1 6 then
some (Sum.inl ((y.1 + (1 : Int32)), (up2 y.2 56 y.1.toNatClampNeg (y.2 12 y.1.toNatClampNeg)))) else none else none)
def f_X0_pass (x2 : Int32) (x3 : Int32) (σ : gs_H) : Option (gs_H) :=
(lp (b_X0_pass_13) 1000 ((0 : Int32), (up2 (up2 σ 50 2 x3) 50 0 (0 : Int32)))).bind fun q1 =>
(lp (b_X0_pass_43 x2) 1000 ((1 : Int32), q1)).bind fun q2 =>
if inb (0 : Int32) 5 then
some (up2 q2 50 1 (q2 53 (0 : Int32).toNatClampNeg)) else none
set_option maxHeartbeats 4000000 in
set_option maxRecDepth 20000 in
theorem wj_X0_pass_107 {E : gs_E} {l : Launch} {p : Program} {e : Env} {s : State} {m : MethodId} {args : Array Value} {below : List Frame} {meth : Method} {c : Code} (C : gs_X E RX0 cX0_pass 7 p s m args meth c) {ov : Option Value} {σ0 : gs_H} {g0 : Int64} {x2 : Int32} {x4 : Int32} {σ : gs_H} {g : Int64} {r : (Int32 × gs_H) ⊕ ((gs_H))} (h : j_X0_pass_107 x2 x4 σ = some r) (hc : ∀ (y4 : Int32) (ys : gs_H), r = Sum.inl (y4, ys) → gs_V E 7 (3, 72) p l e s m args below meth c ov σ0 g0 43 [(0, .ref (gs_a E 50)), (1, .ref (gs_a E 9)), (2, .int x2), (4, .int y4)] [] ys g) (hk0 : ∀ (zs : gs_H), r = Sum.inr zs → gs_V E 7 (3, 72) p l e s m args below meth c ov σ0 g0 157 [(0, .ref (gs_a E 50))] [] zs g) : gs_V E 7 (3, 72) p l e s m args below meth c ov σ0 g0 107 [(0, .ref (gs_a E 50)), (1, .ref (gs_a E 9)), (2, .int x2), (4, .int x4)] [] σ g := by
  unfold j_X0_pass_107 at h
  refine x_aload_n C dX0_pass_107 rfl 0 rfl ?_
  refine x_getr C 50 rfl rfl inX0 3 (by decide) rfl kF_X0_12 rfl dX0_pass_108 ?_
  refine x_aload_n C dX0_pass_111 rfl 1 rfl ?_
  refine x_aload_n C dX0_pass_112 rfl 1 rfl ?_
  refine x_geti C 9 rfl rfl inX3 2 (by decide) rfl kF_X0_22 rfl (v := (σ 9 2)) rfl dX0_pass_113 ?_
  refine x_iload C dX0_pass_116 3 rfl ?_
  refine x_iadd C dX0_pass_118 ?_
  obtain ⟨s1, hv1, h⟩ := Option.bind_eq_some_iff.mp h
  refine x_callV C 51 (m_X6_prepare_51 hv1) rfl rfl kM_X0_28 kI_X6_prepare kS_X6_prepare kN_X6 kC_X6_prepare kD_X6_prepare rfl ⟨Nat.le_of_ble_eq_true rfl, Nat.le_of_ble_eq_true rfl⟩ ⟨Nat.le_refl _, Nat.le_refl _⟩ (rest := []) rfl (Nat.le_of_ble_eq_true rfl) dX0_pass_119 (st' := []) rfl ?_
  refine x_aload_n C dX0_pass_122 rfl 0 rfl ?_
  refine x_getr C 50 rfl rfl inX0 3 (by decide) rfl kF_X0_12 rfl dX0_pass_123 ?_
  refine x_aload_n C dX0_pass_126 rfl 1 rfl ?_
  refine x_aload_n C dX0_pass_127 rfl 0 rfl ?_
  refine x_getr C 50 rfl rfl inX0 4 (by decide) rfl kF_X0_18 rfl dX0_pass_128 ?_
  obtain ⟨s2, hv2, h⟩ := Option.bind_eq_some_iff.mp h
  refine x_callV C 51 (m_X6_hang_51_56 hv2) rfl rfl kM_X0_58 kI_X6_hang kS_X6_hang kN_X6 kC_X6_hang kD_X6_hang rfl ⟨Nat.le_of_ble_eq_true rfl, Nat.le_of_ble_eq_true rfl⟩ ⟨Nat.le_refl _, Nat.le_refl _⟩ (rest := []) rfl (Nat.le_of_ble_eq_true rfl) dX0_pass_131 (st' := []) rfl ?_
  refine x_aload_n C dX0_pass_134 rfl 0 rfl ?_
  refine x_dup C dX0_pass_135 rfl ?_
  refine x_geti C 50 rfl rfl inX0 0 (by decide) rfl kF_X0_40 rfl (v := (s2 50 0)) rfl dX0_pass_136 ?_
  refine x_aload_n C dX0_pass_139 rfl 0 rfl ?_
  refine x_getr C 50 rfl rfl inX0 3 (by decide) rfl kF_X0_12 rfl dX0_pass_140 ?_
  refine x_aload_n C dX0_pass_143 rfl 1 rfl ?_
  obtain ⟨v3, hv3, h⟩ := Option.bind_eq_some_iff.mp h
  refine x_callV C 51 (m_X6_rodsLevel_51 hv3) rfl rfl kM_X0_62 kI_X6_rodsLevel kS_X6_rodsLevel kN_X6 kC_X6_rodsLevel kD_X6_rodsLevel rfl ⟨Nat.le_of_ble_eq_true rfl, Nat.le_of_ble_eq_true rfl⟩ ⟨Nat.le_refl _, Nat.le_refl _⟩ (rest := [.int (s2 50 0), .ref (gs_a E 50)]) rfl (Nat.le_of_ble_eq_true rfl) dX0_pass_144 (st' := [.int v3, .int (s2 50 0), .ref (gs_a E 50)]) rfl ?_
  refine x_iadd C dX0_pass_147 ?_
  refine x_puti C 50 rfl rfl inX0 tyX0 tyX0_ok nmX0 0 (by decide) rfl kF_X0_40 rfl rfl rfl rfl dX0_pass_148 ?_
  refine x_iinc C dX0_pass_151 3 rfl (v := (x4 + (1 : Int32))) rfl (lv2 := [(0, .ref (gs_a E 50)), (1, .ref (gs_a E 9)), (2, .int x2), (4, .int (x4 + (1 : Int32)))]) (by decide) rfl [1, 2, 3, 0] rfl ?_
  refine x_goto C dX0_pass_154 (tgt := 43) (by decide) ?_
  obtain rfl := Option.some.inj h
  exact hc (x4 + (1 : Int32)) (up2 s2 50 0 ((s2 50 0) + v3)) rfl
set_option maxHeartbeats 4000000 in
set_option maxRecDepth 20000 in
theorem wl_X0_pass_43 {E : gs_E} {l : Launch} {p : Program} {e : Env} {s : State} {m : MethodId} {args : Array Value} {below : List Frame} {meth : Method} {c : Code} (C : gs_X E RX0 cX0_pass 7 p s m args meth c) {ov : Option Value} {σ0 : gs_H} {g0 : Int64} {x2 : Int32} {g : Int64} {q : (gs_H)} (hx0 : ∀ (zs : gs_H), q = zs → gs_V E 7 (3, 72) p l e s m args below meth c ov σ0 g0 157 [(0, .ref (gs_a E 50))] [] zs g) : ∀ (n : Nat) (y4 : Int32) (ys : gs_H), lp (b_X0_pass_43 x2) n (y4, ys) = some q → gs_V E 7 (3, 72) p l e s m args below meth c ov σ0 g0 43 [(0, .ref (gs_a E 50)), (1, .ref (gs_a E 9)), (2, .int x2), (4, .int y4)] [] ys g := by
  intro n
  induction n with
  | zero => intro y4 ys h; cases h
  | succ n ih =>
    intro y4 ys h
    obtain ⟨r, h, hl, he⟩ := lp_step h
    have hc := fun (y4 : Int32) (ys : gs_H) (hr : r = Sum.inl (y4, ys)) => ih y4 ys (hl _ hr)
    have hk0 := fun (zs : gs_H) (hr : r = Sum.inr zs) => hx0 zs (he _ hr).symm
    unfold b_X0_pass_43 at h
    try dsimp only at h
    refine x_iload C dX0_pass_43 3 rfl ?_
    refine x_iload_n C dX0_pass_45 rfl 2 rfl ?_
    by_cases hc1 : x2 < y4
    · replace h := (if_pos hc1).symm.trans h
      refine x_icmp_gtT C dX0_pass_46 (tgt := 157) (by decide) hc1 ?_
      refine x_lv (lv' := [(0, .ref (gs_a E 50))]) [0] rfl ?_
      obtain rfl := Option.some.inj h
      exact hk0 ys rfl
    · replace h := (if_neg hc1).symm.trans h
      refine x_icmp_gtF C dX0_pass_46 (tgt := 157) (by decide) hc1 ?_
      refine x_aload_n C dX0_pass_49 rfl 0 rfl ?_
      refine x_aload_n C dX0_pass_50 rfl 1 rfl ?_
      refine x_geti C 9 rfl rfl inX3 1 (by decide) rfl kF_X0_43 rfl (v := (ys 9 1)) rfl dX0_pass_51 ?_
      obtain ⟨⟨v2, s2⟩, hv2, h⟩ := Option.bind_eq_some_iff.mp h
      try dsimp only at h
      refine x_callV C 50 (m_X0_draw hv2) rfl rfl kM_X0_46 kI_X0_draw kS_X0_draw kN_X0 kC_X0_draw kD_X0_draw rfl ⟨Nat.le_of_ble_eq_true rfl, Nat.le_of_ble_eq_true rfl⟩ ⟨Nat.le_refl _, Nat.le_refl _⟩ (rest := []) rfl (Nat.le_of_ble_eq_true rfl) dX0_pass_54 (st' := [.int v2]) rfl ?_
      refine x_istore C dX0_pass_57 (lv2 := [(0, .ref (gs_a E 50)), (1, .ref (gs_a E 9)), (2, .int x2), (4, .int y4), (5, .int v2)]) (by decide) rfl [1, 2, 3, 4, 0] rfl ?_
      refine x_aload_n C dX0_pass_59 rfl 0 rfl ?_
      refine x_aload_n C dX0_pass_60 rfl 1 rfl ?_
      refine x_geti C 9 rfl rfl inX3 1 (by decide) rfl kF_X0_43 rfl (v := (s2 9 1)) rfl dX0_pass_61 ?_
      obtain ⟨⟨v3, s3⟩, hv3, h⟩ := Option.bind_eq_some_iff.mp h
      try dsimp only at h
      refine x_callV C 50 (m_X0_draw hv3) rfl rfl kM_X0_46 kI_X0_draw kS_X0_draw kN_X0 kC_X0_draw kD_X0_draw rfl ⟨Nat.le_of_ble_eq_true rfl, Nat.le_of_ble_eq_true rfl⟩ ⟨Nat.le_refl _, Nat.le_refl _⟩ (rest := []) rfl (Nat.le_of_ble_eq_true rfl) dX0_pass_64 (st' := [.int v3]) rfl ?_
      refine x_istore C dX0_pass_67 (lv2 := [(0, .ref (gs_a E 50)), (1, .ref (gs_a E 9)), (2, .int x2), (4, .int y4), (5, .int v2), (6, .int v3)]) (by decide) rfl [1, 2, 3, 4, 5, 0] rfl ?_
      refine x_iload C dX0_pass_69 4 rfl ?_
      refine x_iload C dX0_pass_71 5 rfl ?_
      by_cases hc4 : v2 = v3
      · replace h := (if_pos hc4).symm.trans h
        refine x_icmp_eqT C dX0_pass_73 (tgt := 107) (by decide) hc4 ?_
        refine x_lv (lv' := [(0, .ref (gs_a E 50)), (1, .ref (gs_a E 9)), (2, .int x2), (4, .int y4)]) [0, 1, 2, 3] rfl ?_
        exact wj_X0_pass_107 C h hc hk0
      · replace h := (if_neg hc4).symm.trans h
        refine x_icmp_eqF C dX0_pass_73 (tgt := 107) (by decide) hc4 ?_
        refine x_aload_n C dX0_pass_76 rfl 1 rfl ?_
        refine x_getr C 9 rfl rfl inX3 8 (by decide) rfl kF_X0_50 rfl dX0_pass_77 ?_
        refine x_iload C dX0_pass_80 4 rfl ?_
        obtain ⟨hb5, h⟩ := ck_some h
        refine x_zald C 15 rfl hb5 (v := (s3 15 v2.toNatClampNeg)) rfl dX0_pass_82 ?_
        by_cases hc6 : (s3 15 v2.toNatClampNeg) = 0
        · replace h := (if_pos hc6).symm.trans h
          refine x_if_neF C dX0_pass_83 (tgt := 107) (by decide) hc6 ?_
          refine x_aload_n C dX0_pass_86 rfl 1 rfl ?_
          refine x_getr C 9 rfl rfl inX3 8 (by decide) rfl kF_X0_50 rfl dX0_pass_87 ?_
          refine x_iload C dX0_pass_90 5 rfl ?_
          obtain ⟨hb7, h⟩ := ck_some h
          refine x_zald C 15 rfl hb7 (v := (s3 15 v3.toNatClampNeg)) rfl dX0_pass_92 ?_
          by_cases hc8 : (s3 15 v3.toNatClampNeg) = 0
          · replace h := (if_pos hc8).symm.trans h
            refine x_if_neF C dX0_pass_93 (tgt := 107) (by decide) hc8 ?_
            refine x_aload_n C dX0_pass_96 rfl 0 rfl ?_
            refine x_getr C 50 rfl rfl inX0 4 (by decide) rfl kF_X0_18 rfl dX0_pass_97 ?_
            refine x_iload C dX0_pass_100 4 rfl ?_
            refine x_iload C dX0_pass_102 5 rfl ?_
            obtain ⟨s9, hv9, h⟩ := Option.bind_eq_some_iff.mp h
            refine x_callN C (m_X8_swapThings_56 hv9) C.2.2.2.2.2.1.2.2.2.1 kT_X8_swapThings kN_X8 kC_X8_swapThings kD_X8_swapThings rfl ⟨Nat.le_of_ble_eq_true rfl, Nat.le_of_ble_eq_true rfl⟩ ⟨Nat.le_refl _, Nat.le_refl _⟩ (rest := []) rfl (Nat.le_of_ble_eq_true rfl) dX0_pass_104 (st' := []) rfl ?_
            refine x_lv (lv' := [(0, .ref (gs_a E 50)), (1, .ref (gs_a E 9)), (2, .int x2), (4, .int y4)]) [0, 1, 2, 3] rfl ?_
            exact wj_X0_pass_107 C h hc hk0
          · replace h := (if_neg hc8).symm.trans h
            refine x_if_neT C dX0_pass_93 (tgt := 107) (by decide) hc8 ?_
            refine x_lv (lv' := [(0, .ref (gs_a E 50)), (1, .ref (gs_a E 9)), (2, .int x2), (4, .int y4)]) [0, 1, 2, 3] rfl ?_
            exact wj_X0_pass_107 C h hc hk0
        · replace h := (if_neg hc6).symm.trans h
          refine x_if_neT C dX0_pass_83 (tgt := 107) (by decide) hc6 ?_
          refine x_lv (lv' := [(0, .ref (gs_a E 50)), (1, .ref (gs_a E 9)), (2, .int x2), (4, .int y4)]) [0, 1, 2, 3] rfl ?_
          exact wj_X0_pass_107 C h hc hk0
set_option maxHeartbeats 4000000 in
set_option maxRecDepth 20000 in
theorem wl_X0_pass_13 {E : gs_E} {l : Launch} {p : Program} {e : Env} {s : State} {m : MethodId} {args : Array Value} {below : List Frame} {meth : Method} {c : Code} (C : gs_X E RX0 cX0_pass 7 p s m args meth c) {ov : Option Value} {σ0 : gs_H} {g0 : Int64} {x2 : Int32} {g : Int64} {q : (gs_H)} (hx0 : ∀ (zs : gs_H), q = zs → gs_V E 7 (3, 72) p l e s m args below meth c ov σ0 g0 40 [(0, .ref (gs_a E 50)), (1, .ref (gs_a E 9)), (2, .int x2)] [] zs g) : ∀ (n : Nat) (y4 : Int32) (ys : gs_H), lp (b_X0_pass_13) n (y4, ys) = some q → gs_V E 7 (3, 72) p l e s m args below meth c ov σ0 g0 13 [(0, .ref (gs_a E 50)), (1, .ref (gs_a E 9)), (2, .int x2), (4, .int y4)] [] ys g := by
  intro n
  induction n with
  | zero => intro y4 ys h; cases h
  | succ n ih =>
    intro y4 ys h
    obtain ⟨r, h, hl, he⟩ := lp_step h
    have hc := fun (y4 : Int32) (ys : gs_H) (hr : r = Sum.inl (y4, ys)) => ih y4 ys (hl _ hr)
    have hk0 := fun (zs : gs_H) (hr : r = Sum.inr zs) => hx0 zs (he _ hr).symm
    unfold b_X0_pass_13 at h
    try dsimp only at h
    refine x_iload C dX0_pass_13 3 rfl ?_
    refine x_bipush C dX0_pass_15 (v := 6) (by decide) ?_
    by_cases hc1 : (6 : Int32) ≤ y4
    · replace h := (if_pos hc1).symm.trans h
      refine x_icmp_geT C dX0_pass_17 (tgt := 40) (by decide) hc1 ?_
      refine x_lv (lv' := [(0, .ref (gs_a E 50)), (1, .ref (gs_a E 9)), (2, .int x2)]) [0, 1, 2] rfl ?_
      obtain rfl := Option.some.inj h
      exact hk0 ys rfl
    · replace h := (if_neg hc1).symm.trans h
      refine x_icmp_geF C dX0_pass_17 (tgt := 40) (by decide) hc1 ?_
      refine x_aload_n C dX0_pass_20 rfl 0 rfl ?_
      refine x_getr C 50 rfl rfl inX0 4 (by decide) rfl kF_X0_18 rfl dX0_pass_21 ?_
      refine x_iload C dX0_pass_24 3 rfl ?_
      refine x_aload_n C dX0_pass_26 rfl 1 rfl ?_
      refine x_getr C 9 rfl rfl inX3 5 (by decide) rfl kF_X0_32 rfl dX0_pass_27 ?_
      refine x_iload C dX0_pass_30 3 rfl ?_
      obtain ⟨hb2, h⟩ := ck_some h
      refine x_iald C 12 rfl hb2 (v := (ys 12 y4.toNatClampNeg)) rfl dX0_pass_32 ?_
      obtain ⟨hb3, h⟩ := ck_some h
      refine x_iast C 56 rfl hb3 dX0_pass_33 ?_
      refine x_iinc C dX0_pass_34 3 rfl (v := (y4 + (1 : Int32))) rfl (lv2 := [(0, .ref (gs_a E 50)), (1, .ref (gs_a E 9)), (2, .int x2), (4, .int (y4 + (1 : Int32)))]) (by decide) rfl [1, 2, 3, 0] rfl ?_
      refine x_goto C dX0_pass_37 (tgt := 13) (by decide) ?_
      obtain rfl := Option.some.inj h
      exact hc (y4 + (1 : Int32)) (up2 ys 56 y4.toNatClampNeg (ys 12 y4.toNatClampNeg)) rfl
set_option maxHeartbeats 4000000 in
set_option maxRecDepth 20000 in
theorem m_X0_pass {E : gs_E} {l : Launch} {x2 : Int32} {x3 : Int32} {σ : gs_H} {g : Int64} {σ0 : gs_H} (h : f_X0_pass x2 x3 σ = some σ0) : gs_M l E yX0_pass cX0_pass 7 (none) (3, 72) [.ref (gs_a E 50), .ref (gs_a E 9), .int x2, .int x3] σ g (none) σ0 g := by
  refine x_enter (lv := [(0, .ref (gs_a E 50)), (1, .ref (gs_a E 9)), (2, .int x2), (3, .int x3)]) (by decide +kernel) (Nat.le_of_ble_eq_true rfl) rfl (fun p e s m args below meth c C hr => ?_)
  unfold f_X0_pass at h
  refine x_aload_n C dX0_pass_0 rfl 0 rfl ?_
  refine x_iload_n C dX0_pass_1 rfl 3 rfl ?_
  refine x_puti C 50 rfl rfl inX0 tyX0 tyX0_ok nmX0 2 (by decide) rfl kF_X0_37 rfl rfl rfl rfl dX0_pass_2 ?_
  refine x_aload_n C dX0_pass_5 rfl 0 rfl ?_
  refine x_iconst C dX0_pass_6 (v := 0) (by decide) ?_
  refine x_puti C 50 rfl rfl inX0 tyX0 tyX0_ok nmX0 0 (by decide) rfl kF_X0_40 rfl rfl rfl rfl dX0_pass_7 ?_
  refine x_iconst C dX0_pass_10 (v := 0) (by decide) ?_
  refine x_istore C dX0_pass_11 (lv2 := [(0, .ref (gs_a E 50)), (1, .ref (gs_a E 9)), (2, .int x2), (3, .int x3), (4, .int (0 : Int32))]) (by decide) rfl [1, 2, 3, 4, 0] rfl ?_
  refine x_lv (lv' := [(0, .ref (gs_a E 50)), (1, .ref (gs_a E 9)), (2, .int x2), (4, .int (0 : Int32))]) [0, 1, 2, 4] rfl ?_
  obtain ⟨q1, hq1, h⟩ := Option.bind_eq_some_iff.mp h
  refine wl_X0_pass_13 C (fun s1_0 hz => ?_) 1000 _ _ hq1
  subst q1
  try dsimp only at h
  refine x_iconst C dX0_pass_40 (v := 1) (by decide) ?_
  refine x_istore C dX0_pass_41 (lv2 := [(0, .ref (gs_a E 50)), (1, .ref (gs_a E 9)), (2, .int x2), (4, .int (1 : Int32))]) (by decide) rfl [1, 2, 3, 0] rfl ?_
  obtain ⟨q2, hq2, h⟩ := Option.bind_eq_some_iff.mp h
  refine wl_X0_pass_43 C (fun s2_0 hz => ?_) 1000 _ _ hq2
  subst q2
  try dsimp only at h
  refine x_aload_n C dX0_pass_157 rfl 0 rfl ?_
  refine x_aload_n C dX0_pass_158 rfl 0 rfl ?_
  refine x_getr C 50 rfl rfl inX0 3 (by decide) rfl kF_X0_12 rfl dX0_pass_159 ?_
  refine x_getr C 51 rfl rfl inX6 1 (by decide) rfl kF_X0_66 rfl dX0_pass_162 ?_
  refine x_iconst C dX0_pass_165 (v := 0) (by decide) ?_
  obtain ⟨hb3, h⟩ := ck_some h
  refine x_iald C 53 rfl hb3 (v := (s2_0 53 (0 : Int32).toNatClampNeg)) rfl dX0_pass_166 ?_
  refine x_puti C 50 rfl rfl inX0 tyX0 tyX0_ok nmX0 1 (by decide) rfl kF_X0_69 rfl rfl rfl rfl dX0_pass_167 ?_
  replace h := Option.some.inj h
  subst h
  exact x_retv C hr rfl dX0_pass_170
