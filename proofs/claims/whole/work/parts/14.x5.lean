def j_X5_begin_46 (x1 : Int32) (t1 : Int32) (t2 : Int32) (σ : gs_H) : Option ((Int32 × gs_H) ⊕ ((gs_H))) :=
if inb t1 5 then
if t2 = 0 ∨ t2 = 1 then
some (Sum.inl ((x1 + (1 : Int32)), (up2 σ 8 t1.toNatClampNeg t2))) else none else none
def b_X5_begin_27 (y : Int32 × gs_H) : Option ((Int32 × gs_H) ⊕ ((gs_H))) :=
if (5 : Int32) ≤ y.1 then (
some (Sum.inr y.2))
else (
if y.1 = 0 then (
j_X5_begin_46 y.1 y.1 (1 : Int32) y.2)
else (
j_X5_begin_46 y.1 y.1 (0 : Int32) y.2))
def f_X5_begin (σ : gs_H) : Option (gs_H) :=
(lp (b_X5_begin_27) 1000 ((0 : Int32), (up2 (up2 (up2 (up2 (up2 σ 3 7 (0 : Int32)) 3 8 (0 : Int32)) 3 9 (0 : Int32)) 3 5 (0 : Int32)) 3 4 (0 : Int32)))).bind fun q1 =>
some q1
set_option maxHeartbeats 4000000 in
set_option maxRecDepth 20000 in
theorem wj_X5_begin_46 {E : gs_E} {l : Launch} {p : Program} {e : Env} {s : State} {m : MethodId} {args : Array Value} {below : List Frame} {meth : Method} {c : Code} (C : gs_X E RX5 cX5_begin 2 p s m args meth c) {ov : Option Value} {σ0 : gs_H} {g0 : Int64} {x1 : Int32} {t1 : Int32} {t2 : Int32} {σ : gs_H} {g : Int64} {r : (Int32 × gs_H) ⊕ ((gs_H))} (h : j_X5_begin_46 x1 t1 t2 σ = some r) (hc : ∀ (y1 : Int32) (ys : gs_H), r = Sum.inl (y1, ys) → gs_V E 2 (0, 0) p l e s m args below meth c ov σ0 g0 27 [(0, .ref (gs_a E 3)), (1, .int y1)] [] ys g) (hk0 : ∀ (zs : gs_H), r = Sum.inr zs → gs_V E 2 (0, 0) p l e s m args below meth c ov σ0 g0 53 [] [] zs g) : gs_V E 2 (0, 0) p l e s m args below meth c ov σ0 g0 46 [(0, .ref (gs_a E 3)), (1, .int x1)] [.int t2, .int t1, .ref (gs_a E 8)] σ g := by
  unfold j_X5_begin_46 at h
  obtain ⟨hb1, h⟩ := ck_some h
  obtain ⟨hz1, h⟩ := ck_some h
  refine x_zast C 8 rfl hb1 hz1 dX5_begin_46 ?_
  refine x_iinc C dX5_begin_47 1 rfl (v := (x1 + (1 : Int32))) rfl (lv2 := [(0, .ref (gs_a E 3)), (1, .int (x1 + (1 : Int32)))]) (by decide) rfl [1, 0] rfl ?_
  refine x_goto C dX5_begin_50 (tgt := 27) (by decide) ?_
  obtain rfl := Option.some.inj h
  exact hc (x1 + (1 : Int32)) (up2 σ 8 t1.toNatClampNeg t2) rfl
set_option maxHeartbeats 4000000 in
set_option maxRecDepth 20000 in
theorem wl_X5_begin_27 {E : gs_E} {l : Launch} {p : Program} {e : Env} {s : State} {m : MethodId} {args : Array Value} {below : List Frame} {meth : Method} {c : Code} (C : gs_X E RX5 cX5_begin 2 p s m args meth c) {ov : Option Value} {σ0 : gs_H} {g0 : Int64} {g : Int64} {q : (gs_H)} (hx0 : ∀ (zs : gs_H), q = zs → gs_V E 2 (0, 0) p l e s m args below meth c ov σ0 g0 53 [] [] zs g) : ∀ (n : Nat) (y1 : Int32) (ys : gs_H), lp (b_X5_begin_27) n (y1, ys) = some q → gs_V E 2 (0, 0) p l e s m args below meth c ov σ0 g0 27 [(0, .ref (gs_a E 3)), (1, .int y1)] [] ys g := by
  intro n
  induction n with
  | zero => intro y1 ys h; cases h
  | succ n ih =>
    intro y1 ys h
    obtain ⟨r, h, hl, he⟩ := lp_step h
    have hc := fun (y1 : Int32) (ys : gs_H) (hr : r = Sum.inl (y1, ys)) => ih y1 ys (hl _ hr)
    have hk0 := fun (zs : gs_H) (hr : r = Sum.inr zs) => hx0 zs (he _ hr).symm
    unfold b_X5_begin_27 at h
    try dsimp only at h
    refine x_iload_n C dX5_begin_27 rfl 1 rfl ?_
    refine x_iconst C dX5_begin_28 (v := 5) (by decide) ?_
    by_cases hc1 : (5 : Int32) ≤ y1
    · replace h := (if_pos hc1).symm.trans h
      refine x_icmp_geT C dX5_begin_29 (tgt := 53) (by decide) hc1 ?_
      refine x_lv (lv' := []) [] rfl ?_
      obtain rfl := Option.some.inj h
      exact hk0 ys rfl
    · replace h := (if_neg hc1).symm.trans h
      refine x_icmp_geF C dX5_begin_29 (tgt := 53) (by decide) hc1 ?_
      refine x_aload_n C dX5_begin_32 rfl 0 rfl ?_
      refine x_getr C 3 rfl rfl inX5 6 (by decide) rfl kF_X5_24 rfl dX5_begin_33 ?_
      refine x_iload_n C dX5_begin_36 rfl 1 rfl ?_
      refine x_iload_n C dX5_begin_37 rfl 1 rfl ?_
      by_cases hc2 : y1 = 0
      · replace h := (if_pos hc2).symm.trans h
        refine x_if_neF C dX5_begin_38 (tgt := 45) (by decide) hc2 ?_
        refine x_iconst C dX5_begin_41 (v := 1) (by decide) ?_
        refine x_goto C dX5_begin_42 (tgt := 46) (by decide) ?_
        exact wj_X5_begin_46 C h hc hk0
      · replace h := (if_neg hc2).symm.trans h
        refine x_if_neT C dX5_begin_38 (tgt := 45) (by decide) hc2 ?_
        refine x_iconst C dX5_begin_45 (v := 0) (by decide) ?_
        exact wj_X5_begin_46 C h hc hk0
set_option maxHeartbeats 4000000 in
set_option maxRecDepth 20000 in
theorem m_X5_begin {E : gs_E} {l : Launch} {σ : gs_H} {g : Int64} {σ0 : gs_H} (h : f_X5_begin σ = some σ0) : gs_M l E yX5_begin cX5_begin 2 (none) (0, 0) [.ref (gs_a E 3)] σ g (none) σ0 g := by
  refine x_enter (lv := [(0, .ref (gs_a E 3))]) (by decide +kernel) (Nat.le_of_ble_eq_true rfl) rfl (fun p e s m args below meth c C hr => ?_)
  unfold f_X5_begin at h
  refine x_aload_n C dX5_begin_0 rfl 0 rfl ?_
  refine x_iconst C dX5_begin_1 (v := 0) (by decide) ?_
  refine x_puti C 3 rfl rfl inX5 tyX5 tyX5_ok nmX5 7 (by decide) rfl kF_X5_44 rfl rfl rfl rfl dX5_begin_2 ?_
  refine x_aload_n C dX5_begin_5 rfl 0 rfl ?_
  refine x_iconst C dX5_begin_6 (v := 0) (by decide) ?_
  refine x_puti C 3 rfl rfl inX5 tyX5 tyX5_ok nmX5 8 (by decide) rfl kF_X5_53 rfl rfl rfl rfl dX5_begin_7 ?_
  refine x_aload_n C dX5_begin_10 rfl 0 rfl ?_
  refine x_iconst C dX5_begin_11 (v := 0) (by decide) ?_
  refine x_puti C 3 rfl rfl inX5 tyX5 tyX5_ok nmX5 9 (by decide) rfl kF_X5_47 rfl rfl rfl rfl dX5_begin_12 ?_
  refine x_aload_n C dX5_begin_15 rfl 0 rfl ?_
  refine x_iconst C dX5_begin_16 (v := 0) (by decide) ?_
  refine x_puti C 3 rfl rfl inX5 tyX5 tyX5_ok nmX5 5 (by decide) rfl kF_X5_50 rfl rfl rfl rfl dX5_begin_17 ?_
  refine x_aload_n C dX5_begin_20 rfl 0 rfl ?_
  refine x_iconst C dX5_begin_21 (v := 0) (by decide) ?_
  refine x_puti C 3 rfl rfl inX5 tyX5 tyX5_ok nmX5 4 (by decide) rfl kF_X5_56 rfl rfl rfl rfl dX5_begin_22 ?_
  refine x_iconst C dX5_begin_25 (v := 0) (by decide) ?_
  refine x_istore_n C dX5_begin_26 rfl (lv2 := [(0, .ref (gs_a E 3)), (1, .int (0 : Int32))]) (by decide) rfl [1, 0] rfl ?_
  obtain ⟨q1, hq1, h⟩ := Option.bind_eq_some_iff.mp h
  refine wl_X5_begin_27 C (fun s1_0 hz => ?_) 1000 _ _ hq1
  subst q1
  try dsimp only at h
  replace h := Option.some.inj h
  subst h
  exact x_retv C hr rfl dX5_begin_53
def f_X5_canFollow (x1 : Int32) (σ : gs_H) : Option (Int32) :=
if (σ 3 4) < x1 then (
some (1 : Int32))
else (
if inb x1 5 then
if (σ 8 x1.toNatClampNeg) = 0 then (
some (0 : Int32))
else (
some (1 : Int32)) else none)
set_option maxHeartbeats 4000000 in
set_option maxRecDepth 20000 in
theorem m_X5_canFollow {E : gs_E} {l : Launch} {x1 : Int32} {σ : gs_H} {g : Int64} {r0 : Int32} (h : f_X5_canFollow x1 σ = some r0) : gs_M l E yX5_canFollow cX5_canFollow 2 (some .boolean) (0, 0) [.ref (gs_a E 3), .int x1] σ g (some (.int r0)) σ g := by
  refine x_enter (lv := [(0, .ref (gs_a E 3)), (1, .int x1)]) (by decide +kernel) (Nat.le_of_ble_eq_true rfl) rfl (fun p e s m args below meth c C hr => ?_)
  unfold f_X5_canFollow at h
  refine x_iload_n C dX5_canFollow_0 rfl 1 rfl ?_
  refine x_aload_n C dX5_canFollow_1 rfl 0 rfl ?_
  refine x_geti C 3 rfl rfl inX5 4 (by decide) rfl kF_X5_56 rfl (v := (σ 3 4)) rfl dX5_canFollow_2 ?_
  by_cases hc1 : (σ 3 4) < x1
  · replace h := (if_pos hc1).symm.trans h
    refine x_icmp_gtT C dX5_canFollow_5 (tgt := 17) (by decide) hc1 ?_
    refine x_iconst C dX5_canFollow_17 (v := 1) (by decide) ?_
    refine x_goto C dX5_canFollow_18 (tgt := 22) (by decide) ?_
    replace h := Option.some.inj h
    subst h
    exact x_retb C hr (by decide) rfl dX5_canFollow_22
  · replace h := (if_neg hc1).symm.trans h
    refine x_icmp_gtF C dX5_canFollow_5 (tgt := 17) (by decide) hc1 ?_
    refine x_aload_n C dX5_canFollow_8 rfl 0 rfl ?_
    refine x_getr C 3 rfl rfl inX5 6 (by decide) rfl kF_X5_24 rfl dX5_canFollow_9 ?_
    refine x_iload_n C dX5_canFollow_12 rfl 1 rfl ?_
    obtain ⟨hb2, h⟩ := ck_some h
    refine x_zald C 8 rfl hb2 (v := (σ 8 x1.toNatClampNeg)) rfl dX5_canFollow_13 ?_
    by_cases hc3 : (σ 8 x1.toNatClampNeg) = 0
    · replace h := (if_pos hc3).symm.trans h
      refine x_if_eqT C dX5_canFollow_14 (tgt := 21) (by decide) hc3 ?_
      refine x_iconst C dX5_canFollow_21 (v := 0) (by decide) ?_
      replace h := Option.some.inj h
      subst h
      exact x_retb C hr (by decide) rfl dX5_canFollow_22
    · replace h := (if_neg hc3).symm.trans h
      refine x_if_eqF C dX5_canFollow_14 (tgt := 21) (by decide) hc3 ?_
      refine x_iconst C dX5_canFollow_17 (v := 1) (by decide) ?_
      refine x_goto C dX5_canFollow_18 (tgt := 22) (by decide) ?_
      replace h := Option.some.inj h
      subst h
      exact x_retb C hr (by decide) rfl dX5_canFollow_22
def f_X5_canTell (x1 : Int32) (x2 : Int32) (σ : gs_H) : Option (Int32) :=
if x1 ≤ x2 then (
some (0 : Int32))
else (
if (5 : Int32) ≤ x1 then (
some (0 : Int32))
else (
if inb x1 5 then
if (σ 8 x1.toNatClampNeg) = 0 then (
some (1 : Int32))
else (
some (0 : Int32)) else none))
set_option maxHeartbeats 4000000 in
set_option maxRecDepth 20000 in
theorem m_X5_canTell {E : gs_E} {l : Launch} {x1 : Int32} {x2 : Int32} {σ : gs_H} {g : Int64} {r0 : Int32} (h : f_X5_canTell x1 x2 σ = some r0) : gs_M l E yX5_canTell cX5_canTell 3 (some .boolean) (0, 0) [.ref (gs_a E 3), .int x1, .int x2] σ g (some (.int r0)) σ g := by
  refine x_enter (lv := [(0, .ref (gs_a E 3)), (1, .int x1), (2, .int x2)]) (by decide +kernel) (Nat.le_of_ble_eq_true rfl) rfl (fun p e s m args below meth c C hr => ?_)
  unfold f_X5_canTell at h
  refine x_iload_n C dX5_canTell_0 rfl 1 rfl ?_
  refine x_iload_n C dX5_canTell_1 rfl 2 rfl ?_
  by_cases hc1 : x1 ≤ x2
  · replace h := (if_pos hc1).symm.trans h
    refine x_icmp_leT C dX5_canTell_2 (tgt := 23) (by decide) hc1 ?_
    refine x_iconst C dX5_canTell_23 (v := 0) (by decide) ?_
    replace h := Option.some.inj h
    subst h
    exact x_retb C hr (by decide) rfl dX5_canTell_24
  · replace h := (if_neg hc1).symm.trans h
    refine x_icmp_leF C dX5_canTell_2 (tgt := 23) (by decide) hc1 ?_
    refine x_iload_n C dX5_canTell_5 rfl 1 rfl ?_
    refine x_iconst C dX5_canTell_6 (v := 5) (by decide) ?_
    by_cases hc2 : (5 : Int32) ≤ x1
    · replace h := (if_pos hc2).symm.trans h
      refine x_icmp_geT C dX5_canTell_7 (tgt := 23) (by decide) hc2 ?_
      refine x_iconst C dX5_canTell_23 (v := 0) (by decide) ?_
      replace h := Option.some.inj h
      subst h
      exact x_retb C hr (by decide) rfl dX5_canTell_24
    · replace h := (if_neg hc2).symm.trans h
      refine x_icmp_geF C dX5_canTell_7 (tgt := 23) (by decide) hc2 ?_
      refine x_aload_n C dX5_canTell_10 rfl 0 rfl ?_
      refine x_getr C 3 rfl rfl inX5 6 (by decide) rfl kF_X5_24 rfl dX5_canTell_11 ?_
      refine x_iload_n C dX5_canTell_14 rfl 1 rfl ?_
      obtain ⟨hb3, h⟩ := ck_some h
      refine x_zald C 8 rfl hb3 (v := (σ 8 x1.toNatClampNeg)) rfl dX5_canTell_15 ?_
      by_cases hc4 : (σ 8 x1.toNatClampNeg) = 0
      · replace h := (if_pos hc4).symm.trans h
        refine x_if_neF C dX5_canTell_16 (tgt := 23) (by decide) hc4 ?_
        refine x_iconst C dX5_canTell_19 (v := 1) (by decide) ?_
        refine x_goto C dX5_canTell_20 (tgt := 24) (by decide) ?_
        replace h := Option.some.inj h
        subst h
        exact x_retb C hr (by decide) rfl dX5_canTell_24
      · replace h := (if_neg hc4).symm.trans h
        refine x_if_neT C dX5_canTell_16 (tgt := 23) (by decide) hc4 ?_
        refine x_iconst C dX5_canTell_23 (v := 0) (by decide) ?_
        replace h := Option.some.inj h
        subst h
        exact x_retb C hr (by decide) rfl dX5_canTell_24
def f_X5_isWhole (σ : gs_H) : Int32 :=
if (σ 3 7) = (5 : Int32) then (
if (σ 3 9) = (σ 3 5) then (
(1 : Int32))
else (
(0 : Int32)))
else (
(0 : Int32))
set_option maxHeartbeats 4000000 in
set_option maxRecDepth 20000 in
theorem m_X5_isWhole {E : gs_E} {l : Launch} {σ : gs_H} {g : Int64} {r0 : Int32} (h : f_X5_isWhole σ = r0) : gs_M l E yX5_isWhole cX5_isWhole 1 (some .boolean) (0, 0) [.ref (gs_a E 3)] σ g (some (.int r0)) σ g := by
  refine x_enter (lv := [(0, .ref (gs_a E 3))]) (by decide +kernel) (Nat.le_of_ble_eq_true rfl) rfl (fun p e s m args below meth c C hr => ?_)
  unfold f_X5_isWhole at h
  refine x_aload_n C dX5_isWhole_0 rfl 0 rfl ?_
  refine x_geti C 3 rfl rfl inX5 7 (by decide) rfl kF_X5_44 rfl (v := (σ 3 7)) rfl dX5_isWhole_1 ?_
  refine x_iconst C dX5_isWhole_4 (v := 5) (by decide) ?_
  by_cases hc1 : (σ 3 7) = (5 : Int32)
  · replace h := (if_pos hc1).symm.trans h
    refine x_icmp_neF C dX5_isWhole_5 (tgt := 23) (by decide) hc1 ?_
    refine x_aload_n C dX5_isWhole_8 rfl 0 rfl ?_
    refine x_geti C 3 rfl rfl inX5 9 (by decide) rfl kF_X5_47 rfl (v := (σ 3 9)) rfl dX5_isWhole_9 ?_
    refine x_aload_n C dX5_isWhole_12 rfl 0 rfl ?_
    refine x_geti C 3 rfl rfl inX5 5 (by decide) rfl kF_X5_50 rfl (v := (σ 3 5)) rfl dX5_isWhole_13 ?_
    by_cases hc2 : (σ 3 9) = (σ 3 5)
    · replace h := (if_pos hc2).symm.trans h
      refine x_icmp_neF C dX5_isWhole_16 (tgt := 23) (by decide) hc2 ?_
      refine x_iconst C dX5_isWhole_19 (v := 1) (by decide) ?_
      refine x_goto C dX5_isWhole_20 (tgt := 24) (by decide) ?_
      subst h
      exact x_retb C hr (by decide) rfl dX5_isWhole_24
    · replace h := (if_neg hc2).symm.trans h
      refine x_icmp_neT C dX5_isWhole_16 (tgt := 23) (by decide) hc2 ?_
      refine x_iconst C dX5_isWhole_23 (v := 0) (by decide) ?_
      subst h
      exact x_retb C hr (by decide) rfl dX5_isWhole_24
  · replace h := (if_neg hc1).symm.trans h
    refine x_icmp_neT C dX5_isWhole_5 (tgt := 23) (by decide) hc1 ?_
    refine x_iconst C dX5_isWhole_23 (v := 0) (by decide) ?_
    subst h
    exact x_retb C hr (by decide) rfl dX5_isWhole_24
def j_X5_takesBehindRod_44 (t0 : Int32) (t1 : Int32) (σ : gs_H) : Option (Int32 × gs_H) :=
if t0 = t1 then (
some ((1 : Int32), σ))
else (
some ((0 : Int32), σ))
def j_X5_takesBehindRod_29 (x1 : Int32) (x2 : Int32) (t1 : Int32) (σ : gs_H) : Option (Int32 × gs_H) :=
if x2 = 0 then (
j_X5_takesBehindRod_44 x1 (44 : Int32) (up2 σ 3 7 t1))
else (
j_X5_takesBehindRod_44 x1 (59 : Int32) (up2 σ 3 7 t1))
def j_X5_takesBehindRod_18 (x1 : Int32) (t0 : Int32) (σ : gs_H) : Option (Int32 × gs_H) :=
if t0 = 0 then (
j_X5_takesBehindRod_29 x1 t0 (0 : Int32) σ)
else (
j_X5_takesBehindRod_29 x1 t0 (3 : Int32) σ)
def f_X5_takesBehindRod (x1 : Int32) (σ : gs_H) : Option (Int32 × gs_H) :=
if ((σ 3 8) / (2 : Int32)) ≤ (σ 3 4) then (
j_X5_takesBehindRod_18 x1 (0 : Int32) σ)
else (
j_X5_takesBehindRod_18 x1 (1 : Int32) σ)
set_option maxHeartbeats 4000000 in
set_option maxRecDepth 20000 in
theorem wj_X5_takesBehindRod_44 {E : gs_E} {l : Launch} {p : Program} {e : Env} {s : State} {m : MethodId} {args : Array Value} {below : List Frame} {meth : Method} {c : Code} (C : gs_X E RX5 cX5_takesBehindRod 3 p s m args meth c) {t0 : Int32} {t1 : Int32} {σ : gs_H} {g : Int64} {r0 : Int32} {σ0 : gs_H} (hr : meth.sig.returnType = some .boolean) (h : j_X5_takesBehindRod_44 t0 t1 σ = some (r0, σ0)) : gs_V E 3 (0, 0) p l e s m args below meth c (some (.int r0)) σ0 g 44 [] [.int t1, .int t0] σ g := by
  unfold j_X5_takesBehindRod_44 at h
  by_cases hc1 : t0 = t1
  · replace h := (if_pos hc1).symm.trans h
    refine x_icmp_neF C dX5_takesBehindRod_44 (tgt := 51) (by decide) hc1 ?_
    refine x_iconst C dX5_takesBehindRod_47 (v := 1) (by decide) ?_
    refine x_goto C dX5_takesBehindRod_48 (tgt := 52) (by decide) ?_
    replace h := Option.some.inj h
    obtain ⟨rfl, rfl⟩ := Prod.mk.inj h
    exact x_retb C hr (by decide) rfl dX5_takesBehindRod_52
  · replace h := (if_neg hc1).symm.trans h
    refine x_icmp_neT C dX5_takesBehindRod_44 (tgt := 51) (by decide) hc1 ?_
    refine x_iconst C dX5_takesBehindRod_51 (v := 0) (by decide) ?_
    replace h := Option.some.inj h
    obtain ⟨rfl, rfl⟩ := Prod.mk.inj h
    exact x_retb C hr (by decide) rfl dX5_takesBehindRod_52
set_option maxHeartbeats 4000000 in
set_option maxRecDepth 20000 in
theorem wj_X5_takesBehindRod_29 {E : gs_E} {l : Launch} {p : Program} {e : Env} {s : State} {m : MethodId} {args : Array Value} {below : List Frame} {meth : Method} {c : Code} (C : gs_X E RX5 cX5_takesBehindRod 3 p s m args meth c) {x1 : Int32} {x2 : Int32} {t1 : Int32} {σ : gs_H} {g : Int64} {r0 : Int32} {σ0 : gs_H} (hr : meth.sig.returnType = some .boolean) (h : j_X5_takesBehindRod_29 x1 x2 t1 σ = some (r0, σ0)) : gs_V E 3 (0, 0) p l e s m args below meth c (some (.int r0)) σ0 g 29 [(1, .int x1), (2, .int x2)] [.int t1, .ref (gs_a E 3)] σ g := by
  unfold j_X5_takesBehindRod_29 at h
  refine x_puti C 3 rfl rfl inX5 tyX5 tyX5_ok nmX5 7 (by decide) rfl kF_X5_44 rfl rfl rfl rfl dX5_takesBehindRod_29 ?_
  refine x_iload_n C dX5_takesBehindRod_32 rfl 0 rfl ?_
  refine x_iload_n C dX5_takesBehindRod_33 rfl 1 rfl ?_
  by_cases hc1 : x2 = 0
  · replace h := (if_pos hc1).symm.trans h
    refine x_if_eqT C dX5_takesBehindRod_34 (tgt := 42) (by decide) hc1 ?_
    refine x_bipush C dX5_takesBehindRod_42 (v := 44) (by decide) ?_
    refine x_lv (lv' := []) [] rfl ?_
    exact wj_X5_takesBehindRod_44 C hr h
  · replace h := (if_neg hc1).symm.trans h
    refine x_if_eqF C dX5_takesBehindRod_34 (tgt := 42) (by decide) hc1 ?_
    refine x_bipush C dX5_takesBehindRod_37 (v := 59) (by decide) ?_
    refine x_goto C dX5_takesBehindRod_39 (tgt := 44) (by decide) ?_
    refine x_lv (lv' := []) [] rfl ?_
    exact wj_X5_takesBehindRod_44 C hr h
set_option maxHeartbeats 4000000 in
set_option maxRecDepth 20000 in
theorem wj_X5_takesBehindRod_18 {E : gs_E} {l : Launch} {p : Program} {e : Env} {s : State} {m : MethodId} {args : Array Value} {below : List Frame} {meth : Method} {c : Code} (C : gs_X E RX5 cX5_takesBehindRod 3 p s m args meth c) {x1 : Int32} {t0 : Int32} {σ : gs_H} {g : Int64} {r0 : Int32} {σ0 : gs_H} (hr : meth.sig.returnType = some .boolean) (h : j_X5_takesBehindRod_18 x1 t0 σ = some (r0, σ0)) : gs_V E 3 (0, 0) p l e s m args below meth c (some (.int r0)) σ0 g 18 [(0, .ref (gs_a E 3)), (1, .int x1)] [.int t0] σ g := by
  unfold j_X5_takesBehindRod_18 at h
  refine x_istore_n C dX5_takesBehindRod_18 rfl (lv2 := [(0, .ref (gs_a E 3)), (1, .int x1), (2, .int t0)]) (by decide) rfl [1, 2, 0] rfl ?_
  refine x_aload_n C dX5_takesBehindRod_19 rfl 0 rfl ?_
  refine x_iload_n C dX5_takesBehindRod_20 rfl 2 rfl ?_
  by_cases hc1 : t0 = 0
  · replace h := (if_pos hc1).symm.trans h
    refine x_if_eqT C dX5_takesBehindRod_21 (tgt := 28) (by decide) hc1 ?_
    refine x_iconst C dX5_takesBehindRod_28 (v := 0) (by decide) ?_
    refine x_lv (lv' := [(1, .int x1), (2, .int t0)]) [1, 2] rfl ?_
    exact wj_X5_takesBehindRod_29 C hr h
  · replace h := (if_neg hc1).symm.trans h
    refine x_if_eqF C dX5_takesBehindRod_21 (tgt := 28) (by decide) hc1 ?_
    refine x_iconst C dX5_takesBehindRod_24 (v := 3) (by decide) ?_
    refine x_goto C dX5_takesBehindRod_25 (tgt := 29) (by decide) ?_
    refine x_lv (lv' := [(1, .int x1), (2, .int t0)]) [1, 2] rfl ?_
    exact wj_X5_takesBehindRod_29 C hr h
set_option maxHeartbeats 4000000 in
set_option maxRecDepth 20000 in
theorem m_X5_takesBehindRod {E : gs_E} {l : Launch} {x1 : Int32} {σ : gs_H} {g : Int64} {r0 : Int32} {σ0 : gs_H} (h : f_X5_takesBehindRod x1 σ = some (r0, σ0)) : gs_M l E yX5_takesBehindRod cX5_takesBehindRod 3 (some .boolean) (0, 0) [.ref (gs_a E 3), .int x1] σ g (some (.int r0)) σ0 g := by
  refine x_enter (lv := [(0, .ref (gs_a E 3)), (1, .int x1)]) (by decide +kernel) (Nat.le_of_ble_eq_true rfl) rfl (fun p e s m args below meth c C hr => ?_)
  unfold f_X5_takesBehindRod at h
  refine x_aload_n C dX5_takesBehindRod_0 rfl 0 rfl ?_
  refine x_geti C 3 rfl rfl inX5 8 (by decide) rfl kF_X5_53 rfl (v := (σ 3 8)) rfl dX5_takesBehindRod_1 ?_
  refine x_iconst C dX5_takesBehindRod_4 (v := 2) (by decide) ?_
  refine x_idiv C dX5_takesBehindRod_5 (by decide) ?_
  refine x_aload_n C dX5_takesBehindRod_6 rfl 0 rfl ?_
  refine x_geti C 3 rfl rfl inX5 4 (by decide) rfl kF_X5_56 rfl (v := (σ 3 4)) rfl dX5_takesBehindRod_7 ?_
  by_cases hc1 : ((σ 3 8) / (2 : Int32)) ≤ (σ 3 4)
  · replace h := (if_pos hc1).symm.trans h
    refine x_icmp_leT C dX5_takesBehindRod_10 (tgt := 17) (by decide) hc1 ?_
    refine x_iconst C dX5_takesBehindRod_17 (v := 0) (by decide) ?_
    exact wj_X5_takesBehindRod_18 C hr h
  · replace h := (if_neg hc1).symm.trans h
    refine x_icmp_leF C dX5_takesBehindRod_10 (tgt := 17) (by decide) hc1 ?_
    refine x_iconst C dX5_takesBehindRod_13 (v := 1) (by decide) ?_
    refine x_goto C dX5_takesBehindRod_14 (tgt := 18) (by decide) ?_
    exact wj_X5_takesBehindRod_18 C hr h
def f_X5_takesBehindThing (x1 : Int32) (σ : gs_H) : Int32 × gs_H :=
if x1 = (44 : Int32) then (
if (σ 3 5) ≤ (σ 3 9) then (
((0 : Int32), (up2 σ 3 7 (3 : Int32))))
else (
((1 : Int32), (up2 σ 3 7 (3 : Int32)))))
else (
((0 : Int32), (up2 σ 3 7 (3 : Int32))))
set_option maxHeartbeats 4000000 in
set_option maxRecDepth 20000 in
theorem m_X5_takesBehindThing {E : gs_E} {l : Launch} {x1 : Int32} {σ : gs_H} {g : Int64} {r0 : Int32} {σ0 : gs_H} (h : f_X5_takesBehindThing x1 σ = (r0, σ0)) : gs_M l E yX5_takesBehindThing cX5_takesBehindThing 2 (some .boolean) (0, 0) [.ref (gs_a E 3), .int x1] σ g (some (.int r0)) σ0 g := by
  refine x_enter (lv := [(0, .ref (gs_a E 3)), (1, .int x1)]) (by decide +kernel) (Nat.le_of_ble_eq_true rfl) rfl (fun p e s m args below meth c C hr => ?_)
  unfold f_X5_takesBehindThing at h
  refine x_aload_n C dX5_takesBehindThing_0 rfl 0 rfl ?_
  refine x_iconst C dX5_takesBehindThing_1 (v := 3) (by decide) ?_
  refine x_puti C 3 rfl rfl inX5 tyX5 tyX5_ok nmX5 7 (by decide) rfl kF_X5_44 rfl rfl rfl rfl dX5_takesBehindThing_2 ?_
  refine x_iload_n C dX5_takesBehindThing_5 rfl 1 rfl ?_
  refine x_bipush C dX5_takesBehindThing_6 (v := 44) (by decide) ?_
  by_cases hc1 : x1 = (44 : Int32)
  · replace h := (if_pos hc1).symm.trans h
    refine x_icmp_neF C dX5_takesBehindThing_8 (tgt := 26) (by decide) hc1 ?_
    refine x_aload_n C dX5_takesBehindThing_11 rfl 0 rfl ?_
    refine x_geti C 3 rfl rfl inX5 9 (by decide) rfl kF_X5_47 rfl (v := (σ 3 9)) rfl dX5_takesBehindThing_12 ?_
    refine x_aload_n C dX5_takesBehindThing_15 rfl 0 rfl ?_
    refine x_geti C 3 rfl rfl inX5 5 (by decide) rfl kF_X5_50 rfl (v := (σ 3 5)) rfl dX5_takesBehindThing_16 ?_
    by_cases hc2 : (σ 3 5) ≤ (σ 3 9)
    · replace h := (if_pos hc2).symm.trans h
      refine x_icmp_geT C dX5_takesBehindThing_19 (tgt := 26) (by decide) hc2 ?_
      refine x_iconst C dX5_takesBehindThing_26 (v := 0) (by decide) ?_
      obtain ⟨rfl, rfl⟩ := Prod.mk.inj h
      exact x_retb C hr (by decide) rfl dX5_takesBehindThing_27
    · replace h := (if_neg hc2).symm.trans h
      refine x_icmp_geF C dX5_takesBehindThing_19 (tgt := 26) (by decide) hc2 ?_
      refine x_iconst C dX5_takesBehindThing_22 (v := 1) (by decide) ?_
      refine x_goto C dX5_takesBehindThing_23 (tgt := 27) (by decide) ?_
      obtain ⟨rfl, rfl⟩ := Prod.mk.inj h
      exact x_retb C hr (by decide) rfl dX5_takesBehindThing_27
  · replace h := (if_neg hc1).symm.trans h
    refine x_icmp_neT C dX5_takesBehindThing_8 (tgt := 26) (by decide) hc1 ?_
    refine x_iconst C dX5_takesBehindThing_26 (v := 0) (by decide) ?_
    obtain ⟨rfl, rfl⟩ := Prod.mk.inj h
    exact x_retb C hr (by decide) rfl dX5_takesBehindThing_27
def j_X5_takesEnd_142 (x2 : Int32) (x3 : Int32) (t1 : Int32) (σ : gs_H) : Option (Int32 × gs_H) :=
if x3 = 0 then (
some ((1 : Int32), (up2 σ 3 7 t1)))
else (
(f_X5_canFollow (x2 + (1 : Int32)) (up2 σ 3 7 t1)).bind fun q11 =>
if q11 = 0 then (
some ((0 : Int32), (up2 σ 3 7 t1)))
else (
some ((1 : Int32), (up2 σ 3 7 t1))))
def j_X5_takesEnd_121 (x2 : Int32) (t0 : Int32) (σ : gs_H) : Option (Int32 × gs_H) :=
if t0 = 0 then (
j_X5_takesEnd_142 x2 t0 (0 : Int32) (up2 σ 3 8 ((σ 3 8) + (1 : Int32))))
else (
j_X5_takesEnd_142 x2 t0 (2 : Int32) (up2 σ 3 8 ((σ 3 8) + (1 : Int32))))
def j_X5_takesEnd_106 (x2 : Int32) (σ : gs_H) : Option (Int32 × gs_H) :=
if ((σ 3 8) - (σ 3 8) / (2 : Int32) * (2 : Int32)) = (1 : Int32) then (
j_X5_takesEnd_121 x2 (1 : Int32) σ)
else (
j_X5_takesEnd_121 x2 (0 : Int32) σ)
def j_X5_takesEnd_51 (x1 : Int32) (x2 : Int32) (σ : gs_H) : Option (Int32 × gs_H) :=
(f_X5_canTell (x1 - (48 : Int32)) x2 σ).bind fun q4 =>
if q4 = 0 then (
some ((0 : Int32), σ))
else (
if inb (σ 3 8) 10 then
if inb (x1 - (48 : Int32)) 5 then
j_X5_takesEnd_106 x2 (up2 (up2 (up2 σ 5 (σ 3 8).toNatClampNeg (x1 - (48 : Int32))) 8 (x1 - (48 : Int32)).toNatClampNeg (1 : Int32)) 3 4 (if (σ 3 4) < (x1 - (48 : Int32)) then (x1 - (48 : Int32)) else (σ 3 4))) else none else none)
def f_X5_takesEnd (x1 : Int32) (σ : gs_H) : Option (Int32 × gs_H) :=
if x1 = (42 : Int32) then (
if (6 : Int32) ≤ (σ 3 5) then (
j_X5_takesEnd_51 x1 ((σ 3 8) / (2 : Int32)) σ)
else (
if inb (σ 3 8) 10 then
j_X5_takesEnd_106 ((σ 3 8) / (2 : Int32)) (up2 (up2 σ 5 (σ 3 8).toNatClampNeg ((10 : Int32) + (σ 3 5))) 3 5 ((σ 3 5) + (1 : Int32))) else none))
else (
j_X5_takesEnd_51 x1 ((σ 3 8) / (2 : Int32)) σ)
set_option maxHeartbeats 4000000 in
set_option maxRecDepth 20000 in
theorem wj_X5_takesEnd_142 {E : gs_E} {l : Launch} {p : Program} {e : Env} {s : State} {m : MethodId} {args : Array Value} {below : List Frame} {meth : Method} {c : Code} (C : gs_X E RX5 cX5_takesEnd 4 p s m args meth c) {x2 : Int32} {x3 : Int32} {t1 : Int32} {σ : gs_H} {g : Int64} {r0 : Int32} {σ0 : gs_H} (hr : meth.sig.returnType = some .boolean) (h : j_X5_takesEnd_142 x2 x3 t1 σ = some (r0, σ0)) : gs_V E 4 (1, 22) p l e s m args below meth c (some (.int r0)) σ0 g 142 [(0, .ref (gs_a E 3)), (2, .int x2), (3, .int x3)] [.int t1, .ref (gs_a E 3)] σ g := by
  unfold j_X5_takesEnd_142 at h
  refine x_puti C 3 rfl rfl inX5 tyX5 tyX5_ok nmX5 7 (by decide) rfl kF_X5_44 rfl rfl rfl rfl dX5_takesEnd_142 ?_
  refine x_iload_n C dX5_takesEnd_145 rfl 2 rfl ?_
  by_cases hc1 : x3 = 0
  · replace h := (if_pos hc1).symm.trans h
    refine x_if_eqT C dX5_takesEnd_146 (tgt := 159) (by decide) hc1 ?_
    refine x_iconst C dX5_takesEnd_159 (v := 1) (by decide) ?_
    refine x_goto C dX5_takesEnd_160 (tgt := 164) (by decide) ?_
    replace h := Option.some.inj h
    obtain ⟨rfl, rfl⟩ := Prod.mk.inj h
    exact x_retb C hr (by decide) rfl dX5_takesEnd_164
  · replace h := (if_neg hc1).symm.trans h
    refine x_if_eqF C dX5_takesEnd_146 (tgt := 159) (by decide) hc1 ?_
    refine x_aload_n C dX5_takesEnd_149 rfl 0 rfl ?_
    refine x_iload_n C dX5_takesEnd_150 rfl 1 rfl ?_
    refine x_iconst C dX5_takesEnd_151 (v := 1) (by decide) ?_
    refine x_iadd C dX5_takesEnd_152 ?_
    obtain ⟨v2, hv2, h⟩ := Option.bind_eq_some_iff.mp h
    refine x_callV C 3 (m_X5_canFollow hv2) rfl rfl kM_X5_87 kI_X5_canFollow kS_X5_canFollow kN_X5 kC_X5_canFollow kD_X5_canFollow rfl ⟨Nat.le_of_ble_eq_true rfl, Nat.le_of_ble_eq_true rfl⟩ ⟨Nat.le_refl _, Nat.le_refl _⟩ (rest := []) rfl (Nat.le_of_ble_eq_true rfl) dX5_takesEnd_153 (st' := [.int v2]) rfl ?_
    by_cases hc3 : v2 = 0
    · replace h := (if_pos hc3).symm.trans h
      refine x_if_eqT C dX5_takesEnd_156 (tgt := 163) (by decide) hc3 ?_
      refine x_iconst C dX5_takesEnd_163 (v := 0) (by decide) ?_
      replace h := Option.some.inj h
      obtain ⟨rfl, rfl⟩ := Prod.mk.inj h
      exact x_retb C hr (by decide) rfl dX5_takesEnd_164
    · replace h := (if_neg hc3).symm.trans h
      refine x_if_eqF C dX5_takesEnd_156 (tgt := 163) (by decide) hc3 ?_
      refine x_iconst C dX5_takesEnd_159 (v := 1) (by decide) ?_
      refine x_goto C dX5_takesEnd_160 (tgt := 164) (by decide) ?_
      replace h := Option.some.inj h
      obtain ⟨rfl, rfl⟩ := Prod.mk.inj h
      exact x_retb C hr (by decide) rfl dX5_takesEnd_164
set_option maxHeartbeats 4000000 in
set_option maxRecDepth 20000 in
theorem wj_X5_takesEnd_121 {E : gs_E} {l : Launch} {p : Program} {e : Env} {s : State} {m : MethodId} {args : Array Value} {below : List Frame} {meth : Method} {c : Code} (C : gs_X E RX5 cX5_takesEnd 4 p s m args meth c) {x2 : Int32} {t0 : Int32} {σ : gs_H} {g : Int64} {r0 : Int32} {σ0 : gs_H} (hr : meth.sig.returnType = some .boolean) (h : j_X5_takesEnd_121 x2 t0 σ = some (r0, σ0)) : gs_V E 4 (1, 22) p l e s m args below meth c (some (.int r0)) σ0 g 121 [(0, .ref (gs_a E 3)), (2, .int x2)] [.int t0] σ g := by
  unfold j_X5_takesEnd_121 at h
  refine x_istore_n C dX5_takesEnd_121 rfl (lv2 := [(0, .ref (gs_a E 3)), (2, .int x2), (3, .int t0)]) (by decide) rfl [1, 2, 0] rfl ?_
  refine x_aload_n C dX5_takesEnd_122 rfl 0 rfl ?_
  refine x_dup C dX5_takesEnd_123 rfl ?_
  refine x_geti C 3 rfl rfl inX5 8 (by decide) rfl kF_X5_53 rfl (v := (σ 3 8)) rfl dX5_takesEnd_124 ?_
  refine x_iconst C dX5_takesEnd_127 (v := 1) (by decide) ?_
  refine x_iadd C dX5_takesEnd_128 ?_
  refine x_puti C 3 rfl rfl inX5 tyX5 tyX5_ok nmX5 8 (by decide) rfl kF_X5_53 rfl rfl rfl rfl dX5_takesEnd_129 ?_
  refine x_aload_n C dX5_takesEnd_132 rfl 0 rfl ?_
  refine x_iload_n C dX5_takesEnd_133 rfl 2 rfl ?_
  by_cases hc1 : t0 = 0
  · replace h := (if_pos hc1).symm.trans h
    refine x_if_eqT C dX5_takesEnd_134 (tgt := 141) (by decide) hc1 ?_
    refine x_iconst C dX5_takesEnd_141 (v := 0) (by decide) ?_
    exact wj_X5_takesEnd_142 C hr h
  · replace h := (if_neg hc1).symm.trans h
    refine x_if_eqF C dX5_takesEnd_134 (tgt := 141) (by decide) hc1 ?_
    refine x_iconst C dX5_takesEnd_137 (v := 2) (by decide) ?_
    refine x_goto C dX5_takesEnd_138 (tgt := 142) (by decide) ?_
    exact wj_X5_takesEnd_142 C hr h
set_option maxHeartbeats 4000000 in
set_option maxRecDepth 20000 in
theorem wj_X5_takesEnd_106 {E : gs_E} {l : Launch} {p : Program} {e : Env} {s : State} {m : MethodId} {args : Array Value} {below : List Frame} {meth : Method} {c : Code} (C : gs_X E RX5 cX5_takesEnd 4 p s m args meth c) {x2 : Int32} {σ : gs_H} {g : Int64} {r0 : Int32} {σ0 : gs_H} (hr : meth.sig.returnType = some .boolean) (h : j_X5_takesEnd_106 x2 σ = some (r0, σ0)) : gs_V E 4 (1, 22) p l e s m args below meth c (some (.int r0)) σ0 g 106 [(0, .ref (gs_a E 3)), (2, .int x2)] [] σ g := by
  unfold j_X5_takesEnd_106 at h
  refine x_aload_n C dX5_takesEnd_106 rfl 0 rfl ?_
  refine x_geti C 3 rfl rfl inX5 8 (by decide) rfl kF_X5_53 rfl (v := (σ 3 8)) rfl dX5_takesEnd_107 ?_
  refine x_iconst C dX5_takesEnd_110 (v := 2) (by decide) ?_
  refine x_irem C dX5_takesEnd_111 (by decide) ?_
  refine x_iconst C dX5_takesEnd_112 (v := 1) (by decide) ?_
  by_cases hc1 : ((σ 3 8) - (σ 3 8) / (2 : Int32) * (2 : Int32)) = (1 : Int32)
  · replace h := (if_pos hc1).symm.trans h
    refine x_icmp_neF C dX5_takesEnd_113 (tgt := 120) (by decide) hc1 ?_
    refine x_iconst C dX5_takesEnd_116 (v := 1) (by decide) ?_
    refine x_goto C dX5_takesEnd_117 (tgt := 121) (by decide) ?_
    exact wj_X5_takesEnd_121 C hr h
  · replace h := (if_neg hc1).symm.trans h
    refine x_icmp_neT C dX5_takesEnd_113 (tgt := 120) (by decide) hc1 ?_
    refine x_iconst C dX5_takesEnd_120 (v := 0) (by decide) ?_
    exact wj_X5_takesEnd_121 C hr h
set_option maxHeartbeats 4000000 in
set_option maxRecDepth 20000 in
theorem wj_X5_takesEnd_51 {E : gs_E} {l : Launch} {p : Program} {e : Env} {s : State} {m : MethodId} {args : Array Value} {below : List Frame} {meth : Method} {c : Code} (C : gs_X E RX5 cX5_takesEnd 4 p s m args meth c) {x1 : Int32} {x2 : Int32} {σ : gs_H} {g : Int64} {r0 : Int32} {σ0 : gs_H} (hr : meth.sig.returnType = some .boolean) (h : j_X5_takesEnd_51 x1 x2 σ = some (r0, σ0)) : gs_V E 4 (1, 22) p l e s m args below meth c (some (.int r0)) σ0 g 51 [(0, .ref (gs_a E 3)), (1, .int x1), (2, .int x2)] [] σ g := by
  unfold j_X5_takesEnd_51 at h
  refine x_aload_n C dX5_takesEnd_51 rfl 0 rfl ?_
  refine x_iload_n C dX5_takesEnd_52 rfl 1 rfl ?_
  refine x_bipush C dX5_takesEnd_53 (v := 48) (by decide) ?_
  refine x_isub C dX5_takesEnd_55 ?_
  refine x_iload_n C dX5_takesEnd_56 rfl 2 rfl ?_
  obtain ⟨v1, hv1, h⟩ := Option.bind_eq_some_iff.mp h
  refine x_callV C 3 (m_X5_canTell hv1) rfl rfl kM_X5_77 kI_X5_canTell kS_X5_canTell kN_X5 kC_X5_canTell kD_X5_canTell rfl ⟨Nat.le_of_ble_eq_true rfl, Nat.le_of_ble_eq_true rfl⟩ ⟨Nat.le_refl _, Nat.le_refl _⟩ (rest := []) rfl (Nat.le_of_ble_eq_true rfl) dX5_takesEnd_57 (st' := [.int v1]) rfl ?_
  by_cases hc2 : v1 = 0
  · replace h := (if_pos hc2).symm.trans h
    refine x_if_eqT C dX5_takesEnd_60 (tgt := 104) (by decide) hc2 ?_
    refine x_iconst C dX5_takesEnd_104 (v := 0) (by decide) ?_
    replace h := Option.some.inj h
    obtain ⟨rfl, rfl⟩ := Prod.mk.inj h
    exact x_retb C hr (by decide) rfl dX5_takesEnd_105
  · replace h := (if_neg hc2).symm.trans h
    refine x_if_eqF C dX5_takesEnd_60 (tgt := 104) (by decide) hc2 ?_
    refine x_aload_n C dX5_takesEnd_63 rfl 0 rfl ?_
    refine x_getr C 3 rfl rfl inX5 1 (by decide) rfl kF_X5_15 rfl dX5_takesEnd_64 ?_
    refine x_aload_n C dX5_takesEnd_67 rfl 0 rfl ?_
    refine x_geti C 3 rfl rfl inX5 8 (by decide) rfl kF_X5_53 rfl (v := (σ 3 8)) rfl dX5_takesEnd_68 ?_
    refine x_iload_n C dX5_takesEnd_71 rfl 1 rfl ?_
    refine x_bipush C dX5_takesEnd_72 (v := 48) (by decide) ?_
    refine x_isub C dX5_takesEnd_74 ?_
    obtain ⟨hb3, h⟩ := ck_some h
    refine x_iast C 5 rfl hb3 dX5_takesEnd_75 ?_
    refine x_aload_n C dX5_takesEnd_76 rfl 0 rfl ?_
    refine x_getr C 3 rfl rfl inX5 6 (by decide) rfl kF_X5_24 rfl dX5_takesEnd_77 ?_
    refine x_iload_n C dX5_takesEnd_80 rfl 1 rfl ?_
    refine x_bipush C dX5_takesEnd_81 (v := 48) (by decide) ?_
    refine x_isub C dX5_takesEnd_83 ?_
    refine x_iconst C dX5_takesEnd_84 (v := 1) (by decide) ?_
    obtain ⟨hb4, h⟩ := ck_some h
    refine x_zast C 8 rfl hb4 (by decide) dX5_takesEnd_85 ?_
    refine x_aload_n C dX5_takesEnd_86 rfl 0 rfl ?_
    refine x_aload_n C dX5_takesEnd_87 rfl 0 rfl ?_
    refine x_geti C 3 rfl rfl inX5 4 (by decide) rfl kF_X5_56 rfl (v := (σ 3 4)) rfl dX5_takesEnd_88 ?_
    refine x_iload_n C dX5_takesEnd_91 rfl 1 rfl ?_
    refine x_bipush C dX5_takesEnd_92 (v := 48) (by decide) ?_
    refine x_isub C dX5_takesEnd_94 ?_
    refine x_mmax C kM_X5_81 kT_Math_max kN_J9 kC_Math_max (Nat.le_of_ble_eq_true rfl) (Nat.le_of_ble_eq_true rfl) ⟨Nat.le_refl _, Nat.le_refl _⟩ dX5_takesEnd_95 ?_
    refine x_puti C 3 rfl rfl inX5 tyX5 tyX5_ok nmX5 4 (by decide) rfl kF_X5_56 rfl rfl rfl rfl dX5_takesEnd_98 ?_
    refine x_goto C dX5_takesEnd_101 (tgt := 106) (by decide) ?_
    refine x_lv (lv' := [(0, .ref (gs_a E 3)), (2, .int x2)]) [0, 2] rfl ?_
    exact wj_X5_takesEnd_106 C hr h
set_option maxHeartbeats 4000000 in
set_option maxRecDepth 20000 in
theorem m_X5_takesEnd {E : gs_E} {l : Launch} {x1 : Int32} {σ : gs_H} {g : Int64} {r0 : Int32} {σ0 : gs_H} (h : f_X5_takesEnd x1 σ = some (r0, σ0)) : gs_M l E yX5_takesEnd cX5_takesEnd 4 (some .boolean) (1, 22) [.ref (gs_a E 3), .int x1] σ g (some (.int r0)) σ0 g := by
  refine x_enter (lv := [(0, .ref (gs_a E 3)), (1, .int x1)]) (by decide +kernel) (Nat.le_of_ble_eq_true rfl) rfl (fun p e s m args below meth c C hr => ?_)
  unfold f_X5_takesEnd at h
  refine x_aload_n C dX5_takesEnd_0 rfl 0 rfl ?_
  refine x_geti C 3 rfl rfl inX5 8 (by decide) rfl kF_X5_53 rfl (v := (σ 3 8)) rfl dX5_takesEnd_1 ?_
  refine x_iconst C dX5_takesEnd_4 (v := 2) (by decide) ?_
  refine x_idiv C dX5_takesEnd_5 (by decide) ?_
  refine x_istore_n C dX5_takesEnd_6 rfl (lv2 := [(0, .ref (gs_a E 3)), (1, .int x1), (2, .int ((σ 3 8) / (2 : Int32)))]) (by decide) rfl [1, 2, 0] rfl ?_
  refine x_iload_n C dX5_takesEnd_7 rfl 1 rfl ?_
  refine x_bipush C dX5_takesEnd_8 (v := 42) (by decide) ?_
  by_cases hc1 : x1 = (42 : Int32)
  · replace h := (if_pos hc1).symm.trans h
    refine x_icmp_neF C dX5_takesEnd_10 (tgt := 51) (by decide) hc1 ?_
    refine x_aload_n C dX5_takesEnd_13 rfl 0 rfl ?_
    refine x_geti C 3 rfl rfl inX5 5 (by decide) rfl kF_X5_50 rfl (v := (σ 3 5)) rfl dX5_takesEnd_14 ?_
    refine x_bipush C dX5_takesEnd_17 (v := 6) (by decide) ?_
    by_cases hc2 : (6 : Int32) ≤ (σ 3 5)
    · replace h := (if_pos hc2).symm.trans h
      refine x_icmp_geT C dX5_takesEnd_19 (tgt := 51) (by decide) hc2 ?_
      exact wj_X5_takesEnd_51 C hr h
    · replace h := (if_neg hc2).symm.trans h
      refine x_icmp_geF C dX5_takesEnd_19 (tgt := 51) (by decide) hc2 ?_
      refine x_aload_n C dX5_takesEnd_22 rfl 0 rfl ?_
      refine x_getr C 3 rfl rfl inX5 1 (by decide) rfl kF_X5_15 rfl dX5_takesEnd_23 ?_
      refine x_aload_n C dX5_takesEnd_26 rfl 0 rfl ?_
      refine x_geti C 3 rfl rfl inX5 8 (by decide) rfl kF_X5_53 rfl (v := (σ 3 8)) rfl dX5_takesEnd_27 ?_
      refine x_bipush C dX5_takesEnd_30 (v := 10) (by decide) ?_
      refine x_aload_n C dX5_takesEnd_32 rfl 0 rfl ?_
      refine x_geti C 3 rfl rfl inX5 5 (by decide) rfl kF_X5_50 rfl (v := (σ 3 5)) rfl dX5_takesEnd_33 ?_
      refine x_iadd C dX5_takesEnd_36 ?_
      obtain ⟨hb3, h⟩ := ck_some h
      refine x_iast C 5 rfl hb3 dX5_takesEnd_37 ?_
      refine x_aload_n C dX5_takesEnd_38 rfl 0 rfl ?_
      refine x_dup C dX5_takesEnd_39 rfl ?_
      refine x_geti C 3 rfl rfl inX5 5 (by decide) rfl kF_X5_50 rfl (v := (σ 3 5)) rfl dX5_takesEnd_40 ?_
      refine x_iconst C dX5_takesEnd_43 (v := 1) (by decide) ?_
      refine x_iadd C dX5_takesEnd_44 ?_
      refine x_puti C 3 rfl rfl inX5 tyX5 tyX5_ok nmX5 5 (by decide) rfl kF_X5_50 rfl rfl rfl rfl dX5_takesEnd_45 ?_
      refine x_goto C dX5_takesEnd_48 (tgt := 106) (by decide) ?_
      refine x_lv (lv' := [(0, .ref (gs_a E 3)), (2, .int ((σ 3 8) / (2 : Int32)))]) [0, 2] rfl ?_
      exact wj_X5_takesEnd_106 C hr h
  · replace h := (if_neg hc1).symm.trans h
    refine x_icmp_neT C dX5_takesEnd_10 (tgt := 51) (by decide) hc1 ?_
    exact wj_X5_takesEnd_51 C hr h
def f_X5_takesKind (x1 : Int32) (σ : gs_H) : Option (Int32 × gs_H) :=
if (kIx (x1.toUInt32 % 65536).toInt32) < 0 then (
some ((0 : Int32), σ))
else (
if (σ 3 9) < (6 : Int32) then (
if inb (σ 3 9) 6 then
some ((1 : Int32), (up2 (up2 σ 6 (σ 3 9).toNatClampNeg (kIx (x1.toUInt32 % 65536).toInt32)) 3 7 (4 : Int32))) else none)
else (
some ((0 : Int32), σ)))
set_option maxHeartbeats 4000000 in
set_option maxRecDepth 20000 in
theorem m_X5_takesKind {E : gs_E} {l : Launch} {x1 : Int32} {σ : gs_H} {g : Int64} {r0 : Int32} {σ0 : gs_H} (h : f_X5_takesKind x1 σ = some (r0, σ0)) : gs_M l E yX5_takesKind cX5_takesKind 3 (some .boolean) (6, 220) [.ref (gs_a E 3), .int x1] σ g (some (.int r0)) σ0 g := by
  refine x_enter (lv := [(0, .ref (gs_a E 3)), (1, .int x1)]) (by decide +kernel) (Nat.le_of_ble_eq_true rfl) rfl (fun p e s m args below meth c C hr => ?_)
  unfold f_X5_takesKind at h
  refine x_ldcS C dX5_takesKind_0 ?_
  refine x_iload_n C dX5_takesKind_2 rfl 1 rfl ?_
  refine x_i2c C dX5_takesKind_3 ?_
  refine x_ix C (Nat.le_of_ble_eq_true rfl) (Nat.le_of_ble_eq_true rfl) ⟨Nat.le_refl _, Nat.le_refl _⟩ (Nat.le_of_ble_eq_true rfl) dX5_takesKind_4 ?_
  refine x_istore_n C dX5_takesKind_7 rfl (lv2 := [(0, .ref (gs_a E 3)), (1, .int x1), (2, .int (kIx (x1.toUInt32 % 65536).toInt32))]) (by decide) rfl [1, 2, 0] rfl ?_
  refine x_iload_n C dX5_takesKind_8 rfl 2 rfl ?_
  by_cases hc1 : (kIx (x1.toUInt32 % 65536).toInt32) < 0
  · replace h := (if_pos hc1).symm.trans h
    refine x_if_ltT C dX5_takesKind_9 (tgt := 21) (by decide) hc1 ?_
    refine x_iconst C dX5_takesKind_21 (v := 0) (by decide) ?_
    replace h := Option.some.inj h
    obtain ⟨rfl, rfl⟩ := Prod.mk.inj h
    exact x_retb C hr (by decide) rfl dX5_takesKind_22
  · replace h := (if_neg hc1).symm.trans h
    refine x_if_ltF C dX5_takesKind_9 (tgt := 21) (by decide) hc1 ?_
    refine x_aload_n C dX5_takesKind_12 rfl 0 rfl ?_
    refine x_geti C 3 rfl rfl inX5 9 (by decide) rfl kF_X5_47 rfl (v := (σ 3 9)) rfl dX5_takesKind_13 ?_
    refine x_bipush C dX5_takesKind_16 (v := 6) (by decide) ?_
    by_cases hc2 : (σ 3 9) < (6 : Int32)
    · replace h := (if_pos hc2).symm.trans h
      refine x_icmp_ltT C dX5_takesKind_18 (tgt := 23) (by decide) hc2 ?_
      refine x_aload_n C dX5_takesKind_23 rfl 0 rfl ?_
      refine x_getr C 3 rfl rfl inX5 2 (by decide) rfl kF_X5_18 rfl dX5_takesKind_24 ?_
      refine x_aload_n C dX5_takesKind_27 rfl 0 rfl ?_
      refine x_geti C 3 rfl rfl inX5 9 (by decide) rfl kF_X5_47 rfl (v := (σ 3 9)) rfl dX5_takesKind_28 ?_
      refine x_iload_n C dX5_takesKind_31 rfl 2 rfl ?_
      obtain ⟨hb3, h⟩ := ck_some h
      refine x_iast C 6 rfl hb3 dX5_takesKind_32 ?_
      refine x_aload_n C dX5_takesKind_33 rfl 0 rfl ?_
      refine x_iconst C dX5_takesKind_34 (v := 4) (by decide) ?_
      refine x_puti C 3 rfl rfl inX5 tyX5 tyX5_ok nmX5 7 (by decide) rfl kF_X5_44 rfl rfl rfl rfl dX5_takesKind_35 ?_
      refine x_iconst C dX5_takesKind_38 (v := 1) (by decide) ?_
      replace h := Option.some.inj h
      obtain ⟨rfl, rfl⟩ := Prod.mk.inj h
      exact x_retb C hr (by decide) rfl dX5_takesKind_39
    · replace h := (if_neg hc2).symm.trans h
      refine x_icmp_ltF C dX5_takesKind_18 (tgt := 23) (by decide) hc2 ?_
      refine x_iconst C dX5_takesKind_21 (v := 0) (by decide) ?_
      replace h := Option.some.inj h
      obtain ⟨rfl, rfl⟩ := Prod.mk.inj h
      exact x_retb C hr (by decide) rfl dX5_takesKind_22
def f_X5_takesLength (x1 : Int32) (σ : gs_H) : Option (Int32 × gs_H) :=
if x1 < (49 : Int32) then (
some ((0 : Int32), σ))
else (
if (57 : Int32) < x1 then (
some ((0 : Int32), σ))
else (
if (σ 3 8) < (10 : Int32) then (
if inb (σ 3 8) 10 then
some ((1 : Int32), (up2 (up2 σ 4 (σ 3 8).toNatClampNeg (x1 - (48 : Int32))) 3 7 (1 : Int32))) else none)
else (
some ((0 : Int32), σ))))
set_option maxHeartbeats 4000000 in
set_option maxRecDepth 20000 in
theorem m_X5_takesLength {E : gs_E} {l : Launch} {x1 : Int32} {σ : gs_H} {g : Int64} {r0 : Int32} {σ0 : gs_H} (h : f_X5_takesLength x1 σ = some (r0, σ0)) : gs_M l E yX5_takesLength cX5_takesLength 2 (some .boolean) (0, 0) [.ref (gs_a E 3), .int x1] σ g (some (.int r0)) σ0 g := by
  refine x_enter (lv := [(0, .ref (gs_a E 3)), (1, .int x1)]) (by decide +kernel) (Nat.le_of_ble_eq_true rfl) rfl (fun p e s m args below meth c C hr => ?_)
  unfold f_X5_takesLength at h
  refine x_iload_n C dX5_takesLength_0 rfl 1 rfl ?_
  refine x_bipush C dX5_takesLength_1 (v := 49) (by decide) ?_
  by_cases hc1 : x1 < (49 : Int32)
  · replace h := (if_pos hc1).symm.trans h
    refine x_icmp_ltT C dX5_takesLength_3 (tgt := 21) (by decide) hc1 ?_
    refine x_iconst C dX5_takesLength_21 (v := 0) (by decide) ?_
    replace h := Option.some.inj h
    obtain ⟨rfl, rfl⟩ := Prod.mk.inj h
    exact x_retb C hr (by decide) rfl dX5_takesLength_22
  · replace h := (if_neg hc1).symm.trans h
    refine x_icmp_ltF C dX5_takesLength_3 (tgt := 21) (by decide) hc1 ?_
    refine x_iload_n C dX5_takesLength_6 rfl 1 rfl ?_
    refine x_bipush C dX5_takesLength_7 (v := 57) (by decide) ?_
    by_cases hc2 : (57 : Int32) < x1
    · replace h := (if_pos hc2).symm.trans h
      refine x_icmp_gtT C dX5_takesLength_9 (tgt := 21) (by decide) hc2 ?_
      refine x_iconst C dX5_takesLength_21 (v := 0) (by decide) ?_
      replace h := Option.some.inj h
      obtain ⟨rfl, rfl⟩ := Prod.mk.inj h
      exact x_retb C hr (by decide) rfl dX5_takesLength_22
    · replace h := (if_neg hc2).symm.trans h
      refine x_icmp_gtF C dX5_takesLength_9 (tgt := 21) (by decide) hc2 ?_
      refine x_aload_n C dX5_takesLength_12 rfl 0 rfl ?_
      refine x_geti C 3 rfl rfl inX5 8 (by decide) rfl kF_X5_53 rfl (v := (σ 3 8)) rfl dX5_takesLength_13 ?_
      refine x_bipush C dX5_takesLength_16 (v := 10) (by decide) ?_
      by_cases hc3 : (σ 3 8) < (10 : Int32)
      · replace h := (if_pos hc3).symm.trans h
        refine x_icmp_ltT C dX5_takesLength_18 (tgt := 23) (by decide) hc3 ?_
        refine x_aload_n C dX5_takesLength_23 rfl 0 rfl ?_
        refine x_getr C 3 rfl rfl inX5 0 (by decide) rfl kF_X5_9 rfl dX5_takesLength_24 ?_
        refine x_aload_n C dX5_takesLength_27 rfl 0 rfl ?_
        refine x_geti C 3 rfl rfl inX5 8 (by decide) rfl kF_X5_53 rfl (v := (σ 3 8)) rfl dX5_takesLength_28 ?_
        refine x_iload_n C dX5_takesLength_31 rfl 1 rfl ?_
        refine x_bipush C dX5_takesLength_32 (v := 48) (by decide) ?_
        refine x_isub C dX5_takesLength_34 ?_
        obtain ⟨hb4, h⟩ := ck_some h
        refine x_iast C 4 rfl hb4 dX5_takesLength_35 ?_
        refine x_aload_n C dX5_takesLength_36 rfl 0 rfl ?_
        refine x_iconst C dX5_takesLength_37 (v := 1) (by decide) ?_
        refine x_puti C 3 rfl rfl inX5 tyX5 tyX5_ok nmX5 7 (by decide) rfl kF_X5_44 rfl rfl rfl rfl dX5_takesLength_38 ?_
        refine x_iconst C dX5_takesLength_41 (v := 1) (by decide) ?_
        replace h := Option.some.inj h
        obtain ⟨rfl, rfl⟩ := Prod.mk.inj h
        exact x_retb C hr (by decide) rfl dX5_takesLength_42
      · replace h := (if_neg hc3).symm.trans h
        refine x_icmp_ltF C dX5_takesLength_18 (tgt := 23) (by decide) hc3 ?_
        refine x_iconst C dX5_takesLength_21 (v := 0) (by decide) ?_
        replace h := Option.some.inj h
        obtain ⟨rfl, rfl⟩ := Prod.mk.inj h
        exact x_retb C hr (by decide) rfl dX5_takesLength_22
def f_X5_takesSize (x1 : Int32) (σ : gs_H) : Option (Int32 × gs_H) :=
if x1 < (48 : Int32) then (
some ((0 : Int32), σ))
else (
if (57 : Int32) < x1 then (
some ((0 : Int32), σ))
else (
if (σ 3 9) < (6 : Int32) then (
if inb (σ 3 9) 6 then
some ((1 : Int32), (up2 (up2 (up2 σ 7 (σ 3 9).toNatClampNeg (x1 - (48 : Int32))) 3 9 ((σ 3 9) + (1 : Int32))) 3 7 (5 : Int32))) else none)
else (
some ((0 : Int32), σ))))
set_option maxHeartbeats 4000000 in
set_option maxRecDepth 20000 in
theorem m_X5_takesSize {E : gs_E} {l : Launch} {x1 : Int32} {σ : gs_H} {g : Int64} {r0 : Int32} {σ0 : gs_H} (h : f_X5_takesSize x1 σ = some (r0, σ0)) : gs_M l E yX5_takesSize cX5_takesSize 2 (some .boolean) (0, 0) [.ref (gs_a E 3), .int x1] σ g (some (.int r0)) σ0 g := by
  refine x_enter (lv := [(0, .ref (gs_a E 3)), (1, .int x1)]) (by decide +kernel) (Nat.le_of_ble_eq_true rfl) rfl (fun p e s m args below meth c C hr => ?_)
  unfold f_X5_takesSize at h
  refine x_iload_n C dX5_takesSize_0 rfl 1 rfl ?_
  refine x_bipush C dX5_takesSize_1 (v := 48) (by decide) ?_
  by_cases hc1 : x1 < (48 : Int32)
  · replace h := (if_pos hc1).symm.trans h
    refine x_icmp_ltT C dX5_takesSize_3 (tgt := 21) (by decide) hc1 ?_
    refine x_iconst C dX5_takesSize_21 (v := 0) (by decide) ?_
    replace h := Option.some.inj h
    obtain ⟨rfl, rfl⟩ := Prod.mk.inj h
    exact x_retb C hr (by decide) rfl dX5_takesSize_22
  · replace h := (if_neg hc1).symm.trans h
    refine x_icmp_ltF C dX5_takesSize_3 (tgt := 21) (by decide) hc1 ?_
    refine x_iload_n C dX5_takesSize_6 rfl 1 rfl ?_
    refine x_bipush C dX5_takesSize_7 (v := 57) (by decide) ?_
    by_cases hc2 : (57 : Int32) < x1
    · replace h := (if_pos hc2).symm.trans h
      refine x_icmp_gtT C dX5_takesSize_9 (tgt := 21) (by decide) hc2 ?_
      refine x_iconst C dX5_takesSize_21 (v := 0) (by decide) ?_
      replace h := Option.some.inj h
      obtain ⟨rfl, rfl⟩ := Prod.mk.inj h
      exact x_retb C hr (by decide) rfl dX5_takesSize_22
    · replace h := (if_neg hc2).symm.trans h
      refine x_icmp_gtF C dX5_takesSize_9 (tgt := 21) (by decide) hc2 ?_
      refine x_aload_n C dX5_takesSize_12 rfl 0 rfl ?_
      refine x_geti C 3 rfl rfl inX5 9 (by decide) rfl kF_X5_47 rfl (v := (σ 3 9)) rfl dX5_takesSize_13 ?_
      refine x_bipush C dX5_takesSize_16 (v := 6) (by decide) ?_
      by_cases hc3 : (σ 3 9) < (6 : Int32)
      · replace h := (if_pos hc3).symm.trans h
        refine x_icmp_ltT C dX5_takesSize_18 (tgt := 23) (by decide) hc3 ?_
        refine x_aload_n C dX5_takesSize_23 rfl 0 rfl ?_
        refine x_getr C 3 rfl rfl inX5 3 (by decide) rfl kF_X5_21 rfl dX5_takesSize_24 ?_
        refine x_aload_n C dX5_takesSize_27 rfl 0 rfl ?_
        refine x_geti C 3 rfl rfl inX5 9 (by decide) rfl kF_X5_47 rfl (v := (σ 3 9)) rfl dX5_takesSize_28 ?_
        refine x_iload_n C dX5_takesSize_31 rfl 1 rfl ?_
        refine x_bipush C dX5_takesSize_32 (v := 48) (by decide) ?_
        refine x_isub C dX5_takesSize_34 ?_
        obtain ⟨hb4, h⟩ := ck_some h
        refine x_iast C 7 rfl hb4 dX5_takesSize_35 ?_
        refine x_aload_n C dX5_takesSize_36 rfl 0 rfl ?_
        refine x_dup C dX5_takesSize_37 rfl ?_
        refine x_geti C 3 rfl rfl inX5 9 (by decide) rfl kF_X5_47 rfl (v := (σ 3 9)) rfl dX5_takesSize_38 ?_
        refine x_iconst C dX5_takesSize_41 (v := 1) (by decide) ?_
        refine x_iadd C dX5_takesSize_42 ?_
        refine x_puti C 3 rfl rfl inX5 tyX5 tyX5_ok nmX5 9 (by decide) rfl kF_X5_47 rfl rfl rfl rfl dX5_takesSize_43 ?_
        refine x_aload_n C dX5_takesSize_46 rfl 0 rfl ?_
        refine x_iconst C dX5_takesSize_47 (v := 5) (by decide) ?_
        refine x_puti C 3 rfl rfl inX5 tyX5 tyX5_ok nmX5 7 (by decide) rfl kF_X5_44 rfl rfl rfl rfl dX5_takesSize_48 ?_
        refine x_iconst C dX5_takesSize_51 (v := 1) (by decide) ?_
        replace h := Option.some.inj h
        obtain ⟨rfl, rfl⟩ := Prod.mk.inj h
        exact x_retb C hr (by decide) rfl dX5_takesSize_52
      · replace h := (if_neg hc3).symm.trans h
        refine x_icmp_ltF C dX5_takesSize_18 (tgt := 23) (by decide) hc3 ?_
        refine x_iconst C dX5_takesSize_21 (v := 0) (by decide) ?_
        replace h := Option.some.inj h
        obtain ⟨rfl, rfl⟩ := Prod.mk.inj h
        exact x_retb C hr (by decide) rfl dX5_takesSize_22
def f_X5_takes (x1 : Int32) (σ : gs_H) : Option (Int32 × gs_H) :=
if (σ 3 7) = 0 then (
(f_X5_takesLength x1 σ).bind fun q2 =>
if q2.1 = 0 ∨ q2.1 = 1 then
some (q2.1, q2.2) else none)
else (
if (σ 3 7) = 1 then (
(f_X5_takesEnd x1 σ).bind fun q3 =>
if q3.1 = 0 ∨ q3.1 = 1 then
some (q3.1, q3.2) else none)
else (
if (σ 3 7) = 2 then (
(f_X5_takesBehindRod x1 σ).bind fun q4 =>
if q4.1 = 0 ∨ q4.1 = 1 then
some (q4.1, q4.2) else none)
else (
if (σ 3 7) = 3 then (
(f_X5_takesKind x1 σ).bind fun q5 =>
if q5.1 = 0 ∨ q5.1 = 1 then
some (q5.1, q5.2) else none)
else (
if (σ 3 7) = 4 then (
(f_X5_takesSize x1 σ).bind fun q6 =>
if q6.1 = 0 ∨ q6.1 = 1 then
some (q6.1, q6.2) else none)
else (
if (f_X5_takesBehindThing x1 σ).1 = 0 ∨ (f_X5_takesBehindThing x1 σ).1 = 1 then
some ((f_X5_takesBehindThing x1 σ).1, (f_X5_takesBehindThing x1 σ).2) else none)))))
set_option maxHeartbeats 4000000 in
set_option maxRecDepth 20000 in
theorem m_X5_takes {E : gs_E} {l : Launch} {x1 : Int32} {σ : gs_H} {g : Int64} {r0 : Int32} {σ0 : gs_H} (h : f_X5_takes x1 σ = some (r0, σ0)) : gs_M l E yX5_takes cX5_takes 2 (some .boolean) (7, 242) [.ref (gs_a E 3), .int x1] σ g (some (.int r0)) σ0 g := by
  refine x_enter (lv := [(0, .ref (gs_a E 3)), (1, .int x1)]) (by decide +kernel) (Nat.le_of_ble_eq_true rfl) rfl (fun p e s m args below meth c C hr => ?_)
  unfold f_X5_takes at h
  refine x_aload_n C dX5_takes_0 rfl 0 rfl ?_
  refine x_geti C 3 rfl rfl inX5 7 (by decide) rfl kF_X5_44 rfl (v := (σ 3 7)) rfl dX5_takes_1 ?_
  by_cases hs1_0 : (σ 3 7) = 0
  · replace h := (if_pos hs1_0).symm.trans h
    refine x_tsw C dX5_takes_4 0 hs1_0 (by decide) (by decide) (off := 36) rfl (tgt := 40) (by decide) ?_
    refine x_aload_n C dX5_takes_40 rfl 0 rfl ?_
    refine x_iload_n C dX5_takes_41 rfl 1 rfl ?_
    obtain ⟨⟨v2, s2⟩, hv2, h⟩ := Option.bind_eq_some_iff.mp h
    try dsimp only at h
    refine x_callV C 3 (m_X5_takesLength hv2) rfl rfl kM_X5_59 kI_X5_takesLength kS_X5_takesLength kN_X5 kC_X5_takesLength kD_X5_takesLength rfl ⟨Nat.le_of_ble_eq_true rfl, Nat.le_of_ble_eq_true rfl⟩ ⟨Nat.le_refl _, Nat.le_refl _⟩ (rest := []) rfl (Nat.le_of_ble_eq_true rfl) dX5_takes_42 (st' := [.int v2]) rfl ?_
    obtain ⟨hbo, h⟩ := ck_some h
    replace h := Option.some.inj h
    obtain ⟨rfl, rfl⟩ := Prod.mk.inj h
    exact x_retb C hr hbo rfl dX5_takes_45
  · replace h := (if_neg hs1_0).symm.trans h
    by_cases hs1_1 : (σ 3 7) = 1
    · replace h := (if_pos hs1_1).symm.trans h
      refine x_tsw C dX5_takes_4 1 hs1_1 (by decide) (by decide) (off := 42) rfl (tgt := 46) (by decide) ?_
      refine x_aload_n C dX5_takes_46 rfl 0 rfl ?_
      refine x_iload_n C dX5_takes_47 rfl 1 rfl ?_
      obtain ⟨⟨v3, s3⟩, hv3, h⟩ := Option.bind_eq_some_iff.mp h
      try dsimp only at h
      refine x_callV C 3 (m_X5_takesEnd hv3) rfl rfl kM_X5_62 kI_X5_takesEnd kS_X5_takesEnd kN_X5 kC_X5_takesEnd kD_X5_takesEnd rfl ⟨Nat.le_of_ble_eq_true rfl, Nat.le_of_ble_eq_true rfl⟩ ⟨Nat.le_refl _, Nat.le_refl _⟩ (rest := []) rfl (Nat.le_of_ble_eq_true rfl) dX5_takes_48 (st' := [.int v3]) rfl ?_
      obtain ⟨hbo, h⟩ := ck_some h
      replace h := Option.some.inj h
      obtain ⟨rfl, rfl⟩ := Prod.mk.inj h
      exact x_retb C hr hbo rfl dX5_takes_51
    · replace h := (if_neg hs1_1).symm.trans h
      by_cases hs1_2 : (σ 3 7) = 2
      · replace h := (if_pos hs1_2).symm.trans h
        refine x_tsw C dX5_takes_4 2 hs1_2 (by decide) (by decide) (off := 48) rfl (tgt := 52) (by decide) ?_
        refine x_aload_n C dX5_takes_52 rfl 0 rfl ?_
        refine x_iload_n C dX5_takes_53 rfl 1 rfl ?_
        obtain ⟨⟨v4, s4⟩, hv4, h⟩ := Option.bind_eq_some_iff.mp h
        try dsimp only at h
        refine x_callV C 3 (m_X5_takesBehindRod hv4) rfl rfl kM_X5_65 kI_X5_takesBehindRod kS_X5_takesBehindRod kN_X5 kC_X5_takesBehindRod kD_X5_takesBehindRod rfl ⟨Nat.le_of_ble_eq_true rfl, Nat.le_of_ble_eq_true rfl⟩ ⟨Nat.le_refl _, Nat.le_refl _⟩ (rest := []) rfl (Nat.le_of_ble_eq_true rfl) dX5_takes_54 (st' := [.int v4]) rfl ?_
        obtain ⟨hbo, h⟩ := ck_some h
        replace h := Option.some.inj h
        obtain ⟨rfl, rfl⟩ := Prod.mk.inj h
        exact x_retb C hr hbo rfl dX5_takes_57
      · replace h := (if_neg hs1_2).symm.trans h
        by_cases hs1_3 : (σ 3 7) = 3
        · replace h := (if_pos hs1_3).symm.trans h
          refine x_tsw C dX5_takes_4 3 hs1_3 (by decide) (by decide) (off := 54) rfl (tgt := 58) (by decide) ?_
          refine x_aload_n C dX5_takes_58 rfl 0 rfl ?_
          refine x_iload_n C dX5_takes_59 rfl 1 rfl ?_
          obtain ⟨⟨v5, s5⟩, hv5, h⟩ := Option.bind_eq_some_iff.mp h
          try dsimp only at h
          refine x_callV C 3 (m_X5_takesKind hv5) rfl rfl kM_X5_68 kI_X5_takesKind kS_X5_takesKind kN_X5 kC_X5_takesKind kD_X5_takesKind rfl ⟨Nat.le_of_ble_eq_true rfl, Nat.le_of_ble_eq_true rfl⟩ ⟨Nat.le_refl _, Nat.le_refl _⟩ (rest := []) rfl (Nat.le_of_ble_eq_true rfl) dX5_takes_60 (st' := [.int v5]) rfl ?_
          obtain ⟨hbo, h⟩ := ck_some h
          replace h := Option.some.inj h
          obtain ⟨rfl, rfl⟩ := Prod.mk.inj h
          exact x_retb C hr hbo rfl dX5_takes_63
        · replace h := (if_neg hs1_3).symm.trans h
          by_cases hs1_4 : (σ 3 7) = 4
          · replace h := (if_pos hs1_4).symm.trans h
            refine x_tsw C dX5_takes_4 4 hs1_4 (by decide) (by decide) (off := 60) rfl (tgt := 64) (by decide) ?_
            refine x_aload_n C dX5_takes_64 rfl 0 rfl ?_
            refine x_iload_n C dX5_takes_65 rfl 1 rfl ?_
            obtain ⟨⟨v6, s6⟩, hv6, h⟩ := Option.bind_eq_some_iff.mp h
            try dsimp only at h
            refine x_callV C 3 (m_X5_takesSize hv6) rfl rfl kM_X5_71 kI_X5_takesSize kS_X5_takesSize kN_X5 kC_X5_takesSize kD_X5_takesSize rfl ⟨Nat.le_of_ble_eq_true rfl, Nat.le_of_ble_eq_true rfl⟩ ⟨Nat.le_refl _, Nat.le_refl _⟩ (rest := []) rfl (Nat.le_of_ble_eq_true rfl) dX5_takes_66 (st' := [.int v6]) rfl ?_
            obtain ⟨hbo, h⟩ := ck_some h
            replace h := Option.some.inj h
            obtain ⟨rfl, rfl⟩ := Prod.mk.inj h
            exact x_retb C hr hbo rfl dX5_takes_69
          · replace h := (if_neg hs1_4).symm.trans h
            refine x_tswD C dX5_takes_4 (tgt := 70) (by have e0 := lv_neT hs1_0 (a := 0) rfl; have e1 := lv_neT hs1_1 (a := 1) rfl; have e2 := lv_neT hs1_2 (a := 2) rfl; have e3 := lv_neT hs1_3 (a := 3) rfl; have e4 := lv_neT hs1_4 (a := 4) rfl; omega) (by decide) ?_
            refine x_aload_n C dX5_takes_70 rfl 0 rfl ?_
            refine x_iload_n C dX5_takes_71 rfl 1 rfl ?_
            refine x_callV C 3 (m_X5_takesBehindThing rfl) rfl rfl kM_X5_74 kI_X5_takesBehindThing kS_X5_takesBehindThing kN_X5 kC_X5_takesBehindThing kD_X5_takesBehindThing rfl ⟨Nat.le_of_ble_eq_true rfl, Nat.le_of_ble_eq_true rfl⟩ ⟨Nat.le_refl _, Nat.le_refl _⟩ (rest := []) rfl (Nat.le_of_ble_eq_true rfl) dX5_takes_72 (st' := [.int (f_X5_takesBehindThing x1 σ).1]) rfl ?_
            obtain ⟨hbo, h⟩ := ck_some h
            replace h := Option.some.inj h
            obtain ⟨rfl, rfl⟩ := Prod.mk.inj h
            exact x_retb C hr hbo rfl dX5_takes_75
def b_X5_readLetters_6 (y : Int32 × gs_H) : Option ((Int32 × gs_H) ⊕ ((Int32 × gs_H) ⊕ (gs_H))) :=
if (y.2 1 1) ≤ y.1 then (
some (Sum.inr (Sum.inr y.2)))
else (
if inb y.1 46 then
(f_X5_takes (y.2 2 y.1.toNatClampNeg) y.2).bind fun q5 =>
if q5.1 = 0 then (
some (Sum.inr (Sum.inl (y.1, q5.2))))
else (
some (Sum.inl ((y.1 + (1 : Int32)), q5.2))) else none)
def f_X5_readLetters (σ : gs_H) : Option (Int32 × gs_H) :=
(f_X5_begin σ).bind fun q1 =>
(lp (b_X5_readLetters_6) 1000 ((0 : Int32), q1)).bind fun q2 =>
match q2 with
| .inl q2_0 =>
some (q2_0.1, q2_0.2)
| .inr q2_1 =>
some ((q2_1 1 1), q2_1)
set_option maxHeartbeats 4000000 in
set_option maxRecDepth 20000 in
theorem wl_X5_readLetters_6 {E : gs_E} {l : Launch} {p : Program} {e : Env} {s : State} {m : MethodId} {args : Array Value} {below : List Frame} {meth : Method} {c : Code} (C : gs_X E RX5 cX5_readLetters 3 p s m args meth c) {ov : Option Value} {σ0 : gs_H} {g0 : Int64} {g : Int64} {q : (Int32 × gs_H) ⊕ (gs_H)} (hx0 : ∀ (z2 : Int32) (zs : gs_H), q = (Sum.inl (z2, zs)) → gs_V E 3 (8, 263) p l e s m args below meth c ov σ0 g0 27 [(2, .int z2)] [] zs g) (hx1 : ∀ (zs : gs_H), q = (Sum.inr zs) → gs_V E 3 (8, 263) p l e s m args below meth c ov σ0 g0 35 [(1, .ref (gs_a E 1))] [] zs g) : ∀ (n : Nat) (y2 : Int32) (ys : gs_H), lp (b_X5_readLetters_6) n (y2, ys) = some q → gs_V E 3 (8, 263) p l e s m args below meth c ov σ0 g0 6 [(0, .ref (gs_a E 3)), (1, .ref (gs_a E 1)), (2, .int y2)] [] ys g := by
  intro n
  induction n with
  | zero => intro y2 ys h; cases h
  | succ n ih =>
    intro y2 ys h
    obtain ⟨r, h, hl, he⟩ := lp_step h
    have hc := fun (y2 : Int32) (ys : gs_H) (hr : r = Sum.inl (y2, ys)) => ih y2 ys (hl _ hr)
    have hk0 := fun (z2 : Int32) (zs : gs_H) (hr : r = Sum.inr (Sum.inl (z2, zs))) => hx0 z2 zs (he _ hr).symm
    have hk1 := fun (zs : gs_H) (hr : r = Sum.inr (Sum.inr zs)) => hx1 zs (he _ hr).symm
    unfold b_X5_readLetters_6 at h
    try dsimp only at h
    refine x_iload_n C dX5_readLetters_6 rfl 2 rfl ?_
    refine x_aload_n C dX5_readLetters_7 rfl 1 rfl ?_
    refine x_geti C 1 rfl rfl inX4 1 (by decide) rfl kF_X5_31 rfl (v := (ys 1 1)) rfl dX5_readLetters_8 ?_
    by_cases hc1 : (ys 1 1) ≤ y2
    · replace h := (if_pos hc1).symm.trans h
      refine x_icmp_geT C dX5_readLetters_11 (tgt := 35) (by decide) hc1 ?_
      refine x_lv (lv' := [(1, .ref (gs_a E 1))]) [1] rfl ?_
      obtain rfl := Option.some.inj h
      exact hk1 ys rfl
    · replace h := (if_neg hc1).symm.trans h
      refine x_icmp_geF C dX5_readLetters_11 (tgt := 35) (by decide) hc1 ?_
      refine x_aload_n C dX5_readLetters_14 rfl 0 rfl ?_
      refine x_aload_n C dX5_readLetters_15 rfl 1 rfl ?_
      refine x_getr C 1 rfl rfl inX4 0 (by decide) rfl kF_X5_37 rfl dX5_readLetters_16 ?_
      refine x_iload_n C dX5_readLetters_19 rfl 2 rfl ?_
      obtain ⟨hb2, h⟩ := ck_some h
      refine x_iald C 2 rfl hb2 (v := (ys 2 y2.toNatClampNeg)) rfl dX5_readLetters_20 ?_
      obtain ⟨⟨v3, s3⟩, hv3, h⟩ := Option.bind_eq_some_iff.mp h
      try dsimp only at h
      refine x_callV C 3 (m_X5_takes hv3) rfl rfl kM_X5_40 kI_X5_takes kS_X5_takes kN_X5 kC_X5_takes kD_X5_takes rfl ⟨Nat.le_of_ble_eq_true rfl, Nat.le_of_ble_eq_true rfl⟩ ⟨Nat.le_refl _, Nat.le_refl _⟩ (rest := []) rfl (Nat.le_of_ble_eq_true rfl) dX5_readLetters_21 (st' := [.int v3]) rfl ?_
      by_cases hc4 : v3 = 0
      · replace h := (if_pos hc4).symm.trans h
        refine x_if_neF C dX5_readLetters_24 (tgt := 29) (by decide) hc4 ?_
        refine x_lv (lv' := [(2, .int y2)]) [2] rfl ?_
        obtain rfl := Option.some.inj h
        exact hk0 y2 s3 rfl
      · replace h := (if_neg hc4).symm.trans h
        refine x_if_neT C dX5_readLetters_24 (tgt := 29) (by decide) hc4 ?_
        refine x_iinc C dX5_readLetters_29 2 rfl (v := (y2 + (1 : Int32))) rfl (lv2 := [(0, .ref (gs_a E 3)), (1, .ref (gs_a E 1)), (2, .int (y2 + (1 : Int32)))]) (by decide) rfl [1, 2, 0] rfl ?_
        refine x_goto C dX5_readLetters_32 (tgt := 6) (by decide) ?_
        obtain rfl := Option.some.inj h
        exact hc (y2 + (1 : Int32)) s3 rfl
set_option maxHeartbeats 4000000 in
set_option maxRecDepth 20000 in
theorem m_X5_readLetters {E : gs_E} {l : Launch} {σ : gs_H} {g : Int64} {r0 : Int32} {σ0 : gs_H} (h : f_X5_readLetters σ = some (r0, σ0)) : gs_M l E yX5_readLetters cX5_readLetters 3 (some .int) (8, 263) [.ref (gs_a E 3), .ref (gs_a E 1)] σ g (some (.int r0)) σ0 g := by
  refine x_enter (lv := [(0, .ref (gs_a E 3)), (1, .ref (gs_a E 1))]) (by decide +kernel) (Nat.le_of_ble_eq_true rfl) rfl (fun p e s m args below meth c C hr => ?_)
  unfold f_X5_readLetters at h
  refine x_aload_n C dX5_readLetters_0 rfl 0 rfl ?_
  obtain ⟨s1, hv1, h⟩ := Option.bind_eq_some_iff.mp h
  refine x_callV C 3 (m_X5_begin hv1) rfl rfl kM_X5_28 kI_X5_begin kS_X5_begin kN_X5 kC_X5_begin kD_X5_begin rfl ⟨Nat.le_of_ble_eq_true rfl, Nat.le_of_ble_eq_true rfl⟩ ⟨Nat.le_refl _, Nat.le_refl _⟩ (rest := []) rfl (Nat.le_of_ble_eq_true rfl) dX5_readLetters_1 (st' := []) rfl ?_
  refine x_iconst C dX5_readLetters_4 (v := 0) (by decide) ?_
  refine x_istore_n C dX5_readLetters_5 rfl (lv2 := [(0, .ref (gs_a E 3)), (1, .ref (gs_a E 1)), (2, .int (0 : Int32))]) (by decide) rfl [1, 2, 0] rfl ?_
  obtain ⟨q2, hq2, h⟩ := Option.bind_eq_some_iff.mp h
  refine wl_X5_readLetters_6 C (fun v2_0_2 s2_0 hz => ?_) (fun s2_1 hz => ?_) 1000 _ _ hq2
  · subst q2
    try dsimp only at h
    refine x_iload_n C dX5_readLetters_27 rfl 0 rfl ?_
    replace h := Option.some.inj h
    obtain ⟨rfl, rfl⟩ := Prod.mk.inj h
    exact x_ret C hr rfl rfl dX5_readLetters_28
  · subst q2
    try dsimp only at h
    refine x_aload_n C dX5_readLetters_35 rfl 0 rfl ?_
    refine x_geti C 1 rfl rfl inX4 1 (by decide) rfl kF_X5_31 rfl (v := (s2_1 1 1)) rfl dX5_readLetters_36 ?_
    replace h := Option.some.inj h
    obtain ⟨rfl, rfl⟩ := Prod.mk.inj h
    exact x_ret C hr rfl rfl dX5_readLetters_39
