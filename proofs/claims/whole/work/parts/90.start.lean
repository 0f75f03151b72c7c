def gx {α β : Type} (F : Nat → α → β) : Nat → List α → List β
  | _, [] => []
  | i, x :: l => F i x :: gx F (i + 1) l
theorem gx_get {α β : Type} (F : Nat → α → β) : ∀ (l : List α) (i k : Nat), (gx F i l)[k]? = (l[k]?).map (F (i + k))
  | [], i, k => by simp [gx]
  | x :: l, i, 0 => by simp [gx]
  | x :: l, i, k + 1 => by
    rw [gx, List.getElem?_cons_succ, List.getElem?_cons_succ, gx_get F l (i + 1) k]
    rw [show i + 1 + k = i + (k + 1) by omega]
theorem gx_map {α β : Type} (F : Nat → α → β) (l : List α) : l.mapIdx F = gx F 0 l := by
  apply List.ext_getElem?
  intro k
  rw [gx_get, List.getElem?_mapIdx, Nat.zero_add]
def gc2 (E : gs_E) (f : Nat → Int32) (g : Int64) (sh : gs_S) : va_E := match sh with
  | .inl q => .inl (gs_cl E q.1, q.2, .inl f)
  | .inr q => .inr (q.1, gx (fun j d => gs_v E f g j d) 0 q.2)
theorem gc2_eq (E : gs_E) (f : Nat → Int32) (g : Int64) (sh : gs_S) : gs_c E f g sh = gc2 E f g sh := by
  obtain q | q := sh
  · rfl
  · show (Sum.inr (q.1, _) : va_E) = Sum.inr (q.1, _)
    rw [gx_map]
theorem gs_w2 (E : gs_E) (σ : gs_H) (g : Int64) : gs_w E σ g = gx (fun k sh => (gs_a E k, gc2 E (σ k) g sh)) 0 gs_L := by
  rw [gs_w, gx_map]
  congr 1
  funext k sh
  rw [gc2_eq]
set_option maxRecDepth 40000 in
set_option maxHeartbeats 8000000 in
theorem gs_wl (cI cZ : ClassId) (D : va_G) (f f' : Nat → Nat) (a b : Nat) : gl_X8 cI cZ f ++ gl_X9 cI cZ f' = gs_w (cI, cZ, (fun k => if k < 57 then f k else f' (k - 57)), D, a, b) gs_0 0 := by
  rw [gs_w2]
  rfl
section GZ
variable {cI cZ : ClassId} {D : va_G} {A : Nat → Prop} {own : String} {cc : ByteArray} {nL : Nat} {p : Program} {l : Launch} {e : Env} {R : Room} {s : State} {m : MethodId} {args : Array Value} {below : List Frame} {meth : Method} {c : Code} {Q : State → Prop} {cells slots pc : Nat} {lv : List (Nat × Value)} {st : List Value} {ws : va_W}
theorem n_astore (C : gn_X cI cZ D A own cc nL p s m args meth c) {k : Fin 4} {i : Nat} {x : Nat} {lv1 lv2 : List (Nat × Value)} (d : decode cc pc = .ok (.astore_n k, 1)) (hi : (k : Nat) = i) (hn : i < nL) (h1 : (i, Value.ref x) :: lv.filter (fun q => !(q.1 == i) && !(q.1 + 1 == i && q.2.category == 2)) = lv1) (ks : List Nat) (h2 : lv_pick lv1 ks = lv2) (kk : gn_W D A nL p l e R s m args below meth c Q cells slots (pc + 1) lv2 st ws) : gn_W D A nL p l e R s m args below meth c Q cells slots pc lv (.ref x :: st) ws :=
  fun H locs ls hP hD hS hL => lv_astore_n C.1 C.2.1 d hi hL hn h1 (fun ls2 hL2 => kk H locs ls2 hP hD hS (lv_sub hL2 ks h2))
theorem n_istore (C : gn_X cI cZ D A own cc nL p s m args meth c) {k : Fin 4} {i : Nat} {x : Int32} {lv1 lv2 : List (Nat × Value)} (d : decode cc pc = .ok (.istore_n k, 1)) (hi : (k : Nat) = i) (hn : i < nL) (h1 : (i, Value.int x) :: lv.filter (fun q => !(q.1 == i) && !(q.1 + 1 == i && q.2.category == 2)) = lv1) (ks : List Nat) (h2 : lv_pick lv1 ks = lv2) (kk : gn_W D A nL p l e R s m args below meth c Q cells slots (pc + 1) lv2 st ws) : gn_W D A nL p l e R s m args below meth c Q cells slots pc lv (.int x :: st) ws :=
  fun H locs ls hP hD hS hL => lv_istore_n C.1 C.2.1 d hi hL hn h1 (fun ls2 hL2 => kk H locs ls2 hP hD hS (lv_sub hL2 ks h2))
end GZ
theorem gn_arr {s : State} {args : Array Value} {ty : FieldType} (hp : ∀ C, ty ≠ .object C) (h : (Cond.arrayClass ty).before args s = true) : ∃ cA : ClassId, ArrOfT s cA ty ∧ va_RA s cA ty := by
  obtain ⟨cA, kA, comp, h1, h2, h3⟩ := Cond.arrayClass_spec h
  refine ⟨cA, fun n z => ⟨fun k h => (by cases h), kA, h2, comp, h3⟩, ?_⟩
  cases ty with
  | object C => exact absurd rfl (hp C)
  | _ => exact h1
set_option maxHeartbeats 8000000 in
set_option maxRecDepth 40000 in
theorem whole_start {p : Program} {e : Env} {s : State} {m : MethodId} {below : List Frame} {meth : Method} {c : Code} (l : Launch) (hflags : l.flags = flags0) {b L : Nat} {xs : Nat → Int32} (hL : L ≤ 2560) (C0 : lw_At p s m meth c b L xs) : W p l e room_1 s m #[Value.ref b] below meth c s.heap [] 0 0 (lw_Z below #[Value.ref b] s) (entryFrame m ([Value.ref b] : List Value).toArray 4) := by
  obtain ⟨hx, hb, hr, hml, hown, hts, hX, hbl, hlocks, hgv⟩ := C0
  have hB : ∀ w ∈ gs_B, w.before #[Value.ref b] s = true := fun w h => hts w (gs_Bin w h)
  obtain ⟨c0, iS0, hKn0⟩ := u_known (C := RX0) (T := TX0) (N := 5) (n := 5) hB inX0 (hB _ kA_X0)
  obtain ⟨c1, iS1, hKn1⟩ := u_known (C := RX2) (T := TX2) (N := 11) (n := 11) hB inX2 (hB _ kA_X2)
  obtain ⟨c2, iS2, hKn2⟩ := u_known (C := RX3) (T := TX3) (N := 11) (n := 11) hB inX3 (hB _ kA_X3)
  obtain ⟨c3, iS3, hKn3⟩ := u_known (C := RX4) (T := TX4) (N := 2) (n := 2) hB inX4 (hB _ kA_X4)
  obtain ⟨c4, iS4, hKn4⟩ := u_known (C := RX5) (T := TX5) (N := 10) (n := 10) hB inX5 (hB _ kA_X5)
  obtain ⟨c5, iS5, hKn5⟩ := u_known (C := RX6) (T := TX6) (N := 4) (n := 4) hB inX6 (hB _ kA_X6)
  obtain ⟨c6, iS6, hKn6⟩ := u_known (C := RX7) (T := TX7) (N := 5) (n := 5) hB inX7 (hB _ kA_X7)
  obtain ⟨c7, iS7, hKn7⟩ := u_known (C := RX8) (T := TX8) (N := 10) (n := 10) hB inX8 (hB _ kA_X8)
  obtain ⟨c8, iS8, hKn8⟩ := u_known (C := RX9) (T := TX9) (N := 35) (n := 35) hB inX9 (hB _ kA_X9)
  obtain ⟨dC, dI, hKc⟩ : ∃ (dC : Nat → ClassId) (dI : Nat → Nat → Nat), ∀ (k : Nat) (q : vw_C), vwCl[k]? = some q → u_Kn s q.1 q.2.1 q.2.2 (dC k) (dI k) := by
    refine ⟨fun k => match k with | 0 => c0 | 1 => c1 | 2 => c2 | 3 => c3 | 4 => c4 | 5 => c5 | 6 => c6 | 7 => c7 | 8 => c8 | _ => c0, fun k => match k with | 0 => iS0 | 1 => iS1 | 2 => iS2 | 3 => iS3 | 4 => iS4 | 5 => iS5 | 6 => iS6 | 7 => iS7 | 8 => iS8 | _ => iS0, ?_⟩
    intro k q hq
    match k, hq with
    | 0, hq => cases hq; exact hKn0
    | 1, hq => cases hq; exact hKn1
    | 2, hq => cases hq; exact hKn2
    | 3, hq => cases hq; exact hKn3
    | 4, hq => cases hq; exact hKn4
    | 5, hq => cases hq; exact hKn5
    | 6, hq => cases hq; exact hKn6
    | 7, hq => cases hq; exact hKn7
    | 8, hq => cases hq; exact hKn8
    | k + 9, hq => simp [vwCl] at hq
  obtain ⟨cI, hI1, hI2⟩ := gn_arr (ty := .int) (fun C h => by cases h) (hB _ kR_int)
  obtain ⟨cZ, hZ1, hZ2⟩ := gn_arr (ty := .boolean) (fun C h => by cases h) (hB _ kR_boolean)
  have hK : va_K (dC, dI) vwCl (gn_t cI cZ) s := ⟨hKc, fun k q hk => by
    match k, hk with
    | 0, hk => cases hk; exact ⟨hI1, hI2⟩
    | 1, hk => cases hk; exact ⟨hZ1, hZ2⟩
    | k + 2, hk => simp at hk⟩
  have hN : gn_N s := ⟨va_Nw.of rfl (hts (.methodLinkNest RX8 11 yX4_init "HungMobile") (List.mem_of_getElem? (i := 91) (by decide +kernel))), va_Nw.of rfl (hts (.methodLinkNest RX8 18 yX5_init "HungMobile") (List.mem_of_getElem? (i := 108) (by decide +kernel))), va_Nw.of rfl (hts (.methodLinkNest RX8 25 yX3_init "HungMobile") (List.mem_of_getElem? (i := 152) (by decide +kernel))), va_Nw.of rfl (hts (.methodLinkNest RX3 36 yX7_init "HungMobile") (List.mem_of_getElem? (i := 158) (by decide +kernel))), va_Nw.of rfl (hts (.methodLinkNest RX8 35 yX6_init "HungMobile") (List.mem_of_getElem? (i := 247) (by decide +kernel))), va_Nw.of rfl (hts (.methodLinkNest RX8 42 yX2_init "HungMobile") (List.mem_of_getElem? (i := 270) (by decide +kernel))), va_Nw.of rfl (hts (.methodLinkNest RX2 17 yX6_init "HungMobile") (List.mem_of_getElem? (i := 275) (by decide +kernel))), va_Nw.of rfl (hts (.methodLinkNest RX8 49 yX0_init "HungMobile") (List.mem_of_getElem? (i := 317) (by decide +kernel))), va_Nw.of rfl (hts (.methodLinkNest RX0 11 yX6_init "HungMobile") (List.mem_of_getElem? (i := 322) (by decide +kernel)))⟩
  have hg := flat_of_before _ hgv
  have hl := lv_entry [.ref b] (n := 4) (Nat.le_of_ble_eq_true rfl)
  rw [lg_entry_eq]
  have key : gn_W (dC, dI) (fun q : Nat => s.heap.size ≤ q) 4 p l e room_1 s m #[Value.ref b] below meth c (lw_Z below #[Value.ref b] s) 0 0 0 [(0, .ref b)] [] [] := by
    have C : gn_X cI cZ (dC, dI) (fun q : Nat => s.heap.size ≤ q) RL cL_law 4 p s m #[Value.ref b] meth c := ⟨hx, hb, hml, hown, hB, hK, hN, hlocks, fun _ h => h⟩
    refine n_new C (ci := 7) rfl inX8 tyX8 tyX8_ok (fs := [.null, .null, .null, .null, .null, .null, .null, .int 0, .int 0, .int 0]) (fun j hj => by rcases (show j = 0 ∨ j = 1 ∨ j = 2 ∨ j = 3 ∨ j = 4 ∨ j = 5 ∨ j = 6 ∨ j = 7 ∨ j = 8 ∨ j = 9 by omega) with rfl | rfl | rfl | rfl | rfl | rfl | rfl | rfl | rfl | rfl <;> rfl) kL_L_7 kA_X8 kN_X8 (Nat.le_of_ble_eq_true rfl) (Nat.le_of_ble_eq_true rfl) dL_law_0 (fun q1 => ?_)
    refine n_dup C dL_law_3 rfl ?_
    refine n_callO C (m_X8_init) [0] [] (wr := []) rfl rfl (by decide) (by decide) kM_L_9 kI_X8_init kN_X8 kC_X8_init rfl kD_X8_init ⟨Nat.le_of_ble_eq_true rfl, Nat.le_of_ble_eq_true rfl⟩ ⟨Nat.le_of_ble_eq_true rfl, Nat.le_of_ble_eq_true rfl⟩ (Nat.le_of_ble_eq_true rfl) dL_law_4 (wj := (fun f1 => gl_X8 cI cZ f1)) (fun _ => rfl) (fun f1 hf1 => ?_)
    subst hf1
    refine n_astore C dL_law_7 rfl (lv2 := [(0, .ref b), (1, .ref (f1 0))]) (by decide) rfl [1, 0] rfl ?_
    refine n_new C (ci := 8) rfl inX9 tyX9 tyX9_ok (fs := [.null, .int 0, .int 0, .int 0, .int 0, .int 0, .int 0, .int 0, .int 0, .int 0, .null, .null, .null, .null, .null, .null, .null, .int 0, .null, .null, .int 0, .int 0, .null, .int 0, .int 0, .int 0, .int 0, .int 0, .int 0, .null, .null, .null, .null, .null, .long 0]) (fun j hj => by rcases (show j = 0 ∨ j = 1 ∨ j = 2 ∨ j = 3 ∨ j = 4 ∨ j = 5 ∨ j = 6 ∨ j = 7 ∨ j = 8 ∨ j = 9 ∨ j = 10 ∨ j = 11 ∨ j = 12 ∨ j = 13 ∨ j = 14 ∨ j = 15 ∨ j = 16 ∨ j = 17 ∨ j = 18 ∨ j = 19 ∨ j = 20 ∨ j = 21 ∨ j = 22 ∨ j = 23 ∨ j = 24 ∨ j = 25 ∨ j = 26 ∨ j = 27 ∨ j = 28 ∨ j = 29 ∨ j = 30 ∨ j = 31 ∨ j = 32 ∨ j = 33 ∨ j = 34 by omega) with rfl | rfl | rfl | rfl | rfl | rfl | rfl | rfl | rfl | rfl | rfl | rfl | rfl | rfl | rfl | rfl | rfl | rfl | rfl | rfl | rfl | rfl | rfl | rfl | rfl | rfl | rfl | rfl | rfl | rfl | rfl | rfl | rfl | rfl | rfl <;> rfl) kL_L_10 kA_X9 kN_X9 (Nat.le_of_ble_eq_true rfl) (Nat.le_of_ble_eq_true rfl) dL_law_8 (fun q2 => ?_)
    refine n_dup C dL_law_11 rfl ?_
    refine n_callO C (m_X9_init) [57] [0, 1, 2, 3, 4, 5, 6, 7, 8, 9, 10, 11, 12, 13, 14, 15, 16, 17, 18, 19, 20, 21, 22, 23, 24, 25, 26, 27, 28, 29, 30, 31, 32, 33, 34, 35, 36, 37, 38, 39, 40, 41, 42, 43, 44, 45, 46, 47, 48, 49, 50, 51, 52, 53, 54, 55, 56] (wr := gl_X8 cI cZ f1) rfl rfl (by decide) (by decide) kM_L_12 kI_X9_init kN_X9 kC_X9_init rfl kD_X9_init ⟨Nat.le_of_ble_eq_true rfl, Nat.le_of_ble_eq_true rfl⟩ ⟨Nat.le_of_ble_eq_true rfl, Nat.le_of_ble_eq_true rfl⟩ (Nat.le_of_ble_eq_true rfl) dL_law_12 (wj := (fun f2 => gl_X8 cI cZ f1 ++ gl_X9 cI cZ f2)) (fun _ => rfl) (fun f2 hf2 => ?_)
    subst hf2
    refine n_astore C dL_law_15 rfl (lv2 := [(0, .ref b), (1, .ref (f1 0)), (2, .ref (f2 0))]) (by decide) rfl [1, 2, 0] rfl ?_
    refine n_iconst C dL_law_16 (v := 0) (by decide) ?_
    refine n_istore C dL_law_17 rfl (lv2 := [(0, .ref b), (1, .ref (f1 0)), (2, .ref (f2 0)), (3, .int 0)]) (by decide) rfl [1, 2, 3, 0] rfl ?_
    intro H locs ls hP hD hS hl
    have hneA : ∀ a : Nat, a < s.heap.size → ¬ (∃ k, k < 74 ∧ a = (if k < 57 then f1 k else f2 (k - 57))) := by
      rintro a ha ⟨k, hk, rfl⟩
      have e := gs_wl cI cZ (dC, dI) f1 f2 0 0
      rw [e] at hD
      obtain ⟨sh, hs⟩ : ∃ sh, gs_L[k]? = some sh := ⟨_, List.getElem?_eq_getElem (by rw [gs_Ln]; exact hk)⟩
      have := hD.2 k _ (gs_at hs)
      exact absurd ha (Nat.not_lt.mpr this)
    obtain ⟨adK, adV, hvS, hvE⟩ := vk_Sof (args := #[Value.ref b]) (s := s) (N := 1) (tm := (fun _ => Term.string RX5 92)) (len := [5]) (byt := [[98, 108, 102, 111, 100]]) (A := fun a => ∃ k, k < 74 ∧ a = (if k < 57 then f1 k else f2 (k - 57))) (fun i hi => by obtain rfl : i = 0 := (by omega); decide) (fun i hi => hg _ (by decide +kernel)) (fun i hi => hg _ (by decide +kernel)) (fun i hi => hg _ (by decide +kernel)) (fun i hi => by
      have e : i = 0 := by omega
      subst e
      exact hg _ (by decide +kernel)) (fun i hi j hj => by
      have e : i = 0 := by omega
      subst e
      have hj5 : j < 5 := hj
      rcases (show j = 0 ∨ j = 1 ∨ j = 2 ∨ j = 3 ∨ j = 4 by omega) with rfl | rfl | rfl | rfl | rfl <;> exact hg _ (by decide +kernel)) (fun i j hi hj hn => by omega) hneA
    generalize hE : ((cI, cZ, (fun k => if k < 57 then f1 k else f2 (k - 57)), (dC, dI), adK 0, adV 0) : gs_E) = E
    have e := gs_wl cI cZ (dC, dI) f1 f2 (adK 0) (adV 0)
    rw [hE] at e
    rw [e] at hP hD
    have hED : E.2.2.2.1 = (dC, dI) := by rw [← hE]
    have hJ : gs_J E := by
      intro i j hi hj hij
      obtain ⟨s1, h1⟩ : ∃ sh, gs_L[i]? = some sh := ⟨_, List.getElem?_eq_getElem (by rw [gs_Ln]; exact hi)⟩
      obtain ⟨s2, h2⟩ : ∃ sh, gs_L[j]? = some sh := ⟨_, List.getElem?_eq_getElem (by rw [gs_Ln]; exact hj)⟩
      exact hD.1 i j _ _ (gs_at h1) (gs_at h2) hij
    have hA : ∀ q, gs_A E q → s.heap.size ≤ q := by
      rintro q ⟨k, hk, rfl⟩
      obtain ⟨sh, hs⟩ : ∃ sh, gs_L[k]? = some sh := ⟨_, List.getElem?_eq_getElem (by rw [gs_Ln]; exact hk)⟩
      exact hD.2 k _ (gs_at hs)
    have hY : gs_Y E s := by
      subst hE
      refine ⟨hK, vk_R.of (A := #[Value.ref b]) (hts (.stringRef RX5 92 "blfod") (List.mem_of_getElem? (i := 424) (by decide +kernel))) (hvE 0 (by decide)), ?_, va_Nw.of rfl (hts (.methodLinkNest RX0 54 yX8_swapThings "HungMobile") (List.mem_of_getElem? (i := 797) (by decide +kernel))), va_Nw.of rfl (hts (.methodLinkNest RX2 56 yX8_swapThings "HungMobile") (List.mem_of_getElem? (i := 690) (by decide +kernel))), va_Zof (hts (.laysStatic "java/lang/String" "COMPACT_STRINGS" "Z") (List.mem_of_getElem? (i := 438) (by decide +kernel))) (hB _ kN_J0) (va_eqi (hg _ (by decide +kernel))) hneA⟩
      exact ⟨fun i hi => by
        have e : i = 0 := by omega
        subst e
        exact hvS.1 0 (by decide), fun i j hi hj _ => by omega⟩
    have C2 : gs_X E RL cL_law 4 p s m #[Value.ref b] meth c := ⟨hx, hb, hml, hown, hB, hY, hlocks, hJ⟩
    have h57 : gs_a E 57 = f2 0 := by rw [← hE]; rfl
    have h0 : gs_a E 0 = f1 0 := by rw [← hE]; rfl
    refine va_forget (fun q hq => hS.2.2 q hq) ?_
    refine W.widen (k := 74) (n := 636) (Nat.le_of_ble_eq_true rfl) (Nat.le_of_ble_eq_true rfl) ?_
    refine law_loop C2 hX hbl (fun h => absurd hbl (Nat.not_lt.mpr (hA _ h))) hL hr hA (L + 6) 0 gs_0 0 (by omega) (by omega) Inv_0 H [] ls (by rw [hED]; exact hP) ⟨hS.1, fun q h1 h2 => hS.2.1 q h1 (fun h => absurd h1 (Nat.not_lt.mpr h)), fun _ h => by cases h⟩ ?_
    rw [h57, h0]
    exact hl
  exact key s.heap [] _ (fun k q h => by simp at h) ⟨fun i j p q h => by simp at h, fun k q h => by simp at h⟩ va_S.rf hl

set_option maxHeartbeats 4000000 in
theorem lw_walk (l : Launch) (hflags : l.flags = flags0) (b : Addr) (xs : List Int32) : MetFree l x (headSpec (Jvm.Cond.code x code maxLocals ret :: tables_1) room_1) (lw_P b xs) (fun _ _ _ _ _ => True) lw_Q := by
  refine MetFree.of_bodyS (code := code) (maxLocals := maxLocals) (ret := ret) (by decide) ?_ ?_
  · intro args s m h hn
    obtain ⟨meth, c, h1, h2, h3, h4, h5, h6, -, -⟩ := Cond.code_spec hn (atoms_spec (ws := Jvm.Cond.code x code maxLocals ret :: tables_1) h _ List.mem_cons_self)
    exact ⟨meth, c, h1, h2, h3, h4, h5, h6⟩
  · intro p e s m args below meth c s₁ B hml0 hP _
    obtain ⟨rfl, hx, hbd, hgv⟩ := hP
    obtain ⟨scr, harrAt, hlist, hof, hsmall⟩ := hx
    obtain ⟨hcb, hkn, -, -⟩ := State.arrayAt?_spec harrAt
    have hown : s.vm.findClass R_law = some m.cls := findClass_of_methodNamed B.named
    have hts0 : ∀ c ∈ (Jvm.Cond.code x code maxLocals ret :: tables_1), c.before #[Value.ref b] s = true := atoms_spec (ws := Jvm.Cond.code x code maxLocals ret :: tables_1) B.pre
    have hts : ∀ w ∈ lw_tbl, w.before #[Value.ref b] s = true := k2_hts_sels lw_privs (fun w hw => hts0 w (List.mem_cons_of_mem _ hw)) lw_privs_ok
    have hml : c.maxLocals = 4 := B.maxLocals_eq (hts0 _ List.mem_cons_self)
    have X₀ : Stand p l e room_1 s m #[Value.ref b] below meth c s₁ [] 0 0 := Stand.of_body B
    have hh0 : s₁.heap = s.heap := by rw [B.state]; rfl
    have hsz : scr.slots.size = xs.length := by rw [← Array.length_toList, hlist, List.length_map]
    have hval : ∀ j : Nat, j < xs.length → scr.slots[j]? = some (.int (xs.getD j 0)) := fun j hj => by
      rw [← Array.getElem?_toList, hlist]
      simp [hj]
    have hbl : b < s.heap.size := (Array.getElem?_eq_some_iff.mp hcb).1
    have hX : va_X b xs.length (fun j => xs.getD j 0) s s.heap := ⟨scr, hcb, hof, hkn, hsz, hval⟩
    have K : W p l e room_1 s m #[Value.ref b] below meth c s₁.heap [] 0 0 (lw_Z below #[Value.ref b] s) (entryFrame m ([Value.ref b] : List Value).toArray 4) := by
      rw [hh0]
      exact whole_start l hflags hbd ⟨B.exec, B.bytes, B.returns, hml, hown, hts, hX, hbl, B.notSynchronized, hgv⟩
    obtain ⟨t, a1, o, b1, b2, b3⟩ := K s₁ rfl X₀
    exact ⟨t, o, a1, b1, b2, b3⟩
theorem lw_pre_spec {args : Array Value} {s : State} (h : (Jvm.Cond.and given_1 narrow_1).before args s = true) (hr : rest_1_c.before args s = true) : ∃ (b : Addr) (xs : List Int32), lw_P b xs args s := by
  have hs := flat_of_before _ h
  have hq := flat_of_before _ hr
  have hc : (Cond.count 1).before args s = true := hs _ (by decide +kernel)
  have harr : (Cond.arrayOf (.arg 0) .int).before args s = true := hs _ (by decide +kernel)
  have hle : (Cond.le (.length (.arg 0)) (.int 2560)).before args s = true := hs _ (by decide +kernel)
  have hlen : (Cond.isInt (.length (.arg 0))).before args s = true := hq _ (by decide +kernel)
  have hall : (Cond.all (.arg 0) (.isInt (.elem (.arg 0) (.index 0)))).before args s = true := hq _ (by decide +kernel)
  obtain ⟨b, xs, hb, hx⟩ := State.ints_of_pre rfl harr hlen hall
  have hsm : xs.length < 2 ^ 31 := hx.choose_spec.2.2.2
  have hev : (Term.length (.arg 0)).eval args s none [] s = some (.int xs.length.toInt32) := hx.length_eval hb
  have hv := Cond.le_ints hev (show (Term.int 2560).eval args s none [] s = some (.int 2560) from rfl)
  have hd : xs.length.toInt32 ≤ 2560 := by
    simpa [Cond.before, Cond.holds, hv] using hle
  have hN : xs.length ≤ 2560 := (Int32.ofNat_le_ofNat hsm (by decide)).mp (show Int32.ofNat xs.length ≤ Int32.ofNat 2560 from hd)
  exact ⟨b, xs, Cond.one_arg hc (show args[0]? = some (.ref b) from hb), hx, hN, h⟩
theorem lw_comes (l : Launch) (hflags : l.flags = flags0) : Comes l x (Jvm.Cond.code x code maxLocals ret :: tables_1) room_1 (fun tb e args s => Calls_1 tb e args s ∧ rest_1 tb e args s ∧ Pre_1 tb e args s)
    (fun _ _ args s o t => lw_Q args s o t) := by
  intro p e ha hc hk s m args below hf hfit hheap happ hpre
  obtain ⟨b, xs, hP⟩ := lw_pre_spec hpre.2.2 hpre.2.1
  obtain ⟨k, o, h1, h2, h3, hQ⟩ := lw_walk l hflags b xs p e ha hc hk s m args below hf ((Spec.applies_iff_loose hf).mp happ).1 hP trivial
  exact ⟨k, o, h1, h2, h3, hQ⟩
theorem lw_frame {s t : State} {o : Outcome} {args : Array Value} (h : Framed s o t [] 74 636) :
    Framed s o t (fieldLocs frame_1_writes args s ++ arrayLocs frame_1_arrays args s ++ staticLocs frame_1_statics s) 74 636 := h
theorem lw_limb (L : Cond) (hL : ∀ (args : Array Value) (s t : State), L.after args s (.returned (some (.int 1))) t = true) :
    ArmFor flags0 classFile x code maxLocals ret World_1 tables_1 room_1 Calls_1 rest_1 Pre_1
      (fun tb e a s o t => postC L tb e a s o t ∧ Framed s o t (fieldLocs frame_1_writes a s ++ arrayLocs frame_1_arrays a s ++ staticLocs frame_1_statics s) 74 636) := by
  intro l hflags _ _ p e ha hc hk s m args below hf hfit hheap happ hpre
  obtain ⟨k, o, h1, h2, h3, rfl, hF⟩ := lw_comes l hflags p e ha hc hk s m args below hf hfit hheap happ hpre
  exact ⟨k, _, h1, h2, h3, hL args s _, lw_frame hF⟩
theorem i_vc : Claimed_1_1 ∧ Claimed_1_2 := ⟨lw_limb limb_1_1 (fun args s t => by simp [limb_1_1, Cond.after, Cond.holds, Cond.value]), lw_limb limb_1_2 (fun args s t => Cond.after_iff.mpr (by
  first | (rw [show limb_1_2 = Cond.eq .result (.int 1) from rfl, Cond.eq_ints (x := 1) (y := 1) rfl rfl]; simp; done) | (simp [limb_1_2, Cond.value, Term.eval]; done)))⟩
