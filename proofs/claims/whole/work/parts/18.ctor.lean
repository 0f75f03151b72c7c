/-! CONSTRUCTORS: worlds that grow -/
theorem kI_obj : Cond.instanceMethod objectInit ∈ gs_B := gs_in (i := 87) (by decide +kernel) (by decide +kernel)
theorem kC_obj : Cond.code objectInit ⟨#[0xb1]⟩ 1 none ∈ gs_B := gs_in (i := 88) (by decide +kernel) (by decide +kernel)
theorem kL_L_7 : Cond.classLink RL 7 RX8 ∈ gs_B := gs_in (i := 81) (by decide +kernel) (by decide +kernel)
theorem kA_X8 : Cond.instantiable RX8 10 ∈ gs_B := gs_in (i := 82) (by decide +kernel) (by decide +kernel)
theorem kM_X8_3o : Cond.methodLink RX8 3 objectInit ∈ gs_B := gs_in (i := 86) (by decide +kernel) (by decide +kernel)
theorem kL_X8_9 : Cond.classLink RX8 9 RX4 ∈ gs_B := gs_in (i := 89) (by decide +kernel) (by decide +kernel)
theorem kA_X4 : Cond.instantiable RX4 2 ∈ gs_B := gs_in (i := 90) (by decide +kernel) (by decide +kernel)
theorem kM_X4_3o : Cond.methodLink RX4 3 objectInit ∈ gs_B := gs_in (i := 94) (by decide +kernel) (by decide +kernel)
theorem kL_X8_16 : Cond.classLink RX8 16 RX5 ∈ gs_B := gs_in (i := 106) (by decide +kernel) (by decide +kernel)
theorem kA_X5 : Cond.instantiable RX5 10 ∈ gs_B := gs_in (i := 107) (by decide +kernel) (by decide +kernel)
theorem kM_X5_3o : Cond.methodLink RX5 3 objectInit ∈ gs_B := gs_in (i := 111) (by decide +kernel) (by decide +kernel)
theorem kL_X8_23 : Cond.classLink RX8 23 RX3 ∈ gs_B := gs_in (i := 150) (by decide +kernel) (by decide +kernel)
theorem kA_X3 : Cond.instantiable RX3 11 ∈ gs_B := gs_in (i := 151) (by decide +kernel) (by decide +kernel)
theorem kM_X3_3o : Cond.methodLink RX3 3 objectInit ∈ gs_B := gs_in (i := 155) (by decide +kernel) (by decide +kernel)
theorem kL_X3_34 : Cond.classLink RX3 34 RX7 ∈ gs_B := gs_in (i := 156) (by decide +kernel) (by decide +kernel)
theorem kA_X7 : Cond.instantiable RX7 5 ∈ gs_B := gs_in (i := 157) (by decide +kernel) (by decide +kernel)
theorem kM_X7_3o : Cond.methodLink RX7 3 objectInit ∈ gs_B := gs_in (i := 161) (by decide +kernel) (by decide +kernel)
theorem kL_X8_33 : Cond.classLink RX8 33 RX6 ∈ gs_B := gs_in (i := 245) (by decide +kernel) (by decide +kernel)
theorem kA_X6 : Cond.instantiable RX6 4 ∈ gs_B := gs_in (i := 246) (by decide +kernel) (by decide +kernel)
theorem kM_X6_3o : Cond.methodLink RX6 3 objectInit ∈ gs_B := gs_in (i := 250) (by decide +kernel) (by decide +kernel)
theorem kL_X8_40 : Cond.classLink RX8 40 RX2 ∈ gs_B := gs_in (i := 268) (by decide +kernel) (by decide +kernel)
theorem kA_X2 : Cond.instantiable RX2 11 ∈ gs_B := gs_in (i := 269) (by decide +kernel) (by decide +kernel)
theorem kM_X2_3o : Cond.methodLink RX2 3 objectInit ∈ gs_B := gs_in (i := 273) (by decide +kernel) (by decide +kernel)
theorem kL_X2_15 : Cond.classLink RX2 15 RX6 ∈ gs_B := gs_in (i := 274) (by decide +kernel) (by decide +kernel)
theorem kL_X8_47 : Cond.classLink RX8 47 RX0 ∈ gs_B := gs_in (i := 315) (by decide +kernel) (by decide +kernel)
theorem kA_X0 : Cond.instantiable RX0 5 ∈ gs_B := gs_in (i := 316) (by decide +kernel) (by decide +kernel)
theorem kM_X0_3o : Cond.methodLink RX0 3 objectInit ∈ gs_B := gs_in (i := 320) (by decide +kernel) (by decide +kernel)
theorem kL_X0_9 : Cond.classLink RX0 9 RX6 ∈ gs_B := gs_in (i := 321) (by decide +kernel) (by decide +kernel)
theorem kL_L_10 : Cond.classLink RL 10 RX9 ∈ gs_B := gs_in (i := 837) (by decide +kernel) (by decide +kernel)
theorem kA_X9 : Cond.instantiable RX9 35 ∈ gs_B := gs_in (i := 838) (by decide +kernel) (by decide +kernel)
theorem kM_X9_1o : Cond.methodLink RX9 1 objectInit ∈ gs_B := gs_in (i := 842) (by decide +kernel) (by decide +kernel)
theorem kR_int : Cond.arrayClass .int ∈ gs_B := gs_in (i := 105) (by decide +kernel) (by decide +kernel)
theorem kR_boolean : Cond.arrayClass .boolean ∈ gs_B := gs_in (i := 149) (by decide +kernel) (by decide +kernel)
/-- the nest's links to constructors -/
def gn_N (U : State) : Prop := va_Nw (.methodLinkNest RX8 11 yX4_init "HungMobile") U ∧ va_Nw (.methodLinkNest RX8 18 yX5_init "HungMobile") U ∧ va_Nw (.methodLinkNest RX8 25 yX3_init "HungMobile") U ∧ va_Nw (.methodLinkNest RX3 36 yX7_init "HungMobile") U ∧ va_Nw (.methodLinkNest RX8 35 yX6_init "HungMobile") U ∧ va_Nw (.methodLinkNest RX8 42 yX2_init "HungMobile") U ∧ va_Nw (.methodLinkNest RX2 17 yX6_init "HungMobile") U ∧ va_Nw (.methodLinkNest RX8 49 yX0_init "HungMobile") U ∧ va_Nw (.methodLinkNest RX0 11 yX6_init "HungMobile") U
theorem gn_N.go {s U : State} (h : gn_N s) (hW : s.WarmedH U.vm) : gn_N U := by
  obtain ⟨h0, h1, h2, h3, h4, h5, h6, h7, h8⟩ := h
  exact ⟨h0.warmM hW, h1.warmM hW, h2.warmM hW, h3.warmM hW, h4.warmM hW, h5.warmM hW, h6.warmM hW, h7.warmM hW, h8.warmM hW⟩
theorem gn_N.calling {U : State} (h : gn_N U) (g : JFrame) (mk : MethodId) (a : Array Value) : gn_N (U.calling g mk a) := by
  obtain ⟨h0, h1, h2, h3, h4, h5, h6, h7, h8⟩ := h
  exact ⟨va_Nw.same rfl (u := U) (U := U.calling g mk a) rfl h0, va_Nw.same rfl (u := U) (U := U.calling g mk a) rfl h1, va_Nw.same rfl (u := U) (U := U.calling g mk a) rfl h2, va_Nw.same rfl (u := U) (U := U.calling g mk a) rfl h3, va_Nw.same rfl (u := U) (U := U.calling g mk a) rfl h4, va_Nw.same rfl (u := U) (U := U.calling g mk a) rfl h5, va_Nw.same rfl (u := U) (U := U.calling g mk a) rfl h6, va_Nw.same rfl (u := U) (U := U.calling g mk a) rfl h7, va_Nw.same rfl (u := U) (U := U.calling g mk a) rfl h8⟩
/-- the ints of a new system -/
def gs_0 : gs_H := fun k j => if k = 57 ∧ j = 24 then -1 else 0
/-- a new object's cells, at the addresses f 0, f 1, .. -/
abbrev gn_T : Type := ClassId → ClassId → (Nat → Nat) → va_W
abbrev gn_t (cI cZ : ClassId) : List (ClassId × FieldType) := [(cI, .int), (cZ, .boolean)]
def gn_X (cI cZ : ClassId) (D : va_G) (A : Nat → Prop) (own : String) (cc : ByteArray) (nL : Nat) (p : Program) (s : State) (m : MethodId) (args : Array Value) (meth : Method) (c : Code) : Prop :=
  p.tables.exec = Jvm.exec ∧ c.code = cc ∧ c.maxLocals = nL ∧ s.vm.findClass own = some m.cls ∧ (∀ w ∈ gs_B, w.before args s = true) ∧ va_K D vwCl (gn_t cI cZ) s ∧ gn_N s ∧ meth.locks = false ∧ (∀ q, s.heap.size ≤ q → A q)
def gn_W (D : va_G) (A : Nat → Prop) (nL : Nat) (p : Program) (l : Launch) (e : Env) (R : Room) (s : State) (m : MethodId) (args : Array Value) (below : List Frame) (meth : Method) (c : Code) (Q : State → Prop) (cells slots pc : Nat) (lv : List (Nat × Value)) (st : List Value) (ws : va_W) : Prop :=
  ∀ (H : Heap) (locs : List Loc) (ls : Array Slot), va_P D vwCl ws H → va_D A ws → va_S A s.heap H locs → lv_has ls nL lv → W p l e R s m args below meth c H locs cells slots Q (F0 m pc ls st)
def gn_Pc (cI cZ : ClassId) (D : va_G) (ci : Nat) (fs : List Value) (h0 sz : Nat) : Array Value → State → Prop := va_Pc [.ref h0] (fun U => U.heap.size = sz ∧ va_P D vwCl [(h0, .inr (ci, fs))] U.heap ∧ va_K D vwCl (gn_t cI cZ) U ∧ gn_N U)
def gn_Q (cI cZ : ClassId) (D : va_G) (wl : gn_T) (A : Nat → Prop) (h0 : Nat) : Array Value → State → Outcome → State → Prop := fun _ st oc t => (∃ f : Nat → Nat, oc = .returned none ∧ f 0 = h0 ∧ va_P D vwCl (wl cI cZ f) t.heap ∧ va_D A (wl cI cZ f)) ∧ va_F A st t
def gn_rm (fr lo ce sl : Nat) : Room := { frames := fr, cells := ce, slots := sl, locals := lo }
/-- a constructor's contract: the cell h0, of class ci, with fields fs; it comes to be the cells from b on, n of them -/
def gn_M (l : Launch) (y : MethodName) (bc : ByteArray) (fr lo ce sl ci : Nat) (wl : gn_T) (fs : List Value) : Prop :=
  ∀ (cI cZ : ClassId) (D : va_G) (h0 sz : Nat), Met l y (.code y bc 1 none :: gs_B) (gn_rm fr lo ce sl) (gn_Pc cI cZ D ci fs h0 sz) (gn_Q cI cZ D wl (va_A [(h0, .inr (ci, fs))] sz) h0) ce sl (va_A [(h0, .inr (ci, fs))] sz)
section GN
variable {cI cZ : ClassId} {D : va_G} {A : Nat → Prop} {own : String} {cc : ByteArray} {nL : Nat} {p : Program} {l : Launch} {e : Env} {R : Room} {s : State} {m : MethodId} {args : Array Value} {below : List Frame} {meth : Method} {c : Code} {Q : State → Prop} {cells slots pc : Nat} {lv : List (Nat × Value)} {st : List Value} {ws : va_W}
theorem n_enter {y : MethodName} {fr lo ce sl ci : Nat} {wl : gn_T} {fs : List Value} (hy : plainName y.cls = true) (hnm : y.name = "<init>")
    (body : ∀ (cI cZ : ClassId) (D : va_G) (A : Nat → Prop) (h0 : Nat) p e s m args below meth c, gn_X cI cZ D A y.cls cc 1 p s m args meth c → meth.sig.returnType = none → meth.name = "<init>" → gn_W D A 1 p l e (gn_rm fr lo ce sl) s m args below meth c (MQ below (gn_Q cI cZ D wl A h0) args s ce sl A) 0 0 0 [(0, .ref h0)] [] [(h0, .inr (ci, fs))]) : gn_M l y cc fr lo ce sl ci wl fs := by
  intro cI cZ D h0 sz
  refine Met.ofW (cc := cc) (maxL := 1) (ret := none) hy rfl ?_
  intro p e s m args below meth c s₁ B hml hv
  obtain ⟨rfl, hsz, hP, hK, hN⟩ := hv
  subst hsz
  have hts := atoms_spec (ws := .code y cc 1 none :: gs_B) B.pre
  have hl := lv_entry [.ref h0] (n := 1) (Nat.le_of_ble_eq_true rfl)
  rw [lg_entry_eq]
  have hD : va_D (va_A [(h0, .inr (ci, fs))] s.heap.size) [(h0, .inr (ci, fs))] := ⟨fun i j x y hi hj _ => by
    have h1 := (List.getElem?_eq_some_iff.mp hi).1
    have h2 := (List.getElem?_eq_some_iff.mp hj).1
    simp at h1 h2
    omega, fun k q hk => va_A.in hk⟩
  exact body cI cZ D _ h0 p e s m _ below meth c ⟨B.exec, B.bytes, hml, findClass_of_methodNamed B.named, fun w hw => hts w (List.mem_cons_of_mem _ hw), hK, hN, B.notSynchronized, fun q h => Or.inr h⟩ B.returns (by have := (name_of_methodNamed B.named B.method).1; rw [this]; exact hnm) s.heap [] _ hP hD va_S.rf hl

theorem n_aload (C : gn_X cI cZ D A own cc nL p s m args meth c) {k : Fin 4} {i : Nat} {x : Nat} (d : decode cc pc = .ok (.aload_n k, 1)) (hi : (k : Nat) = i) (q : Nat) (hq : lv[q]? = some (i, .ref x)) (kk : gn_W D A nL p l e R s m args below meth c Q cells slots (pc + 1) lv (.ref x :: st) ws) : gn_W D A nL p l e R s m args below meth c Q cells slots pc lv st ws :=
  fun H locs ls hP hD hS hL => lv_aload_n C.1 C.2.1 d hi (lv_at hL q hq) (kk H locs ls hP hD hS hL)
theorem n_iconst (C : gn_X cI cZ D A own cc nL p s m args meth c) {n : Int} {v : Int32} (d : decode cc pc = .ok (.iconst n, 1)) (hv : Int32.ofInt n = v) (kk : gn_W D A nL p l e R s m args below meth c Q cells slots (pc + 1) lv (.int v :: st) ws) : gn_W D A nL p l e R s m args below meth c Q cells slots pc lv st ws :=
  fun H locs ls hP hD hS hL => lv_iconst C.1 C.2.1 d hv (kk H locs ls hP hD hS hL)
theorem n_bipush (C : gn_X cI cZ D A own cc nL p s m args meth c) {n : Int} {v : Int32} (d : decode cc pc = .ok (.bipush n, 2)) (hv : (Int8.ofInt n).toInt32 = v) (kk : gn_W D A nL p l e R s m args below meth c Q cells slots (pc + 2) lv (.int v :: st) ws) : gn_W D A nL p l e R s m args below meth c Q cells slots pc lv st ws :=
  fun H locs ls hP hD hS hL => lv_bipush C.1 C.2.1 d hv (kk H locs ls hP hD hS hL)
theorem n_dup (C : gn_X cI cZ D A own cc nL p s m args meth c) {v : Value} (d : decode cc pc = .ok (.dup, 1)) (hv : v.category = 1) (kk : gn_W D A nL p l e R s m args below meth c Q cells slots (pc + 1) lv (v :: v :: st) ws) : gn_W D A nL p l e R s m args below meth c Q cells slots pc lv (v :: st) ws :=
  fun H locs ls hP hD hS hL => lv_dup C.1 C.2.1 d hv (kk H locs ls hP hD hS hL)
theorem n_obj (C : gn_X cI cZ D A own cc nL p s m args meth c) {idx x : Nat} (hw : Cond.methodLink own idx objectInit ∈ gs_B) (d : decode cc pc = .ok (.invokespecial idx, 3)) (hf : 1 ≤ R.frames) (hl2 : 12 ≤ R.locals) (kk : gn_W D A nL p l e R s m args below meth c Q cells slots (pc + 3) lv [] ws) : gn_W D A nL p l e R s m args below meth c Q cells slots pc lv [.ref x] ws := by
  intro H locs ls hP hD hS hL
  refine W.objInit C.1 C.2.1 C.2.2.2.1 (C.2.2.2.2.1 _ hw) (C.2.2.2.2.1 _ kI_obj) (C.2.2.2.2.1 _ kC_obj) rfl (by rw [C.2.2.1]; exact hL.1) rfl d hf (by show 2 * 0 + 0 + 12 ≤ _; omega) ?_
  exact kk H locs ls hP hD hS hL
theorem n_newI (C : gn_X cI cZ D A own cc nL p s m args meth c) {n : Int32} {N : Nat} (hN : n.toNatClampNeg = N) (hn : ¬ n < 0) (hb : N * componentBytes .int ≤ 536870912) (hc : cells + 1 ≤ R.cells) (hs : slots + N ≤ R.slots) (d : decode cc pc = .ok (.newarray .int, 2)) (kk : ∀ q : Nat, gn_W D A nL p l e R s m args below meth c Q (cells + 1) (slots + N) (pc + 2) lv (.ref q :: st) (ws ++ [(q, .inl (cI, N, .inl (fun _ => 0)))])) : gn_W D A nL p l e R s m args below meth c Q cells slots pc lv (.int n :: st) ws := by
  intro H locs ls hP hD hS hL
  refine va_newa (atype := .int) C.1 C.2.1 (C.2.2.2.2.1 _ kR_int) (ty := .int) rfl C.2.2.2.2.2.1 hP hD hS C.2.2.2.2.2.2.2.2 (a0 := (N, .inl (fun _ => 0))) (fun _ => rfl) hn hN hb hc hs d (fun q cA H1 hK1 hP1 hD1 hS1 => ?_)
  have e1 : s.vm.findClass ("[" ++ FieldType.int.toString) = some cA := (hK1.2 2 _ rfl).2
  have e2 : s.vm.findClass ("[" ++ FieldType.int.toString) = some cI := (C.2.2.2.2.2.1.2 0 _ rfl).2
  have e3 : cA = cI := Option.some.inj (e1.symm.trans e2)
  subst e3
  exact kk q H1 locs ls hP1 hD1 hS1 hL
theorem n_newZ (C : gn_X cI cZ D A own cc nL p s m args meth c) {n : Int32} {N : Nat} (hN : n.toNatClampNeg = N) (hn : ¬ n < 0) (hb : N * componentBytes .boolean ≤ 536870912) (hc : cells + 1 ≤ R.cells) (hs : slots + N ≤ R.slots) (d : decode cc pc = .ok (.newarray .boolean, 2)) (kk : ∀ q : Nat, gn_W D A nL p l e R s m args below meth c Q (cells + 1) (slots + N) (pc + 2) lv (.ref q :: st) (ws ++ [(q, .inl (cZ, N, .inl (fun _ => 0)))])) : gn_W D A nL p l e R s m args below meth c Q cells slots pc lv (.int n :: st) ws := by
  intro H locs ls hP hD hS hL
  refine va_newa (atype := .boolean) C.1 C.2.1 (C.2.2.2.2.1 _ kR_boolean) (ty := .boolean) rfl C.2.2.2.2.2.1 hP hD hS C.2.2.2.2.2.2.2.2 (a0 := (N, .inl (fun _ => 0))) (fun _ => rfl) hn hN hb hc hs d (fun q cA H1 hK1 hP1 hD1 hS1 => ?_)
  have e1 : s.vm.findClass ("[" ++ FieldType.boolean.toString) = some cA := (hK1.2 2 _ rfl).2
  have e2 : s.vm.findClass ("[" ++ FieldType.boolean.toString) = some cZ := (C.2.2.2.2.2.1.2 1 _ rfl).2
  have e3 : cA = cZ := Option.some.inj (e1.symm.trans e2)
  subst e3
  exact kk q H1 locs ls hP1 hD1 hS1 hL
theorem n_new (C : gn_X cI cZ D A own cc nL p s m args meth c) {idx : Nat} {Cn : String} {T : u_T} {N ci : Nat} (hc : vwCl[ci]? = some (Cn, T, N)) (hin : ∀ w ∈ u_ws Cn T N, w ∈ gs_B) (ty0 : Nat → FieldType) (hty : ∀ k, k < N → parseFieldDescriptor (T k).2.2.1 = some (ty0 k)) {fs : List Value} (hfs : ∀ j, j < N → defaultValue (ty0 j) = vp_V fs j) (w1 : Cond.classLink own idx Cn ∈ gs_B) (w2 : Cond.instantiable Cn N ∈ gs_B) (w3 : Cond.initialized Cn ∈ gs_B) (hce : cells + 1 ≤ R.cells) (hsl : slots + N ≤ R.slots) (d : decode cc pc = .ok (.new idx, 3)) (kk : ∀ q : Nat, gn_W D A nL p l e R s m args below meth c Q (cells + 1) (slots + N) (pc + 3) lv (.ref q :: st) (ws ++ [(q, .inr (ci, fs))])) : gn_W D A nL p l e R s m args below meth c Q cells slots pc lv st ws := by
  intro H locs ls hP hD hS hL
  exact va_new C.1 C.2.1 C.2.2.2.2.1 hin ty0 hty C.2.2.2.1 (C.2.2.2.2.1 _ w1) (C.2.2.2.2.1 _ w2) (C.2.2.2.2.1 _ w3) C.2.2.2.2.2.1 hP hD hS C.2.2.2.2.2.2.2.2 hc hfs hce hsl d (fun q H1 hP1 hD1 hS1 => kk q H1 locs ls hP1 hD1 hS1 hL)
theorem n_putF (C : gn_X cI cZ D A own cc nL p s m args meth c) (hnm : meth.name = "<init>") {idx a : Nat} {Cn : String} {T : u_T} {N ci : Nat} (hc : vwCl[ci]? = some (Cn, T, N)) (hin : ∀ w ∈ u_ws Cn T N, w ∈ gs_B) (ty0 : Nat → FieldType) (hty : ∀ k, k < N → parseFieldDescriptor (T k).2.2.1 = some (ty0 k)) (hnn : ∀ a, a < N → ∀ b, b < N → a ≠ b → (T a).2.1 ≠ (T b).2.1) (q0 : Nat) {fs : List Value} (he : ws[q0]? = some (a, .inr (ci, fs))) (j : Nat) (hj : j < N) (w1 : Cond.fieldLink own idx Cn (T j).2.1 (T j).2.2.1 ∈ gs_B) (hC : (T j).1 = Cn) (hF : (T j).2.2.2 = true) (hO : (T j).1 = own) {v : Value} (hn : narrow (ty0 j) v = v) (hfit : fits (ty0 j) v = true) (hl2 : j < fs.length) (d : decode cc pc = .ok (.putfield idx, 3)) {ws' : va_W} (hws : ws.set q0 (a, .inr (ci, fs.set j v)) = ws') (kk : gn_W D A nL p l e R s m args below meth c Q cells slots (pc + 3) lv st ws') : gn_W D A nL p l e R s m args below meth c Q cells slots pc lv (v :: .ref a :: st) ws := by
  intro H locs ls hP hD hS hL
  subst hws
  exact va_putF (D := D) (cl := vwCl) (ty := ty0 j) C.1 C.2.1 C.2.2.2.2.1 hin ty0 hty hnn C.2.2.2.1 C.2.2.2.2.2.1 hP hD hS q0 he hc j hj (C.2.2.2.2.1 _ w1) (fun x hx => by rw [hC] at hx; exact hx) hF hnm hO (hty j hj) hn hfit hl2 d (fun H1 locs1 hP1 hD1 hS1 => kk H1 locs1 ls hP1 hD1 hS1 hL)
theorem n_put (C : gn_X cI cZ D A own cc nL p s m args meth c) {idx a : Nat} {Cn : String} {T : u_T} {N ci : Nat} (hc : vwCl[ci]? = some (Cn, T, N)) (hin : ∀ w ∈ u_ws Cn T N, w ∈ gs_B) (ty0 : Nat → FieldType) (hty : ∀ k, k < N → parseFieldDescriptor (T k).2.2.1 = some (ty0 k)) (hnn : ∀ a, a < N → ∀ b, b < N → a ≠ b → (T a).2.1 ≠ (T b).2.1) (q0 : Nat) {fs : List Value} (he : ws[q0]? = some (a, .inr (ci, fs))) (j : Nat) (hj : j < N) (w1 : Cond.fieldLink own idx Cn (T j).2.1 (T j).2.2.1 ∈ gs_B) (hC : (T j).1 = Cn) (hF : (T j).2.2.2 = false) {v : Value} (hn : narrow (ty0 j) v = v) (hfit : fits (ty0 j) v = true) (hl2 : j < fs.length) (d : decode cc pc = .ok (.putfield idx, 3)) {ws' : va_W} (hws : ws.set q0 (a, .inr (ci, fs.set j v)) = ws') (kk : gn_W D A nL p l e R s m args below meth c Q cells slots (pc + 3) lv st ws') : gn_W D A nL p l e R s m args below meth c Q cells slots pc lv (v :: .ref a :: st) ws := by
  intro H locs ls hP hD hS hL
  subst hws
  exact va_put (D := D) (cl := vwCl) (ty := ty0 j) C.1 C.2.1 C.2.2.2.2.1 hin ty0 hty hnn C.2.2.2.1 C.2.2.2.2.2.1 hP hD hS q0 he hc j hj (C.2.2.2.2.1 _ w1) (fun x hx => by rw [hC] at hx; exact hx) hF (hty j hj) hn hfit hl2 d (fun H1 locs1 hP1 hD1 hS1 => kk H1 locs1 ls hP1 hD1 hS1 hL)
theorem n_ws (is : List Nat) (hn : va_nd is = true) {ws' : va_W} (h : is.map (fun i => ws[i]?) = ws'.map some) (kk : gn_W D A nL p l e R s m args below meth c Q cells slots pc lv st ws') : gn_W D A nL p l e R s m args below meth c Q cells slots pc lv st ws := by
  intro H locs ls hP hD hS hL
  refine kk H locs ls (hP.sub is ?_) (hD.sub is hn h) hS hL
  have e : is.filterMap (fun i => ws[i]?) = (is.map (fun i => ws[i]?)).filterMap id := by rw [List.filterMap_map]; rfl
  rw [e, h, List.filterMap_map]
  simp
theorem n_w (k n : Nat) (h1 : cells ≤ k) (h2 : slots ≤ n) (kk : gn_W D A nL p l e R s m args below meth c Q k n pc lv st ws) : gn_W D A nL p l e R s m args below meth c Q cells slots pc lv st ws := fun H locs ls hP hD hS hL => W.widen h1 h2 (kk H locs ls hP hD hS hL)
theorem n_ret (C : gn_X cI cZ D A own cc nL p s m args meth c) (hr : meth.sig.returnType = none) {h0 : Nat} {wl : gn_T} (f : Nat → Nat) (hf : f 0 = h0) (is : List Nat) (hn : va_nd is = true) (h : is.map (fun i => ws[i]?) = (wl cI cZ f).map some) (d : decode cc pc = .ok (.return_, 1)) : gn_W D A nL p l e R s m args below meth c (MQ below (gn_Q cI cZ D wl A h0) args s cells slots A) cells slots pc lv [] ws := by
  refine n_ws is hn h ?_
  intro H locs ls hP hD hS hL
  exact W.vret C.1 C.2.1 hr (fun t ht hW => ⟨⟨f, rfl, hf, by rw [ht]; exact hP, hD⟩, hS.F ht⟩) hS.2.2 d C.2.2.2.2.2.2.2.1
theorem n_callI (C : gn_X cI cZ D A own cc nL p s m args meth c) {y : MethodName} {bc : ByteArray} {fr lo ce sl ci : Nat} {wl : gn_T} {fs : List Value} (hM : gn_M l y bc fr lo ce sl ci wl fs) {a : Nat} (isC isR : List Nat) {wr : va_W} (hC : isC.map (fun i => ws[i]?) = [some (a, .inr (ci, fs))]) (hR : isR.map (fun i => ws[i]?) = wr.map some) (hn : va_nd isR = true) (hdis : ∀ i ∈ isR, i ∉ isC) {idx : Nat} {host : String} (w1 : va_Nw (.methodLinkNest own idx y host) s) (w2 : Cond.instanceMethod y ∈ gs_B) (w4 : Cond.initialized y.cls ∈ gs_B) (w5 : Cond.code y bc 1 none ∈ gs_B) (hy : y.name = "<init>") (hd : y.cls ≠ "java/lang/invoke/MethodHandle" ∧ y.cls ≠ "java/lang/invoke/VarHandle" ∧ (parseMethodDescriptor y.desc).map (fun d => d.parameters.length) = some 0) (hrm : fr + 1 ≤ R.frames ∧ 8 + (1 + 11) + lo ≤ R.locals) (hf : cells + ce ≤ R.cells ∧ slots + sl ≤ R.slots) (hw : (st.map fun v => v.category).sum ≤ 8) (d : decode cc pc = .ok (.invokespecial idx, 3)) {wj : (Nat → Nat) → va_W} (hw2 : ∀ f, wr ++ wl cI cZ f = wj f) (kk : ∀ f : Nat → Nat, f 0 = a → gn_W D A nL p l e R s m args below meth c Q (cells + ce) (slots + sl) (pc + 3) lv st (wj f)) : gn_W D A nL p l e R s m args below meth c Q cells slots pc lv (.ref a :: st) ws := by
  intro H locs ls hP hD hS hL
  have hG : GoodIn gs_B (.code y bc 1 none :: gs_B) := by
    intro w hw
    rcases List.mem_cons.mp hw with rfl | h
    · exact gs_good _ w5
    · exact gs_good _ h
  have hCe : isC.map (fun i => ws[i]?) = ([(a, .inr (ci, fs))] : va_W).map some := hC
  have hPc : va_P D vwCl [(a, .inr (ci, fs))] H := by
    refine hP.sub isC ?_
    have e : isC.filterMap (fun i => ws[i]?) = (isC.map (fun i => ws[i]?)).filterMap id := by rw [List.filterMap_map]; rfl
    rw [e, hC]
    rfl
  have hFc := va_free (wc := [(a, .inr (ci, fs))]) hD hS C.2.2.2.2.2.2.2.2 isC hCe
  have hrun := va_runIN (p := p) (l := l) (e := e) (R := R) (s := s) (m := m) (args := args) (below := below) (meth := meth) (c := c) (H := H) (locs := locs) (cells := cells) (slots := slots) (g := F0 m pc ls (.ref a :: st)) (As := []) (rest := st) (b := a) ⟨C.1, C.2.1, C.2.2.1, C.2.2.2.1, C.2.2.2.2.1⟩ (hM cI cZ D a H.size) ⟨va_cnB 0 C.2.2.2.2.1 hG rfl rfl rfl w1 (C.2.2.2.2.1 _ w4) hd hrm, hy, C.2.2.2.2.1 _ w2⟩ ⟨fun a U fr mk q => ⟨q.1, q.2.1, q.2.2.1, va_K.moved (u := U) (U := U.calling fr mk a) (Vm.Alike.refl U.vm) q.2.2.2.1, q.2.2.2.2.calling fr mk a⟩, fun U hU hW => ⟨rfl, by rw [hU], by rw [hU]; exact hPc, va_K.moved hW.alike C.2.2.2.2.2.1, C.2.2.2.2.2.2.1.go hW⟩⟩ rfl rfl hL.1 rfl (lv_room hw) d hf
  intro T hT X
  obtain ⟨v, st₀, t, T', LL, h0, X', hLL, e1, e2, ⟨⟨f, hv, hf0, hp, hd1⟩, hz, hk⟩, stp⟩ := hrun T hT X
  cases hv
  rw [h0] at hz hk
  obtain ⟨hP2, hD2⟩ := va_join (wr := wr) (w1 := wl cI cZ f) hP hD isC isR hCe hR hn hdis hk hFc hp hd1
  rw [hw2] at hP2 hD2
  obtain ⟨t2, a1, b1⟩ := kk f hf0 T'.heap (locs ++ LL) ls (by rw [e1]; exact hP2) hD2 ⟨Nat.le_trans hS.1 (by rw [e1]; exact hz), fun q g1 g2 => by rw [e1, hk q (Nat.lt_of_lt_of_le g1 hS.1) (fun z => g2 (hFc q z))]; exact hS.2.1 q g1 g2, fun q hq => by
      rcases List.mem_append.mp hq with h | h
      · exact hS.2.2 q h
      · exact hFc _ (hLL q h)⟩ hL T' rfl X'
  exact ⟨t2, stp t2 a1, b1⟩
theorem n_callO (C : gn_X cI cZ D A own cc nL p s m args meth c) {y : MethodName} {bc : ByteArray} {fr lo ce sl ci : Nat} {wl : gn_T} {fs : List Value} (hM : gn_M l y bc fr lo ce sl ci wl fs) {a : Nat} (isC isR : List Nat) {wr : va_W} (hC : isC.map (fun i => ws[i]?) = [some (a, .inr (ci, fs))]) (hR : isR.map (fun i => ws[i]?) = wr.map some) (hn : va_nd isR = true) (hdis : ∀ i ∈ isR, i ∉ isC) {idx : Nat} (w1 : Cond.methodLink own idx y ∈ gs_B) (w2 : Cond.instanceMethod y ∈ gs_B) (w4 : Cond.initialized y.cls ∈ gs_B) (w5 : Cond.code y bc 1 none ∈ gs_B) (hy : y.name = "<init>") (hd : y.cls ≠ "java/lang/invoke/MethodHandle" ∧ y.cls ≠ "java/lang/invoke/VarHandle" ∧ (parseMethodDescriptor y.desc).map (fun d => d.parameters.length) = some 0) (hrm : fr + 1 ≤ R.frames ∧ 8 + (1 + 11) + lo ≤ R.locals) (hf : cells + ce ≤ R.cells ∧ slots + sl ≤ R.slots) (hw : (st.map fun v => v.category).sum ≤ 8) (d : decode cc pc = .ok (.invokespecial idx, 3)) {wj : (Nat → Nat) → va_W} (hw2 : ∀ f, wr ++ wl cI cZ f = wj f) (kk : ∀ f : Nat → Nat, f 0 = a → gn_W D A nL p l e R s m args below meth c Q (cells + ce) (slots + sl) (pc + 3) lv st (wj f)) : gn_W D A nL p l e R s m args below meth c Q cells slots pc lv (.ref a :: st) ws := by
  intro H locs ls hP hD hS hL
  have hG : GoodIn gs_B (.code y bc 1 none :: gs_B) := by
    intro w hw
    rcases List.mem_cons.mp hw with rfl | h
    · exact gs_good _ w5
    · exact gs_good _ h
  have hCe : isC.map (fun i => ws[i]?) = ([(a, .inr (ci, fs))] : va_W).map some := hC
  have hPc : va_P D vwCl [(a, .inr (ci, fs))] H := by
    refine hP.sub isC ?_
    have e : isC.filterMap (fun i => ws[i]?) = (isC.map (fun i => ws[i]?)).filterMap id := by rw [List.filterMap_map]; rfl
    rw [e, hC]
    rfl
  have hFc := va_free (wc := [(a, .inr (ci, fs))]) hD hS C.2.2.2.2.2.2.2.2 isC hCe
  have hrun := va_runI (p := p) (l := l) (e := e) (R := R) (s := s) (m := m) (args := args) (below := below) (meth := meth) (c := c) (H := H) (locs := locs) (cells := cells) (slots := slots) (g := F0 m pc ls (.ref a :: st)) (As := []) (rest := st) (b := a) ⟨C.1, C.2.1, C.2.2.1, C.2.2.2.1, C.2.2.2.2.1⟩ (hM cI cZ D a H.size) (cwI 0 C.2.2.2.2.1 hG rfl rfl rfl (C.2.2.2.2.1 _ w4) (C.2.2.2.2.1 _ w1) (C.2.2.2.2.1 _ w2) hy hd hrm) ⟨fun a U fr mk q => ⟨q.1, q.2.1, q.2.2.1, va_K.moved (u := U) (U := U.calling fr mk a) (Vm.Alike.refl U.vm) q.2.2.2.1, q.2.2.2.2.calling fr mk a⟩, fun U hU hW => ⟨rfl, by rw [hU], by rw [hU]; exact hPc, va_K.moved hW.alike C.2.2.2.2.2.1, C.2.2.2.2.2.2.1.go hW⟩⟩ rfl rfl hL.1 rfl (lv_room hw) d hf
  intro T hT X
  obtain ⟨v, st₀, t, T', LL, h0, X', hLL, e1, e2, ⟨⟨f, hv, hf0, hp, hd1⟩, hz, hk⟩, stp⟩ := hrun T hT X
  cases hv
  rw [h0] at hz hk
  obtain ⟨hP2, hD2⟩ := va_join (wr := wr) (w1 := wl cI cZ f) hP hD isC isR hCe hR hn hdis hk hFc hp hd1
  rw [hw2] at hP2 hD2
  obtain ⟨t2, a1, b1⟩ := kk f hf0 T'.heap (locs ++ LL) ls (by rw [e1]; exact hP2) hD2 ⟨Nat.le_trans hS.1 (by rw [e1]; exact hz), fun q g1 g2 => by rw [e1, hk q (Nat.lt_of_lt_of_le g1 hS.1) (fun z => g2 (hFc q z))]; exact hS.2.1 q g1 g2, fun q hq => by
      rcases List.mem_append.mp hq with h | h
      · exact hS.2.2 q h
      · exact hFc _ (hLL q h)⟩ hL T' rfl X'
  exact ⟨t2, stp t2 a1, b1⟩
end GN
