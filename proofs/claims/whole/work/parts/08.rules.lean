/-! THE ROWS: contexts, contracts, an instruction a row, over gs_w -/
/-- a place in an array of n -/
abbrev inb (i : Int32) (n : Nat) : Prop := 0 ≤ i ∧ i.toNatClampNeg < n
theorem inb_vp {i : Int32} {n : Nat} (h : inb i n) : vp_in i n := fun q => q.elim (fun z => absurd h.1 (Int32.not_le.mpr z)) (fun z => absurd h.2 (Nat.not_lt.mpr z))
theorem ck_some {α : Type} {c : Prop} [Decidable c] {x : Option α} {r : α} (h : (if c then x else none) = some r) : c ∧ x = some r := by
  by_cases q : c
  · exact ⟨q, (if_pos q).symm.trans h⟩
  · exact absurd ((if_neg q).symm.trans h) (by simp)
/-- a loop: its body goes on, or leaves -/
def lp {τ ε : Type} (b : τ → Option (τ ⊕ ε)) : Nat → τ → Option ε
  | 0, _ => none
  | n + 1, s => (b s).bind fun r => match r with
    | .inl s' => lp b n s'
    | .inr e => some e
theorem lp_step {τ ε : Type} {b : τ → Option (τ ⊕ ε)} {n : Nat} {s : τ} {q : ε} (h : lp b (n + 1) s = some q) : ∃ r, b s = some r ∧ (∀ s', r = .inl s' → lp b n s' = some q) ∧ (∀ e, r = .inr e → e = q) := by
  rw [lp] at h
  obtain ⟨r, h1, h2⟩ := Option.bind_eq_some_iff.mp h
  refine ⟨r, h1, fun s' e => ?_, fun e' e => ?_⟩
  · subst e; exact h2
  · subst e; exact Option.some.inj h2
/-- what a state has beside the cells: the classes and slots, the text of the kinds, the nest's links -/
def gs_Y (E : gs_E) (U : State) : Prop := va_K E.2.2.2.1 vwCl [(E.1, .int), (E.2.1, .boolean)] U ∧ vk_R RX5 92 "blfod" E.2.2.2.2.1 U ∧ vk_S 1 [5] [[98, 108, 102, 111, 100]] (fun _ => E.2.2.2.2.1) (fun _ => E.2.2.2.2.2) (gs_A E) U U.heap ∧ va_Nw (.methodLinkNest RX0 54 yX8_swapThings "HungMobile") U ∧ va_Nw (.methodLinkNest RX2 56 yX8_swapThings "HungMobile") U ∧ va_Z "java/lang/String" "COMPACT_STRINGS" "Z" (.int 1) (gs_A E) U U.heap
theorem gs_Y.go {E : gs_E} {s U : State} {H : Heap} {locs : List Loc} (h : gs_Y E s) (hS : va_S (gs_A E) s.heap H locs) (hU : U.heap = H) (hW : s.WarmedH U.vm) : gs_Y E U := by
  obtain ⟨h1, h2, h3, h4, h5, h6⟩ := h
  subst hU
  exact ⟨va_K.moved hW.alike h1, h2.warm hW, (h3.moved hW.alike).kept (H1 := U.heap) (fun a ha hA => hS.2.1 a ha hA), h4.warmM hW, h5.warmM hW, (h6.moved hW.alike).kept (H1 := U.heap) (fun a ha hA => hS.2.1 a ha hA)⟩
theorem gs_Y.calling {E : gs_E} {U : State} (h : gs_Y E U) (g : JFrame) (mk : MethodId) (a : Array Value) : gs_Y E (U.calling g mk a) := by
  obtain ⟨h1, h2, h3, h4, h5, h6⟩ := h
  exact ⟨va_K.moved (u := U) (U := U.calling g mk a) (Vm.Alike.refl U.vm) h1, vk_R.same (u := U) (U := U.calling g mk a) rfl h2, vk_S.moved (u := U) (U := U.calling g mk a) (H := U.heap) (Vm.Alike.refl U.vm) h3, va_Nw.same rfl (u := U) (U := U.calling g mk a) rfl h4, va_Nw.same rfl (u := U) (U := U.calling g mk a) rfl h5, va_Z.moved (u := U) (U := U.calling g mk a) (H := U.heap) (Vm.Alike.refl U.vm) h6⟩
/-- what stays while a method runs -/
def gs_X (E : gs_E) (own : String) (cc : ByteArray) (nL : Nat) (p : Program) (s : State) (m : MethodId) (args : Array Value) (meth : Method) (c : Code) : Prop :=
  p.tables.exec = Jvm.exec ∧ c.code = cc ∧ c.maxLocals = nL ∧ s.vm.findClass own = some m.cls ∧ (∀ w ∈ gs_B, w.before args s = true) ∧ gs_Y E s ∧ meth.locks = false ∧ gs_J E
/-- the machine at pc, with locals that hold lv, the stack st, the heap σ, g: comes to Q -/
def gs_W (E : gs_E) (nL : Nat) (p : Program) (l : Launch) (e : Env) (R : Room) (s : State) (m : MethodId) (args : Array Value) (below : List Frame) (meth : Method) (c : Code) (cells slots : Nat) (Q : State → Prop) (pc : Nat) (lv : List (Nat × Value)) (st : List Value) (σ : gs_H) (g : Int64) : Prop :=
  ∀ (H : Heap) (locs : List Loc) (ls : Array Slot), va_P E.2.2.2.1 vwCl (gs_w E σ g) H → va_S (gs_A E) s.heap H locs → lv_has ls nL lv → W p l e R s m args below meth c H locs cells slots Q (F0 m pc ls st)
def gs_Q (E : gs_E) (ov : Option Value) (σ : gs_H) (g : Int64) : Array Value → State → Outcome → State → Prop := fun _ st oc t => (oc = .returned ov ∧ va_P E.2.2.2.1 vwCl (gs_w E σ g) t.heap) ∧ va_F (gs_A E) st t
def gs_Pc (E : gs_E) (av : List Value) (σ : gs_H) (g : Int64) : Array Value → State → Prop := va_Pc av (fun U => va_P E.2.2.2.1 vwCl (gs_w E σ g) U.heap ∧ gs_Y E U)
def gs_rm (rm : Nat × Nat) : Room := { frames := rm.1, cells := 0, slots := 0, locals := rm.2 }
/-- a method's contract at these arguments and this heap -/
def gs_M (l : Launch) (E : gs_E) (y : MethodName) (bc : ByteArray) (nL : Nat) (ret : Option FieldType) (rm : Nat × Nat) (av : List Value) (σ : gs_H) (g : Int64) (ov : Option Value) (σ' : gs_H) (g' : Int64) : Prop :=
  gs_J E → Met l y (.code y bc nL ret :: gs_B) (gs_rm rm) (gs_Pc E av σ g) (gs_Q E ov σ' g') 0 0 (gs_A E)
abbrev gs_V (E : gs_E) (nL : Nat) (rm : Nat × Nat) (p : Program) (l : Launch) (e : Env) (s : State) (m : MethodId) (args : Array Value) (below : List Frame) (meth : Method) (c : Code) (ov : Option Value) (σ0 : gs_H) (g0 : Int64) (pc : Nat) (lv : List (Nat × Value)) (st : List Value) (σ : gs_H) (g : Int64) : Prop :=
  gs_W E nL p l e (gs_rm rm) s m args below meth c 0 0 (MQ below (gs_Q E ov σ0 g0) args s 0 0 (gs_A E)) pc lv st σ g
theorem up2_same (σ : gs_H) (k j : Nat) (v : Int32) : up2 σ k j v k j = v := by simp [up2]
section GR
variable {E : gs_E} {own : String} {cc : ByteArray} {nL : Nat} {p : Program} {l : Launch} {e : Env} {R : Room} {s : State} {m : MethodId} {args : Array Value} {below : List Frame} {meth : Method} {c : Code} {cells slots : Nat} {Q : State → Prop} {pc : Nat} {lv : List (Nat × Value)} {st : List Value} {σ : gs_H} {g : Int64}
theorem x_enter {y : MethodName} {ret : Option FieldType} {rm : Nat × Nat} {av : List Value} {ov : Option Value} {σ' : gs_H} {g' : Int64} (hy : plainName y.cls = true) (hn : (lg_sl av).length ≤ nL) (hlv : lv_args 0 av = lv)
    (body : ∀ p e s m args below meth c, gs_X E y.cls cc nL p s m args meth c → meth.sig.returnType = ret → gs_W E nL p l e (gs_rm rm) s m args below meth c 0 0 (MQ below (gs_Q E ov σ' g') args s 0 0 (gs_A E)) 0 lv [] σ g) : gs_M l E y cc nL ret rm av σ g ov σ' g' := by
  intro hJ
  subst hlv
  refine Met.ofW (cc := cc) (maxL := nL) (ret := ret) hy rfl ?_
  intro p e s m args below meth c s₁ B hml hv
  obtain ⟨rfl, hP, hY⟩ := hv
  have hts := atoms_spec (ws := .code y cc nL ret :: gs_B) B.pre
  have hl := lv_entry av (n := nL) hn
  rw [lg_entry_eq]
  exact body p e s m _ below meth c ⟨B.exec, B.bytes, hml, findClass_of_methodNamed B.named, fun w hw => hts w (List.mem_cons_of_mem _ hw), hY, B.notSynchronized, hJ⟩ B.returns s.heap [] _ hP va_S.rf hl
theorem x_lv (ks : List Nat) {lv' : List (Nat × Value)} (h : lv_pick lv ks = lv') (kk : gs_W E nL p l e R s m args below meth c cells slots Q pc lv' st σ g) : gs_W E nL p l e R s m args below meth c cells slots Q pc lv st σ g :=
  fun H locs ls hP hS hL => kk H locs ls hP hS (lv_sub hL ks h)

theorem x_iconst (C : gs_X E own cc nL p s m args meth c) {n : Int} {v : Int32} (d : decode cc pc = .ok (.iconst n, 1)) (hv : Int32.ofInt n = v) (kk : gs_W E nL p l e R s m args below meth c cells slots Q (pc + 1) lv (.int v :: st) σ g) : gs_W E nL p l e R s m args below meth c cells slots Q pc lv st σ g :=
  fun H locs ls hP hS hL => lv_iconst C.1 C.2.1 d hv (kk H locs ls hP hS hL)
theorem x_bipush (C : gs_X E own cc nL p s m args meth c) {n : Int} {v : Int32} (d : decode cc pc = .ok (.bipush n, 2)) (hv : (Int8.ofInt n).toInt32 = v) (kk : gs_W E nL p l e R s m args below meth c cells slots Q (pc + 2) lv (.int v :: st) σ g) : gs_W E nL p l e R s m args below meth c cells slots Q pc lv st σ g :=
  fun H locs ls hP hS hL => lv_bipush C.1 C.2.1 d hv (kk H locs ls hP hS hL)
theorem x_sipush (C : gs_X E own cc nL p s m args meth c) {n : Int} {v : Int32} (d : decode cc pc = .ok (.sipush n, 3)) (hv : (Int16.ofInt n).toInt32 = v) (kk : gs_W E nL p l e R s m args below meth c cells slots Q (pc + 3) lv (.int v :: st) σ g) : gs_W E nL p l e R s m args below meth c cells slots Q pc lv st σ g :=
  fun H locs ls hP hS hL => lv_sipush C.1 C.2.1 d hv (kk H locs ls hP hS hL)
theorem x_lconst (C : gs_X E own cc nL p s m args meth c) {n : Fin 2} {v : Int64} (d : decode cc pc = .ok (.lconst n, 1)) (hv : Int64.ofNat (n : Nat) = v) (kk : gs_W E nL p l e R s m args below meth c cells slots Q (pc + 1) lv (.long v :: st) σ g) : gs_W E nL p l e R s m args below meth c cells slots Q pc lv st σ g :=
  fun H locs ls hP hS hL => lv_lconst C.1 C.2.1 d hv (kk H locs ls hP hS hL)
theorem x_ldc (C : gs_X E own cc nL p s m args meth c) {i : Nat} {v : Int32} (hw : Cond.constant own i v ∈ gs_B) (d : decode cc pc = .ok (.ldc i, 2)) (kk : gs_W E nL p l e R s m args below meth c cells slots Q (pc + 2) lv (.int v :: st) σ g) : gs_W E nL p l e R s m args below meth c cells slots Q pc lv st σ g :=
  fun H locs ls hP hS hL => lv_ldc C.1 C.2.1 C.2.2.2.1 (C.2.2.2.2.1 _ hw) d (kk H locs ls hP hS hL)
theorem x_ldc2 (C : gs_X E own cc nL p s m args meth c) {i : Nat} {v : Int64} (hw : Cond.constantLong own i v ∈ gs_B) (d : decode cc pc = .ok (.ldc2_w i, 3)) (kk : gs_W E nL p l e R s m args below meth c cells slots Q (pc + 3) lv (.long v :: st) σ g) : gs_W E nL p l e R s m args below meth c cells slots Q pc lv st σ g :=
  fun H locs ls hP hS hL => lv_ldc2 C.1 C.2.1 C.2.2.2.1 (C.2.2.2.2.1 _ hw) d (kk H locs ls hP hS hL)
theorem x_iload_n (C : gs_X E own cc nL p s m args meth c) {k : Fin 4} {i : Nat} {x : Int32} (d : decode cc pc = .ok (.iload_n k, 1)) (hi : (k : Nat) = i) (q : Nat) (hq : lv[q]? = some (i, .int x)) (kk : gs_W E nL p l e R s m args below meth c cells slots Q (pc + 1) lv (.int x :: st) σ g) : gs_W E nL p l e R s m args below meth c cells slots Q pc lv st σ g :=
  fun H locs ls hP hS hL => lv_iload_n C.1 C.2.1 d hi (lv_at hL q hq) (kk H locs ls hP hS hL)
theorem x_iload (C : gs_X E own cc nL p s m args meth c) {i : Nat} {x : Int32} (d : decode cc pc = .ok (.iload i, 2)) (q : Nat) (hq : lv[q]? = some (i, .int x)) (kk : gs_W E nL p l e R s m args below meth c cells slots Q (pc + 2) lv (.int x :: st) σ g) : gs_W E nL p l e R s m args below meth c cells slots Q pc lv st σ g :=
  fun H locs ls hP hS hL => lv_iload C.1 C.2.1 d (lv_at hL q hq) (kk H locs ls hP hS hL)
theorem x_istore_n (C : gs_X E own cc nL p s m args meth c) {k : Fin 4} {i : Nat} {x : Int32} {lv1 lv2 : List (Nat × Value)} (d : decode cc pc = .ok (.istore_n k, 1)) (hi : (k : Nat) = i) (hn : i < nL) (h1 : (i, Value.int x) :: lv.filter (fun q => !(q.1 == i) && !(q.1 + 1 == i && q.2.category == 2)) = lv1) (ks : List Nat) (h2 : lv_pick lv1 ks = lv2) (kk : gs_W E nL p l e R s m args below meth c cells slots Q (pc + 1) lv2 st σ g) : gs_W E nL p l e R s m args below meth c cells slots Q pc lv (.int x :: st) σ g :=
  fun H locs ls hP hS hL => lv_istore_n C.1 C.2.1 d hi hL hn h1 (fun ls2 hL2 => kk H locs ls2 hP hS (lv_sub hL2 ks h2))
theorem x_istore (C : gs_X E own cc nL p s m args meth c) {i : Nat} {x : Int32} {lv1 lv2 : List (Nat × Value)} (d : decode cc pc = .ok (.istore i, 2)) (hn : i < nL) (h1 : (i, Value.int x) :: lv.filter (fun q => !(q.1 == i) && !(q.1 + 1 == i && q.2.category == 2)) = lv1) (ks : List Nat) (h2 : lv_pick lv1 ks = lv2) (kk : gs_W E nL p l e R s m args below meth c cells slots Q (pc + 2) lv2 st σ g) : gs_W E nL p l e R s m args below meth c cells slots Q pc lv (.int x :: st) σ g :=
  fun H locs ls hP hS hL => lv_istore C.1 C.2.1 d hL hn h1 (fun ls2 hL2 => kk H locs ls2 hP hS (lv_sub hL2 ks h2))
theorem x_lload_n (C : gs_X E own cc nL p s m args meth c) {k : Fin 4} {i : Nat} {x : Int64} (d : decode cc pc = .ok (.lload_n k, 1)) (hi : (k : Nat) = i) (q : Nat) (hq : lv[q]? = some (i, .long x)) (kk : gs_W E nL p l e R s m args below meth c cells slots Q (pc + 1) lv (.long x :: st) σ g) : gs_W E nL p l e R s m args below meth c cells slots Q pc lv st σ g :=
  fun H locs ls hP hS hL => lv_lload_n C.1 C.2.1 d hi (lv_at hL q hq) (kk H locs ls hP hS hL)
theorem x_lload (C : gs_X E own cc nL p s m args meth c) {i : Nat} {x : Int64} (d : decode cc pc = .ok (.lload i, 2)) (q : Nat) (hq : lv[q]? = some (i, .long x)) (kk : gs_W E nL p l e R s m args below meth c cells slots Q (pc + 2) lv (.long x :: st) σ g) : gs_W E nL p l e R s m args below meth c cells slots Q pc lv st σ g :=
  fun H locs ls hP hS hL => lv_lload C.1 C.2.1 d (lv_at hL q hq) (kk H locs ls hP hS hL)
theorem x_lstore_n (C : gs_X E own cc nL p s m args meth c) {k : Fin 4} {i : Nat} {x : Int64} {lv1 lv2 : List (Nat × Value)} (d : decode cc pc = .ok (.lstore_n k, 1)) (hi : (k : Nat) = i) (hn : i + 1 < nL) (h1 : (i, Value.long x) :: lv.filter (fun q => !(q.1 == i) && (!(q.1 == i + 1) && !(q.1 + 1 == i && q.2.category == 2))) = lv1) (ks : List Nat) (h2 : lv_pick lv1 ks = lv2) (kk : gs_W E nL p l e R s m args below meth c cells slots Q (pc + 1) lv2 st σ g) : gs_W E nL p l e R s m args below meth c cells slots Q pc lv (.long x :: st) σ g :=
  fun H locs ls hP hS hL => lv_lstore_n C.1 C.2.1 d hi hL hn h1 (fun ls2 hL2 => kk H locs ls2 hP hS (lv_sub hL2 ks h2))
theorem x_lstore (C : gs_X E own cc nL p s m args meth c) {i : Nat} {x : Int64} {lv1 lv2 : List (Nat × Value)} (d : decode cc pc = .ok (.lstore i, 2)) (hn : i + 1 < nL) (h1 : (i, Value.long x) :: lv.filter (fun q => !(q.1 == i) && (!(q.1 == i + 1) && !(q.1 + 1 == i && q.2.category == 2))) = lv1) (ks : List Nat) (h2 : lv_pick lv1 ks = lv2) (kk : gs_W E nL p l e R s m args below meth c cells slots Q (pc + 2) lv2 st σ g) : gs_W E nL p l e R s m args below meth c cells slots Q pc lv (.long x :: st) σ g :=
  fun H locs ls hP hS hL => lv_lstore C.1 C.2.1 d hL hn h1 (fun ls2 hL2 => kk H locs ls2 hP hS (lv_sub hL2 ks h2))
theorem x_aload_n (C : gs_X E own cc nL p s m args meth c) {k : Fin 4} {i : Nat} {x : Nat} (d : decode cc pc = .ok (.aload_n k, 1)) (hi : (k : Nat) = i) (q : Nat) (hq : lv[q]? = some (i, .ref x)) (kk : gs_W E nL p l e R s m args below meth c cells slots Q (pc + 1) lv (.ref x :: st) σ g) : gs_W E nL p l e R s m args below meth c cells slots Q pc lv st σ g :=
  fun H locs ls hP hS hL => lv_aload_n C.1 C.2.1 d hi (lv_at hL q hq) (kk H locs ls hP hS hL)
theorem x_aload (C : gs_X E own cc nL p s m args meth c) {i : Nat} {x : Nat} (d : decode cc pc = .ok (.aload i, 2)) (q : Nat) (hq : lv[q]? = some (i, .ref x)) (kk : gs_W E nL p l e R s m args below meth c cells slots Q (pc + 2) lv (.ref x :: st) σ g) : gs_W E nL p l e R s m args below meth c cells slots Q pc lv st σ g :=
  fun H locs ls hP hS hL => lv_aload C.1 C.2.1 d (lv_at hL q hq) (kk H locs ls hP hS hL)
theorem x_astore_n (C : gs_X E own cc nL p s m args meth c) {k : Fin 4} {i : Nat} {x : Nat} {lv1 lv2 : List (Nat × Value)} (d : decode cc pc = .ok (.astore_n k, 1)) (hi : (k : Nat) = i) (hn : i < nL) (h1 : (i, Value.ref x) :: lv.filter (fun q => !(q.1 == i) && !(q.1 + 1 == i && q.2.category == 2)) = lv1) (ks : List Nat) (h2 : lv_pick lv1 ks = lv2) (kk : gs_W E nL p l e R s m args below meth c cells slots Q (pc + 1) lv2 st σ g) : gs_W E nL p l e R s m args below meth c cells slots Q pc lv (.ref x :: st) σ g :=
  fun H locs ls hP hS hL => lv_astore_n C.1 C.2.1 d hi hL hn h1 (fun ls2 hL2 => kk H locs ls2 hP hS (lv_sub hL2 ks h2))
theorem x_astore (C : gs_X E own cc nL p s m args meth c) {i : Nat} {x : Nat} {lv1 lv2 : List (Nat × Value)} (d : decode cc pc = .ok (.astore i, 2)) (hn : i < nL) (h1 : (i, Value.ref x) :: lv.filter (fun q => !(q.1 == i) && !(q.1 + 1 == i && q.2.category == 2)) = lv1) (ks : List Nat) (h2 : lv_pick lv1 ks = lv2) (kk : gs_W E nL p l e R s m args below meth c cells slots Q (pc + 2) lv2 st σ g) : gs_W E nL p l e R s m args below meth c cells slots Q pc lv (.ref x :: st) σ g :=
  fun H locs ls hP hS hL => lv_astore C.1 C.2.1 d hL hn h1 (fun ls2 hL2 => kk H locs ls2 hP hS (lv_sub hL2 ks h2))
theorem x_ldcw (C : gs_X E own cc nL p s m args meth c) {i : Nat} {v : Int32} (hw : Cond.constant own i v ∈ gs_B) (d : decode cc pc = .ok (.ldc_w i, 3)) (kk : gs_W E nL p l e R s m args below meth c cells slots Q (pc + 3) lv (.int v :: st) σ g) : gs_W E nL p l e R s m args below meth c cells slots Q pc lv st σ g :=
  fun H locs ls hP hS hL => lv_ldcw C.1 C.2.1 C.2.2.2.1 (C.2.2.2.2.1 _ hw) d (kk H locs ls hP hS hL)
theorem x_iushr (C : gs_X E own cc nL p s m args meth c) {x y : Int32} (d : decode cc pc = .ok (.iushr, 1)) (kk : gs_W E nL p l e R s m args below meth c cells slots Q (pc + 1) lv (.int (x.toUInt32 >>> (y.toUInt32 &&& Int32.toUInt32 31)).toInt32 :: st) σ g) : gs_W E nL p l e R s m args below meth c cells slots Q pc lv (.int y :: .int x :: st) σ g :=
  fun H locs ls hP hS hL => lv_iushr C.1 C.2.1 d rfl (kk H locs ls hP hS hL)
theorem x_iinc (C : gs_X E own cc nL p s m args meth c) {i : Nat} {n : Int} {x v : Int32} {lv1 lv2 : List (Nat × Value)} (d : decode cc pc = .ok (.iinc i n, 3)) (q : Nat) (hq : lv[q]? = some (i, .int x)) (hv : x + Int32.ofInt n = v) (hn : i < nL) (h1 : (i, Value.int v) :: lv.filter (fun q => !(q.1 == i) && !(q.1 + 1 == i && q.2.category == 2)) = lv1) (ks : List Nat) (h2 : lv_pick lv1 ks = lv2) (kk : gs_W E nL p l e R s m args below meth c cells slots Q (pc + 3) lv2 st σ g) : gs_W E nL p l e R s m args below meth c cells slots Q pc lv st σ g :=
  fun H locs ls hP hS hL => lv_iinc C.1 C.2.1 d hL hq hv hn h1 (fun ls2 hL2 => kk H locs ls2 hP hS (lv_sub hL2 ks h2))
theorem x_iadd (C : gs_X E own cc nL p s m args meth c) {x y : Int32} (d : decode cc pc = .ok (.iadd, 1)) (kk : gs_W E nL p l e R s m args below meth c cells slots Q (pc + 1) lv (.int (x + y) :: st) σ g) : gs_W E nL p l e R s m args below meth c cells slots Q pc lv (.int y :: .int x :: st) σ g :=
  fun H locs ls hP hS hL => lv_iadd C.1 C.2.1 d (kk H locs ls hP hS hL)
theorem x_isub (C : gs_X E own cc nL p s m args meth c) {x y : Int32} (d : decode cc pc = .ok (.isub, 1)) (kk : gs_W E nL p l e R s m args below meth c cells slots Q (pc + 1) lv (.int (x - y) :: st) σ g) : gs_W E nL p l e R s m args below meth c cells slots Q pc lv (.int y :: .int x :: st) σ g :=
  fun H locs ls hP hS hL => lv_isub C.1 C.2.1 d (kk H locs ls hP hS hL)
theorem x_imul (C : gs_X E own cc nL p s m args meth c) {x y : Int32} (d : decode cc pc = .ok (.imul, 1)) (kk : gs_W E nL p l e R s m args below meth c cells slots Q (pc + 1) lv (.int (x * y) :: st) σ g) : gs_W E nL p l e R s m args below meth c cells slots Q pc lv (.int y :: .int x :: st) σ g :=
  fun H locs ls hP hS hL => lv_imul C.1 C.2.1 d (kk H locs ls hP hS hL)
theorem x_iand (C : gs_X E own cc nL p s m args meth c) {x y : Int32} (d : decode cc pc = .ok (.iand, 1)) (kk : gs_W E nL p l e R s m args below meth c cells slots Q (pc + 1) lv (.int (x &&& y) :: st) σ g) : gs_W E nL p l e R s m args below meth c cells slots Q pc lv (.int y :: .int x :: st) σ g :=
  fun H locs ls hP hS hL => lv_iand C.1 C.2.1 d (kk H locs ls hP hS hL)
theorem x_ior (C : gs_X E own cc nL p s m args meth c) {x y : Int32} (d : decode cc pc = .ok (.ior, 1)) (kk : gs_W E nL p l e R s m args below meth c cells slots Q (pc + 1) lv (.int (x ||| y) :: st) σ g) : gs_W E nL p l e R s m args below meth c cells slots Q pc lv (.int y :: .int x :: st) σ g :=
  fun H locs ls hP hS hL => lv_ior C.1 C.2.1 d (kk H locs ls hP hS hL)
theorem x_ishl (C : gs_X E own cc nL p s m args meth c) {x y : Int32} (d : decode cc pc = .ok (.ishl, 1)) (kk : gs_W E nL p l e R s m args below meth c cells slots Q (pc + 1) lv (.int (x <<< (y &&& 31)) :: st) σ g) : gs_W E nL p l e R s m args below meth c cells slots Q pc lv (.int y :: .int x :: st) σ g :=
  fun H locs ls hP hS hL => lv_ishl C.1 C.2.1 d (kk H locs ls hP hS hL)
theorem x_ishr (C : gs_X E own cc nL p s m args meth c) {x y : Int32} (d : decode cc pc = .ok (.ishr, 1)) (kk : gs_W E nL p l e R s m args below meth c cells slots Q (pc + 1) lv (.int (x >>> (y &&& 31)) :: st) σ g) : gs_W E nL p l e R s m args below meth c cells slots Q pc lv (.int y :: .int x :: st) σ g :=
  fun H locs ls hP hS hL => lv_ishr C.1 C.2.1 d (kk H locs ls hP hS hL)
theorem x_idiv (C : gs_X E own cc nL p s m args meth c) {x y : Int32} (d : decode cc pc = .ok (.idiv, 1)) (hne : ¬ y = 0) (kk : gs_W E nL p l e R s m args below meth c cells slots Q (pc + 1) lv (.int (x / y) :: st) σ g) : gs_W E nL p l e R s m args below meth c cells slots Q pc lv (.int y :: .int x :: st) σ g :=
  fun H locs ls hP hS hL => lv_idiv C.1 C.2.1 d hne (kk H locs ls hP hS hL)
theorem x_irem (C : gs_X E own cc nL p s m args meth c) {x y : Int32} (d : decode cc pc = .ok (.irem, 1)) (hne : ¬ y = 0) (kk : gs_W E nL p l e R s m args below meth c cells slots Q (pc + 1) lv (.int (x - x / y * y) :: st) σ g) : gs_W E nL p l e R s m args below meth c cells slots Q pc lv (.int y :: .int x :: st) σ g :=
  fun H locs ls hP hS hL => lv_irem C.1 C.2.1 d hne (kk H locs ls hP hS hL)
theorem x_ladd (C : gs_X E own cc nL p s m args meth c) {x y : Int64} (d : decode cc pc = .ok (.ladd, 1)) (kk : gs_W E nL p l e R s m args below meth c cells slots Q (pc + 1) lv (.long (x + y) :: st) σ g) : gs_W E nL p l e R s m args below meth c cells slots Q pc lv (.long y :: .long x :: st) σ g :=
  fun H locs ls hP hS hL => lv_ladd C.1 C.2.1 d (kk H locs ls hP hS hL)
theorem x_lmul (C : gs_X E own cc nL p s m args meth c) {x y : Int64} (d : decode cc pc = .ok (.lmul, 1)) (kk : gs_W E nL p l e R s m args below meth c cells slots Q (pc + 1) lv (.long (x * y) :: st) σ g) : gs_W E nL p l e R s m args below meth c cells slots Q pc lv (.long y :: .long x :: st) σ g :=
  fun H locs ls hP hS hL => lv_lmul C.1 C.2.1 d (kk H locs ls hP hS hL)
theorem x_land (C : gs_X E own cc nL p s m args meth c) {x y : Int64} (d : decode cc pc = .ok (.land, 1)) (kk : gs_W E nL p l e R s m args below meth c cells slots Q (pc + 1) lv (.long (x &&& y) :: st) σ g) : gs_W E nL p l e R s m args below meth c cells slots Q pc lv (.long y :: .long x :: st) σ g :=
  fun H locs ls hP hS hL => lv_land C.1 C.2.1 d (kk H locs ls hP hS hL)
theorem x_lcmp (C : gs_X E own cc nL p s m args meth c) {x y : Int64} (d : decode cc pc = .ok (.lcmp, 1)) (kk : gs_W E nL p l e R s m args below meth c cells slots Q (pc + 1) lv (.int (lg_cmp x y) :: st) σ g) : gs_W E nL p l e R s m args below meth c cells slots Q pc lv (.long y :: .long x :: st) σ g :=
  fun H locs ls hP hS hL => W.lcmp C.1 C.2.1 d (kk H locs ls hP hS hL)
theorem x_ineg (C : gs_X E own cc nL p s m args meth c) {x : Int32} (d : decode cc pc = .ok (.ineg, 1)) (kk : gs_W E nL p l e R s m args below meth c cells slots Q (pc + 1) lv (.int (-x) :: st) σ g) : gs_W E nL p l e R s m args below meth c cells slots Q pc lv (.int x :: st) σ g :=
  fun H locs ls hP hS hL => lv_ineg C.1 C.2.1 d (kk H locs ls hP hS hL)
theorem x_i2l (C : gs_X E own cc nL p s m args meth c) {x : Int32} (d : decode cc pc = .ok (.i2l, 1)) (kk : gs_W E nL p l e R s m args below meth c cells slots Q (pc + 1) lv (.long x.toInt64 :: st) σ g) : gs_W E nL p l e R s m args below meth c cells slots Q pc lv (.int x :: st) σ g :=
  fun H locs ls hP hS hL => lv_i2l C.1 C.2.1 d rfl (kk H locs ls hP hS hL)
theorem x_l2i (C : gs_X E own cc nL p s m args meth c) {x : Int64} (d : decode cc pc = .ok (.l2i, 1)) (kk : gs_W E nL p l e R s m args below meth c cells slots Q (pc + 1) lv (.int x.toInt32 :: st) σ g) : gs_W E nL p l e R s m args below meth c cells slots Q pc lv (.long x :: st) σ g :=
  fun H locs ls hP hS hL => lv_l2i C.1 C.2.1 d rfl (kk H locs ls hP hS hL)
theorem x_i2c (C : gs_X E own cc nL p s m args meth c) {x : Int32} (d : decode cc pc = .ok (.i2c, 1)) (kk : gs_W E nL p l e R s m args below meth c cells slots Q (pc + 1) lv (.int (x.toUInt32 % 65536).toInt32 :: st) σ g) : gs_W E nL p l e R s m args below meth c cells slots Q pc lv (.int x :: st) σ g :=
  fun H locs ls hP hS hL => lv_i2c C.1 C.2.1 d rfl (kk H locs ls hP hS hL)
theorem x_dup (C : gs_X E own cc nL p s m args meth c) {v : Value} (d : decode cc pc = .ok (.dup, 1)) (hv : v.category = 1) (kk : gs_W E nL p l e R s m args below meth c cells slots Q (pc + 1) lv (v :: v :: st) σ g) : gs_W E nL p l e R s m args below meth c cells slots Q pc lv (v :: st) σ g :=
  fun H locs ls hP hS hL => lv_dup C.1 C.2.1 d hv (kk H locs ls hP hS hL)
theorem x_pop (C : gs_X E own cc nL p s m args meth c) {v : Value} (d : decode cc pc = .ok (.pop, 1)) (hv : v.category = 1) (kk : gs_W E nL p l e R s m args below meth c cells slots Q (pc + 1) lv st σ g) : gs_W E nL p l e R s m args below meth c cells slots Q pc lv (v :: st) σ g :=
  fun H locs ls hP hS hL => lv_pop C.1 C.2.1 d hv (kk H locs ls hP hS hL)
theorem x_if_eq (C : gs_X E own cc nL p s m args meth c) {x : Int32} {off : Int} {tgt : Nat} (d : decode cc pc = .ok (.ifCond .eq off, 3)) (ht : (pc : Int) + off = (tgt : Int)) (kt : x = 0 → gs_W E nL p l e R s m args below meth c cells slots Q tgt lv st σ g) (kf : ¬ x = 0 → gs_W E nL p l e R s m args below meth c cells slots Q (pc + 3) lv st σ g) : gs_W E nL p l e R s m args below meth c cells slots Q pc lv (.int x :: st) σ g :=
  fun H locs ls hP hS hL => lv_if_eq C.1 C.2.1 d ht (fun h => kt h H locs ls hP hS hL) (fun h => kf h H locs ls hP hS hL)
theorem x_if_eqT (C : gs_X E own cc nL p s m args meth c) {x : Int32} {off : Int} {tgt : Nat} (d : decode cc pc = .ok (.ifCond .eq off, 3)) (ht : (pc : Int) + off = (tgt : Int)) (h : x = 0) (kk : gs_W E nL p l e R s m args below meth c cells slots Q tgt lv st σ g) : gs_W E nL p l e R s m args below meth c cells slots Q pc lv (.int x :: st) σ g := x_if_eq C d ht (fun _ => kk) (fun q => absurd h (by first | exact q | exact fun z => z q))
theorem x_if_eqF (C : gs_X E own cc nL p s m args meth c) {x : Int32} {off : Int} {tgt : Nat} (d : decode cc pc = .ok (.ifCond .eq off, 3)) (ht : (pc : Int) + off = (tgt : Int)) (h : ¬ x = 0) (kk : gs_W E nL p l e R s m args below meth c cells slots Q (pc + 3) lv st σ g) : gs_W E nL p l e R s m args below meth c cells slots Q pc lv (.int x :: st) σ g := x_if_eq C d ht (fun q => absurd h (by first | exact fun z => z q | exact q)) (fun _ => kk)
theorem x_icmp_eq (C : gs_X E own cc nL p s m args meth c) {x y : Int32} {off : Int} {tgt : Nat} (d : decode cc pc = .ok (.if_icmp .eq off, 3)) (ht : (pc : Int) + off = (tgt : Int)) (kt : x = y → gs_W E nL p l e R s m args below meth c cells slots Q tgt lv st σ g) (kf : ¬ x = y → gs_W E nL p l e R s m args below meth c cells slots Q (pc + 3) lv st σ g) : gs_W E nL p l e R s m args below meth c cells slots Q pc lv (.int y :: .int x :: st) σ g :=
  fun H locs ls hP hS hL => lv_icmp_eq C.1 C.2.1 d ht (fun h => kt h H locs ls hP hS hL) (fun h => kf h H locs ls hP hS hL)
theorem x_icmp_eqT (C : gs_X E own cc nL p s m args meth c) {x y : Int32} {off : Int} {tgt : Nat} (d : decode cc pc = .ok (.if_icmp .eq off, 3)) (ht : (pc : Int) + off = (tgt : Int)) (h : x = y) (kk : gs_W E nL p l e R s m args below meth c cells slots Q tgt lv st σ g) : gs_W E nL p l e R s m args below meth c cells slots Q pc lv (.int y :: .int x :: st) σ g := x_icmp_eq C d ht (fun _ => kk) (fun q => absurd h (by first | exact q | exact fun z => z q))
theorem x_icmp_eqF (C : gs_X E own cc nL p s m args meth c) {x y : Int32} {off : Int} {tgt : Nat} (d : decode cc pc = .ok (.if_icmp .eq off, 3)) (ht : (pc : Int) + off = (tgt : Int)) (h : ¬ x = y) (kk : gs_W E nL p l e R s m args below meth c cells slots Q (pc + 3) lv st σ g) : gs_W E nL p l e R s m args below meth c cells slots Q pc lv (.int y :: .int x :: st) σ g := x_icmp_eq C d ht (fun q => absurd h (by first | exact fun z => z q | exact q)) (fun _ => kk)
theorem x_if_ne (C : gs_X E own cc nL p s m args meth c) {x : Int32} {off : Int} {tgt : Nat} (d : decode cc pc = .ok (.ifCond .ne off, 3)) (ht : (pc : Int) + off = (tgt : Int)) (kt : ¬ x = 0 → gs_W E nL p l e R s m args below meth c cells slots Q tgt lv st σ g) (kf : x = 0 → gs_W E nL p l e R s m args below meth c cells slots Q (pc + 3) lv st σ g) : gs_W E nL p l e R s m args below meth c cells slots Q pc lv (.int x :: st) σ g :=
  fun H locs ls hP hS hL => lv_if_ne C.1 C.2.1 d ht (fun h => kt h H locs ls hP hS hL) (fun h => kf h H locs ls hP hS hL)
theorem x_if_neT (C : gs_X E own cc nL p s m args meth c) {x : Int32} {off : Int} {tgt : Nat} (d : decode cc pc = .ok (.ifCond .ne off, 3)) (ht : (pc : Int) + off = (tgt : Int)) (h : ¬ x = 0) (kk : gs_W E nL p l e R s m args below meth c cells slots Q tgt lv st σ g) : gs_W E nL p l e R s m args below meth c cells slots Q pc lv (.int x :: st) σ g := x_if_ne C d ht (fun _ => kk) (fun q => absurd h (by first | exact q | exact fun z => z q))
theorem x_if_neF (C : gs_X E own cc nL p s m args meth c) {x : Int32} {off : Int} {tgt : Nat} (d : decode cc pc = .ok (.ifCond .ne off, 3)) (ht : (pc : Int) + off = (tgt : Int)) (h : x = 0) (kk : gs_W E nL p l e R s m args below meth c cells slots Q (pc + 3) lv st σ g) : gs_W E nL p l e R s m args below meth c cells slots Q pc lv (.int x :: st) σ g := x_if_ne C d ht (fun q => absurd h (by first | exact fun z => z q | exact q)) (fun _ => kk)
theorem x_icmp_ne (C : gs_X E own cc nL p s m args meth c) {x y : Int32} {off : Int} {tgt : Nat} (d : decode cc pc = .ok (.if_icmp .ne off, 3)) (ht : (pc : Int) + off = (tgt : Int)) (kt : ¬ x = y → gs_W E nL p l e R s m args below meth c cells slots Q tgt lv st σ g) (kf : x = y → gs_W E nL p l e R s m args below meth c cells slots Q (pc + 3) lv st σ g) : gs_W E nL p l e R s m args below meth c cells slots Q pc lv (.int y :: .int x :: st) σ g :=
  fun H locs ls hP hS hL => lv_icmp_ne C.1 C.2.1 d ht (fun h => kt h H locs ls hP hS hL) (fun h => kf h H locs ls hP hS hL)
theorem x_icmp_neT (C : gs_X E own cc nL p s m args meth c) {x y : Int32} {off : Int} {tgt : Nat} (d : decode cc pc = .ok (.if_icmp .ne off, 3)) (ht : (pc : Int) + off = (tgt : Int)) (h : ¬ x = y) (kk : gs_W E nL p l e R s m args below meth c cells slots Q tgt lv st σ g) : gs_W E nL p l e R s m args below meth c cells slots Q pc lv (.int y :: .int x :: st) σ g := x_icmp_ne C d ht (fun _ => kk) (fun q => absurd h (by first | exact q | exact fun z => z q))
theorem x_icmp_neF (C : gs_X E own cc nL p s m args meth c) {x y : Int32} {off : Int} {tgt : Nat} (d : decode cc pc = .ok (.if_icmp .ne off, 3)) (ht : (pc : Int) + off = (tgt : Int)) (h : x = y) (kk : gs_W E nL p l e R s m args below meth c cells slots Q (pc + 3) lv st σ g) : gs_W E nL p l e R s m args below meth c cells slots Q pc lv (.int y :: .int x :: st) σ g := x_icmp_ne C d ht (fun q => absurd h (by first | exact fun z => z q | exact q)) (fun _ => kk)
theorem x_if_lt (C : gs_X E own cc nL p s m args meth c) {x : Int32} {off : Int} {tgt : Nat} (d : decode cc pc = .ok (.ifCond .lt off, 3)) (ht : (pc : Int) + off = (tgt : Int)) (kt : x < 0 → gs_W E nL p l e R s m args below meth c cells slots Q tgt lv st σ g) (kf : ¬ x < 0 → gs_W E nL p l e R s m args below meth c cells slots Q (pc + 3) lv st σ g) : gs_W E nL p l e R s m args below meth c cells slots Q pc lv (.int x :: st) σ g :=
  fun H locs ls hP hS hL => lv_if_lt C.1 C.2.1 d ht (fun h => kt h H locs ls hP hS hL) (fun h => kf h H locs ls hP hS hL)
theorem x_if_ltT (C : gs_X E own cc nL p s m args meth c) {x : Int32} {off : Int} {tgt : Nat} (d : decode cc pc = .ok (.ifCond .lt off, 3)) (ht : (pc : Int) + off = (tgt : Int)) (h : x < 0) (kk : gs_W E nL p l e R s m args below meth c cells slots Q tgt lv st σ g) : gs_W E nL p l e R s m args below meth c cells slots Q pc lv (.int x :: st) σ g := x_if_lt C d ht (fun _ => kk) (fun q => absurd h (by first | exact q | exact fun z => z q))
theorem x_if_ltF (C : gs_X E own cc nL p s m args meth c) {x : Int32} {off : Int} {tgt : Nat} (d : decode cc pc = .ok (.ifCond .lt off, 3)) (ht : (pc : Int) + off = (tgt : Int)) (h : ¬ x < 0) (kk : gs_W E nL p l e R s m args below meth c cells slots Q (pc + 3) lv st σ g) : gs_W E nL p l e R s m args below meth c cells slots Q pc lv (.int x :: st) σ g := x_if_lt C d ht (fun q => absurd h (by first | exact fun z => z q | exact q)) (fun _ => kk)
theorem x_icmp_lt (C : gs_X E own cc nL p s m args meth c) {x y : Int32} {off : Int} {tgt : Nat} (d : decode cc pc = .ok (.if_icmp .lt off, 3)) (ht : (pc : Int) + off = (tgt : Int)) (kt : x < y → gs_W E nL p l e R s m args below meth c cells slots Q tgt lv st σ g) (kf : ¬ x < y → gs_W E nL p l e R s m args below meth c cells slots Q (pc + 3) lv st σ g) : gs_W E nL p l e R s m args below meth c cells slots Q pc lv (.int y :: .int x :: st) σ g :=
  fun H locs ls hP hS hL => lv_icmp_lt C.1 C.2.1 d ht (fun h => kt h H locs ls hP hS hL) (fun h => kf h H locs ls hP hS hL)
theorem x_icmp_ltT (C : gs_X E own cc nL p s m args meth c) {x y : Int32} {off : Int} {tgt : Nat} (d : decode cc pc = .ok (.if_icmp .lt off, 3)) (ht : (pc : Int) + off = (tgt : Int)) (h : x < y) (kk : gs_W E nL p l e R s m args below meth c cells slots Q tgt lv st σ g) : gs_W E nL p l e R s m args below meth c cells slots Q pc lv (.int y :: .int x :: st) σ g := x_icmp_lt C d ht (fun _ => kk) (fun q => absurd h (by first | exact q | exact fun z => z q))
theorem x_icmp_ltF (C : gs_X E own cc nL p s m args meth c) {x y : Int32} {off : Int} {tgt : Nat} (d : decode cc pc = .ok (.if_icmp .lt off, 3)) (ht : (pc : Int) + off = (tgt : Int)) (h : ¬ x < y) (kk : gs_W E nL p l e R s m args below meth c cells slots Q (pc + 3) lv st σ g) : gs_W E nL p l e R s m args below meth c cells slots Q pc lv (.int y :: .int x :: st) σ g := x_icmp_lt C d ht (fun q => absurd h (by first | exact fun z => z q | exact q)) (fun _ => kk)
theorem x_if_ge (C : gs_X E own cc nL p s m args meth c) {x : Int32} {off : Int} {tgt : Nat} (d : decode cc pc = .ok (.ifCond .ge off, 3)) (ht : (pc : Int) + off = (tgt : Int)) (kt : 0 ≤ x → gs_W E nL p l e R s m args below meth c cells slots Q tgt lv st σ g) (kf : ¬ 0 ≤ x → gs_W E nL p l e R s m args below meth c cells slots Q (pc + 3) lv st σ g) : gs_W E nL p l e R s m args below meth c cells slots Q pc lv (.int x :: st) σ g :=
  fun H locs ls hP hS hL => lv_if_ge C.1 C.2.1 d ht (fun h => kt h H locs ls hP hS hL) (fun h => kf h H locs ls hP hS hL)
theorem x_if_geT (C : gs_X E own cc nL p s m args meth c) {x : Int32} {off : Int} {tgt : Nat} (d : decode cc pc = .ok (.ifCond .ge off, 3)) (ht : (pc : Int) + off = (tgt : Int)) (h : 0 ≤ x) (kk : gs_W E nL p l e R s m args below meth c cells slots Q tgt lv st σ g) : gs_W E nL p l e R s m args below meth c cells slots Q pc lv (.int x :: st) σ g := x_if_ge C d ht (fun _ => kk) (fun q => absurd h (by first | exact q | exact fun z => z q))
theorem x_if_geF (C : gs_X E own cc nL p s m args meth c) {x : Int32} {off : Int} {tgt : Nat} (d : decode cc pc = .ok (.ifCond .ge off, 3)) (ht : (pc : Int) + off = (tgt : Int)) (h : ¬ 0 ≤ x) (kk : gs_W E nL p l e R s m args below meth c cells slots Q (pc + 3) lv st σ g) : gs_W E nL p l e R s m args below meth c cells slots Q pc lv (.int x :: st) σ g := x_if_ge C d ht (fun q => absurd h (by first | exact fun z => z q | exact q)) (fun _ => kk)
theorem x_icmp_ge (C : gs_X E own cc nL p s m args meth c) {x y : Int32} {off : Int} {tgt : Nat} (d : decode cc pc = .ok (.if_icmp .ge off, 3)) (ht : (pc : Int) + off = (tgt : Int)) (kt : y ≤ x → gs_W E nL p l e R s m args below meth c cells slots Q tgt lv st σ g) (kf : ¬ y ≤ x → gs_W E nL p l e R s m args below meth c cells slots Q (pc + 3) lv st σ g) : gs_W E nL p l e R s m args below meth c cells slots Q pc lv (.int y :: .int x :: st) σ g :=
  fun H locs ls hP hS hL => lv_icmp_ge C.1 C.2.1 d ht (fun h => kt h H locs ls hP hS hL) (fun h => kf h H locs ls hP hS hL)
theorem x_icmp_geT (C : gs_X E own cc nL p s m args meth c) {x y : Int32} {off : Int} {tgt : Nat} (d : decode cc pc = .ok (.if_icmp .ge off, 3)) (ht : (pc : Int) + off = (tgt : Int)) (h : y ≤ x) (kk : gs_W E nL p l e R s m args below meth c cells slots Q tgt lv st σ g) : gs_W E nL p l e R s m args below meth c cells slots Q pc lv (.int y :: .int x :: st) σ g := x_icmp_ge C d ht (fun _ => kk) (fun q => absurd h (by first | exact q | exact fun z => z q))
theorem x_icmp_geF (C : gs_X E own cc nL p s m args meth c) {x y : Int32} {off : Int} {tgt : Nat} (d : decode cc pc = .ok (.if_icmp .ge off, 3)) (ht : (pc : Int) + off = (tgt : Int)) (h : ¬ y ≤ x) (kk : gs_W E nL p l e R s m args below meth c cells slots Q (pc + 3) lv st σ g) : gs_W E nL p l e R s m args below meth c cells slots Q pc lv (.int y :: .int x :: st) σ g := x_icmp_ge C d ht (fun q => absurd h (by first | exact fun z => z q | exact q)) (fun _ => kk)
theorem x_if_gt (C : gs_X E own cc nL p s m args meth c) {x : Int32} {off : Int} {tgt : Nat} (d : decode cc pc = .ok (.ifCond .gt off, 3)) (ht : (pc : Int) + off = (tgt : Int)) (kt : 0 < x → gs_W E nL p l e R s m args below meth c cells slots Q tgt lv st σ g) (kf : ¬ 0 < x → gs_W E nL p l e R s m args below meth c cells slots Q (pc + 3) lv st σ g) : gs_W E nL p l e R s m args below meth c cells slots Q pc lv (.int x :: st) σ g :=
  fun H locs ls hP hS hL => lv_if_gt C.1 C.2.1 d ht (fun h => kt h H locs ls hP hS hL) (fun h => kf h H locs ls hP hS hL)
theorem x_if_gtT (C : gs_X E own cc nL p s m args meth c) {x : Int32} {off : Int} {tgt : Nat} (d : decode cc pc = .ok (.ifCond .gt off, 3)) (ht : (pc : Int) + off = (tgt : Int)) (h : 0 < x) (kk : gs_W E nL p l e R s m args below meth c cells slots Q tgt lv st σ g) : gs_W E nL p l e R s m args below meth c cells slots Q pc lv (.int x :: st) σ g := x_if_gt C d ht (fun _ => kk) (fun q => absurd h (by first | exact q | exact fun z => z q))
theorem x_if_gtF (C : gs_X E own cc nL p s m args meth c) {x : Int32} {off : Int} {tgt : Nat} (d : decode cc pc = .ok (.ifCond .gt off, 3)) (ht : (pc : Int) + off = (tgt : Int)) (h : ¬ 0 < x) (kk : gs_W E nL p l e R s m args below meth c cells slots Q (pc + 3) lv st σ g) : gs_W E nL p l e R s m args below meth c cells slots Q pc lv (.int x :: st) σ g := x_if_gt C d ht (fun q => absurd h (by first | exact fun z => z q | exact q)) (fun _ => kk)
theorem x_icmp_gt (C : gs_X E own cc nL p s m args meth c) {x y : Int32} {off : Int} {tgt : Nat} (d : decode cc pc = .ok (.if_icmp .gt off, 3)) (ht : (pc : Int) + off = (tgt : Int)) (kt : y < x → gs_W E nL p l e R s m args below meth c cells slots Q tgt lv st σ g) (kf : ¬ y < x → gs_W E nL p l e R s m args below meth c cells slots Q (pc + 3) lv st σ g) : gs_W E nL p l e R s m args below meth c cells slots Q pc lv (.int y :: .int x :: st) σ g :=
  fun H locs ls hP hS hL => lv_icmp_gt C.1 C.2.1 d ht (fun h => kt h H locs ls hP hS hL) (fun h => kf h H locs ls hP hS hL)
theorem x_icmp_gtT (C : gs_X E own cc nL p s m args meth c) {x y : Int32} {off : Int} {tgt : Nat} (d : decode cc pc = .ok (.if_icmp .gt off, 3)) (ht : (pc : Int) + off = (tgt : Int)) (h : y < x) (kk : gs_W E nL p l e R s m args below meth c cells slots Q tgt lv st σ g) : gs_W E nL p l e R s m args below meth c cells slots Q pc lv (.int y :: .int x :: st) σ g := x_icmp_gt C d ht (fun _ => kk) (fun q => absurd h (by first | exact q | exact fun z => z q))
theorem x_icmp_gtF (C : gs_X E own cc nL p s m args meth c) {x y : Int32} {off : Int} {tgt : Nat} (d : decode cc pc = .ok (.if_icmp .gt off, 3)) (ht : (pc : Int) + off = (tgt : Int)) (h : ¬ y < x) (kk : gs_W E nL p l e R s m args below meth c cells slots Q (pc + 3) lv st σ g) : gs_W E nL p l e R s m args below meth c cells slots Q pc lv (.int y :: .int x :: st) σ g := x_icmp_gt C d ht (fun q => absurd h (by first | exact fun z => z q | exact q)) (fun _ => kk)
theorem x_if_le (C : gs_X E own cc nL p s m args meth c) {x : Int32} {off : Int} {tgt : Nat} (d : decode cc pc = .ok (.ifCond .le off, 3)) (ht : (pc : Int) + off = (tgt : Int)) (kt : x ≤ 0 → gs_W E nL p l e R s m args below meth c cells slots Q tgt lv st σ g) (kf : ¬ x ≤ 0 → gs_W E nL p l e R s m args below meth c cells slots Q (pc + 3) lv st σ g) : gs_W E nL p l e R s m args below meth c cells slots Q pc lv (.int x :: st) σ g :=
  fun H locs ls hP hS hL => lv_if_le C.1 C.2.1 d ht (fun h => kt h H locs ls hP hS hL) (fun h => kf h H locs ls hP hS hL)
theorem x_if_leT (C : gs_X E own cc nL p s m args meth c) {x : Int32} {off : Int} {tgt : Nat} (d : decode cc pc = .ok (.ifCond .le off, 3)) (ht : (pc : Int) + off = (tgt : Int)) (h : x ≤ 0) (kk : gs_W E nL p l e R s m args below meth c cells slots Q tgt lv st σ g) : gs_W E nL p l e R s m args below meth c cells slots Q pc lv (.int x :: st) σ g := x_if_le C d ht (fun _ => kk) (fun q => absurd h (by first | exact q | exact fun z => z q))
theorem x_if_leF (C : gs_X E own cc nL p s m args meth c) {x : Int32} {off : Int} {tgt : Nat} (d : decode cc pc = .ok (.ifCond .le off, 3)) (ht : (pc : Int) + off = (tgt : Int)) (h : ¬ x ≤ 0) (kk : gs_W E nL p l e R s m args below meth c cells slots Q (pc + 3) lv st σ g) : gs_W E nL p l e R s m args below meth c cells slots Q pc lv (.int x :: st) σ g := x_if_le C d ht (fun q => absurd h (by first | exact fun z => z q | exact q)) (fun _ => kk)
theorem x_icmp_le (C : gs_X E own cc nL p s m args meth c) {x y : Int32} {off : Int} {tgt : Nat} (d : decode cc pc = .ok (.if_icmp .le off, 3)) (ht : (pc : Int) + off = (tgt : Int)) (kt : x ≤ y → gs_W E nL p l e R s m args below meth c cells slots Q tgt lv st σ g) (kf : ¬ x ≤ y → gs_W E nL p l e R s m args below meth c cells slots Q (pc + 3) lv st σ g) : gs_W E nL p l e R s m args below meth c cells slots Q pc lv (.int y :: .int x :: st) σ g :=
  fun H locs ls hP hS hL => lv_icmp_le C.1 C.2.1 d ht (fun h => kt h H locs ls hP hS hL) (fun h => kf h H locs ls hP hS hL)
theorem x_icmp_leT (C : gs_X E own cc nL p s m args meth c) {x y : Int32} {off : Int} {tgt : Nat} (d : decode cc pc = .ok (.if_icmp .le off, 3)) (ht : (pc : Int) + off = (tgt : Int)) (h : x ≤ y) (kk : gs_W E nL p l e R s m args below meth c cells slots Q tgt lv st σ g) : gs_W E nL p l e R s m args below meth c cells slots Q pc lv (.int y :: .int x :: st) σ g := x_icmp_le C d ht (fun _ => kk) (fun q => absurd h (by first | exact q | exact fun z => z q))
theorem x_icmp_leF (C : gs_X E own cc nL p s m args meth c) {x y : Int32} {off : Int} {tgt : Nat} (d : decode cc pc = .ok (.if_icmp .le off, 3)) (ht : (pc : Int) + off = (tgt : Int)) (h : ¬ x ≤ y) (kk : gs_W E nL p l e R s m args below meth c cells slots Q (pc + 3) lv st σ g) : gs_W E nL p l e R s m args below meth c cells slots Q pc lv (.int y :: .int x :: st) σ g := x_icmp_le C d ht (fun q => absurd h (by first | exact fun z => z q | exact q)) (fun _ => kk)
theorem x_goto (C : gs_X E own cc nL p s m args meth c) {off : Int} {tgt : Nat} (d : decode cc pc = .ok (.goto off, 3)) (ht : (pc : Int) + off = (tgt : Int)) (kk : gs_W E nL p l e R s m args below meth c cells slots Q tgt lv st σ g) : gs_W E nL p l e R s m args below meth c cells slots Q pc lv st σ g :=
  fun H locs ls hP hS hL => lv_goto C.1 C.2.1 d ht (kk H locs ls hP hS hL)
theorem x_tsw (C : gs_X E own cc nL p s m args meth c) {dflt lo hi : Int} {offs : Array Int} {len : Nat} {x : Int32} {tgt : Nat} (d : decode cc pc = .ok (.tableswitch dflt lo hi offs, len)) (v : Int32) (hx : x = v) {off : Int} (h1 : ¬ v.toInt < lo) (h2 : ¬ hi < v.toInt) (ho : offs[(v.toInt - lo).toNat]? = some off) (ht : (pc : Int) + off = (tgt : Int)) (kk : gs_W E nL p l e R s m args below meth c cells slots Q tgt lv st σ g) : gs_W E nL p l e R s m args below meth c cells slots Q pc lv (.int x :: st) σ g := by
  subst hx
  exact fun H locs ls hP hS hL => lv_tableIn C.1 C.2.1 d h1 h2 ho ht (kk H locs ls hP hS hL)
theorem x_tswD (C : gs_X E own cc nL p s m args meth c) {dflt lo hi : Int} {offs : Array Int} {len : Nat} {x : Int32} {tgt : Nat} (d : decode cc pc = .ok (.tableswitch dflt lo hi offs, len)) (h : x.toInt < lo ∨ hi < x.toInt) (ht : (pc : Int) + dflt = (tgt : Int)) (kk : gs_W E nL p l e R s m args below meth c cells slots Q tgt lv st σ g) : gs_W E nL p l e R s m args below meth c cells slots Q pc lv (.int x :: st) σ g :=
  fun H locs ls hP hS hL => lv_tableOut C.1 C.2.1 d h ht (kk H locs ls hP hS hL)
theorem x_lsw (C : gs_X E own cc nL p s m args meth c) {dflt : Int} {ps : Array (Int × Int)} {len : Nat} {x : Int32} {off : Int} {tgt : Nat} (d : decode cc pc = .ok (.lookupswitch dflt ps, len)) (hp : (ps.toList.zip (ps.toList.drop 1)).all (fun (a, next) => a.1 < next.1) = true) (ho : Op.lookupswitch.offset ps.toList dflt x.toInt = off) (ht : (pc : Int) + off = (tgt : Int)) (kk : gs_W E nL p l e R s m args below meth c cells slots Q tgt lv st σ g) : gs_W E nL p l e R s m args below meth c cells slots Q pc lv (.int x :: st) σ g :=
  fun H locs ls hP hS hL => lv_lookup C.1 C.2.1 d hp ho ht (kk H locs ls hP hS hL)

theorem gs_fv {l : List gs_F} {j : Nat} {d : gs_F} {f : Nat → Int32} (h : l[j]? = some d) : (l.mapIdx (fun j d => gs_v E f g j d))[j]? = some (gs_v E f g j d) := by simp [List.getElem?_mapIdx, h]
theorem x_getf (C : gs_X E own cc nL p s m args meth c) {k ci : Nat} {fl : List gs_F} (hs : gs_L[k]? = some (gO ci fl)) {Cn : String} {T : u_T} {N : Nat} (hc : vwCl[ci]? = some (Cn, T, N)) (hin : ∀ w ∈ u_ws Cn T N, w ∈ gs_B) (j : Nat) (hj : j < N) {dd : gs_F} (hd : fl[j]? = some dd) {idx : Nat} (hw : Cond.fieldLink own idx Cn (T j).2.1 (T j).2.2.1 ∈ gs_B) (hC : (T j).1 = Cn) (d : decode cc pc = .ok (.getfield idx, 3)) (kk : gs_W E nL p l e R s m args below meth c cells slots Q (pc + 3) lv (gs_v E (σ k) g j dd :: st) σ g) : gs_W E nL p l e R s m args below meth c cells slots Q pc lv (.ref (gs_a E k) :: st) σ g :=
  fun H locs ls hP hS hL => va_get (D := E.2.2.2.1) (cl := vwCl) C.1 C.2.1 C.2.2.2.2.1 hin C.2.2.2.1 C.2.2.2.2.2.1.1 hP k (gs_at hs) hc j hj (C.2.2.2.2.1 _ hw) (fun x hx => by rw [hC] at hx; exact hx) (gs_fv hd) d (kk H locs ls hP hS hL)
theorem x_geti (C : gs_X E own cc nL p s m args meth c) (k : Nat) {ci : Nat} {fl : List gs_F} (hs : gs_L[k]? = some (gO ci fl)) {Cn : String} {T : u_T} {N : Nat} (hc : vwCl[ci]? = some (Cn, T, N)) (hin : ∀ w ∈ u_ws Cn T N, w ∈ gs_B) (j : Nat) (hj : j < N) (hd : fl[j]? = some fI) {idx : Nat} (hw : Cond.fieldLink own idx Cn (T j).2.1 (T j).2.2.1 ∈ gs_B) (hC : (T j).1 = Cn) {v : Int32} (hv : σ k j = v) (d : decode cc pc = .ok (.getfield idx, 3)) (kk : gs_W E nL p l e R s m args below meth c cells slots Q (pc + 3) lv (.int v :: st) σ g) : gs_W E nL p l e R s m args below meth c cells slots Q pc lv (.ref (gs_a E k) :: st) σ g := by
  subst hv
  exact x_getf C hs hc hin j hj hd hw hC d kk
theorem x_getr (C : gs_X E own cc nL p s m args meth c) (k : Nat) {ci : Nat} {fl : List gs_F} (hs : gs_L[k]? = some (gO ci fl)) {Cn : String} {T : u_T} {N : Nat} (hc : vwCl[ci]? = some (Cn, T, N)) (hin : ∀ w ∈ u_ws Cn T N, w ∈ gs_B) (j : Nat) (hj : j < N) {r : Nat} (hd : fl[j]? = some (fR r)) {idx : Nat} (hw : Cond.fieldLink own idx Cn (T j).2.1 (T j).2.2.1 ∈ gs_B) (hC : (T j).1 = Cn) (d : decode cc pc = .ok (.getfield idx, 3)) (kk : gs_W E nL p l e R s m args below meth c cells slots Q (pc + 3) lv (.ref (gs_a E r) :: st) σ g) : gs_W E nL p l e R s m args below meth c cells slots Q pc lv (.ref (gs_a E k) :: st) σ g := x_getf C hs hc hin j hj hd hw hC d kk
theorem x_getl (C : gs_X E own cc nL p s m args meth c) (k : Nat) {ci : Nat} {fl : List gs_F} (hs : gs_L[k]? = some (gO ci fl)) {Cn : String} {T : u_T} {N : Nat} (hc : vwCl[ci]? = some (Cn, T, N)) (hin : ∀ w ∈ u_ws Cn T N, w ∈ gs_B) (j : Nat) (hj : j < N) (hd : fl[j]? = some fJ) {idx : Nat} (hw : Cond.fieldLink own idx Cn (T j).2.1 (T j).2.2.1 ∈ gs_B) (hC : (T j).1 = Cn) (d : decode cc pc = .ok (.getfield idx, 3)) (kk : gs_W E nL p l e R s m args below meth c cells slots Q (pc + 3) lv (.long g :: st) σ g) : gs_W E nL p l e R s m args below meth c cells slots Q pc lv (.ref (gs_a E k) :: st) σ g := x_getf C hs hc hin j hj hd hw hC d kk
theorem x_puti (C : gs_X E own cc nL p s m args meth c) (k : Nat) {ci : Nat} {fl : List gs_F} (hs : gs_L[k]? = some (gO ci fl)) {Cn : String} {T : u_T} {N : Nat} (hc : vwCl[ci]? = some (Cn, T, N)) (hin : ∀ w ∈ u_ws Cn T N, w ∈ gs_B) (ty0 : Nat → FieldType) (hty : ∀ k, k < N → parseFieldDescriptor (T k).2.2.1 = some (ty0 k)) (hnm : ∀ a, a < N → ∀ b, b < N → a ≠ b → (T a).2.1 ≠ (T b).2.1) (j : Nat) (hj : j < N) (hd : fl[j]? = some fI) {idx : Nat} (hw : Cond.fieldLink own idx Cn (T j).2.1 (T j).2.2.1 ∈ gs_B) (hC : (T j).1 = Cn) (hF : (T j).2.2.2 = false) {v : Int32} (hn : narrow (ty0 j) (.int v) = .int v) (hfit : fits (ty0 j) (.int v) = true) (d : decode cc pc = .ok (.putfield idx, 3)) (kk : gs_W E nL p l e R s m args below meth c cells slots Q (pc + 3) lv st (up2 σ k j v) g) : gs_W E nL p l e R s m args below meth c cells slots Q pc lv (.int v :: .ref (gs_a E k) :: st) σ g := by
  intro H locs ls hP hS hL
  refine va_put (D := E.2.2.2.1) (cl := vwCl) (ty := ty0 j) C.1 C.2.1 C.2.2.2.2.1 hin ty0 hty hnm C.2.2.2.1 C.2.2.2.2.2.1.1 hP (gs_D C.2.2.2.2.2.2.2 σ g) hS k (gs_at hs) hc j hj (C.2.2.2.2.1 _ hw) (fun x hx => by rw [hC] at hx; exact hx) hF (hty j hj) hn hfit (by simpa using (List.getElem?_eq_some_iff.mp hd).1) d (fun H1 locs1 hP1 hD1 hS1 => ?_)
  rw [gs_set hs j v (by rw [gs_fset v hd]; rfl)] at hP1
  exact kk H1 locs1 ls hP1 hS1 hL
theorem x_iald (C : gs_X E own cc nL p s m args meth c) (k : Nat) {n : Nat} (hs : gs_L[k]? = some (gI n)) {i : Int32} (hi : inb i n) {v : Int32} (hv : σ k i.toNatClampNeg = v) (d : decode cc pc = .ok (.iaload, 1)) (kk : gs_W E nL p l e R s m args below meth c cells slots Q (pc + 1) lv (.int v :: st) σ g) : gs_W E nL p l e R s m args below meth c cells slots Q pc lv (.int i :: .ref (gs_a E k) :: st) σ g := by
  subst hv
  replace hi := inb_vp hi
  exact fun H locs ls hP hS hL => va_iald (D := E.2.2.2.1) (cl := vwCl) C.1 C.2.1 C.2.2.2.2.2.1.1 hP k 0 (gs_at hs) rfl hi d (kk H locs ls hP hS hL)
theorem x_zald (C : gs_X E own cc nL p s m args meth c) (k : Nat) {n : Nat} (hs : gs_L[k]? = some (gZ n)) {i : Int32} (hi : inb i n) {v : Int32} (hv : σ k i.toNatClampNeg = v) (d : decode cc pc = .ok (.baload, 1)) (kk : gs_W E nL p l e R s m args below meth c cells slots Q (pc + 1) lv (.int v :: st) σ g) : gs_W E nL p l e R s m args below meth c cells slots Q pc lv (.int i :: .ref (gs_a E k) :: st) σ g := by
  subst hv
  replace hi := inb_vp hi
  exact fun H locs ls hP hS hL => va_zald (D := E.2.2.2.1) (cl := vwCl) C.1 C.2.1 C.2.2.2.2.2.1.1 hP k 1 (gs_at hs) rfl hi d (kk H locs ls hP hS hL)
theorem x_iast (C : gs_X E own cc nL p s m args meth c) (k : Nat) {n : Nat} (hs : gs_L[k]? = some (gI n)) {i v : Int32} (hi : inb i n) (d : decode cc pc = .ok (.iastore, 1)) (kk : gs_W E nL p l e R s m args below meth c cells slots Q (pc + 1) lv st (up2 σ k i.toNatClampNeg v) g) : gs_W E nL p l e R s m args below meth c cells slots Q pc lv (.int v :: .int i :: .ref (gs_a E k) :: st) σ g := by
  intro H locs ls hP hS hL
  replace hi := inb_vp hi
  refine va_iast (D := E.2.2.2.1) (cl := vwCl) C.1 C.2.1 C.2.2.2.2.2.1.1 hP (gs_D C.2.2.2.2.2.2.2 σ g) hS k 0 (gs_at hs) rfl hi d (fun H1 locs1 hP1 hD1 hS1 => ?_)
  have hP2 : va_P E.2.2.2.1 vwCl ((gs_w E σ g).set k (gs_a E k, gs_c E (upd (σ k) i.toNatClampNeg v) g (gI n))) H1 := hP1
  rw [gs_set hs i.toNatClampNeg v rfl] at hP2
  exact kk H1 locs1 ls hP2 hS1 hL
theorem x_zast (C : gs_X E own cc nL p s m args meth c) (k : Nat) {n : Nat} (hs : gs_L[k]? = some (gZ n)) {i v : Int32} (hi : inb i n) (hv : v = 0 ∨ v = 1) (d : decode cc pc = .ok (.bastore, 1)) (kk : gs_W E nL p l e R s m args below meth c cells slots Q (pc + 1) lv st (up2 σ k i.toNatClampNeg v) g) : gs_W E nL p l e R s m args below meth c cells slots Q pc lv (.int v :: .int i :: .ref (gs_a E k) :: st) σ g := by
  intro H locs ls hP hS hL
  replace hi := inb_vp hi
  replace hv : vp_nar .boolean v = v := by rcases hv with rfl | rfl <;> rfl
  refine va_zast (D := E.2.2.2.1) (cl := vwCl) C.1 C.2.1 C.2.2.2.2.2.1.1 hP (gs_D C.2.2.2.2.2.2.2 σ g) hS k 1 (gs_at hs) rfl hi d (fun H1 locs1 hP1 hD1 hS1 => ?_)
  rw [hv] at hP1
  have hP2 : va_P E.2.2.2.1 vwCl ((gs_w E σ g).set k (gs_a E k, gs_c E (upd (σ k) i.toNatClampNeg v) g (gZ n))) H1 := hP1
  rw [gs_set hs i.toNatClampNeg v rfl] at hP2
  exact kk H1 locs1 ls hP2 hS1 hL
theorem x_alen (C : gs_X E own cc nL p s m args meth c) (k : Nat) {n : Nat} (hs : gs_L[k]? = some (gI n)) {v : Int32} (hv : Int32.ofNat n = v) (d : decode cc pc = .ok (.arraylength, 1)) (kk : gs_W E nL p l e R s m args below meth c cells slots Q (pc + 1) lv (.int v :: st) σ g) : gs_W E nL p l e R s m args below meth c cells slots Q pc lv (.ref (gs_a E k) :: st) σ g :=
  fun H locs ls hP hS hL => va_alen (D := E.2.2.2.1) (cl := vwCl) C.1 C.2.1 C.2.2.2.2.2.1.1 hP k 0 (gs_at hs) rfl hv d (kk H locs ls hP hS hL)

theorem gs_nl57 : ∀ i sh, gs_L[i]? = some sh → i ≠ 57 → gs_nl sh = true := by
  intro i sh h hi
  have hall : (gs_L.mapIdx (fun i sh => decide (i = 57) || gs_nl sh)).all id = true := by decide +kernel
  have h1 : (gs_L.mapIdx (fun i sh => decide (i = 57) || gs_nl sh))[i]? = some (decide (i = 57) || gs_nl sh) := by simp [List.getElem?_mapIdx, h]
  have h2 := List.all_eq_true.mp hall _ (List.mem_of_getElem? h1)
  simpa [hi] using h2
theorem gs_lset {l : List gs_F} {j : Nat} {f : Nat → Int32} (v : Int64) (h : l[j]? = some fJ) (hn : ∀ i, i ≠ j → l[i]? ≠ some fJ) : (l.mapIdx (fun j d => gs_v E f g j d)).set j (.long v) = l.mapIdx (fun i d => gs_v E f v i d) := by
  have hl : j < l.length := (List.getElem?_eq_some_iff.mp h).1
  apply List.ext_getElem?
  intro i
  by_cases hi : i = j
  · subst hi
    rw [List.getElem?_set_self (by simpa using hl)]
    simp [List.getElem?_mapIdx, h, gs_v, fJ]
  · rw [List.getElem?_set_ne (Ne.symm hi)]
    simp only [List.getElem?_mapIdx]
    have h3 := hn i hi
    cases hs : l[i]? with
    | none => rfl
    | some d =>
      obtain r | b := d
      · rfl
      · cases b
        · rfl
        · exact absurd hs h3
theorem x_putl (C : gs_X E own cc nL p s m args meth c) {ci : Nat} {fl : List gs_F} (hs : gs_L[57]? = some (gO ci fl)) {Cn : String} {T : u_T} {N : Nat} (hc : vwCl[ci]? = some (Cn, T, N)) (hin : ∀ w ∈ u_ws Cn T N, w ∈ gs_B) (ty0 : Nat → FieldType) (hty : ∀ k, k < N → parseFieldDescriptor (T k).2.2.1 = some (ty0 k)) (hnm : ∀ a, a < N → ∀ b, b < N → a ≠ b → (T a).2.1 ≠ (T b).2.1) (j : Nat) (hj : j < N) (hd : fl[j]? = some fJ) (hone : ∀ i, i ≠ j → fl[i]? ≠ some fJ) {idx : Nat} (hw : Cond.fieldLink own idx Cn (T j).2.1 (T j).2.2.1 ∈ gs_B) (hC : (T j).1 = Cn) (hF : (T j).2.2.2 = false) {v : Int64} (hn : narrow (ty0 j) (.long v) = .long v) (hfit : fits (ty0 j) (.long v) = true) (d : decode cc pc = .ok (.putfield idx, 3)) (kk : gs_W E nL p l e R s m args below meth c cells slots Q (pc + 3) lv st σ v) : gs_W E nL p l e R s m args below meth c cells slots Q pc lv (.long v :: .ref (gs_a E 57) :: st) σ g := by
  intro H locs ls hP hS hL
  refine va_put (D := E.2.2.2.1) (cl := vwCl) (ty := ty0 j) C.1 C.2.1 C.2.2.2.2.1 hin ty0 hty hnm C.2.2.2.1 C.2.2.2.2.2.1.1 hP (gs_D C.2.2.2.2.2.2.2 σ g) hS 57 (gs_at hs) hc j hj (C.2.2.2.2.1 _ hw) (fun x hx => by rw [hC] at hx; exact hx) hF (hty j hj) hn hfit (by simpa using (List.getElem?_eq_some_iff.mp hd).1) d (fun H1 locs1 hP1 hD1 hS1 => ?_)
  have he : (gs_w E σ g).set 57 (gs_a E 57, .inr (ci, (fl.mapIdx (fun j d => gs_v E (σ 57) g j d)).set j (.long v))) = gs_w E σ v := by
    rw [gs_lset v hd hone]
    apply List.ext_getElem?
    intro i
    by_cases hi : i = 57
    · subst hi
      rw [List.getElem?_set_self (by show 57 < (gs_w E σ g).length; simp [gs_w, gs_Ln]), gs_at hs]
      rfl
    · rw [List.getElem?_set_ne (Ne.symm hi)]
      cases h2 : gs_L[i]? with
      | none => simp [gs_w, List.getElem?_mapIdx, h2]
      | some s2 => rw [gs_at h2, gs_at h2, gs_nl_c (gs_nl57 i s2 h2 hi) g v]
  rw [he] at hP1
  exact kk H1 locs1 ls hP1 hS1 hL

theorem x_retb (C : gs_X E own cc nL p s m args meth c) {ov : Option Value} {v : Int32} (hr : meth.sig.returnType = some .boolean) (hn : v = 0 ∨ v = 1) (hov : ov = some (.int v)) (d : decode cc pc = .ok (.ireturn, 1)) : gs_W E nL p l e R s m args below meth c cells slots (MQ below (gs_Q E ov σ g) args s cells slots (gs_A E)) pc lv [.int v] σ g :=
  fun H locs ls hP hS hL => W.zret C.1 C.2.1 hr (by rcases hn with rfl | rfl <;> rfl) (fun t ht hW => ⟨⟨by rw [hov], by rw [ht]; exact hP⟩, hS.F ht⟩) hS.2.2 d C.2.2.2.2.2.2.1
theorem x_ret (C : gs_X E own cc nL p s m args meth c) {ov : Option Value} {v : Int32} {ty : FieldType} (hr : meth.sig.returnType = some ty) (hn : narrow ty (.int v) = .int v) (hov : ov = some (.int v)) (d : decode cc pc = .ok (.ireturn, 1)) : gs_W E nL p l e R s m args below meth c cells slots (MQ below (gs_Q E ov σ g) args s cells slots (gs_A E)) pc lv [.int v] σ g :=
  fun H locs ls hP hS hL => W.zret C.1 C.2.1 hr hn (fun t ht hW => ⟨⟨by rw [hov], by rw [ht]; exact hP⟩, hS.F ht⟩) hS.2.2 d C.2.2.2.2.2.2.1
theorem x_retv (C : gs_X E own cc nL p s m args meth c) {ov : Option Value} (hr : meth.sig.returnType = none) (hov : ov = none) (d : decode cc pc = .ok (.return_, 1)) : gs_W E nL p l e R s m args below meth c cells slots (MQ below (gs_Q E ov σ g) args s cells slots (gs_A E)) pc lv [] σ g :=
  fun H locs ls hP hS hL => W.vret C.1 C.2.1 hr (fun t ht hW => ⟨⟨by rw [hov], by rw [ht]; exact hP⟩, hS.F ht⟩) hS.2.2 d C.2.2.2.2.2.2.1
theorem x_retl (C : gs_X E own cc nL p s m args meth c) {ov : Option Value} {v : Int64} (hr : meth.sig.returnType = some .long) (hov : ov = some (.long v)) (d : decode cc pc = .ok (.lreturn, 1)) : gs_W E nL p l e R s m args below meth c cells slots (MQ below (gs_Q E ov σ g) args s cells slots (gs_A E)) pc lv [.long v] σ g :=
  fun H locs ls hP hS hL => W.lret C.1 C.2.1 hr (fun t ht hW => ⟨⟨by rw [hov], by rw [ht]; exact hP⟩, hS.F ht⟩) hS.2.2 d C.2.2.2.2.2.2.1
theorem gs_after {ov : Option Value} {σ' : gs_H} {g' : Int64} {H : Heap} {locs : List Loc} {ls : Array Slot} {st0 rest st' : List Value} {a : Array Value} (hr : va_Run p l e R s m args below meth c H locs cells slots 0 0 (F0 m pc ls st0) rest (gs_Q E ov σ' g' a) (gs_A E)) (hS : va_S (gs_A E) s.heap H locs) (hL : lv_has ls nL lv) (hst : ov.toList ++ rest = st') (kk : gs_W E nL p l e R s m args below meth c cells slots Q (pc + 3) lv st' σ' g') : W p l e R s m args below meth c H locs cells slots Q (F0 m pc ls st0) := by
  subst hst
  intro T hT X
  obtain ⟨v, st₀, t, T', L, h0, X', hLL, e1, e2, ⟨⟨hv, hp⟩, hz, hk⟩, stp⟩ := hr T hT X
  have hv2 : v = ov := by injection hv
  subst hv2
  rw [h0] at hz hk
  obtain ⟨t2, a1, b1⟩ := kk T'.heap (locs ++ L) ls (by rw [e1]; exact hp) ⟨Nat.le_trans hS.1 (by rw [e1]; exact hz), fun q h1 h2 => by rw [e1, hk q (Nat.lt_of_lt_of_le h1 hS.1) h2]; exact hS.2.1 q h1 h2, fun q hq => by
      rcases List.mem_append.mp hq with h | h
      · exact hS.2.2 q h
      · exact hLL q h⟩ hL T' rfl X'
  exact ⟨t2, stp t2 a1, b1⟩
theorem gs_blind {av : List Value} : FrameBlind (gs_Pc E av σ g) := fun a U fr mk q => ⟨q.1, q.2.1, q.2.2.calling fr mk a⟩
theorem x_callV (C : gs_X E own cc nL p s m args meth c) {y : MethodName} {bc : ByteArray} {nM : Nat} {ret : Option FieldType} {rm : Nat × Nat} {As rest st' : List Value} {ov : Option Value} {σ' : gs_H} {g' : Int64} (k : Nat) (hM : gs_M l E y bc nM ret rm (.ref (gs_a E k) :: As) σ g ov σ' g') {idx ci : Nat} {fl : List gs_F} {T : u_T} {N : Nat} (hs : gs_L[k]? = some (gO ci fl)) (hc : vwCl[ci]? = some (y.cls, T, N)) (w1 : Cond.methodLink own idx y ∈ gs_B) (w2 : Cond.instanceMethod y ∈ gs_B) (w3 : Cond.selects y.cls y y ∈ gs_B) (w4 : Cond.initialized y.cls ∈ gs_B) (w5 : Cond.code y bc nM ret ∈ gs_B)
    {nA : Nat} (hd : y.cls ≠ "java/lang/invoke/MethodHandle" ∧ y.cls ≠ "java/lang/invoke/VarHandle" ∧ (parseMethodDescriptor y.desc).map (fun d => d.parameters.length) = some nA) (hA : As.length = nA) (hR : rm.1 + 1 ≤ R.frames ∧ 8 + (nM + 11) + rm.2 ≤ R.locals) (hf : cells ≤ R.cells ∧ slots ≤ R.slots) (hst : st = As.reverse ++ .ref (gs_a E k) :: rest) (hw : (rest.map fun v => v.category).sum ≤ 8) (d : decode cc pc = .ok (.invokevirtual idx, 3)) (hst' : ov.toList ++ rest = st') (kk : gs_W E nL p l e R s m args below meth c cells slots Q (pc + 3) lv st' σ' g') : gs_W E nL p l e R s m args below meth c cells slots Q pc lv st σ g := by
  intro H locs ls hP hS hL
  subst hst
  subst hA
  have hG : GoodIn gs_B (wsV own idx y.cls y (.code y bc nM ret :: gs_B)) := by
    intro w hw
    have : w ∈ gs_B := by
      simp only [wsV, List.cons_append, List.nil_append, List.mem_cons] at hw
      rcases hw with rfl | rfl | rfl | rfl | rfl | h
      · exact w1
      · exact w2
      · exact w3
      · exact w4
      · exact w5
      · exact h
    exact gs_good w this
  refine gs_after (va_runV (As := As) (rest := rest) (C := y.cls) ⟨C.1, C.2.1, C.2.2.1, C.2.2.2.1, C.2.2.2.2.1⟩ (hM C.2.2.2.2.2.2.2) (cwV As.length C.2.2.2.2.1 hG rfl rfl rfl ⟨rfl, hd⟩ hR) ⟨gs_blind, va_recv C.2.2.2.2.2.1.1 hP hc (gs_at hs), fun U hU hW => ⟨rfl, by rw [hU]; exact hP, C.2.2.2.2.2.1.go hS hU hW⟩⟩ rfl rfl hL.1 rfl (lv_room hw) d hf) hS hL hst' kk
theorem x_callS (C : gs_X E own cc nL p s m args meth c) {y : MethodName} {bc : ByteArray} {nM : Nat} {ret : Option FieldType} {rm : Nat × Nat} {As rest st' : List Value} {ov : Option Value} {σ' : gs_H} {g' : Int64} (hM : gs_M l E y bc nM ret rm As σ g ov σ' g') {idx : Nat} (w1 : Cond.methodLink own idx y ∈ gs_B) (w2 : Cond.static y ∈ gs_B) (w4 : Cond.initialized y.cls ∈ gs_B) (w5 : Cond.code y bc nM ret ∈ gs_B)
    {nA : Nat} (hd : y.cls ≠ "java/lang/invoke/MethodHandle" ∧ y.cls ≠ "java/lang/invoke/VarHandle" ∧ (parseMethodDescriptor y.desc).map (fun d => d.parameters.length) = some nA) (hA : As.length = nA) (hR : rm.1 + 1 ≤ R.frames ∧ 8 + (nM + 11) + rm.2 ≤ R.locals) (hf : cells ≤ R.cells ∧ slots ≤ R.slots) (hst : st = As.reverse ++ rest) (hw : (rest.map fun v => v.category).sum ≤ 8) (d : decode cc pc = .ok (.invokestatic idx, 3)) (hst' : ov.toList ++ rest = st') (kk : gs_W E nL p l e R s m args below meth c cells slots Q (pc + 3) lv st' σ' g') : gs_W E nL p l e R s m args below meth c cells slots Q pc lv st σ g := by
  intro H locs ls hP hS hL
  subst hst
  subst hA
  have hG : GoodIn gs_B (va_wsS own idx y (.code y bc nM ret :: gs_B)) := by
    intro w hw
    have : w ∈ gs_B := by
      simp only [va_wsS, List.cons_append, List.nil_append, List.mem_cons] at hw
      rcases hw with rfl | rfl | rfl | rfl | h
      · exact w1
      · exact w2
      · exact w4
      · exact w5
      · exact h
    exact gs_good w this
  exact gs_after (va_runS (As := As) (rest := rest) ⟨C.1, C.2.1, C.2.2.1, C.2.2.2.1, C.2.2.2.2.1⟩ (hM C.2.2.2.2.2.2.2) (va_cwS As.length C.2.2.2.2.1 hG rfl rfl rfl hd hR) ⟨gs_blind, fun U hU hW => ⟨rfl, by rw [hU]; exact hP, C.2.2.2.2.2.1.go hS hU hW⟩⟩ rfl rfl hL.1 rfl (lv_room hw) d hf) hS hL hst' kk
theorem x_callN (C : gs_X E own cc nL p s m args meth c) {y : MethodName} {bc : ByteArray} {nM : Nat} {ret : Option FieldType} {rm : Nat × Nat} {As rest st' : List Value} {ov : Option Value} {σ' : gs_H} {g' : Int64} (hM : gs_M l E y bc nM ret rm As σ g ov σ' g') {idx : Nat} {host : String} (w1 : va_Nw (.methodLinkNest own idx y host) s) (w2 : Cond.static y ∈ gs_B) (w4 : Cond.initialized y.cls ∈ gs_B) (w5 : Cond.code y bc nM ret ∈ gs_B)
    {nA : Nat} (hd : y.cls ≠ "java/lang/invoke/MethodHandle" ∧ y.cls ≠ "java/lang/invoke/VarHandle" ∧ (parseMethodDescriptor y.desc).map (fun d => d.parameters.length) = some nA) (hA : As.length = nA) (hR : rm.1 + 1 ≤ R.frames ∧ 8 + (nM + 11) + rm.2 ≤ R.locals) (hf : cells ≤ R.cells ∧ slots ≤ R.slots) (hst : st = As.reverse ++ rest) (hw : (rest.map fun v => v.category).sum ≤ 8) (d : decode cc pc = .ok (.invokestatic idx, 3)) (hst' : ov.toList ++ rest = st') (kk : gs_W E nL p l e R s m args below meth c cells slots Q (pc + 3) lv st' σ' g') : gs_W E nL p l e R s m args below meth c cells slots Q pc lv st σ g := by
  intro H locs ls hP hS hL
  subst hst
  subst hA
  have hG : GoodIn gs_B (.code y bc nM ret :: gs_B) := by
    intro w hw
    rcases List.mem_cons.mp hw with rfl | h
    · exact gs_good _ w5
    · exact gs_good _ h
  exact gs_after (va_runSN (As := As) (rest := rest) ⟨C.1, C.2.1, C.2.2.1, C.2.2.2.1, C.2.2.2.2.1⟩ (hM C.2.2.2.2.2.2.2) ⟨va_cnB As.length C.2.2.2.2.1 hG rfl rfl rfl w1 (C.2.2.2.2.1 _ w4) hd hR, C.2.2.2.2.1 _ w2, trivial⟩ ⟨gs_blind, fun U hU hW => ⟨rfl, by rw [hU]; exact hP, C.2.2.2.2.2.1.go hS hU hW⟩⟩ rfl rfl hL.1 rfl (lv_room hw) d hf) hS hL hst' kk
theorem x_mmax (C : gs_X E own cc nL p s m args meth c) {idx : Nat} {x y : Int32} (w1 : Cond.methodLink own idx Lib.Math.max.name ∈ gs_B) (w2 : Cond.static Lib.Math.max.name ∈ gs_B) (w3 : Cond.initialized "java/lang/Math" ∈ gs_B) (w4 : Cond.code Lib.Math.max.name Lib.Math.max.code 2 (some .int) ∈ gs_B) (hfr : 1 ≤ R.frames) (hlo : (st.map fun v => v.category).sum + 13 ≤ R.locals) (hf : cells ≤ R.cells ∧ slots ≤ R.slots) (d : decode cc pc = .ok (.invokestatic idx, 3)) (kk : gs_W E nL p l e R s m args below meth c cells slots Q (pc + 3) lv (.int (if x < y then y else x) :: st) σ g) : gs_W E nL p l e R s m args below meth c cells slots Q pc lv (.int y :: .int x :: st) σ g :=
  fun H locs ls hP hS hL => va_mmax C.1 C.2.1 (by rw [C.2.2.1]; exact hL.1.symm) C.2.2.2.1 (C.2.2.2.2.1 _ w1) (C.2.2.2.2.1 _ w2) (C.2.2.2.2.1 _ w3) (C.2.2.2.2.1 _ w4) hfr hlo hf.1 hf.2 d (kk H locs ls hP hS hL)
theorem x_mabs (C : gs_X E own cc nL p s m args meth c) {idx : Nat} {x : Int32} (w1 : Cond.methodLink own idx Lib.Math.abs.name ∈ gs_B) (w2 : Cond.static Lib.Math.abs.name ∈ gs_B) (w3 : Cond.initialized "java/lang/Math" ∈ gs_B) (w4 : Cond.code Lib.Math.abs.name Lib.Math.abs.code 1 (some .int) ∈ gs_B) (hfr : 1 ≤ R.frames) (hlo : (st.map fun v => v.category).sum + 13 ≤ R.locals) (hf : cells ≤ R.cells ∧ slots ≤ R.slots) (d : decode cc pc = .ok (.invokestatic idx, 3)) (kk : gs_W E nL p l e R s m args below meth c cells slots Q (pc + 3) lv (.int (if 0 ≤ x then x else 0 - x) :: st) σ g) : gs_W E nL p l e R s m args below meth c cells slots Q pc lv (.int x :: st) σ g :=
  fun H locs ls hP hS hL => va_mabs C.1 C.2.1 (by rw [C.2.2.1]; exact hL.1.symm) C.2.2.2.1 (C.2.2.2.2.1 _ w1) (C.2.2.2.2.1 _ w2) (C.2.2.2.2.1 _ w3) (C.2.2.2.2.1 _ w4) hfr hlo hf.1 hf.2 d (kk H locs ls hP hS hL)
end GR
