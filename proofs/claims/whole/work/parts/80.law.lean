/-! THE CLAIM OUT OF ONE WALK OF THE LAW'S BODY. Your part is whole_start (and what it stands on); all else here is the same for every law, but numbers. -/
def R_law : String := "HungMobileLaw"
def lw_P (b : Addr) (xs : List Int32) (args : Array Value) (s : State) : Prop := args = #[.ref b] ∧ s.IntsAt b xs ∧ xs.length ≤ 2560 ∧ (Jvm.Cond.and given_1 narrow_1).before args s = true
def lw_Q (_ : Array Value) (s : State) (o : Outcome) (t : State) : Prop := o = .returned (some (.int 1)) ∧ Framed s o t [] 74 636
def lw_Z (below : List Frame) (a : Array Value) (s : State) : State → Prop := fun t => ∃ o, t.status = .running ∧ Ended t below o ∧ lw_Q a s o t
/-- the law's own end, with 1 on the stack, nothing written that was there before, its room as the claim has it -/
theorem lw_ret {p : Program} {l : Launch} {e : Env} {s : State} {m : MethodId} {below : List Frame} {meth : Method} {c : Code} {b : Nat} (hx : p.tables.exec = Jvm.exec) (hb : c.code = code) (hr : meth.sig.returnType = ret) (hlocks : meth.locks = false) {pc : Nat} {H : Heap} {ls : Array Slot} (hdg : decode code pc = .ok (.ireturn, 1)) : W p l e room_1 s m #[Value.ref b] below meth c H [] 74 636 (lw_Z below #[Value.ref b] s) (F0 m pc ls [.int 1]) := by
  intro T hT X
  obtain ⟨fs, hret, hrun, hended, hW, hframe⟩ := X.leave (v := some (.int 1)) (hlocks := hlocks) (fun h => by rw [hr] at h; cases h)
  have hmeth' : T.vm.method? m = some meth := X.method'
  refine ⟨T.setFrames fs, ?_, .returned (some (.int 1)), hrun, hended, rfl, ⟨_, rfl⟩, hW, hframe⟩
  jvm_step X.here [X.here.top, hx, hb, hdg, hmeth', hr, ret, narrow_b1]
  (try refine ⟨rfl, ?_⟩); (try refine ⟨rfl, ?_⟩)
  first | (intro acts; rw [hret _ acts rfl rfl rfl]) | rw [hret _ _ rfl rfl rfl]
  exact Steps.refl _
/-- what holds at the law's entry: the machine, the code, the tables' words (any of lw_tbl by 'hts w (by decide +kernel)'), the script of L ints xs at the cell b, what the Statement gives of the start (any of its parts by flat_of_before) -/
def lw_At (p : Program) (s : State) (m : MethodId) (meth : Method) (c : Code) (b L : Nat) (xs : Nat → Int32) : Prop :=
  p.tables.exec = Jvm.exec ∧ c.code = code ∧ meth.sig.returnType = ret ∧ c.maxLocals = 4 ∧ s.vm.findClass R_law = some m.cls ∧ (∀ w ∈ lw_tbl, w.before #[Value.ref b] s = true) ∧ va_X b L xs s s.heap ∧ b < s.heap.size ∧ meth.locks = false ∧ (Jvm.Cond.and given_1 narrow_1).before #[Value.ref b] s = true
section GL
variable {E : gs_E} {own : String} {cc : ByteArray} {nL : Nat} {p : Program} {l : Launch} {e : Env} {R : Room} {s : State} {m : MethodId} {args : Array Value} {below : List Frame} {meth : Method} {c : Code} {cells slots : Nat} {Q : State → Prop} {pc : Nat} {lv : List (Nat × Value)} {st : List Value} {σ : gs_H} {g : Int64} {b L : Nat} {xs : Nat → Int32}
theorem x_sld (C : gs_X E own cc nL p s m args meth c) (hX : va_X b L xs s s.heap) (hbl : b < s.heap.size) (hbA : ¬ gs_A E b) {i : Int32} (hi : inb i L) (d : decode cc pc = .ok (.iaload, 1)) (kk : gs_W E nL p l e R s m args below meth c cells slots Q (pc + 1) lv (.int (xs i.toNatClampNeg) :: st) σ g) : gs_W E nL p l e R s m args below meth c cells slots Q pc lv (.int i :: .ref b :: st) σ g :=
  fun H locs ls hP hS hL => va_sld C.1 C.2.1 hX hbl hbA hS (inb_vp hi) d (kk H locs ls hP hS hL)
theorem x_slen (C : gs_X E own cc nL p s m args meth c) (hX : va_X b L xs s s.heap) (hbl : b < s.heap.size) (hbA : ¬ gs_A E b) (d : decode cc pc = .ok (.arraylength, 1)) (kk : gs_W E nL p l e R s m args below meth c cells slots Q (pc + 1) lv (.int (nI L) :: st) σ g) : gs_W E nL p l e R s m args below meth c cells slots Q pc lv (.ref b :: st) σ g :=
  fun H locs ls hP hS hL => va_slen C.1 C.2.1 hX hbl hbA hS d (kk H locs ls hP hS hL)
end GL
set_option maxHeartbeats 4000000 in
set_option maxRecDepth 20000 in
theorem lc_letter {E : gs_E} {p : Program} {l : Launch} {e : Env} {s : State} {m : MethodId} {args : Array Value} {below : List Frame} {meth : Method} {c : Code} {Q : State → Prop} {b L : Nat} {xs : Nat → Int32} (C : gs_X E RL cL_law 4 p s m args meth c) (hX : va_X b L xs s s.heap) (hbl : b < s.heap.size) (hbA : ¬ gs_A E b) {i : Nat} (hj : ∀ q, 0 < q → q < 5 → ∀ x, x = nI (5 * i + q) → inb x L) {σ : gs_H} {g : Int64} (hI : Inv i σ) (hN : i < 1000) (kk : ∀ σ' g', Inv (i + 1) σ' → gs_W E 4 p l e room_1 s m args below meth c 74 636 Q 771 [(0, .ref b), (1, .ref (gs_a E 0)), (2, .ref (gs_a E 57)), (3, .int (nI (5 * i)))] [] σ' g') : gs_W E 4 p l e room_1 s m args below meth c 74 636 Q 152 [(0, .ref b), (1, .ref (gs_a E 0)), (2, .ref (gs_a E 57)), (3, .int (nI (5 * i)))] [] σ g := by
  obtain ⟨r, s1, s2, h1, h2, hI2⟩ := pu_letter hI (xs (nI (5 * i) + 1).toNatClampNeg)
  refine x_aload_n C dL_law_152 rfl 1 rfl ?_
  refine x_aload_n C dL_law_153 rfl 0 rfl ?_
  refine x_iload_n C dL_law_154 rfl 3 rfl ?_
  refine x_iconst C dL_law_155 (v := 1) (by decide) ?_
  refine x_iadd C dL_law_156 ?_
  refine x_sld C hX hbl hbA (hj 1 (by decide) (by decide) (nI (5 * i) + 1) (by rw [show (1 : Int32) = nI 1 from rfl, nI_add])) dL_law_157 ?_
  refine x_callV C 0 (m_X8_letter h1) rfl rfl kM_L_13 kI_X8_letter kS_X8_letter kN_X8 kC_X8_letter kD_X8_letter rfl ⟨Nat.le_of_ble_eq_true rfl, Nat.le_of_ble_eq_true rfl⟩ ⟨Nat.le_of_ble_eq_true rfl, Nat.le_of_ble_eq_true rfl⟩ (rest := []) rfl (Nat.le_of_ble_eq_true rfl) dL_law_158 (st' := [.int r]) rfl ?_
  refine x_aload_n C dL_law_161 rfl 2 rfl ?_
  refine x_aload_n C dL_law_162 rfl 0 rfl ?_
  refine x_iload_n C dL_law_163 rfl 3 rfl ?_
  refine x_iconst C dL_law_164 (v := 1) (by decide) ?_
  refine x_iadd C dL_law_165 ?_
  refine x_sld C hX hbl hbA (hj 1 (by decide) (by decide) (nI (5 * i) + 1) (by rw [show (1 : Int32) = nI 1 from rfl, nI_add])) dL_law_166 ?_
  refine x_callV C 57 (m_X9_letter h2) rfl rfl kM_L_17 kI_X9_letter kS_X9_letter kN_X9 kC_X9_letter kD_X9_letter rfl ⟨Nat.le_of_ble_eq_true rfl, Nat.le_of_ble_eq_true rfl⟩ ⟨Nat.le_of_ble_eq_true rfl, Nat.le_of_ble_eq_true rfl⟩ (rest := [.int r]) rfl (Nat.le_of_ble_eq_true rfl) dL_law_167 (st' := [.int r, .int r]) rfl ?_
  refine x_icmp_eqT C dL_law_170 (tgt := 771) (by decide) rfl ?_
  exact kk _ _ hI2
set_option maxHeartbeats 4000000 in
set_option maxRecDepth 20000 in
theorem lc_blank {E : gs_E} {p : Program} {l : Launch} {e : Env} {s : State} {m : MethodId} {args : Array Value} {below : List Frame} {meth : Method} {c : Code} {Q : State → Prop} {b L : Nat} {xs : Nat → Int32} (C : gs_X E RL cL_law 4 p s m args meth c) (hX : va_X b L xs s s.heap) (hbl : b < s.heap.size) (hbA : ¬ gs_A E b) {i : Nat} (hj : ∀ q, 0 < q → q < 5 → ∀ x, x = nI (5 * i + q) → inb x L) {σ : gs_H} {g : Int64} (hI : Inv i σ) (hN : i < 1000) (kk : ∀ σ' g', Inv (i + 1) σ' → gs_W E 4 p l e room_1 s m args below meth c 74 636 Q 771 [(0, .ref b), (1, .ref (gs_a E 0)), (2, .ref (gs_a E 57)), (3, .int (nI (5 * i)))] [] σ' g') : gs_W E 4 p l e room_1 s m args below meth c 74 636 Q 175 [(0, .ref b), (1, .ref (gs_a E 0)), (2, .ref (gs_a E 57)), (3, .int (nI (5 * i)))] [] σ g := by
  obtain ⟨r, s1, s2, h1, h2, hI2⟩ := pu_blank hI 
  refine x_aload_n C dL_law_175 rfl 1 rfl ?_
  refine x_callV C 0 (m_X8_blank h1) rfl rfl kM_L_18 kI_X8_blank kS_X8_blank kN_X8 kC_X8_blank kD_X8_blank rfl ⟨Nat.le_of_ble_eq_true rfl, Nat.le_of_ble_eq_true rfl⟩ ⟨Nat.le_of_ble_eq_true rfl, Nat.le_of_ble_eq_true rfl⟩ (rest := []) rfl (Nat.le_of_ble_eq_true rfl) dL_law_176 (st' := [.int r]) rfl ?_
  refine x_aload_n C dL_law_179 rfl 2 rfl ?_
  refine x_callV C 57 (m_X9_blank h2) rfl rfl kM_L_22 kI_X9_blank kS_X9_blank kN_X9 kC_X9_blank kD_X9_blank rfl ⟨Nat.le_of_ble_eq_true rfl, Nat.le_of_ble_eq_true rfl⟩ ⟨Nat.le_of_ble_eq_true rfl, Nat.le_of_ble_eq_true rfl⟩ (rest := [.int r]) rfl (Nat.le_of_ble_eq_true rfl) dL_law_180 (st' := [.int r, .int r]) rfl ?_
  refine x_icmp_eqT C dL_law_183 (tgt := 771) (by decide) rfl ?_
  exact kk _ _ hI2
set_option maxHeartbeats 4000000 in
set_option maxRecDepth 20000 in
theorem lc_fault {E : gs_E} {p : Program} {l : Launch} {e : Env} {s : State} {m : MethodId} {args : Array Value} {below : List Frame} {meth : Method} {c : Code} {Q : State → Prop} {b L : Nat} {xs : Nat → Int32} (C : gs_X E RL cL_law 4 p s m args meth c) (hX : va_X b L xs s s.heap) (hbl : b < s.heap.size) (hbA : ¬ gs_A E b) {i : Nat} (hj : ∀ q, 0 < q → q < 5 → ∀ x, x = nI (5 * i + q) → inb x L) {σ : gs_H} {g : Int64} (hI : Inv i σ) (hN : i < 1000) (kk : ∀ σ' g', Inv (i + 1) σ' → gs_W E 4 p l e room_1 s m args below meth c 74 636 Q 771 [(0, .ref b), (1, .ref (gs_a E 0)), (2, .ref (gs_a E 57)), (3, .int (nI (5 * i)))] [] σ' g') : gs_W E 4 p l e room_1 s m args below meth c 74 636 Q 188 [(0, .ref b), (1, .ref (gs_a E 0)), (2, .ref (gs_a E 57)), (3, .int (nI (5 * i)))] [] σ g := by
  obtain ⟨r, s1, s2, h1, h2, hI2⟩ := pu_fault hI 
  refine x_aload_n C dL_law_188 rfl 1 rfl ?_
  refine x_callV C 0 (m_X8_fault h1) rfl rfl kM_L_23 kI_X8_fault kS_X8_fault kN_X8 kC_X8_fault kD_X8_fault rfl ⟨Nat.le_of_ble_eq_true rfl, Nat.le_of_ble_eq_true rfl⟩ ⟨Nat.le_of_ble_eq_true rfl, Nat.le_of_ble_eq_true rfl⟩ (rest := []) rfl (Nat.le_of_ble_eq_true rfl) dL_law_189 (st' := [.int r]) rfl ?_
  refine x_aload_n C dL_law_192 rfl 2 rfl ?_
  refine x_callV C 57 (m_X9_fault h2) rfl rfl kM_L_26 kI_X9_fault kS_X9_fault kN_X9 kC_X9_fault kD_X9_fault rfl ⟨Nat.le_of_ble_eq_true rfl, Nat.le_of_ble_eq_true rfl⟩ ⟨Nat.le_of_ble_eq_true rfl, Nat.le_of_ble_eq_true rfl⟩ (rest := [.int r]) rfl (Nat.le_of_ble_eq_true rfl) dL_law_193 (st' := [.int r, .int r]) rfl ?_
  refine x_icmp_eqT C dL_law_196 (tgt := 771) (by decide) rfl ?_
  exact kk _ _ hI2
set_option maxHeartbeats 4000000 in
set_option maxRecDepth 20000 in
theorem lc_mobile {E : gs_E} {p : Program} {l : Launch} {e : Env} {s : State} {m : MethodId} {args : Array Value} {below : List Frame} {meth : Method} {c : Code} {Q : State → Prop} {b L : Nat} {xs : Nat → Int32} (C : gs_X E RL cL_law 4 p s m args meth c) (hX : va_X b L xs s s.heap) (hbl : b < s.heap.size) (hbA : ¬ gs_A E b) {i : Nat} (hj : ∀ q, 0 < q → q < 5 → ∀ x, x = nI (5 * i + q) → inb x L) {σ : gs_H} {g : Int64} (hI : Inv i σ) (hN : i < 1000) (kk : ∀ σ' g', Inv (i + 1) σ' → gs_W E 4 p l e room_1 s m args below meth c 74 636 Q 771 [(0, .ref b), (1, .ref (gs_a E 0)), (2, .ref (gs_a E 57)), (3, .int (nI (5 * i)))] [] σ' g') : gs_W E 4 p l e room_1 s m args below meth c 74 636 Q 201 [(0, .ref b), (1, .ref (gs_a E 0)), (2, .ref (gs_a E 57)), (3, .int (nI (5 * i)))] [] σ g := by
  obtain ⟨r, s1, s2, h1, h2, hI2⟩ := pu_mobile hI 
  refine x_aload_n C dL_law_201 rfl 1 rfl ?_
  refine x_callV C 0 (m_X8_mobile h1) rfl rfl kM_L_27 kI_X8_mobile kS_X8_mobile kN_X8 kC_X8_mobile kD_X8_mobile rfl ⟨Nat.le_of_ble_eq_true rfl, Nat.le_of_ble_eq_true rfl⟩ ⟨Nat.le_of_ble_eq_true rfl, Nat.le_of_ble_eq_true rfl⟩ (rest := []) rfl (Nat.le_of_ble_eq_true rfl) dL_law_202 (st' := [.int r]) rfl ?_
  refine x_aload_n C dL_law_205 rfl 2 rfl ?_
  refine x_callV C 57 (m_X9_mobile h2) rfl rfl kM_L_30 kI_X9_mobile kS_X9_mobile kN_X9 kC_X9_mobile kD_X9_mobile rfl ⟨Nat.le_of_ble_eq_true rfl, Nat.le_of_ble_eq_true rfl⟩ ⟨Nat.le_of_ble_eq_true rfl, Nat.le_of_ble_eq_true rfl⟩ (rest := [.int r]) rfl (Nat.le_of_ble_eq_true rfl) dL_law_206 (st' := [.int r, .int r]) rfl ?_
  refine x_icmp_eqT C dL_law_209 (tgt := 771) (by decide) rfl ?_
  exact kk _ _ hI2
set_option maxHeartbeats 4000000 in
set_option maxRecDepth 20000 in
theorem lc_rod {E : gs_E} {p : Program} {l : Launch} {e : Env} {s : State} {m : MethodId} {args : Array Value} {below : List Frame} {meth : Method} {c : Code} {Q : State → Prop} {b L : Nat} {xs : Nat → Int32} (C : gs_X E RL cL_law 4 p s m args meth c) (hX : va_X b L xs s s.heap) (hbl : b < s.heap.size) (hbA : ¬ gs_A E b) {i : Nat} (hj : ∀ q, 0 < q → q < 5 → ∀ x, x = nI (5 * i + q) → inb x L) {σ : gs_H} {g : Int64} (hI : Inv i σ) (hN : i < 1000) (kk : ∀ σ' g', Inv (i + 1) σ' → gs_W E 4 p l e room_1 s m args below meth c 74 636 Q 771 [(0, .ref b), (1, .ref (gs_a E 0)), (2, .ref (gs_a E 57)), (3, .int (nI (5 * i)))] [] σ' g') : gs_W E 4 p l e room_1 s m args below meth c 74 636 Q 214 [(0, .ref b), (1, .ref (gs_a E 0)), (2, .ref (gs_a E 57)), (3, .int (nI (5 * i)))] [] σ g := by
  obtain ⟨r, s1, s2, h1, h2, hI2⟩ := pu_rod hI (xs (nI (5 * i) + 1).toNatClampNeg) (xs (nI (5 * i) + 2).toNatClampNeg)
  refine x_aload_n C dL_law_214 rfl 1 rfl ?_
  refine x_aload_n C dL_law_215 rfl 0 rfl ?_
  refine x_iload_n C dL_law_216 rfl 3 rfl ?_
  refine x_iconst C dL_law_217 (v := 1) (by decide) ?_
  refine x_iadd C dL_law_218 ?_
  refine x_sld C hX hbl hbA (hj 1 (by decide) (by decide) (nI (5 * i) + 1) (by rw [show (1 : Int32) = nI 1 from rfl, nI_add])) dL_law_219 ?_
  refine x_aload_n C dL_law_220 rfl 0 rfl ?_
  refine x_iload_n C dL_law_221 rfl 3 rfl ?_
  refine x_iconst C dL_law_222 (v := 2) (by decide) ?_
  refine x_iadd C dL_law_223 ?_
  refine x_sld C hX hbl hbA (hj 2 (by decide) (by decide) (nI (5 * i) + 2) (by rw [show (2 : Int32) = nI 2 from rfl, nI_add])) dL_law_224 ?_
  refine x_callV C 0 (m_X8_rod h1) rfl rfl kM_L_31 kI_X8_rod kS_X8_rod kN_X8 kC_X8_rod kD_X8_rod rfl ⟨Nat.le_of_ble_eq_true rfl, Nat.le_of_ble_eq_true rfl⟩ ⟨Nat.le_of_ble_eq_true rfl, Nat.le_of_ble_eq_true rfl⟩ (rest := []) rfl (Nat.le_of_ble_eq_true rfl) dL_law_225 (st' := [.int r]) rfl ?_
  refine x_aload_n C dL_law_228 rfl 2 rfl ?_
  refine x_aload_n C dL_law_229 rfl 0 rfl ?_
  refine x_iload_n C dL_law_230 rfl 3 rfl ?_
  refine x_iconst C dL_law_231 (v := 1) (by decide) ?_
  refine x_iadd C dL_law_232 ?_
  refine x_sld C hX hbl hbA (hj 1 (by decide) (by decide) (nI (5 * i) + 1) (by rw [show (1 : Int32) = nI 1 from rfl, nI_add])) dL_law_233 ?_
  refine x_aload_n C dL_law_234 rfl 0 rfl ?_
  refine x_iload_n C dL_law_235 rfl 3 rfl ?_
  refine x_iconst C dL_law_236 (v := 2) (by decide) ?_
  refine x_iadd C dL_law_237 ?_
  refine x_sld C hX hbl hbA (hj 2 (by decide) (by decide) (nI (5 * i) + 2) (by rw [show (2 : Int32) = nI 2 from rfl, nI_add])) dL_law_238 ?_
  refine x_callV C 57 (m_X9_rod h2) rfl rfl kM_L_35 kI_X9_rod kS_X9_rod kN_X9 kC_X9_rod kD_X9_rod rfl ⟨Nat.le_of_ble_eq_true rfl, Nat.le_of_ble_eq_true rfl⟩ ⟨Nat.le_of_ble_eq_true rfl, Nat.le_of_ble_eq_true rfl⟩ (rest := [.int r]) rfl (Nat.le_of_ble_eq_true rfl) dL_law_239 (st' := [.int r, .int r]) rfl ?_
  refine x_icmp_eqT C dL_law_242 (tgt := 771) (by decide) rfl ?_
  exact kk _ _ hI2
set_option maxHeartbeats 4000000 in
set_option maxRecDepth 20000 in
theorem lc_thing {E : gs_E} {p : Program} {l : Launch} {e : Env} {s : State} {m : MethodId} {args : Array Value} {below : List Frame} {meth : Method} {c : Code} {Q : State → Prop} {b L : Nat} {xs : Nat → Int32} (C : gs_X E RL cL_law 4 p s m args meth c) (hX : va_X b L xs s s.heap) (hbl : b < s.heap.size) (hbA : ¬ gs_A E b) {i : Nat} (hj : ∀ q, 0 < q → q < 5 → ∀ x, x = nI (5 * i + q) → inb x L) {σ : gs_H} {g : Int64} (hI : Inv i σ) (hN : i < 1000) (kk : ∀ σ' g', Inv (i + 1) σ' → gs_W E 4 p l e room_1 s m args below meth c 74 636 Q 771 [(0, .ref b), (1, .ref (gs_a E 0)), (2, .ref (gs_a E 57)), (3, .int (nI (5 * i)))] [] σ' g') : gs_W E 4 p l e room_1 s m args below meth c 74 636 Q 247 [(0, .ref b), (1, .ref (gs_a E 0)), (2, .ref (gs_a E 57)), (3, .int (nI (5 * i)))] [] σ g := by
  obtain ⟨r, h1, h2, hI2⟩ := pu_thing hI (xs (nI (5 * i) + 1).toNatClampNeg) (xs (nI (5 * i) + 2).toNatClampNeg)
  refine x_aload_n C dL_law_247 rfl 1 rfl ?_
  refine x_aload_n C dL_law_248 rfl 0 rfl ?_
  refine x_iload_n C dL_law_249 rfl 3 rfl ?_
  refine x_iconst C dL_law_250 (v := 1) (by decide) ?_
  refine x_iadd C dL_law_251 ?_
  refine x_sld C hX hbl hbA (hj 1 (by decide) (by decide) (nI (5 * i) + 1) (by rw [show (1 : Int32) = nI 1 from rfl, nI_add])) dL_law_252 ?_
  refine x_aload_n C dL_law_253 rfl 0 rfl ?_
  refine x_iload_n C dL_law_254 rfl 3 rfl ?_
  refine x_iconst C dL_law_255 (v := 2) (by decide) ?_
  refine x_iadd C dL_law_256 ?_
  refine x_sld C hX hbl hbA (hj 2 (by decide) (by decide) (nI (5 * i) + 2) (by rw [show (2 : Int32) = nI 2 from rfl, nI_add])) dL_law_257 ?_
  refine x_callV C 0 (m_X8_thing h1) rfl rfl kM_L_36 kI_X8_thing kS_X8_thing kN_X8 kC_X8_thing kD_X8_thing rfl ⟨Nat.le_of_ble_eq_true rfl, Nat.le_of_ble_eq_true rfl⟩ ⟨Nat.le_of_ble_eq_true rfl, Nat.le_of_ble_eq_true rfl⟩ (rest := []) rfl (Nat.le_of_ble_eq_true rfl) dL_law_258 (st' := [.int r]) rfl ?_
  refine x_aload_n C dL_law_261 rfl 2 rfl ?_
  refine x_aload_n C dL_law_262 rfl 0 rfl ?_
  refine x_iload_n C dL_law_263 rfl 3 rfl ?_
  refine x_iconst C dL_law_264 (v := 1) (by decide) ?_
  refine x_iadd C dL_law_265 ?_
  refine x_sld C hX hbl hbA (hj 1 (by decide) (by decide) (nI (5 * i) + 1) (by rw [show (1 : Int32) = nI 1 from rfl, nI_add])) dL_law_266 ?_
  refine x_aload_n C dL_law_267 rfl 0 rfl ?_
  refine x_iload_n C dL_law_268 rfl 3 rfl ?_
  refine x_iconst C dL_law_269 (v := 2) (by decide) ?_
  refine x_iadd C dL_law_270 ?_
  refine x_sld C hX hbl hbA (hj 2 (by decide) (by decide) (nI (5 * i) + 2) (by rw [show (2 : Int32) = nI 2 from rfl, nI_add])) dL_law_271 ?_
  refine x_callV C 57 (m_X9_thing h2) rfl rfl kM_L_39 kI_X9_thing kS_X9_thing kN_X9 kC_X9_thing kD_X9_thing rfl ⟨Nat.le_of_ble_eq_true rfl, Nat.le_of_ble_eq_true rfl⟩ ⟨Nat.le_of_ble_eq_true rfl, Nat.le_of_ble_eq_true rfl⟩ (rest := [.int r]) rfl (Nat.le_of_ble_eq_true rfl) dL_law_272 (st' := [.int r, .int r]) rfl ?_
  refine x_icmp_eqT C dL_law_275 (tgt := 771) (by decide) rfl ?_
  exact kk _ _ hI2
set_option maxHeartbeats 4000000 in
set_option maxRecDepth 20000 in
theorem lc_as {E : gs_E} {p : Program} {l : Launch} {e : Env} {s : State} {m : MethodId} {args : Array Value} {below : List Frame} {meth : Method} {c : Code} {Q : State → Prop} {b L : Nat} {xs : Nat → Int32} (C : gs_X E RL cL_law 4 p s m args meth c) (hX : va_X b L xs s s.heap) (hbl : b < s.heap.size) (hbA : ¬ gs_A E b) {i : Nat} (hj : ∀ q, 0 < q → q < 5 → ∀ x, x = nI (5 * i + q) → inb x L) {σ : gs_H} {g : Int64} (hI : Inv i σ) (hN : i < 1000) (kk : ∀ σ' g', Inv (i + 1) σ' → gs_W E 4 p l e room_1 s m args below meth c 74 636 Q 771 [(0, .ref b), (1, .ref (gs_a E 0)), (2, .ref (gs_a E 57)), (3, .int (nI (5 * i)))] [] σ' g') : gs_W E 4 p l e room_1 s m args below meth c 74 636 Q 280 [(0, .ref b), (1, .ref (gs_a E 0)), (2, .ref (gs_a E 57)), (3, .int (nI (5 * i)))] [] σ g := by
  obtain ⟨r, h1, h2, hI2⟩ := pu_as hI (xs (nI (5 * i) + 1).toNatClampNeg) (xs (nI (5 * i) + 2).toNatClampNeg)
  refine x_aload_n C dL_law_280 rfl 1 rfl ?_
  refine x_aload_n C dL_law_281 rfl 0 rfl ?_
  refine x_iload_n C dL_law_282 rfl 3 rfl ?_
  refine x_iconst C dL_law_283 (v := 1) (by decide) ?_
  refine x_iadd C dL_law_284 ?_
  refine x_sld C hX hbl hbA (hj 1 (by decide) (by decide) (nI (5 * i) + 1) (by rw [show (1 : Int32) = nI 1 from rfl, nI_add])) dL_law_285 ?_
  refine x_aload_n C dL_law_286 rfl 0 rfl ?_
  refine x_iload_n C dL_law_287 rfl 3 rfl ?_
  refine x_iconst C dL_law_288 (v := 2) (by decide) ?_
  refine x_iadd C dL_law_289 ?_
  refine x_sld C hX hbl hbA (hj 2 (by decide) (by decide) (nI (5 * i) + 2) (by rw [show (2 : Int32) = nI 2 from rfl, nI_add])) dL_law_290 ?_
  refine x_callV C 0 (m_X8_as h1) rfl rfl kM_L_40 kI_X8_as kS_X8_as kN_X8 kC_X8_as kD_X8_as rfl ⟨Nat.le_of_ble_eq_true rfl, Nat.le_of_ble_eq_true rfl⟩ ⟨Nat.le_of_ble_eq_true rfl, Nat.le_of_ble_eq_true rfl⟩ (rest := []) rfl (Nat.le_of_ble_eq_true rfl) dL_law_291 (st' := [.int r]) rfl ?_
  refine x_aload_n C dL_law_294 rfl 2 rfl ?_
  refine x_aload_n C dL_law_295 rfl 0 rfl ?_
  refine x_iload_n C dL_law_296 rfl 3 rfl ?_
  refine x_iconst C dL_law_297 (v := 1) (by decide) ?_
  refine x_iadd C dL_law_298 ?_
  refine x_sld C hX hbl hbA (hj 1 (by decide) (by decide) (nI (5 * i) + 1) (by rw [show (1 : Int32) = nI 1 from rfl, nI_add])) dL_law_299 ?_
  refine x_aload_n C dL_law_300 rfl 0 rfl ?_
  refine x_iload_n C dL_law_301 rfl 3 rfl ?_
  refine x_iconst C dL_law_302 (v := 2) (by decide) ?_
  refine x_iadd C dL_law_303 ?_
  refine x_sld C hX hbl hbA (hj 2 (by decide) (by decide) (nI (5 * i) + 2) (by rw [show (2 : Int32) = nI 2 from rfl, nI_add])) dL_law_304 ?_
  refine x_callV C 57 (m_X9_as h2) rfl rfl kM_L_43 kI_X9_as kS_X9_as kN_X9 kC_X9_as kD_X9_as rfl ⟨Nat.le_of_ble_eq_true rfl, Nat.le_of_ble_eq_true rfl⟩ ⟨Nat.le_of_ble_eq_true rfl, Nat.le_of_ble_eq_true rfl⟩ (rest := [.int r]) rfl (Nat.le_of_ble_eq_true rfl) dL_law_305 (st' := [.int r, .int r]) rfl ?_
  refine x_icmp_eqT C dL_law_308 (tgt := 771) (by decide) rfl ?_
  exact kk _ _ hI2
set_option maxHeartbeats 4000000 in
set_option maxRecDepth 20000 in
theorem lc_hour {E : gs_E} {p : Program} {l : Launch} {e : Env} {s : State} {m : MethodId} {args : Array Value} {below : List Frame} {meth : Method} {c : Code} {Q : State → Prop} {b L : Nat} {xs : Nat → Int32} (C : gs_X E RL cL_law 4 p s m args meth c) (hX : va_X b L xs s s.heap) (hbl : b < s.heap.size) (hbA : ¬ gs_A E b) {i : Nat} (hj : ∀ q, 0 < q → q < 5 → ∀ x, x = nI (5 * i + q) → inb x L) {σ : gs_H} {g : Int64} (hI : Inv i σ) (hN : i < 1000) (kk : ∀ σ' g', Inv (i + 1) σ' → gs_W E 4 p l e room_1 s m args below meth c 74 636 Q 771 [(0, .ref b), (1, .ref (gs_a E 0)), (2, .ref (gs_a E 57)), (3, .int (nI (5 * i)))] [] σ' g') : gs_W E 4 p l e room_1 s m args below meth c 74 636 Q 313 [(0, .ref b), (1, .ref (gs_a E 0)), (2, .ref (gs_a E 57)), (3, .int (nI (5 * i)))] [] σ g := by
  obtain ⟨r, s1, s2, h1, h2, hI2⟩ := pu_hour hI 
  refine x_aload_n C dL_law_313 rfl 1 rfl ?_
  refine x_callV C 0 (m_X8_hour h1) rfl rfl kM_L_44 kI_X8_hour kS_X8_hour kN_X8 kC_X8_hour kD_X8_hour rfl ⟨Nat.le_of_ble_eq_true rfl, Nat.le_of_ble_eq_true rfl⟩ ⟨Nat.le_of_ble_eq_true rfl, Nat.le_of_ble_eq_true rfl⟩ (rest := []) rfl (Nat.le_of_ble_eq_true rfl) dL_law_314 (st' := [.int r]) rfl ?_
  refine x_aload_n C dL_law_317 rfl 2 rfl ?_
  refine x_callV C 57 (m_X9_hour h2) rfl rfl kM_L_47 kI_X9_hour kS_X9_hour kN_X9 kC_X9_hour kD_X9_hour rfl ⟨Nat.le_of_ble_eq_true rfl, Nat.le_of_ble_eq_true rfl⟩ ⟨Nat.le_of_ble_eq_true rfl, Nat.le_of_ble_eq_true rfl⟩ (rest := [.int r]) rfl (Nat.le_of_ble_eq_true rfl) dL_law_318 (st' := [.int r, .int r]) rfl ?_
  refine x_icmp_eqT C dL_law_321 (tgt := 771) (by decide) rfl ?_
  exact kk _ _ hI2
set_option maxHeartbeats 4000000 in
set_option maxRecDepth 20000 in
theorem lc_exchange {E : gs_E} {p : Program} {l : Launch} {e : Env} {s : State} {m : MethodId} {args : Array Value} {below : List Frame} {meth : Method} {c : Code} {Q : State → Prop} {b L : Nat} {xs : Nat → Int32} (C : gs_X E RL cL_law 4 p s m args meth c) (hX : va_X b L xs s s.heap) (hbl : b < s.heap.size) (hbA : ¬ gs_A E b) {i : Nat} (hj : ∀ q, 0 < q → q < 5 → ∀ x, x = nI (5 * i + q) → inb x L) {σ : gs_H} {g : Int64} (hI : Inv i σ) (hN : i < 1000) (kk : ∀ σ' g', Inv (i + 1) σ' → gs_W E 4 p l e room_1 s m args below meth c 74 636 Q 771 [(0, .ref b), (1, .ref (gs_a E 0)), (2, .ref (gs_a E 57)), (3, .int (nI (5 * i)))] [] σ' g') : gs_W E 4 p l e room_1 s m args below meth c 74 636 Q 326 [(0, .ref b), (1, .ref (gs_a E 0)), (2, .ref (gs_a E 57)), (3, .int (nI (5 * i)))] [] σ g := by
  obtain ⟨r, s1, s2, h1, h2, hI2⟩ := pu_exchange hI (xs (nI (5 * i) + 1).toNatClampNeg) (xs (nI (5 * i) + 2).toNatClampNeg)
  refine x_aload_n C dL_law_326 rfl 1 rfl ?_
  refine x_aload_n C dL_law_327 rfl 0 rfl ?_
  refine x_iload_n C dL_law_328 rfl 3 rfl ?_
  refine x_iconst C dL_law_329 (v := 1) (by decide) ?_
  refine x_iadd C dL_law_330 ?_
  refine x_sld C hX hbl hbA (hj 1 (by decide) (by decide) (nI (5 * i) + 1) (by rw [show (1 : Int32) = nI 1 from rfl, nI_add])) dL_law_331 ?_
  refine x_aload_n C dL_law_332 rfl 0 rfl ?_
  refine x_iload_n C dL_law_333 rfl 3 rfl ?_
  refine x_iconst C dL_law_334 (v := 2) (by decide) ?_
  refine x_iadd C dL_law_335 ?_
  refine x_sld C hX hbl hbA (hj 2 (by decide) (by decide) (nI (5 * i) + 2) (by rw [show (2 : Int32) = nI 2 from rfl, nI_add])) dL_law_336 ?_
  refine x_callV C 0 (m_X8_exchange h1) rfl rfl kM_L_48 kI_X8_exchange kS_X8_exchange kN_X8 kC_X8_exchange kD_X8_exchange rfl ⟨Nat.le_of_ble_eq_true rfl, Nat.le_of_ble_eq_true rfl⟩ ⟨Nat.le_of_ble_eq_true rfl, Nat.le_of_ble_eq_true rfl⟩ (rest := []) rfl (Nat.le_of_ble_eq_true rfl) dL_law_337 (st' := [.int r]) rfl ?_
  refine x_aload_n C dL_law_340 rfl 2 rfl ?_
  refine x_aload_n C dL_law_341 rfl 0 rfl ?_
  refine x_iload_n C dL_law_342 rfl 3 rfl ?_
  refine x_iconst C dL_law_343 (v := 1) (by decide) ?_
  refine x_iadd C dL_law_344 ?_
  refine x_sld C hX hbl hbA (hj 1 (by decide) (by decide) (nI (5 * i) + 1) (by rw [show (1 : Int32) = nI 1 from rfl, nI_add])) dL_law_345 ?_
  refine x_aload_n C dL_law_346 rfl 0 rfl ?_
  refine x_iload_n C dL_law_347 rfl 3 rfl ?_
  refine x_iconst C dL_law_348 (v := 2) (by decide) ?_
  refine x_iadd C dL_law_349 ?_
  refine x_sld C hX hbl hbA (hj 2 (by decide) (by decide) (nI (5 * i) + 2) (by rw [show (2 : Int32) = nI 2 from rfl, nI_add])) dL_law_350 ?_
  refine x_callV C 57 (m_X9_exchange h2) rfl rfl kM_L_51 kI_X9_exchange kS_X9_exchange kN_X9 kC_X9_exchange kD_X9_exchange rfl ⟨Nat.le_of_ble_eq_true rfl, Nat.le_of_ble_eq_true rfl⟩ ⟨Nat.le_of_ble_eq_true rfl, Nat.le_of_ble_eq_true rfl⟩ (rest := [.int r]) rfl (Nat.le_of_ble_eq_true rfl) dL_law_351 (st' := [.int r, .int r]) rfl ?_
  refine x_icmp_eqT C dL_law_354 (tgt := 771) (by decide) rfl ?_
  exact kk _ _ hI2
set_option maxHeartbeats 4000000 in
set_option maxRecDepth 20000 in
theorem lc_move {E : gs_E} {p : Program} {l : Launch} {e : Env} {s : State} {m : MethodId} {args : Array Value} {below : List Frame} {meth : Method} {c : Code} {Q : State → Prop} {b L : Nat} {xs : Nat → Int32} (C : gs_X E RL cL_law 4 p s m args meth c) (hX : va_X b L xs s s.heap) (hbl : b < s.heap.size) (hbA : ¬ gs_A E b) {i : Nat} (hj : ∀ q, 0 < q → q < 5 → ∀ x, x = nI (5 * i + q) → inb x L) {σ : gs_H} {g : Int64} (hI : Inv i σ) (hN : i < 1000) (kk : ∀ σ' g', Inv (i + 1) σ' → gs_W E 4 p l e room_1 s m args below meth c 74 636 Q 771 [(0, .ref b), (1, .ref (gs_a E 0)), (2, .ref (gs_a E 57)), (3, .int (nI (5 * i)))] [] σ' g') : gs_W E 4 p l e room_1 s m args below meth c 74 636 Q 359 [(0, .ref b), (1, .ref (gs_a E 0)), (2, .ref (gs_a E 57)), (3, .int (nI (5 * i)))] [] σ g := by
  obtain ⟨r, s1, s2, h1, h2, hI2⟩ := pu_move hI (xs (nI (5 * i) + 1).toNatClampNeg) (xs (nI (5 * i) + 2).toNatClampNeg)
  refine x_aload_n C dL_law_359 rfl 1 rfl ?_
  refine x_aload_n C dL_law_360 rfl 0 rfl ?_
  refine x_iload_n C dL_law_361 rfl 3 rfl ?_
  refine x_iconst C dL_law_362 (v := 1) (by decide) ?_
  refine x_iadd C dL_law_363 ?_
  refine x_sld C hX hbl hbA (hj 1 (by decide) (by decide) (nI (5 * i) + 1) (by rw [show (1 : Int32) = nI 1 from rfl, nI_add])) dL_law_364 ?_
  refine x_aload_n C dL_law_365 rfl 0 rfl ?_
  refine x_iload_n C dL_law_366 rfl 3 rfl ?_
  refine x_iconst C dL_law_367 (v := 2) (by decide) ?_
  refine x_iadd C dL_law_368 ?_
  refine x_sld C hX hbl hbA (hj 2 (by decide) (by decide) (nI (5 * i) + 2) (by rw [show (2 : Int32) = nI 2 from rfl, nI_add])) dL_law_369 ?_
  refine x_callV C 0 (m_X8_move h1) rfl rfl kM_L_52 kI_X8_move kS_X8_move kN_X8 kC_X8_move kD_X8_move rfl ⟨Nat.le_of_ble_eq_true rfl, Nat.le_of_ble_eq_true rfl⟩ ⟨Nat.le_of_ble_eq_true rfl, Nat.le_of_ble_eq_true rfl⟩ (rest := []) rfl (Nat.le_of_ble_eq_true rfl) dL_law_370 (st' := [.int r]) rfl ?_
  refine x_aload_n C dL_law_373 rfl 2 rfl ?_
  refine x_aload_n C dL_law_374 rfl 0 rfl ?_
  refine x_iload_n C dL_law_375 rfl 3 rfl ?_
  refine x_iconst C dL_law_376 (v := 1) (by decide) ?_
  refine x_iadd C dL_law_377 ?_
  refine x_sld C hX hbl hbA (hj 1 (by decide) (by decide) (nI (5 * i) + 1) (by rw [show (1 : Int32) = nI 1 from rfl, nI_add])) dL_law_378 ?_
  refine x_aload_n C dL_law_379 rfl 0 rfl ?_
  refine x_iload_n C dL_law_380 rfl 3 rfl ?_
  refine x_iconst C dL_law_381 (v := 2) (by decide) ?_
  refine x_iadd C dL_law_382 ?_
  refine x_sld C hX hbl hbA (hj 2 (by decide) (by decide) (nI (5 * i) + 2) (by rw [show (2 : Int32) = nI 2 from rfl, nI_add])) dL_law_383 ?_
  refine x_callV C 57 (m_X9_move h2) rfl rfl kM_L_55 kI_X9_move kS_X9_move kN_X9 kC_X9_move kD_X9_move rfl ⟨Nat.le_of_ble_eq_true rfl, Nat.le_of_ble_eq_true rfl⟩ ⟨Nat.le_of_ble_eq_true rfl, Nat.le_of_ble_eq_true rfl⟩ (rest := [.int r]) rfl (Nat.le_of_ble_eq_true rfl) dL_law_384 (st' := [.int r, .int r]) rfl ?_
  refine x_icmp_eqT C dL_law_387 (tgt := 771) (by decide) rfl ?_
  exact kk _ _ hI2
set_option maxHeartbeats 4000000 in
set_option maxRecDepth 20000 in
theorem lc_cut {E : gs_E} {p : Program} {l : Launch} {e : Env} {s : State} {m : MethodId} {args : Array Value} {below : List Frame} {meth : Method} {c : Code} {Q : State → Prop} {b L : Nat} {xs : Nat → Int32} (C : gs_X E RL cL_law 4 p s m args meth c) (hX : va_X b L xs s s.heap) (hbl : b < s.heap.size) (hbA : ¬ gs_A E b) {i : Nat} (hj : ∀ q, 0 < q → q < 5 → ∀ x, x = nI (5 * i + q) → inb x L) {σ : gs_H} {g : Int64} (hI : Inv i σ) (hN : i < 1000) (kk : ∀ σ' g', Inv (i + 1) σ' → gs_W E 4 p l e room_1 s m args below meth c 74 636 Q 771 [(0, .ref b), (1, .ref (gs_a E 0)), (2, .ref (gs_a E 57)), (3, .int (nI (5 * i)))] [] σ' g') : gs_W E 4 p l e room_1 s m args below meth c 74 636 Q 392 [(0, .ref b), (1, .ref (gs_a E 0)), (2, .ref (gs_a E 57)), (3, .int (nI (5 * i)))] [] σ g := by
  obtain ⟨r, s1, s2, h1, h2, hI2⟩ := pu_cut hI (xs (nI (5 * i) + 1).toNatClampNeg)
  refine x_aload_n C dL_law_392 rfl 1 rfl ?_
  refine x_aload_n C dL_law_393 rfl 0 rfl ?_
  refine x_iload_n C dL_law_394 rfl 3 rfl ?_
  refine x_iconst C dL_law_395 (v := 1) (by decide) ?_
  refine x_iadd C dL_law_396 ?_
  refine x_sld C hX hbl hbA (hj 1 (by decide) (by decide) (nI (5 * i) + 1) (by rw [show (1 : Int32) = nI 1 from rfl, nI_add])) dL_law_397 ?_
  refine x_callV C 0 (m_X8_cut h1) rfl rfl kM_L_56 kI_X8_cut kS_X8_cut kN_X8 kC_X8_cut kD_X8_cut rfl ⟨Nat.le_of_ble_eq_true rfl, Nat.le_of_ble_eq_true rfl⟩ ⟨Nat.le_of_ble_eq_true rfl, Nat.le_of_ble_eq_true rfl⟩ (rest := []) rfl (Nat.le_of_ble_eq_true rfl) dL_law_398 (st' := [.int r]) rfl ?_
  refine x_aload_n C dL_law_401 rfl 2 rfl ?_
  refine x_aload_n C dL_law_402 rfl 0 rfl ?_
  refine x_iload_n C dL_law_403 rfl 3 rfl ?_
  refine x_iconst C dL_law_404 (v := 1) (by decide) ?_
  refine x_iadd C dL_law_405 ?_
  refine x_sld C hX hbl hbA (hj 1 (by decide) (by decide) (nI (5 * i) + 1) (by rw [show (1 : Int32) = nI 1 from rfl, nI_add])) dL_law_406 ?_
  refine x_callV C 57 (m_X9_cut h2) rfl rfl kM_L_59 kI_X9_cut kS_X9_cut kN_X9 kC_X9_cut kD_X9_cut rfl ⟨Nat.le_of_ble_eq_true rfl, Nat.le_of_ble_eq_true rfl⟩ ⟨Nat.le_of_ble_eq_true rfl, Nat.le_of_ble_eq_true rfl⟩ (rest := [.int r]) rfl (Nat.le_of_ble_eq_true rfl) dL_law_407 (st' := [.int r, .int r]) rfl ?_
  refine x_icmp_eqT C dL_law_410 (tgt := 771) (by decide) rfl ?_
  exact kk _ _ hI2
set_option maxHeartbeats 4000000 in
set_option maxRecDepth 20000 in
theorem lc_drop {E : gs_E} {p : Program} {l : Launch} {e : Env} {s : State} {m : MethodId} {args : Array Value} {below : List Frame} {meth : Method} {c : Code} {Q : State → Prop} {b L : Nat} {xs : Nat → Int32} (C : gs_X E RL cL_law 4 p s m args meth c) (hX : va_X b L xs s s.heap) (hbl : b < s.heap.size) (hbA : ¬ gs_A E b) {i : Nat} (hj : ∀ q, 0 < q → q < 5 → ∀ x, x = nI (5 * i + q) → inb x L) {σ : gs_H} {g : Int64} (hI : Inv i σ) (hN : i < 1000) (kk : ∀ σ' g', Inv (i + 1) σ' → gs_W E 4 p l e room_1 s m args below meth c 74 636 Q 771 [(0, .ref b), (1, .ref (gs_a E 0)), (2, .ref (gs_a E 57)), (3, .int (nI (5 * i)))] [] σ' g') : gs_W E 4 p l e room_1 s m args below meth c 74 636 Q 415 [(0, .ref b), (1, .ref (gs_a E 0)), (2, .ref (gs_a E 57)), (3, .int (nI (5 * i)))] [] σ g := by
  obtain ⟨r, s1, s2, h1, h2, hI2⟩ := pu_drop hI (xs (nI (5 * i) + 1).toNatClampNeg)
  refine x_aload_n C dL_law_415 rfl 1 rfl ?_
  refine x_aload_n C dL_law_416 rfl 0 rfl ?_
  refine x_iload_n C dL_law_417 rfl 3 rfl ?_
  refine x_iconst C dL_law_418 (v := 1) (by decide) ?_
  refine x_iadd C dL_law_419 ?_
  refine x_sld C hX hbl hbA (hj 1 (by decide) (by decide) (nI (5 * i) + 1) (by rw [show (1 : Int32) = nI 1 from rfl, nI_add])) dL_law_420 ?_
  refine x_callV C 0 (m_X8_drop h1) rfl rfl kM_L_60 kI_X8_drop kS_X8_drop kN_X8 kC_X8_drop kD_X8_drop rfl ⟨Nat.le_of_ble_eq_true rfl, Nat.le_of_ble_eq_true rfl⟩ ⟨Nat.le_of_ble_eq_true rfl, Nat.le_of_ble_eq_true rfl⟩ (rest := []) rfl (Nat.le_of_ble_eq_true rfl) dL_law_421 (st' := [.int r]) rfl ?_
  refine x_aload_n C dL_law_424 rfl 2 rfl ?_
  refine x_aload_n C dL_law_425 rfl 0 rfl ?_
  refine x_iload_n C dL_law_426 rfl 3 rfl ?_
  refine x_iconst C dL_law_427 (v := 1) (by decide) ?_
  refine x_iadd C dL_law_428 ?_
  refine x_sld C hX hbl hbA (hj 1 (by decide) (by decide) (nI (5 * i) + 1) (by rw [show (1 : Int32) = nI 1 from rfl, nI_add])) dL_law_429 ?_
  refine x_callV C 57 (m_X9_drop h2) rfl rfl kM_L_63 kI_X9_drop kS_X9_drop kN_X9 kC_X9_drop kD_X9_drop rfl ⟨Nat.le_of_ble_eq_true rfl, Nat.le_of_ble_eq_true rfl⟩ ⟨Nat.le_of_ble_eq_true rfl, Nat.le_of_ble_eq_true rfl⟩ (rest := [.int r]) rfl (Nat.le_of_ble_eq_true rfl) dL_law_430 (st' := [.int r, .int r]) rfl ?_
  refine x_icmp_eqT C dL_law_433 (tgt := 771) (by decide) rfl ?_
  exact kk _ _ hI2
set_option maxHeartbeats 4000000 in
set_option maxRecDepth 20000 in
theorem lc_mend {E : gs_E} {p : Program} {l : Launch} {e : Env} {s : State} {m : MethodId} {args : Array Value} {below : List Frame} {meth : Method} {c : Code} {Q : State → Prop} {b L : Nat} {xs : Nat → Int32} (C : gs_X E RL cL_law 4 p s m args meth c) (hX : va_X b L xs s s.heap) (hbl : b < s.heap.size) (hbA : ¬ gs_A E b) {i : Nat} (hj : ∀ q, 0 < q → q < 5 → ∀ x, x = nI (5 * i + q) → inb x L) {σ : gs_H} {g : Int64} (hI : Inv i σ) (hN : i < 1000) (kk : ∀ σ' g', Inv (i + 1) σ' → gs_W E 4 p l e room_1 s m args below meth c 74 636 Q 771 [(0, .ref b), (1, .ref (gs_a E 0)), (2, .ref (gs_a E 57)), (3, .int (nI (5 * i)))] [] σ' g') : gs_W E 4 p l e room_1 s m args below meth c 74 636 Q 438 [(0, .ref b), (1, .ref (gs_a E 0)), (2, .ref (gs_a E 57)), (3, .int (nI (5 * i)))] [] σ g := by
  obtain ⟨r, s1, s2, h1, h2, hI2⟩ := pu_mend hI 
  refine x_aload_n C dL_law_438 rfl 1 rfl ?_
  refine x_callV C 0 (m_X8_mend h1) rfl rfl kM_L_64 kI_X8_mend kS_X8_mend kN_X8 kC_X8_mend kD_X8_mend rfl ⟨Nat.le_of_ble_eq_true rfl, Nat.le_of_ble_eq_true rfl⟩ ⟨Nat.le_of_ble_eq_true rfl, Nat.le_of_ble_eq_true rfl⟩ (rest := []) rfl (Nat.le_of_ble_eq_true rfl) dL_law_439 (st' := [.int r]) rfl ?_
  refine x_aload_n C dL_law_442 rfl 2 rfl ?_
  refine x_callV C 57 (m_X9_mend h2) rfl rfl kM_L_67 kI_X9_mend kS_X9_mend kN_X9 kC_X9_mend kD_X9_mend rfl ⟨Nat.le_of_ble_eq_true rfl, Nat.le_of_ble_eq_true rfl⟩ ⟨Nat.le_of_ble_eq_true rfl, Nat.le_of_ble_eq_true rfl⟩ (rest := [.int r]) rfl (Nat.le_of_ble_eq_true rfl) dL_law_443 (st' := [.int r, .int r]) rfl ?_
  refine x_icmp_eqT C dL_law_446 (tgt := 771) (by decide) rfl ?_
  exact kk _ _ hI2
set_option maxHeartbeats 4000000 in
set_option maxRecDepth 20000 in
theorem lc_change {E : gs_E} {p : Program} {l : Launch} {e : Env} {s : State} {m : MethodId} {args : Array Value} {below : List Frame} {meth : Method} {c : Code} {Q : State → Prop} {b L : Nat} {xs : Nat → Int32} (C : gs_X E RL cL_law 4 p s m args meth c) (hX : va_X b L xs s s.heap) (hbl : b < s.heap.size) (hbA : ¬ gs_A E b) {i : Nat} (hj : ∀ q, 0 < q → q < 5 → ∀ x, x = nI (5 * i + q) → inb x L) {σ : gs_H} {g : Int64} (hI : Inv i σ) (hN : i < 1000) (kk : ∀ σ' g', Inv (i + 1) σ' → gs_W E 4 p l e room_1 s m args below meth c 74 636 Q 771 [(0, .ref b), (1, .ref (gs_a E 0)), (2, .ref (gs_a E 57)), (3, .int (nI (5 * i)))] [] σ' g') : gs_W E 4 p l e room_1 s m args below meth c 74 636 Q 451 [(0, .ref b), (1, .ref (gs_a E 0)), (2, .ref (gs_a E 57)), (3, .int (nI (5 * i)))] [] σ g := by
  obtain ⟨r, s1, s2, h1, h2, hI2⟩ := pu_change hI (xs (nI (5 * i) + 1).toNatClampNeg) (xs (nI (5 * i) + 2).toNatClampNeg) (xs (nI (5 * i) + 3).toNatClampNeg)
  refine x_aload_n C dL_law_451 rfl 1 rfl ?_
  refine x_aload_n C dL_law_452 rfl 0 rfl ?_
  refine x_iload_n C dL_law_453 rfl 3 rfl ?_
  refine x_iconst C dL_law_454 (v := 1) (by decide) ?_
  refine x_iadd C dL_law_455 ?_
  refine x_sld C hX hbl hbA (hj 1 (by decide) (by decide) (nI (5 * i) + 1) (by rw [show (1 : Int32) = nI 1 from rfl, nI_add])) dL_law_456 ?_
  refine x_aload_n C dL_law_457 rfl 0 rfl ?_
  refine x_iload_n C dL_law_458 rfl 3 rfl ?_
  refine x_iconst C dL_law_459 (v := 2) (by decide) ?_
  refine x_iadd C dL_law_460 ?_
  refine x_sld C hX hbl hbA (hj 2 (by decide) (by decide) (nI (5 * i) + 2) (by rw [show (2 : Int32) = nI 2 from rfl, nI_add])) dL_law_461 ?_
  refine x_aload_n C dL_law_462 rfl 0 rfl ?_
  refine x_iload_n C dL_law_463 rfl 3 rfl ?_
  refine x_iconst C dL_law_464 (v := 3) (by decide) ?_
  refine x_iadd C dL_law_465 ?_
  refine x_sld C hX hbl hbA (hj 3 (by decide) (by decide) (nI (5 * i) + 3) (by rw [show (3 : Int32) = nI 3 from rfl, nI_add])) dL_law_466 ?_
  refine x_callV C 0 (m_X8_change h1) rfl rfl kM_L_68 kI_X8_change kS_X8_change kN_X8 kC_X8_change kD_X8_change rfl ⟨Nat.le_of_ble_eq_true rfl, Nat.le_of_ble_eq_true rfl⟩ ⟨Nat.le_of_ble_eq_true rfl, Nat.le_of_ble_eq_true rfl⟩ (rest := []) rfl (Nat.le_of_ble_eq_true rfl) dL_law_467 (st' := [.int r]) rfl ?_
  refine x_aload_n C dL_law_470 rfl 2 rfl ?_
  refine x_aload_n C dL_law_471 rfl 0 rfl ?_
  refine x_iload_n C dL_law_472 rfl 3 rfl ?_
  refine x_iconst C dL_law_473 (v := 1) (by decide) ?_
  refine x_iadd C dL_law_474 ?_
  refine x_sld C hX hbl hbA (hj 1 (by decide) (by decide) (nI (5 * i) + 1) (by rw [show (1 : Int32) = nI 1 from rfl, nI_add])) dL_law_475 ?_
  refine x_aload_n C dL_law_476 rfl 0 rfl ?_
  refine x_iload_n C dL_law_477 rfl 3 rfl ?_
  refine x_iconst C dL_law_478 (v := 2) (by decide) ?_
  refine x_iadd C dL_law_479 ?_
  refine x_sld C hX hbl hbA (hj 2 (by decide) (by decide) (nI (5 * i) + 2) (by rw [show (2 : Int32) = nI 2 from rfl, nI_add])) dL_law_480 ?_
  refine x_aload_n C dL_law_481 rfl 0 rfl ?_
  refine x_iload_n C dL_law_482 rfl 3 rfl ?_
  refine x_iconst C dL_law_483 (v := 3) (by decide) ?_
  refine x_iadd C dL_law_484 ?_
  refine x_sld C hX hbl hbA (hj 3 (by decide) (by decide) (nI (5 * i) + 3) (by rw [show (3 : Int32) = nI 3 from rfl, nI_add])) dL_law_485 ?_
  refine x_callV C 57 (m_X9_change h2) rfl rfl kM_L_72 kI_X9_change kS_X9_change kN_X9 kC_X9_change kD_X9_change rfl ⟨Nat.le_of_ble_eq_true rfl, Nat.le_of_ble_eq_true rfl⟩ ⟨Nat.le_of_ble_eq_true rfl, Nat.le_of_ble_eq_true rfl⟩ (rest := [.int r]) rfl (Nat.le_of_ble_eq_true rfl) dL_law_486 (st' := [.int r, .int r]) rfl ?_
  refine x_icmp_eqT C dL_law_489 (tgt := 771) (by decide) rfl ?_
  exact kk _ _ hI2
set_option maxHeartbeats 4000000 in
set_option maxRecDepth 20000 in
theorem lc_best {E : gs_E} {p : Program} {l : Launch} {e : Env} {s : State} {m : MethodId} {args : Array Value} {below : List Frame} {meth : Method} {c : Code} {Q : State → Prop} {b L : Nat} {xs : Nat → Int32} (C : gs_X E RL cL_law 4 p s m args meth c) (hX : va_X b L xs s s.heap) (hbl : b < s.heap.size) (hbA : ¬ gs_A E b) {i : Nat} (hj : ∀ q, 0 < q → q < 5 → ∀ x, x = nI (5 * i + q) → inb x L) {σ : gs_H} {g : Int64} (hI : Inv i σ) (hN : i < 1000) (kk : ∀ σ' g', Inv (i + 1) σ' → gs_W E 4 p l e room_1 s m args below meth c 74 636 Q 771 [(0, .ref b), (1, .ref (gs_a E 0)), (2, .ref (gs_a E 57)), (3, .int (nI (5 * i)))] [] σ' g') : gs_W E 4 p l e room_1 s m args below meth c 74 636 Q 494 [(0, .ref b), (1, .ref (gs_a E 0)), (2, .ref (gs_a E 57)), (3, .int (nI (5 * i)))] [] σ g := by
  obtain ⟨r, s1, s2, h1, h2, hI2⟩ := pu_best hI 
  refine x_aload_n C dL_law_494 rfl 1 rfl ?_
  refine x_callV C 0 (m_X8_best h1) rfl rfl kM_L_73 kI_X8_best kS_X8_best kN_X8 kC_X8_best kD_X8_best rfl ⟨Nat.le_of_ble_eq_true rfl, Nat.le_of_ble_eq_true rfl⟩ ⟨Nat.le_of_ble_eq_true rfl, Nat.le_of_ble_eq_true rfl⟩ (rest := []) rfl (Nat.le_of_ble_eq_true rfl) dL_law_495 (st' := [.int r]) rfl ?_
  refine x_aload_n C dL_law_498 rfl 2 rfl ?_
  refine x_callV C 57 (m_X9_best h2) rfl rfl kM_L_76 kI_X9_best kS_X9_best kN_X9 kC_X9_best kD_X9_best rfl ⟨Nat.le_of_ble_eq_true rfl, Nat.le_of_ble_eq_true rfl⟩ ⟨Nat.le_of_ble_eq_true rfl, Nat.le_of_ble_eq_true rfl⟩ (rest := [.int r]) rfl (Nat.le_of_ble_eq_true rfl) dL_law_499 (st' := [.int r, .int r]) rfl ?_
  refine x_icmp_eqT C dL_law_502 (tgt := 771) (by decide) rfl ?_
  exact kk _ _ hI2
set_option maxHeartbeats 4000000 in
set_option maxRecDepth 20000 in
theorem lc_lay {E : gs_E} {p : Program} {l : Launch} {e : Env} {s : State} {m : MethodId} {args : Array Value} {below : List Frame} {meth : Method} {c : Code} {Q : State → Prop} {b L : Nat} {xs : Nat → Int32} (C : gs_X E RL cL_law 4 p s m args meth c) (hX : va_X b L xs s s.heap) (hbl : b < s.heap.size) (hbA : ¬ gs_A E b) {i : Nat} (hj : ∀ q, 0 < q → q < 5 → ∀ x, x = nI (5 * i + q) → inb x L) {σ : gs_H} {g : Int64} (hI : Inv i σ) (hN : i < 1000) (kk : ∀ σ' g', Inv (i + 1) σ' → gs_W E 4 p l e room_1 s m args below meth c 74 636 Q 771 [(0, .ref b), (1, .ref (gs_a E 0)), (2, .ref (gs_a E 57)), (3, .int (nI (5 * i)))] [] σ' g') : gs_W E 4 p l e room_1 s m args below meth c 74 636 Q 507 [(0, .ref b), (1, .ref (gs_a E 0)), (2, .ref (gs_a E 57)), (3, .int (nI (5 * i)))] [] σ g := by
  obtain ⟨r, s1, s2, h1, h2, hI2⟩ := pu_lay hI (xs (nI (5 * i) + 1).toNatClampNeg)
  refine x_aload_n C dL_law_507 rfl 1 rfl ?_
  refine x_aload_n C dL_law_508 rfl 0 rfl ?_
  refine x_iload_n C dL_law_509 rfl 3 rfl ?_
  refine x_iconst C dL_law_510 (v := 1) (by decide) ?_
  refine x_iadd C dL_law_511 ?_
  refine x_sld C hX hbl hbA (hj 1 (by decide) (by decide) (nI (5 * i) + 1) (by rw [show (1 : Int32) = nI 1 from rfl, nI_add])) dL_law_512 ?_
  refine x_callV C 0 (m_X8_lay h1) rfl rfl kM_L_77 kI_X8_lay kS_X8_lay kN_X8 kC_X8_lay kD_X8_lay rfl ⟨Nat.le_of_ble_eq_true rfl, Nat.le_of_ble_eq_true rfl⟩ ⟨Nat.le_of_ble_eq_true rfl, Nat.le_of_ble_eq_true rfl⟩ (rest := []) rfl (Nat.le_of_ble_eq_true rfl) dL_law_513 (st' := [.int r]) rfl ?_
  refine x_aload_n C dL_law_516 rfl 2 rfl ?_
  refine x_aload_n C dL_law_517 rfl 0 rfl ?_
  refine x_iload_n C dL_law_518 rfl 3 rfl ?_
  refine x_iconst C dL_law_519 (v := 1) (by decide) ?_
  refine x_iadd C dL_law_520 ?_
  refine x_sld C hX hbl hbA (hj 1 (by decide) (by decide) (nI (5 * i) + 1) (by rw [show (1 : Int32) = nI 1 from rfl, nI_add])) dL_law_521 ?_
  refine x_callV C 57 (m_X9_lay h2) rfl rfl kM_L_80 kI_X9_lay kS_X9_lay kN_X9 kC_X9_lay kD_X9_lay rfl ⟨Nat.le_of_ble_eq_true rfl, Nat.le_of_ble_eq_true rfl⟩ ⟨Nat.le_of_ble_eq_true rfl, Nat.le_of_ble_eq_true rfl⟩ (rest := [.int r]) rfl (Nat.le_of_ble_eq_true rfl) dL_law_522 (st' := [.int r, .int r]) rfl ?_
  refine x_icmp_eqT C dL_law_525 (tgt := 771) (by decide) rfl ?_
  exact kk _ _ hI2
set_option maxHeartbeats 4000000 in
set_option maxRecDepth 20000 in
theorem lc_even {E : gs_E} {p : Program} {l : Launch} {e : Env} {s : State} {m : MethodId} {args : Array Value} {below : List Frame} {meth : Method} {c : Code} {Q : State → Prop} {b L : Nat} {xs : Nat → Int32} (C : gs_X E RL cL_law 4 p s m args meth c) (hX : va_X b L xs s s.heap) (hbl : b < s.heap.size) (hbA : ¬ gs_A E b) {i : Nat} (hj : ∀ q, 0 < q → q < 5 → ∀ x, x = nI (5 * i + q) → inb x L) {σ : gs_H} {g : Int64} (hI : Inv i σ) (hN : i < 1000) (kk : ∀ σ' g', Inv (i + 1) σ' → gs_W E 4 p l e room_1 s m args below meth c 74 636 Q 771 [(0, .ref b), (1, .ref (gs_a E 0)), (2, .ref (gs_a E 57)), (3, .int (nI (5 * i)))] [] σ' g') : gs_W E 4 p l e room_1 s m args below meth c 74 636 Q 530 [(0, .ref b), (1, .ref (gs_a E 0)), (2, .ref (gs_a E 57)), (3, .int (nI (5 * i)))] [] σ g := by
  obtain ⟨r, s1, s2, h1, h2, hI2⟩ := pu_even hI 
  refine x_aload_n C dL_law_530 rfl 1 rfl ?_
  refine x_callV C 0 (m_X8_even h1) rfl rfl kM_L_81 kI_X8_even kS_X8_even kN_X8 kC_X8_even kD_X8_even rfl ⟨Nat.le_of_ble_eq_true rfl, Nat.le_of_ble_eq_true rfl⟩ ⟨Nat.le_of_ble_eq_true rfl, Nat.le_of_ble_eq_true rfl⟩ (rest := []) rfl (Nat.le_of_ble_eq_true rfl) dL_law_531 (st' := [.int r]) rfl ?_
  refine x_aload_n C dL_law_534 rfl 2 rfl ?_
  refine x_callV C 57 (m_X9_even h2) rfl rfl kM_L_84 kI_X9_even kS_X9_even kN_X9 kC_X9_even kD_X9_even rfl ⟨Nat.le_of_ble_eq_true rfl, Nat.le_of_ble_eq_true rfl⟩ ⟨Nat.le_of_ble_eq_true rfl, Nat.le_of_ble_eq_true rfl⟩ (rest := [.int r]) rfl (Nat.le_of_ble_eq_true rfl) dL_law_535 (st' := [.int r, .int r]) rfl ?_
  refine x_icmp_eqT C dL_law_538 (tgt := 771) (by decide) rfl ?_
  exact kk _ _ hI2
set_option maxHeartbeats 4000000 in
set_option maxRecDepth 20000 in
theorem lc_odds {E : gs_E} {p : Program} {l : Launch} {e : Env} {s : State} {m : MethodId} {args : Array Value} {below : List Frame} {meth : Method} {c : Code} {Q : State → Prop} {b L : Nat} {xs : Nat → Int32} (C : gs_X E RL cL_law 4 p s m args meth c) (hX : va_X b L xs s s.heap) (hbl : b < s.heap.size) (hbA : ¬ gs_A E b) {i : Nat} (hj : ∀ q, 0 < q → q < 5 → ∀ x, x = nI (5 * i + q) → inb x L) {σ : gs_H} {g : Int64} (hI : Inv i σ) (hN : i < 1000) (kk : ∀ σ' g', Inv (i + 1) σ' → gs_W E 4 p l e room_1 s m args below meth c 74 636 Q 771 [(0, .ref b), (1, .ref (gs_a E 0)), (2, .ref (gs_a E 57)), (3, .int (nI (5 * i)))] [] σ' g') : gs_W E 4 p l e room_1 s m args below meth c 74 636 Q 543 [(0, .ref b), (1, .ref (gs_a E 0)), (2, .ref (gs_a E 57)), (3, .int (nI (5 * i)))] [] σ g := by
  obtain ⟨r, s1, s2, h1, h2, hI2⟩ := pu_odds hI (xs (nI (5 * i) + 1).toNatClampNeg)
  refine x_aload_n C dL_law_543 rfl 1 rfl ?_
  refine x_aload_n C dL_law_544 rfl 0 rfl ?_
  refine x_iload_n C dL_law_545 rfl 3 rfl ?_
  refine x_iconst C dL_law_546 (v := 1) (by decide) ?_
  refine x_iadd C dL_law_547 ?_
  refine x_sld C hX hbl hbA (hj 1 (by decide) (by decide) (nI (5 * i) + 1) (by rw [show (1 : Int32) = nI 1 from rfl, nI_add])) dL_law_548 ?_
  refine x_callV C 0 (m_X8_odds h1) rfl rfl kM_L_85 kI_X8_odds kS_X8_odds kN_X8 kC_X8_odds kD_X8_odds rfl ⟨Nat.le_of_ble_eq_true rfl, Nat.le_of_ble_eq_true rfl⟩ ⟨Nat.le_of_ble_eq_true rfl, Nat.le_of_ble_eq_true rfl⟩ (rest := []) rfl (Nat.le_of_ble_eq_true rfl) dL_law_549 (st' := [.int r]) rfl ?_
  refine x_aload_n C dL_law_552 rfl 2 rfl ?_
  refine x_aload_n C dL_law_553 rfl 0 rfl ?_
  refine x_iload_n C dL_law_554 rfl 3 rfl ?_
  refine x_iconst C dL_law_555 (v := 1) (by decide) ?_
  refine x_iadd C dL_law_556 ?_
  refine x_sld C hX hbl hbA (hj 1 (by decide) (by decide) (nI (5 * i) + 1) (by rw [show (1 : Int32) = nI 1 from rfl, nI_add])) dL_law_557 ?_
  refine x_callV C 57 (m_X9_odds h2) rfl rfl kM_L_88 kI_X9_odds kS_X9_odds kN_X9 kC_X9_odds kD_X9_odds rfl ⟨Nat.le_of_ble_eq_true rfl, Nat.le_of_ble_eq_true rfl⟩ ⟨Nat.le_of_ble_eq_true rfl, Nat.le_of_ble_eq_true rfl⟩ (rest := [.int r]) rfl (Nat.le_of_ble_eq_true rfl) dL_law_558 (st' := [.int r, .int r]) rfl ?_
  refine x_icmp_eqT C dL_law_561 (tgt := 771) (by decide) rfl ?_
  exact kk _ _ hI2
set_option maxHeartbeats 4000000 in
set_option maxRecDepth 20000 in
theorem lc_see {E : gs_E} {p : Program} {l : Launch} {e : Env} {s : State} {m : MethodId} {args : Array Value} {below : List Frame} {meth : Method} {c : Code} {Q : State → Prop} {b L : Nat} {xs : Nat → Int32} (C : gs_X E RL cL_law 4 p s m args meth c) (hX : va_X b L xs s s.heap) (hbl : b < s.heap.size) (hbA : ¬ gs_A E b) {i : Nat} (hj : ∀ q, 0 < q → q < 5 → ∀ x, x = nI (5 * i + q) → inb x L) {σ : gs_H} {g : Int64} (hI : Inv i σ) (hN : i < 1000) (kk : ∀ σ' g', Inv (i + 1) σ' → gs_W E 4 p l e room_1 s m args below meth c 74 636 Q 771 [(0, .ref b), (1, .ref (gs_a E 0)), (2, .ref (gs_a E 57)), (3, .int (nI (5 * i)))] [] σ' g') : gs_W E 4 p l e room_1 s m args below meth c 74 636 Q 566 [(0, .ref b), (1, .ref (gs_a E 0)), (2, .ref (gs_a E 57)), (3, .int (nI (5 * i)))] [] σ g := by
  obtain ⟨r, s1, s2, h1, h2, hI2⟩ := pu_see hI (xs (nI (5 * i) + 1).toNatClampNeg) (xs (nI (5 * i) + 2).toNatClampNeg) (xs (nI (5 * i) + 3).toNatClampNeg) (xs (nI (5 * i) + 4).toNatClampNeg)
  refine x_aload_n C dL_law_566 rfl 1 rfl ?_
  refine x_aload_n C dL_law_567 rfl 0 rfl ?_
  refine x_iload_n C dL_law_568 rfl 3 rfl ?_
  refine x_iconst C dL_law_569 (v := 1) (by decide) ?_
  refine x_iadd C dL_law_570 ?_
  refine x_sld C hX hbl hbA (hj 1 (by decide) (by decide) (nI (5 * i) + 1) (by rw [show (1 : Int32) = nI 1 from rfl, nI_add])) dL_law_571 ?_
  refine x_aload_n C dL_law_572 rfl 0 rfl ?_
  refine x_iload_n C dL_law_573 rfl 3 rfl ?_
  refine x_iconst C dL_law_574 (v := 2) (by decide) ?_
  refine x_iadd C dL_law_575 ?_
  refine x_sld C hX hbl hbA (hj 2 (by decide) (by decide) (nI (5 * i) + 2) (by rw [show (2 : Int32) = nI 2 from rfl, nI_add])) dL_law_576 ?_
  refine x_aload_n C dL_law_577 rfl 0 rfl ?_
  refine x_iload_n C dL_law_578 rfl 3 rfl ?_
  refine x_iconst C dL_law_579 (v := 3) (by decide) ?_
  refine x_iadd C dL_law_580 ?_
  refine x_sld C hX hbl hbA (hj 3 (by decide) (by decide) (nI (5 * i) + 3) (by rw [show (3 : Int32) = nI 3 from rfl, nI_add])) dL_law_581 ?_
  refine x_aload_n C dL_law_582 rfl 0 rfl ?_
  refine x_iload_n C dL_law_583 rfl 3 rfl ?_
  refine x_iconst C dL_law_584 (v := 4) (by decide) ?_
  refine x_iadd C dL_law_585 ?_
  refine x_sld C hX hbl hbA (hj 4 (by decide) (by decide) (nI (5 * i) + 4) (by rw [show (4 : Int32) = nI 4 from rfl, nI_add])) dL_law_586 ?_
  refine x_callV C 0 (m_X8_see h1) rfl rfl kM_L_89 kI_X8_see kS_X8_see kN_X8 kC_X8_see kD_X8_see rfl ⟨Nat.le_of_ble_eq_true rfl, Nat.le_of_ble_eq_true rfl⟩ ⟨Nat.le_of_ble_eq_true rfl, Nat.le_of_ble_eq_true rfl⟩ (rest := []) rfl (Nat.le_of_ble_eq_true rfl) dL_law_587 (st' := [.int r]) rfl ?_
  refine x_aload_n C dL_law_590 rfl 2 rfl ?_
  refine x_aload_n C dL_law_591 rfl 0 rfl ?_
  refine x_iload_n C dL_law_592 rfl 3 rfl ?_
  refine x_iconst C dL_law_593 (v := 1) (by decide) ?_
  refine x_iadd C dL_law_594 ?_
  refine x_sld C hX hbl hbA (hj 1 (by decide) (by decide) (nI (5 * i) + 1) (by rw [show (1 : Int32) = nI 1 from rfl, nI_add])) dL_law_595 ?_
  refine x_aload_n C dL_law_596 rfl 0 rfl ?_
  refine x_iload_n C dL_law_597 rfl 3 rfl ?_
  refine x_iconst C dL_law_598 (v := 2) (by decide) ?_
  refine x_iadd C dL_law_599 ?_
  refine x_sld C hX hbl hbA (hj 2 (by decide) (by decide) (nI (5 * i) + 2) (by rw [show (2 : Int32) = nI 2 from rfl, nI_add])) dL_law_600 ?_
  refine x_aload_n C dL_law_601 rfl 0 rfl ?_
  refine x_iload_n C dL_law_602 rfl 3 rfl ?_
  refine x_iconst C dL_law_603 (v := 3) (by decide) ?_
  refine x_iadd C dL_law_604 ?_
  refine x_sld C hX hbl hbA (hj 3 (by decide) (by decide) (nI (5 * i) + 3) (by rw [show (3 : Int32) = nI 3 from rfl, nI_add])) dL_law_605 ?_
  refine x_aload_n C dL_law_606 rfl 0 rfl ?_
  refine x_iload_n C dL_law_607 rfl 3 rfl ?_
  refine x_iconst C dL_law_608 (v := 4) (by decide) ?_
  refine x_iadd C dL_law_609 ?_
  refine x_sld C hX hbl hbA (hj 4 (by decide) (by decide) (nI (5 * i) + 4) (by rw [show (4 : Int32) = nI 4 from rfl, nI_add])) dL_law_610 ?_
  refine x_callV C 57 (m_X9_see h2) rfl rfl kM_L_93 kI_X9_see kS_X9_see kN_X9 kC_X9_see kD_X9_see rfl ⟨Nat.le_of_ble_eq_true rfl, Nat.le_of_ble_eq_true rfl⟩ ⟨Nat.le_of_ble_eq_true rfl, Nat.le_of_ble_eq_true rfl⟩ (rest := [.int r]) rfl (Nat.le_of_ble_eq_true rfl) dL_law_611 (st' := [.int r, .int r]) rfl ?_
  refine x_icmp_eqT C dL_law_614 (tgt := 771) (by decide) rfl ?_
  exact kk _ _ hI2
set_option maxHeartbeats 4000000 in
set_option maxRecDepth 20000 in
theorem lc_forget {E : gs_E} {p : Program} {l : Launch} {e : Env} {s : State} {m : MethodId} {args : Array Value} {below : List Frame} {meth : Method} {c : Code} {Q : State → Prop} {b L : Nat} {xs : Nat → Int32} (C : gs_X E RL cL_law 4 p s m args meth c) (hX : va_X b L xs s s.heap) (hbl : b < s.heap.size) (hbA : ¬ gs_A E b) {i : Nat} (hj : ∀ q, 0 < q → q < 5 → ∀ x, x = nI (5 * i + q) → inb x L) {σ : gs_H} {g : Int64} (hI : Inv i σ) (hN : i < 1000) (kk : ∀ σ' g', Inv (i + 1) σ' → gs_W E 4 p l e room_1 s m args below meth c 74 636 Q 771 [(0, .ref b), (1, .ref (gs_a E 0)), (2, .ref (gs_a E 57)), (3, .int (nI (5 * i)))] [] σ' g') : gs_W E 4 p l e room_1 s m args below meth c 74 636 Q 619 [(0, .ref b), (1, .ref (gs_a E 0)), (2, .ref (gs_a E 57)), (3, .int (nI (5 * i)))] [] σ g := by
  obtain ⟨r, s1, s2, h1, h2, hI2⟩ := pu_forget hI 
  refine x_aload_n C dL_law_619 rfl 1 rfl ?_
  refine x_callV C 0 (m_X8_forget h1) rfl rfl kM_L_94 kI_X8_forget kS_X8_forget kN_X8 kC_X8_forget kD_X8_forget rfl ⟨Nat.le_of_ble_eq_true rfl, Nat.le_of_ble_eq_true rfl⟩ ⟨Nat.le_of_ble_eq_true rfl, Nat.le_of_ble_eq_true rfl⟩ (rest := []) rfl (Nat.le_of_ble_eq_true rfl) dL_law_620 (st' := [.int r]) rfl ?_
  refine x_aload_n C dL_law_623 rfl 2 rfl ?_
  refine x_callV C 57 (m_X9_forget h2) rfl rfl kM_L_97 kI_X9_forget kS_X9_forget kN_X9 kC_X9_forget kD_X9_forget rfl ⟨Nat.le_of_ble_eq_true rfl, Nat.le_of_ble_eq_true rfl⟩ ⟨Nat.le_of_ble_eq_true rfl, Nat.le_of_ble_eq_true rfl⟩ (rest := [.int r]) rfl (Nat.le_of_ble_eq_true rfl) dL_law_624 (st' := [.int r, .int r]) rfl ?_
  refine x_icmp_eqT C dL_law_627 (tgt := 771) (by decide) rfl ?_
  exact kk _ _ hI2
set_option maxHeartbeats 4000000 in
set_option maxRecDepth 20000 in
theorem lc_trial {E : gs_E} {p : Program} {l : Launch} {e : Env} {s : State} {m : MethodId} {args : Array Value} {below : List Frame} {meth : Method} {c : Code} {Q : State → Prop} {b L : Nat} {xs : Nat → Int32} (C : gs_X E RL cL_law 4 p s m args meth c) (hX : va_X b L xs s s.heap) (hbl : b < s.heap.size) (hbA : ¬ gs_A E b) {i : Nat} (hj : ∀ q, 0 < q → q < 5 → ∀ x, x = nI (5 * i + q) → inb x L) {σ : gs_H} {g : Int64} (hI : Inv i σ) (hN : i < 1000) (kk : ∀ σ' g', Inv (i + 1) σ' → gs_W E 4 p l e room_1 s m args below meth c 74 636 Q 771 [(0, .ref b), (1, .ref (gs_a E 0)), (2, .ref (gs_a E 57)), (3, .int (nI (5 * i)))] [] σ' g') : gs_W E 4 p l e room_1 s m args below meth c 74 636 Q 632 [(0, .ref b), (1, .ref (gs_a E 0)), (2, .ref (gs_a E 57)), (3, .int (nI (5 * i)))] [] σ g := by
  obtain ⟨r, h1, h2, hI2⟩ := pu_trial hI (xs (nI (5 * i) + 1).toNatClampNeg) (xs (nI (5 * i) + 2).toNatClampNeg)
  refine x_aload_n C dL_law_632 rfl 1 rfl ?_
  refine x_aload_n C dL_law_633 rfl 0 rfl ?_
  refine x_iload_n C dL_law_634 rfl 3 rfl ?_
  refine x_iconst C dL_law_635 (v := 1) (by decide) ?_
  refine x_iadd C dL_law_636 ?_
  refine x_sld C hX hbl hbA (hj 1 (by decide) (by decide) (nI (5 * i) + 1) (by rw [show (1 : Int32) = nI 1 from rfl, nI_add])) dL_law_637 ?_
  refine x_aload_n C dL_law_638 rfl 0 rfl ?_
  refine x_iload_n C dL_law_639 rfl 3 rfl ?_
  refine x_iconst C dL_law_640 (v := 2) (by decide) ?_
  refine x_iadd C dL_law_641 ?_
  refine x_sld C hX hbl hbA (hj 2 (by decide) (by decide) (nI (5 * i) + 2) (by rw [show (2 : Int32) = nI 2 from rfl, nI_add])) dL_law_642 ?_
  refine x_callV C 0 (m_X8_trial h1) rfl rfl kM_L_98 kI_X8_trial kS_X8_trial kN_X8 kC_X8_trial kD_X8_trial rfl ⟨Nat.le_of_ble_eq_true rfl, Nat.le_of_ble_eq_true rfl⟩ ⟨Nat.le_of_ble_eq_true rfl, Nat.le_of_ble_eq_true rfl⟩ (rest := []) rfl (Nat.le_of_ble_eq_true rfl) dL_law_643 (st' := [.int r]) rfl ?_
  refine x_aload_n C dL_law_646 rfl 2 rfl ?_
  refine x_aload_n C dL_law_647 rfl 0 rfl ?_
  refine x_iload_n C dL_law_648 rfl 3 rfl ?_
  refine x_iconst C dL_law_649 (v := 1) (by decide) ?_
  refine x_iadd C dL_law_650 ?_
  refine x_sld C hX hbl hbA (hj 1 (by decide) (by decide) (nI (5 * i) + 1) (by rw [show (1 : Int32) = nI 1 from rfl, nI_add])) dL_law_651 ?_
  refine x_aload_n C dL_law_652 rfl 0 rfl ?_
  refine x_iload_n C dL_law_653 rfl 3 rfl ?_
  refine x_iconst C dL_law_654 (v := 2) (by decide) ?_
  refine x_iadd C dL_law_655 ?_
  refine x_sld C hX hbl hbA (hj 2 (by decide) (by decide) (nI (5 * i) + 2) (by rw [show (2 : Int32) = nI 2 from rfl, nI_add])) dL_law_656 ?_
  refine x_callV C 57 (m_X9_trial h2) rfl rfl kM_L_101 kI_X9_trial kS_X9_trial kN_X9 kC_X9_trial kD_X9_trial rfl ⟨Nat.le_of_ble_eq_true rfl, Nat.le_of_ble_eq_true rfl⟩ ⟨Nat.le_of_ble_eq_true rfl, Nat.le_of_ble_eq_true rfl⟩ (rest := [.int r]) rfl (Nat.le_of_ble_eq_true rfl) dL_law_657 (st' := [.int r, .int r]) rfl ?_
  refine x_icmp_eqT C dL_law_660 (tgt := 771) (by decide) rfl ?_
  exact kk _ _ hI2
set_option maxHeartbeats 4000000 in
set_option maxRecDepth 20000 in
theorem lc_evenings {E : gs_E} {p : Program} {l : Launch} {e : Env} {s : State} {m : MethodId} {args : Array Value} {below : List Frame} {meth : Method} {c : Code} {Q : State → Prop} {b L : Nat} {xs : Nat → Int32} (C : gs_X E RL cL_law 4 p s m args meth c) (hX : va_X b L xs s s.heap) (hbl : b < s.heap.size) (hbA : ¬ gs_A E b) {i : Nat} (hj : ∀ q, 0 < q → q < 5 → ∀ x, x = nI (5 * i + q) → inb x L) {σ : gs_H} {g : Int64} (hI : Inv i σ) (hN : i < 1000) (kk : ∀ σ' g', Inv (i + 1) σ' → gs_W E 4 p l e room_1 s m args below meth c 74 636 Q 771 [(0, .ref b), (1, .ref (gs_a E 0)), (2, .ref (gs_a E 57)), (3, .int (nI (5 * i)))] [] σ' g') : gs_W E 4 p l e room_1 s m args below meth c 74 636 Q 665 [(0, .ref b), (1, .ref (gs_a E 0)), (2, .ref (gs_a E 57)), (3, .int (nI (5 * i)))] [] σ g := by
  obtain ⟨r, s1, s2, h1, h2, hI2⟩ := pu_evenings hI (xs (nI (5 * i) + 1).toNatClampNeg) (xs (nI (5 * i) + 2).toNatClampNeg) (xs (nI (5 * i) + 3).toNatClampNeg)
  refine x_aload_n C dL_law_665 rfl 1 rfl ?_
  refine x_aload_n C dL_law_666 rfl 0 rfl ?_
  refine x_iload_n C dL_law_667 rfl 3 rfl ?_
  refine x_iconst C dL_law_668 (v := 1) (by decide) ?_
  refine x_iadd C dL_law_669 ?_
  refine x_sld C hX hbl hbA (hj 1 (by decide) (by decide) (nI (5 * i) + 1) (by rw [show (1 : Int32) = nI 1 from rfl, nI_add])) dL_law_670 ?_
  refine x_aload_n C dL_law_671 rfl 0 rfl ?_
  refine x_iload_n C dL_law_672 rfl 3 rfl ?_
  refine x_iconst C dL_law_673 (v := 2) (by decide) ?_
  refine x_iadd C dL_law_674 ?_
  refine x_sld C hX hbl hbA (hj 2 (by decide) (by decide) (nI (5 * i) + 2) (by rw [show (2 : Int32) = nI 2 from rfl, nI_add])) dL_law_675 ?_
  refine x_aload_n C dL_law_676 rfl 0 rfl ?_
  refine x_iload_n C dL_law_677 rfl 3 rfl ?_
  refine x_iconst C dL_law_678 (v := 3) (by decide) ?_
  refine x_iadd C dL_law_679 ?_
  refine x_sld C hX hbl hbA (hj 3 (by decide) (by decide) (nI (5 * i) + 3) (by rw [show (3 : Int32) = nI 3 from rfl, nI_add])) dL_law_680 ?_
  refine x_callV C 0 (m_X8_evenings h1) rfl rfl kM_L_102 kI_X8_evenings kS_X8_evenings kN_X8 kC_X8_evenings kD_X8_evenings rfl ⟨Nat.le_of_ble_eq_true rfl, Nat.le_of_ble_eq_true rfl⟩ ⟨Nat.le_of_ble_eq_true rfl, Nat.le_of_ble_eq_true rfl⟩ (rest := []) rfl (Nat.le_of_ble_eq_true rfl) dL_law_681 (st' := [.int r]) rfl ?_
  refine x_aload_n C dL_law_684 rfl 2 rfl ?_
  refine x_aload_n C dL_law_685 rfl 0 rfl ?_
  refine x_iload_n C dL_law_686 rfl 3 rfl ?_
  refine x_iconst C dL_law_687 (v := 1) (by decide) ?_
  refine x_iadd C dL_law_688 ?_
  refine x_sld C hX hbl hbA (hj 1 (by decide) (by decide) (nI (5 * i) + 1) (by rw [show (1 : Int32) = nI 1 from rfl, nI_add])) dL_law_689 ?_
  refine x_aload_n C dL_law_690 rfl 0 rfl ?_
  refine x_iload_n C dL_law_691 rfl 3 rfl ?_
  refine x_iconst C dL_law_692 (v := 2) (by decide) ?_
  refine x_iadd C dL_law_693 ?_
  refine x_sld C hX hbl hbA (hj 2 (by decide) (by decide) (nI (5 * i) + 2) (by rw [show (2 : Int32) = nI 2 from rfl, nI_add])) dL_law_694 ?_
  refine x_aload_n C dL_law_695 rfl 0 rfl ?_
  refine x_iload_n C dL_law_696 rfl 3 rfl ?_
  refine x_iconst C dL_law_697 (v := 3) (by decide) ?_
  refine x_iadd C dL_law_698 ?_
  refine x_sld C hX hbl hbA (hj 3 (by decide) (by decide) (nI (5 * i) + 3) (by rw [show (3 : Int32) = nI 3 from rfl, nI_add])) dL_law_699 ?_
  refine x_callV C 57 (m_X9_evenings h2) rfl rfl kM_L_105 kI_X9_evenings kS_X9_evenings kN_X9 kC_X9_evenings kD_X9_evenings rfl ⟨Nat.le_of_ble_eq_true rfl, Nat.le_of_ble_eq_true rfl⟩ ⟨Nat.le_of_ble_eq_true rfl, Nat.le_of_ble_eq_true rfl⟩ (rest := [.int r]) rfl (Nat.le_of_ble_eq_true rfl) dL_law_700 (st' := [.int r, .int r]) rfl ?_
  refine x_icmp_eqT C dL_law_703 (tgt := 771) (by decide) rfl ?_
  exact kk _ _ hI2
set_option maxHeartbeats 4000000 in
set_option maxRecDepth 20000 in
theorem lc_image {E : gs_E} {p : Program} {l : Launch} {e : Env} {s : State} {m : MethodId} {args : Array Value} {below : List Frame} {meth : Method} {c : Code} {Q : State → Prop} {b L : Nat} {xs : Nat → Int32} (C : gs_X E RL cL_law 4 p s m args meth c) (hX : va_X b L xs s s.heap) (hbl : b < s.heap.size) (hbA : ¬ gs_A E b) {i : Nat} (hj : ∀ q, 0 < q → q < 5 → ∀ x, x = nI (5 * i + q) → inb x L) {σ : gs_H} {g : Int64} (hI : Inv i σ) (hN : i < 1000) (kk : ∀ σ' g', Inv (i + 1) σ' → gs_W E 4 p l e room_1 s m args below meth c 74 636 Q 771 [(0, .ref b), (1, .ref (gs_a E 0)), (2, .ref (gs_a E 57)), (3, .int (nI (5 * i)))] [] σ' g') : gs_W E 4 p l e room_1 s m args below meth c 74 636 Q 708 [(0, .ref b), (1, .ref (gs_a E 0)), (2, .ref (gs_a E 57)), (3, .int (nI (5 * i)))] [] σ g := by
  obtain ⟨r, s1, s2, h1, h2, hI2⟩ := pu_image hI 
  refine x_aload_n C dL_law_708 rfl 1 rfl ?_
  refine x_callV C 0 (m_X8_image h1) rfl rfl kM_L_106 kI_X8_image kS_X8_image kN_X8 kC_X8_image kD_X8_image rfl ⟨Nat.le_of_ble_eq_true rfl, Nat.le_of_ble_eq_true rfl⟩ ⟨Nat.le_of_ble_eq_true rfl, Nat.le_of_ble_eq_true rfl⟩ (rest := []) rfl (Nat.le_of_ble_eq_true rfl) dL_law_709 (st' := [.int r]) rfl ?_
  refine x_aload_n C dL_law_712 rfl 2 rfl ?_
  refine x_callV C 57 (m_X9_image h2) rfl rfl kM_L_109 kI_X9_image kS_X9_image kN_X9 kC_X9_image kD_X9_image rfl ⟨Nat.le_of_ble_eq_true rfl, Nat.le_of_ble_eq_true rfl⟩ ⟨Nat.le_of_ble_eq_true rfl, Nat.le_of_ble_eq_true rfl⟩ (rest := [.int r]) rfl (Nat.le_of_ble_eq_true rfl) dL_law_713 (st' := [.int r, .int r]) rfl ?_
  refine x_icmp_eqT C dL_law_716 (tgt := 771) (by decide) rfl ?_
  exact kk _ _ hI2
set_option maxHeartbeats 4000000 in
set_option maxRecDepth 20000 in
theorem lc_restore {E : gs_E} {p : Program} {l : Launch} {e : Env} {s : State} {m : MethodId} {args : Array Value} {below : List Frame} {meth : Method} {c : Code} {Q : State → Prop} {b L : Nat} {xs : Nat → Int32} (C : gs_X E RL cL_law 4 p s m args meth c) (hX : va_X b L xs s s.heap) (hbl : b < s.heap.size) (hbA : ¬ gs_A E b) {i : Nat} (hj : ∀ q, 0 < q → q < 5 → ∀ x, x = nI (5 * i + q) → inb x L) {σ : gs_H} {g : Int64} (hI : Inv i σ) (hN : i < 1000) (kk : ∀ σ' g', Inv (i + 1) σ' → gs_W E 4 p l e room_1 s m args below meth c 74 636 Q 771 [(0, .ref b), (1, .ref (gs_a E 0)), (2, .ref (gs_a E 57)), (3, .int (nI (5 * i)))] [] σ' g') : gs_W E 4 p l e room_1 s m args below meth c 74 636 Q 721 [(0, .ref b), (1, .ref (gs_a E 0)), (2, .ref (gs_a E 57)), (3, .int (nI (5 * i)))] [] σ g := by
  obtain ⟨r, s1, s2, h1, h2, hI2⟩ := pu_restore hI hN 
  refine x_aload_n C dL_law_721 rfl 1 rfl ?_
  refine x_callV C 0 (m_X8_restore h1) rfl rfl kM_L_110 kI_X8_restore kS_X8_restore kN_X8 kC_X8_restore kD_X8_restore rfl ⟨Nat.le_of_ble_eq_true rfl, Nat.le_of_ble_eq_true rfl⟩ ⟨Nat.le_of_ble_eq_true rfl, Nat.le_of_ble_eq_true rfl⟩ (rest := []) rfl (Nat.le_of_ble_eq_true rfl) dL_law_722 (st' := [.int r]) rfl ?_
  refine x_aload_n C dL_law_725 rfl 2 rfl ?_
  refine x_callV C 57 (m_X9_restore h2) rfl rfl kM_L_113 kI_X9_restore kS_X9_restore kN_X9 kC_X9_restore kD_X9_restore rfl ⟨Nat.le_of_ble_eq_true rfl, Nat.le_of_ble_eq_true rfl⟩ ⟨Nat.le_of_ble_eq_true rfl, Nat.le_of_ble_eq_true rfl⟩ (rest := [.int r]) rfl (Nat.le_of_ble_eq_true rfl) dL_law_726 (st' := [.int r, .int r]) rfl ?_
  refine x_icmp_eqT C dL_law_729 (tgt := 771) (by decide) rfl ?_
  exact kk _ _ hI2
set_option maxHeartbeats 4000000 in
set_option maxRecDepth 20000 in
theorem lc_count {E : gs_E} {p : Program} {l : Launch} {e : Env} {s : State} {m : MethodId} {args : Array Value} {below : List Frame} {meth : Method} {c : Code} {Q : State → Prop} {b L : Nat} {xs : Nat → Int32} (C : gs_X E RL cL_law 4 p s m args meth c) (hX : va_X b L xs s s.heap) (hbl : b < s.heap.size) (hbA : ¬ gs_A E b) {i : Nat} (hj : ∀ q, 0 < q → q < 5 → ∀ x, x = nI (5 * i + q) → inb x L) {σ : gs_H} {g : Int64} (hI : Inv i σ) (hN : i < 1000) (kk : ∀ σ' g', Inv (i + 1) σ' → gs_W E 4 p l e room_1 s m args below meth c 74 636 Q 771 [(0, .ref b), (1, .ref (gs_a E 0)), (2, .ref (gs_a E 57)), (3, .int (nI (5 * i)))] [] σ' g') : gs_W E 4 p l e room_1 s m args below meth c 74 636 Q 734 [(0, .ref b), (1, .ref (gs_a E 0)), (2, .ref (gs_a E 57)), (3, .int (nI (5 * i)))] [] σ g := by
  obtain ⟨r, s1, s2, h1, h2, hI2⟩ := pu_count hI (xs (nI (5 * i) + 1).toNatClampNeg)
  refine x_aload_n C dL_law_734 rfl 1 rfl ?_
  refine x_aload_n C dL_law_735 rfl 0 rfl ?_
  refine x_iload_n C dL_law_736 rfl 3 rfl ?_
  refine x_iconst C dL_law_737 (v := 1) (by decide) ?_
  refine x_iadd C dL_law_738 ?_
  refine x_sld C hX hbl hbA (hj 1 (by decide) (by decide) (nI (5 * i) + 1) (by rw [show (1 : Int32) = nI 1 from rfl, nI_add])) dL_law_739 ?_
  refine x_callV C 0 (m_X8_count h1) rfl rfl kM_L_114 kI_X8_count kS_X8_count kN_X8 kC_X8_count kD_X8_count rfl ⟨Nat.le_of_ble_eq_true rfl, Nat.le_of_ble_eq_true rfl⟩ ⟨Nat.le_of_ble_eq_true rfl, Nat.le_of_ble_eq_true rfl⟩ (rest := []) rfl (Nat.le_of_ble_eq_true rfl) dL_law_740 (st' := [.int r]) rfl ?_
  refine x_aload_n C dL_law_743 rfl 2 rfl ?_
  refine x_aload_n C dL_law_744 rfl 0 rfl ?_
  refine x_iload_n C dL_law_745 rfl 3 rfl ?_
  refine x_iconst C dL_law_746 (v := 1) (by decide) ?_
  refine x_iadd C dL_law_747 ?_
  refine x_sld C hX hbl hbA (hj 1 (by decide) (by decide) (nI (5 * i) + 1) (by rw [show (1 : Int32) = nI 1 from rfl, nI_add])) dL_law_748 ?_
  refine x_callV C 57 (m_X9_count h2) rfl rfl kM_L_117 kI_X9_count kS_X9_count kN_X9 kC_X9_count kD_X9_count rfl ⟨Nat.le_of_ble_eq_true rfl, Nat.le_of_ble_eq_true rfl⟩ ⟨Nat.le_of_ble_eq_true rfl, Nat.le_of_ble_eq_true rfl⟩ (rest := [.int r]) rfl (Nat.le_of_ble_eq_true rfl) dL_law_749 (st' := [.int r, .int r]) rfl ?_
  refine x_icmp_eqT C dL_law_752 (tgt := 771) (by decide) rfl ?_
  exact kk _ _ hI2
set_option maxHeartbeats 4000000 in
set_option maxRecDepth 20000 in
theorem lc_digest {E : gs_E} {p : Program} {l : Launch} {e : Env} {s : State} {m : MethodId} {args : Array Value} {below : List Frame} {meth : Method} {c : Code} {Q : State → Prop} {b L : Nat} {xs : Nat → Int32} (C : gs_X E RL cL_law 4 p s m args meth c) (hX : va_X b L xs s s.heap) (hbl : b < s.heap.size) (hbA : ¬ gs_A E b) {i : Nat} (hj : ∀ q, 0 < q → q < 5 → ∀ x, x = nI (5 * i + q) → inb x L) {σ : gs_H} {g : Int64} (hI : Inv i σ) (hN : i < 1000) (kk : ∀ σ' g', Inv (i + 1) σ' → gs_W E 4 p l e room_1 s m args below meth c 74 636 Q 771 [(0, .ref b), (1, .ref (gs_a E 0)), (2, .ref (gs_a E 57)), (3, .int (nI (5 * i)))] [] σ' g') : gs_W E 4 p l e room_1 s m args below meth c 74 636 Q 757 [(0, .ref b), (1, .ref (gs_a E 0)), (2, .ref (gs_a E 57)), (3, .int (nI (5 * i)))] [] σ g := by
  obtain ⟨r, s1, s2, h1, h2, hI2⟩ := pu_digest hI 
  obtain ⟨g2, h2⟩ := h2 g
  refine x_aload_n C dL_law_757 rfl 1 rfl ?_
  refine x_callV C 0 (m_X8_digest h1) rfl rfl kM_L_118 kI_X8_digest kS_X8_digest kN_X8 kC_X8_digest kD_X8_digest rfl ⟨Nat.le_of_ble_eq_true rfl, Nat.le_of_ble_eq_true rfl⟩ ⟨Nat.le_of_ble_eq_true rfl, Nat.le_of_ble_eq_true rfl⟩ (rest := []) rfl (Nat.le_of_ble_eq_true rfl) dL_law_758 (st' := [.long r]) rfl ?_
  refine x_aload_n C dL_law_761 rfl 2 rfl ?_
  refine x_callV C 57 (m_X9_digest h2) rfl rfl kM_L_122 kI_X9_digest kS_X9_digest kN_X9 kC_X9_digest kD_X9_digest rfl ⟨Nat.le_of_ble_eq_true rfl, Nat.le_of_ble_eq_true rfl⟩ ⟨Nat.le_of_ble_eq_true rfl, Nat.le_of_ble_eq_true rfl⟩ (rest := [.long r]) rfl (Nat.le_of_ble_eq_true rfl) dL_law_762 (st' := [.long r, .long r]) rfl ?_
  refine x_lcmp C dL_law_765 ?_
  refine x_if_eqT C dL_law_766 (tgt := 771) (by decide) (by simp [lg_cmp]) ?_
  exact kk _ _ hI2
set_option maxHeartbeats 4000000 in
set_option maxRecDepth 20000 in
theorem law_body {E : gs_E} {p : Program} {l : Launch} {e : Env} {s : State} {m : MethodId} {below : List Frame} {meth : Method} {c : Code} {b L : Nat} {xs : Nat → Int32} (C : gs_X E RL cL_law 4 p s m #[Value.ref b] meth c) (hX : va_X b L xs s s.heap) (hbl : b < s.heap.size) (hbA : ¬ gs_A E b) {Q : State → Prop} {i : Nat} (h0 : inb (nI (5 * i)) L) (hj : ∀ q, 0 < q → q < 5 → ∀ x, x = nI (5 * i + q) → inb x L) {σ : gs_H} {g : Int64} (hI : Inv i σ) (hN : i < 1000) (kk : ∀ σ' g', Inv (i + 1) σ' → gs_W E 4 p l e room_1 s m #[Value.ref b] below meth c 74 636 Q 771 [(0, .ref b), (1, .ref (gs_a E 0)), (2, .ref (gs_a E 57)), (3, .int (nI (5 * i)))] [] σ' g') : gs_W E 4 p l e room_1 s m #[Value.ref b] below meth c 74 636 Q 26 [(0, .ref b), (1, .ref (gs_a E 0)), (2, .ref (gs_a E 57)), (3, .int (nI (5 * i)))] [] σ g := by
  refine x_aload_n C dL_law_26 rfl 0 rfl ?_
  refine x_iload_n C dL_law_27 rfl 3 rfl ?_
  refine x_sld C hX hbl hbA h0 dL_law_28 ?_
  refine x_bipush C dL_law_29 (v := 31) (by decide) ?_
  refine x_iand C dL_law_31 ?_
  by_cases hs0 : (xs (nI (5 * i)).toNatClampNeg &&& 31) = 0
  · refine x_tsw C dL_law_32 0 hs0 (by decide) (by decide) (off := 120) rfl (tgt := 152) (by decide) ?_
    exact lc_letter C hX hbl hbA hj hI hN kk
  by_cases hs1 : (xs (nI (5 * i)).toNatClampNeg &&& 31) = 1
  · refine x_tsw C dL_law_32 1 hs1 (by decide) (by decide) (off := 143) rfl (tgt := 175) (by decide) ?_
    exact lc_blank C hX hbl hbA hj hI hN kk
  by_cases hs2 : (xs (nI (5 * i)).toNatClampNeg &&& 31) = 2
  · refine x_tsw C dL_law_32 2 hs2 (by decide) (by decide) (off := 156) rfl (tgt := 188) (by decide) ?_
    exact lc_fault C hX hbl hbA hj hI hN kk
  by_cases hs3 : (xs (nI (5 * i)).toNatClampNeg &&& 31) = 3
  · refine x_tsw C dL_law_32 3 hs3 (by decide) (by decide) (off := 169) rfl (tgt := 201) (by decide) ?_
    exact lc_mobile C hX hbl hbA hj hI hN kk
  by_cases hs4 : (xs (nI (5 * i)).toNatClampNeg &&& 31) = 4
  · refine x_tsw C dL_law_32 4 hs4 (by decide) (by decide) (off := 182) rfl (tgt := 214) (by decide) ?_
    exact lc_rod C hX hbl hbA hj hI hN kk
  by_cases hs5 : (xs (nI (5 * i)).toNatClampNeg &&& 31) = 5
  · refine x_tsw C dL_law_32 5 hs5 (by decide) (by decide) (off := 215) rfl (tgt := 247) (by decide) ?_
    exact lc_thing C hX hbl hbA hj hI hN kk
  by_cases hs6 : (xs (nI (5 * i)).toNatClampNeg &&& 31) = 6
  · refine x_tsw C dL_law_32 6 hs6 (by decide) (by decide) (off := 248) rfl (tgt := 280) (by decide) ?_
    exact lc_as C hX hbl hbA hj hI hN kk
  by_cases hs7 : (xs (nI (5 * i)).toNatClampNeg &&& 31) = 7
  · refine x_tsw C dL_law_32 7 hs7 (by decide) (by decide) (off := 281) rfl (tgt := 313) (by decide) ?_
    exact lc_hour C hX hbl hbA hj hI hN kk
  by_cases hs8 : (xs (nI (5 * i)).toNatClampNeg &&& 31) = 8
  · refine x_tsw C dL_law_32 8 hs8 (by decide) (by decide) (off := 294) rfl (tgt := 326) (by decide) ?_
    exact lc_exchange C hX hbl hbA hj hI hN kk
  by_cases hs9 : (xs (nI (5 * i)).toNatClampNeg &&& 31) = 9
  · refine x_tsw C dL_law_32 9 hs9 (by decide) (by decide) (off := 327) rfl (tgt := 359) (by decide) ?_
    exact lc_move C hX hbl hbA hj hI hN kk
  by_cases hs10 : (xs (nI (5 * i)).toNatClampNeg &&& 31) = 10
  · refine x_tsw C dL_law_32 10 hs10 (by decide) (by decide) (off := 360) rfl (tgt := 392) (by decide) ?_
    exact lc_cut C hX hbl hbA hj hI hN kk
  by_cases hs11 : (xs (nI (5 * i)).toNatClampNeg &&& 31) = 11
  · refine x_tsw C dL_law_32 11 hs11 (by decide) (by decide) (off := 383) rfl (tgt := 415) (by decide) ?_
    exact lc_drop C hX hbl hbA hj hI hN kk
  by_cases hs12 : (xs (nI (5 * i)).toNatClampNeg &&& 31) = 12
  · refine x_tsw C dL_law_32 12 hs12 (by decide) (by decide) (off := 406) rfl (tgt := 438) (by decide) ?_
    exact lc_mend C hX hbl hbA hj hI hN kk
  by_cases hs13 : (xs (nI (5 * i)).toNatClampNeg &&& 31) = 13
  · refine x_tsw C dL_law_32 13 hs13 (by decide) (by decide) (off := 419) rfl (tgt := 451) (by decide) ?_
    exact lc_change C hX hbl hbA hj hI hN kk
  by_cases hs14 : (xs (nI (5 * i)).toNatClampNeg &&& 31) = 14
  · refine x_tsw C dL_law_32 14 hs14 (by decide) (by decide) (off := 462) rfl (tgt := 494) (by decide) ?_
    exact lc_best C hX hbl hbA hj hI hN kk
  by_cases hs15 : (xs (nI (5 * i)).toNatClampNeg &&& 31) = 15
  · refine x_tsw C dL_law_32 15 hs15 (by decide) (by decide) (off := 475) rfl (tgt := 507) (by decide) ?_
    exact lc_lay C hX hbl hbA hj hI hN kk
  by_cases hs16 : (xs (nI (5 * i)).toNatClampNeg &&& 31) = 16
  · refine x_tsw C dL_law_32 16 hs16 (by decide) (by decide) (off := 498) rfl (tgt := 530) (by decide) ?_
    exact lc_even C hX hbl hbA hj hI hN kk
  by_cases hs17 : (xs (nI (5 * i)).toNatClampNeg &&& 31) = 17
  · refine x_tsw C dL_law_32 17 hs17 (by decide) (by decide) (off := 511) rfl (tgt := 543) (by decide) ?_
    exact lc_odds C hX hbl hbA hj hI hN kk
  by_cases hs18 : (xs (nI (5 * i)).toNatClampNeg &&& 31) = 18
  · refine x_tsw C dL_law_32 18 hs18 (by decide) (by decide) (off := 534) rfl (tgt := 566) (by decide) ?_
    exact lc_see C hX hbl hbA hj hI hN kk
  by_cases hs19 : (xs (nI (5 * i)).toNatClampNeg &&& 31) = 19
  · refine x_tsw C dL_law_32 19 hs19 (by decide) (by decide) (off := 587) rfl (tgt := 619) (by decide) ?_
    exact lc_forget C hX hbl hbA hj hI hN kk
  by_cases hs20 : (xs (nI (5 * i)).toNatClampNeg &&& 31) = 20
  · refine x_tsw C dL_law_32 20 hs20 (by decide) (by decide) (off := 600) rfl (tgt := 632) (by decide) ?_
    exact lc_trial C hX hbl hbA hj hI hN kk
  by_cases hs21 : (xs (nI (5 * i)).toNatClampNeg &&& 31) = 21
  · refine x_tsw C dL_law_32 21 hs21 (by decide) (by decide) (off := 633) rfl (tgt := 665) (by decide) ?_
    exact lc_evenings C hX hbl hbA hj hI hN kk
  by_cases hs22 : (xs (nI (5 * i)).toNatClampNeg &&& 31) = 22
  · refine x_tsw C dL_law_32 22 hs22 (by decide) (by decide) (off := 676) rfl (tgt := 708) (by decide) ?_
    exact lc_image C hX hbl hbA hj hI hN kk
  by_cases hs23 : (xs (nI (5 * i)).toNatClampNeg &&& 31) = 23
  · refine x_tsw C dL_law_32 23 hs23 (by decide) (by decide) (off := 689) rfl (tgt := 721) (by decide) ?_
    exact lc_restore C hX hbl hbA hj hI hN kk
  by_cases hs24 : (xs (nI (5 * i)).toNatClampNeg &&& 31) = 24
  · refine x_tsw C dL_law_32 24 hs24 (by decide) (by decide) (off := 702) rfl (tgt := 734) (by decide) ?_
    exact lc_count C hX hbl hbA hj hI hN kk
  by_cases hs25 : (xs (nI (5 * i)).toNatClampNeg &&& 31) = 25
  · refine x_tsw C dL_law_32 25 hs25 (by decide) (by decide) (off := 725) rfl (tgt := 757) (by decide) ?_
    exact lc_digest C hX hbl hbA hj hI hN kk
  refine x_tswD C dL_law_32 (tgt := 771) (by have e0 := lv_neT hs0 (a := 0) rfl; have e1 := lv_neT hs1 (a := 1) rfl; have e2 := lv_neT hs2 (a := 2) rfl; have e3 := lv_neT hs3 (a := 3) rfl; have e4 := lv_neT hs4 (a := 4) rfl; have e5 := lv_neT hs5 (a := 5) rfl; have e6 := lv_neT hs6 (a := 6) rfl; have e7 := lv_neT hs7 (a := 7) rfl; have e8 := lv_neT hs8 (a := 8) rfl; have e9 := lv_neT hs9 (a := 9) rfl; have e10 := lv_neT hs10 (a := 10) rfl; have e11 := lv_neT hs11 (a := 11) rfl; have e12 := lv_neT hs12 (a := 12) rfl; have e13 := lv_neT hs13 (a := 13) rfl; have e14 := lv_neT hs14 (a := 14) rfl; have e15 := lv_neT hs15 (a := 15) rfl; have e16 := lv_neT hs16 (a := 16) rfl; have e17 := lv_neT hs17 (a := 17) rfl; have e18 := lv_neT hs18 (a := 18) rfl; have e19 := lv_neT hs19 (a := 19) rfl; have e20 := lv_neT hs20 (a := 20) rfl; have e21 := lv_neT hs21 (a := 21) rfl; have e22 := lv_neT hs22 (a := 22) rfl; have e23 := lv_neT hs23 (a := 23) rfl; have e24 := lv_neT hs24 (a := 24) rfl; have e25 := lv_neT hs25 (a := 25) rfl; omega) (by decide) ?_
  exact kk _ _ (Inv_up hI)
theorem law_inb {L i q : Nat} (hL : L ≤ 2560) (h : 5 * i + q < L) {x : Int32} (hx : x = nI (5 * i + q)) : inb x L := by
  subst hx
  exact ⟨nI_pos' (by omega), by rw [nI_clamp (by omega)]; exact h⟩
set_option maxHeartbeats 4000000 in
theorem law_loop {E : gs_E} {p : Program} {l : Launch} {e : Env} {s : State} {m : MethodId} {below : List Frame} {meth : Method} {c : Code} {b L : Nat} {xs : Nat → Int32} (C : gs_X E RL cL_law 4 p s m #[Value.ref b] meth c) (hX : va_X b L xs s s.heap) (hbl : b < s.heap.size) (hbA : ¬ gs_A E b) (hL : L ≤ 2560) (hr : meth.sig.returnType = ret) (hA : ∀ q, gs_A E q → s.heap.size ≤ q) : ∀ (n i : Nat) (σ : gs_H) (g : Int64), 5 * i ≤ L + 4 → L + 5 - 5 * i < n → Inv i σ → gs_W E 4 p l e room_1 s m #[Value.ref b] below meth c 74 636 (lw_Z below #[Value.ref b] s) 18 [(0, .ref b), (1, .ref (gs_a E 0)), (2, .ref (gs_a E 57)), (3, .int (nI (5 * i)))] [] σ g := by
  intro n
  induction n with
  | zero => intro i σ g h1 h2; omega
  | succ n ih =>
    intro i σ g h1 h2 hI
    refine x_iload_n C dL_law_18 rfl 3 rfl ?_
    refine x_aload_n C dL_law_19 rfl 0 rfl ?_
    refine x_slen C hX hbl hbA dL_law_20 ?_
    refine x_iconst C dL_law_21 (v := 5) (by decide) ?_
    refine x_isub C dL_law_22 ?_
    by_cases hc : nI L - 5 < nI (5 * i)
    · refine x_icmp_gtT C dL_law_23 (tgt := 777) (by decide) hc ?_
      refine x_iconst C dL_law_777 (v := 1) (by decide) ?_
      intro H locs ls hP hS hl
      exact va_forget (fun q hq => hA _ (hS.2.2 q hq)) (lw_ret C.1 C.2.1 hr C.2.2.2.2.2.2.1 dL_law_778)
    · refine x_icmp_gtF C dL_law_23 (tgt := 777) (by decide) hc ?_
      have h5 : 5 * i + 5 ≤ L := by
        rcases Nat.lt_or_ge L (5 * i + 5) with z | z
        · refine absurd ?_ hc
          rw [Int32.lt_iff_toInt_lt, show (5 : Int32) = nI 5 from rfl, pk_sub_toInt (by omega) (by omega), nI_toInt (by omega)]
          omega
        · exact z
      refine law_body C hX hbl hbA (law_inb (q := 0) hL (by omega) rfl) (fun q _ q2 x hx => law_inb hL (by omega) hx) hI (by omega) (fun σ' g' hI' => ?_)
      refine x_iinc C dL_law_771 3 rfl (v := nI (5 * (i + 1))) (by show nI (5 * i) + nI 5 = _; rw [nI_add]; rfl) (lv2 := [(0, .ref b), (1, .ref (gs_a E 0)), (2, .ref (gs_a E 57)), (3, .int (nI (5 * (i + 1))))]) (by decide) rfl [1, 2, 3, 0] rfl ?_
      refine x_goto C dL_law_774 (tgt := 18) (by decide) ?_
      exact ih (i + 1) σ' g' (by omega) (by omega) hI'
