/-! MORE ROWS: the text of the kinds, the one long, lengths -/
def gs_t (E : gs_E) : Nat := E.2.2.2.2.1
/-- the text's indexOf -/
def kIx (c : Int32) : Int32 := if c = 98 then 0 else if c = 108 then 1 else if c = 102 then 2 else if c = 111 then 3 else if c = 100 then 4 else -1
def al (k : Nat) : Nat := match gs_L[k]? with
  | some (.inl q) => q.2
  | _ => 0
theorem gs_oneJ : ∀ i, i ≠ 34 → ([fR 58, fI, fI, fI, fI, fI, fI, fI, fI, fI, fR 59, fR 60, fR 61, fR 62, fR 63, fR 64, fR 65, fI, fR 66, fR 67, fI, fI, fR 68, fI, fI, fI, fI, fI, fI, fR 69, fR 70, fR 71, fR 72, fR 73, fJ] : List gs_F)[i]? ≠ some fJ := by
  intro i hi
  rcases Nat.lt_or_ge i 35 with h | h
  · have key : ∀ j : Fin 35, j.val ≠ 34 → ([fR 58, fI, fI, fI, fI, fI, fI, fI, fI, fI, fR 59, fR 60, fR 61, fR 62, fR 63, fR 64, fR 65, fI, fR 66, fR 67, fI, fI, fR 68, fI, fI, fI, fI, fI, fI, fR 69, fR 70, fR 71, fR 72, fR 73, fJ] : List gs_F)[j.val]? ≠ some fJ := by decide +kernel
    exact key ⟨i, h⟩ hi
  · rw [List.getElem?_eq_none (by simpa using h)]
    simp
section GM
variable {E : gs_E} {own : String} {cc : ByteArray} {nL : Nat} {p : Program} {l : Launch} {e : Env} {R : Room} {s : State} {m : MethodId} {args : Array Value} {below : List Frame} {meth : Method} {c : Code} {cells slots : Nat} {Q : State → Prop} {pc : Nat} {lv : List (Nat × Value)} {st : List Value} {σ : gs_H} {g : Int64}
theorem x_ldcS (C : gs_X E RX5 cc nL p s m args meth c) (d : decode cc pc = .ok (.ldc 92, 2)) (kk : gs_W E nL p l e R s m args below meth c cells slots Q (pc + 2) lv (.ref (gs_t E) :: st) σ g) : gs_W E nL p l e R s m args below meth c cells slots Q pc lv st σ g :=
  fun H locs ls hP hS hL => va_ldcS C.1 C.2.1 C.2.2.2.1 C.2.2.2.2.2.1.2.1 d (kk H locs ls hP hS hL)
theorem x_ix (C : gs_X E RX5 cc nL p s m args meth c) {ch : Int32} (hfr : 6 ≤ R.frames) (hlo : 220 ≤ R.locals) (hw : (st.map fun v => v.category).sum ≤ 8) (d : decode cc pc = .ok (.invokevirtual 94, 3)) (kk : gs_W E nL p l e R s m args below meth c cells slots Q (pc + 3) lv (.int (kIx ch) :: st) σ g) : gs_W E nL p l e R s m args below meth c cells slots Q pc lv (.int ch :: .ref (gs_t E) :: st) σ g := by
  sorry
end GM
