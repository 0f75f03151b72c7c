/-! THE GROUND: the whole heap of the system as one function of ints, one long, and addresses; words, contexts, contracts over it -/
/-- a field: a reference to a cell (.inl), an int (.inr false), a long (.inr true) -/
abbrev gs_F : Type := Nat ⊕ Bool
/-- a cell: an array (true: of booleans) and its length, or an object: its class's place in vwCl, its fields -/
abbrev gs_S : Type := (Bool × Nat) ⊕ (Nat × List gs_F)
/-- the ints of the heap: by the cell, by the slot -/
abbrev gs_H : Type := Nat → Nat → Int32
/-- the class of int arrays, of boolean arrays; the cells' addresses; classes and slots; the address of the text of kinds, of its bytes -/
abbrev gs_E : Type := ClassId × ClassId × (Nat → Nat) × va_G × Nat × Nat
def fI : gs_F := .inr false
def fJ : gs_F := .inr true
def fR (r : Nat) : gs_F := .inl r
def gI (n : Nat) : gs_S := .inl (false, n)
def gZ (n : Nat) : gs_S := .inl (true, n)
def gO (c : Nat) (l : List gs_F) : gs_S := .inr (c, l)
def gs_L : List gs_S := [
  gO 7 [fR 1, fR 3, fR 9, fR 22, fR 35, fR 40, fR 50, fI, fI, fI],
  gO 3 [fR 2, fI], gI 46,
  gO 4 [fR 4, fR 5, fR 6, fR 7, fI, fI, fR 8, fI, fI, fI], gI 10, gI 10, gI 6, gI 6, gZ 5,
  gO 2 [fI, fI, fI, fR 10, fR 11, fR 12, fR 13, fR 14, fR 15, fR 16, fR 17], gI 10, gI 10, gI 6, gI 6, gI 6, gZ 6, gZ 5,
  gO 6 [fI, fR 18, fR 19, fR 20, fR 21], gI 6, gI 6, gI 6, gI 6,
  gO 2 [fI, fI, fI, fR 23, fR 24, fR 25, fR 26, fR 27, fR 28, fR 29, fR 30], gI 10, gI 10, gI 6, gI 6, gI 6, gZ 6, gZ 5,
  gO 6 [fI, fR 31, fR 32, fR 33, fR 34], gI 6, gI 6, gI 6, gI 6,
  gO 5 [fR 36, fR 37, fR 38, fR 39], gI 10, gI 5, gZ 5, gI 6,
  gO 1 [fI, fI, fR 41, fI, fI, fR 42, fR 47, fR 48, fR 49, fI, fI], gI 6,
  gO 5 [fR 43, fR 44, fR 45, fR 46], gI 10, gI 5, gZ 5, gI 6, gI 6, gI 6, gI 6,
  gO 0 [fI, fI, fI, fR 51, fR 56],
  gO 5 [fR 52, fR 53, fR 54, fR 55], gI 10, gI 5, gZ 5, gI 6, gI 6,
  gO 8 [fR 58, fI, fI, fI, fI, fI, fI, fI, fI, fI, fR 59, fR 60, fR 61, fR 62, fR 63, fR 64, fR 65, fI, fR 66, fR 67, fI, fI, fR 68, fI, fI, fI, fI, fI, fI, fR 69, fR 70, fR 71, fR 72, fR 73, fJ],
  gI 46, gI 10, gI 10, gI 6, gI 6, gI 6, gI 6, gI 6, gI 5, gI 5, gI 24, gI 10, gI 6, gI 6, gI 6, gI 24]
theorem gs_Ln : gs_L.length = 74 := rfl
def gs_a (E : gs_E) (k : Nat) : Nat := E.2.2.1 k
def gs_v (E : gs_E) (f : Nat → Int32) (g : Int64) (j : Nat) (d : gs_F) : Value := match d with
  | .inl r => .ref (gs_a E r)
  | .inr false => .int (f j)
  | .inr true => .long g
def gs_cl (E : gs_E) (b : Bool) : ClassId := match b with
  | false => E.1
  | true => E.2.1
def gs_c (E : gs_E) (f : Nat → Int32) (g : Int64) (sh : gs_S) : va_E := match sh with
  | .inl q => .inl (gs_cl E q.1, q.2, .inl f)
  | .inr q => .inr (q.1, q.2.mapIdx (fun j d => gs_v E f g j d))
def gs_w (E : gs_E) (σ : gs_H) (g : Int64) : va_W := gs_L.mapIdx (fun k sh => (gs_a E k, gs_c E (σ k) g sh))
def gs_A (E : gs_E) : Nat → Prop := fun q => ∃ k, k < 74 ∧ q = gs_a E k
/-- the addresses are apart -/
def gs_J (E : gs_E) : Prop := ∀ i j, i < 74 → j < 74 → gs_a E i = gs_a E j → i = j
theorem gs_at {E : gs_E} {σ : gs_H} {g : Int64} {k : Nat} {sh : gs_S} (h : gs_L[k]? = some sh) : (gs_w E σ g)[k]? = some (gs_a E k, gs_c E (σ k) g sh) := by
  simp [gs_w, List.getElem?_mapIdx, h]
theorem gs_wat {E : gs_E} {σ : gs_H} {g : Int64} {k : Nat} {q : Nat × va_E} (h : (gs_w E σ g)[k]? = some q) : k < 74 ∧ q.1 = gs_a E k := by
  have hk : k < gs_L.length := by
    have := (List.getElem?_eq_some_iff.mp h).1
    simpa [gs_w] using this
  obtain ⟨sh, hs⟩ : ∃ sh, gs_L[k]? = some sh := ⟨_, List.getElem?_eq_getElem hk⟩
  rw [gs_at hs] at h
  cases h
  exact ⟨by rw [← gs_Ln]; exact hk, rfl⟩
theorem gs_D {E : gs_E} (hJ : gs_J E) (σ : gs_H) (g : Int64) : va_D (gs_A E) (gs_w E σ g) := by
  refine ⟨fun i j x y hi hj hxy => ?_, fun k q hk => ?_⟩
  · obtain ⟨h1, h2⟩ := gs_wat hi
    obtain ⟨h3, h4⟩ := gs_wat hj
    exact hJ i j h1 h3 (by rw [← h2, ← h4]; exact hxy)
  · obtain ⟨h1, h2⟩ := gs_wat hk
    exact ⟨k, h1, h2⟩
/-- one int changed -/
def up2 (σ : gs_H) (k j : Nat) (v : Int32) : gs_H := fun a b => if a = k ∧ b = j then v else σ a b
theorem up2_self (σ : gs_H) (k j : Nat) (v : Int32) : up2 σ k j v k = upd (σ k) j v := by
  funext b
  simp [up2, upd]
theorem up2_ne (σ : gs_H) {a k : Nat} (j : Nat) (v : Int32) (h : a ≠ k) : up2 σ k j v a = σ a := by
  funext b
  simp [up2, h]
theorem gs_set {E : gs_E} {σ : gs_H} {g : Int64} {k : Nat} {sh : gs_S} (h : gs_L[k]? = some sh) (j : Nat) (v : Int32) {e : va_E} (he : e = gs_c E (upd (σ k) j v) g sh) : (gs_w E σ g).set k (gs_a E k, e) = gs_w E (up2 σ k j v) g := by
  subst he
  have hl : k < gs_L.length := (List.getElem?_eq_some_iff.mp h).1
  apply List.ext_getElem?
  intro i
  by_cases hi : i = k
  · subst hi
    rw [List.getElem?_set_self (by simpa [gs_w] using hl), gs_at h, up2_self]
  · rw [List.getElem?_set_ne (Ne.symm hi)]
    cases hs : gs_L[i]? with
    | none => simp [gs_w, List.getElem?_mapIdx, hs]
    | some s2 => rw [gs_at hs, gs_at hs, up2_ne _ _ _ hi]
theorem gs_fset {E : gs_E} {f : Nat → Int32} {g : Int64} {l : List gs_F} {j : Nat} (v : Int32) (h : l[j]? = some fI) : (l.mapIdx (fun j d => gs_v E f g j d)).set j (.int v) = l.mapIdx (fun i d => gs_v E (upd f j v) g i d) := by
  have hl : j < l.length := (List.getElem?_eq_some_iff.mp h).1
  apply List.ext_getElem?
  intro i
  by_cases hi : i = j
  · subst hi
    rw [List.getElem?_set_self (by simpa using hl)]
    simp [List.getElem?_mapIdx, h, gs_v, fI, upd]
  · rw [List.getElem?_set_ne (Ne.symm hi)]
    simp only [List.getElem?_mapIdx]
    cases hs : l[i]? with
    | none => rfl
    | some d =>
      obtain r | b := d
      · rfl
      · cases b <;> simp [gs_v, upd, hi]
def gs_nl (sh : gs_S) : Bool := match sh with
  | .inl _ => true
  | .inr q => q.2.all (fun d => match d with | .inr true => false | _ => true)
theorem gs_nl_c {E : gs_E} {f : Nat → Int32} {sh : gs_S} (h : gs_nl sh = true) (g g' : Int64) : gs_c E f g sh = gs_c E f g' sh := by
  obtain q | q := sh
  · rfl
  · have h2 : ∀ d ∈ q.2, (match d with | (.inr true : gs_F) => false | _ => true) = true := List.all_eq_true.mp h
    show (Sum.inr (q.1, _) : va_E) = Sum.inr (q.1, _)
    congr 2
    apply List.ext_getElem?
    intro i
    simp only [List.getElem?_mapIdx]
    cases hs : q.2[i]? with
    | none => rfl
    | some d =>
      have h3 := h2 d (List.mem_of_getElem? hs)
      obtain r | b := d
      · rfl
      · cases b
        · rfl
        · simp at h3
