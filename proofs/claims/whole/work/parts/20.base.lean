/-! PURE: numbers and loops -/
theorem c0 : (0 : Int32) = nI 0 := rfl
theorem c1 : (1 : Int32) = nI 1 := rfl
theorem c2 : (2 : Int32) = nI 2 := rfl
theorem c3 : (3 : Int32) = nI 3 := rfl
theorem c4 : (4 : Int32) = nI 4 := rfl
theorem c5 : (5 : Int32) = nI 5 := rfl
theorem c6 : (6 : Int32) = nI 6 := rfl
theorem c7 : (7 : Int32) = nI 7 := rfl
theorem c8 : (8 : Int32) = nI 8 := rfl
theorem c9 : (9 : Int32) = nI 9 := rfl
theorem c10 : (10 : Int32) = nI 10 := rfl
theorem c11 : (11 : Int32) = nI 11 := rfl
theorem c12 : (12 : Int32) = nI 12 := rfl
theorem c15 : (15 : Int32) = nI 15 := rfl
theorem c20 : (20 : Int32) = nI 20 := rfl
theorem c24 : (24 : Int32) = nI 24 := rfl
theorem c30 : (30 : Int32) = nI 30 := rfl
theorem c31 : (31 : Int32) = nI 31 := rfl
theorem c45 : (45 : Int32) = nI 45 := rfl
theorem c46 : (46 : Int32) = nI 46 := rfl
theorem c48 : (48 : Int32) = nI 48 := rfl
theorem c49 : (49 : Int32) = nI 49 := rfl
theorem c57 : (57 : Int32) = nI 57 := rfl
theorem c60 : (60 : Int32) = nI 60 := rfl
theorem c97 : (97 : Int32) = nI 97 := rfl
theorem c98 : (98 : Int32) = nI 98 := rfl
theorem c99 : (99 : Int32) = nI 99 := rfl
theorem c100 : (100 : Int32) = nI 100 := rfl
theorem c101 : (101 : Int32) = nI 101 := rfl
theorem c102 : (102 : Int32) = nI 102 := rfl
theorem c108 : (108 : Int32) = nI 108 := rfl
theorem c111 : (111 : Int32) = nI 111 := rfl
theorem c126 : (126 : Int32) = nI 126 := rfl
theorem c720 : (720 : Int32) = nI 720 := rfl
theorem c999 : (999 : Int32) = nI 999 := rfl
theorem c10000 : (10000 : Int32) = nI 10000 := rfl
theorem k_cl {a : Nat} (h : a < 2147483648) : (nI a).toNatClampNeg = a := nI_clamp h
theorem k_lt {a b : Nat} (ha : a < 2147483648) (hb : b < 2147483648) : nI a < nI b ↔ a < b := nI_ltI ha hb
theorem k_le {a b : Nat} (ha : a < 2147483648) (hb : b < 2147483648) : nI a ≤ nI b ↔ a ≤ b := nI_leI ha hb
theorem k_eq {a b : Nat} (ha : a < 2147483648) (hb : b < 2147483648) : nI a = nI b ↔ a = b := nI_eq ha hb
theorem k_sub {a b : Nat} (h : b ≤ a) : nI a - nI b = nI (a - b) := pk_sub h
theorem k_div {a d : Nat} (ha : a < 2147483648) (h0 : 0 < d) (hd : d < 2147483648) : nI a / nI d = nI (a / d) := pk_div ha h0 hd
theorem k_m1 {a : Nat} (h : 0 < a) : nI a + (-1) = nI (a - 1) := by
  obtain ⟨b, rfl⟩ : ∃ b, a = b + 1 := ⟨a - 1, by omega⟩
  rw [pk_m1]; rfl
theorem inb_I {a n : Nat} (h : a < n) (hn : n < 2147483648) : inb (nI a) n := ⟨nI_pos' (by omega), by rw [nI_clamp (by omega)]; exact h⟩
theorem inb_N {a n : Nat} (ha : a < 2147483648) : inb (nI a) n ↔ a < n := by
  constructor
  · rintro ⟨-, h⟩
    rwa [nI_clamp ha] at h
  · intro h
    exact ⟨nI_pos' ha, by rw [nI_clamp ha]; exact h⟩
/-- a bit -/
def bI (b : Bool) : Int32 := nI b.toNat
theorem bI_0 (b : Bool) : bI b = nI 0 ↔ b = false := by cases b <;> simp [bI] <;> decide
theorem bI_1 (b : Bool) : bI b = nI 1 ↔ b = true := by cases b <;> simp [bI] <;> decide
theorem bI_01 (b : Bool) : bI b = 0 ∨ bI b = 1 := by cases b <;> decide
theorem bI_01' (b : Bool) : bI b = nI 0 ∨ bI b = nI 1 := bI_01 b
theorem ck_t {α : Type} {c : Prop} [Decidable c] {x : Option α} (h : c) : (if c then x else none) = x := if_pos h
theorem lp_seq {τ ε : Type} {b : τ → Option (τ ⊕ ε)} (st : Nat → τ) (e : ε) : ∀ (N n k : Nat), N < n → (∀ i, i < N → b (st (k + i)) = some (.inl (st (k + i + 1)))) → b (st (k + N)) = some (.inr e) → lp b n (st k) = some e
  | 0, n, k, hn, _, h2 => by
    obtain ⟨m, rfl⟩ : ∃ m, n = m + 1 := ⟨n - 1, by omega⟩
    rw [lp]
    rw [Nat.add_zero] at h2
    rw [h2]
    rfl
  | N + 1, n, k, hn, h1, h2 => by
    obtain ⟨m, rfl⟩ : ∃ m, n = m + 1 := ⟨n - 1, by omega⟩
    rw [lp]
    have h0 := h1 0 (by omega)
    rw [Nat.add_zero] at h0
    rw [h0]
    show lp b m (st (k + 1)) = some e
    refine lp_seq st e N m (k + 1) (by omega) (fun i hi => ?_) ?_
    · have := h1 (i + 1) (by omega)
      rw [show k + 1 + i = k + (i + 1) by omega]
      exact this
    · rw [show k + 1 + N = k + (N + 1) by omega]
      exact h2
/-- a loop whose states are known -/
theorem lp_st {τ ε : Type} {b : τ → Option (τ ⊕ ε)} (st : Nat → τ) {e : ε} (N : Nat) (hN : N < 1000) (h1 : ∀ i, i < N → b (st i) = some (.inl (st (i + 1)))) (h2 : b (st N) = some (.inr e)) {s : τ} (hs : s = st 0) : lp b 1000 s = some e := by
  subst hs
  refine lp_seq st e N 1000 0 hN (fun i hi => ?_) ?_
  · rw [Nat.zero_add]; exact h1 i hi
  · rw [Nat.zero_add]; exact h2
theorem lp_ok' {τ ε : Type} {b : τ → Option (τ ⊕ ε)} (I : Nat → τ → Prop) (N : Nat) (Q : ε → Prop) (h : ∀ i s, i ≤ N → I i s → (i < N ∧ ∃ s', b s = some (.inl s') ∧ I (i + 1) s') ∨ ∃ e, b s = some (.inr e) ∧ Q e) : ∀ (n i : Nat) (s : τ), i ≤ N → N - i < n → I i s → ∃ e, lp b n s = some e ∧ Q e
  | 0, i, s, _, h2, _ => by omega
  | n + 1, i, s, h1, h2, h3 => by
    rcases h i s h1 h3 with ⟨q, s', e1, e2⟩ | ⟨e, e1, e2⟩
    · obtain ⟨e, g1, g2⟩ := lp_ok' I N Q h n (i + 1) s' q (by omega) e2
      exact ⟨e, by rw [lp, e1]; exact g1, g2⟩
    · exact ⟨e, by rw [lp, e1]; rfl, e2⟩
/-- a loop with an invariant -/
theorem lp_ok {τ ε : Type} {b : τ → Option (τ ⊕ ε)} (I : Nat → τ → Prop) (N : Nat) (hN : N < 1000) (Q : ε → Prop) (h : ∀ i s, i ≤ N → I i s → (i < N ∧ ∃ s', b s = some (.inl s') ∧ I (i + 1) s') ∨ ∃ e, b s = some (.inr e) ∧ Q e) {s : τ} (h0 : I 0 s) : ∃ e, lp b 1000 s = some e ∧ Q e :=
  lp_ok' I N Q h 1000 0 s (Nat.zero_le _) (by omega) h0
theorem bind_s {α β : Type} {x : Option α} {f : α → Option β} {a : α} (h : x = some a) : x.bind f = f a := by rw [h]; rfl
/-- the same but at these cells -/
def Same (X : List Nat) (σ s : gs_H) : Prop := ∀ k, k ∉ X → s k = σ k
theorem Same.rf {X : List Nat} {σ : gs_H} : Same X σ σ := fun _ _ => rfl
theorem Same.up {X : List Nat} {σ s : gs_H} {k j : Nat} {v : Int32} (h : Same X σ s) (hk : k ∈ X) : Same X σ (up2 s k j v) := by
  intro a ha
  rw [up2_ne _ _ _ (fun e => ha (by rw [e]; exact hk))]
  exact h a ha
theorem Same.tr {X : List Nat} {σ s u : gs_H} (h : Same X σ s) (h2 : Same X s u) : Same X σ u := fun k hk => (h2 k hk).trans (h k hk)
theorem Same.mono {X Y : List Nat} {σ s : gs_H} (h : Same X σ s) (hXY : ∀ k, k ∈ X → k ∈ Y) : Same Y σ s := fun k hk => h k (fun q => hk (hXY k q))
theorem up2_at (σ : gs_H) (k j a b : Nat) (v : Int32) : up2 σ k j v a b = if a = k ∧ b = j then v else σ a b := rfl
theorem up2_n1 (σ : gs_H) {k j a b : Nat} {v : Int32} (h : a ≠ k) : up2 σ k j v a b = σ a b := by simp [up2, h]
theorem up2_n2 (σ : gs_H) {k j a b : Nat} {v : Int32} (h : b ≠ j) : up2 σ k j v a b = σ a b := by simp [up2, h]
/-- how many -/
def cnt (p : Nat → Bool) : Nat → Nat
  | 0 => 0
  | n + 1 => cnt p n + (p n).toNat
theorem cnt_le (p : Nat → Bool) : ∀ n, cnt p n ≤ n
  | 0 => Nat.le_refl _
  | n + 1 => by
    have h := cnt_le p n
    have h2 : (p n).toNat ≤ 1 := Bool.toNat_le _
    show cnt p n + (p n).toNat ≤ n + 1
    omega
theorem cnt_cong {p q : Nat → Bool} : ∀ {n : Nat}, (∀ k, k < n → p k = q k) → cnt p n = cnt q n
  | 0, _ => rfl
  | n + 1, h => by rw [cnt, cnt, cnt_cong (fun k hk => h k (by omega)), h n (by omega)]
theorem cnt_all {p q : Nat → Bool} : ∀ {n : Nat}, cnt (fun k => p k && q k) n ≤ cnt p n ∧ (cnt (fun k => p k && q k) n = cnt p n ↔ ∀ k, k < n → p k = true → q k = true)
  | 0 => ⟨Nat.le_refl _, by simp [cnt]⟩
  | n + 1 => by
    obtain ⟨h1, h2⟩ := @cnt_all p q n
    have e1 : cnt (fun k => p k && q k) (n + 1) = cnt (fun k => p k && q k) n + (p n && q n).toNat := rfl
    have e2 : cnt p (n + 1) = cnt p n + (p n).toNat := rfl
    rw [e1, e2]
    cases hp : p n <;> cases hq : q n <;> simp only [Bool.false_and, Bool.true_and, Bool.and_false, Bool.and_true, Bool.toNat_true, Bool.toNat_false, Nat.add_zero]
    · refine ⟨h1, h2.trans ⟨fun h k hk => ?_, fun h k hk => h k (by omega)⟩⟩
      rcases Nat.lt_or_ge k n with q1 | q1
      · exact h k q1
      · have : k = n := by omega
        subst this; intro z; rw [hp] at z; cases z
    · refine ⟨h1, h2.trans ⟨fun h k hk => ?_, fun h k hk => h k (by omega)⟩⟩
      rcases Nat.lt_or_ge k n with q1 | q1
      · exact h k q1
      · have : k = n := by omega
        subst this; intro z; rw [hp] at z; cases z
    · refine ⟨by omega, ⟨fun h => by omega, fun h => ?_⟩⟩
      have := h n (by omega) hp
      rw [hq] at this; cases this
    · refine ⟨by omega, ⟨fun h k hk => ?_, fun h => ?_⟩⟩
      · rcases Nat.lt_or_ge k n with q1 | q1
        · exact h2.mp (by omega) k q1
        · have : k = n := by omega
          subst this; intro _; exact hq
      · have := h2.mpr (fun k hk => h k (by omega))
        omega
