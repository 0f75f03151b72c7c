/-! PURE: orders of the things that aren't cut -/
def fa : Nat → Nat
  | 0 => 1
  | n + 1 => (n + 1) * fa n
/-- the q-th number from j on whose bit isn't set -/
def sl (U : Nat) : Nat → Nat → Nat → Nat
  | 0, _, j => j
  | f + 1, q, j => if U.testBit j then sl U f q (j + 1) else if q = 0 then j else sl U f (q - 1) (j + 1)
def it (n U k : Nat) : Nat → Nat × Nat
  | 0 => (U, k)
  | c + 1 => ((it n U k c).1 ||| 2 ^ sl (it n U k c).1 12 ((it n U k c).2 / fa (n - c - 1)) 0, (it n U k c).2 % fa (n - c - 1))
/-- what the k-th order has at c -/
def kF (n U k c : Nat) : Nat := sl (it n U k c).1 12 ((it n U k c).2 / fa (n - c - 1)) 0
def pvF (π : Nat → Nat) : Nat → Option Nat
  | 0 => none
  | k + 1 => if π k ≤ π (k + 1) then some k else pvF π k
def scF (π : Nat → Nat) (j : Nat) : Nat → Nat
  | 0 => 0
  | k + 1 => if k + 1 ≤ j then k + 1 else if π j ≤ π (k + 1) then k + 1 else scF π j k
def swF (π : Nat → Nat) (a b : Nat) : Nat → Nat := fun i => if i = b then π a else if i = a then π b else π i
def rvF : Nat → (Nat → Nat) → Nat → Nat → Nat → Nat
  | 0, π, _, _ => π
  | f + 1, π, lo, hi => if hi ≤ lo then π else rvF f (swF π lo hi) (lo + 1) (hi - 1)
def nxF (n : Nat) (π : Nat → Nat) : Nat → Nat := match pvF π (n - 1) with
  | none => π
  | some j => rvF 6 (swF π j (scF π j (n - 1))) (j + 1) (n - 1)
def okT (t U : Nat) : Bool :=
  (List.range (t - cnt U.testBit t)).all (fun c => decide (cnt (fun j => !U.testBit j) (kF (t - cnt U.testBit t) U 0 c) = c)) &&
  (List.range (fa (t - cnt U.testBit t))).all (fun k => (List.range (t - cnt U.testBit t)).all (fun c => decide (kF (t - cnt U.testBit t) U k c < t) && !U.testBit (kF (t - cnt U.testBit t) U k c) && (List.range c).all (fun d => decide (kF (t - cnt U.testBit t) U k d ≠ kF (t - cnt U.testBit t) U k c))) && (decide (k + 1 = fa (t - cnt U.testBit t)) || (List.range (t - cnt U.testBit t)).all (fun c => decide (nxF (t - cnt U.testBit t) (kF (t - cnt U.testBit t) U k) c = kF (t - cnt U.testBit t) U (k + 1) c))))
theorem tab5 : (List.range 6).all (fun t => (List.range (2 ^ t)).all (okT t)) = true := by decide +kernel
theorem tab6 : (List.range 64).all (okT 6) = true := by decide +kernel
