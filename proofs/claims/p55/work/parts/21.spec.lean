/-! the state as a row of numbers, in the order of the reference's row; what a TURN does to it -/
def sD (σ : Nat → Nat) (p s : Nat) : Nat := σ (75 + 6 * p + s)
def sPr (σ : Nat → Nat) (p : Nat) : Nat := sD σ p 0 + sD σ p 1 + sD σ p 2 + sD σ p 3 + sD σ p 4 + sD σ p 5
def sFree (σ : Nat → Nat) (p : Nat) : Nat := σ (55 + p) - sPr σ p
def sSt (σ : Nat → Nat) (p s : Nat) : Bool := decide (sD σ p s = σ (49 + s))
def sStg (σ : Nat → Nat) (p : Nat) : Nat := bset (sSt σ p) (σ 1)
def sShut (σ : Nat → Nat) (p : Nat) : Bool := (σ 7).testBit p
def sOpenN (σ : Nat → Nat) : Nat → Nat
  | 0 => 0
  | k + 1 => sOpenN σ k ||| (if sShut σ k then 0 else sStg σ k)
def sOpen (σ : Nat → Nat) : Nat := sOpenN σ (σ 2)
def sNextN (σ : Nat → Nat) : Nat → Nat → Option Nat
  | 0, _ => none
  | k + 1, j => if (σ 6).testBit (σ (67 + (σ 8 + j) % σ 3)) then sNextN σ k (j + 1) else some ((σ 8 + j) % σ 3)
def sNext (σ : Nat → Nat) : Option Nat := sNextN σ (σ 3) 0
def sRubP (σ : Nat → Nat) (knew : Nat) : Option Nat := fnd (fun p => !sShut σ p && decide (dif (sStg σ p) knew ≠ 0)) (σ 2) 0
def sRubS (σ : Nat → Nat) (knew p : Nat) : Nat := ((fnd (fun s => (dif (sStg σ p) knew).testBit s) 6 0).getD 0)
def sRub (σ : Nat → Nat) (knew : Nat) : Nat → Nat :=
  match sRubP σ knew with
  | none => σ
  | some p => up σ (75 + 6 * p + sRubS σ knew p) 0
/-- the page for a secret: the first of those with the most pricks of it -/
def sPgS (σ : Nat → Nat) (s p : Nat) (b : Option Nat) : Option Nat :=
  if sShut σ p = true ∨ sFree σ p = 0 then b else
    match b with
    | none => some p
    | some q => if sD σ p s ≤ sD σ q s then some q else some p
def sPgN (σ : Nat → Nat) (s : Nat) : Nat → Option Nat
  | 0 => none
  | k + 1 => sPgS σ s k (sPgN σ s k)
def sPg (σ : Nat → Nat) (s : Nat) : Option Nat := sPgN σ s (σ 2)
/-- so many pricks -/
def sMany (σ : Nat → Nat) (p s left : Nat) : Nat := min left (min (sFree σ p) (σ (49 + s) - sD σ p s))
def sAdd (σ : Nat → Nat) (k p s n : Nat) : Nat → Nat :=
  up (up (up σ (75 + 6 * p + s) (sD σ p s + n)) (41 + k) (σ (41 + k) + n)) 5 (σ 5 + n)
def sWant (σ : Nat → Nat) (k s : Nat) : Bool := (σ (33 + k)).testBit s && !(sOpen σ).testBit s
def sPrick1 (k s : Nat) (q : (Nat → Nat) × Nat) : (Nat → Nat) × Nat :=
  if sWant q.1 k s then
    match sPg q.1 s with
    | none => q
    | some p => (sAdd q.1 k p s (sMany q.1 p s q.2), q.2 - sMany q.1 p s q.2)
  else q
def sPrickN (k : Nat) (q : (Nat → Nat) × Nat) : Nat → (Nat → Nat) × Nat
  | 0 => q
  | s + 1 => sPrick1 k s (sPrickN k q s)
def sPricks (σ : Nat → Nat) (k : Nat) : Nat → Nat := (sPrickN k (σ, σ (9 + k)) (σ 1)).1
def sReads (σ : Nat → Nat) (k : Nat) : Nat → Nat :=
  if σ (17 + k) = 0 then
    (if σ (25 + k) = 1 then sRub (up σ (33 + k) (σ (33 + k) ||| sOpen σ)) (σ (33 + k)) else up σ (33 + k) (σ (33 + k) ||| sOpen σ))
  else σ
def sTurn (σ : Nat → Nat) : Nat → Nat :=
  match sNext σ with
  | none => up σ 4 (σ 4 + 1)
  | some pl => sPricks (sReads (up (up σ 4 (σ 4 + 1)) 8 ((pl + 1) % σ 3)) (σ (67 + pl))) (σ (67 + pl))
/-- what always holds of such a row -/
def WF (σ : Nat → Nat) : Prop :=
  (σ 0 ≤ 8 ∧ σ 1 ≤ 6 ∧ σ 2 ≤ 6 ∧ σ 3 ≤ 8 ∧ σ 6 < 256 ∧ σ 7 < 64 ∧ (σ 8 < σ 3 ∨ σ 8 = 0)) ∧
  (∀ k, k < 8 → σ (9 + k) ≤ 20 ∧ σ (17 + k) ≤ 1 ∧ σ (25 + k) ≤ 1 ∧ σ (33 + k) < 64) ∧
  (∀ k, k < 8 → σ 0 ≤ k → σ (33 + k) = 0) ∧
  (∀ s, s < 6 → σ (49 + s) ≤ 20 ∧ (s < σ 1 → 1 ≤ σ (49 + s))) ∧
  (∀ p, p < 6 → σ (55 + p) ≤ 60 ∧ σ (61 + p) ≤ 16) ∧
  (∀ i, i < σ 3 → σ (67 + i) < σ 0) ∧ (∀ i j, i < σ 3 → j < σ 3 → σ (67 + i) = σ (67 + j) → i = j) ∧
  (∀ p s, p < 6 → s < 6 → sD σ p s ≤ 20 ∧ (s < σ 1 → sD σ p s ≤ σ (49 + s)) ∧ (σ 1 ≤ s ∨ σ 2 ≤ p → sD σ p s = 0)) ∧
  (∀ p, p < 6 → sPr σ p ≤ σ (55 + p))
section WFS
variable {σ : Nat → Nat}
theorem WF.c0 (w : WF σ) : σ 0 ≤ 8 := w.1.1
theorem WF.c1 (w : WF σ) : σ 1 ≤ 6 := w.1.2.1
theorem WF.c2 (w : WF σ) : σ 2 ≤ 6 := w.1.2.2.1
theorem WF.c3 (w : WF σ) : σ 3 ≤ 8 := w.1.2.2.2.1
theorem WF.c6 (w : WF σ) : σ 6 < 256 := w.1.2.2.2.2.1
theorem WF.c7 (w : WF σ) : σ 7 < 64 := w.1.2.2.2.2.2.1
theorem WF.c8 (w : WF σ) : σ 8 < σ 3 ∨ σ 8 = 0 := w.1.2.2.2.2.2.2
theorem WF.c8' (w : WF σ) : σ 8 < 8 := by have := w.c8; have := w.c3; omega
theorem WF.can (w : WF σ) {k : Nat} (h : k < 8) : σ (9 + k) ≤ 20 := (w.2.1 k h).1
theorem WF.bl (w : WF σ) {k : Nat} (h : k < 8) : σ (17 + k) ≤ 1 := (w.2.1 k h).2.1
theorem WF.ru (w : WF σ) {k : Nat} (h : k < 8) : σ (25 + k) ≤ 1 := (w.2.1 k h).2.2.1
theorem WF.kn (w : WF σ) {k : Nat} (h : k < 8) : σ (33 + k) < 64 := (w.2.1 k h).2.2.2
theorem WF.kn0 (w : WF σ) {k : Nat} (h : k < 8) (h0 : σ 0 ≤ k) : σ (33 + k) = 0 := w.2.2.1 k h h0
theorem WF.le (w : WF σ) {s : Nat} (h : s < 6) : σ (49 + s) ≤ 20 := (w.2.2.2.1 s h).1
theorem WF.le1 (w : WF σ) {s : Nat} (h : s < 6) (h1 : s < σ 1) : 1 ≤ σ (49 + s) := (w.2.2.2.1 s h).2 h1
theorem WF.ro (w : WF σ) {p : Nat} (h : p < 6) : σ (55 + p) ≤ 60 := (w.2.2.2.2.1 p h).1
theorem WF.od (w : WF σ) {p : Nat} (h : p < 6) : σ (61 + p) ≤ 16 := (w.2.2.2.2.1 p h).2
theorem WF.or (w : WF σ) {i : Nat} (h : i < σ 3) : σ (67 + i) < σ 0 := w.2.2.2.2.2.1 i h
theorem WF.or' (w : WF σ) {i : Nat} (h : i < σ 3) : σ (67 + i) < 8 := Nat.lt_of_lt_of_le (w.or h) w.c0
theorem WF.inj (w : WF σ) {i j : Nat} (h : i < σ 3) (h2 : j < σ 3) (e : σ (67 + i) = σ (67 + j)) : i = j := w.2.2.2.2.2.2.1 i j h h2 e
theorem WF.dl (w : WF σ) {p s : Nat} (h : p < 6) (h2 : s < 6) : sD σ p s ≤ 20 := (w.2.2.2.2.2.2.2.1 p s h h2).1
theorem WF.dl' (w : WF σ) {p s : Nat} (h : p < 6) (h2 : s < 6) : σ (75 + 6 * p + s) ≤ 20 := w.dl h h2
theorem WF.dle (w : WF σ) {p s : Nat} (h : p < 6) (h2 : s < σ 1) : sD σ p s ≤ σ (49 + s) := (w.2.2.2.2.2.2.2.1 p s h (Nat.lt_of_lt_of_le h2 w.c1)).2.1 h2
theorem WF.d0 (w : WF σ) {p s : Nat} (h : p < 6) (h2 : s < 6) (h3 : σ 1 ≤ s ∨ σ 2 ≤ p) : sD σ p s = 0 := (w.2.2.2.2.2.2.2.1 p s h h2).2.2 h3
theorem WF.us (w : WF σ) {p : Nat} (h : p < 6) : sPr σ p ≤ σ (55 + p) := w.2.2.2.2.2.2.2.2 p h
theorem WF.stg (w : WF σ) (p : Nat) : sStg σ p < 64 := Nat.lt_of_lt_of_le (bset_lt _ _) (Nat.pow_le_pow_right (by decide) w.c1)
theorem WF.opnN (w : WF σ) : ∀ k, sOpenN σ k < 64
  | 0 => Nat.zero_lt_succ 63
  | k + 1 => by
    unfold sOpenN
    refine or_lt (n := 6) (w.opnN k) ?_
    split
    · decide
    · exact w.stg k
theorem WF.opn' (w : WF σ) : sOpen σ < 64 := w.opnN _
end WFS
theorem sNextN_lt {σ : Nat → Nat} : ∀ {k j p : Nat}, sNextN σ k j = some p → 0 < σ 3 → p < σ 3
  | 0, j, p, h, _ => by cases h
  | k + 1, j, p, h, h3 => by
    unfold sNextN at h
    split at h
    · exact sNextN_lt h h3
    · cases h; exact Nat.mod_lt _ h3
theorem sNext_lt {σ : Nat → Nat} {p : Nat} (h : sNext σ = some p) : p < σ 3 := by
  rcases Nat.eq_zero_or_pos (σ 3) with h3 | h3
  · unfold sNext at h; rw [h3] at h; cases h
  · exact sNextN_lt h h3
theorem sNextN_well {σ : Nat → Nat} : ∀ {k j p : Nat}, sNextN σ k j = some p → (σ 6).testBit (σ (67 + p)) = false
  | 0, j, p, h => by cases h
  | k + 1, j, p, h => by
    unfold sNextN at h
    split at h
    · exact sNextN_well h
    · rename_i hb; cases h; exact Bool.eq_false_iff.mpr hb
/-- the reference's row that holds it: what lies behind is c's -/
def mk (c : Nat → Int32) (σ : Nat → Nat) : Nat → Int32 := mkF c 111 σ
theorem mk_in {c : Nat → Int32} {σ : Nat → Nat} {i : Nat} (h : i < 111) : mk c σ i = nI (σ i) := if_pos h
theorem mk_up {c : Nat → Int32} {σ : Nat → Nat} {i v : Nat} (h : i < 111) : upd (mk c σ) i (nI v) = mk c (up σ i v) := mkF_up h
