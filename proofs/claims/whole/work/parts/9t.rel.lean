/-! what holds at the head of the law's loop -/
def rW (g : Nat → Nat → Int64) : Nat → Nat → Int64 := fun t => match t with | 0 => (g 0) | 1 => (g 1) | 2 => (g 2) | _ => (g 3)
/-- in this order: status, odds above, below, trays, tape, keys, faults kind, place, book, marks, best order, hasLived, lived -/
def REL (i : Nat → Int32) (j : Nat → Int64) (f : Nat → Nat → Int32) (g : Nat → Nat → Int64) : Prop :=
  ((i 0) = (i 106)) ∧
  ((j 0) = (j 3)) ∧
  ((j 1) = (j 4)) ∧
  (TrRel (rW g) (f 0) (f 1) (g 22) (f 97) (f 96)) ∧
  (∃ T : Nat, TpRel T (f 6) (f 98) ∧ (i 5) = nI T ∧ (i 108) = nI T) ∧
  (∀ k, k < 24 → (g 6) k = lN (KEY k)) ∧
  ((i 12) = (i 110)) ∧
  ((i 13) = (i 111)) ∧
  (BKb (i 16) (i 17) (i 18) (i 19) (i 20) (g 7) (f 9) (i 21) (i 22) (i 23) (i 24) (i 25) (i 26) (f 15) (f 12) (f 13) (f 11) (f 14) (f 17) (f 16) (g 9) (f 10) (i 27) (i 28) (i 29) (f 18) (f 21) (f 19) (f 20) (g 8) (f 8) 0 (f 99) (g 23)) ∧
  (∃ n : Nat, n ≤ 3 ∧ (i 1) = nI n ∧ (i 119) = nI n ∧ (0 < n → BKb (i 64) (i 65) (i 66) (i 67) (i 68) (g 13) (f 55) (i 69) (i 70) (i 71) (i 72) (i 73) (i 74) (f 61) (f 58) (f 59) (f 57) (f 60) (f 63) (f 62) (g 15) (f 56) (i 75) (i 76) (i 77) (f 64) (f 67) (f 65) (f 66) (g 14) (f 54) 1 (f 99) (g 23)) ∧ (1 < n → BKb (i 78) (i 79) (i 80) (i 81) (i 82) (g 16) (f 69) (i 83) (i 84) (i 85) (i 86) (i 87) (i 88) (f 75) (f 72) (f 73) (f 71) (f 74) (f 77) (f 76) (g 18) (f 70) (i 89) (i 90) (i 91) (f 78) (f 81) (f 79) (f 80) (g 17) (f 68) 2 (f 99) (g 23)) ∧ (2 < n → BKb (i 92) (i 93) (i 94) (i 95) (i 96) (g 19) (f 83) (i 97) (i 98) (i 99) (i 100) (i 101) (i 102) (f 89) (f 86) (f 87) (f 85) (f 88) (f 91) (f 90) (g 21) (f 84) (i 103) (i 104) (i 105) (f 92) (f 95) (f 93) (f 94) (g 20) (f 82) 3 (f 99) (g 23))) ∧
  (BoRel (i 44) (f 44) (i 122) (f 102)) ∧
  ((i 2) = (i 126)) ∧
  ((i 2) = 0 ∨ ∀ k, k < 5 → (f 53) k = (f 106) k)
theorem REL_start : REL i0 j0 f0 g0 :=
  ⟨rfl, rfl, rfl, tr_start, ⟨0, tp_start, rfl, rfl⟩, fun k hk => k_start hk, rfl, rfl, bk_start, ⟨0, Nat.zero_le _, rfl, rfl, fun h => absurd h (Nat.lt_irrefl _), fun h => absurd h (Nat.not_lt_zero _), fun h => absurd h (Nat.not_lt_zero _)⟩, bo_start, rfl, Or.inl rfl⟩
