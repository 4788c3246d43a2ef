/-! the tape's bytes, letters and digits, the words that are no names -/
def bx (n : Nat) : Int32 := (Int8.ofNat n).toInt32
theorem bx_of (y : Int8) : ∃ n, n < 256 ∧ y.toInt32 = bx n := by
  refine ⟨y.toBitVec.toNat, y.toBitVec.isLt, ?_⟩
  unfold bx
  have e : Int8.ofNat y.toBitVec.toNat = y := by
    apply Int8.toBitVec_inj.1
    show BitVec.ofNat 8 y.toBitVec.toNat = y.toBitVec
    exact BitVec.eq_of_toNat_eq (by rw [BitVec.toNat_ofNat, Nat.mod_eq_of_lt y.toBitVec.isLt])
  rw [e]
theorem bx_10 : ∀ n, n < 256 → decide (bx n = nI 10) = decide (n = 10) := by decide +kernel
theorem bx_32 : ∀ n, n < 256 → decide (bx n = nI 32) = decide (n = 32) := by decide +kernel
theorem bx_59 : ∀ n, n < 256 → decide (bx n = nI 59) = decide (n = 59) := by decide +kernel
theorem bx_255 : ∀ n, n < 256 → bx n &&& nI 255 = nI n := by decide +kernel
def isLt (n : Nat) : Bool := decide (97 ≤ n ∧ n ≤ 122)
def isDg (n : Nat) : Bool := decide (48 ≤ n ∧ n ≤ 57)
def isSg (n : Nat) : Bool := decide (59 ≤ n ∧ n ≤ 62)
theorem c_letter : ∀ n, n < 256 → f_X8_isLetter (bx n) = some (bI (isLt n)) := by decide +kernel
theorem c_digit : ∀ n, n < 256 → f_X8_isDigit (bx n) = some (bI (isDg n)) := by decide +kernel
theorem c_sign : ∀ n, n < 256 → f_X8_isSign (bx n) = some (bI (isSg n)) := by decide +kernel
theorem m_letter : ∀ n, n < 256 → f_X12_isLetter (nI n) = some (bI (isLt n)) := by decide +kernel
theorem m_digit : ∀ n, n < 256 → f_X12_isDigit (nI n) = some (bI (isDg n)) := by decide +kernel
theorem m_signB : ∀ n, n < 256 → f_X12_isSignByte (nI n) = some (bI (isSg n)) := by decide +kernel
theorem c_let96 : ∀ n, n < 256 → isLt n = true → (bx n - nI 97 + nI 1).toInt64 = lN (n - 96) := by decide +kernel
theorem c_dig48 : ∀ n, n < 256 → isDg n = true → bx n - nI 48 = nI (n - 48) := by decide +kernel
theorem isLt_iff {n : Nat} : isLt n = true ↔ 97 ≤ n ∧ n ≤ 122 := decide_eq_true_iff
theorem isDg_iff {n : Nat} : isDg n = true ↔ 48 ≤ n ∧ n ≤ 57 := decide_eq_true_iff
theorem isSg_iff {n : Nat} : isSg n = true ↔ 59 ≤ n ∧ n ≤ 62 := decide_eq_true_iff
/-- a text: its bytes, its length, as they stand on both tapes -/
def TX (B : Nat → Nat) (E : Nat) (tp tq : Nat → Int32) : Prop := E ≤ 900 ∧ ∀ i, i < E → B i < 256 ∧ tp i = bx (B i) ∧ tq i = bx (B i)
theorem tx_of {T : Nat} {tp tq : Nat → Int32} (h : TpRel T tp tq) {E : Nat} (hE : E ≤ T) : ∃ B, TX B E tp tq := by
  obtain ⟨h1, h2⟩ := h
  have h3 : ∀ i, ∃ n, i < E → n < 256 ∧ tp i = bx n ∧ tq i = bx n := by
    intro i
    by_cases hi : i < E
    · obtain ⟨e, y, hy⟩ := h2 i (by omega)
      obtain ⟨n, hn, hb⟩ := bx_of y.toInt8
      exact ⟨n, fun _ => ⟨hn, by rw [hy, hb], by rw [← e, hy, hb]⟩⟩
    · exact ⟨0, fun h => absurd h hi⟩
  exact ⟨fun i => Classical.choose (h3 i), by omega, fun i hi => Classical.choose_spec (h3 i) hi⟩
section BY
variable {B : Nat → Nat} {E i : Nat} {tp tq : Nat → Int32}
theorem m_look (h : TX B E tp tq) (hi : i < E) : f_X12_look2 (nI i) (nI E) tq = some (nI (B i)) := by
  obtain ⟨h1, h2⟩ := h
  obtain ⟨a, -, c⟩ := h2 i hi
  unfold f_X12_look2
  simp (disch := omega) only [nI_le', if_neg, gi_n, nI_cl, c, bx_255 _ a]
theorem m_look_end (h : TX B E tp tq) : f_X12_look2 (nI E) (nI E) tq = some (nI 0) := by
  unfold f_X12_look2
  rw [if_pos (Int32.le_refl _)]
theorem t_10 (h : TX B E tp tq) (hi : i < E) : (tp i = nI 10) = (B i = 10) := by
  obtain ⟨a, b, -⟩ := h.2 i hi
  rw [b]
  exact propext (decide_eq_decide.mp (bx_10 _ a))
theorem t_32 (h : TX B E tp tq) (hi : i < E) : (tp i = nI 32) = (B i = 32) := by
  obtain ⟨a, b, -⟩ := h.2 i hi
  rw [b]
  exact propext (decide_eq_decide.mp (bx_32 _ a))
theorem t_59 (h : TX B E tp tq) (hi : i < E) : (tp i = nI 59) = (B i = 59) := by
  obtain ⟨a, b, -⟩ := h.2 i hi
  rw [b]
  exact propext (decide_eq_decide.mp (bx_59 _ a))
theorem t_letter (h : TX B E tp tq) (hi : i < E) : f_X8_isLetter (tp i) = some (bI (isLt (B i))) := by
  obtain ⟨a, b, -⟩ := h.2 i hi
  rw [b]; exact c_letter _ a
theorem t_digit (h : TX B E tp tq) (hi : i < E) : f_X8_isDigit (tp i) = some (bI (isDg (B i))) := by
  obtain ⟨a, b, -⟩ := h.2 i hi
  rw [b]; exact c_digit _ a
theorem t_sign (h : TX B E tp tq) (hi : i < E) : f_X8_isSign (tp i) = some (bI (isSg (B i))) := by
  obtain ⟨a, b, -⟩ := h.2 i hi
  rw [b]; exact c_sign _ a
end BY
/-! the words that are no names, by their numbers -/
def KEY : Nat → Nat
  | 0 => 103820
  | 1 => 556043635
  | 2 => 2500036
  | 3 => 611411
  | 4 => 642894004
  | 5 => 13074306643
  | 6 => 525541
  | 7 => 605677
  | 8 => 12009203
  | 9 => 16322738
  | 10 => 594980
  | 11 => 495763
  | 12 => 677454
  | 13 => 9612
  | 14 => 442053
  | 15 => 19106
  | 16 => 132528
  | 17 => 773394610
  | 18 => 762030
  | 19 => 218508
  | 20 => 1420
  | 21 => 409072
  | 22 => 5572
  | 23 => 643568
  | _ => 0
