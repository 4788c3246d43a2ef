theorem mkF_grow {b : Nat → Int32} {f : Nat → Nat} {j : Nat} : upd (mkF b j f) j (nI (f j)) = mkF b (j + 1) f := by
  funext i
  unfold upd mkF
  by_cases h : i = j
  · subst h; rw [if_pos rfl, if_pos (by omega)]
  · rw [if_neg h]
    by_cases h2 : i < j
    · rw [if_pos h2, if_pos (by omega)]
    · rw [if_neg h2, if_neg (by omega)]
theorem mkF_n0 {b : Nat → Int32} {f : Nat → Nat} : mkF b 0 f = b := by
  funext i
  exact if_neg (by omega)
/-! wide sets -/
def bt (v : Int64) (i : Nat) : Bool := v.toBitVec.getLsbD i
theorem bt_sh1 : ∀ i, i < 64 → (((nI i).toInt64.toUInt64 &&& Int64.toUInt64 63).toBitVec % 64).toNat = i := by decide +kernel
theorem bt_sh2 : ∀ i, i < 64 → (((nI i).toInt64 &&& 63).toBitVec.smod 64).toNat = i := by decide +kernel
theorem bt_x {v : Int64} {i : Nat} (hi : i < 64) : ((v.toUInt64 >>> ((nI i).toInt64.toUInt64 &&& Int64.toUInt64 63)).toInt64 &&& lN 1) = if bt v i = true then lN 1 else lN 0 := by
  apply Int64.toBitVec_inj.1
  have e : ((v.toUInt64 >>> ((nI i).toInt64.toUInt64 &&& Int64.toUInt64 63)).toInt64 &&& lN 1).toBitVec = (v.toBitVec >>> (((nI i).toInt64.toUInt64 &&& Int64.toUInt64 63).toBitVec % 64)) &&& 1#64 := rfl
  rw [e, BitVec.ushiftRight_eq', bt_sh1 i hi]
  unfold bt
  apply BitVec.eq_of_getLsbD_eq
  intro j hj
  rw [BitVec.getLsbD_and, BitVec.getLsbD_ushiftRight]
  by_cases h0 : j = 0
  · subst h0
    rw [Nat.add_zero]
    cases v.toBitVec.getLsbD i <;> rfl
  · have h1 : (1#64).getLsbD j = false := by rw [BitVec.getLsbD_one]; simp [h0]
    rw [h1, Bool.and_false]
    cases v.toBitVec.getLsbD i
    · rw [if_neg (by decide)]
      exact (BitVec.getLsbD_zero (w := 64) (i := j)).symm
    · rw [if_pos rfl]; exact h1.symm
theorem bt_t {v : Int64} {i : Nat} (hi : i < 64) : (lg_cmp ((v.toUInt64 >>> ((nI i).toInt64.toUInt64 &&& Int64.toUInt64 63)).toInt64 &&& lN 1) (lN 0) = 0) = (bt v i = false) := by
  rw [bt_x hi]
  cases bt v i
  · rw [if_neg (by decide), lgN_0 (by decide)]; exact propext ⟨fun _ => rfl, fun _ => rfl⟩
  · rw [if_pos rfl, lgN_0 (by decide)]; exact propext ⟨fun h => (by cases h), fun h => (by cases h)⟩
theorem bt_or {v w : Int64} {i : Nat} : bt (v ||| w) i = (bt v i || bt w i) := by
  show (v.toBitVec ||| w.toBitVec).getLsbD i = _
  rw [BitVec.getLsbD_or]; rfl
theorem bt_1 {i j : Nat} (hi : i < 64) (hj : j < 64) : bt (lN 1 <<< ((nI i).toInt64 &&& 63)) j = decide (i = j) := by
  show ((1#64) <<< (((nI i).toInt64 &&& 63).toBitVec.smod 64)).getLsbD j = _
  rw [BitVec.shiftLeft_eq', bt_sh2 i hi, BitVec.getLsbD_shiftLeft, BitVec.getLsbD_one]
  rw [decide_eq_true hj]
  by_cases e : i = j
  · subst e; rw [decide_eq_false (Nat.lt_irrefl _), Nat.sub_self, decide_eq_true rfl, decide_eq_true rfl]; rfl
  · rw [decide_eq_false e]
    by_cases c : j < i
    · rw [decide_eq_true c]; rfl
    · rw [decide_eq_false c]
      have : ¬ j - i = 0 := by omega
      simp [this]
theorem bt_0 {i : Nat} : bt (lN 0) i = false := BitVec.getLsbD_zero
theorem bt_one {i : Nat} : bt (lN 1) i = decide (i = 0) := by
  show (1#64).getLsbD i = _
  rw [BitVec.getLsbD_one]; simp
/-- what one page more holds -/
def jn (h : Int64) (T : Nat) : Nat → Int64
  | 0 => lN 0
  | j + 1 => if j &&& T = 0 then (if bt h j = false then jn h T j else jn h T j ||| (lN 1 <<< ((nI (j ||| T)).toInt64 &&& 63))) else jn h T j
theorem jn_bit {h : Int64} {T S : Nat} (hT : T < 64) (hS : S < 64) : ∀ {m : Nat}, m ≤ 64 → (bt (jn h T m) S = true ↔ ∃ z, z < m ∧ z &&& T = 0 ∧ bt h z = true ∧ S = z ||| T)
  | 0, _ => by
    show bt (lN 0) S = true ↔ _
    rw [bt_0]
    exact ⟨fun h => (by cases h), fun ⟨z, a, _⟩ => absurd a (by omega)⟩
  | m + 1, hm => by
    have ih := jn_bit (h := h) hT hS (m := m) (by omega)
    unfold jn
    split
    · rename_i h1
      split
      · rename_i h2
        rw [ih]
        constructor
        · rintro ⟨z, a, b⟩; exact ⟨z, by omega, b⟩
        · rintro ⟨z, a, b, c, d⟩
          refine ⟨z, ?_, b, c, d⟩
          by_cases e : z = m
          · subst e; rw [h2] at c; cases c
          · omega
      · rename_i h2
        have h2' : bt h m = true := by cases hh : bt h m; exact absurd hh h2; rfl
        have hor : m ||| T < 64 := or_lt (n := 6) (by omega) hT
        rw [bt_or, bt_1 hor hS]
        constructor
        · intro hh
          by_cases e : m ||| T = S
          · exact ⟨m, by omega, h1, h2', e.symm⟩
          · rw [decide_eq_false e, Bool.or_false] at hh
            obtain ⟨z, a, b⟩ := ih.1 hh
            exact ⟨z, by omega, b⟩
        · rintro ⟨z, a, b, c, d⟩
          by_cases e : z = m
          · subst e; rw [decide_eq_true d.symm, Bool.or_true]
          · rw [ih.2 ⟨z, by omega, b, c, d⟩]; rfl
    · rename_i h1
      rw [ih]
      constructor
      · rintro ⟨z, a, b⟩; exact ⟨z, by omega, b⟩
      · rintro ⟨z, a, b, c, d⟩
        refine ⟨z, ?_, b, c, d⟩
        by_cases e : z = m
        · subst e; exact absurd b h1
        · omega
theorem c_joined {h : Int64} {T A fu : Nat} (hA : A < 64) (hT : T < 64) (hfu : 100 < fu) : f_X4_joined fu h (nI T) (nI A) = some (jn h T (A + 1)) := by
  unfold f_X4_joined
  refine loop_p (fun q j => f_X4_joined_6 fu q h (nI T) (nI A) (jn h T j) (nI j)) (A + 1) _ ?_ ?_ (A + 1) 0 fu (by omega) (by omega)
  · intro q j hj
    have e : jn h T (j + 1) = if j &&& T = 0 then (if bt h j = false then jn h T j else jn h T j ||| (lN 1 <<< ((nI (j ||| T)).toInt64 &&& 63))) else jn h T j := rfl
    have ha : j &&& T < 64 := Nat.lt_of_le_of_lt Nat.and_le_right hT
    simp (disch := omega) only [f_X4_joined_6, nI_lt', if_neg, nI_and, nI_or, nI_eq0, bt_t, lt_, nI_add]
    rw [e]
    split
    · split <;> rfl
    · rfl
  · intro q
    simp (disch := omega) only [f_X4_joined_6, nI_lt', if_pos]
def fh (h : Int64) (le : Nat → Nat) (A ro : Nat) : Nat → Int64
  | 0 => lN 0
  | j + 1 => if ro < le j then fh h le A ro j else fh h le A ro j ||| jn h j (A + 1)
theorem fh_bit {h : Int64} {le : Nat → Nat} {A ro S : Nat} (hA : A < 64) (hS : S < 64) : ∀ {m : Nat}, m ≤ 64 → (bt (fh h le A ro m) S = true ↔ ∃ T, T < m ∧ le T ≤ ro ∧ ∃ z, z < A + 1 ∧ z &&& T = 0 ∧ bt h z = true ∧ S = z ||| T)
  | 0, _ => by
    show bt (lN 0) S = true ↔ _
    rw [bt_0]
    exact ⟨fun h => (by cases h), fun ⟨z, a, _⟩ => absurd a (by omega)⟩
  | m + 1, hm => by
    have ih := fh_bit (h := h) (le := le) (ro := ro) hA hS (m := m) (by omega)
    unfold fh
    split
    · rename_i h1
      rw [ih]
      constructor
      · rintro ⟨z, a, b⟩; exact ⟨z, by omega, b⟩
      · rintro ⟨z, a, b, c⟩
        refine ⟨z, ?_, b, c⟩
        by_cases e : z = m
        · subst e; omega
        · omega
    · rename_i h1
      rw [bt_or]
      have jb := jn_bit (h := h) (T := m) (S := S) (by omega) hS (m := A + 1) (by omega)
      constructor
      · intro hh
        rcases (Bool.or_eq_true _ _).mp hh with g | g
        · obtain ⟨T, a, b⟩ := ih.1 g
          exact ⟨T, by omega, b⟩
        · exact ⟨m, by omega, by omega, jb.1 g⟩
      · rintro ⟨T, a, b, c⟩
        by_cases e : T = m
        · subst e; rw [jb.2 c, Bool.or_true]
        · rw [ih.2 ⟨T, by omega, b, c⟩]; rfl
/-! how many -/
def sz (a : Nat) : Nat := smF a.testBit (fun _ => 1) 8 0
theorem sz_6 : ∀ a, a < 64 → sz a ≤ 6 := by decide +kernel
theorem c_size : ∀ a, a < 64 → f_J6_bitCount_0f7a4 (nI a) = some (nI (sz a)) := by decide +kernel
theorem m_size {a fu : Nat} (ha : a < 64) (hfu : 100 < fu) : f_X12_sizeOf fu (nI a) = some (nI (sz a)) := by
  have hk : ∀ k j acc q, j + k = 8 → k < q → f_X12_sizeOf_4 fu q (nI a) (nI acc) (nI j) = some (nI (acc + smF a.testBit (fun _ => 1) k j)) := by
    intro k
    induction k with
    | zero =>
      intro j acc q hj hq
      obtain ⟨q, rfl⟩ : ∃ z, q = z + 1 := ⟨q - 1, by omega⟩
      simp (disch := omega) only [f_X12_sizeOf_4, nI_le', if_pos]
      rfl
    | succ k ih =>
      intro j acc q hj hq
      obtain ⟨q, rfl⟩ : ∃ z, q = z + 1 := ⟨q - 1, by omega⟩
      have e : smF a.testBit (fun _ => 1) (k + 1) j = (if a.testBit j = true then 1 else 0) + smF a.testBit (fun _ => 1) k (j + 1) := rfl
      simp (disch := omega) only [f_X12_sizeOf_4, nI_le', if_neg, has12, bd_s, bI_0, lt_, nI_add]
      rw [e, ih (j + 1) (acc + 0) q (by omega) (by omega), ih (j + 1) (acc + 1) q (by omega) (by omega)]
      cases a.testBit j
      · rw [if_pos rfl, if_neg (by decide), Nat.add_assoc]
      · rw [if_neg (by decide), if_pos rfl, Nat.add_assoc]
  unfold f_X12_sizeOf
  rw [hk 8 0 0 fu (by omega) (by omega), Nat.zero_add]
  rfl
/-- the first of the smallest -/
def bst (ok : Nat → Bool) : Nat → Option Nat
  | 0 => none
  | j + 1 => match bst ok j with
    | none => if ok j = true then some j else none
    | some b => if sz j < sz b then (if ok j = true then some j else some b) else some b
theorem bst_lt {ok : Nat → Bool} : ∀ {j b : Nat}, bst ok j = some b → b < j
  | 0, b, h => by cases h
  | j + 1, b, h => by
    unfold bst at h
    split at h
    · split at h
      · cases h; exact Nat.lt_succ_self _
      · cases h
    · rename_i q hq
      have := bst_lt hq
      split at h
      · split at h
        · cases h; exact Nat.lt_succ_self _
        · cases h; omega
      · cases h; omega
def cw (o : Option Nat) : Nat := match o with | none => 7 | some b => sz b
