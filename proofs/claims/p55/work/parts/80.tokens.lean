/-! TOKENS: what both sides make of a text, from a place on -/
theorem lg_eq0 (x y : Int64) : (lg_cmp x y = 0) = (x = y) := by
  unfold lg_cmp
  by_cases a : x > y
  · rw [if_pos a]
    exact propext ⟨fun h => absurd h (by decide), fun h => absurd a (by rw [h]; exact Int64.lt_irrefl)⟩
  · rw [if_neg a]
    by_cases b : x = y
    · rw [if_pos b]; exact propext ⟨fun _ => b, fun _ => rfl⟩
    · rw [if_neg b]; exact propext ⟨fun h => absurd h (by decide), fun h => absurd h b⟩
def kI (k : Nat) : Int32 := if k < 24 then nI k else (-1 : Int32)
theorem kI_lt {k : Nat} (h : k < 24) : kI k = nI k := if_pos h
theorem kI_24 : kI 24 = (-1 : Int32) := rfl
theorem kI_eq {k j : Nat} (hk : k ≤ 24) (hj : j < 24) : (kI k = nI j) = (k = j) := by
  unfold kI
  by_cases h : k < 24
  · rw [if_pos h]; exact nI_eq' (by omega) (by omega)
  · rw [if_neg h, m1_ne_nI (by omega)]; exact propext ⟨False.elim, fun e => by omega⟩
theorem kI_m1 {k : Nat} (hk : k ≤ 24) : (kI k = (-1 : Int32)) = (k = 24) := by
  unfold kI
  by_cases h : k < 24
  · rw [if_pos h, nI_ne_m1 (by omega)]; exact propext ⟨False.elim, fun e => by omega⟩
  · rw [if_neg h]; exact propext ⟨fun _ => by omega, fun _ => rfl⟩
/-- the last of the words that is this one -/
def lkw (w : Int64) : Nat → Nat
  | 0 => 24
  | j + 1 => if lN (KEY j) = w then j else lkw w j
theorem KEY_inj : ∀ i, i < 24 → ∀ j, j < 24 → decide (lN (KEY i) = lN (KEY j)) = decide (i = j) := by decide +kernel
theorem KEY_m1 : ∀ i, i < 24 → decide (lN (KEY i) = (-1 : Int64)) = false := by decide +kernel
theorem lkw_le (w : Int64) : ∀ j, lkw w j ≤ 24 ∨ lkw w j < j
  | 0 => Or.inl (Nat.le_refl _)
  | j + 1 => by
    unfold lkw
    split
    · exact Or.inr (Nat.lt_succ_self j)
    · rcases lkw_le w j with h | h
      · exact Or.inl h
      · exact Or.inr (by omega)
theorem lkw_24 (w : Int64) : lkw w 24 ≤ 24 := by rcases lkw_le w 24 with h | h <;> omega
theorem lkw_of {w : Int64} {k : Nat} (hk : k < 24) (h : w = lN (KEY k)) : ∀ j, j ≤ 24 → k < j → lkw w j = k
  | 0, _, h2 => absurd h2 (Nat.not_lt_zero k)
  | j + 1, hj, h2 => by
    unfold lkw
    by_cases e : j = k
    · subst e; rw [if_pos h.symm]
    · have : ¬ lN (KEY j) = w := by
        rw [h]
        have := KEY_inj j (by omega) k hk
        rw [decide_eq_false e] at this
        exact of_decide_eq_false this
      rw [if_neg this]
      exact lkw_of hk h j (by omega) (by omega)
theorem lkw_is {w : Int64} : ∀ {j k : Nat}, lkw w j = k → k < 24 → w = lN (KEY k)
  | 0, k, h, hk => by unfold lkw at h; omega
  | j + 1, k, h, hk => by
    unfold lkw at h
    split at h
    · subst h; rename_i e; exact e.symm
    · exact lkw_is h hk
theorem lkw_iff {w : Int64} {k : Nat} (hk : k < 24) : w = lN (KEY k) ↔ lkw w 24 = k := ⟨fun h => lkw_of hk h 24 (Nat.le_refl _) hk, fun h => lkw_is h hk⟩
def wv (B : Nat → Nat) (pl : Nat) : Nat → Nat
  | 0 => 0
  | j + 1 => wv B pl j * 32 + (B (pl + j) - 96)
theorem wv_s {B : Nat → Nat} {pl j : Nat} : wv B pl (j + 1) = wv B pl j * 32 + (B (pl + j) - 96) := rfl
theorem wv_lt {B : Nat → Nat} {pl : Nat} : ∀ j, (∀ i, i < j → isLt (B (pl + i)) = true) → wv B pl j < 32 ^ j
  | 0, _ => Nat.zero_lt_one
  | j + 1, h => by
    have h1 := wv_lt j (fun i hi => h i (by omega))
    have h2 := isLt_iff.mp (h j (by omega))
    unfold wv
    rw [Nat.pow_succ]
    omega
def dv (B : Nat → Nat) (pl : Nat) : Nat → Nat
  | 0 => 0
  | j + 1 => dv B pl j * 10 + (B (pl + j) - 48)
theorem dv_s {B : Nat → Nat} {pl j : Nat} : dv B pl (j + 1) = dv B pl j * 10 + (B (pl + j) - 48) := rfl
theorem dv_lt {B : Nat → Nat} {pl : Nat} : ∀ j, (∀ i, i < j → isDg (B (pl + i)) = true) → dv B pl j < 10 ^ j
  | 0, _ => Nat.zero_lt_one
  | j + 1, h => by
    have h1 := dv_lt j (fun i hi => h i (by omega))
    have h2 := isDg_iff.mp (h j (by omega))
    unfold dv
    rw [Nat.pow_succ]
    omega
/-- a TOKEN, as both sides hold it: its place, the place behind it, its kind, its word among those that are no names; word and number of the class, number, letters and word of the reference -/
def TOK (B : Nat → Nat) (E pl nx kd kk : Nat) (wd : Int64) (nu nu2 le : Int32) (wd2 : Int64) : Prop :=
  (pl ≤ nx ∧ nx ≤ E ∧ kd ≤ 4 ∧ kk ≤ 24 ∧ (kd = 0 → pl = E) ∧ (kd ≠ 0 → pl < nx)) ∧
  (kd = 1 → wd2 = wd ∧ le = nI (nx - pl) ∧ (∀ k, k < 24 → (wd = lN (KEY k) ↔ kk = k)) ∧ ((nx - pl ≤ 8 ∧ ∃ W, W < 2 ^ 40 ∧ wd = lN W) ∨ (8 < nx - pl ∧ wd = (-1 : Int64)))) ∧
  (kd ≠ 1 → kk = 24) ∧ (kd = 2 → nu2 = nu ∧ ∃ v, v < 10000 ∧ nu = nI v) ∧ (kd = 3 → nu2 = nI (B pl) ∧ B pl < 256)
section TO
variable {B : Nat → Nat} {E fu : Nat} {tp tq : Nat → Int32} {K : Nat → Int64}
theorem tk_skip (h : TX B E tp tq) : ∀ k a, a + k = E → ∃ pl, a ≤ pl ∧ pl ≤ E ∧
    (∀ n (x1 x2 : Int32) (x3 : Int64) (x4 x5 : Int32), k < n → f_X8_forward_0 fu (nI E) K tp n (nI a) x1 x2 x3 x4 x5 = f_X8_forward_52 fu (nI E) K tp (nI pl) x1 x2 x3 x4 x5) ∧
    (∀ n (x1 x2 x3 x4 : Int32) (x5 : Int64), k < n → f_X12_advance_8 fu (nI E) tq n x1 (nI a) x2 x3 x4 x5 = f_X12_advance_58 fu (nI E) tq x1 (nI pl) x2 x3 x4 x5)
  | 0, a, ha => by
    have hE := h.1
    obtain rfl : a = E := by omega
    refine ⟨a, Nat.le_refl _, Nat.le_refl _, fun n x1 x2 x3 x4 x5 hn => ?_, fun n x1 x2 x3 x4 x5 hn => ?_⟩
    · obtain ⟨n, rfl⟩ : ∃ q, n = q + 1 := ⟨n - 1, by omega⟩
      simp (disch := omega) only [f_X8_forward_0, nI_le', if_pos]
    · obtain ⟨n, rfl⟩ : ∃ q, n = q + 1 := ⟨n - 1, by omega⟩
      simp (disch := omega) only [f_X12_advance_8, nI_le', if_pos]
  | k + 1, a, ha => by
    have hE := h.1
    by_cases hb : B a = 10 ∨ B a = 32
    · obtain ⟨pl, h1, h2, h3, h4⟩ := tk_skip h k (a + 1) (by omega)
      refine ⟨pl, by omega, h2, fun n x1 x2 x3 x4 x5 hn => ?_, fun n x1 x2 x3 x4 x5 hn => ?_⟩
      · obtain ⟨n, rfl⟩ : ∃ q, n = q + 1 := ⟨n - 1, by omega⟩
        rw [← h3 n x1 x2 x3 x4 x5 (by omega)]
        simp (disch := omega) only [f_X8_forward_0, nI_le', if_neg, gi_n, nI_cl, t_10 h, t_32 h, lt_, nI_add]
        rcases hb with hb | hb
        · rw [if_pos hb]
        · rw [if_neg (by omega), if_pos hb]
      · obtain ⟨n, rfl⟩ : ∃ q, n = q + 1 := ⟨n - 1, by omega⟩
        rw [← h4 n x1 x2 x3 x4 x5 (by omega)]
        have hB := (h.2 a (by omega)).1
        simp (disch := omega) only [f_X12_advance_8, nI_le', if_neg, m_look h, bd_s, nI_eq', lt_, nI_add]
        rcases hb with hb | hb
        · rw [if_pos hb]
        · rw [if_neg (by omega), if_pos hb]
    · refine ⟨a, Nat.le_refl _, by omega, fun n x1 x2 x3 x4 x5 hn => ?_, fun n x1 x2 x3 x4 x5 hn => ?_⟩
      · obtain ⟨n, rfl⟩ : ∃ q, n = q + 1 := ⟨n - 1, by omega⟩
        simp (disch := omega) only [f_X8_forward_0, nI_le', if_neg, gi_n, nI_cl, t_10 h, t_32 h]
      · obtain ⟨n, rfl⟩ : ∃ q, n = q + 1 := ⟨n - 1, by omega⟩
        have hB := (h.2 a (by omega)).1
        simp (disch := omega) only [f_X12_advance_8, nI_le', if_neg, m_look h, bd_s, nI_eq']
theorem tk_word (h : TX B E tp tq) {pl : Nat} : ∀ k j, pl + j + k = E → (∀ i, i < j → isLt (B (pl + i)) = true) → ∃ L, j ≤ L ∧ pl + L ≤ E ∧ (∀ i, i < L → isLt (B (pl + i)) = true) ∧ (pl + j < E → isLt (B (pl + j)) = true → j < L) ∧
    (∀ n (x1 : Int32) (x2 : Int64) (x3 : Int32), k < n → f_X8_takeWord_2 fu (nI E) (nI pl) K tp n (lN (wv B pl j)) (nI (pl + j)) x1 x2 x3 = f_X8_takeWord_55 fu (nI E) (nI pl) K tp (lN (wv B pl L)) (nI (pl + L)) x1 x2 x3) ∧
    (∀ n (x1 x2 x3 : Int32), k < n → f_X12_advance_109 fu (nI E) tq n x1 (nI pl) (nI (pl + j)) x2 x3 (if j ≤ 8 then lN (wv B pl j) else (-1 : Int64)) = some (x1, nI pl, nI (pl + L), x2, nI L, if L ≤ 8 then lN (wv B pl L) else (-1 : Int64)))
  | 0, j, hj, hl => by
    have hE := h.1
    refine ⟨j, Nat.le_refl _, by omega, hl, fun h => absurd h (by omega), fun n x1 x2 x3 hn => ?_, fun n x1 x2 x3 hn => ?_⟩
    · obtain ⟨n, rfl⟩ : ∃ q, n = q + 1 := ⟨n - 1, by omega⟩
      simp (disch := omega) only [f_X8_takeWord_2, nI_le', if_pos]
    · obtain ⟨n, rfl⟩ : ∃ q, n = q + 1 := ⟨n - 1, by omega⟩
      have hz : f_X12_look2 (nI (pl + j)) (nI E) tq = some (nI 0) := by rw [show pl + j = E by omega]; exact m_look_end h
      simp (disch := omega) only [f_X12_advance_109, hz, bd_s, m_letter 0 (by omega), show isLt 0 = false from rfl, bI_0, if_true, lt_, pk_sub, Nat.add_sub_cancel_left]
  | k + 1, j, hj, hl => by
    have hE := h.1
    have hB := (h.2 (pl + j) (by omega)).1
    have htp := (h.2 (pl + j) (by omega)).2.1
    cases hc : isLt (B (pl + j))
    · refine ⟨j, Nat.le_refl _, by omega, hl, fun _ h => absurd h (by decide), fun n x1 x2 x3 hn => ?_, fun n x1 x2 x3 hn => ?_⟩
      · obtain ⟨n, rfl⟩ : ∃ q, n = q + 1 := ⟨n - 1, by omega⟩
        simp (disch := omega) only [f_X8_takeWord_2, nI_le', if_neg, gi_n, nI_cl, t_letter h, hc, bd_s, bI_0, if_true]
      · obtain ⟨n, rfl⟩ : ∃ q, n = q + 1 := ⟨n - 1, by omega⟩
        simp (disch := omega) only [f_X12_advance_109, m_look h, bd_s, m_letter _ hB, hc, bI_0, if_true, lt_, pk_sub, Nat.add_sub_cancel_left]
    · obtain ⟨L, h1, h2, h3, -, h4, h5⟩ := tk_word h (pl := pl) k (j + 1) (by omega) (fun i hi => by
        by_cases e : i = j
        · subst e; exact hc
        · exact hl i (by omega))
      refine ⟨L, by omega, h2, h3, fun _ _ => by omega, fun n x1 x2 x3 hn => ?_, fun n x1 x2 x3 hn => ?_⟩
      · obtain ⟨n, rfl⟩ : ∃ q, n = q + 1 := ⟨n - 1, by omega⟩
        rw [← h4 n x1 x2 x3 (by omega)]
        rw [wv_s]
        simp (disch := omega) only [f_X8_takeWord_2, nI_le', if_neg, gi_n, nI_cl, c_letter _ hB, hc, bd_s, bI_0, Bool.true_eq_false, if_false, f_X8_withLetter, htp, c_let96 _ hB hc, lN_mul, lN_add, lt_, nI_add, Nat.add_assoc]
      · obtain ⟨n, rfl⟩ : ∃ q, n = q + 1 := ⟨n - 1, by omega⟩
        rw [← h5 n x1 x2 x3 (by omega)]
        have hb := isLt_iff.mp hc
        simp (disch := omega) only [f_X12_advance_109, m_look h, bd_s, m_letter _ hB, hc, bI_0, Bool.true_eq_false, if_false, lt_, pk_sub, Nat.add_sub_cancel_left, nI_le', nI_add, Nat.add_assoc]
        by_cases e : 8 ≤ j
        · rw [if_pos e, if_neg (show ¬ j + 1 ≤ 8 by omega)]
        · rw [if_neg e, if_pos (show j ≤ 8 by omega), if_pos (show j + 1 ≤ 8 by omega), nI_l (by omega), lN_mul, lN_add, lN_sub (by omega)]
          rw [wv_s, Nat.add_sub_assoc (by omega)]
theorem tk_num (h : TX B E tp tq) {pl : Nat} : ∀ k j, pl + j + k = E → (∀ i, i < j → isDg (B (pl + i)) = true) → ∃ L, j ≤ L ∧ pl + L ≤ E ∧ (∀ i, i < L → isDg (B (pl + i)) = true) ∧ (pl + j < E → isDg (B (pl + j)) = true → j < L) ∧
    (∀ n (x1 : Int32), k < n → f_X8_takeNumber_5 fu (nI E) (nI pl) tp n (nI (pl + j)) x1 (nI (dv B pl j)) = some (nI (pl + L), nI (if L ≤ 4 then 2 else 4), nI (dv B pl L))) ∧
    (∀ n (x1 x2 x3 : Int32) (x4 : Int64), k < n → (j ≤ 4 → x2 = nI (dv B pl j)) → ∃ x5, f_X12_advance_210 fu (nI E) tq n x1 (nI pl) (nI (pl + j)) x2 x3 x4 = some (nI (if L ≤ 4 then 2 else 4), nI pl, nI (pl + L), x5, x3, x4) ∧ (L ≤ 4 → x5 = nI (dv B pl L)))
  | 0, j, hj, hl => by
    have hE := h.1
    refine ⟨j, Nat.le_refl _, by omega, hl, fun h => absurd h (by omega), fun n x1 hn => ?_, fun n x1 x2 x3 x4 hn hx => ⟨x2, ?_, hx⟩⟩
    · obtain ⟨n, rfl⟩ : ∃ q, n = q + 1 := ⟨n - 1, by omega⟩
      simp (disch := omega) only [f_X8_takeNumber_5, nI_le', if_pos]
      unfold f_X8_takeNumber_68
      simp (disch := omega) only [pk_sub, Nat.add_sub_cancel_left, nI_le']
      split <;> rfl
    · obtain ⟨n, rfl⟩ : ∃ q, n = q + 1 := ⟨n - 1, by omega⟩
      have hz : f_X12_look2 (nI (pl + j)) (nI E) tq = some (nI 0) := by rw [show pl + j = E by omega]; exact m_look_end h
      simp (disch := omega) only [f_X12_advance_210, hz, bd_s, m_digit 0 (by omega), show isDg 0 = false from rfl, bI_0, if_true, pk_sub, Nat.add_sub_cancel_left, nI_le']
      split <;> rfl
  | k + 1, j, hj, hl => by
    have hE := h.1
    have hB := (h.2 (pl + j) (by omega)).1
    have htp := (h.2 (pl + j) (by omega)).2.1
    cases hc : isDg (B (pl + j))
    · refine ⟨j, Nat.le_refl _, by omega, hl, fun _ h => absurd h (by decide), fun n x1 hn => ?_, fun n x1 x2 x3 x4 hn hx => ⟨x2, ?_, hx⟩⟩
      · obtain ⟨n, rfl⟩ : ∃ q, n = q + 1 := ⟨n - 1, by omega⟩
        simp (disch := omega) only [f_X8_takeNumber_5, nI_le', if_neg, gi_n, nI_cl, t_digit h, hc, bd_s, bI_0, if_true]
        unfold f_X8_takeNumber_68
        simp (disch := omega) only [pk_sub, Nat.add_sub_cancel_left, nI_le']
        split <;> rfl
      · obtain ⟨n, rfl⟩ : ∃ q, n = q + 1 := ⟨n - 1, by omega⟩
        simp (disch := omega) only [f_X12_advance_210, m_look h, bd_s, m_digit _ hB, hc, bI_0, if_true, pk_sub, Nat.add_sub_cancel_left, nI_le']
        split <;> rfl
    · obtain ⟨L, h1, h2, h3, -, h4, h5⟩ := tk_num h (pl := pl) k (j + 1) (by omega) (fun i hi => by
        by_cases e : i = j
        · subst e; exact hc
        · exact hl i (by omega))
      refine ⟨L, by omega, h2, h3, fun _ _ => by omega, fun n x1 hn => ?_, fun n x1 x2 x3 x4 hn hx => ?_⟩
      · obtain ⟨n, rfl⟩ : ∃ q, n = q + 1 := ⟨n - 1, by omega⟩
        rw [← h4 n x1 (by omega)]
        rw [dv_s]
        simp (disch := omega) only [f_X8_takeNumber_5, nI_le', if_neg, gi_n, nI_cl, c_digit _ hB, hc, bd_s, bI_0, Bool.true_eq_false, if_false, htp, c_dig48 _ hB hc, pk_mul, lt_, nI_add, Nat.add_assoc]
      · obtain ⟨n, rfl⟩ : ∃ q, n = q + 1 := ⟨n - 1, by omega⟩
        have hb := isDg_iff.mp hc
        by_cases e : 4 ≤ j
        · obtain ⟨x5, h6, h7⟩ := h5 n x1 x2 x3 x4 (by omega) (fun h => by omega)
          refine ⟨x5, ?_, h7⟩
          rw [← h6]
          simp (disch := omega) only [f_X12_advance_210, m_look h, bd_s, m_digit _ hB, hc, bI_0, Bool.true_eq_false, if_false, lt_, pk_sub, Nat.add_sub_cancel_left, nI_le', nI_add, Nat.add_assoc, if_pos]
        · obtain ⟨x5, h6, h7⟩ := h5 n x1 (nI (dv B pl (j + 1))) x3 x4 (by omega) (fun h => rfl)
          refine ⟨x5, ?_, h7⟩
          rw [← h6, hx (by omega)]
          have e2 : 10 * dv B pl j + B (pl + j) - 48 = dv B pl (j + 1) := by rw [dv_s]; omega
          simp (disch := omega) only [f_X12_advance_210, m_look h, bd_s, m_digit _ hB, hc, bI_0, Bool.true_eq_false, if_false, lt_, pk_sub, Nat.add_sub_cancel_left, nI_le', nI_add, Nat.add_assoc, if_neg, pk_mul, e2]
theorem tk_key (hK : ∀ k, k < 24 → K k = lN (KEY k)) {x1 x2 x3 : Int32} {w : Int64} {x4 : Int32} (hfu : 100 < fu) : f_X8_takeWord_87 fu x1 x2 K tp fu (nI 0) x3 x4 w (-1 : Int32) = some (x3, x4, w, kI (lkw w 24)) := by
  refine loop_p (fun n j => f_X8_takeWord_87 fu x1 x2 K tp n (nI j) x3 x4 w (kI (lkw w j))) 24 _ ?_ ?_ 24 0 fu (by omega) (by omega)
  · intro n j hj
    simp (disch := omega) only [f_X8_takeWord_87, nI_le', if_neg, gi_n, nI_cl, hK j hj, lg_eq0, lt_, nI_add, lkw]
    by_cases e : lN (KEY j) = w
    · rw [if_pos e, if_pos e, kI_lt hj]
    · rw [if_neg e, if_neg e]
  · intro n
    simp (disch := omega) only [f_X8_takeWord_87, nI_le', if_pos]
end TO
