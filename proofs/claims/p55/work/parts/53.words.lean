/-! WORDS -/
theorem lN_of64 {x : Int64} (h : 0 ≤ x.toInt) : x = lN x.toInt.toNat := by
  have hx := Int64.toInt_lt x
  refine Int64.toInt_inj.mp ?_
  rw [pk_lT (by omega)]
  omega
theorem lg1_lt {x : Int64} {a : Nat} (ha : a < 2147483648) : (lg_cmp x (lN a) < 0) = (x.toInt < a) := by
  have hl : (lN a).toInt = a := lN_toInt ha
  unfold lg_cmp
  have h1 : x > lN a ↔ (a : Int) < x.toInt := by show lN a < x ↔ _; rw [Int64.lt_iff_toInt_lt, hl]
  have h2 : x = lN a ↔ x.toInt = a := by rw [← Int64.toInt_inj, hl]
  by_cases e : (a : Int) < x.toInt
  · rw [if_pos (h1.mpr e)]; exact propext ⟨fun h => absurd h (by decide), fun h => by omega⟩
  · rw [if_neg (fun h => e (h1.mp h))]
    by_cases e2 : x.toInt = a
    · rw [if_pos (h2.mpr e2)]; exact propext ⟨fun h => absurd h (by decide), fun h => by omega⟩
    · rw [if_neg (fun h => e2 (h2.mp h))]; exact propext ⟨fun _ => by omega, fun _ => by decide⟩
theorem lg1_gt {x : Int64} {a : Nat} (ha : a < 2147483648) : (0 < lg_cmp x (lN a)) = ((a : Int) < x.toInt) := by
  have hl : (lN a).toInt = a := lN_toInt ha
  unfold lg_cmp
  have h1 : x > lN a ↔ (a : Int) < x.toInt := by show lN a < x ↔ _; rw [Int64.lt_iff_toInt_lt, hl]
  by_cases e : (a : Int) < x.toInt
  · rw [if_pos (h1.mpr e)]; exact propext ⟨fun _ => e, fun _ => by decide⟩
  · rw [if_neg (fun h => e (h1.mp h))]
    split
    · exact propext ⟨fun h => absurd h (by decide), fun h => absurd h e⟩
    · exact propext ⟨fun h => absurd h (by decide), fun h => absurd h e⟩
theorem lg1_le {x : Int64} {a : Nat} (ha : a < 2147483648) : (lg_cmp x (lN a) ≤ 0) = (x.toInt ≤ a) := by
  have h := lg1_gt (x := x) ha
  refine propext ⟨fun q => ?_, fun q => ?_⟩
  · rcases Int.lt_or_le (a : Int) x.toInt with g | g
    · rw [← h] at g; exact absurd q (Int32.not_le.mpr g)
    · exact g
  · rcases Int32.lt_or_le 0 (lg_cmp x (lN a)) with g | g
    · rw [h] at g; omega
    · exact g
theorem lgNN {a b : Nat} (ha : a < 9223372036854775808) (hb : b < 9223372036854775808) : (lg_cmp (lN a) (lN b) = 0) = (a = b) := by
  unfold lg_cmp
  have h1 : lN a > lN b ↔ b < a := pk_lLT hb ha
  have h2 : lN a = lN b ↔ a = b := pk_lEQ ha hb
  by_cases e : b < a
  · rw [if_pos (h1.mpr e)]; exact propext ⟨fun h => absurd h (by decide), fun h => by omega⟩
  · rw [if_neg (fun h => e (h1.mp h))]
    by_cases e2 : a = b
    · rw [if_pos (h2.mpr e2)]; exact propext ⟨fun _ => e2, fun _ => rfl⟩
    · rw [if_neg (fun h => e2 (h2.mp h))]; exact propext ⟨fun h => absurd h (by decide), fun h => absurd h e2⟩
theorem m_inL {x : Int64} {a b : Nat} (ha : a < 2147483648) (hb : b < 2147483648) : f_X12_isIn x (lN a) (lN b) = some (bI (decide ((a : Int) ≤ x.toInt ∧ x.toInt ≤ b))) := by
  unfold f_X12_isIn
  simp only [lg1_lt ha, lg1_gt hb]
  by_cases e : x.toInt < a
  · rw [if_pos e, decide_eq_false (by omega)]; rfl
  · rw [if_neg e]
    by_cases e2 : (b : Int) < x.toInt
    · rw [if_pos e2, decide_eq_false (by omega)]; rfl
    · rw [if_neg e2, decide_eq_true (by omega)]; rfl
/-- a number that is a letter -/
def okL (f : Nat → Int64) (j : Nat) : Prop := 1 ≤ (f j).toInt ∧ (f j).toInt ≤ 26
def ltr (f : Nat → Int64) (j : Nat) : Nat := (f j).toInt.toNat
theorem ltr_l {f : Nat → Int64} {j : Nat} (h : okL f j) : f j = lN (ltr f j) ∧ ltr f j ≤ 26 := by
  obtain ⟨h1, h2⟩ := h
  exact ⟨lN_of64 (by omega), by unfold ltr; omega⟩
theorem ltr_i {f : Nat → Int64} {j : Nat} (h : okL f j) : (f j).toInt32 = nI (ltr f j) := by
  rw [(ltr_l h).1, lN_i]
theorem c_take {f : Nat → Int64} {n2 fu m : Nat} (h60 : m ≤ 60) (h2 : m ≤ n2) (hn2 : n2 < 100) (hfu : 100 < fu) : ∀ p2 : Nat → Int32, ∃ (b : Bool) (q : Nat → Int32), f_X10_takeLetters fu 60 n2 (nI m) f p2 = some (bI b, q) ∧ (b = true ↔ ∀ j, j < m → okL f j) ∧ (b = true → ∀ j, j < m → q j = nI (ltr f j)) := by
  unfold f_X10_takeLetters
  have G : ∀ k j n (p2 : Nat → Int32), j + k = m → k < n → ∃ (b : Bool) (q : Nat → Int32), f_X10_takeLetters_2 fu 60 n2 f n (nI m) (nI j) p2 = some (bI b, q) ∧ (b = true ↔ ∀ i, j ≤ i → i < m → okL f i) ∧ (b = true → (∀ i, j ≤ i → i < m → q i = nI (ltr f i)) ∧ ∀ i, i < j → q i = p2 i) := by
    intro k
    induction k with
    | zero =>
      intro j n p2 hj hn
      obtain ⟨n, rfl⟩ : ∃ q, n = q + 1 := ⟨n - 1, by omega⟩
      simp (disch := omega) only [f_X10_takeLetters_2, nI_le', if_pos]
      exact ⟨true, p2, rfl, ⟨fun _ i h1 h2 => by omega, fun _ => rfl⟩, fun _ => ⟨fun i h1 h2 => by omega, fun _ _ => rfl⟩⟩
    | succ k ih =>
      intro j n p2 hj hn
      obtain ⟨n, rfl⟩ : ∃ q, n = q + 1 := ⟨n - 1, by omega⟩
      simp (disch := omega) only [f_X10_takeLetters_2, nI_le', if_neg, gi_n, nI_cl, lg1_lt, lg1_le, lt_, nI_add]
      by_cases a : (f j).toInt < ((1 : Nat) : Int)
      · rw [if_pos a]
        exact ⟨false, _, rfl, ⟨fun h => (by cases h), fun h => by have := (h j (Nat.le_refl _) (by omega)).1; omega⟩, fun h => (by cases h)⟩
      · rw [if_neg a]
        by_cases b : (f j).toInt ≤ ((26 : Nat) : Int)
        · rw [if_pos b]
          have hok : okL f j := ⟨by omega, by omega⟩
          obtain ⟨bb, q, e1, e2, e3⟩ := ih (j + 1) n (upd p2 j (f j).toInt32) (by omega) (by omega)
          refine ⟨bb, q, e1, e2.trans ⟨fun h i h1 h2 => ?_, fun h i h1 h2 => h i (by omega) h2⟩, fun hb => ⟨fun i h1 h2 => ?_, fun i h1 => ?_⟩⟩
          · by_cases e : i = j
            · subst e; exact hok
            · exact h i (by omega) h2
          · by_cases e : i = j
            · subst e
              rw [(e3 hb).2 i (by omega), upd_s, ltr_i hok]
            · exact (e3 hb).1 i (by omega) h2
          · rw [(e3 hb).2 i (by omega), upd_n (by omega)]
        · rw [if_neg b]
          exact ⟨false, _, rfl, ⟨fun h => (by cases h), fun h => by have := (h j (Nat.le_refl _) (by omega)).2; omega⟩, fun h => (by cases h)⟩
  intro p2
  obtain ⟨b, q, e1, e2, e3⟩ := G m 0 fu p2 (by omega) (by omega)
  exact ⟨b, q, e1, e2.trans ⟨fun h j hj => h j (Nat.zero_le _) hj, fun h j _ hj => h j hj⟩, fun hb j hj => (e3 hb).1 j (Nat.zero_le _) hj⟩
theorem m_numberOf {nu : Nat → Int64} {t k : Nat} (ht : t < 4) (hk : k < 60) : f_X12_numberOf (nI t) (nI k) nu = some (nu (60 * t + k)) := by
  unfold f_X12_numberOf
  simp (disch := omega) only [pk_mul, nI_add, gi_n, nI_cl]
/-- the letters of a tray's row, from j on: both loops -/
theorem m_lett {nu : Nat → Int64} {tm : Nat → Int32} {fu t u n m : Nat} (ht : t < 4) (hu : u < 4) (hn : n ≤ 60) (hm : m ≤ 60) (hfu : 100 < fu) :
    ((∀ j, j < n → okL (fun k => nu (60 * t + k)) j) ∧ (∀ j, j < m → okL (fun k => nu (60 * u + k)) j) → f_X12_whyNoWord_91 fu nu tm fu (nI t) (nI n) (nI u) (nI m) (nI 0) = some (nI 0)) ∧
    (¬ ((∀ j, j < n → okL (fun k => nu (60 * t + k)) j) ∧ (∀ j, j < m → okL (fun k => nu (60 * u + k)) j)) → f_X12_whyNoWord_91 fu nu tm fu (nI t) (nI n) (nI u) (nI m) (nI 0) = some (nI 5)) := by
  have B : ∀ k j q, j + k = m → k < q → ((∀ i, j ≤ i → i < m → okL (fun k => nu (60 * u + k)) i) → f_X12_whyNoWord_125 fu nu tm q (nI u) (nI m) (nI j) = some (nI 0)) ∧ (¬ (∀ i, j ≤ i → i < m → okL (fun k => nu (60 * u + k)) i) → f_X12_whyNoWord_125 fu nu tm q (nI u) (nI m) (nI j) = some (nI 5)) := by
    intro k
    induction k with
    | zero =>
      intro j q hj hq
      obtain ⟨q, rfl⟩ : ∃ z, q = z + 1 := ⟨q - 1, by omega⟩
      simp (disch := omega) only [f_X12_whyNoWord_125, nI_le', if_pos]
      exact ⟨fun _ => trivial, fun h => absurd (fun i h1 h2 => by omega) h⟩
    | succ k ih =>
      intro j q hj hq
      obtain ⟨q, rfl⟩ : ∃ z, q = z + 1 := ⟨q - 1, by omega⟩
      obtain ⟨i1, i2⟩ := ih (j + 1) q (by omega) (by omega)
      simp (disch := omega) only [f_X12_whyNoWord_125, nI_le', if_neg, m_numberOf hu, bd_s, m_inL, bI_0, lt_, nI_add, decide_eq_false_iff_not]
      by_cases a : ((1 : Nat) : Int) ≤ (nu (60 * u + j)).toInt ∧ (nu (60 * u + j)).toInt ≤ ((26 : Nat) : Int)
      · rw [if_neg (fun h => h a)]
        have hok : okL (fun k => nu (60 * u + k)) j := ⟨by have := a.1; show 1 ≤ (nu (60 * u + j)).toInt; omega, by have := a.2; show (nu (60 * u + j)).toInt ≤ 26; omega⟩
        refine ⟨fun h => i1 (fun i h1 h2 => h i (by omega) h2), fun h => i2 (fun g => h (fun i h1 h2 => ?_))⟩
        by_cases e : i = j
        · subst e; exact hok
        · exact g i (by omega) h2
      · rw [if_pos a]
        refine ⟨fun h => ?_, fun _ => rfl⟩
        have hh := h j (Nat.le_refl _) (by omega)
        exact absurd ⟨by have := hh.1; show ((1 : Nat) : Int) ≤ (nu (60 * u + j)).toInt; exact this, by have := hh.2; show (nu (60 * u + j)).toInt ≤ ((26 : Nat) : Int); exact this⟩ a
  have A : ∀ k j q, j + k = n → k < q → ((∀ i, j ≤ i → i < n → okL (fun k => nu (60 * t + k)) i) ∧ (∀ j, j < m → okL (fun k => nu (60 * u + k)) j) → f_X12_whyNoWord_91 fu nu tm q (nI t) (nI n) (nI u) (nI m) (nI j) = some (nI 0)) ∧ (¬ ((∀ i, j ≤ i → i < n → okL (fun k => nu (60 * t + k)) i) ∧ (∀ j, j < m → okL (fun k => nu (60 * u + k)) j)) → f_X12_whyNoWord_91 fu nu tm q (nI t) (nI n) (nI u) (nI m) (nI j) = some (nI 5)) := by
    intro k
    induction k with
    | zero =>
      intro j q hj hq
      obtain ⟨q, rfl⟩ : ∃ z, q = z + 1 := ⟨q - 1, by omega⟩
      obtain ⟨b1, b2⟩ := B m 0 fu (by omega) (by omega)
      simp (disch := omega) only [f_X12_whyNoWord_91, nI_le', if_pos]
      exact ⟨fun h => b1 (fun i _ h2 => h.2 i h2), fun h => b2 (fun g => h ⟨fun i h1 h2 => by omega, fun i h2 => g i (Nat.zero_le _) h2⟩)⟩
    | succ k ih =>
      intro j q hj hq
      obtain ⟨q, rfl⟩ : ∃ z, q = z + 1 := ⟨q - 1, by omega⟩
      obtain ⟨i1, i2⟩ := ih (j + 1) q (by omega) (by omega)
      simp (disch := omega) only [f_X12_whyNoWord_91, nI_le', if_neg, m_numberOf ht, bd_s, m_inL, bI_0, lt_, nI_add, decide_eq_false_iff_not]
      by_cases a : ((1 : Nat) : Int) ≤ (nu (60 * t + j)).toInt ∧ (nu (60 * t + j)).toInt ≤ ((26 : Nat) : Int)
      · rw [if_neg (fun h => h a)]
        have hok : okL (fun k => nu (60 * t + k)) j := ⟨by have := a.1; show 1 ≤ (nu (60 * t + j)).toInt; omega, by have := a.2; show (nu (60 * t + j)).toInt ≤ 26; omega⟩
        refine ⟨fun h => i1 ⟨fun i h1 h2 => h.1 i (by omega) h2, h.2⟩, fun h => i2 (fun g => h ⟨fun i h1 h2 => ?_, g.2⟩)⟩
        by_cases e : i = j
        · subst e; exact hok
        · exact g.1 i (by omega) h2
      · rw [if_pos a]
        refine ⟨fun h => ?_, fun _ => rfl⟩
        have hh := h.1 j (Nat.le_refl _) (by omega)
        exact absurd ⟨by have := hh.1; show ((1 : Nat) : Int) ≤ (nu (60 * t + j)).toInt; exact this, by have := hh.2; show (nu (60 * t + j)).toInt ≤ ((26 : Nat) : Int); exact this⟩ a
  obtain ⟨a1, a2⟩ := A n 0 fu (by omega) (by omega)
  exact ⟨fun h => a1 ⟨fun i _ h2 => h.1 i h2, h.2⟩, fun h => a2 (fun g => h ⟨fun i h2 => g.1 i (Nat.zero_le _) h2, g.2⟩)⟩
