/-! FITS -/
def smF (q : Nat → Bool) (l : Nat → Nat) : Nat → Nat → Nat
  | 0, _ => 0
  | k + 1, i => (if q i = true then l i else 0) + smF q l k (i + 1)
theorem smF_congr {q q' : Nat → Bool} {l : Nat → Nat} : ∀ {k i : Nat}, (∀ s, i ≤ s → s < i + k → q s = q' s) → smF q l k i = smF q' l k i
  | 0, _, _ => rfl
  | k + 1, i, h => by
    unfold smF
    rw [h i (Nat.le_refl _) (by omega), smF_congr (k := k) (i := i + 1) (fun s a b => h s (by omega) (by omega))]
theorem smF_le {q : Nat → Bool} {l : Nat → Nat} {b : Nat} : ∀ {k i : Nat}, (∀ s, i ≤ s → s < i + k → l s ≤ b) → smF q l k i ≤ b * k
  | 0, _, _ => Nat.zero_le _
  | k + 1, i, h => by
    have h1 := smF_le (q := q) (k := k) (i := i + 1) (fun s a b => h s (by omega) (by omega))
    have h2 := h i (Nat.le_refl _) (by omega)
    unfold smF
    rw [Nat.mul_succ]
    split <;> omega
/-- the secrets from i on, k of them, find room -/
def pkB (P m : Nat) (l : Nat → Nat) : Nat → Nat → (Nat → Nat) → Bool
  | 0, _, _ => true
  | k + 1, i, ρ => (fnd (fun p => P.testBit p && (decide (l i ≤ ρ p) && pkB P m l k (i + 1) (up ρ p (ρ p - l i)))) m 0).isSome
def As (P : Nat) (l : Nat → Nat) (k i : Nat) (ρ : Nat → Nat) : Prop := ∃ f : Nat → Nat, (∀ s, i ≤ s → s < i + k → P.testBit (f s) = true) ∧ ∀ p, P.testBit p = true → smF (fun s => decide (f s = p)) l k i ≤ ρ p
theorem pkB_as {P m : Nat} {l : Nat → Nat} (hP : P < 2 ^ m) : ∀ {k i : Nat} {ρ : Nat → Nat}, pkB P m l k i ρ = true ↔ As P l k i ρ
  | 0, i, ρ => ⟨fun _ => ⟨fun _ => 0, fun s a b => absurd b (by omega), fun p _ => Nat.zero_le _⟩, fun _ => rfl⟩
  | k + 1, i, ρ => by
    constructor
    · intro h
      unfold pkB at h
      cases hf : fnd (fun p => P.testBit p && (decide (l i ≤ ρ p) && pkB P m l k (i + 1) (up ρ p (ρ p - l i)))) m 0 with
      | none => rw [hf] at h; cases h
      | some p =>
        obtain ⟨-, hp, hq, -⟩ := fnd_some hf
        simp only [Bool.and_eq_true, decide_eq_true_eq] at hq
        obtain ⟨h1, h2, h3⟩ := hq
        obtain ⟨f, hf1, hf2⟩ := (pkB_as hP).1 h3
        refine ⟨up f i p, fun s a b => ?_, fun p' hp' => ?_⟩
        · by_cases e : s = i
          · subst e; rw [up_s]; exact h1
          · rw [up_n _ _ e]; exact hf1 s (by omega) (by omega)
        · have e1 : smF (fun s => decide (up f i p s = p')) l k (i + 1) = smF (fun s => decide (f s = p')) l k (i + 1) := smF_congr (fun s a b => by rw [up_n _ _ (show s ≠ i by omega)])
          have e2 : smF (fun s => decide (up f i p s = p')) l (k + 1) i = (if decide (p = p') = true then l i else 0) + smF (fun s => decide (f s = p')) l k (i + 1) := by
            show (if decide (up f i p i = p') = true then l i else 0) + smF (fun s => decide (up f i p s = p')) l k (i + 1) = _
            rw [up_s, e1]
          have h4 := hf2 p' hp'
          rw [e2]
          by_cases e : p = p'
          · subst e
            rw [up_s] at h4
            rw [if_pos (decide_eq_true rfl)]
            omega
          · rw [up_n _ _ (fun h => e h.symm)] at h4
            rw [if_neg (by simp [e])]
            omega
    · rintro ⟨f, hf1, hf2⟩
      have hp := hf1 i (Nat.le_refl _) (by omega)
      have hpm : f i < m := by
        rcases Nat.lt_or_ge (f i) m with h | h
        · exact h
        · rw [bit_of_lt hP h] at hp; cases hp
      have hs : (if decide (f i = f i) = true then l i else 0) + smF (fun s => decide (f s = f i)) l k (i + 1) ≤ ρ (f i) := hf2 (f i) hp
      rw [if_pos (decide_eq_true rfl)] at hs
      have hr : As P l k (i + 1) (up ρ (f i) (ρ (f i) - l i)) := by
        refine ⟨f, fun s a b => hf1 s (by omega) (by omega), fun p' hp' => ?_⟩
        by_cases e : p' = f i
        · subst e; rw [up_s]; omega
        · rw [up_n _ _ e]
          have h5 : (if decide (f i = p') = true then l i else 0) + smF (fun s => decide (f s = p')) l k (i + 1) ≤ ρ p' := hf2 p' hp'
          omega
      unfold pkB
      cases hf : fnd (fun p => P.testBit p && (decide (l i ≤ ρ p) && pkB P m l k (i + 1) (up ρ p (ρ p - l i)))) m 0 with
      | some p => rfl
      | none =>
        have := fnd_none hf (f i) (Nat.zero_le _) (by omega)
        rw [hp, (pkB_as hP).2 hr, decide_eq_true (show l i ≤ ρ (f i) by omega)] at this
        cases this
/-- a set of secrets finds room on a set of pages -/
def Ps (P n : Nat) (l r : Nat → Nat) (S : Nat) : Prop := ∃ f : Nat → Nat, (∀ s, s < n → S.testBit s = true → P.testBit (f s) = true) ∧ ∀ p, P.testBit p = true → smF (fun s => S.testBit s && decide (f s = p)) l n 0 ≤ r p
theorem ps_all {P n : Nat} {l r : Nat → Nat} : Ps P n l r (2 ^ n - 1) ↔ As P l n 0 r := by
  have hb : ∀ s, s < n → (2 ^ n - 1).testBit s = true := fun s h => by rw [Nat.testBit_two_pow_sub_one]; exact decide_eq_true h
  have e : ∀ (f : Nat → Nat) p, smF (fun s => (2 ^ n - 1).testBit s && decide (f s = p)) l n 0 = smF (fun s => decide (f s = p)) l n 0 := fun f p => smF_congr (fun s _ h => by rw [hb s (by omega)]; rfl)
  constructor
  · rintro ⟨f, h1, h2⟩
    exact ⟨f, fun s _ h => h1 s (by omega) (hb s (by omega)), fun p hp => by rw [← e]; exact h2 p hp⟩
  · rintro ⟨f, h1, h2⟩
    exact ⟨f, fun s h _ => h1 s (Nat.zero_le _) (by omega), fun p hp => by rw [e]; exact h2 p hp⟩
theorem ps_0 {n S : Nat} {l r : Nat → Nat} (hS : S < 2 ^ n) : Ps 0 n l r S ↔ S = 0 := by
  constructor
  · rintro ⟨f, h1, -⟩
    apply Nat.eq_of_testBit_eq
    intro i
    rw [Nat.zero_testBit]
    cases hb : S.testBit i
    · rfl
    · rcases Nat.lt_or_ge i n with h | h
      · have := h1 i h hb
        rw [Nat.zero_testBit] at this
        exact this.symm
      · rw [bit_of_lt hS h] at hb; cases hb
  · rintro rfl
    exact ⟨fun _ => 0, fun s _ h => (by rw [Nat.zero_testBit] at h; cases h), fun p hp => (by rw [Nat.zero_testBit] at hp; cases hp)⟩
theorem and_bit {z T : Nat} (h : z &&& T = 0) {s : Nat} (hz : z.testBit s = true) : T.testBit s = false := by
  have := congrArg (fun x => x.testBit s) h
  simp only [Nat.testBit_and, Nat.zero_testBit] at this
  rw [hz] at this
  simpa using this
def sel (T k : Nat) (f : Nat → Nat) (s : Nat) : Nat := if T.testBit s = true then k else f s
theorem sel_t {T k s : Nat} {f : Nat → Nat} (h : T.testBit s = true) : sel T k f s = k := if_pos h
theorem sel_f {T k s : Nat} {f : Nat → Nat} (h : ¬ T.testBit s = true) : sel T k f s = f s := if_neg h
theorem ps_s {P n k S : Nat} {l r : Nat → Nat} (hk : P.testBit k = true) (hS : S < 2 ^ n) : Ps P n l r S ↔ ∃ T z, T < 2 ^ n ∧ z < 2 ^ n ∧ z &&& T = 0 ∧ S = z ||| T ∧ smF T.testBit l n 0 ≤ r k ∧ Ps (dif P (2 ^ k)) n l r z := by
  have hd : ∀ p, (dif P (2 ^ k)).testBit p = (P.testBit p && !decide (k = p)) := fun p => by rw [dif_bit, Nat.testBit_two_pow]
  constructor
  · rintro ⟨f, h1, h2⟩
    have hT : ∀ s, (bset (fun s => S.testBit s && decide (f s = k)) n).testBit s = (S.testBit s && decide (f s = k)) := fun s => by
      rw [bset_bit]
      rcases Nat.lt_or_ge s n with h | h
      · rw [decide_eq_true h]; rfl
      · rw [bit_of_lt hS h]; simp
    refine ⟨bset (fun s => S.testBit s && decide (f s = k)) n, dif S (bset (fun s => S.testBit s && decide (f s = k)) n), bset_lt _ _, dif_lt hS, ?_, ?_, ?_, f, ?_, ?_⟩
    · apply Nat.eq_of_testBit_eq
      intro i
      rw [Nat.testBit_and, dif_bit, Nat.zero_testBit]
      cases S.testBit i <;> cases (bset (fun s => S.testBit s && decide (f s = k)) n).testBit i <;> rfl
    · apply Nat.eq_of_testBit_eq
      intro i
      rw [Nat.testBit_or, dif_bit, hT]
      cases S.testBit i <;> cases decide (f i = k) <;> rfl
    · rw [smF_congr (q' := fun s => S.testBit s && decide (f s = k)) (fun s _ _ => hT s)]
      exact h2 k hk
    · intro s hs hb
      rw [dif_bit, hT] at hb
      have hb1 : S.testBit s = true := by cases h : S.testBit s <;> rw [h] at hb <;> simp at hb ⊢
      rw [hb1] at hb
      rw [hd, h1 s hs hb1]
      have : ¬ f s = k := by simpa using hb
      simp
      exact fun h => this h.symm
    · intro p hp
      rw [hd] at hp
      have hp1 : P.testBit p = true := by cases h : P.testBit p <;> rw [h] at hp <;> simp at hp ⊢
      have hp2 : k ≠ p := by rw [hp1] at hp; simpa using hp
      refine Nat.le_trans (Nat.le_of_eq (smF_congr (fun s _ _ => ?_))) (h2 p hp1)
      rw [dif_bit, hT]
      by_cases e : f s = p
      · have e2 : ¬ f s = k := fun h => hp2 (h.symm.trans e)
        rw [decide_eq_true e, decide_eq_false e2]
        simp
      · rw [decide_eq_false e]; simp
  · rintro ⟨T, z, hT, hz, hzt, rfl, hr, f, h1, h2⟩
    refine ⟨sel T k f, fun s hs hb => ?_, fun p hp => ?_⟩
    · by_cases e : T.testBit s = true
      · rw [sel_t e]; exact hk
      · rw [sel_f e]
        rw [Nat.testBit_or] at hb
        have hz1 : z.testBit s = true := by
          cases h : z.testBit s
          · rw [h] at hb; simp at hb; exact absurd hb e
          · rfl
        have := h1 s hs hz1
        rw [hd] at this
        cases h : P.testBit (f s)
        · rw [h] at this; cases this
        · rfl
    · by_cases e : p = k
      · subst e
        refine Nat.le_trans (Nat.le_of_eq (smF_congr (fun s _ hs => ?_))) hr
        rw [Nat.testBit_or]
        by_cases ht : T.testBit s = true
        · rw [sel_t ht, ht, decide_eq_true rfl]; simp
        · rw [sel_f ht, Bool.eq_false_iff.mpr ht]
          cases hz1 : z.testBit s
          · rfl
          · have := h1 s (by omega) hz1
            rw [hd] at this
            have : ¬ f s = p := fun h => by rw [h] at this; simp at this
            rw [decide_eq_false this]; rfl
      · have hp2 : (dif P (2 ^ k)).testBit p = true := by
          rw [hd, hp, decide_eq_false (fun h => e h.symm)]; rfl
        refine Nat.le_trans (Nat.le_of_eq (smF_congr (fun s _ hs => ?_))) (h2 p hp2)
        rw [Nat.testBit_or]
        by_cases ht : T.testBit s = true
        · rw [sel_t ht, decide_eq_false (fun h => e h.symm)]
          cases hz1 : z.testBit s
          · simp
          · rw [and_bit hzt hz1] at ht; cases ht
        · rw [sel_f ht, Bool.eq_false_iff.mpr ht]; simp
