theorem oI_s (j : Nat) : oI (some j) = nI j := rfl
theorem oI_n : oI none = (-1 : Int32) := rfl
theorem oI_n0le : (0 ≤ oI none) = False := m1_0le
theorem oI_nlt0 : (oI none < 0) = True := m1_lt0
theorem oI_nm1 : (oI none = (-1 : Int32)) = True := propext ⟨fun _ => trivial, fun _ => rfl⟩
theorem sPgN_lt {σ : Nat → Nat} {s : Nat} : ∀ {k p : Nat}, sPgN σ s k = some p → p < k
  | 0, p, h => by cases h
  | k + 1, p, h => by
    unfold sPgN sPgS at h
    split at h
    · exact Nat.lt_succ_of_lt (sPgN_lt h)
    · split at h
      · cases h; exact Nat.lt_succ_self _
      · rename_i q hq
        split at h
        · cases h; exact Nat.lt_succ_of_lt (sPgN_lt hq)
        · cases h; exact Nat.lt_succ_self _
theorem sPg_lt {σ : Nat → Nat} {s p : Nat} (h : sPg σ s = some p) : p < σ 2 := sPgN_lt h
theorem m_pageFor {c : Nat → Int32} {σ : Nat → Nat} {fu s : Nat} (w : WF σ) (hs : s < 6) (hfu : 100 < fu) : f_X12_pageFor fu (nI s) (mk c σ) = some (oI (sPg σ s)) := by
  have h1 := w.c2
  unfold f_X12_pageFor
  refine loop_p (fun n j => f_X12_pageFor_4 fu (mk c σ) n (nI s) (oI (sPgN σ s j)) (nI j)) (σ 2) _ ?_ ?_ (σ 2) 0 fu (by omega) (by omega)
  · intro n j hj
    have hr := w.ro (p := j) (by omega)
    have hF : sFree σ j ≤ 60 := by unfold sFree; omega
    have hd := w.dl' (p := j) (by omega) hs
    simp (disch := omega) only [f_X12_pageFor_4, gi_n, nI_cl, mk_in, nI_le', if_neg, m_isShut w, m_freeOf w, bd_s, bI_0, lt_, nI_add, nI_eq0]
    by_cases hb : sShut σ j = true ∨ sFree σ j = 0
    · have e : sPgN σ s (j + 1) = sPgN σ s j := by
        show sPgS σ s j (sPgN σ s j) = _
        unfold sPgS; rw [if_pos hb]
      rw [e]
      rcases hb with hb | hb
      · rw [hb]; rfl
      · rw [if_pos hb]
        cases sShut σ j <;> rfl
    · have e : sPgN σ s (j + 1) = (match sPgN σ s j with | none => some j | some q => if sD σ j s ≤ sD σ q s then some q else some j) := by
        show sPgS σ s j (sPgN σ s j) = _
        unfold sPgS; rw [if_neg hb]; rfl
      rw [e]
      have hb1 : sShut σ j = false := Bool.eq_false_iff.mpr (fun h => hb (Or.inl h))
      rw [if_pos hb1, if_neg (fun h => hb (Or.inr h))]
      cases hq : sPgN σ s j with
      | none => rw [oI_n, if_pos (show (-1 : Int32) < 0 by decide)]; rfl
      | some q =>
        have hq2 := sPgN_lt hq
        have hdq := w.dl' (p := q) (by omega) hs
        by_cases hc : sD σ j s ≤ sD σ q s
        · have hc' : σ (75 + 6 * j + s) ≤ σ (75 + 6 * q + s) := hc
          simp (disch := omega) only [oI_s, nI_lt0, if_false, pk_mul, nI_add, gi_n, nI_cl, mk_in, nI_le', if_pos hc, if_pos hc']
        · have hc' : ¬ σ (75 + 6 * j + s) ≤ σ (75 + 6 * q + s) := hc
          simp (disch := omega) only [oI_s, nI_lt0, if_false, pk_mul, nI_add, gi_n, nI_cl, mk_in, nI_le', if_neg hc, if_neg hc']
  · intro n
    simp (disch := omega) only [f_X12_pageFor_4, gi_n, nI_cl, mk_in, nI_le', if_pos]
    rfl
theorem m_rubsOne {c : Nat → Int32} {σ : Nat → Nat} {fu knew : Nat} (w : WF σ) (hk : knew < 64) (hfu : 100 < fu) : f_X12_rubsOne fu (nI knew) (mk c σ) = some (mk c (sRub σ knew)) := by
  have h1 := w.c2
  unfold f_X12_rubsOne
  have H : f_X12_rubsOne_2 fu fu (nI knew) (nI 0) (mk c σ) = (match sRubP σ knew with | none => some (mk c σ) | some p => some (mk c (up σ (75 + 6 * p + sRubS σ knew p) 0))) := by
    unfold sRubP
    refine loop_q (fun n j => f_X12_rubsOne_2 fu n (nI knew) (nI j) (mk c σ)) (σ 2) (fun k j => (match fnd (fun p => !sShut σ p && decide (dif (sStg σ p) knew ≠ 0)) k j with | none => some (mk c σ) | some p => some (mk c (up σ (75 + 6 * p + sRubS σ knew p) 0)))) ?_ ?_ (σ 2) 0 fu (by omega) (by omega)
    · intro n k j hj ih
      have hst := w.stg j
      have hd : dif (sStg σ j) knew < 64 := dif_lt (n := 6) hst
      simp (disch := omega) only [f_X12_rubsOne_2, gi_n, nI_cl, mk_in, nI_le', if_neg, m_isShut w, m_standing w, bd_s, bI_0, lt_, nI_add, nI_andn, nI_eq0]
      unfold fnd
      by_cases hb : sShut σ j = false
      · rw [if_pos hb]
        by_cases hz : dif (sStg σ j) knew = 0
        · rw [if_pos hz, if_neg (by simp [hz])]
          exact ih
        · rw [if_neg hz, if_pos (by simp [hb, hz])]
          have hin : f_X12_rubsOne_37 fu fu (nI knew) (nI j) (nI 0) (mk c σ) = (match fnd (fun s => (dif (sStg σ j) knew).testBit s) 6 0 with | none => none | some s => some (mk c (up σ (75 + 6 * j + s) 0))) := by
            have hbits : ∃ s, s < 6 ∧ (dif (sStg σ j) knew).testBit s = true := by
              apply Classical.byContradiction
              intro hn
              apply hz
              apply Nat.eq_of_testBit_eq
              intro i
              rw [Nat.zero_testBit]
              by_cases hi : i < 6
              · exact Bool.eq_false_iff.mpr (fun q => hn ⟨i, hi, q⟩)
              · exact bit_of_lt (n := 6) hd (by omega)
            obtain ⟨s0, hs0, hb0⟩ := hbits
            have G : ∀ k2 j2 n2, j2 + k2 = 6 → k2 < n2 → j2 ≤ s0 → f_X12_rubsOne_37 fu n2 (nI knew) (nI j) (nI j2) (mk c σ) = (match fnd (fun s => (dif (sStg σ j) knew).testBit s) k2 j2 with | none => none | some s => some (mk c (up σ (75 + 6 * j + s) 0))) := by
              intro k2
              induction k2 with
              | zero => intro j2 n2 h2 hn2 h3; omega
              | succ k2 ih2 =>
                intro j2 n2 h2 hn2 h3
                obtain ⟨n2, rfl⟩ : ∃ m, n2 = m + 1 := ⟨n2 - 1, by omega⟩
                simp (disch := omega) only [f_X12_rubsOne_37, m_standing w, bd_s, nI_andn, has12, bI_0, lt_, nI_add, pk_mul, gi_n, nI_cl]
                unfold fnd
                cases hbit : (dif (sStg σ j) knew).testBit j2
                · simp only [if_true, if_false, Bool.false_eq_true]
                  have hne : j2 ≠ s0 := by rintro rfl; rw [hb0] at hbit; cases hbit
                  exact ih2 (j2 + 1) n2 (by omega) (by omega) (by omega)
                · simp only [if_true, if_false, Bool.true_eq_false]
                  rw [mk_up (by omega)]
            exact G 6 0 fu rfl (by omega) (Nat.zero_le _)
          rw [hin]
          cases hf : fnd (fun s => (dif (sStg σ j) knew).testBit s) 6 0 with
          | some s =>
            show some (mk c (up σ (75 + 6 * j + s) 0)) = some (mk c (up σ (75 + 6 * j + sRubS σ knew j) 0))
            unfold sRubS
            rw [hf]; rfl
          | none =>
            exfalso
            apply hz
            apply Nat.eq_of_testBit_eq
            intro i
            rw [Nat.zero_testBit]
            by_cases hi : i < 6
            · exact fnd_none hf i (Nat.zero_le _) (by omega)
            · exact bit_of_lt (n := 6) hd (by omega)
      · have hb' : sShut σ j = true := by simpa using hb
        rw [if_neg hb, if_neg (by simp [hb'])]
        exact ih
    · intro n
      simp (disch := omega) only [f_X12_rubsOne_2, gi_n, nI_cl, mk_in, nI_le', if_pos]
      rfl
  rw [H]
  unfold sRub
  cases sRubP σ knew <;> rfl
