
theorem c_freeOf {σ : Nat → Nat} {us rm : Nat → Int32} {p : Nat} (w : WF σ) (hp : p < σ 2) : f_X7_freeOf (nI p) (aU us σ) (aR rm σ) = some (nI (sFree σ p)) := by
  have h2 := w.c2
  have hu := w.us (p := p) (by omega)
  unfold f_X7_freeOf sFree
  simp (disch := omega) only [gi_n, nI_cl, aU_in, aR_in, pk_sub]
theorem c_pageFor {σ : Nat → Nat} {dt us rm : Nat → Int32} {fu s : Nat} (w : WF σ) (hs : s < 6) (hfu : 100 < fu) : f_X7_pageFor fu (nI s) (nI (σ 7)) (aD dt σ) (aU us σ) (nI (σ 2)) (aR rm σ) = some (oI (sPg σ s)) := by
  have h1 := w.c2
  unfold f_X7_pageFor
  refine loop_p (fun n j => f_X7_pageFor_8 fu (nI (σ 7)) (aD dt σ) (aU us σ) (nI (σ 2)) (aR rm σ) n (nI s) (oI (sPgN σ s j)) (match sPgN σ s j with | none => (-1 : Int32) | some q => nI (sD σ q s)) (nI j)) (σ 2) _ ?_ ?_ (σ 2) 0 fu (by omega) (by omega)
  · intro n j hj
    have hr := w.ro (p := j) (by omega)
    have hu := w.us (p := j) (by omega)
    have hd := w.dl' (p := j) (by omega) hs
    have ix : 75 + (j * 6 + s) = 75 + 6 * j + s := by omega
    have hF : (σ (55 + j) ≤ sPr σ j) = (sFree σ j = 0) := by unfold sFree; exact propext ⟨fun h => by omega, fun h => by omega⟩
    simp (disch := omega) only [f_X7_pageFor_8, gi_n, nI_cl, aD_in, aU_in, aR_in, nI_le', if_neg, c_shut w, bd_s, bI_0, lt_, nI_add, pk_mul, ix]
    by_cases hb : sShut σ j = true ∨ sFree σ j = 0
    · have e : sPgN σ s (j + 1) = sPgN σ s j := by
        show sPgS σ s j (sPgN σ s j) = _
        unfold sPgS; rw [if_pos hb]
      rw [e]
      cases hs' : sShut σ j
      · rw [hs'] at hb
        have hb2 : sFree σ j = 0 := hb.resolve_left (by decide)
        rw [if_pos rfl, if_pos (by rw [hF]; exact hb2)]
      · rw [if_neg (by decide)]
    · have e : sPgN σ s (j + 1) = (match sPgN σ s j with | none => some j | some q => if sD σ j s ≤ sD σ q s then some q else some j) := by
        show sPgS σ s j (sPgN σ s j) = _
        unfold sPgS; rw [if_neg hb]; rfl
      rw [e]
      have hb1 : sShut σ j = false := Bool.eq_false_iff.mpr (fun h => hb (Or.inl h))
      rw [if_pos hb1, if_neg (fun h => hb (Or.inr (by rw [hF] at h; exact h)))]
      cases hq : sPgN σ s j with
      | none =>
        simp only
        rw [if_neg (fun h => absurd (Int32.lt_of_lt_of_le (show (-1 : Int32) < 0 by decide) (nI_pos' (n := σ (75 + 6 * j + s)) (by omega))) (Int32.not_lt.mpr h))]
        rfl
      | some q =>
        have hq2 := sPgN_lt hq
        have hdq := w.dl (p := q) (by omega) hs
        simp only
        by_cases hc : sD σ j s ≤ sD σ q s
        · rw [if_pos (show nI (σ (75 + 6 * j + s)) ≤ nI (sD σ q s) from (nI_leI (by omega) (by omega)).mpr hc), if_pos hc]
        · rw [if_neg (show ¬ nI (σ (75 + 6 * j + s)) ≤ nI (sD σ q s) from fun h => hc ((nI_leI (a := σ (75 + 6 * j + s)) (by omega) (by omega)).mp h)), if_neg hc]
          rfl
  · intro n
    simp (disch := omega) only [f_X7_pageFor_8, nI_le', if_pos]
    rfl
theorem c_eraseFirstNew {σ : Nat → Nat} {dt sd us : Nat → Int32} {fu knew : Nat} (w : WF σ) (hk : knew < 64) (hfu : 100 < fu) : f_X7_eraseFirstNew fu (nI knew) (nI (σ 7)) (aD dt σ) (aS sd σ) (aU us σ) (nI (σ 1)) (nI (σ 2)) = some (aD dt (sRub σ knew), aS sd (sRub σ knew), aU us (sRub σ knew)) := by
  have h1 := w.c1
  have h2 := w.c2
  unfold f_X7_eraseFirstNew
  have H : f_X7_eraseFirstNew_2 fu (nI (σ 7)) (nI (σ 1)) (nI (σ 2)) fu (nI knew) (nI 0) (aD dt σ) (aS sd σ) (aU us σ) = (match sRubP σ knew with | none => some (aD dt σ, aS sd σ, aU us σ) | some p => some (aD dt (up σ (75 + 6 * p + sRubS σ knew p) 0), aS sd (up σ (75 + 6 * p + sRubS σ knew p) 0), aU us (up σ (75 + 6 * p + sRubS σ knew p) 0))) := by
    unfold sRubP
    refine loop_q (fun n j => f_X7_eraseFirstNew_2 fu (nI (σ 7)) (nI (σ 1)) (nI (σ 2)) n (nI knew) (nI j) (aD dt σ) (aS sd σ) (aU us σ)) (σ 2) (fun k j => (match fnd (fun p => !sShut σ p && decide (dif (sStg σ p) knew ≠ 0)) k j with | none => some (aD dt σ, aS sd σ, aU us σ) | some p => some (aD dt (up σ (75 + 6 * p + sRubS σ knew p) 0), aS sd (up σ (75 + 6 * p + sRubS σ knew p) 0), aU us (up σ (75 + 6 * p + sRubS σ knew p) 0)))) ?_ ?_ (σ 2) 0 fu (by omega) (by omega)
    · intro n k j hj ih
      have hst := w.stg j
      have hd : dif (sStg σ j) knew < 64 := dif_lt (n := 6) hst
      simp (disch := omega) only [f_X7_eraseFirstNew_2, gi_n, nI_cl, aS_in, nI_le', if_neg, c_shut w, bd_s, bI_0, lt_, nI_andn]
      unfold fnd
      -- the inner loop, from secret j2 on
      have G0 : ∀ n2, 0 < n2 → f_X7_eraseFirstNew_40 fu (nI (σ 7)) (nI (σ 1)) (nI (σ 2)) (f_X7_eraseFirstNew_2 fu (nI (σ 7)) (nI (σ 1)) (nI (σ 2)) n) n2 (nI knew) (nI j) (nI 0) (nI 0) (aD dt σ) (aS sd σ) (aU us σ) = f_X7_eraseFirstNew_2 fu (nI (σ 7)) (nI (σ 1)) (nI (σ 2)) n (nI knew) (nI (j + 1)) (aD dt σ) (aS sd σ) (aU us σ) := by
        intro n2 hn2
        obtain ⟨n2, rfl⟩ : ∃ m, n2 = m + 1 := ⟨n2 - 1, by omega⟩
        simp (disch := omega) only [f_X7_eraseFirstNew_40, nI_eq', if_true, lt_, nI_add, nI_eq0]
        split <;> rfl
      by_cases hb : sShut σ j = false
      · rw [if_pos hb]
        by_cases hz : dif (sStg σ j) knew = 0
        · rw [if_neg (by simp [hz]), hz, G0 fu (by omega)]
          exact ih
        · rw [if_pos (by simp [hb, hz])]
          have hbits : ∃ s, s < σ 1 ∧ (dif (sStg σ j) knew).testBit s = true := by
            apply Classical.byContradiction
            intro hn
            apply hz
            apply Nat.eq_of_testBit_eq
            intro i
            rw [Nat.zero_testBit]
            by_cases hi : i < σ 1
            · exact Bool.eq_false_iff.mpr (fun q => hn ⟨i, hi, q⟩)
            · rw [dif_bit, b_stg]; simp [hi]
          obtain ⟨s0, hs0, hb0⟩ := hbits
          have G : ∀ k2 j2 n2, j2 + k2 = 6 → k2 < n2 → j2 ≤ s0 → f_X7_eraseFirstNew_40 fu (nI (σ 7)) (nI (σ 1)) (nI (σ 2)) (f_X7_eraseFirstNew_2 fu (nI (σ 7)) (nI (σ 1)) (nI (σ 2)) n) n2 (nI knew) (nI j) (nI (dif (sStg σ j) knew)) (nI j2) (aD dt σ) (aS sd σ) (aU us σ) = (match fnd (fun s => (dif (sStg σ j) knew).testBit s) k2 j2 with | none => none | some s => some (aD dt (up σ (75 + 6 * j + s) 0), aS sd (up σ (75 + 6 * j + s) 0), aU us (up σ (75 + 6 * j + s) 0))) := by
            intro k2
            induction k2 with
            | zero => intro j2 n2 h2 hn2 h3; omega
            | succ k2 ih2 =>
              intro j2 n2 h2 hn2 h3
              obtain ⟨n2, rfl⟩ : ∃ m, n2 = m + 1 := ⟨n2 - 1, by omega⟩
              simp (disch := omega) only [f_X7_eraseFirstNew_40, nI_le', if_neg, nI_eq0, bd_s, has7, bI_0, lt_, nI_add]
              unfold fnd
              cases hbit : (dif (sStg σ j) knew).testBit j2
              · simp only [if_true, if_false, Bool.false_eq_true]
                have hne : j2 ≠ s0 := by rintro rfl; rw [hb0] at hbit; cases hbit
                exact ih2 (j2 + 1) n2 (by omega) (by omega) (by omega)
              · simp only [if_true, if_false, Bool.true_eq_false]
                rw [c_eraseSecret w (by omega) (by omega)]
                rfl
          have G6 := G 6 0 fu rfl (by omega) (Nat.zero_le _)
          rw [G6]
          cases hf : fnd (fun s => (dif (sStg σ j) knew).testBit s) 6 0 with
          | some s =>
            show _ = some (aD dt (up σ (75 + 6 * j + sRubS σ knew j) 0), aS sd (up σ (75 + 6 * j + sRubS σ knew j) 0), aU us (up σ (75 + 6 * j + sRubS σ knew j) 0))
            have : sRubS σ knew j = s := by unfold sRubS; rw [hf]; rfl
            rw [this]
          | none =>
            have := fnd_none hf s0 (Nat.zero_le _) (by omega)
            rw [hb0] at this; cases this
      · have hb' : sShut σ j = true := by simpa using hb
        rw [if_neg hb, if_neg (by simp [hb']), G0 fu (by omega)]
        exact ih
    · intro n
      simp (disch := omega) only [f_X7_eraseFirstNew_2, nI_le', if_pos]
      rfl
  rw [H]
  unfold sRub
  cases sRubP σ knew <;> rfl
