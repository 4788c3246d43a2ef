theorem pw64 {n : Nat} (h : n ≤ 6) : 2 ^ n ≤ 64 := Nat.pow_le_pow_right (n := 2) (by decide) h
theorem bst_s (ok : Nat → Bool) (j : Nat) : bst ok (j + 1) = match bst ok j with
    | none => if ok j = true then some j else none
    | some b => if sz j < sz b then (if ok j = true then some j else some b) else some b := rfl
theorem dif_less : ∀ j, j < 64 → ∀ b, b < 6 → j.testBit b = true → dif j (2 ^ b) < j := by decide +kernel
section FT
variable {c : Nat → Int32} {σ : Nat → Nat} {st st2 th : Int32} {fu : Nat} {lt rm lo ro : Nat → Int32} {hl : Nat → Int64}
def lOf (σ : Nat → Nat) (z : Nat) : Nat := smF z.testBit (fun s => σ (49 + s)) (σ 1) 0
theorem lOf_le (w : WF σ) (z : Nat) : lOf σ z ≤ 120 := by
  have := w.c1
  have h := smF_le (q := z.testBit) (l := fun s => σ (49 + s)) (b := 20) (k := σ 1) (i := 0) (fun s _ hs => w.le (by omega))
  exact Nat.le_trans h (by omega)
theorem c_sumLetters (w : WF σ) (hfu : 100 < fu) : f_X4_sumLetters fu lo (nI (σ 1)) (aL lt σ) = some (mkF lo 64 (lOf σ)) := by
  have h1 := w.c1
  have hk : ∀ (K : Int32 → (Nat → Int32) → Option (Nat → Int32)) (z : Nat) (arr : Nat → Int32), z < 64 → ∀ k j acc q, j + k = σ 1 → k < q → acc + 20 * k ≤ 120 → f_X4_sumLetters_13 fu (nI (σ 1)) (aL lt σ) K q (nI z) (nI acc) (nI j) arr = K (nI (z + 1)) (upd arr z (nI (acc + smF z.testBit (fun s => σ (49 + s)) k j))) := by
    intro K z arr hz k
    induction k with
    | zero =>
      intro j acc q hj hq ha
      obtain ⟨q, rfl⟩ : ∃ z, q = z + 1 := ⟨q - 1, by omega⟩
      simp (disch := omega) only [f_X4_sumLetters_13, nI_le', if_pos, gi_n, nI_cl, lt_, nI_add]
      rfl
    | succ k ih =>
      intro j acc q hj hq ha
      obtain ⟨q, rfl⟩ : ∃ z, q = z + 1 := ⟨q - 1, by omega⟩
      have hl := w.le (s := j) (by omega)
      have e : smF z.testBit (fun s => σ (49 + s)) (k + 1) j = (if z.testBit j = true then σ (49 + j) else 0) + smF z.testBit (fun s => σ (49 + s)) k (j + 1) := rfl
      simp (disch := omega) only [f_X4_sumLetters_13, nI_le', if_neg, has7, bd_s, bI_0, lt_, gi_n, nI_cl, aL_in, nI_add]
      rw [e, ih (j + 1) (acc + 0) q (by omega) (by omega) (by omega), ih (j + 1) (acc + σ (49 + j)) q (by omega) (by omega) (by omega)]
      cases z.testBit j
      · rw [if_pos rfl, if_neg (by decide), Nat.add_assoc]
      · rw [if_neg (by decide), if_pos rfl, Nat.add_assoc]
  unfold f_X4_sumLetters
  refine Eq.trans (congrArg (fun z => f_X4_sumLetters_2 fu (nI (σ 1)) (aL lt σ) fu (nI 0) z) (mkF_n0 (f := lOf σ)).symm) ?_
  refine loop_p (fun q j => f_X4_sumLetters_2 fu (nI (σ 1)) (aL lt σ) q (nI j) (mkF lo j (lOf σ))) 64 _ ?_ ?_ 64 0 fu (by omega) (by omega)
  · intro q j hj
    simp (disch := omega) only [f_X4_sumLetters_2, nI_le', if_neg]
    rw [hk _ j _ hj (σ 1) 0 0 fu (by omega) (by omega) (by omega), Nat.zero_add]
    have e : upd (mkF lo j (lOf σ)) j (nI (smF j.testBit (fun s => σ (49 + s)) (σ 1) 0)) = mkF lo (j + 1) (lOf σ) := mkF_grow
    rw [e]
  · intro q
    simp (disch := omega) only [f_X4_sumLetters_2, nI_le', if_pos]
theorem c_fillHolds (w : WF σ) {P : Nat} (hP : P < 2 ^ σ 2) (h0 : 0 < P) (hfu : 100 < fu) : ∃ k, P.testBit k = true ∧ k < σ 2 ∧ f_X4_fillHolds fu (nI P) hl (mkF lo 64 (lOf σ)) (nI (σ 1)) (aR rm σ) = some (vp_updL hl P (fh (hl (dif P (2 ^ k))) (lOf σ) (2 ^ σ 1 - 1) (σ (55 + k)) (2 ^ σ 1))) := by
  have h2 := w.c2
  have h1 := w.c1
  have hP64 : P < 64 := Nat.lt_of_lt_of_le hP (pw64 h2)
  have hA : 2 ^ σ 1 ≤ 64 := pw64 h1
  have hA0 : 0 < 2 ^ σ 1 := Nat.pow_pos (by decide)
  have h21 : ∀ k, P.testBit k = true → k < σ 2 → f_X4_fillHolds_21 fu (mkF lo 64 (lOf σ)) (nI (σ 1)) (aR rm σ) (nI P) (nI k) hl = some (vp_updL hl P (fh (hl (dif P (2 ^ k))) (lOf σ) (2 ^ σ 1 - 1) (σ (55 + k)) (2 ^ σ 1))) := by
    intro k hk hk2
    have hro := w.ro (p := k) (by omega)
    have hd : dif P (2 ^ k) < 64 := dif_lt (n := 6) hP64
    unfold f_X4_fillHolds_21
    simp (disch := omega) only [gi_n, nI_cl, lt_, aR_in, c_allSecrets w, bd_s, nI_1shl, nI_andn]
    refine loop_p (fun q j => f_X4_fillHolds_55 fu (mkF lo 64 (lOf σ)) (nI (σ 1)) (aR rm σ) q (nI P) (nI (σ (55 + k))) (nI (2 ^ σ 1 - 1)) (hl (dif P (2 ^ k))) (fh (hl (dif P (2 ^ k))) (lOf σ) (2 ^ σ 1 - 1) (σ (55 + k)) j) (nI j) hl) (2 ^ σ 1) _ ?_ ?_ (2 ^ σ 1) 0 fu (by omega) (by omega)
    · intro q j hj
      have hle := lOf_le w j
      have e : fh (hl (dif P (2 ^ k))) (lOf σ) (2 ^ σ 1 - 1) (σ (55 + k)) (j + 1) = if σ (55 + k) < lOf σ j then fh (hl (dif P (2 ^ k))) (lOf σ) (2 ^ σ 1 - 1) (σ (55 + k)) j else fh (hl (dif P (2 ^ k))) (lOf σ) (2 ^ σ 1 - 1) (σ (55 + k)) j ||| jn (hl (dif P (2 ^ k))) j (2 ^ σ 1 - 1 + 1) := rfl
      simp (disch := omega) only [f_X4_fillHolds_55, nI_lt', if_neg, gi_n, nI_cl, mkF_in, lt_, nI_add, c_joined, bd_s]
      rw [e]
      split <;> rfl
    · intro q
      simp (disch := omega) only [f_X4_fillHolds_55, nI_lt', if_pos, gi_n, nI_cl]
  have hf : ∀ k j q, j + k = 6 → k < q → (∀ i, i < j → P.testBit i = false) → ∃ k, P.testBit k = true ∧ k < σ 2 ∧ f_X4_fillHolds_2 fu (mkF lo 64 (lOf σ)) (nI (σ 1)) (aR rm σ) q (nI P) (nI j) hl = some (vp_updL hl P (fh (hl (dif P (2 ^ k))) (lOf σ) (2 ^ σ 1 - 1) (σ (55 + k)) (2 ^ σ 1))) := by
    intro k
    induction k with
    | zero =>
      intro j q hj hq hn
      exfalso
      have : P = 0 := by
        apply Nat.eq_of_testBit_eq
        intro i
        rw [Nat.zero_testBit]
        rcases Nat.lt_or_ge i 6 with h | h
        · exact hn i (by omega)
        · exact bit_of_lt (n := 6) hP64 h
      omega
    | succ k ih =>
      intro j q hj hq hn
      obtain ⟨q, rfl⟩ : ∃ z, q = z + 1 := ⟨q - 1, by omega⟩
      have hb : P.testBit j = true → j < σ 2 := fun hb => by
        rcases Nat.lt_or_ge j (σ 2) with h | h
        · exact h
        · rw [bit_of_lt hP h] at hb; cases hb
      by_cases h5 : 5 ≤ j
      · have hj5 : P.testBit j = true := by
          cases hc : P.testBit j
          · exfalso
            have : P = 0 := by
              apply Nat.eq_of_testBit_eq
              intro i
              rw [Nat.zero_testBit]
              rcases Nat.lt_or_ge i 6 with h | h
              · by_cases e : i = j
                · subst e; exact hc
                · exact hn i (by omega)
              · exact bit_of_lt (n := 6) hP64 h
            omega
          · rfl
        refine ⟨j, hj5, hb hj5, ?_⟩
        simp (disch := omega) only [f_X4_fillHolds_2, nI_le', if_pos, h21 j hj5 (hb hj5)]
      · simp (disch := omega) only [f_X4_fillHolds_2, nI_le', if_neg, has7, bd_s, bI_0]
        cases hc : P.testBit j
        · rw [if_pos rfl]
          simp only [lt_, nI_add]
          exact ih (j + 1) q (by omega) (by omega) (fun i hi => by
            by_cases e : i = j
            · subst e; exact hc
            · exact hn i (by omega))
        · refine ⟨j, hc, hb hc, ?_⟩
          rw [if_neg (by decide), h21 j hc (hb hc)]
  exact hf 6 0 fu (by omega) (by omega) (fun i hi => absurd hi (by omega))
/-- what can be had on a set of pages -/
def okP (σ : Nat → Nat) (P : Nat) : Bool := pkB P (σ 2) (fun s => σ (49 + s)) (σ 1) 0 (fun p => σ (55 + p))
def HoldsTo (σ : Nat → Nat) (hl : Nat → Int64) (j : Nat) : Prop := ∀ P, P < j → ∀ S, S < 2 ^ σ 1 → (bt (hl P) S = true ↔ Ps P (σ 1) (fun s => σ (49 + s)) (fun p => σ (55 + p)) S)
theorem holds_ok (w : WF σ) {P : Nat} (hP : P < 2 ^ σ 2) (h : HoldsTo σ hl (P + 1)) : bt (hl P) (2 ^ σ 1 - 1) = okP σ P := by
  have hA0 : 0 < 2 ^ σ 1 := Nat.pow_pos (by decide)
  have e := (h P (Nat.lt_succ_self P) (2 ^ σ 1 - 1) (by omega)).trans (ps_all.trans (pkB_as hP).symm)
  cases h1 : bt (hl P) (2 ^ σ 1 - 1)
  · cases h2 : okP σ P
    · rfl
    · rw [e.2 h2] at h1; cases h1
  · exact (e.1 h1).symm
theorem bst_f {ok : Nat → Bool} {j : Nat} (h : ok j = false) : bst ok (j + 1) = bst ok j := by
  rw [bst_s, h]
  cases bst ok j with
  | none => rfl
  | some b => simp
theorem bst_g {ok : Nat → Bool} {j : Nat} (hj : j < 64) (h : cw (bst ok j) ≤ sz j) : bst ok (j + 1) = bst ok j := by
  have h6 := sz_6 j hj
  rw [bst_s]
  cases hb : bst ok j with
  | none => rw [hb] at h; exact absurd (show 7 ≤ sz j from h) (by omega)
  | some b =>
    rw [hb] at h
    have h' : sz b ≤ sz j := h
    simp only
    rw [if_neg (by omega)]
theorem bst_h {ok : Nat → Bool} {j : Nat} (h0 : ok j = true) (h : ¬ cw (bst ok j) ≤ sz j) : bst ok (j + 1) = some j := by
  rw [bst_s]
  cases hb : bst ok j with
  | none => simp only; rw [if_pos h0]
  | some b =>
    rw [hb] at h
    have h' : ¬ sz b ≤ sz j := h
    simp only
    rw [if_pos (by omega), if_pos h0]
theorem cw_7 {o : Option Nat} (h : ∀ b, o = some b → b < 64) : cw o ≤ 7 := by
  cases o with
  | none => exact Nat.le_refl 7
  | some b => exact Nat.le_succ_of_le (sz_6 b (h b rfl))
theorem c_fewest (w : WF σ) (hfu : 100 < fu) : ∃ hl' lo', f_X4_fewestPages fu hl lo (nI (σ 1)) (nI (σ 2)) (aL lt σ) (aR rm σ) = some (oI (bst (okP σ) (2 ^ σ 2)), hl', lo') := by
  have h2 := w.c2
  have h1 := w.c1
  have hA : 2 ^ σ 1 ≤ 64 := pw64 h1
  have hM : 2 ^ σ 2 ≤ 64 := pw64 h2
  have hA0 : 0 < 2 ^ σ 1 := Nat.pow_pos (by decide)
  have h49 : ∀ (K : Int32 → Int32 → Int32 → Int32 → (Nat → Int64) → (Nat → Int32) → Option (Int32 × (Nat → Int64) × (Nat → Int32))) (j : Nat) (hh : Nat → Int64), j < 2 ^ σ 2 → HoldsTo σ hh (j + 1) →
      f_X4_fewestPages_49 fu (nI (σ 1)) (nI (σ 2)) (aL lt σ) (aR rm σ) K (nI (2 ^ σ 1 - 1)) (oI (bst (okP σ) j)) (nI (cw (bst (okP σ) j))) (nI j) hh (mkF lo 64 (lOf σ)) = K (nI (2 ^ σ 1 - 1)) (oI (bst (okP σ) (j + 1))) (nI (cw (bst (okP σ) (j + 1)))) (nI (j + 1)) hh (mkF lo 64 (lOf σ)) := by
    intro K j hh hj hH
    have hc := cw_7 (o := bst (okP σ) j) (fun b hb => by have := bst_lt hb; omega)
    have h6 := sz_6 j (by omega)
    unfold f_X4_fewestPages_49
    simp (disch := omega) only [gi_n, nI_cl, bt_t, holds_ok w hj hH, c_size, bd_s, nI_le', lt_, nI_add]
    cases ho : okP σ j
    · rw [if_pos rfl, bst_f ho]
    · rw [if_neg (by decide)]
      by_cases hw : cw (bst (okP σ) j) ≤ sz j
      · rw [if_pos hw, bst_g (by omega) hw]
      · rw [if_neg hw, bst_h ho hw]; rfl
  have hk : ∀ k j q (hh : Nat → Int64), j + k = 2 ^ σ 2 → k < q → HoldsTo σ hh j → (j = 0 → hh 0 = lN 1) → ∃ hl' lo', f_X4_fewestPages_26 fu (nI (σ 1)) (nI (σ 2)) (aL lt σ) (aR rm σ) q (nI (2 ^ σ 1 - 1)) (oI (bst (okP σ) j)) (nI (cw (bst (okP σ) j))) (nI j) hh (mkF lo 64 (lOf σ)) = some (oI (bst (okP σ) (2 ^ σ 2)), hl', lo') := by
    intro k
    induction k with
    | zero =>
      intro j q hh hj hq hH hz
      obtain ⟨q, rfl⟩ : ∃ z, q = z + 1 := ⟨q - 1, by omega⟩
      obtain rfl : j = 2 ^ σ 2 := by omega
      simp (disch := omega) only [f_X4_fewestPages_26, nI_1shl, nI_le', if_pos]
      exact ⟨_, _, rfl⟩
    | succ k ih =>
      intro j q hh hj hq hH hz
      obtain ⟨q, rfl⟩ : ∃ z, q = z + 1 := ⟨q - 1, by omega⟩
      simp (disch := omega) only [f_X4_fewestPages_26, nI_1shl, nI_le', if_neg, nI_le0]
      by_cases e : j = 0
      · subst e
        have hH1 : HoldsTo σ hh (0 + 1) := by
          intro P hP S hS
          obtain rfl : P = 0 := by omega
          rw [hz rfl, bt_one, ps_0 hS]
          exact decide_eq_true_iff
        rw [if_pos rfl, h49 _ 0 hh (by omega) hH1]
        exact ih 1 q hh (by omega) (by omega) hH1 (fun h => by omega)
      · rw [if_neg e]
        obtain ⟨b, hb, hb2, hf⟩ := c_fillHolds (hl := hh) (lo := lo) (rm := rm) (P := j) (fu := fu) w (by omega) (by omega) hfu
        rw [hf, bd_s]
        have hd : dif j (2 ^ b) < j := dif_less j (by omega) b (by omega) hb
        have hH1 : HoldsTo σ (vp_updL hh j (fh (hh (dif j (2 ^ b))) (lOf σ) (2 ^ σ 1 - 1) (σ (55 + b)) (2 ^ σ 1))) (j + 1) := by
          intro P hP S hS
          by_cases eP : P = j
          · subst eP
            rw [updL_s, fh_bit (by omega) (by omega) hA, ps_s (k := b) hb hS]
            constructor
            · rintro ⟨T, a, b1, z, c1, d, e1, f⟩
              exact ⟨T, z, a, by omega, d, f, b1, (hH _ hd z (by omega)).1 e1⟩
            · rintro ⟨T, z, a, c1, d, f, b1, e1⟩
              exact ⟨T, a, b1, z, by omega, d, (hH _ hd z (by omega)).2 e1, f⟩
          · rw [updL_n eP]
            exact hH P (by omega) S hS
        rw [h49 _ j _ (by omega) hH1]
        exact ih (j + 1) q _ (by omega) (by omega) hH1 (fun h => by omega)
  unfold f_X4_fewestPages
  rw [c_sumLetters w hfu, bd_s, c_allSecrets w, bd_s, gi_n (by decide) (by decide), nI_cl (by decide)]
  exact hk (2 ^ σ 2) 0 fu _ (by omega) (by omega) (fun P hP => by omega) (fun _ => updL_s)
end FT
