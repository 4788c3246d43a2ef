/-! what the class's calls answer, as the law makes them -/
theorem inR_y {p n : Nat} (h : p < n) (hn : n < 2147483648) : inR (nI p) 0 n = true := by
  unfold inR
  rw [nI_toInt (by omega)]
  exact decide_eq_true (by omega)
theorem oT {α β : Type} {x : Option (α × β)} {r : α} (h : ∃ o, x = some (r, o)) : ∃ o, x = some o ∧ o.1 = r := by
  obtain ⟨o, h⟩ := h
  exact ⟨_, h, rfl⟩
section UC
variable {σ : Nat → Nat} {st bm : Int32} {fu : Nat} {dt kn md od xx sd us lt rm sp be tr : Nat → Int32} {q1 q2 q3 q4 q5 q6 : Int32} {q7 q8 q9 q10 q11 q12 q13 : Nat → Int32} {ab be2 : Int64}
theorem u_pricks (w : WF σ) {p e : Nat} (hp : p < σ 2) (he : e < σ 1) : f_X11_pricks (nI p) (nI e) st (nI (σ 1)) (nI (σ 2)) (aD dt σ) = some (nI (sD σ p e), nI 0) := by
  have h1 := w.c1
  have h2 := w.c2
  have ix : 75 + (p * 6 + e) = 75 + 6 * p + e := by omega
  unfold f_X11_pricks
  simp (disch := omega) only [c_hasSecret, c_hasPage, inR_y, bd_s, bI_0, if_false, Bool.true_eq_false, gi_n, nI_cl, nI_add, pk_mul, aD_in, ans11, ix]
  rfl
theorem u_orderAt (w : WF σ) {k : Nat} (hk : k < σ 3) : f_X11_orderAt (nI k) st (nI (σ 3)) (aO od σ) = some (nI (σ (67 + k)), nI 0) := by
  have h3 := w.c3
  unfold f_X11_orderAt
  rw [if_neg (by rw [nI_lt0 (by omega)]; exact id), if_pos (by rw [nI_lt' (by omega) (by omega)]; exact hk)]
  simp (disch := omega) only [gi_n, nI_cl, aO_in, ans11, bd_s]
theorem u_next (w : WF σ) (hfu : 100 < fu) : ∃ s, f_X11_next fu st (nI (σ 3)) (nI (σ 8)) (nI (σ 6)) (aO od σ) = some (oI ((sNext σ).map (fun p => σ (67 + p))), s) := by
  have h3 := w.c3
  unfold f_X11_next
  simp (disch := omega) only [c_nextPlace w, bd_s]
  cases h : sNext σ with
  | none =>
    simp only [oI_nm1, if_true, ref11, bd_s]
    exact ⟨_, rfl⟩
  | some p =>
    have hp := sNext_lt h
    simp (disch := omega) only [oI_s, nI_ne_m1, if_false, gi_n, nI_cl, aO_in, ans11, bd_s]
    exact ⟨_, rfl⟩
theorem u_page2 (w : WF σ) {p : Nat} (hp : p < σ 2) : f_X11_page (nI p) (nI 2) st (nI (σ 2)) (aX xx σ) (aS sd σ) (aU us σ) (aR rm σ) = some (nI (sFree σ p), nI 0) := by
  have h2 := w.c2
  unfold f_X11_page
  simp (disch := omega) only [c_hasPage, inR_y, bd_s, bI_0, if_false, Bool.true_eq_false, nI_eq', if_neg, if_pos, c_freeOf w, ans11, if_true]
theorem u_page3 (w : WF σ) {p : Nat} (hp : p < σ 2) : f_X11_page (nI p) (nI 3) st (nI (σ 2)) (aX xx σ) (aS sd σ) (aU us σ) (aR rm σ) = some (nI (sStg σ p), nI 0) := by
  have h2 := w.c2
  unfold f_X11_page
  simp (disch := omega) only [c_hasPage, inR_y, bd_s, bI_0, if_false, Bool.true_eq_false, nI_eq', if_neg, if_pos, gi_n, nI_cl, aS_in, ans11, if_true]
def sAll6 (σ : Nat → Nat) : Nat := sPr σ 0 + sPr σ 1 + sPr σ 2 + sPr σ 3 + sPr σ 4 + sPr σ 5
theorem u_many3 (hfu : 100 < fu) : f_X11_many fu (nI 3) st (nI (σ 0)) (nI (σ 1)) (nI (σ 2)) (nI (σ 3)) (nI (σ 6)) (nI (σ 7)) (nI (σ 4)) (nI (σ 5)) (aU us σ) = some (nI (σ 3), nI 0) := by
  unfold f_X11_many
  simp (disch := omega) only [nI_eq', nI_le', if_pos, if_neg, c_usedInAll, bd_s, ans11, if_true]
theorem u_many4 (hfu : 100 < fu) : f_X11_many fu (nI 4) st (nI (σ 0)) (nI (σ 1)) (nI (σ 2)) (nI (σ 3)) (nI (σ 6)) (nI (σ 7)) (nI (σ 4)) (nI (σ 5)) (aU us σ) = some (nI (σ 4), nI 0) := by
  unfold f_X11_many
  simp (disch := omega) only [nI_eq', nI_le', if_pos, if_neg, c_usedInAll, bd_s, ans11, if_true]
theorem u_many5 (hfu : 100 < fu) : f_X11_many fu (nI 5) st (nI (σ 0)) (nI (σ 1)) (nI (σ 2)) (nI (σ 3)) (nI (σ 6)) (nI (σ 7)) (nI (σ 4)) (nI (σ 5)) (aU us σ) = some (nI (sAll6 σ), nI 0) := by
  unfold f_X11_many
  simp (disch := omega) only [nI_eq', nI_le', if_pos, if_neg, c_usedInAll, bd_s, ans11, if_true]
  rfl
theorem u_many6 (hfu : 100 < fu) : f_X11_many fu (nI 6) st (nI (σ 0)) (nI (σ 1)) (nI (σ 2)) (nI (σ 3)) (nI (σ 6)) (nI (σ 7)) (nI (σ 4)) (nI (σ 5)) (aU us σ) = some (nI (σ 5), nI 0) := by
  unfold f_X11_many
  simp (disch := omega) only [nI_eq', nI_le', if_pos, if_neg, c_usedInAll, bd_s, ans11, if_true]
theorem u_many8 (hfu : 100 < fu) : f_X11_many fu (nI 8) st (nI (σ 0)) (nI (σ 1)) (nI (σ 2)) (nI (σ 3)) (nI (σ 6)) (nI (σ 7)) (nI (σ 4)) (nI (σ 5)) (aU us σ) = some (nI (σ 7), nI 0) := by
  unfold f_X11_many
  simp (disch := omega) only [nI_eq', nI_le', if_pos, if_neg, c_usedInAll, bd_s, ans11, if_true]
theorem u_cell3 (w : WF σ) {k : Nat} (hk : k < σ 0) (hfu : 100 < fu) : f_X11_cell fu (nI k) (nI 3) st (nI (σ 0)) (nI (sB σ)) (nI (sR σ)) (nI (σ 3)) (aK kn σ) (aM md σ) (aO od σ) (aP sp σ) = some (nI (σ (33 + k)), nI 0) := by
  have h0 := w.c0
  unfold f_X11_cell
  simp (disch := omega) only [c_hasCell, inR_y, bd_s, bI_0, if_false, Bool.true_eq_false, nI_eq', if_neg, if_pos, gi_n, nI_cl, aK_in, ans11, if_true]
theorem u_cell5 (w : WF σ) {k : Nat} (hk : k < σ 0) (hfu : 100 < fu) : f_X11_cell fu (nI k) (nI 5) st (nI (σ 0)) (nI (sB σ)) (nI (sR σ)) (nI (σ 3)) (aK kn σ) (aM md σ) (aO od σ) (aP sp σ) = some (nI (σ (41 + k)), nI 0) := by
  have h0 := w.c0
  unfold f_X11_cell
  simp (disch := omega) only [c_hasCell, inR_y, bd_s, bI_0, if_false, Bool.true_eq_false, nI_eq', if_neg, if_pos, gi_n, nI_cl, aM_in, ans11, if_true]
theorem u_when (w : WF σ) {k s : Nat} (hk : k < σ 0) (hs : s < σ 1) (hfu : 2000 < fu) : ∃ o, f_X11_when fu (nI k) (nI s) st q1 q2 q3 q4 q5 q6 q7 q8 q9 q10 q11 q12 q13 (nI (σ 0)) (nI (σ 1)) (nI (σ 2)) (nI (sB σ)) (nI (sR σ)) (aL lt σ) (nI (σ 3)) (nI (σ 8)) (nI (σ 6)) (nI (σ 7)) (nI (σ 4)) (nI (σ 5)) (aD dt σ) (aK kn σ) (aM md σ) (aO od σ) (aX xx σ) (aS sd σ) (aU us σ) (aR rm σ) (aP sp σ) = some (oI (sTill σ (2 ^ k) (2 ^ s) 999), o) := by
  have h0 := w.c0
  have h1 := w.c1
  have hC : 2 ^ k < 2 ^ 8 := pw_lt (by omega)
  have hS : 2 ^ s < 2 ^ 6 := pw_lt (by omega)
  unfold f_X11_when
  simp (disch := omega) only [c_hasCell, c_hasSecret, inR_y, bd_s, bI_0, if_false, Bool.true_eq_false]
  obtain ⟨⟨o1, o2, o3, o4, o5, o6, o7, o8, o9, o10, o11, o12, o13⟩, hc⟩ := c_turnsTill (q1 := q1) (q2 := q2) (q3 := q3) (q4 := q4) (q5 := q5) (q6 := q6) (q7 := q7) (q8 := q8) (q9 := q9) (q10 := q10) (q11 := q11) (q12 := q12) (q13 := q13) (dt := dt) (kn := kn) (md := md) (od := od) (xx := xx) (sd := sd) (us := us) (lt := lt) (rm := rm) (sp := sp) (fu := fu) w (C := 2 ^ k) (S := 2 ^ s) (by omega) (by omega) hfu
  have hb := till_b (σ := σ) (C := 2 ^ k) (S := 2 ^ s) (most := 999) (by omega)
  simp (disch := omega) only [nI_1shl, hc, bd_s, ansAny _ _ hb]
  exact ⟨_, rfl⟩
theorem u_heard (w : WF σ) {s : Nat} (hs : s < σ 1) (hfu : 2000 < fu) : ∃ o, f_X11_heard fu (nI s) st q1 q2 q3 q4 q5 q6 q7 q8 q9 q10 q11 q12 q13 (nI (σ 0)) (nI (σ 1)) (nI (σ 2)) (nI (sB σ)) (nI (sR σ)) (aL lt σ) (nI (σ 3)) (nI (σ 8)) (nI (σ 6)) (nI (σ 7)) (nI (σ 4)) (nI (σ 5)) (aD dt σ) (aK kn σ) (aM md σ) (aO od σ) (aX xx σ) (aS sd σ) (aU us σ) (aR rm σ) (aP sp σ) = some (oI (sTill σ (sSee σ) (2 ^ s) 999), o) := by
  have h1 := w.c1
  have hsee := sSee_lt w
  have hS : 2 ^ s < 2 ^ 6 := pw_lt (by omega)
  unfold f_X11_heard
  simp (disch := omega) only [c_hasSecret, inR_y, bd_s, bI_0, if_false, Bool.true_eq_false, c_seeing w]
  obtain ⟨⟨o1, o2, o3, o4, o5, o6, o7, o8, o9, o10, o11, o12, o13⟩, hc⟩ := c_turnsTill (q1 := q1) (q2 := q2) (q3 := q3) (q4 := q4) (q5 := q5) (q6 := q6) (q7 := q7) (q8 := q8) (q9 := q9) (q10 := q10) (q11 := q11) (q12 := q12) (q13 := q13) (dt := dt) (kn := kn) (md := md) (od := od) (xx := xx) (sd := sd) (us := us) (lt := lt) (rm := rm) (sp := sp) (fu := fu) w (C := sSee σ) (S := 2 ^ s) (by omega) (by omega) hfu
  have hb := till_b (σ := σ) (C := sSee σ) (S := 2 ^ s) (most := 999) (by omega)
  simp (disch := omega) only [nI_1shl, hc, bd_s, ansAny _ _ hb]
  exact ⟨_, rfl⟩
theorem u_all (w : WF σ) (hfu : 2000 < fu) : ∃ o, f_X11_all fu st q1 q2 q3 q4 q5 q6 q7 q8 q9 q10 q11 q12 q13 (nI (σ 0)) (nI (σ 1)) (nI (σ 2)) (nI (sB σ)) (nI (sR σ)) (aL lt σ) (nI (σ 3)) (nI (σ 8)) (nI (σ 6)) (nI (σ 7)) (nI (σ 4)) (nI (σ 5)) (aD dt σ) (aK kn σ) (aM md σ) (aO od σ) (aX xx σ) (aS sd σ) (aU us σ) (aR rm σ) (aP sp σ) = some (oI (sTill σ (sSee σ) (2 ^ σ 1 - 1) 999), o) := by
  have h1 := p6 w.c1
  have hsee := sSee_lt w
  have hS := ones_lt (σ 1)
  unfold f_X11_all
  obtain ⟨⟨o1, o2, o3, o4, o5, o6, o7, o8, o9, o10, o11, o12, o13⟩, hc⟩ := c_turnsTill (q1 := q1) (q2 := q2) (q3 := q3) (q4 := q4) (q5 := q5) (q6 := q6) (q7 := q7) (q8 := q8) (q9 := q9) (q10 := q10) (q11 := q11) (q12 := q12) (q13 := q13) (dt := dt) (kn := kn) (md := md) (od := od) (xx := xx) (sd := sd) (us := us) (lt := lt) (rm := rm) (sp := sp) (fu := fu) w (C := sSee σ) (S := 2 ^ σ 1 - 1) (by omega) (by omega) hfu
  have hb := till_b (σ := σ) (C := sSee σ) (S := 2 ^ σ 1 - 1) (most := 999) (by omega)
  simp (disch := omega) only [c_seeing w, c_allSecrets w, hc, bd_s, ansAny _ _ hb]
  exact ⟨_, rfl⟩
theorem u_later (w : WF σ) {k m : Nat} (hk : k < σ 0) (hm : m ≤ 999) (hfu : 2000 < fu) : ∃ o, f_X11_later fu (nI k) (nI m) st q1 q2 q3 q4 q5 q6 q7 q8 q9 q10 q11 q12 q13 (nI (σ 0)) (nI (σ 1)) (nI (σ 2)) (nI (sB σ)) (nI (sR σ)) (aL lt σ) (nI (σ 3)) (nI (σ 8)) (nI (σ 6)) (nI (σ 7)) (nI (σ 4)) (nI (σ 5)) (aD dt σ) (aK kn σ) (aM md σ) (aO od σ) (aX xx σ) (aS sd σ) (aU us σ) (aR rm σ) (aP sp σ) = some (nI (sIt m σ (33 + k)), o) := by
  have h0 := w.c0
  unfold f_X11_later
  simp (disch := omega) only [c_hasCell, inR_y, bd_s, bI_0, if_false, Bool.true_eq_false]
  rw [if_neg (show ¬ nI m < 0 by rw [nI_lt0 (by omega)]; exact id), if_pos (show nI m ≤ nI 999 by rw [nI_le' (by omega) (by omega)]; exact hm)]
  obtain ⟨o1, o2, o3, o4, o5, o6, o7, o8, o9, o10, o11, o12, o13, hc⟩ := c_behind (q1 := q1) (q2 := q2) (q3 := q3) (q4 := q4) (q5 := q5) (q6 := q6) (q7 := q7) (q8 := q8) (q9 := q9) (q10 := q10) (q11 := q11) (q12 := q12) (q13 := q13) (dt := dt) (kn := kn) (md := md) (od := od) (xx := xx) (sd := sd) (us := us) (lt := lt) (rm := rm) (sp := sp) (fu := fu) w (m := m) (by omega) hfu
  simp (disch := omega) only [hc, bd_s, gi_n, nI_cl, aK_in, ans11]
  exact ⟨_, rfl⟩
theorem u_never (w : WF σ) (hfu : 2000 < fu) : ∃ o, f_X11_never fu st q1 q2 q3 q4 q5 q6 q7 q8 q9 q10 q11 q12 q13 (nI (σ 0)) (nI (σ 1)) (nI (σ 2)) (nI (sB σ)) (nI (sR σ)) (aL lt σ) (nI (σ 3)) (nI (σ 8)) (nI (σ 6)) (nI (σ 7)) (nI (σ 4)) (nI (σ 5)) (aD dt σ) (aK kn σ) (aM md σ) (aO od σ) (aX xx σ) (aS sd σ) (aU us σ) (aR rm σ) (aP sp σ) = some (nI (sNever σ (σ 1)), o) := by
  have h1 := w.c1
  have A : ∀ k j n, j + k = σ 1 → k < n → ∀ (q1 q2 q3 q4 q5 q6 : Int32) (q7 q8 q9 q10 q11 q12 q13 : Nat → Int32), ∃ o, f_X11_never_4 fu (nI (σ 0)) (nI (σ 1)) (nI (σ 2)) (nI (sB σ)) (nI (sR σ)) (aL lt σ) (nI (σ 3)) (nI (σ 8)) (nI (σ 6)) (nI (σ 7)) (nI (σ 4)) (nI (σ 5)) (aD dt σ) (aK kn σ) (aM md σ) (aO od σ) (aX xx σ) (aS sd σ) (aU us σ) (aR rm σ) (aP sp σ) n (nI (sNever σ j)) (nI j) st q1 q2 q3 q4 q5 q6 q7 q8 q9 q10 q11 q12 q13 = some (nI (sNever σ (σ 1)), nI 0, o) := by
    intro k
    induction k with
    | zero =>
      intro j n hj hn q1 q2 q3 q4 q5 q6 q7 q8 q9 q10 q11 q12 q13
      obtain ⟨n, rfl⟩ : ∃ q, n = q + 1 := ⟨n - 1, by omega⟩
      obtain rfl : j = σ 1 := by omega
      simp (disch := omega) only [f_X11_never_4, nI_le', if_pos, ans11, bd_s]
      exact ⟨_, rfl⟩
    | succ k ih =>
      intro j n hj hn q1 q2 q3 q4 q5 q6 q7 q8 q9 q10 q11 q12 q13
      obtain ⟨n, rfl⟩ : ∃ q, n = q + 1 := ⟨n - 1, by omega⟩
      obtain ⟨o1, o2, o3, o4, o5, o6, o7, o8, o9, o10, o11, o12, o13, hc⟩ := c_hear (q1 := q1) (q2 := q2) (q3 := q3) (q4 := q4) (q5 := q5) (q6 := q6) (q7 := q7) (q8 := q8) (q9 := q9) (q10 := q10) (q11 := q11) (q12 := q12) (q13 := q13) (dt := dt) (kn := kn) (md := md) (od := od) (xx := xx) (sd := sd) (us := us) (lt := lt) (rm := rm) (sp := sp) (fu := fu) w (s := j) (by omega) hfu
      simp (disch := omega) only [f_X11_never_4, nI_le', if_neg, c_seeing w, nI_1shl, hc, bd_s, lt_, nI_add, nI_or]
      have e : sNever σ (j + 1) = sNever σ j ||| (if sHear σ j = none then 2 ^ j else 0) := rfl
      cases h : sHear σ j with
      | none =>
        rw [if_pos (show oI none = (-1 : Int32) from rfl)]
        rw [h, if_pos rfl] at e
        rw [← e]
        exact ih (j + 1) n (by omega) (by omega) _ _ _ _ _ _ _ _ _ _ _ _ _
      | some t =>
        have ht := hear_b t h
        rw [if_neg (by rw [oI_s, nI_ne_m1 (by omega)]; exact id)]
        rw [h, if_neg (by simp), Nat.or_zero] at e
        rw [← e]
        exact ih (j + 1) n (by omega) (by omega) _ _ _ _ _ _ _ _ _ _ _ _ _
  obtain ⟨o, ha⟩ := A (σ 1) 0 fu (by omega) (by omega) q1 q2 q3 q4 q5 q6 q7 q8 q9 q10 q11 q12 q13
  exact ⟨_, ha⟩
theorem u_kept (w : WF σ) (hfu : 100 < fu) : f_X11_kept fu st (nI (σ 2)) (nI (σ 7)) (aU us σ) (aR rm σ) = some (oI (sKp σ (σ 2)), nI (if sKp σ (σ 2) = none then 8 else 0)) := by
  have h2 := w.c2
  have hb : ∀ j, sKp σ (σ 2) = some j → j < 2147483648 := fun j h => by have := sKp_lt h; omega
  unfold f_X11_kept
  refine loop_p (fun n j => f_X11_kept_6 fu (nI (σ 2)) (nI (σ 7)) (aU us σ) (aR rm σ) n (oI (sKp σ j)) (match sKp σ j with | none => (-1 : Int32) | some q => nI (sFree σ q)) (nI j) st) (σ 2) _ ?_ ?_ (σ 2) 0 fu (by omega) (by omega)
  · intro n j hj
    have hF := sFree_le w (p := j) (by omega)
    have e : sKp σ (j + 1) = sKpS σ j (sKp σ j) := rfl
    rw [e]
    simp (disch := omega) only [f_X11_kept_6, nI_le', if_neg, c_freeOf w, c_shut w, bd_s, bI_0, lt_, nI_add]
    unfold sKpS
    cases hs : sShut σ j
    · rw [if_pos rfl, if_neg (show ¬ (false = true) by decide)]
      cases hq : sKp σ j with
      | none =>
        simp only
        rw [if_neg (fun h => absurd (Int32.lt_of_lt_of_le (show (-1 : Int32) < 0 by decide) (nI_pos' (n := sFree σ j) (by omega))) (Int32.not_lt.mpr h))]
        rfl
      | some q =>
        have hq2 := sKp_lt hq
        have hF2 := sFree_le w (p := q) (by omega)
        simp only
        by_cases hc : sFree σ j ≤ sFree σ q
        · rw [if_pos (by rw [nI_le' (by omega) (by omega)]; exact hc), if_pos hc]
        · rw [if_neg (by rw [nI_le' (by omega) (by omega)]; exact hc), if_neg hc]; rfl
    · rw [if_neg (show ¬ (true = false) by decide), if_pos (show true = true from rfl)]
  · intro n
    simp (disch := omega) only [f_X11_kept_6, nI_le', if_pos, ansAny _ _ hb, bd_s]
theorem u_hide (w : WF σ) {t : Nat} (ht : t < σ 1) (hfu : 100 < fu) : f_X11_hide fu (nI t) st (nI (σ 1)) (nI (σ 2)) (aL lt σ) (nI (σ 7)) (aX xx σ) (aU us σ) (aR rm σ) = some (oI (sHd σ t (σ 2)), nI (if sHd σ t (σ 2) = none then 8 else 0)) := by
  have h1 := w.c1
  have h2 := w.c2
  have hl := w.le (s := t) (by omega)
  have hb : ∀ j, sHd σ t (σ 2) = some j → j < 2147483648 := fun j h => by have := sHd_lt h; omega
  unfold f_X11_hide
  simp (disch := omega) only [c_hasSecret, inR_y, bd_s, bI_0, if_false, Bool.true_eq_false]
  refine loop_p (fun n j => f_X11_hide_25 fu (nI (σ 1)) (nI (σ 2)) (aL lt σ) (nI (σ 7)) (aX xx σ) (aU us σ) (aR rm σ) n (nI t) (oI (sHd σ t j)) (match sHd σ t j with | none => nI 17 | some q => nI (σ (61 + q))) (nI j) st) (σ 2) _ ?_ ?_ (σ 2) 0 fu (by omega) (by omega)
  · intro n j hj
    have hF := sFree_le w (p := j) (by omega)
    have ho := w.od (p := j) (by omega)
    have e : sHd σ t (j + 1) = sHdS σ t j (sHd σ t j) := rfl
    rw [e]
    simp (disch := omega) only [f_X11_hide_25, f_X11_hide_87, f_X11_hide_88, nI_le', nI_lt', if_neg, c_freeOf w, c_shut w, bd_s, bI_0, lt_, nI_add, gi_n, nI_cl, aL_in, aX_in, nI_eq0]
    unfold sHdS
    cases hs : sShut σ j
    · rw [if_pos rfl]
      by_cases hf : sFree σ j < σ (49 + t)
      · rw [if_pos hf, if_pos (Or.inr hf)]
        rfl
      · have hd : ¬ (false = true ∨ sFree σ j < σ (49 + t)) := fun h => h.elim (fun q => Bool.false_ne_true q) hf
        rw [if_neg hf, if_neg hd]
        cases hq : sHd σ t j with
        | none =>
          simp only
          rw [if_neg (by rw [nI_le' (by omega) (by omega)]; omega)]
          rfl
        | some q =>
          have hq2 := sHd_lt hq
          have ho2 := w.od (p := q) (by omega)
          simp only
          by_cases hc : σ (61 + q) ≤ σ (61 + j)
          · rw [if_pos (by rw [nI_le' (by omega) (by omega)]; exact hc), if_pos hc]
          · rw [if_neg (by rw [nI_le' (by omega) (by omega)]; exact hc), if_neg hc]; rfl
    · rw [if_neg (show ¬ (true = false) by decide), if_pos (Or.inl (show true = true from rfl))]
      rfl
  · intro n
    simp (disch := omega) only [f_X11_hide_25, nI_le', if_pos, ansAny _ _ hb, bd_s]
/-- MIX, as it is told -/
def sMixT (σ : Nat → Nat) (p : Nat) : Nat := match sSafe σ with
  | none => 720720 / σ (61 + p)
  | some q => if p = q then 1 else 0
def sMixB (σ : Nat → Nat) : Nat := match sSafe σ with
  | none => sShare σ 720720 (σ 2)
  | some _ => 1
theorem mixB_pos (w : WF σ) {p : Nat} (hp : p < σ 2) (hst : sShut σ p = false) : 0 < sMixB σ := by
  unfold sMixB
  cases hs : sSafe σ with
  | some q => exact Nat.zero_lt_one
  | none =>
    have h2 := w.c2
    have hpos := safe_pos (sSafe_P.trans hs)
    have q1 := share_pos (σ := σ) (X := 720720) (k := σ 2) (fun p hp hh => ⟨hpos p hp hh, whole_div _ (w.od (by omega)) (hpos p hp hh)⟩) (by decide)
    exact q1.mpr (opM_pos hst hp)
theorem u_mix1 (w : WF σ) {p : Nat} (hp : p < σ 2) (hst : sShut σ p = true) : f_X11_mix fu (nI p) st (nI (σ 2)) (nI (σ 7)) (aX xx σ) ab be2 = some (nI 0, nI 9, ab, be2) := by
  have h2 := w.c2
  unfold f_X11_mix
  simp (disch := omega) only [c_hasPage, inR_y, bd_s, bI_0, if_false, Bool.true_eq_false, c_shut w, hst, den11, gd_0]
theorem u_mix0 (w : WF σ) {p : Nat} (hp : p < σ 2) (hst : sShut σ p = false) (hfu : 300 < fu) : f_X11_mix fu (nI p) st (nI (σ 2)) (nI (σ 7)) (aX xx σ) ab be2 = some (nI 1, nI 0, lN (sMixT σ p / Nat.gcd (sMixT σ p) (sMixB σ)), lN (sMixB σ / Nat.gcd (sMixT σ p) (sMixB σ))) := by
  have h2 := w.c2
  have ho := w.od (p := p) (by omega)
  have hB := mixB_pos w hp hst
  unfold f_X11_mix
  simp (disch := omega) only [c_hasPage, inR_y, bd_s, bI_0, if_false, Bool.true_eq_false, c_shut w, hst, if_true]
  unfold f_X4_tellMix
  rw [c_firstSafe w (by omega), bd_s]
  unfold sMixT sMixB at *
  cases hs : sSafe σ with
  | none =>
    rw [hs] at hB
    replace hB : 0 < sShare σ 720720 (σ 2) := hB
    have hpos := safe_pos (sSafe_P.trans hs)
    have h0 := hpos p hp hst
    have hW := share_b (σ := σ) (X := 720720) (σ 2)
    have hW2 : σ 2 * 720720 ≤ 6 * 720720 := Nat.mul_le_mul_right _ h2
    have hd1 := Nat.div_le_self 720720 (σ (61 + p))
    have hz := lN_ne0 (show σ (61 + p) < 9223372036854775808 by omega) h0
    rw [if_pos (show oI none = (-1 : Int32) from rfl), c_sumOfParts w hs (by omega)]
    unfold f_X4_part
    simp (disch := omega) only [gi_n, nI_cl, aX_in, lt_, nI_eq0, if_neg, nI_l', gd_pos hz, pk_lDiv, bd_s, c_keep, agr11, gd_1]
    exact gd_pos (Or.inr rfl)
  | some q =>
    have hq := sSafeP_lt (sSafe_P.trans hs)
    rw [if_neg (show ¬ oI (some q) = (-1 : Int32) by rw [oI_s, nI_ne_m1 (by omega)]; exact id)]
    simp (disch := omega) only [oI_s, nI_eq']
    by_cases e : p = q
    · rw [if_pos e, if_pos e]
      simp (disch := omega) only [c_keep, bd_s, agr11, gd_1]
    · rw [if_neg e, if_neg e]
      simp (disch := omega) only [c_keep, bd_s, agr11, gd_1]
theorem u_turn (w : WF σ) {m : Nat} (h1 : 1 ≤ m) (h99 : m ≤ 99) (h4 : σ 4 + m ≤ 9999) (hfu : 1000 < fu) : f_X11_turn fu (nI m) st (nI (σ 1)) (nI (σ 2)) (nI (sB σ)) (nI (sR σ)) (aL lt σ) (nI (σ 3)) (nI (σ 8)) (nI (σ 6)) (nI (σ 7)) (nI (σ 4)) (nI (σ 5)) (aD dt σ) (aK kn σ) (aM md σ) (aO od σ) (aS sd σ) (aU us σ) (aR rm σ) (aP sp σ)
      = some (nI (sIt m σ 4), nI 0, nI (sIt m σ 8), nI (sIt m σ 4), nI (sIt m σ 5), aD dt (sIt m σ), aK kn (sIt m σ), aM md (sIt m σ), aS sd (sIt m σ), aU us (sIt m σ)) := by
  unfold f_X11_turn
  rw [if_neg (show ¬ nI m < nI 1 by rw [nI_lt' (by omega) (by omega)]; omega), if_pos (show nI m ≤ nI 99 by rw [nI_le' (by omega) (by omega)]; exact h99), nI_add, if_pos (show nI (σ 4 + m) ≤ nI 9999 by rw [nI_le' (by omega) (by omega)]; exact h4)]
  have hP := c_passMany (dt := dt) (kn := kn) (md := md) (sd := sd) (us := us) (lt := lt) (rm := rm) (sp := sp) (od := od) (fu := fu) w (m := m) (by omega) (by omega)
  rw [hP, bd_s]
  simp only [ans11, bd_s]
theorem u_rub (w : WF σ) {p : Nat} (hp : p < σ 2) (hfu : 100 < fu) : ∃ r s, f_X11_rub fu (nI p) st (nI (σ 2)) (aD dt σ) (aS sd σ) (aU us σ) = some (r, s, aD dt (sErase σ p), aS sd (sErase σ p), aU us (sErase σ p)) := by
  have h2 := w.c2
  have hr := w.ro (p := p) (by omega)
  have hu := w.us (p := p) (by omega)
  unfold f_X11_rub
  simp (disch := omega) only [c_hasPage, inR_y, bd_s, bI_0, if_false, Bool.true_eq_false, c_erasePage w, nI_eq0, ref11, ans11]
  split <;> exact ⟨_, _, rfl⟩
def sFlip7 (σ : Nat → Nat) (p : Nat) (b : Bool) : Nat → Nat := if sShut σ p = b then σ else up σ 7 (σ 7 ^^^ 2 ^ p)
def sFlip6 (σ : Nat → Nat) (p : Nat) (b : Bool) : Nat → Nat := if (σ 6).testBit p = b then σ else up σ 6 (σ 6 ^^^ 2 ^ p)
theorem u_damp (w : WF σ) {p : Nat} {b : Bool} (hp : p < σ 2) : ∃ r s, f_X11_damp (nI p) (bI b) st (nI (σ 2)) (nI (σ 7)) = some (r, s, nI (sFlip7 σ p b 7)) := by
  have h2 := w.c2
  have h7 := w.c7
  unfold f_X11_damp sFlip7
  simp (disch := omega) only [c_hasPage, inR_y, bd_s, bI_0, if_false, Bool.true_eq_false, c_shut w, bI_inj]
  by_cases e : sShut σ p = b
  · rw [if_pos e, if_pos e]
    simp only [den11, bd_s, gd_0]
    exact ⟨_, _, rfl⟩
  · rw [if_neg e, if_neg e]
    simp (disch := omega) only [nI_1shl, nI_xor, lt_, agr11, bd_s, gd_1, up_s]
    exact ⟨_, _, rfl⟩
theorem u_ill (w : WF σ) {k : Nat} {b : Bool} (hk : k < σ 0) : ∃ r s, f_X11_ill (nI k) (bI b) st (nI (σ 0)) (nI (σ 6)) = some (r, s, nI (sFlip6 σ k b 6)) := by
  have h0 := w.c0
  have h6 := w.c6
  unfold f_X11_ill sFlip6
  simp (disch := omega) only [c_hasCell, inR_y, bd_s, bI_0, if_false, Bool.true_eq_false, has7, bI_inj]
  by_cases e : (σ 6).testBit k = b
  · rw [if_pos e, if_pos e]
    simp only [den11, bd_s, gd_0]
    exact ⟨_, _, rfl⟩
  · rw [if_neg e, if_neg e]
    simp (disch := omega) only [nI_1shl, nI_xor, lt_, agr11, bd_s, gd_1, up_s]
    exact ⟨_, _, rfl⟩
theorem wf_flip7 (w : WF σ) {p : Nat} {b : Bool} (hp : p < σ 2) : WF (sFlip7 σ p b) := by
  have h2 := w.c2
  unfold sFlip7
  split
  · exact w
  · exact wf_7 w (xor_lt (n := 6) w.c7 (pw_lt (by omega)))
theorem wf_flip6 (w : WF σ) {p : Nat} {b : Bool} (hp : p < σ 0) : WF (sFlip6 σ p b) := by
  have h0 := w.c0
  unfold sFlip6
  split
  · exact w
  · exact wf_6 w (xor_lt (n := 8) w.c6 (pw_lt (by omega)))
theorem u_move (w : WF σ) {a b : Nat} (ha : a < σ 0) (hb : b < σ 0) (hfu : 100 < fu) : ∃ s, f_X11_move fu (nI a) (nI b) st (nI (σ 0)) (nI (σ 3)) (aO od σ) = some (bI (sMove σ a b).1, s, aO od (sMove σ a b).2) := by
  have h0 := w.c0
  unfold f_X11_move
  simp (disch := omega) only [c_hasCell, inR_y, bd_s, bI_0, if_false, Bool.true_eq_false, c_swapPlaces w]
  cases hm : (sMove σ a b).1
  · rw [if_pos rfl]
    simp only [den11, bd_s, gd_0]
    exact ⟨_, rfl⟩
  · rw [if_neg (show ¬ (true = false) by decide)]
    simp only [agr11, bd_s, gd_1]
    exact ⟨_, rfl⟩
/-- the BEST ORDER: its TURNS and its list -/
def sBest (σ : Nat → Nat) : Option (Nat × List Nat) := bf σ none (lvs 8 (σ 3) (sMk σ))
theorem bs_BO {b : Option (Nat × List Nat)} (h : BO b) (L : List Nat) : BO (bs σ b L) := by
  intro u L2 e
  unfold bs at e
  cases hv : sV σ L with
  | none => rw [hv] at e; exact h u L2 e
  | some v =>
    have hv9 := sV_le hv
    rw [hv] at e
    cases b with
    | none => cases e; exact hv9
    | some z =>
      obtain ⟨u0, L0⟩ := z
      simp only at e
      split at e
      · cases e; exact hv9
      · cases e; exact h _ _ rfl
theorem bf_BO : ∀ {r : List (List Nat)} {b : Option (Nat × List Nat)}, BO b → BO (bf σ b r)
  | [], _, h => h
  | L :: r, b, h => bf_BO (r := r) (bs_BO h L)
theorem sBest_le : BO (sBest σ) := bf_BO (fun u L h => by cases h)
theorem u_bestOrder (w : WF σ) (h6 : σ 3 ≤ 6) (hfu : 2000 < fu) : ∃ s bm' be' o, f_X11_bestOrder fu st bm be q1 q2 q3 q4 q5 q6 q7 q8 q9 q10 q11 q12 q13 tr (nI (σ 0)) (nI (σ 1)) (nI (σ 2)) (nI (sB σ)) (nI (sR σ)) (aL lt σ) (nI (σ 3)) (nI (σ 8)) (nI (σ 6)) (nI (σ 7)) (nI (σ 4)) (nI (σ 5)) (aD dt σ) (aK kn σ) (aM md σ) (aO od σ) (aX xx σ) (aS sd σ) (aU us σ) (aR rm σ) (aP sp σ) = some (oI ((sBest σ).map Prod.fst), s, bm', be', o) ∧ BR (σ 3) bm be (sBest σ) bm' be' := by
  have h3 := w.c3
  obtain ⟨bm', be', o, ec, Bc⟩ := c_seekBest (dt := dt) (kn := kn) (md := md) (od := od) (xx := xx) (sd := sd) (us := us) (lt := lt) (rm := rm) (sp := sp) (q1 := q1) (q2 := q2) (q3 := q3) (q4 := q4) (q5 := q5) (q6 := q6) (q7 := q7) (q8 := q8) (q9 := q9) (q10 := q10) (q11 := q11) (q12 := q12) (q13 := q13) (bm0 := bm) (be0 := be) (tr := tr) w h6 hfu
  obtain ⟨o1, o2, o3, o4, o5, o6, o7, o8, o9, o10, o11, o12, o13, o14⟩ := o
  have hbd : ∀ j, (sBest σ).map Prod.fst = some j → j < 2147483648 := fun j hj => by
    cases hbf : sBest σ with
    | none => rw [hbf] at hj; cases hj
    | some z =>
      obtain ⟨u, L⟩ := z
      have hu := sBest_le u L hbf
      rw [hbf] at hj
      cases hj
      show u < 2147483648
      omega
  unfold f_X11_bestOrder
  rw [if_pos (by rw [nI_le' (by omega) (by omega)]; exact h6), ec, bd_s]
  simp only
  have ea : f_X11_answerIfAny (rtB (bf σ none (lvs 8 (σ 3) (sMk σ)))) st = some (oI ((sBest σ).map Prod.fst), nI (if (sBest σ).map Prod.fst = none then 8 else 0)) := ansAny ((sBest σ).map Prod.fst) st hbd
  rw [ea, bd_s]
  exact ⟨_, _, _, _, rfl, Bc⟩
theorem u_bestAt {m k : Nat} (hm : m ≤ 6) (hk : k < m) : f_X11_bestAt (nI k) st (nI m) be = some (be k, nI 0) := by
  unfold f_X11_bestAt
  rw [if_neg (by rw [nI_lt0 (by omega)]; exact id), if_pos (by rw [nI_lt' (by omega) (by omega)]; exact hk)]
  simp (disch := omega) only [gi_n, nI_cl, ans11, bd_s]
end UC
