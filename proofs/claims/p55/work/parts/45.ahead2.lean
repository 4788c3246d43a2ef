/-! NEVER, the first that is HEARD; KEPT, HIDE -/
def sHear (σ : Nat → Nat) (s : Nat) : Option Nat := sTill σ (sSee σ) (2 ^ s) 999
def sNever (σ : Nat → Nat) : Nat → Nat
  | 0 => 0
  | k + 1 => sNever σ k ||| (if sHear σ k = none then 2 ^ k else 0)
def sFstS (σ : Nat → Nat) (s : Nat) (b : Option (Nat × Nat)) : Option (Nat × Nat) :=
  match sHear σ s with
  | none => b
  | some t => match b with
    | none => some (s, t)
    | some q => if t < q.2 then some (s, t) else some q
def sFst (σ : Nat → Nat) : Nat → Option (Nat × Nat)
  | 0 => none
  | k + 1 => sFstS σ k (sFst σ k)
theorem sFst_lt {σ : Nat → Nat} : ∀ {k : Nat} {q : Nat × Nat}, sFst σ k = some q → q.1 < k ∧ q.2 ≤ 999
  | 0, _, h => by cases h
  | k + 1, q, h => by
    unfold sFst sFstS at h
    split at h
    · have := sFst_lt h
      exact ⟨by omega, this.2⟩
    · rename_i t ht
      have htl := sTill_le ht
      split at h
      · cases h; exact ⟨by simp only; omega, htl⟩
      · rename_i q' hq'
        split at h
        · cases h; exact ⟨by simp only; omega, htl⟩
        · cases h
          have := sFst_lt hq'
          exact ⟨by omega, this.2⟩
section NE
variable {c kp : Nat → Int32} {σ : Nat → Nat} {x1 x2 st st2 th : Int32} {fu C S : Nat} {dt kn md od xx sd us lt rm sp : Nat → Int32} {q1 q2 q3 q4 q5 q6 : Int32} {q7 q8 q9 q10 q11 q12 q13 : Nat → Int32}
theorem c_hear (w : WF σ) {s : Nat} (hs : s < σ 1) (hfu : 2000 < fu) : ∃ o1 o2 o3 o4 o5 o6 o7 o8 o9 o10 o11 o12 o13, f_X0_turnsTill fu (nI (sSee σ)) (nI (2 ^ s)) q1 q2 q3 q4 q5 q6 q7 q8 q9 q10 q11 q12 q13 (nI (σ 1)) (nI (σ 2)) (nI (sB σ)) (nI (sR σ)) (aL lt σ) (nI (σ 3)) (nI (σ 8)) (nI (σ 6)) (nI (σ 7)) (nI (σ 4)) (nI (σ 5)) (aD dt σ) (aK kn σ) (aM md σ) (aO od σ) (aX xx σ) (aS sd σ) (aU us σ) (aR rm σ) (aP sp σ)
    = some (oI (sHear σ s), o1, o2, o3, o4, o5, o6, o7, o8, o9, o10, o11, o12, o13) := by
  have h1 := w.c1
  have hsee := sSee_lt w
  have hS : 2 ^ s < 2 ^ 6 := pw_lt (by omega)
  obtain ⟨⟨o1, o2, o3, o4, o5, o6, o7, o8, o9, o10, o11, o12, o13⟩, hc⟩ := c_turnsTill (q1 := q1) (q2 := q2) (q3 := q3) (q4 := q4) (q5 := q5) (q6 := q6) (q7 := q7) (q8 := q8) (q9 := q9) (q10 := q10) (q11 := q11) (q12 := q12) (q13 := q13) (dt := dt) (kn := kn) (md := md) (od := od) (xx := xx) (sd := sd) (us := us) (lt := lt) (rm := rm) (sp := sp) (fu := fu) w (C := sSee σ) (S := 2 ^ s) (by omega) (by omega) hfu
  exact ⟨_, _, _, _, _, _, _, _, _, _, _, _, _, hc⟩
theorem m_hear (w : WF σ) {s : Nat} (hs : s < σ 1) (hfu : 2000 < fu) : f_X12_turnWith fu (-1 : Int32) (nI (2 ^ s)) (nI 999) (mk c σ) kp = some (oI (sHear σ s), mk c σ, mk kp σ) :=
  m_turnWithA w (pw_lt hs) (by omega) (by omega)
theorem hear_b {s : Nat} : ∀ j, sHear σ s = some j → j ≤ 999 := fun _ h => sTill_le h
theorem r_never (w : WF σ) (hfu : 2000 < fu) : ∃ r s o kp', f_X11_never fu st q1 q2 q3 q4 q5 q6 q7 q8 q9 q10 q11 q12 q13 (nI (σ 0)) (nI (σ 1)) (nI (σ 2)) (nI (sB σ)) (nI (sR σ)) (aL lt σ) (nI (σ 3)) (nI (σ 8)) (nI (σ 6)) (nI (σ 7)) (nI (σ 4)) (nI (σ 5)) (aD dt σ) (aK kn σ) (aM md σ) (aO od σ) (aX xx σ) (aS sd σ) (aU us σ) (aR rm σ) (aP sp σ) = some (r, s, o)
    ∧ f_X12_never fu st2 th (mk c σ) kp = some (r, s, nI 0, mk c σ, kp') := by
  have h1 := w.c1
  have A : ∀ k j n, j + k = σ 1 → k < n → ∀ (q1 q2 q3 q4 q5 q6 : Int32) (q7 q8 q9 q10 q11 q12 q13 : Nat → Int32), ∃ o, f_X11_never_4 fu (nI (σ 0)) (nI (σ 1)) (nI (σ 2)) (nI (sB σ)) (nI (sR σ)) (aL lt σ) (nI (σ 3)) (nI (σ 8)) (nI (σ 6)) (nI (σ 7)) (nI (σ 4)) (nI (σ 5)) (aD dt σ) (aK kn σ) (aM md σ) (aO od σ) (aX xx σ) (aS sd σ) (aU us σ) (aR rm σ) (aP sp σ) n (nI (sNever σ j)) (nI j) st q1 q2 q3 q4 q5 q6 q7 q8 q9 q10 q11 q12 q13 = some (nI (sNever σ (σ 1)), nI 0, o) := by
    intro k
    induction k with
    | zero =>
      intro j n hj hn q1 q2 q3 q4 q5 q6 q7 q8 q9 q10 q11 q12 q13
      obtain ⟨n, rfl⟩ : ∃ q, n = q + 1 := ⟨n - 1, by omega⟩
      obtain rfl : j = σ 1 := by omega
      simp (disch := omega) only [f_X11_never_4, nI_le', if_pos, ans11, bd_s]
      exact ⟨_, rfl⟩
    | succ k ih =>
      intro j n hj hn q1 q2 q3 q4 q5 q6 q7 q8 q9 q10 q11 q12 q13
      obtain ⟨n, rfl⟩ : ∃ q, n = q + 1 := ⟨n - 1, by omega⟩
      obtain ⟨o1, o2, o3, o4, o5, o6, o7, o8, o9, o10, o11, o12, o13, hc⟩ := c_hear (q1 := q1) (q2 := q2) (q3 := q3) (q4 := q4) (q5 := q5) (q6 := q6) (q7 := q7) (q8 := q8) (q9 := q9) (q10 := q10) (q11 := q11) (q12 := q12) (q13 := q13) (dt := dt) (kn := kn) (md := md) (od := od) (xx := xx) (sd := sd) (us := us) (lt := lt) (rm := rm) (sp := sp) (fu := fu) w (s := j) (by omega) hfu
      simp (disch := omega) only [f_X11_never_4, nI_le', if_neg, c_seeing w, nI_1shl, hc, bd_s, lt_, nI_add, nI_or]
      have e : sNever σ (j + 1) = sNever σ j ||| (if sHear σ j = none then 2 ^ j else 0) := rfl
      cases h : sHear σ j with
      | none =>
        rw [if_pos (show oI none = (-1 : Int32) from rfl)]
        rw [h, if_pos rfl] at e
        rw [← e]
        exact ih (j + 1) n (by omega) (by omega) _ _ _ _ _ _ _ _ _ _ _ _ _
      | some t =>
        have ht := hear_b t h
        rw [if_neg (by rw [oI_s, nI_ne_m1 (by omega)]; exact id)]
        rw [h, if_neg (by simp), Nat.or_zero] at e
        rw [← e]
        exact ih (j + 1) n (by omega) (by omega) _ _ _ _ _ _ _ _ _ _ _ _ _
  have B : ∀ k j n, j + k = σ 1 → k < n → ∀ kp : Nat → Int32, ∃ kp', f_X12_never_14 fu n (nI (sNever σ j)) (nI j) (nI 0) (nI 0) (mk c σ) kp = some (nI (sNever σ (σ 1)), nI 0, nI 0, mk c σ, kp') := by
    intro k
    induction k with
    | zero =>
      intro j n hj hn kp
      obtain ⟨n, rfl⟩ : ∃ q, n = q + 1 := ⟨n - 1, by omega⟩
      obtain rfl : j = σ 1 := by omega
      simp (disch := omega) only [f_X12_never_14, gi_n, nI_cl, mk_in, nI_le', if_pos]
      exact ⟨_, rfl⟩
    | succ k ih =>
      intro j n hj hn kp
      obtain ⟨n, rfl⟩ : ∃ q, n = q + 1 := ⟨n - 1, by omega⟩
      simp (disch := omega) only [f_X12_never_14, gi_n, nI_cl, mk_in, nI_le', if_neg, nI_1shl, m_hear w, bd_s, lt_, nI_add, nI_or]
      have e : sNever σ (j + 1) = sNever σ j ||| (if sHear σ j = none then 2 ^ j else 0) := rfl
      cases h : sHear σ j with
      | none =>
        rw [if_neg (by rw [oI_n0le]; exact id)]
        rw [h, if_pos rfl] at e
        rw [← e]
        exact ih (j + 1) n (by omega) (by omega) _
      | some t =>
        have ht := hear_b t h
        rw [if_pos (by rw [oI_s, nI_0le (by omega)]; trivial)]
        rw [h, if_neg (by simp)] at e
        rw [← e]
        exact ih (j + 1) n (by omega) (by omega) _
  obtain ⟨o, ha⟩ := A (σ 1) 0 fu (by omega) (by omega) q1 q2 q3 q4 q5 q6 q7 q8 q9 q10 q11 q12 q13
  obtain ⟨kp', hb⟩ := B (σ 1) 0 fu (by omega) (by omega) kp
  exact ⟨_, _, o, kp', ha, hb⟩
theorem r_firstHeard (w : WF σ) (hfu : 2000 < fu) : ∃ r s o kp', f_X11_firstHeard fu st q1 q2 q3 q4 q5 q6 q7 q8 q9 q10 q11 q12 q13 (nI (σ 0)) (nI (σ 1)) (nI (σ 2)) (nI (sB σ)) (nI (sR σ)) (aL lt σ) (nI (σ 3)) (nI (σ 8)) (nI (σ 6)) (nI (σ 7)) (nI (σ 4)) (nI (σ 5)) (aD dt σ) (aK kn σ) (aM md σ) (aO od σ) (aX xx σ) (aS sd σ) (aU us σ) (aR rm σ) (aP sp σ) = some (r, s, o)
    ∧ f_X12_firstHeard fu st2 th (mk c σ) kp = some (r, s, nI 0, mk c σ, kp') := by
  have h1 := w.c1
  have hfb : ∀ j, (sFst σ (σ 1)).map Prod.fst = some j → j < 2147483648 := by
    intro j hj
    cases h : sFst σ (σ 1) with
    | none => rw [h] at hj; cases hj
    | some q =>
      rw [h] at hj
      cases hj
      have := sFst_lt h
      omega
  have A : ∀ k j n, j + k = σ 1 → k < n → ∀ (q1 q2 q3 q4 q5 q6 : Int32) (q7 q8 q9 q10 q11 q12 q13 : Nat → Int32), ∃ o, f_X11_firstHeard_8 fu (nI (σ 0)) (nI (σ 1)) (nI (σ 2)) (nI (sB σ)) (nI (sR σ)) (aL lt σ) (nI (σ 3)) (nI (σ 8)) (nI (σ 6)) (nI (σ 7)) (nI (σ 4)) (nI (σ 5)) (aD dt σ) (aK kn σ) (aM md σ) (aO od σ) (aX xx σ) (aS sd σ) (aU us σ) (aR rm σ) (aP sp σ) n (oI ((sFst σ j).map Prod.fst)) (match sFst σ j with | none => nI 1000 | some q => nI q.2) (nI j) st q1 q2 q3 q4 q5 q6 q7 q8 q9 q10 q11 q12 q13 = some (oI ((sFst σ (σ 1)).map Prod.fst), nI (if (sFst σ (σ 1)).map Prod.fst = none then 8 else 0), o) := by
    intro k
    induction k with
    | zero =>
      intro j n hj hn q1 q2 q3 q4 q5 q6 q7 q8 q9 q10 q11 q12 q13
      obtain ⟨n, rfl⟩ : ∃ q, n = q + 1 := ⟨n - 1, by omega⟩
      obtain rfl : j = σ 1 := by omega
      simp (disch := omega) only [f_X11_firstHeard_8, nI_le', if_pos, ansAny _ _ hfb, bd_s]
      exact ⟨_, rfl⟩
    | succ k ih =>
      intro j n hj hn q1 q2 q3 q4 q5 q6 q7 q8 q9 q10 q11 q12 q13
      obtain ⟨n, rfl⟩ : ∃ q, n = q + 1 := ⟨n - 1, by omega⟩
      obtain ⟨o1, o2, o3, o4, o5, o6, o7, o8, o9, o10, o11, o12, o13, hc⟩ := c_hear (q1 := q1) (q2 := q2) (q3 := q3) (q4 := q4) (q5 := q5) (q6 := q6) (q7 := q7) (q8 := q8) (q9 := q9) (q10 := q10) (q11 := q11) (q12 := q12) (q13 := q13) (dt := dt) (kn := kn) (md := md) (od := od) (xx := xx) (sd := sd) (us := us) (lt := lt) (rm := rm) (sp := sp) (fu := fu) w (s := j) (by omega) hfu
      simp (disch := omega) only [f_X11_firstHeard_8, nI_le', if_neg, c_seeing w, nI_1shl, hc, bd_s, lt_, nI_add]
      have ih' := ih (j + 1) n (by omega) (by omega) o1 o2 o3 o4 o5 o6 o7 o8 o9 o10 o11 o12 o13
      have e : sFst σ (j + 1) = sFstS σ j (sFst σ j) := rfl
      rw [e] at ih'
      unfold sFstS at ih'
      cases h : sHear σ j with
      | none =>
        rw [if_pos (show oI none = (-1 : Int32) from rfl)]
        rw [h] at ih'
        exact ih'
      | some t =>
        have ht := hear_b t h
        rw [if_neg (by rw [oI_s, nI_ne_m1 (by omega)]; exact id)]
        rw [h] at ih'
        simp only at ih'
        cases hq : sFst σ j with
        | none =>
          rw [hq] at ih'
          simp only at ih' ⊢
          rw [if_neg (by rw [oI_s, nI_le' (by omega) (by omega)]; omega)]
          exact ih'
        | some q =>
          have hq2 := sFst_lt hq
          rw [hq] at ih'
          simp only at ih' ⊢
          by_cases hlt : t < q.2
          · rw [if_neg (by rw [oI_s, nI_le' (by omega) (by omega)]; omega)]
            rw [if_pos hlt] at ih'
            exact ih'
          · rw [if_pos (by rw [oI_s, nI_le' (by omega) (by omega)]; omega)]
            rw [if_neg hlt] at ih'
            exact ih'
  have B : ∀ k j n, j + k = σ 1 → k < n → ∀ kp : Nat → Int32, ∃ kp', f_X12_firstHeard_16 fu n (oI ((sFst σ j).map Prod.fst)) (match sFst σ j with | none => nI 0 | some q => nI q.2) (nI j) (nI 0) (nI 0) (mk c σ) kp = some (oI ((sFst σ (σ 1)).map Prod.fst), nI (if (sFst σ (σ 1)).map Prod.fst = none then 8 else 0), nI 0, mk c σ, kp') := by
    intro k
    induction k with
    | zero =>
      intro j n hj hn kp
      obtain ⟨n, rfl⟩ : ∃ q, n = q + 1 := ⟨n - 1, by omega⟩
      obtain rfl : j = σ 1 := by omega
      simp (disch := omega) only [f_X12_firstHeard_16, gi_n, nI_cl, mk_in, nI_le', if_pos]
      exact ⟨kp, tell_m _ hfb _ _⟩
    | succ k ih =>
      intro j n hj hn kp
      obtain ⟨n, rfl⟩ : ∃ q, n = q + 1 := ⟨n - 1, by omega⟩
      simp (disch := omega) only [f_X12_firstHeard_16, gi_n, nI_cl, mk_in, nI_le', if_neg, nI_1shl, m_hear w, bd_s, lt_, nI_add]
      have ih' := ih (j + 1) n (by omega) (by omega) (mk kp σ)
      have e : sFst σ (j + 1) = sFstS σ j (sFst σ j) := rfl
      rw [e] at ih'
      unfold sFstS at ih'
      cases h : sHear σ j with
      | none =>
        rw [if_pos (by rw [oI_nlt0]; trivial)]
        rw [h] at ih'
        exact ih'
      | some t =>
        have ht := hear_b t h
        rw [if_neg (by rw [oI_s, nI_lt0 (by omega)]; exact id)]
        rw [h] at ih'
        simp only at ih'
        cases hq : sFst σ j with
        | none =>
          rw [hq] at ih'
          simp only at ih' ⊢
          rw [if_pos (show oI (Option.map Prod.fst none) < 0 by show oI none < 0; rw [oI_nlt0]; trivial)]
          exact ih'
        | some q =>
          have hq2 := sFst_lt hq
          rw [hq] at ih'
          simp only at ih' ⊢
          rw [if_neg (show ¬ oI (Option.map Prod.fst (some q)) < 0 by show ¬ nI q.1 < 0; rw [nI_lt0 (by omega)]; exact id)]
          by_cases hlt : t < q.2
          · rw [if_pos (by rw [oI_s, nI_lt' (by omega) (by omega)]; omega)]
            rw [if_pos hlt] at ih'
            exact ih'
          · rw [if_neg (by rw [oI_s, nI_lt' (by omega) (by omega)]; omega)]
            rw [if_neg hlt] at ih'
            exact ih'
  obtain ⟨o, ha⟩ := A (σ 1) 0 fu (by omega) (by omega) q1 q2 q3 q4 q5 q6 q7 q8 q9 q10 q11 q12 q13
  obtain ⟨kp', hb⟩ := B (σ 1) 0 fu (by omega) (by omega) kp
  exact ⟨_, _, o, kp', ha, hb⟩
end NE
