/-! what is ahead: who KNOWS what by which TURN -/
theorem gc_0 {α : Type} {n a b : Nat} {x : Option α} (hn : n < 2147483648) (ha : n ≤ a) (hb : n ≤ b) : gc_ (nI 0) (nI 0) (nI n) a b x = x := by
  unfold gc_
  refine if_pos ⟨nI_pos (by decide), nI_pos (by decide), nI_pos hn, ?_, ?_⟩
  · rw [nI_cl (by decide), nI_cl hn]; omega
  · rw [nI_cl (by decide), nI_cl hn]; omega
theorem cpy_mk {b g : Nat → Int32} {f : Nat → Nat} {n : Nat} : va_cpy (mkF b n f) g 0 0 n = mkF g n f := by
  funext j
  unfold va_cpy mkF
  by_cases h : j < n
  · rw [if_pos (by omega), if_pos (by omega), if_pos h, Nat.sub_zero, Nat.zero_add]
  · rw [if_neg (by omega), if_neg h]
theorem cpy_ord {b g : Nat → Int32} {σ : Nat → Nat} (h3 : σ 3 ≤ 8) : va_cpy (aO b σ) g 0 0 8 = aO (va_cpy b g 0 0 8) σ := by
  funext j
  unfold aO va_cpy mkF
  by_cases h : j < 8
  · rw [if_pos (by omega), Nat.sub_zero, Nat.zero_add]
    by_cases h2 : j < σ 3
    · rw [if_pos h2, if_pos h2]
    · rw [if_neg h2, if_neg h2]
      show b j = if 0 ≤ j ∧ j < 0 + 8 then b (0 + (j - 0)) else g j
      rw [if_pos (by omega), Nat.sub_zero, Nat.zero_add]
  · rw [if_neg (by omega), if_neg (by omega)]
    show g j = if 0 ≤ j ∧ j < 0 + 8 then b (0 + (j - 0)) else g j
    rw [if_neg (by omega)]
section AH
variable {c kp : Nat → Int32} {σ : Nat → Nat} {x1 x2 st st2 th : Int32} {fu C S : Nat} {dt kn md od xx sd us lt rm sp : Nat → Int32} {q1 q2 q3 q4 q5 q6 : Int32} {q7 q8 q9 q10 q11 q12 q13 : Nat → Int32}
theorem c_copyState (w : WF σ) : f_X7_copyFrom q1 q2 q3 q4 q5 q6 q7 q8 q9 q10 q11 q12 q13 (nI (σ 3)) (nI (σ 8)) (nI (σ 6)) (nI (σ 7)) (nI (σ 4)) (nI (σ 5)) (aD dt σ) (aK kn σ) (aM md σ) (aO od σ) (aX xx σ) (aS sd σ) (aU us σ)
    = some (nI (σ 3), nI (σ 8), nI (σ 6), nI (σ 7), nI (σ 4), nI (σ 5), aD q7 σ, aK q8 σ, aM q9 σ, aO (va_cpy od q10 0 0 8) σ, aX q11 σ, aS q12 σ, aU q13 σ) := by
  have h3 := w.c3
  unfold f_X7_copyFrom
  simp (disch := omega) only [gc_0, nI_cl]
  rw [cpy_ord h3]
  unfold aD aK aM aX aS aU
  rw [cpy_mk, cpy_mk, cpy_mk, cpy_mk, cpy_mk, cpy_mk]
theorem c_turnsTill (w : WF σ) (hC : C < 2147483648) (hS : S < 1073741824) (hfu : 2000 < fu) : ∃ o, f_X0_turnsTill fu (nI C) (nI S) q1 q2 q3 q4 q5 q6 q7 q8 q9 q10 q11 q12 q13 (nI (σ 1)) (nI (σ 2)) (nI (sB σ)) (nI (sR σ)) (aL lt σ) (nI (σ 3)) (nI (σ 8)) (nI (σ 6)) (nI (σ 7)) (nI (σ 4)) (nI (σ 5)) (aD dt σ) (aK kn σ) (aM md σ) (aO od σ) (aX xx σ) (aS sd σ) (aU us σ) (aR rm σ) (aP sp σ)
    = some (oI (sTill σ C S 999), o) := by
  unfold f_X0_turnsTill
  rw [c_copyState w, bd_s]
  simp only
  obtain ⟨⟨o1, o2, o3, o4, o5, o6, o7, o8⟩, h⟩ := c_probeTill (dt := q7) (kn := q8) (md := q9) (od := va_cpy od q10 0 0 8) (sd := q12) (us := q13) (lt := lt) (rm := rm) (sp := sp) (fu := fu) w hC hS (most := 999) (by omega) (by omega)
  rw [h, bd_s]
  exact ⟨_, rfl⟩
theorem c_behind (w : WF σ) {m : Nat} (hm : m ≤ 999) (hfu : 2000 < fu) : ∃ o1 o2 o3 o4 o5 o6 o7 o8 o9 o10 o11 o12 o13, f_X0_behind fu (nI m) q1 q2 q3 q4 q5 q6 q7 q8 q9 q10 q11 q12 q13 (nI (σ 1)) (nI (σ 2)) (nI (sB σ)) (nI (sR σ)) (aL lt σ) (nI (σ 3)) (nI (σ 8)) (nI (σ 6)) (nI (σ 7)) (nI (σ 4)) (nI (σ 5)) (aD dt σ) (aK kn σ) (aM md σ) (aO od σ) (aX xx σ) (aS sd σ) (aU us σ) (aR rm σ) (aP sp σ)
    = some (o1, o2, o3, o4, o5, o6, o7, aK o8 (sIt m σ), o9, o10, o11, o12, aU o13 (sIt m σ)) := by
  unfold f_X0_behind
  rw [c_copyState w, bd_s]
  simp only
  rw [c_passMany (dt := q7) (kn := q8) (md := q9) (od := va_cpy od q10 0 0 8) (sd := q12) (us := q13) (lt := lt) (rm := rm) (sp := sp) (fu := fu) w (m := m) (by omega) (by omega), bd_s]
  exact ⟨_, _, _, _, _, _, _, _, _, _, _, _, _, rfl⟩
theorem sTillN_lt {C S : Nat} : ∀ {k t r : Nat} {τ : Nat → Nat}, sTillN C S k t τ = some r → t ≤ r ∧ r < t + k
  | 0, _, _, _, h => by cases h
  | k + 1, t, r, τ, h => by
    unfold sTillN at h
    split at h
    · cases h; exact ⟨Nat.le_refl _, by omega⟩
    · obtain ⟨a, b⟩ := sTillN_lt h
      exact ⟨by omega, by omega⟩
theorem sTill_le {r most : Nat} (h : sTill σ C S most = some r) : r ≤ most := by
  obtain ⟨-, b⟩ := sTillN_lt h
  omega
theorem c_seeing (w : WF σ) : f_X1_seeing (nI (σ 0)) (nI (sB σ)) = some (nI (sSee σ)) := by
  have := w.c0
  unfold f_X1_seeing sSee
  simp (disch := omega) only [nI_ones, nI_andn]
theorem c_allSecrets (w : WF σ) : f_X1_allSecrets (nI (σ 1)) = some (nI (2 ^ σ 1 - 1)) := by
  have := w.c1
  unfold f_X1_allSecrets
  simp (disch := omega) only [nI_ones]
theorem m_allSecrets (w : WF σ) : f_X12_allSecrets (mk c σ) = some (nI (2 ^ σ 1 - 1)) := by
  have := w.c1
  unfold f_X12_allSecrets
  simp (disch := omega) only [gi_n, nI_cl, mk_in, nI_ones]
/-- how both tell a number that may be none -/
theorem tell_m {α : Type} (o : Option Nat) (hb : ∀ j, o = some j → j < 2147483648) (a b : α) : (if 0 ≤ oI o then some (oI o, nI 0, nI 0, a, b) else bd_ (f_X12_refuse (nI 8) (nI 0)) (fun (z : Int32 × Int32) => match z with | (r15, u16) => some (r15, u16, nI 0, a, b))) = some (oI o, nI (if o = none then 8 else 0), nI 0, a, b) := by
  cases o with
  | none => rw [if_neg (by rw [oI_n0le]; exact id)]; rfl
  | some j => rw [if_pos (by rw [oI_s, nI_0le (hb j rfl)]; trivial)]; rfl
theorem till_b {most : Nat} (hm : most < 100000) : ∀ j, sTill σ C S most = some j → j < 2147483648 := fun j h => by have := sTill_le h; omega
theorem r_when (w : WF σ) (hfu : 2000 < fu) : ∃ r s o kp', f_X11_when fu x1 x2 st q1 q2 q3 q4 q5 q6 q7 q8 q9 q10 q11 q12 q13 (nI (σ 0)) (nI (σ 1)) (nI (σ 2)) (nI (sB σ)) (nI (sR σ)) (aL lt σ) (nI (σ 3)) (nI (σ 8)) (nI (σ 6)) (nI (σ 7)) (nI (σ 4)) (nI (σ 5)) (aD dt σ) (aK kn σ) (aM md σ) (aO od σ) (aX xx σ) (aS sd σ) (aU us σ) (aR rm σ) (aP sp σ) = some (r, s, o)
    ∧ f_X12_when fu x1 x2 st2 th (mk c σ) kp = some (r, s, nI 0, mk c σ, kp') := by
  have h0 := w.c0
  have h1 := w.c1
  unfold f_X11_when f_X12_when
  simp (disch := omega) only [c_hasCell, m_isCellAt w, c_hasSecret, m_isSecretAt w, bd_s, bI_0, ref11, ref12]
  cases h : inR x1 0 (σ 0)
  · exact ⟨_, _, _, _, rfl, rfl⟩
  · obtain ⟨k, hk, rfl⟩ := inR_of h
    rw [if_neg (show ¬ (true = false) by decide), if_neg (show ¬ (true = false) by decide)]
    cases h : inR x2 0 (σ 1)
    · exact ⟨_, _, _, _, rfl, rfl⟩
    · obtain ⟨s, hs, rfl⟩ := inR_of h
      rw [if_neg (show ¬ (true = false) by decide), if_neg (show ¬ (true = false) by decide)]
      have hC : 2 ^ k < 2 ^ 8 := pw_lt (by omega)
      have hS : 2 ^ s < 2 ^ 6 := pw_lt (by omega)
      obtain ⟨⟨o1, o2, o3, o4, o5, o6, o7, o8, o9, o10, o11, o12, o13⟩, hc⟩ := c_turnsTill (q1 := q1) (q2 := q2) (q3 := q3) (q4 := q4) (q5 := q5) (q6 := q6) (q7 := q7) (q8 := q8) (q9 := q9) (q10 := q10) (q11 := q11) (q12 := q12) (q13 := q13) (dt := dt) (kn := kn) (md := md) (od := od) (xx := xx) (sd := sd) (us := us) (lt := lt) (rm := rm) (sp := sp) (fu := fu) w (C := 2 ^ k) (S := 2 ^ s) (by omega) (by omega) hfu
      have hb := till_b (σ := σ) (C := 2 ^ k) (S := 2 ^ s) (most := 999) (by omega)
      simp (disch := omega) only [nI_1shl, hc, bd_s, ansAny _ _ hb, m_turnWith1 w]
      exact ⟨_, _, _, _, rfl, tell_m _ hb _ _⟩
theorem r_heard (w : WF σ) (hfu : 2000 < fu) : ∃ r s o kp', f_X11_heard fu x1 st q1 q2 q3 q4 q5 q6 q7 q8 q9 q10 q11 q12 q13 (nI (σ 0)) (nI (σ 1)) (nI (σ 2)) (nI (sB σ)) (nI (sR σ)) (aL lt σ) (nI (σ 3)) (nI (σ 8)) (nI (σ 6)) (nI (σ 7)) (nI (σ 4)) (nI (σ 5)) (aD dt σ) (aK kn σ) (aM md σ) (aO od σ) (aX xx σ) (aS sd σ) (aU us σ) (aR rm σ) (aP sp σ) = some (r, s, o)
    ∧ f_X12_heard fu x1 st2 th (mk c σ) kp = some (r, s, nI 0, mk c σ, kp') := by
  have h1 := w.c1
  have hsee := sSee_lt w
  unfold f_X11_heard f_X12_heard
  simp (disch := omega) only [c_hasSecret, m_isSecretAt w, bd_s, bI_0, ref11, ref12, c_seeing w]
  cases h : inR x1 0 (σ 1)
  · exact ⟨_, _, _, _, rfl, rfl⟩
  · obtain ⟨s, hs, rfl⟩ := inR_of h
    rw [if_neg (show ¬ (true = false) by decide), if_neg (show ¬ (true = false) by decide)]
    have hS : 2 ^ s < 2 ^ 6 := pw_lt (by omega)
    have hS2 : 2 ^ s < 2 ^ σ 1 := pw_lt (by omega)
    obtain ⟨⟨o1, o2, o3, o4, o5, o6, o7, o8, o9, o10, o11, o12, o13⟩, hc⟩ := c_turnsTill (q1 := q1) (q2 := q2) (q3 := q3) (q4 := q4) (q5 := q5) (q6 := q6) (q7 := q7) (q8 := q8) (q9 := q9) (q10 := q10) (q11 := q11) (q12 := q12) (q13 := q13) (dt := dt) (kn := kn) (md := md) (od := od) (xx := xx) (sd := sd) (us := us) (lt := lt) (rm := rm) (sp := sp) (fu := fu) w (C := sSee σ) (S := 2 ^ s) (by omega) (by omega) hfu
    have hb := till_b (σ := σ) (C := sSee σ) (S := 2 ^ s) (most := 999) (by omega)
    simp (disch := omega) only [nI_1shl, hc, bd_s, ansAny _ _ hb, m_turnWithA w]
    exact ⟨_, _, _, _, rfl, tell_m _ hb _ _⟩
theorem r_all (w : WF σ) (hfu : 2000 < fu) : ∃ r s o kp', f_X11_all fu st q1 q2 q3 q4 q5 q6 q7 q8 q9 q10 q11 q12 q13 (nI (σ 0)) (nI (σ 1)) (nI (σ 2)) (nI (sB σ)) (nI (sR σ)) (aL lt σ) (nI (σ 3)) (nI (σ 8)) (nI (σ 6)) (nI (σ 7)) (nI (σ 4)) (nI (σ 5)) (aD dt σ) (aK kn σ) (aM md σ) (aO od σ) (aX xx σ) (aS sd σ) (aU us σ) (aR rm σ) (aP sp σ) = some (r, s, o)
    ∧ f_X12_all fu st2 th (mk c σ) kp = some (r, s, nI 0, mk c σ, kp') := by
  have h1 := p6 w.c1
  have hsee := sSee_lt w
  have hS := ones_lt (σ 1)
  unfold f_X11_all f_X12_all
  obtain ⟨⟨o1, o2, o3, o4, o5, o6, o7, o8, o9, o10, o11, o12, o13⟩, hc⟩ := c_turnsTill (q1 := q1) (q2 := q2) (q3 := q3) (q4 := q4) (q5 := q5) (q6 := q6) (q7 := q7) (q8 := q8) (q9 := q9) (q10 := q10) (q11 := q11) (q12 := q12) (q13 := q13) (dt := dt) (kn := kn) (md := md) (od := od) (xx := xx) (sd := sd) (us := us) (lt := lt) (rm := rm) (sp := sp) (fu := fu) w (C := sSee σ) (S := 2 ^ σ 1 - 1) (by omega) (by omega) hfu
  have hb := till_b (σ := σ) (C := sSee σ) (S := 2 ^ σ 1 - 1) (most := 999) (by omega)
  simp (disch := omega) only [c_seeing w, c_allSecrets w, m_allSecrets w, hc, bd_s, ansAny _ _ hb, m_turnWithA w]
  exact ⟨_, _, _, _, rfl, tell_m _ hb _ _⟩
theorem r_later (w : WF σ) (hfu : 2000 < fu) : ∃ r s o kp', f_X11_later fu x1 x2 st q1 q2 q3 q4 q5 q6 q7 q8 q9 q10 q11 q12 q13 (nI (σ 0)) (nI (σ 1)) (nI (σ 2)) (nI (sB σ)) (nI (sR σ)) (aL lt σ) (nI (σ 3)) (nI (σ 8)) (nI (σ 6)) (nI (σ 7)) (nI (σ 4)) (nI (σ 5)) (aD dt σ) (aK kn σ) (aM md σ) (aO od σ) (aX xx σ) (aS sd σ) (aU us σ) (aR rm σ) (aP sp σ) = some (r, s, o)
    ∧ f_X12_later fu x1 x2 st2 th (mk c σ) kp = some (r, s, nI 0, mk c σ, kp') := by
  have h0 := w.c0
  unfold f_X11_later f_X12_later
  simp (disch := omega) only [c_hasCell, m_isCellAt w, m_in, bd_s, bI_0, ref11, ref12, x_lt0, x_le]
  cases h : inR x1 0 (σ 0)
  · exact ⟨_, _, _, _, rfl, rfl⟩
  · obtain ⟨k, hk, rfl⟩ := inR_of h
    rw [if_neg (show ¬ (true = false) by decide), if_neg (show ¬ (true = false) by decide)]
    cases h : inR x2 (0 : Nat) ((999 : Nat) + 1)
    · have h3 := inR_f h
      by_cases a : x2.toInt < 0
      · rw [if_pos a]; exact ⟨_, _, _, _, rfl, rfl⟩
      · rw [if_neg a, if_neg (by omega)]; exact ⟨_, _, _, _, rfl, rfl⟩
    · obtain ⟨a, b⟩ := inR_t h
      obtain ⟨m, h5, rfl, h6⟩ := nI_of0 (x := x2) (by omega)
      rw [if_neg (by omega), if_pos (by omega), if_neg (show ¬ (true = false) by decide)]
      obtain ⟨o1, o2, o3, o4, o5, o6, o7, o8, o9, o10, o11, o12, o13, hc⟩ := c_behind (q1 := q1) (q2 := q2) (q3 := q3) (q4 := q4) (q5 := q5) (q6 := q6) (q7 := q7) (q8 := q8) (q9 := q9) (q10 := q10) (q11 := q11) (q12 := q12) (q13 := q13) (dt := dt) (kn := kn) (md := md) (od := od) (xx := xx) (sd := sd) (us := us) (lt := lt) (rm := rm) (sp := sp) (fu := fu) w (m := m) (by omega) hfu
      have hm : ∀ a b : Int32, f_X12_later_48 fu fu (nI k) (nI m) (nI 0) a b (mk c σ) (mk kp σ) = some (nI (sIt m σ (33 + k)), a, b, mk c σ, mk kp σ) := by
        intro a b
        refine loop_p (fun n j => f_X12_later_48 fu n (nI k) (nI m) (nI j) a b (mk c (sIt j σ)) (mk kp σ)) m _ ?_ ?_ m 0 fu (by omega) (by omega)
        · intro n j hj
          simp (disch := omega) only [f_X12_later_48, nI_le', if_neg, m_goesTurn (sIt_ok w j).1, bd_s, lt_, nI_add, sIt_s]
        · intro n
          simp (disch := omega) only [f_X12_later_48, nI_le', if_pos, gi_n, nI_cl, nI_add, mk_in, lt_, m_gives, bd_s, mk_mk]
      simp (disch := omega) only [hc, bd_s, gi_n, nI_cl, aK_in, ans11, m_keeps, hm]
      exact ⟨_, _, _, _, rfl, rfl⟩
theorem r_roomIn (w : WF σ) (hfu : 2000 < fu) : ∃ r s o kp', f_X11_roomIn fu x1 x2 st q1 q2 q3 q4 q5 q6 q7 q8 q9 q10 q11 q12 q13 (nI (σ 1)) (nI (σ 2)) (nI (sB σ)) (nI (sR σ)) (aL lt σ) (nI (σ 3)) (nI (σ 8)) (nI (σ 6)) (nI (σ 7)) (nI (σ 4)) (nI (σ 5)) (aD dt σ) (aK kn σ) (aM md σ) (aO od σ) (aX xx σ) (aS sd σ) (aU us σ) (aR rm σ) (aP sp σ) = some (r, s, o)
    ∧ f_X12_roomIn fu x1 x2 st2 th (mk c σ) kp = some (r, s, nI 0, mk c σ, kp') := by
  have h0 := w.c2
  unfold f_X11_roomIn f_X12_roomIn
  simp (disch := omega) only [c_hasPage, m_isPageAt w, m_in, bd_s, bI_0, ref11, ref12, x_lt0, x_le]
  cases h : inR x1 0 (σ 2)
  · exact ⟨_, _, _, _, rfl, rfl⟩
  · obtain ⟨k, hk, rfl⟩ := inR_of h
    rw [if_neg (show ¬ (true = false) by decide), if_neg (show ¬ (true = false) by decide)]
    cases h : inR x2 (0 : Nat) ((999 : Nat) + 1)
    · have h3 := inR_f h
      by_cases a : x2.toInt < 0
      · rw [if_pos a]; exact ⟨_, _, _, _, rfl, rfl⟩
      · rw [if_neg a, if_neg (by omega)]; exact ⟨_, _, _, _, rfl, rfl⟩
    · obtain ⟨a, b⟩ := inR_t h
      obtain ⟨m, h5, rfl, h6⟩ := nI_of0 (x := x2) (by omega)
      rw [if_neg (by omega), if_pos (by omega), if_neg (show ¬ (true = false) by decide)]
      obtain ⟨o1, o2, o3, o4, o5, o6, o7, o8, o9, o10, o11, o12, o13, hc⟩ := c_behind (q1 := q1) (q2 := q2) (q3 := q3) (q4 := q4) (q5 := q5) (q6 := q6) (q7 := q7) (q8 := q8) (q9 := q9) (q10 := q10) (q11 := q11) (q12 := q12) (q13 := q13) (dt := dt) (kn := kn) (md := md) (od := od) (xx := xx) (sd := sd) (us := us) (lt := lt) (rm := rm) (sp := sp) (fu := fu) w (m := m) (by omega) hfu
      obtain ⟨w', hB, -⟩ := sIt_ok w m
      have hm : ∀ a b : Int32, f_X12_roomIn_48 fu fu (nI k) (nI m) (nI 0) a b (mk c σ) (mk kp σ) = some (nI (sFree (sIt m σ) k), a, b, mk c σ, mk kp σ) := by
        intro a b
        refine loop_p (fun n j => f_X12_roomIn_48 fu n (nI k) (nI m) (nI j) a b (mk c (sIt j σ)) (mk kp σ)) m _ ?_ ?_ m 0 fu (by omega) (by omega)
        · intro n j hj
          simp (disch := omega) only [f_X12_roomIn_48, nI_le', if_neg, m_goesTurn (sIt_ok w j).1, bd_s, lt_, nI_add, sIt_s]
        · intro n
          simp (disch := omega) only [f_X12_roomIn_48, nI_le', if_pos, m_freeOf w', bd_s, m_gives, mk_mk]
      have hf := c_freeOf (us := o13) (rm := rm) w' (p := k) (by rw [hB.e2]; exact hk)
      rw [aR_B hB w] at hf
      simp (disch := omega) only [hc, bd_s, hf, ans11, m_keeps, hm]
      exact ⟨_, _, _, _, rfl, rfl⟩
end AH
