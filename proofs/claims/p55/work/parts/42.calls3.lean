section DO
variable {c : Nat → Int32} {σ : Nat → Nat} {x1 x2 st st2 th : Int32} {fu : Nat} {dt kn md od xx sd us lt rm sp : Nat → Int32}
theorem r_many (w : WF σ) (hfu : 100 < fu) : ∃ r s, f_X11_many fu x1 st (nI (σ 0)) (nI (σ 1)) (nI (σ 2)) (nI (σ 3)) (nI (σ 6)) (nI (σ 7)) (nI (σ 4)) (nI (σ 5)) (aU us σ) = some (r, s) ∧ f_X12_many fu x1 st2 th (mk c σ) = some (r, s, nI 0) := by
  unfold f_X11_many f_X12_many
  simp (disch := omega) only [m_in, bd_s, bI_0, ref11, ref12, ans11]
  cases h : inR x1 (0 : Nat) ((8 : Nat) + 1)
  · have h3 := inR_f h
    simp (disch := omega) only [x_eq]
    rw [if_neg (by omega), if_neg (by omega), if_neg (by omega), if_neg (by omega), if_neg (by omega), if_neg (by omega), if_neg (by omega), if_neg (by omega), if_neg (by omega)]
    exact ⟨_, _, rfl, rfl⟩
  · obtain ⟨q, hq, rfl, -⟩ : ∃ q : Nat, q < 9 ∧ x1 = nI q ∧ True := by
      obtain ⟨a, b⟩ := inR_t h
      obtain ⟨j, h4, h5, h6⟩ := nI_of0 (x := x1) (by omega)
      exact ⟨j, by omega, h5, trivial⟩
    have hq' : q = 0 ∨ q = 1 ∨ q = 2 ∨ q = 3 ∨ q = 4 ∨ q = 5 ∨ q = 6 ∨ q = 7 ∨ q = 8 := by omega
    rw [if_neg (show ¬ (true = false) by decide)]
    rcases hq' with rfl | rfl | rfl | rfl | rfl | rfl | rfl | rfl | rfl
    · simp (disch := omega) only [nI_eq', nI_le', if_pos, if_neg, gi_n, nI_cl, mk_in]; exact ⟨_, _, rfl, rfl⟩
    · simp (disch := omega) only [nI_eq', nI_le', if_pos, if_neg, gi_n, nI_cl, mk_in]; exact ⟨_, _, rfl, rfl⟩
    · simp (disch := omega) only [nI_eq', nI_le', if_pos, if_neg, gi_n, nI_cl, mk_in]; exact ⟨_, _, rfl, rfl⟩
    · simp (disch := omega) only [nI_eq', nI_le', if_pos, if_neg, gi_n, nI_cl, mk_in]; exact ⟨_, _, rfl, rfl⟩
    · simp (disch := omega) only [nI_eq', nI_le', if_pos, if_neg, gi_n, nI_cl, mk_in]; exact ⟨_, _, rfl, rfl⟩
    · simp (disch := omega) only [nI_eq', nI_le', if_pos, if_neg, c_usedInAll, m_allPricks w, bd_s, allPr_6 w]; exact ⟨_, _, rfl, rfl⟩
    · simp (disch := omega) only [nI_eq', nI_le', if_pos, if_neg, pk_sub, gi_n, nI_cl, mk_in]; exact ⟨_, _, rfl, rfl⟩
    · simp (disch := omega) only [nI_eq', nI_le', if_pos, if_neg, pk_sub, gi_n, nI_cl, mk_in]; exact ⟨_, _, rfl, rfl⟩
    · simp (disch := omega) only [nI_eq', nI_le', if_pos, if_neg, pk_sub, gi_n, nI_cl, mk_in]; exact ⟨_, _, rfl, rfl⟩
theorem r_cell (w : WF σ) (hfu : 100 < fu) : ∃ r s, f_X11_cell fu x1 x2 st (nI (σ 0)) (nI (sB σ)) (nI (sR σ)) (nI (σ 3)) (aK kn σ) (aM md σ) (aO od σ) (aP sp σ) = some (r, s) ∧ f_X12_cell fu x1 x2 st2 th (mk c σ) = some (r, s, nI 0) := by
  have h0 := w.c0
  have h3 := w.c3
  have hB := sB_lt (σ := σ)
  have hR := sR_lt (σ := σ)
  unfold f_X11_cell f_X12_cell
  simp (disch := omega) only [c_hasCell, m_isCellAt w, m_in, bd_s, bI_0, ref11, ref12, ans11]
  cases h : inR x1 0 (σ 0)
  · exact ⟨_, _, rfl, rfl⟩
  · obtain ⟨k, hk, rfl⟩ := inR_of h
    rw [if_neg (show ¬ (true = false) by decide), if_neg (show ¬ (true = false) by decide)]
    cases h : inR x2 (0 : Nat) ((5 : Nat) + 1)
    · have h3 := inR_f h
      simp (disch := omega) only [x_eq]
      rw [if_neg (by omega), if_neg (by omega), if_neg (by omega), if_neg (by omega), if_neg (by omega), if_neg (by omega)]
      exact ⟨_, _, rfl, rfl⟩
    · obtain ⟨q, hq, rfl, -⟩ : ∃ q : Nat, q < 6 ∧ x2 = nI q ∧ True := by
        obtain ⟨a, b⟩ := inR_t h
        obtain ⟨j, h4, h5, h6⟩ := nI_of0 (x := x2) (by omega)
        exact ⟨j, by omega, h5, trivial⟩
      have hq' : q = 0 ∨ q = 1 ∨ q = 2 ∨ q = 3 ∨ q = 4 ∨ q = 5 := by omega
      rw [if_neg (show ¬ (true = false) by decide)]
      have hbl := w.bl (k := k) (by omega)
      have hru := w.ru (k := k) (by omega)
      rcases hq' with rfl | rfl | rfl | rfl | rfl | rfl
      · simp (disch := omega) only [nI_eq', if_pos, if_neg, gi_n, nI_cl, nI_add, pk_mul, mk_in, aP_in]; exact ⟨_, _, rfl, rfl⟩
      · simp (disch := omega) only [nI_eq', if_pos, if_neg, gi_n, nI_cl, nI_add, pk_mul, mk_in, has7, bd_s, bI_0, sB_bit]
        rcases (show σ (17 + k) = 0 ∨ σ (17 + k) = 1 by omega) with e | e
        · rw [show 9 + 8 * 1 + k = 17 + k by omega, e, if_pos (show decide (0 = 1) = false by decide)]; exact ⟨_, _, rfl, rfl⟩
        · rw [show 9 + 8 * 1 + k = 17 + k by omega, e, if_neg (show ¬ (decide (1 = 1) = false) by decide)]; exact ⟨_, _, rfl, rfl⟩
      · simp (disch := omega) only [nI_eq', if_pos, if_neg, gi_n, nI_cl, nI_add, pk_mul, mk_in, has7, bd_s, bI_0, sR_bit]
        rcases (show σ (25 + k) = 0 ∨ σ (25 + k) = 1 by omega) with e | e
        · rw [show 9 + 8 * 2 + k = 25 + k by omega, e, if_pos (show decide (0 = 1) = false by decide)]; exact ⟨_, _, rfl, rfl⟩
        · rw [show 9 + 8 * 2 + k = 25 + k by omega, e, if_neg (show ¬ (decide (1 = 1) = false) by decide)]; exact ⟨_, _, rfl, rfl⟩
      · simp (disch := omega) only [nI_eq', if_pos, if_neg, gi_n, nI_cl, nI_add, pk_mul, mk_in, aK_in]
        rw [show 9 + 8 * 3 + k = 33 + k by omega]; exact ⟨_, _, rfl, rfl⟩
      · have hpl : ∀ j, sPlace σ k = some j → j < 2147483648 := fun j hj => by have := sPlace_some hj; omega
        simp (disch := omega) only [nI_eq', if_pos, if_neg, c_placeOf w, m_placeOf w, bd_s, ansAny _ _ hpl]
        cases hp : sPlace σ k with
        | none => simp only [oI_n0le, if_false]; exact ⟨_, _, rfl, rfl⟩
        | some j =>
          have := hpl j hp
          simp (disch := omega) only [oI_s, nI_0le, if_true]; exact ⟨_, _, rfl, rfl⟩
      · simp (disch := omega) only [nI_eq', if_pos, if_neg, gi_n, nI_cl, nI_add, mk_in, aM_in]; exact ⟨_, _, rfl, rfl⟩
theorem r_knowers (w : WF σ) (hfu : 100 < fu) : ∃ r s, f_X11_knowers fu x1 st (nI (σ 1)) (aK kn σ) = some (r, s) ∧ f_X12_knowers fu x1 st2 th (mk c σ) = some (r, s, nI 0) := by
  have h1 := w.c1
  unfold f_X11_knowers f_X12_knowers
  simp (disch := omega) only [c_hasSecret, m_isSecretAt w, bd_s, bI_0, ref11, ref12]
  cases h : inR x1 0 (σ 1)
  · exact ⟨_, _, rfl, rfl⟩
  · obtain ⟨s, hs, rfl⟩ := inR_of h
    rw [if_neg (show ¬ (true = false) by decide), if_neg (show ¬ (true = false) by decide)]
    simp (disch := omega) only [c_cellsKnowing w, m_knowers w, bd_s, ans11]
    exact ⟨_, _, rfl, rfl⟩
theorem r_damp (w : WF σ) : ∃ r s σ', f_X11_damp x1 x2 st (nI (σ 2)) (nI (σ 7)) = some (r, s, nI (σ' 7)) ∧ f_X12_damp x1 x2 st2 th (mk c σ) = some (r, s, nI 0, mk c σ') ∧ WF σ' ∧ (∀ i, i ≠ 7 → σ' i = σ i) := by
  have h2 := w.c2
  have h7 := w.c7
  unfold f_X11_damp f_X12_damp
  simp (disch := omega) only [c_hasPage, m_isPageAt w, bd_s, bI_0, den11, no12, gd_0]
  cases h : inR x1 0 (σ 2)
  · exact ⟨_, _, σ, rfl, rfl, w, fun _ _ => rfl⟩
  · obtain ⟨p, hp, rfl⟩ := inR_of h
    rw [if_neg (show ¬ (true = false) by decide), if_neg (show ¬ (true = false) by decide)]
    simp (disch := omega) only [c_shut w, m_isShut w, bd_s]
    by_cases e : bI (sShut σ p) = x2
    · rw [if_pos e, if_pos e]
      exact ⟨_, _, σ, rfl, rfl, w, fun _ _ => rfl⟩
    · rw [if_neg e, if_neg e]
      have hx : σ 7 ^^^ 2 ^ p < 64 := xor_lt (n := 6) h7 (pw_lt (by omega))
      simp (disch := omega) only [gi_n, nI_cl, mk_in, nI_1shl, nI_xor, lt_, agr11, bd_s, gd_1, mk_up]
      refine ⟨_, _, up σ 7 (σ 7 ^^^ 2 ^ p), ?_, rfl, wf_7 w hx, fun i hi => up_n _ _ hi⟩
      rw [up_s]
theorem r_ill (w : WF σ) : ∃ r s σ', f_X11_ill x1 x2 st (nI (σ 0)) (nI (σ 6)) = some (r, s, nI (σ' 6)) ∧ f_X12_ill x1 x2 st2 th (mk c σ) = some (r, s, nI 0, mk c σ') ∧ WF σ' ∧ (∀ i, i ≠ 6 → σ' i = σ i) := by
  have h2 := w.c0
  have h7 := w.c6
  unfold f_X11_ill f_X12_ill
  simp (disch := omega) only [c_hasCell, m_isCellAt w, bd_s, bI_0, den11, no12, gd_0]
  cases h : inR x1 0 (σ 0)
  · exact ⟨_, _, σ, rfl, rfl, w, fun _ _ => rfl⟩
  · obtain ⟨p, hp, rfl⟩ := inR_of h
    rw [if_neg (show ¬ (true = false) by decide), if_neg (show ¬ (true = false) by decide)]
    simp (disch := omega) only [has7, gi_n, nI_cl, mk_in, has12, bd_s]
    by_cases e : bI ((σ 6).testBit p) = x2
    · rw [if_pos e, if_pos e]
      exact ⟨_, _, σ, rfl, rfl, w, fun _ _ => rfl⟩
    · rw [if_neg e, if_neg e]
      have hx : σ 6 ^^^ 2 ^ p < 256 := xor_lt (n := 8) h7 (pw_lt (by omega))
      simp (disch := omega) only [nI_1shl, nI_xor, lt_, agr11, bd_s, gd_1, mk_up]
      refine ⟨_, _, up σ 6 (σ 6 ^^^ 2 ^ p), ?_, rfl, wf_6 w hx, fun i hi => up_n _ _ hi⟩
      rw [up_s]
theorem r_tell (w : WF σ) : ∃ r s σ', f_X11_tell x1 x2 st (nI (σ 0)) (nI (σ 1)) (aK kn σ) = some (r, s, aK kn σ') ∧ f_X12_tell x1 x2 st2 th (mk c σ) = some (r, s, nI 0, mk c σ') ∧ WF σ' ∧ (∀ i, ¬ (33 ≤ i ∧ i < 41) → σ' i = σ i) := by
  have h0 := w.c0
  have h1 := w.c1
  unfold f_X11_tell f_X12_tell
  simp (disch := omega) only [c_hasCell, m_isCellAt w, c_hasSecret, m_isSecretAt w, bd_s, bI_0, den11, no12, gd_0]
  cases h : inR x1 0 (σ 0)
  · exact ⟨_, _, σ, rfl, rfl, w, fun _ _ => rfl⟩
  · obtain ⟨k, hk, rfl⟩ := inR_of h
    rw [if_neg (show ¬ (true = false) by decide), if_neg (show ¬ (true = false) by decide)]
    cases h : inR x2 0 (σ 1)
    · exact ⟨_, _, σ, rfl, rfl, w, fun _ _ => rfl⟩
    · obtain ⟨s, hs, rfl⟩ := inR_of h
      rw [if_neg (show ¬ (true = false) by decide), if_neg (show ¬ (true = false) by decide)]
      have hkn := w.kn (k := k) (by omega)
      simp (disch := omega) only [gi_n, nI_cl, nI_add, aK_in, mk_in, has7, has12, bd_s, bI_0]
      cases hb : (σ (33 + k)).testBit s
      · have hv : σ (33 + k) ||| 2 ^ s < 64 := or_lt (n := 6) hkn (pw_lt (by omega))
        simp (disch := omega) only [if_true, nI_1shl, nI_or, lt_, agr11, bd_s, gd_1, mk_up, aK_up]
        exact ⟨_, _, up σ (33 + k) (σ (33 + k) ||| 2 ^ s), rfl, rfl, wf_kn w hk hv, fun i hi => up_n _ _ (by omega)⟩
      · exact ⟨_, _, σ, rfl, rfl, w, fun _ _ => rfl⟩
theorem r_watch (w : WF σ) : ∃ r s σ', f_X11_watch x1 x2 st (nI (σ 2)) (aX xx σ) = some (r, s, aX xx σ') ∧ f_X12_watch x1 x2 st2 th (mk c σ) = some (r, s, nI 0, mk c σ') ∧ WF σ' ∧ (∀ i, ¬ (61 ≤ i ∧ i < 67) → σ' i = σ i) := by
  have h2 := w.c2
  unfold f_X11_watch f_X12_watch
  simp (disch := omega) only [c_hasPage, m_isPageAt w, m_in, bd_s, bI_0, den11, no12, gd_0, x_lt0, x_le]
  cases h : inR x1 0 (σ 2)
  · exact ⟨_, _, σ, rfl, rfl, w, fun _ _ => rfl⟩
  · obtain ⟨p, hp, rfl⟩ := inR_of h
    rw [if_neg (show ¬ (true = false) by decide), if_neg (show ¬ (true = false) by decide)]
    cases h : inR x2 (0 : Nat) ((16 : Nat) + 1)
    · have h3 := inR_f h
      by_cases a : x2.toInt < 0
      · rw [if_pos a]; exact ⟨_, _, σ, rfl, rfl, w, fun _ _ => rfl⟩
      · rw [if_neg a, if_neg (by omega)]; exact ⟨_, _, σ, rfl, rfl, w, fun _ _ => rfl⟩
    · obtain ⟨a, b⟩ := inR_t h
      obtain ⟨v, h4, rfl, h6⟩ := nI_of0 (x := x2) (by omega)
      rw [if_neg (by omega), if_pos (by omega), if_neg (show ¬ (true = false) by decide)]
      simp (disch := omega) only [gi_n, nI_cl, nI_add, agr11, bd_s, gd_1, mk_up]
      refine ⟨_, _, up σ (61 + p) v, ?_, rfl, wf_odds w (by omega) (by omega), fun i hi => up_n _ _ (by omega)⟩
      congr 3
      unfold aX
      rw [mkF_up (by omega)]
      refine mkF_congr (fun i hi => ?_)
      unfold up
      by_cases e : i = p
      · subst e; rw [if_pos rfl, if_pos rfl]
      · rw [if_neg e, if_neg (by omega)]
end DO
