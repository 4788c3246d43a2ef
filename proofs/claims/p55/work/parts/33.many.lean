/-! so many TURNS, on both sides -/
theorem ctW_le (W : Nat) : ∀ n, ctW W n ≤ n
  | 0 => Nat.le_refl _
  | n + 1 => by
    have := ctW_le W n
    unfold ctW
    split <;> omega
theorem nxW_lt {W N b p k j : Nat} (h : nxW W N b k j = some p) (hN : 0 < N) : p < N := by
  obtain ⟨d, -, -, h3, -⟩ := nxW_some h
  rw [h3]; exact Nat.mod_lt _ hN
theorem npW_ok {W N b : Nat} (hb : b < N ∨ b = 0) : npW W N b < N ∨ npW W N b = 0 := by
  unfold npW
  cases h : nxW W N b N 0 with
  | none => exact hb
  | some p =>
    rcases Nat.eq_zero_or_pos N with h0 | h0
    · subst h0; cases h
    · exact Or.inl (Nat.mod_lt _ h0)
theorem itW_ok {W N : Nat} : ∀ (n b : Nat), b < N ∨ b = 0 → itW W N n b < N ∨ itW W N n b = 0
  | 0, _, h => h
  | n + 1, _, h => itW_ok n _ (npW_ok h)
theorem itW_s (W N : Nat) (n b : Nat) : itW W N (n + 1) b = npW W N (itW W N n b) := by
  rw [itW_add W N n 1 b]; rfl
theorem c_goOnB {σ : Nat → Nat} {od : Nat → Int32} {fu b : Nat} (w : WF σ) (hb : b < σ 3 ∨ b = 0) (hfu : 100 < fu) : ∃ r, f_X7_goOn fu (nI (σ 3)) (nI b) (nI (σ 6)) (aO od σ) = some (r, nI (npW (sW σ) (σ 3) b)) := by
  have h := c_goOn (od := od) (fu := fu) (wf_8 w hb) hfu
  have hB : sameB σ (up σ 8 b) := sameB.up (by omega)
  have hQ : sameQ σ (up σ 8 b) := fun i _ h => up_n _ _ h
  rw [hB.e3, hB.e6, up_s, aO_B hB w, sPl_W, sW_Q hQ, hB.e3, up_s] at h
  exact ⟨_, h⟩
theorem c_skip {σ : Nat → Nat} {od : Nat → Int32} {fu m : Nat} (w : WF σ) (hm : m < 100000) (hfu : 100 < fu) :
    f_X7_skip fu (nI m) (nI (σ 3)) (nI (σ 8)) (nI (σ 6)) (nI (σ 4)) (aO od σ) = some (nI (itW (sW σ) (σ 3) (if 0 < m ∧ 0 < ctW (sW σ) (σ 3) then (m - 1) % ctW (sW σ) (σ 3) + 1 else 0) (σ 8)), nI (σ 4 + m)) := by
  have h3 := w.c3
  have h6 := w.c6
  have h8 := w.c8
  have H : ∀ r t, r ≤ 8 → f_X7_skip_75 fu (nI (σ 3)) (nI (σ 6)) (aO od σ) fu (nI r) (nI 0) (nI (σ 8)) t = some (nI (itW (sW σ) (σ 3) r (σ 8)), t) := by
    intro r t hr
    refine loop_p (fun n j => f_X7_skip_75 fu (nI (σ 3)) (nI (σ 6)) (aO od σ) n (nI r) (nI j) (nI (itW (sW σ) (σ 3) j (σ 8))) t) r _ ?_ ?_ r 0 fu (by omega) (by omega)
    · intro n j hj
      obtain ⟨r', hg⟩ := c_goOnB (od := od) (fu := fu) w (itW_ok (W := sW σ) (N := σ 3) j (σ 8) h8) hfu
      simp (disch := omega) only [f_X7_skip_75, nI_le', if_neg, hg, bd_s, lt_, nI_add, itW_s]
    · intro n
      simp (disch := omega) only [f_X7_skip_75, nI_le', if_pos]
  unfold f_X7_skip
  refine loop_p (fun n j => f_X7_skip_4 fu (nI (σ 3)) (nI (σ 6)) (aO od σ) n (nI m) (nI (ctW (sW σ) j)) (nI j) (nI (σ 8)) (nI (σ 4))) (σ 3) _ ?_ ?_ (σ 3) 0 fu (by omega) (by omega)
  · intro n j hj
    have ho := w.or' hj
    have hc := ctW_le (sW σ) j
    have hw := sW_bit hj
    simp (disch := omega) only [f_X7_skip_4, nI_le', if_neg, gi_n, nI_cl, aO_in, has7, bd_s, bI_0, lt_, nI_add, ctW]
    rw [hw]
    cases (σ 6).testBit (σ (67 + j)) <;> rfl
  · intro n
    have hc := ctW_le (sW σ) (σ 3)
    simp (disch := omega) only [f_X7_skip_4, nI_le', if_pos, lt_, nI_add, nI_le0]
    by_cases h1 : 0 < m
    · by_cases h2 : 0 < ctW (sW σ) (σ 3)
      · rw [if_neg (by omega), if_neg (by omega), if_pos ⟨h1, h2⟩]
        have hmod : (m - 1) % ctW (sW σ) (σ 3) < ctW (sW σ) (σ 3) := Nat.mod_lt _ h2
        simp (disch := omega) only [nI_eq0, gd_pos, pk_sub, pk_rem, nI_add]
        exact H _ _ (by omega)
      · rw [if_neg (by omega), if_pos (by omega), if_neg (fun h => h2 h.2)]
        exact H 0 _ (by omega)
    · rw [if_pos (by omega), if_neg (fun h => h1 h.1)]
      exact H 0 _ (by omega)
section QQ
variable {b : Nat → Int32} {σ τ : Nat → Nat}
theorem aD_Q (h : sameQ σ τ) : aD b τ = aD b σ := aD_c (fun i _ _ => h i (by omega) (by omega))
theorem aK_Q (h : sameQ σ τ) : aK b τ = aK b σ := aK_c (fun i _ _ => h i (by omega) (by omega))
theorem aM_Q (h : sameQ σ τ) : aM b τ = aM b σ := aM_c (fun i _ _ => h i (by omega) (by omega))
theorem aU_Q (h : sameQ σ τ) : aU b τ = aU b σ := aU_c (fun p _ => h.Pr p)
theorem aS_Q (h : sameQ σ τ) : aS b τ = aS b σ := aS_c (fun p _ => h.Stg p)
end QQ
/-- the end of so many: what is left is shortened if it may be -/
theorem c_skipTo {σ ρ : Nat → Nat} {dt kn md sd us od : Nat → Int32} {fu m : Nat} (w : WF ρ) (ws : WF σ) (hB : sameB σ ρ) (hm : m < 100000) (hs : m = 0 ∨ stuck ρ) (hfu : 100 < fu) :
    bd_ (f_X7_skip fu (nI m) (nI (σ 3)) (nI (ρ 8)) (nI (σ 6)) (nI (ρ 4)) (aO od σ)) (fun (z : Int32 × Int32) => match z with | (u2, u3) => some (u2, u3, nI (ρ 5), aD dt ρ, aK kn ρ, aM md ρ, aS sd ρ, aU us ρ))
      = some (nI (sIt m ρ 8), nI (sIt m ρ 4), nI (sIt m ρ 5), aD dt (sIt m ρ), aK kn (sIt m ρ), aM md (sIt m ρ), aS sd (sIt m ρ), aU us (sIt m ρ)) := by
  have h := c_skip (od := od) (fu := fu) w hm hfu
  rw [hB.e3, hB.e6, aO_B hB ws] at h
  rw [h, bd_s]
  rcases hs with hs | hs
  · subst hs
    rw [if_neg (fun h => absurd h.1 (Nat.lt_irrefl 0))]
    rfl
  · obtain ⟨-, hQ, h8, h4⟩ := stuck_it w hs m
    have h3 := w.c3
    have hr := itW_rest (m := m) (b := ρ 8) (show ρ 3 < 9 by omega) (sW_lt (σ := ρ)) w.c8
    rw [hB.e3] at hr h8
    rw [aD_Q hQ, aK_Q hQ, aM_Q hQ, aU_Q hQ, aS_Q hQ, hQ 5 (by omega) (by omega), h4, h8, hr]
theorem c_passMany {σ : Nat → Nat} {dt kn md sd us lt rm sp od : Nat → Int32} {fu m : Nat} (w : WF σ) (hm : m < 100000) (hfu : 100 + m < fu) :
    f_X7_passMany fu (nI m) (nI (σ 3)) (nI (σ 8)) (nI (σ 6)) (nI (σ 7)) (nI (σ 4)) (nI (σ 5)) (aD dt σ) (aK kn σ) (aM md σ) (aO od σ) (aS sd σ) (aU us σ) (nI (σ 1)) (nI (σ 2)) (nI (sB σ)) (nI (sR σ)) (aL lt σ) (aR rm σ) (aP sp σ)
      = some (nI (sIt m σ 8), nI (sIt m σ 4), nI (sIt m σ 5), aD dt (sIt m σ), aK kn (sIt m σ), aM md (sIt m σ), aS sd (sIt m σ), aU us (sIt m σ)) := by
  have h3 := w.c3
  unfold f_X7_passMany
  have G : ∀ k d s n, d + k = m → k < n → s ≤ d → (∀ j, d - s ≤ j → j < d → sFlag (sIt j σ) = false) →
      f_X7_passMany_5 fu (nI (σ 3)) (nI (σ 6)) (nI (σ 7)) (aO od σ) (nI (σ 1)) (nI (σ 2)) (nI (sB σ)) (nI (sR σ)) (aL lt σ) (aR rm σ) (aP sp σ) n (nI m) (nI d) (nI s) (nI (sIt d σ 8)) (nI (sIt d σ 4)) (nI (sIt d σ 5)) (aD dt (sIt d σ)) (aK kn (sIt d σ)) (aM md (sIt d σ)) (aS sd (sIt d σ)) (aU us (sIt d σ))
        = some (nI (sIt m σ 8), nI (sIt m σ 4), nI (sIt m σ 5), aD dt (sIt m σ), aK kn (sIt m σ), aM md (sIt m σ), aS sd (sIt m σ), aU us (sIt m σ)) := by
    intro k
    induction k with
    | zero =>
      intro d s n hd hn hs hf
      obtain ⟨n, rfl⟩ : ∃ q, n = q + 1 := ⟨n - 1, by omega⟩
      obtain rfl : d = m := by omega
      obtain ⟨wr, hB, h4⟩ := sIt_ok w d
      simp (disch := omega) only [f_X7_passMany_5, nI_le', if_pos, pk_sub]
      rw [Nat.sub_self]
      exact c_skipTo wr w hB (by omega) (Or.inl rfl) (by omega)
    | succ k ih =>
      intro d s n hd hn hs hf
      obtain ⟨n, rfl⟩ : ∃ q, n = q + 1 := ⟨n - 1, by omega⟩
      obtain ⟨wr, hB, h4⟩ := sIt_ok w d
      simp (disch := omega) only [f_X7_passMany_5, nI_le', if_neg, pk_sub]
      by_cases hst : σ 3 ≤ s
      · rw [if_pos hst]
        have hk : stuck (sIt (d - s) σ) := by
          refine still_stuck (m := s) (sIt_ok w _).1 (by rw [(sIt_ok w _).2.1.e3]; exact hst) (fun j hj => ?_)
          rw [← sIt_add]
          exact hf _ (by omega) (by omega)
        have hk2 : stuck (sIt d σ) := by
          have := (stuck_it (sIt_ok w (d - s)).1 hk s).1
          rw [← sIt_add, show d - s + s = d by omega] at this
          exact this
        have e : sIt m σ = sIt (m - d) (sIt d σ) := by rw [← sIt_add, show d + (m - d) = m by omega]
        rw [e]
        exact c_skipTo wr w hB (by omega) (Or.inr hk2) (by omega)
      · rw [if_neg hst]
        have hP := c_pass (dt := dt) (kn := kn) (md := md) (sd := sd) (us := us) (lt := lt) (rm := rm) (sp := sp) (od := od) (fu := fu) wr (by omega)
        rw [hB.e3, hB.e6, hB.e7, hB.e1, hB.e2, aO_B hB w, aL_B hB w, aR_B hB w, aP_B hB w, sB_B hB, sR_B hB] at hP
        rw [hP, bd_s]
        simp (disch := omega) only [bI_0, lt_, nI_add]
        rw [← sIt_s]
        cases hfl : sFlag (sIt d σ)
        · rw [if_pos rfl]
          refine ih (d + 1) (s + 1) n (by omega) (by omega) (by omega) (fun j h1 h2 => ?_)
          by_cases e : j = d
          · subst e; exact hfl
          · exact hf j (by omega) (by omega)
        · rw [if_neg (by decide)]
          exact ih (d + 1) 0 n (by omega) (by omega) (by omega) (fun j h1 h2 => by omega)
  exact G m 0 0 fu (by omega) (by omega) (Nat.le_refl 0) (fun j _ h => absurd h (Nat.not_lt_zero j))
/-- the reference's loop of TURNS, by itself -/
theorem mk_mk {c : Nat → Int32} {σ τ : Nat → Nat} : mk (mk c σ) τ = mk c τ := mkF_mkF
