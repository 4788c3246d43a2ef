/-! GAME, MIX -/
def sSafeN (σ : Nat → Nat) : Nat → Nat → Option Nat
  | 0, _ => none
  | k + 1, j => if sShut σ j = true then sSafeN σ k (j + 1) else if σ (61 + j) = 0 then some j else sSafeN σ k (j + 1)
def sSafe (σ : Nat → Nat) : Option Nat := sSafeN σ (σ 2) 0
/-- the first so far -/
def sSafeP (σ : Nat → Nat) : Nat → Option Nat
  | 0 => none
  | k + 1 => if sShut σ k = true then sSafeP σ k else if σ (61 + k) = 0 then (match sSafeP σ k with | none => some k | some p => some p) else sSafeP σ k
def sOpM (σ : Nat → Nat) : Nat → Nat
  | 0 => 0
  | k + 1 => if sShut σ k = true then sOpM σ k else sOpM σ k + 1
def sProd (σ : Nat → Nat) : Nat → Nat
  | 0 => 1
  | k + 1 => if sShut σ k = true then sProd σ k else sProd σ k * σ (61 + k)
def sShare (σ : Nat → Nat) (X : Nat) : Nat → Nat
  | 0 => 0
  | k + 1 => if sShut σ k = true then sShare σ X k else sShare σ X k + X / σ (61 + k)
theorem sSafeP_lt {σ : Nat → Nat} : ∀ {k p : Nat}, sSafeP σ k = some p → p < k
  | 0, p, h => by cases h
  | k + 1, p, h => by
    unfold sSafeP at h
    split at h
    · exact Nat.lt_succ_of_lt (sSafeP_lt h)
    · split at h
      · split at h
        · cases h; exact Nat.lt_succ_self _
        · rename_i q hq
          cases h; exact Nat.lt_succ_of_lt (sSafeP_lt hq)
      · exact Nat.lt_succ_of_lt (sSafeP_lt h)
theorem sSafe_eq {σ : Nat → Nat} : ∀ (k j : Nat), sSafeP σ (j + k) = (match sSafeP σ j with | none => sSafeN σ k j | some p => some p)
  | 0, j => by
    rw [Nat.add_zero]
    unfold sSafeN
    cases sSafeP σ j <;> rfl
  | k + 1, j => by
    rw [show j + (k + 1) = (j + 1) + k by omega, sSafe_eq k (j + 1)]
    have e2 : sSafeN σ (k + 1) j = if sShut σ j = true then sSafeN σ k (j + 1) else if σ (61 + j) = 0 then some j else sSafeN σ k (j + 1) := rfl
    rw [e2]
    have e : sSafeP σ (j + 1) = if sShut σ j = true then sSafeP σ j else if σ (61 + j) = 0 then (match sSafeP σ j with | none => some j | some p => some p) else sSafeP σ j := rfl
    rw [e]
    by_cases a : sShut σ j = true
    · rw [if_pos a, if_pos a]
    · rw [if_neg a, if_neg a]
      by_cases b : σ (61 + j) = 0
      · rw [if_pos b, if_pos b]
        cases sSafeP σ j <;> rfl
      · rw [if_neg b, if_neg b]
theorem sSafe_P {σ : Nat → Nat} : sSafeP σ (σ 2) = sSafe σ := by
  have h := sSafe_eq (σ := σ) (σ 2) 0
  rw [Nat.zero_add] at h
  exact h
theorem safe_pos {σ : Nat → Nat} : ∀ {k : Nat}, sSafeP σ k = none → ∀ p, p < k → sShut σ p = false → 0 < σ (61 + p)
  | 0, _, p, h, _ => absurd h (Nat.not_lt_zero p)
  | k + 1, h, p, hp, hs => by
    unfold sSafeP at h
    by_cases e : p = k
    · subst e
      rw [hs, if_neg (by decide)] at h
      by_cases b : σ (61 + p) = 0
      · rw [if_pos b] at h
        split at h <;> cases h
      · omega
    · split at h
      · exact safe_pos h p (by omega) hs
      · split at h
        · split at h <;> cases h
        · exact safe_pos h p (by omega) hs
theorem whole_div : ∀ o, o ≤ 16 → 0 < o → o ∣ 720720 := by
  intro o h1 h2
  have : o = 1 ∨ o = 2 ∨ o = 3 ∨ o = 4 ∨ o = 5 ∨ o = 6 ∨ o = 7 ∨ o = 8 ∨ o = 9 ∨ o = 10 ∨ o = 11 ∨ o = 12 ∨ o = 13 ∨ o = 14 ∨ o = 15 ∨ o = 16 := by omega
  rcases this with rfl | rfl | rfl | rfl | rfl | rfl | rfl | rfl | rfl | rfl | rfl | rfl | rfl | rfl | rfl | rfl <;> decide
theorem prod_div {σ : Nat → Nat} : ∀ {k p : Nat}, p < k → sShut σ p = false → σ (61 + p) ∣ sProd σ k
  | 0, p, h, _ => absurd h (Nat.not_lt_zero p)
  | k + 1, p, h, hs => by
    unfold sProd
    by_cases e : p = k
    · subst e
      rw [hs, if_neg (by decide)]
      exact Nat.dvd_mul_left _ _
    · split
      · exact prod_div (by omega) hs
      · exact Nat.dvd_trans (prod_div (k := k) (p := p) (by omega) hs) (Nat.dvd_mul_right _ _)
/-- shares of one whole and of another -/
theorem share_mul {σ : Nat → Nat} {X Y : Nat} : ∀ {k : Nat}, (∀ p, p < k → sShut σ p = false → 0 < σ (61 + p) ∧ σ (61 + p) ∣ X ∧ σ (61 + p) ∣ Y) → sShare σ X k * Y = sShare σ Y k * X
  | 0, _ => by unfold sShare; omega
  | k + 1, h => by
    have ih := share_mul (σ := σ) (X := X) (Y := Y) (k := k) (fun p hp => h p (by omega))
    unfold sShare
    split
    · exact ih
    · rename_i hs
      obtain ⟨h0, ⟨a, ha⟩, ⟨b, hb⟩⟩ := h k (Nat.lt_succ_self k) (Bool.eq_false_iff.mpr hs)
      rw [Nat.add_mul, Nat.add_mul, ih]
      congr 1
      rw [ha, hb, Nat.mul_div_cancel_left a h0, Nat.mul_div_cancel_left b h0]
      ac_rfl
theorem prod_b {σ : Nat → Nat} (w : WF σ) : ∀ {k : Nat}, k ≤ 6 → sProd σ k ≤ 16 ^ k
  | 0, _ => Nat.le_refl _
  | k + 1, hk => by
    have h := prod_b w (k := k) (by omega)
    have ho := w.od (p := k) (by omega)
    rw [Nat.pow_succ]
    unfold sProd
    split
    · omega
    · exact Nat.mul_le_mul h ho
theorem prod_pos {σ : Nat → Nat} : ∀ {k : Nat}, (∀ p, p < k → sShut σ p = false → 0 < σ (61 + p)) → 0 < sProd σ k
  | 0, _ => Nat.one_pos
  | k + 1, h => by
    have ih := prod_pos (σ := σ) (k := k) (fun p hp => h p (by omega))
    unfold sProd
    split
    · exact ih
    · rename_i hs
      exact Nat.mul_pos ih (h k (Nat.lt_succ_self k) (Bool.eq_false_iff.mpr hs))
theorem share_b {σ : Nat → Nat} {X : Nat} : ∀ k, sShare σ X k ≤ k * X
  | 0 => Nat.zero_le _
  | k + 1 => by
    have h := share_b (σ := σ) (X := X) k
    have h2 := Nat.div_le_self X (σ (61 + k))
    rw [Nat.succ_mul]
    unfold sShare
    split <;> omega
theorem share_pos {σ : Nat → Nat} {X : Nat} : ∀ {k : Nat}, (∀ p, p < k → sShut σ p = false → 0 < σ (61 + p) ∧ σ (61 + p) ∣ X) → 0 < X → (0 < sShare σ X k ↔ 0 < sOpM σ k)
  | 0, _, _ => Iff.rfl
  | k + 1, h, hX => by
    have ih := share_pos (σ := σ) (X := X) (k := k) (fun p hp => h p (by omega)) hX
    unfold sShare sOpM
    split
    · exact ih
    · rename_i hs
      obtain ⟨h0, h1⟩ := h k (Nat.lt_succ_self k) (Bool.eq_false_iff.mpr hs)
      have := Nat.div_pos (Nat.le_of_dvd hX h1) h0
      omega
section GM
variable {c : Nat → Int32} {σ : Nat → Nat} {x1 x2 st st2 th : Int32} {fu : Nat} {xx us : Nat → Int32} {ab be ma mu al : Int64} {g1 g2 : Int32} {g3 g4 : Int64}
theorem c_firstSafe (w : WF σ) (hfu : 100 < fu) : f_X4_firstSafe fu (nI (σ 2)) (nI (σ 7)) (aX xx σ) = some (oI (sSafe σ)) := by
  have h2 := w.c2
  unfold f_X4_firstSafe sSafe
  refine loop_q (fun n j => f_X4_firstSafe_2 fu (nI (σ 2)) (nI (σ 7)) (aX xx σ) n (nI j)) (σ 2) (fun k j => some (oI (sSafeN σ k j))) ?_ ?_ (σ 2) 0 fu (by omega) (by omega)
  · intro n k j hj ih
    have ho := w.od (p := j) (by omega)
    simp (disch := omega) only [f_X4_firstSafe_2, nI_le', if_neg, c_shut w, bd_s, bI_0, gi_n, nI_cl, aX_in, nI_eq0, lt_, nI_add, sSafeN]
    cases hs : sShut σ j
    · rw [if_pos rfl, if_neg (show ¬ (false = true) by decide)]
      by_cases e : σ (61 + j) = 0
      · rw [if_pos e, if_pos e]; rfl
      · rw [if_neg e, if_neg e]; exact ih
    · rw [if_neg (show ¬ (true = false) by decide), if_pos (show true = true from rfl)]; exact ih
  · intro n
    simp (disch := omega) only [f_X4_firstSafe_2, nI_le', if_pos]
    rfl
theorem c_sumOfParts (w : WF σ) (hs : sSafe σ = none) (hfu : 100 < fu) : f_X4_sumOfParts fu (nI (σ 2)) (nI (σ 7)) (aX xx σ) = some (lN (sShare σ 720720 (σ 2))) := by
  have h2 := w.c2
  rw [← sSafe_P] at hs
  unfold f_X4_sumOfParts
  refine loop_p (fun n j => f_X4_sumOfParts_4 fu (nI (σ 2)) (nI (σ 7)) (aX xx σ) n (lN (sShare σ 720720 j)) (nI j)) (σ 2) _ ?_ ?_ (σ 2) 0 fu (by omega) (by omega)
  · intro n j hj
    have ho := w.od (p := j) (by omega)
    simp (disch := omega) only [f_X4_sumOfParts_4, nI_le', if_neg, c_shut w, bd_s, bI_0, lt_, nI_add, sShare]
    cases hsh : sShut σ j
    · have h0 := safe_pos hs j hj hsh
      have hz := lN_ne0 (show σ (61 + j) < 9223372036854775808 by omega) h0
      rw [if_pos rfl, if_neg (show ¬ (false = true) by decide)]
      unfold f_X4_part
      simp (disch := omega) only [gi_n, nI_cl, aX_in, lt_, nI_eq0, if_neg, nI_l', gd_pos hz, pk_lDiv, bd_s, lN_add]
    · rw [if_neg (show ¬ (true = false) by decide), if_pos (show true = true from rfl)]
  · intro n
    simp (disch := omega) only [f_X4_sumOfParts_4, nI_le', if_pos]
theorem m_games (w : WF σ) (hfu : 100 < fu) : ∃ sh : Int64, f_X12_games fu g1 g2 g3 g4 (mk c σ) = some (oI (sSafe σ), nI (sOpM σ (σ 2)), lN (sProd σ (σ 2)), sh) ∧ (sSafe σ = none → sh = lN (sShare σ (sProd σ (σ 2)) (σ 2))) := by
  have h2 := w.c2
  have hpb := prod_b w h2
  have h16 : 16 ^ σ 2 ≤ 16 ^ 6 := Nat.pow_le_pow_right (by decide) h2
  have h3 : 16 ^ 6 = 16777216 := by decide
  have B : sSafe σ = none → f_X12_games_112 fu (mk c σ) fu (nI 0) (-1 : Int32) (nI (sOpM σ (σ 2))) (lN (sProd σ (σ 2))) (lN 0) = some ((-1 : Int32), nI (sOpM σ (σ 2)), lN (sProd σ (σ 2)), lN (sShare σ (sProd σ (σ 2)) (σ 2))) := by
    intro hs
    rw [← sSafe_P] at hs
    refine loop_p (fun n j => f_X12_games_112 fu (mk c σ) n (nI j) (-1 : Int32) (nI (sOpM σ (σ 2))) (lN (sProd σ (σ 2))) (lN (sShare σ (sProd σ (σ 2)) j))) (σ 2) _ ?_ ?_ (σ 2) 0 fu (by omega) (by omega)
    · intro n j hj
      have ho := w.od (p := j) (by omega)
      simp (disch := omega) only [f_X12_games_112, gi_n, nI_cl, mk_in, nI_le', if_neg, m_isShut w, bd_s, bI_0, lt_, nI_add, nI_l', sShare]
      cases hsh : sShut σ j
      · have h0 := safe_pos hs j hj hsh
        have hz := lN_ne0 (show σ (61 + j) < 9223372036854775808 by omega) h0
        rw [if_pos rfl, if_neg (show ¬ (false = true) by decide), gd_pos hz, pk_lDiv (by omega) h0 (by omega), lN_add]
      · rw [if_neg (show ¬ (true = false) by decide), if_pos (show true = true from rfl)]
        simp only [lN_add, Nat.add_zero]
    · intro n
      simp (disch := omega) only [f_X12_games_112, gi_n, nI_cl, mk_in, nI_le', if_pos]
  have A : f_X12_games fu g1 g2 g3 g4 (mk c σ) = (if oI (sSafe σ) < 0 then f_X12_games_112 fu (mk c σ) fu (nI 0) (oI (sSafe σ)) (nI (sOpM σ (σ 2))) (lN (sProd σ (σ 2))) (lN 0) else some (oI (sSafe σ), nI (sOpM σ (σ 2)), lN (sProd σ (σ 2)), lN 0)) := by
    unfold f_X12_games
    rw [← sSafe_P]
    refine loop_p (fun n j => f_X12_games_22 fu (mk c σ) n (nI j) (oI (sSafeP σ j)) (nI (sOpM σ j)) (lN (sProd σ j)) (lN 0)) (σ 2) _ ?_ ?_ (σ 2) 0 fu (by omega) (by omega)
    · intro n j hj
      have ho := w.od (p := j) (by omega)
      simp (disch := omega) only [f_X12_games_22, f_X12_games_77, gi_n, nI_cl, mk_in, nI_le', if_neg, m_isShut w, bd_s, bI_0, lt_, nI_add, nI_eq0, nI_l', lN_mul, sSafeP, sOpM, sProd]
      cases hsh : sShut σ j
      · rw [if_pos rfl]
        simp only [if_neg (show ¬ (false = true) by decide)]
        by_cases e : σ (61 + j) = 0
        · rw [if_pos e, if_pos e]
          cases hp : sSafeP σ j with
          | none => rw [if_neg (by rw [oI_n0le]; exact id)]; rfl
          | some q =>
            have := sSafeP_lt hp
            rw [if_pos (by rw [oI_s, nI_0le (by omega)]; trivial)]
        · rw [if_neg e, if_neg e]
      · rw [if_neg (show ¬ (true = false) by decide)]
        simp only [if_true]
    · intro n
      simp (disch := omega) only [f_X12_games_22, gi_n, nI_cl, mk_in, nI_le', if_pos]
  rw [A]
  cases hs : sSafe σ with
  | none =>
    rw [if_pos (by rw [oI_nlt0]; trivial)]
    exact ⟨_, B hs, fun _ => rfl⟩
  | some p =>
    have hp := sSafeP_lt (sSafe_P.trans hs)
    rw [if_neg (by rw [oI_s, nI_lt0 (by omega)]; exact id)]
    exact ⟨_, rfl, fun h => by cases h⟩
theorem opM_le {σ : Nat → Nat} : ∀ k, sOpM σ k ≤ k
  | 0 => Nat.le_refl _
  | k + 1 => by
    have := opM_le (σ := σ) k
    unfold sOpM
    split <;> omega
theorem opM_pos {σ : Nat → Nat} {p : Nat} (hs : sShut σ p = false) : ∀ {k : Nat}, p < k → 0 < sOpM σ k
  | 0, h => absurd h (Nat.not_lt_zero p)
  | k + 1, h => by
    unfold sOpM
    by_cases e : p = k
    · subst e; rw [hs, if_neg (by decide)]; omega
    · have := opM_pos hs (k := k) (by omega)
      split <;> omega
theorem safe_open {σ : Nat → Nat} : ∀ {k p : Nat}, sSafeP σ k = some p → sShut σ p = false
  | 0, p, h => by cases h
  | k + 1, p, h => by
    unfold sSafeP at h
    split at h
    · exact safe_open h
    · rename_i hb
      split at h
      · split at h
        · cases h; exact Bool.eq_false_iff.mpr hb
        · rename_i q hq
          cases h; exact safe_open hq
      · exact safe_open h
theorem r_game (w : WF σ) (hfu : 300 < fu) : ∃ r s a b o1 o2 o3 o4, f_X11_game fu st (nI (σ 2)) (nI (σ 7)) (aX xx σ) ab be = some (r, s, a, b) ∧ f_X12_game fu st2 th ab be g1 g2 g3 g4 (mk c σ) = some (r, s, nI 0, a, b, o1, o2, o3, o4) := by
  have h2 := w.c2
  obtain ⟨sh, hg, hsh⟩ := m_games (c := c) (g1 := g1) (g2 := g2) (g3 := g3) (g4 := g4) (fu := fu) w (by omega)
  have hom := opM_le (σ := σ) (σ 2)
  have hpb := prod_b w h2
  have h16 : 16 ^ σ 2 ≤ 16 ^ 6 := Nat.pow_le_pow_right (by decide) h2
  have h3 : 16 ^ 6 = 16777216 := by decide
  unfold f_X11_game f_X12_game f_X4_tellGame
  rw [hg, bd_s, c_firstSafe w (by omega), bd_s]
  simp (disch := omega) only [nI_eq0]
  cases hs : sSafe σ with
  | none =>
    have hsP := sSafe_P.trans hs
    have hpos := safe_pos hsP
    have hP := prod_pos hpos
    have hS := share_b (σ := σ) (X := sProd σ (σ 2)) (σ 2)
    have hS2 : σ 2 * sProd σ (σ 2) ≤ 6 * 16777216 := Nat.mul_le_mul h2 (by omega)
    have hW := share_b (σ := σ) (X := 720720) (σ 2)
    have hW2 : σ 2 * 720720 ≤ 6 * 720720 := Nat.mul_le_mul_right _ h2
    have q1 := share_pos (σ := σ) (X := 720720) (k := σ 2) (fun p hp hh => ⟨hpos p hp hh, whole_div _ (w.od (by omega)) (hpos p hp hh)⟩) (by decide)
    have q2 := share_pos (σ := σ) (X := sProd σ (σ 2)) (k := σ 2) (fun p hp hh => ⟨hpos p hp hh, prod_div hp hh⟩) hP
    rw [if_pos (show oI none = (-1 : Int32) from rfl), c_sumOfParts w hs (by omega), bd_s, hsh hs]
    simp (disch := omega) only [lgN_0]
    by_cases e : sOpM σ (σ 2) = 0
    · rw [if_pos (by omega), if_pos e]
      exact ⟨_, _, _, _, _, _, _, _, rfl, rfl⟩
    · have hsame := frac_same (t1 := 720720) (d1 := 16 * sShare σ 720720 (σ 2)) (t2 := sProd σ (σ 2)) (d2 := 16 * sShare σ (sProd σ (σ 2)) (σ 2)) (by omega) (by omega) (by
        have hm := share_mul (σ := σ) (X := 720720) (Y := sProd σ (σ 2)) (k := σ 2) (fun p hp hh => ⟨hpos p hp hh, whole_div _ (w.od (by omega)) (hpos p hp hh), prod_div hp hh⟩)
        calc 720720 * (16 * sShare σ (sProd σ (σ 2)) (σ 2)) = 16 * (sShare σ (sProd σ (σ 2)) (σ 2) * 720720) := by omega
          _ = 16 * (sShare σ 720720 (σ 2) * sProd σ (σ 2)) := by rw [hm]
          _ = sProd σ (σ 2) * (16 * sShare σ 720720 (σ 2)) := by ac_rfl)
      rw [if_neg (by omega), if_neg e, if_pos (by rw [oI_nlt0]; trivial), lN_mul, lN_mul]
      simp (disch := omega) only [c_keep, m_frac, bd_s, agr11, gd_1]
      rw [hsame.1, hsame.2]
      exact ⟨_, _, _, _, _, _, _, _, rfl, rfl⟩
  | some p =>
    have hp := sSafeP_lt (sSafe_P.trans hs)
    have hop := opM_pos (safe_open (sSafe_P.trans hs)) hp
    rw [if_neg (by rw [oI_s, nI_ne_m1 (by omega)]; exact id), if_neg (by omega), if_neg (by rw [oI_s, nI_lt0 (by omega)]; exact id)]
    simp (disch := omega) only [c_keep, m_frac, bd_s, agr11, gd_1]
    exact ⟨_, _, _, _, _, _, _, _, rfl, rfl⟩
theorem r_mix (w : WF σ) (hfu : 300 < fu) : ∃ r s a b o1 o2 o3 o4, f_X11_mix fu x1 st (nI (σ 2)) (nI (σ 7)) (aX xx σ) ab be = some (r, s, a, b) ∧ f_X12_mix fu x1 st2 th ab be g1 g2 g3 g4 (mk c σ) = some (r, s, nI 0, a, b, o1, o2, o3, o4) := by
  have h2 := w.c2
  obtain ⟨sh, hg, hsh⟩ := m_games (c := c) (g1 := g1) (g2 := g2) (g3 := g3) (g4 := g4) (fu := fu) w (by omega)
  have hpb := prod_b w h2
  have h16 : 16 ^ σ 2 ≤ 16 ^ 6 := Nat.pow_le_pow_right (by decide) h2
  have h3 : 16 ^ 6 = 16777216 := by decide
  unfold f_X11_mix f_X12_mix
  simp (disch := omega) only [c_hasPage, m_isPageAt w, bd_s, bI_0, den11, no12, gd_0]
  cases h : inR x1 0 (σ 2)
  · exact ⟨_, _, _, _, _, _, _, _, rfl, rfl⟩
  · obtain ⟨p, hp, rfl⟩ := inR_of h
    have ho := w.od (p := p) (by omega)
    rw [if_neg (show ¬ (true = false) by decide), if_neg (show ¬ (true = false) by decide)]
    rw [c_shut w (by omega), m_isShut w (by omega), bd_s, bd_s]
    simp only [bI_0]
    cases hst : sShut σ p
    · rw [if_pos rfl, if_pos rfl, hg, bd_s]
      unfold f_X4_tellMix
      rw [c_firstSafe w (by omega), bd_s]
      cases hs : sSafe σ with
      | none =>
        have hsP := sSafe_P.trans hs
        have hpos := safe_pos hsP
        have hP := prod_pos hpos
        have h0 := hpos p hp hst
        have hS := share_b (σ := σ) (X := sProd σ (σ 2)) (σ 2)
        have hS2 : σ 2 * sProd σ (σ 2) ≤ 6 * 16777216 := Nat.mul_le_mul h2 (by omega)
        have hW := share_b (σ := σ) (X := 720720) (σ 2)
        have hW2 : σ 2 * 720720 ≤ 6 * 720720 := Nat.mul_le_mul_right _ h2
        have hop := opM_pos hst hp
        have q1 := share_pos (σ := σ) (X := 720720) (k := σ 2) (fun p hp hh => ⟨hpos p hp hh, whole_div _ (w.od (by omega)) (hpos p hp hh)⟩) (by decide)
        have q2 := share_pos (σ := σ) (X := sProd σ (σ 2)) (k := σ 2) (fun p hp hh => ⟨hpos p hp hh, prod_div hp hh⟩) hP
        have hd1 := Nat.div_le_self 720720 (σ (61 + p))
        have hd2 := Nat.div_le_self (sProd σ (σ 2)) (σ (61 + p))
        have hz := lN_ne0 (show σ (61 + p) < 9223372036854775808 by omega) h0
        have hsame := frac_same (t1 := 720720 / σ (61 + p)) (d1 := sShare σ 720720 (σ 2)) (t2 := sProd σ (σ 2) / σ (61 + p)) (d2 := sShare σ (sProd σ (σ 2)) (σ 2)) (by omega) (by omega) (by
          have hm := share_mul (σ := σ) (X := 720720) (Y := sProd σ (σ 2)) (k := σ 2) (fun p hp hh => ⟨hpos p hp hh, whole_div _ (w.od (by omega)) (hpos p hp hh), prod_div hp hh⟩)
          obtain ⟨u, hu⟩ := whole_div _ ho h0
          obtain ⟨v, hv⟩ := prod_div (σ := σ) hp hst
          have e1 : 720720 / σ (61 + p) = u := by rw [hu, Nat.mul_div_cancel_left _ h0]
          have e2 : sProd σ (σ 2) / σ (61 + p) = v := by rw [hv, Nat.mul_div_cancel_left _ h0]
          rw [e1, e2]
          generalize sShare σ 720720 (σ 2) = A at hm ⊢
          generalize sShare σ (sProd σ (σ 2)) (σ 2) = B at hm ⊢
          rw [hv] at hm
          have hm2 : A * (σ (61 + p) * v) = B * (σ (61 + p) * u) := by rw [hm]; exact congrArg (fun z => B * z) hu
          have hm3 : σ (61 + p) * (u * B) = σ (61 + p) * (v * A) := by
            calc σ (61 + p) * (u * B) = B * (σ (61 + p) * u) := by ac_rfl
              _ = A * (σ (61 + p) * v) := hm2.symm
              _ = σ (61 + p) * (v * A) := by ac_rfl
          exact Nat.eq_of_mul_eq_mul_left h0 hm3)
        rw [if_pos (show oI none = (-1 : Int32) from rfl), c_sumOfParts w hs (by omega), hsh hs, if_pos (by rw [oI_nlt0]; trivial)]
        unfold f_X4_part
        simp (disch := omega) only [gi_n, nI_cl, nI_add, mk_in, aX_in, lt_, nI_eq0, if_neg, nI_l', gd_pos hz, pk_lDiv, bd_s, c_keep, m_frac, agr11, gd_1]
        rw [hsame.1, hsame.2]
        exact ⟨_, _, _, _, _, _, _, _, rfl, rfl⟩
      | some q =>
        have hq := sSafeP_lt (sSafe_P.trans hs)
        rw [if_neg (show ¬ oI (some q) = (-1 : Int32) by rw [oI_s, nI_ne_m1 (by omega)]; exact id), if_neg (show ¬ oI (some q) < 0 by rw [oI_s, nI_lt0 (by omega)]; exact id)]
        simp (disch := omega) only [oI_s, nI_eq']
        by_cases e : p = q
        · rw [if_pos e, if_pos e.symm]
          simp (disch := omega) only [c_keep, m_frac, bd_s, agr11, gd_1]
          exact ⟨_, _, _, _, _, _, _, _, rfl, rfl⟩
        · rw [if_neg e, if_neg (fun h => e h.symm)]
          simp (disch := omega) only [c_keep, m_frac, bd_s, agr11, gd_1]
          exact ⟨_, _, _, _, _, _, _, _, rfl, rfl⟩
    · exact ⟨_, _, _, _, _, _, _, _, rfl, rfl⟩
end GM
