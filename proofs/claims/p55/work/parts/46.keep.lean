/-! KEPT, HIDE -/
def sKpS (σ : Nat → Nat) (p : Nat) (b : Option Nat) : Option Nat :=
  if sShut σ p = true then b else
    match b with
    | none => some p
    | some q => if sFree σ p ≤ sFree σ q then some q else some p
def sKp (σ : Nat → Nat) : Nat → Option Nat
  | 0 => none
  | k + 1 => sKpS σ k (sKp σ k)
theorem sKp_lt {σ : Nat → Nat} : ∀ {k p : Nat}, sKp σ k = some p → p < k
  | 0, p, h => by cases h
  | k + 1, p, h => by
    unfold sKp sKpS at h
    split at h
    · exact Nat.lt_succ_of_lt (sKp_lt h)
    · split at h
      · cases h; exact Nat.lt_succ_self _
      · rename_i q hq
        split at h
        · cases h; exact Nat.lt_succ_of_lt (sKp_lt hq)
        · cases h; exact Nat.lt_succ_self _
def sHdS (σ : Nat → Nat) (s p : Nat) (b : Option Nat) : Option Nat :=
  if sShut σ p = true ∨ sFree σ p < σ (49 + s) then b else
    match b with
    | none => some p
    | some q => if σ (61 + q) ≤ σ (61 + p) then some q else some p
def sHd (σ : Nat → Nat) (s : Nat) : Nat → Option Nat
  | 0 => none
  | k + 1 => sHdS σ s k (sHd σ s k)
theorem sHd_lt {σ : Nat → Nat} {s : Nat} : ∀ {k p : Nat}, sHd σ s k = some p → p < k
  | 0, p, h => by cases h
  | k + 1, p, h => by
    unfold sHd sHdS at h
    split at h
    · exact Nat.lt_succ_of_lt (sHd_lt h)
    · split at h
      · cases h; exact Nat.lt_succ_self _
      · rename_i q hq
        split at h
        · cases h; exact Nat.lt_succ_of_lt (sHd_lt hq)
        · cases h; exact Nat.lt_succ_self _
section KP
variable {c : Nat → Int32} {σ : Nat → Nat} {x1 x2 st st2 th : Int32} {fu : Nat} {xx us lt rm : Nat → Int32}
theorem sFree_le (w : WF σ) {p : Nat} (hp : p < 6) : sFree σ p ≤ 60 := by have := w.ro hp; unfold sFree; omega
theorem tell_3 (o : Option Nat) (hb : ∀ j, o = some j → j < 2147483648) (a : Int32) : (if 0 ≤ oI o then some (oI o, nI 0, a) else bd_ (f_X12_refuse (nI 8) (nI 0)) (fun (z : Int32 × Int32) => match z with | (r4, u5) => some (r4, u5, a))) = some (oI o, nI (if o = none then 8 else 0), a) := by
  cases o with
  | none => rw [if_neg (by rw [oI_n0le]; exact id)]; rfl
  | some j => rw [if_pos (by rw [oI_s, nI_0le (hb j rfl)]; trivial)]; rfl
theorem r_kept (w : WF σ) (hfu : 100 < fu) : ∃ r s, f_X11_kept fu st (nI (σ 2)) (nI (σ 7)) (aU us σ) (aR rm σ) = some (r, s) ∧ f_X12_kept fu st2 th (mk c σ) = some (r, s, nI 0) := by
  have h2 := w.c2
  have hb : ∀ j, sKp σ (σ 2) = some j → j < 2147483648 := fun j h => by have := sKp_lt h; omega
  refine ⟨oI (sKp σ (σ 2)), nI (if sKp σ (σ 2) = none then 8 else 0), ?_, ?_⟩
  · unfold f_X11_kept
    refine loop_p (fun n j => f_X11_kept_6 fu (nI (σ 2)) (nI (σ 7)) (aU us σ) (aR rm σ) n (oI (sKp σ j)) (match sKp σ j with | none => (-1 : Int32) | some q => nI (sFree σ q)) (nI j) st) (σ 2) _ ?_ ?_ (σ 2) 0 fu (by omega) (by omega)
    · intro n j hj
      have hF := sFree_le w (p := j) (by omega)
      have e : sKp σ (j + 1) = sKpS σ j (sKp σ j) := rfl
      rw [e]
      simp (disch := omega) only [f_X11_kept_6, nI_le', if_neg, c_freeOf w, c_shut w, bd_s, bI_0, lt_, nI_add]
      unfold sKpS
      cases hs : sShut σ j
      · rw [if_pos rfl, if_neg (show ¬ (false = true) by decide)]
        cases hq : sKp σ j with
        | none =>
          simp only
          rw [if_neg (fun h => absurd (Int32.lt_of_lt_of_le (show (-1 : Int32) < 0 by decide) (nI_pos' (n := sFree σ j) (by omega))) (Int32.not_lt.mpr h))]
          rfl
        | some q =>
          have hq2 := sKp_lt hq
          have hF2 := sFree_le w (p := q) (by omega)
          simp only
          by_cases hc : sFree σ j ≤ sFree σ q
          · rw [if_pos (by rw [nI_le' (by omega) (by omega)]; exact hc), if_pos hc]
          · rw [if_neg (by rw [nI_le' (by omega) (by omega)]; exact hc), if_neg hc]; rfl
      · rw [if_neg (show ¬ (true = false) by decide), if_pos (show true = true from rfl)]
    · intro n
      simp (disch := omega) only [f_X11_kept_6, nI_le', if_pos, ansAny _ _ hb, bd_s]
  · unfold f_X12_kept
    refine loop_p (fun n j => f_X12_kept_14 fu (mk c σ) n (oI (sKp σ j)) (nI j) (nI 0) (nI 0)) (σ 2) _ ?_ ?_ (σ 2) 0 fu (by omega) (by omega)
    · intro n j hj
      have hF := sFree_le w (p := j) (by omega)
      have e : sKp σ (j + 1) = sKpS σ j (sKp σ j) := rfl
      rw [e]
      simp (disch := omega) only [f_X12_kept_14, gi_n, nI_cl, mk_in, nI_le', if_neg, m_isShut w, bd_s, bI_0, lt_, nI_add, m_freeOf w]
      unfold sKpS
      cases hs : sShut σ j
      · rw [if_pos rfl, if_neg (show ¬ (false = true) by decide)]
        cases hq : sKp σ j with
        | none => rw [if_pos (by rw [oI_nlt0]; trivial)]; rfl
        | some q =>
          have hq2 := sKp_lt hq
          have hF2 := sFree_le w (p := q) (by omega)
          rw [if_neg (by rw [oI_s, nI_lt0 (by omega)]; exact id)]
          simp (disch := omega) only [oI_s, m_freeOf w, bd_s, nI_le']
          by_cases hc : sFree σ j ≤ sFree σ q
          · rw [if_pos hc, if_pos hc]; rfl
          · rw [if_neg hc, if_neg hc]; rfl
      · rw [if_neg (show ¬ (true = false) by decide), if_pos (show true = true from rfl)]
    · intro n
      simp (disch := omega) only [f_X12_kept_14, gi_n, nI_cl, mk_in, nI_le', if_pos]
      exact tell_3 _ hb _
theorem r_hide (w : WF σ) (hfu : 100 < fu) : ∃ r s, f_X11_hide fu x1 st (nI (σ 1)) (nI (σ 2)) (aL lt σ) (nI (σ 7)) (aX xx σ) (aU us σ) (aR rm σ) = some (r, s) ∧ f_X12_hide fu x1 st2 th (mk c σ) = some (r, s, nI 0) := by
  have h1 := w.c1
  have h2 := w.c2
  unfold f_X11_hide f_X12_hide
  simp (disch := omega) only [c_hasSecret, m_isSecretAt w, bd_s, bI_0, ref11, ref12]
  cases h : inR x1 0 (σ 1)
  · exact ⟨_, _, rfl, rfl⟩
  · obtain ⟨t, ht, rfl⟩ := inR_of h
    rw [if_neg (show ¬ (true = false) by decide), if_neg (show ¬ (true = false) by decide)]
    have hl := w.le (s := t) (by omega)
    have hb : ∀ j, sHd σ t (σ 2) = some j → j < 2147483648 := fun j h => by have := sHd_lt h; omega
    refine ⟨oI (sHd σ t (σ 2)), nI (if sHd σ t (σ 2) = none then 8 else 0), ?_, ?_⟩
    · refine loop_p (fun n j => f_X11_hide_25 fu (nI (σ 1)) (nI (σ 2)) (aL lt σ) (nI (σ 7)) (aX xx σ) (aU us σ) (aR rm σ) n (nI t) (oI (sHd σ t j)) (match sHd σ t j with | none => nI 17 | some q => nI (σ (61 + q))) (nI j) st) (σ 2) _ ?_ ?_ (σ 2) 0 fu (by omega) (by omega)
      · intro n j hj
        have hF := sFree_le w (p := j) (by omega)
        have ho := w.od (p := j) (by omega)
        have e : sHd σ t (j + 1) = sHdS σ t j (sHd σ t j) := rfl
        rw [e]
        simp (disch := omega) only [f_X11_hide_25, f_X11_hide_87, f_X11_hide_88, nI_le', nI_lt', if_neg, c_freeOf w, c_shut w, bd_s, bI_0, lt_, nI_add, gi_n, nI_cl, aL_in, aX_in, nI_eq0]
        unfold sHdS
        cases hs : sShut σ j
        · rw [if_pos rfl]
          by_cases hf : sFree σ j < σ (49 + t)
          · rw [if_pos hf, if_pos (Or.inr hf)]
            rfl
          · have hd : ¬ (false = true ∨ sFree σ j < σ (49 + t)) := fun h => h.elim (fun q => Bool.false_ne_true q) hf
            rw [if_neg hf, if_neg hd]
            cases hq : sHd σ t j with
            | none =>
              simp only
              rw [if_neg (by rw [nI_le' (by omega) (by omega)]; omega)]
              rfl
            | some q =>
              have hq2 := sHd_lt hq
              have ho2 := w.od (p := q) (by omega)
              simp only
              by_cases hc : σ (61 + q) ≤ σ (61 + j)
              · rw [if_pos (by rw [nI_le' (by omega) (by omega)]; exact hc), if_pos hc]
              · rw [if_neg (by rw [nI_le' (by omega) (by omega)]; exact hc), if_neg hc]; rfl
        · rw [if_neg (show ¬ (true = false) by decide), if_pos (Or.inl (show true = true from rfl))]
          rfl
      · intro n
        simp (disch := omega) only [f_X11_hide_25, nI_le', if_pos, ansAny _ _ hb, bd_s]
    · refine loop_p (fun n j => f_X12_hide_28 fu (mk c σ) n (nI t) (oI (sHd σ t j)) (nI j) (nI 0) (nI 0)) (σ 2) _ ?_ ?_ (σ 2) 0 fu (by omega) (by omega)
      · intro n j hj
        have hF := sFree_le w (p := j) (by omega)
        have ho := w.od (p := j) (by omega)
        have e : sHd σ t (j + 1) = sHdS σ t j (sHd σ t j) := rfl
        rw [e]
        simp (disch := omega) only [f_X12_hide_28, gi_n, nI_cl, mk_in, nI_le', nI_lt', if_neg, m_isShut w, bd_s, bI_0, lt_, nI_add, m_freeOf w]
        unfold sHdS
        cases hs : sShut σ j
        · rw [if_pos rfl]
          by_cases hf : sFree σ j < σ (49 + t)
          · rw [if_pos hf, if_pos (Or.inr hf)]
          · have hd : ¬ (false = true ∨ sFree σ j < σ (49 + t)) := fun h => h.elim (fun q => Bool.false_ne_true q) hf
            rw [if_neg hf, if_neg hd]
            cases hq : sHd σ t j with
            | none => rw [if_pos (by rw [oI_nlt0]; trivial)]; rfl
            | some q =>
              have hq2 := sHd_lt hq
              have ho2 := w.od (p := q) (by omega)
              rw [if_neg (by rw [oI_s, nI_lt0 (by omega)]; exact id)]
              simp (disch := omega) only [oI_s, gi_n, nI_cl, nI_add, mk_in, nI_le']
              by_cases hc : σ (61 + q) ≤ σ (61 + j)
              · rw [if_pos hc, if_pos hc]; rfl
              · rw [if_neg hc, if_neg hc]; rfl
        · rw [if_neg (show ¬ (true = false) by decide), if_pos (Or.inl (show true = true from rfl))]
      · intro n
        simp (disch := omega) only [f_X12_hide_28, gi_n, nI_cl, mk_in, nI_le', if_pos]
        exact tell_3 _ hb _
end KP
