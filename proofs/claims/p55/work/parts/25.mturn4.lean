theorem wf_D0 {σ : Nat → Nat} (w : WF σ) {p s : Nat} (hs : s < 6) : WF (up σ (75 + 6 * p + s) 0) := by
  refine w.mk' (sameB.up (by omega)) ?_ ?_ ?_ ?_
  · rw [up_n _ _ (by omega)]; exact w.c8
  · intro j hj
    rw [up_n _ _ (by omega)]
    exact ⟨w.kn hj, w.kn0 hj⟩
  · intro q t hq ht
    rw [sD_up hs ht]
    by_cases e : q = p ∧ t = s
    · rw [if_pos e]
      exact ⟨by omega, fun _ => by omega, fun _ => rfl⟩
    · rw [if_neg e]
      exact ⟨w.dl hq ht, fun h => w.dle hq h, fun h => w.d0 hq ht h⟩
  · intro q hq
    have h := sPr_up (σ := σ) (p := p) (q := q) (v := 0) hs
    have a := w.us hq
    by_cases e : q = p
    · rw [if_pos e, if_pos e] at h; omega
    · rw [if_neg e, if_neg e] at h; omega
theorem sRubS_lt {σ : Nat → Nat} {knew p : Nat} : sRubS σ knew p < 6 := by
  unfold sRubS
  cases h : fnd (fun s => (dif (sStg σ p) knew).testBit s) 6 0 with
  | none => decide
  | some s => have := fnd_some h; show s < 6; omega
theorem wf_rub {σ : Nat → Nat} (w : WF σ) {knew : Nat} : WF (sRub σ knew) ∧ sameB σ (sRub σ knew) ∧ ∀ i, i < 75 → sRub σ knew i = σ i := by
  unfold sRub
  cases sRubP σ knew with
  | none => exact ⟨w, sameB.rf, fun _ _ => rfl⟩
  | some p => exact ⟨wf_D0 w sRubS_lt, sameB.up (by omega), fun i hi => up_n _ _ (by omega)⟩
theorem wf_kn {σ : Nat → Nat} (w : WF σ) {k v : Nat} (hk : k < σ 0) (hv : v < 64) : WF (up σ (33 + k) v) := by
  have h0 := w.c0
  refine w.mk' (sameB.up (by omega)) ?_ ?_ ?_ ?_
  · rw [up_n _ _ (by omega)]; exact w.c8
  · intro j hj
    by_cases e : j = k
    · subst e; rw [up_s]; exact ⟨hv, fun h => by omega⟩
    · rw [up_n _ _ (by omega)]
      exact ⟨w.kn hj, w.kn0 hj⟩
  · intro q t hq ht
    rw [sD_upo (by omega)]
    exact ⟨w.dl hq ht, fun h => w.dle hq h, fun h => w.d0 hq ht h⟩
  · intro q hq
    rw [sPr_upo (by omega)]
    exact w.us hq
theorem wf_4 {σ : Nat → Nat} (w : WF σ) {v : Nat} : WF (up σ 4 v) := by
  refine w.mk' (sameB.up (by omega)) ?_ ?_ ?_ ?_
  · rw [up_n _ _ (by omega)]; exact w.c8
  · intro j hj
    rw [up_n _ _ (by omega)]
    exact ⟨w.kn hj, w.kn0 hj⟩
  · intro q t hq ht
    rw [sD_upo (by omega)]
    exact ⟨w.dl hq ht, fun h => w.dle hq h, fun h => w.d0 hq ht h⟩
  · intro q hq
    rw [sPr_upo (by omega)]
    exact w.us hq
theorem wf_8 {σ : Nat → Nat} (w : WF σ) {v : Nat} (hv : v < σ 3 ∨ v = 0) : WF (up σ 8 v) := by
  refine w.mk' (sameB.up (by omega)) ?_ ?_ ?_ ?_
  · rw [up_s]; exact hv
  · intro j hj
    rw [up_n _ _ (by omega)]
    exact ⟨w.kn hj, w.kn0 hj⟩
  · intro q t hq ht
    rw [sD_upo (by omega)]
    exact ⟨w.dl hq ht, fun h => w.dle hq h, fun h => w.d0 hq ht h⟩
  · intro q hq
    rw [sPr_upo (by omega)]
    exact w.us hq
theorem wf_reads {σ : Nat → Nat} (w : WF σ) {k : Nat} (hk : k < σ 0) : WF (sReads σ k) ∧ sameB σ (sReads σ k) ∧ sReads σ k 4 = σ 4 ∧ sReads σ k 8 = σ 8 := by
  have h0 := w.c0
  have hv : σ (33 + k) ||| sOpen σ < 64 := or_lt (n := 6) (w.kn (by omega)) w.opn'
  have w1 := wf_kn w hk hv
  unfold sReads
  split
  · split
    · obtain ⟨a, b, c⟩ := wf_rub w1 (knew := σ (33 + k))
      exact ⟨a, (sameB.up (by omega)).tr b, by rw [c 4 (by omega), up_n _ _ (by omega)], by rw [c 8 (by omega), up_n _ _ (by omega)]⟩
    · exact ⟨w1, sameB.up (by omega), by rw [up_n _ _ (by omega)], by rw [up_n _ _ (by omega)]⟩
  · exact ⟨w, sameB.rf, rfl, rfl⟩
theorem wf_turn {σ : Nat → Nat} (w : WF σ) : WF (sTurn σ) ∧ sameB σ (sTurn σ) ∧ sTurn σ 4 = σ 4 + 1 := by
  unfold sTurn
  cases h : sNext σ with
  | none => exact ⟨wf_4 w, sameB.up (by omega), up_s _ _ _⟩
  | some pl =>
    have hpl := sNext_lt h
    have hk := w.or hpl
    have h0 := w.c0
    have w2 : WF (up (up σ 4 (σ 4 + 1)) 8 ((pl + 1) % σ 3)) := wf_8 (wf_4 w) (by rw [up_n _ _ (by omega)]; exact Or.inl (Nat.mod_lt _ (by omega)))
    obtain ⟨a, b, c, d⟩ := wf_reads w2 (k := σ (67 + pl)) (by rw [up_n _ _ (by omega), up_n _ _ (by omega)]; exact hk)
    obtain ⟨a2, b2, c2, d2⟩ := sPrickN_ok a (k := σ (67 + pl)) (left := sReads (up (up σ 4 (σ 4 + 1)) 8 ((pl + 1) % σ 3)) (σ (67 + pl)) (9 + σ (67 + pl))) (by omega) _ (Nat.le_refl _)
    refine ⟨a2, ((sameB.up (by omega)).tr (sameB.up (by omega))).tr (b.tr b2), ?_⟩
    show sPricks _ _ 4 = _
    unfold sPricks
    rw [d2 4 (by omega) (by omega), c, up_n _ _ (by omega), up_s]
theorem sNext_up {σ : Nat → Nat} {v : Nat} : sNext (up σ 4 v) = sNext σ := by
  have : ∀ k j, sNextN (up σ 4 v) k j = sNextN σ k j := by
    intro k
    induction k with
    | zero => intro j; rfl
    | succ k ih =>
      intro j
      unfold sNextN
      simp (disch := omega) only [up_n, ih]
  unfold sNext
  rw [up_n _ _ (by omega)]
  exact this _ _
theorem m_goesTurn {c : Nat → Int32} {σ : Nat → Nat} {fu : Nat} (w : WF σ) (hfu : 100 < fu) : f_X12_goesTurn fu (mk c σ) = some (mk c (sTurn σ)) := by
  have w4 := wf_4 w (v := σ 4 + 1)
  unfold f_X12_goesTurn sTurn
  simp (disch := omega) only [gi_n, nI_cl, nI_add, mk_in, lt_, mk_up, m_nextPlace w4, bd_s, sNext_up]
  cases h : sNext σ with
  | none => simp only [oI_n0le, if_false]
  | some pl =>
    have hpl := sNext_lt h
    have hk := w.or' hpl
    have hk0 := w.or hpl
    have h3 := w.c3
    have w2 : WF (up (up σ 4 (σ 4 + 1)) 8 ((pl + 1) % σ 3)) := wf_8 w4 (by rw [up_n _ _ (by omega)]; exact Or.inl (Nat.mod_lt _ (by omega)))
    have hm : (pl + 1) % σ 3 < σ 3 := Nat.mod_lt _ (by omega)
    simp (disch := omega) only [oI_s, nI_0le, if_true, gi_n, nI_cl, nI_add, mk_in, lt_, mk_up, up_n, nI_eq0, pk_rem, gd_pos]
    generalize hk' : σ (67 + pl) = k at hk hk0 ⊢
    have hkn := w.kn hk
    have hbl := w.bl hk
    have hru := w.ru hk
    unfold sReads
    simp (disch := omega) only [up_n, nI_eq0]
    by_cases hb : σ (17 + k) = 0
    · rw [if_pos hb, if_pos hb]
      have hv : σ (33 + k) ||| sOpen (up (up σ 4 (σ 4 + 1)) 8 ((pl + 1) % σ 3)) < 64 := or_lt (n := 6) hkn w2.opn'
      have w3 := wf_kn w2 (k := k) (by rw [up_n _ _ (by omega), up_n _ _ (by omega)]; exact hk0) hv
      simp (disch := omega) only [gi_n, nI_cl, nI_add, m_standingOpen w2, bd_s, nI_or, lt_, mk_up, mk_in, up_n, nI_eq']
      by_cases hr : σ (25 + k) = 1
      · rw [if_pos hr, if_pos hr]
        simp (disch := omega) only [m_rubsOne w3, bd_s, m_pricksAll (wf_rub w3).1]
      · rw [if_neg hr, if_neg hr]
        simp (disch := omega) only [bd_s, m_pricksAll w3]
    · rw [if_neg hb, if_neg hb]
      simp (disch := omega) only [bd_s, m_pricksAll w2]
