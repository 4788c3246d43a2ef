section FU
variable {c : Nat → Int32} {σ : Nat → Nat} {st st2 th : Int32} {fu : Nat} {lt rm lo ro : Nat → Int32} {hl : Nat → Int64}
theorem up_back {f : Nat → Nat} {p x : Nat} {b : Nat → Int32} : mkF b 6 (up (up f p x) p (f p)) = mkF b 6 f := mkF_congr (fun i _ => by
  by_cases e : i = p
  · subst e; rw [up_s]
  · rw [up_n _ _ e, up_n _ _ e])
theorem m_packs (w : WF σ) {P : Nat} (hP : P < 2 ^ σ 2) (hfu : 100 < fu) : ∀ (k i dep : Nat) (ρ : Nat → Nat), i + k = σ 1 → k < dep → (∀ p, p < 6 → ρ p ≤ 60) → f_X12_packs fu dep (nI i) (nI P) (mk c σ) (mkF ro 6 ρ) = some (bI (pkB P (σ 2) (fun s => σ (49 + s)) k i ρ), mkF ro 6 ρ) := by
  have h1 := w.c1
  have h2 := w.c2
  have hP64 : P < 64 := Nat.lt_of_lt_of_le hP (pw64 h2)
  intro k
  induction k with
  | zero =>
    intro i dep ρ hi hd hρ
    obtain ⟨dep, rfl⟩ : ∃ z, dep = z + 1 := ⟨dep - 1, by omega⟩
    show f_X12_packsB fu (f_X12_packs fu dep) (nI i) (nI P) (mk c σ) (mkF ro 6 ρ) = _
    unfold f_X12_packsB
    simp (disch := omega) only [gi_n, nI_cl, mk_in, nI_eq', if_pos]
    rfl
  | succ k ih =>
    intro i dep ρ hi hd hρ
    obtain ⟨dep, rfl⟩ : ∃ z, dep = z + 1 := ⟨dep - 1, by omega⟩
    show f_X12_packsB fu (f_X12_packs fu dep) (nI i) (nI P) (mk c σ) (mkF ro 6 ρ) = _
    unfold f_X12_packsB
    simp (disch := omega) only [gi_n, nI_cl, mk_in, nI_eq', if_neg]
    have hl := w.le (s := i) (by omega)
    have hk : ∀ m j q, j + m = σ 2 → m < q → f_X12_packs_14 fu (mk c σ) (f_X12_packs fu dep) q (nI i) (nI P) (nI j) (mkF ro 6 ρ) = some (bI (fnd (fun p => P.testBit p && (decide (σ (49 + i) ≤ ρ p) && pkB P (σ 2) (fun s => σ (49 + s)) k (i + 1) (up ρ p (ρ p - σ (49 + i))))) m j).isSome, mkF ro 6 ρ) := by
      intro m
      induction m with
      | zero =>
        intro j q hj hq
        obtain ⟨q, rfl⟩ : ∃ z, q = z + 1 := ⟨q - 1, by omega⟩
        simp (disch := omega) only [f_X12_packs_14, gi_n, nI_cl, mk_in, nI_le', if_pos]
        rfl
      | succ m ihm =>
        intro j q hj hq
        obtain ⟨q, rfl⟩ : ∃ z, q = z + 1 := ⟨q - 1, by omega⟩
        have hr := hρ j (by omega)
        have e : fnd (fun p => P.testBit p && (decide (σ (49 + i) ≤ ρ p) && pkB P (σ 2) (fun s => σ (49 + s)) k (i + 1) (up ρ p (ρ p - σ (49 + i))))) (m + 1) j = if (P.testBit j && (decide (σ (49 + i) ≤ ρ j) && pkB P (σ 2) (fun s => σ (49 + s)) k (i + 1) (up ρ j (ρ j - σ (49 + i))))) = true then some j else fnd (fun p => P.testBit p && (decide (σ (49 + i) ≤ ρ p) && pkB P (σ 2) (fun s => σ (49 + s)) k (i + 1) (up ρ p (ρ p - σ (49 + i))))) m (j + 1) := rfl
        rw [e]
        simp (disch := omega) only [f_X12_packs_14, gi_n, nI_cl, mk_in, nI_le', if_neg, has12, bd_s, bI_0, lt_, nI_add, mkF_in]
        cases hb : P.testBit j
        · rw [if_pos rfl, ihm (j + 1) q (by omega) (by omega), if_neg (show ¬ ((false && _) = true) from fun h => (by cases h))]
        · rw [if_neg (by decide)]
          by_cases hle : σ (49 + i) ≤ ρ j
          · rw [if_pos hle, pk_sub hle, mkF_up (by omega), ih (i + 1) dep _ (by omega) (by omega) (fun p hp => by
              by_cases e : p = j
              · subst e; rw [up_s]; omega
              · rw [up_n _ _ e]; exact hρ p hp), bd_s]
            simp only
            rw [mkF_in (show j < 6 by omega), up_s, nI_add, Nat.sub_add_cancel hle, mkF_up (by omega), up_back, decide_eq_true hle]
            simp only [bI_0]
            cases hp : pkB P (σ 2) (fun s => σ (49 + s)) k (i + 1) (up ρ j (ρ j - σ (49 + i)))
            · rw [if_pos rfl, ihm (j + 1) q (by omega) (by omega), if_neg (by decide)]
            · rw [if_neg (by decide), if_pos (by decide)]; rfl
          · rw [if_neg hle, ihm (j + 1) q (by omega) (by omega), decide_eq_false hle, if_neg (show ¬ ((true && (false && _)) = true) from fun h => (by cases h))]
    exact hk (σ 2) 0 fu (by omega) (by omega)
theorem m_fitting (w : WF σ) (hfu : 100 < fu) : ∃ ro', f_X12_fitting fu (mk c σ) ro = some (oI (bst (okP σ) (2 ^ σ 2)), ro') := by
  have h1 := w.c1
  have h2 := w.c2
  have hM : 2 ^ σ 2 ≤ 64 := pw64 h2
  have h60 : ∀ (K : Int32 → Int32 → (Nat → Int32) → Option (Int32 × (Nat → Int32))) (z : Int32) (j : Nat), j < 2 ^ σ 2 → f_X12_fitting_60 fu (mk c σ) K z (nI j) (mkF ro 6 (fun p => σ (55 + p))) = if okP σ j = false then K z (nI (j + 1)) (mkF ro 6 (fun p => σ (55 + p))) else K (nI j) (nI (j + 1)) (mkF ro 6 (fun p => σ (55 + p))) := by
    intro K z j hj
    unfold f_X12_fitting_60
    rw [m_packs w hj hfu (σ 1) 0 10 (fun p => σ (55 + p)) (by omega) (by omega) (fun p hp => w.ro hp), bd_s]
    simp only [bI_0, lt_, nI_add]
    rfl
  unfold f_X12_fitting
  refine ⟨mkF ro 6 (fun p => σ (55 + p)), ?_⟩
  refine Eq.trans (congrArg (fun z => f_X12_fitting_2 fu (mk c σ) fu (nI 0) z) (mkF_n0 (f := fun p => σ (55 + p))).symm) ?_
  refine loop_p (fun q j => f_X12_fitting_2 fu (mk c σ) q (nI j) (mkF ro j (fun p => σ (55 + p)))) 6 _ ?_ ?_ 6 0 fu (by omega) (by omega)
  · intro q j hj
    have e : upd (mkF ro j (fun p => σ (55 + p))) j (nI (σ (55 + j))) = mkF ro (j + 1) (fun p => σ (55 + p)) := mkF_grow
    simp (disch := omega) only [f_X12_fitting_2, nI_le', if_neg, nI_add, gi_n, nI_cl, mk_in, lt_, e]
  · intro q
    simp (disch := omega) only [f_X12_fitting_2, nI_le', if_pos]
    refine loop_p (fun q j => f_X12_fitting_33 fu (mk c σ) q (oI (bst (okP σ) j)) (nI j) (mkF ro 6 (fun p => σ (55 + p)))) (2 ^ σ 2) _ ?_ ?_ (2 ^ σ 2) 0 fu (by omega) (by omega)
    · intro q j hj
      have h6 := sz_6 j (by omega)
      simp (disch := omega) only [f_X12_fitting_33, gi_n, nI_cl, mk_in, nI_1shl, nI_le', if_neg]
      cases hb : bst (okP σ) j with
      | none =>
        rw [if_pos (by rw [oI_nlt0]; trivial), h60 _ _ _ hj]
        cases ho : okP σ j
        · rw [if_pos rfl, bst_f ho, hb]
        · rw [if_neg (by decide), bst_h ho (by rw [hb]; show ¬ 7 ≤ sz j; omega)]; rfl
      | some b =>
        have hbl := bst_lt hb
        have h6b := sz_6 b (by omega)
        rw [if_neg (by rw [oI_s, nI_lt0 (by omega)]; exact id), oI_s, m_size (by omega) hfu, bd_s, m_size (by omega) hfu, bd_s]
        simp (disch := omega) only [nI_le', lt_, nI_add]
        by_cases hw : sz b ≤ sz j
        · rw [if_pos hw, bst_g (by omega) (by rw [hb]; exact hw), hb]; rfl
        · rw [if_neg hw, h60 _ _ _ hj]
          cases ho : okP σ j
          · rw [if_pos rfl, bst_f ho, hb]; rfl
          · rw [if_neg (by decide), bst_h ho (by rw [hb]; exact hw)]; rfl
    · intro q
      simp (disch := omega) only [f_X12_fitting_33, gi_n, nI_cl, mk_in, nI_1shl, nI_le', if_pos]
theorem r_fits (w : WF σ) (hfu : 100 < fu) : ∃ r s hl' lo' ro', f_X11_fits fu st (nI (σ 1)) (nI (σ 2)) (aL lt σ) (aR rm σ) hl lo = some (r, s, hl', lo') ∧ f_X12_fits fu st2 th (mk c σ) ro = some (r, s, nI 0, ro') := by
  have h2 := w.c2
  have hM : 2 ^ σ 2 ≤ 64 := pw64 h2
  obtain ⟨hl', lo', e1⟩ := c_fewest (hl := hl) (lo := lo) (lt := lt) (rm := rm) w hfu
  obtain ⟨ro', e2⟩ := m_fitting (c := c) (ro := ro) w hfu
  unfold f_X11_fits f_X12_fits
  rw [e1, e2, bd_s, bd_s]
  simp only
  cases hb : bst (okP σ) (2 ^ σ 2) with
  | none =>
    rw [if_pos (show oI none = (-1 : Int32) from rfl), if_neg (by rw [oI_n0le]; exact id)]
    exact ⟨_, _, _, _, _, rfl, rfl⟩
  | some b =>
    have hbl := bst_lt hb
    rw [if_neg (by rw [oI_s, nI_ne_m1 (by omega)]; exact id), if_pos (by rw [oI_s, nI_0le (by omega)]; trivial), oI_s, c_size b (by omega), bd_s, m_size (by omega) hfu, bd_s]
    exact ⟨_, _, _, _, _, rfl, rfl⟩
theorem r_fitSet (w : WF σ) (hfu : 100 < fu) : ∃ r s hl' lo' ro', f_X11_fitSet fu st (nI (σ 1)) (nI (σ 2)) (aL lt σ) (aR rm σ) hl lo = some (r, s, hl', lo') ∧ f_X12_fitSet fu st2 th (mk c σ) ro = some (r, s, nI 0, ro') := by
  have h2 := w.c2
  have hM : 2 ^ σ 2 ≤ 64 := pw64 h2
  obtain ⟨hl', lo', e1⟩ := c_fewest (hl := hl) (lo := lo) (lt := lt) (rm := rm) w hfu
  obtain ⟨ro', e2⟩ := m_fitting (c := c) (ro := ro) w hfu
  unfold f_X11_fitSet f_X12_fitSet
  rw [e1, e2, bd_s, bd_s]
  simp only
  cases hb : bst (okP σ) (2 ^ σ 2) with
  | none =>
    rw [if_neg (by rw [oI_n0le]; exact id)]
    exact ⟨_, _, _, _, _, rfl, rfl⟩
  | some b =>
    have hbl := bst_lt hb
    rw [if_pos (by rw [oI_s, nI_0le (by omega)]; trivial), ansAny (some b) _ (fun j h => by cases h; omega), bd_s]
    exact ⟨_, _, _, _, _, rfl, rfl⟩
end FU
