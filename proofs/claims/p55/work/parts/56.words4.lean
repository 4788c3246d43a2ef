/-- the least of what there is, so far -/
def mn (f : Nat → Option Nat) : Nat → Option Nat
  | 0 => none
  | j + 1 => match f j with
    | none => mn f j
    | some v => match mn f j with
      | none => some v
      | some q => some (if v < q then v else q)
theorem mn_none {f : Nat → Option Nat} : ∀ {j : Nat}, mn f j = none → ∀ i, i < j → f i = none
  | 0, _, i, hi => absurd hi (Nat.not_lt_zero i)
  | j + 1, h, i, hi => by
    unfold mn at h
    cases hf : f j with
    | none =>
      rw [hf] at h
      by_cases e : i = j
      · subst e; exact hf
      · exact mn_none h i (by omega)
    | some v =>
      rw [hf] at h
      simp only at h
      split at h <;> cases h
theorem mn_some {f : Nat → Option Nat} : ∀ {j v : Nat}, mn f j = some v → (∃ i, i < j ∧ f i = some v) ∧ ∀ i q, i < j → f i = some q → v ≤ q
  | 0, v, h => by cases h
  | j + 1, v, h => by
    unfold mn at h
    cases hf : f j with
    | none =>
      rw [hf] at h
      obtain ⟨⟨i, h1, h2⟩, h3⟩ := mn_some h
      refine ⟨⟨i, by omega, h2⟩, fun i q hi hq => ?_⟩
      by_cases e : i = j
      · subst e; rw [hf] at hq; cases hq
      · exact h3 i q (by omega) hq
    | some x =>
      rw [hf] at h
      simp only at h
      cases hm : mn f j with
      | none =>
        rw [hm] at h
        cases h
        refine ⟨⟨j, by omega, hf⟩, fun i q hi hq => ?_⟩
        by_cases e : i = j
        · subst e; rw [hf] at hq; cases hq; exact Nat.le_refl _
        · rw [mn_none hm i (by omega)] at hq; cases hq
      | some y =>
        rw [hm] at h
        obtain ⟨⟨i, h1, h2⟩, h3⟩ := mn_some hm
        have hv : v = if x < y then x else y := by cases h; rfl
        by_cases c : x < y
        · rw [if_pos c] at hv
          refine ⟨⟨j, by omega, by rw [hv]; exact hf⟩, fun i q hi hq => ?_⟩
          by_cases e : i = j
          · subst e; rw [hf] at hq; cases hq; omega
          · have := h3 i q (by omega) hq; omega
        · rw [if_neg c] at hv
          refine ⟨⟨i, by omega, by rw [hv]; exact h2⟩, fun i q hi hq => ?_⟩
          by_cases e : i = j
          · subst e; rw [hf] at hq; cases hq; omega
          · have := h3 i q (by omega) hq; omega
theorem mn_same {f g : Nat → Option Nat} {m : Nat} (h1 : ∀ i v, i < m → f i = some v → ∃ j, j < m ∧ g j = some v) (h2 : ∀ i v, i < m → g i = some v → ∃ j, j < m ∧ f j = some v) : mn f m = mn g m := by
  cases hf : mn f m with
  | none =>
    cases hg : mn g m with
    | none => rfl
    | some v =>
      obtain ⟨⟨i, a, b⟩, -⟩ := mn_some hg
      obtain ⟨j, c, d⟩ := h2 i v a b
      rw [mn_none hf j c] at d; cases d
  | some v =>
    obtain ⟨⟨i, a, b⟩, c⟩ := mn_some hf
    obtain ⟨j, d, e⟩ := h1 i v a b
    cases hg : mn g m with
    | none => rw [mn_none hg j d] at e; cases e
    | some q =>
      obtain ⟨⟨i2, a2, b2⟩, c2⟩ := mn_some hg
      obtain ⟨j2, d2, e2⟩ := h2 i2 q a2 b2
      have x1 := c2 j v d e
      have x2 := c j2 q d2 e2
      congr 1
      omega
/-- what a place is worth, to the class and to the reference -/
def wC (A B : Nat → Nat) (n m j : Nat) : Option Nat := if B j = A 0 then (gp A B m j (n - 1)).map (fun l => l - j + 1) else none
def wM (A B : Nat → Nat) (n m j : Nat) : Option Nat := match gp A B m j (n - 1), gp A B m j 0 with
  | some l, some p => some (l - p + 1)
  | _, _ => none
theorem gp_from {A B : Nat → Nat} {m j p : Nat} (h : gp A B m j 0 = some p) : ∀ e, gp A B m p e = gp A B m j e
  | 0 => by
    rw [h]
    have hh := fnd_some (p := fun x => decide (B x = A 0)) h
    show fnd (fun x => decide (B x = A 0)) (m - p) p = some p
    obtain ⟨k, hk⟩ : ∃ k, m - p = k + 1 := ⟨m - p - 1, by omega⟩
    rw [hk]
    unfold fnd
    rw [if_pos hh.2.2.1]
  | e + 1 => by
    unfold gp
    rw [gp_from h e]
theorem gp_ge {A B : Nat → Nat} {m j : Nat} : ∀ {e d p q : Nat}, gp A B m j d = some p → gp A B m j (d + e) = some q → p ≤ q
  | 0, d, p, q, h1, h2 => by
    rw [Nat.add_zero, h1] at h2; cases h2; exact Nat.le_refl _
  | e + 1, d, p, q, h1, h2 => by
    rw [← Nat.add_assoc] at h2
    unfold gp at h2
    split at h2
    · cases h2
    · rename_i r hr
      have a := gp_ge h1 hr
      have b := fnd_some h2
      omega
theorem w_same {A B : Nat → Nat} {n m : Nat} : mn (wC A B n m) m = mn (wM A B n m) m := by
  refine mn_same (fun i v hi h => ⟨i, hi, ?_⟩) (fun i v hi h => ?_)
  · unfold wC at h
    split at h
    · rename_i e
      have e0 : gp A B m i 0 = some i := by
        show fnd (fun x => decide (B x = A 0)) (m - i) i = some i
        obtain ⟨k, hk⟩ : ∃ k, m - i = k + 1 := ⟨m - i - 1, by omega⟩
        rw [hk]
        unfold fnd
        rw [if_pos (decide_eq_true e)]
      unfold wM
      rw [e0]
      cases hg : gp A B m i (n - 1) with
      | none => rw [hg] at h; cases h
      | some l => rw [hg] at h; exact h
    · cases h
  · unfold wM at h
    cases hg : gp A B m i (n - 1) with
    | none => rw [hg] at h; cases h
    | some l =>
      cases h0 : gp A B m i 0 with
      | none => rw [hg, h0] at h; cases h
      | some p =>
        rw [hg, h0] at h
        cases h
        have hl := gp_lt h0
        have hh := fnd_some (p := fun x => decide (B x = A 0)) h0
        refine ⟨p, hl.2, ?_⟩
        unfold wC
        rw [if_pos (of_decide_eq_true hh.2.2.1), gp_from h0 (n - 1), hg]
        rfl
theorem mn_b {f : Nat → Option Nat} {b : Nat} : ∀ {j v : Nat}, (∀ i q, i < j → f i = some q → q ≤ b) → mn f j = some v → v ≤ b := fun h hm => by
  obtain ⟨⟨i, a, c⟩, -⟩ := mn_some hm
  exact h i _ a c
section WF4
variable {R : Nat → Nat → Int64} {so le : Nat → Int32} {nu : Nat → Int64} {tm ts : Nat → Int32} {x1 x2 x3 x4 x5 st st2 th : Int32} {fu : Nat} {wl rl : Int32} {rw0 wd pls mpl : Nat → Int32} {wy mwy : Nat → Int64}
theorem r_pricked (h : TrRel R so le nu tm ts) (hfu : 100 < fu) : ∃ r s o mwy', f_X11_pricked fu x1 x2 x3 x4 st le (R 0) (R 1) (R 2) (R 3) wl rl rw0 wy wd = some (r, s, o) ∧ f_X12_pricked fu x1 x2 x3 x4 st2 th nu tm mwy = some (r, s, nI 0, mwy') := by
  unfold f_X11_pricked f_X12_pricked
  rcases r_load (x1 := x1) (x2 := x2) (x3 := x3) (x4 := x4) (wl := wl) (rl := rl) (rw0 := rw0) (wd := wd) h hfu with ⟨s, ⟨o1, o2, o3, o4⟩, h1, h2, h3, h4⟩ | ⟨t, u, n, m, row, word, A, B, ht, hu, n1, n10, m1, m60, rfl, rfl, rfl, rfl, h3, h4, hA, hB⟩
  · rw [h3, h4, bd_s, bd_s]
    simp (disch := omega) only [nI_eq0, nI_le0]
    rw [if_neg (by omega), if_neg (by omega)]
    exact ⟨_, _, _, _, rfl, rfl⟩
  · rw [h3, h4, bd_s, bd_s]
    simp (disch := omega) only [nI_eq0, nI_le0, if_true]
    -- the class's
    have hC : f_X10_countWays fu (nI n) (nI m) row wy word = some (dpA A B n m (vp_updL (clr wy 0 11) 0 (lN 1)) n, dpA A B n m (vp_updL (clr wy 0 11) 0 (lN 1))) := by
      unfold f_X10_countWays
      have hf : f_J7_fill_d0a16 fu 11 (lN 0) wy = some (clr wy 0 11) := by
        unfold f_J7_fill_d0a16
        simp only [lt_]
        refine Eq.trans (congrArg (fun z => f_J7_fill_d0a16_6 fu 11 fu (lN 0) (nI 0) (Int32.ofNat 11) z) (clr_0 (a := 0)).symm) ?_
        refine loop_p (fun q j => f_J7_fill_d0a16_6 fu 11 q (lN 0) (nI j) (nI 11) (clr wy 0 j)) 11 _ ?_ ?_ 11 0 fu (by omega) (by omega)
        · intro q j hj
          have e : vp_updL (clr wy 0 j) j (lN 0) = clr wy 0 (j + 1) := by have := clr_step (N := wy) (a := 0) (m := j); rw [Nat.zero_add] at this; exact this
          simp (disch := omega) only [f_J7_fill_d0a16_6, nI_le', if_neg, nI_add, gi_n, nI_cl, lt_, e]
        · intro q
          simp (disch := omega) only [f_J7_fill_d0a16_6, nI_le', if_pos]
      rw [hf, bd_s, gi_n (by omega) (by omega), nI_cl (by omega)]
      refine loop_p (fun q j => f_X10_countWays_17 fu (nI n) (nI m) row word q (nI j) (dpA A B n j (vp_updL (clr wy 0 11) 0 (lN 1)))) m _ ?_ ?_ m 0 fu (by omega) (by omega)
      · intro q j hj
        simp (disch := omega) only [f_X10_countWays_17, nI_le', if_neg, lt_]
        rw [c_ways1 hA hB n10 m60 hj _ n fu _ (Nat.le_refl n) (by omega)]
        rfl
      · intro q
        simp (disch := omega) only [f_X10_countWays_17, nI_le', if_pos, gi_n, nI_cl]
    have hM : f_X12_pricked_64 fu nu tm fu (nI t) (nI n) (nI u) (nI m) (nI 0) (nI 0) (nI 0) (ini mwy (n + 1)) = some (dpA A B n m (ini mwy (n + 1)) n, nI 0, nI 0, dpA A B n m (ini mwy (n + 1))) := by
      refine loop_p (fun q j => f_X12_pricked_64 fu nu tm q (nI t) (nI n) (nI u) (nI m) (nI j) (nI 0) (nI 0) (dpA A B n j (ini mwy (n + 1)))) m _ ?_ ?_ m 0 fu (by omega) (by omega)
      · intro q j hj
        simp (disch := omega) only [f_X12_pricked_64, nI_le', if_neg]
        rw [m_ways1 ht hu hA hB n10 m60 hj _ n fu _ (Nat.le_refl n) (by omega)]
        rfl
      · intro q
        simp (disch := omega) only [f_X12_pricked_64, nI_le', if_pos, gi_n, nI_cl]
    have hE : dpA A B n m (vp_updL (clr wy 0 11) 0 (lN 1)) n = dpA A B n m (ini mwy (n + 1)) n := by
      refine dpA_c (fun k hk => ?_) m n (Nat.le_refl n)
      unfold ini
      rw [if_pos (by omega)]
      by_cases e : k = 0
      · subst e; rw [updL_s, if_pos rfl]
      · rw [updL_n e, if_neg e]
        unfold clr
        rw [if_pos (by omega)]
    rw [hC, bd_s, m_ini n10 hfu, hM, ← hE]
    exact ⟨_, _, _, _, rfl, rfl⟩
theorem r_prickAt (h : TrRel R so le nu tm ts) (hfu : 100 < fu) : ∃ r s o mpl', f_X11_prickAt fu x1 x2 x3 x4 x5 st le (R 0) (R 1) (R 2) (R 3) wl rl pls rw0 wd = some (r, s, o) ∧ f_X12_prickAt fu x1 x2 x3 x4 x5 st2 th nu mpl tm = some (r, s, nI 0, mpl') := by
  unfold f_X11_prickAt f_X12_prickAt f_X12_prickAt_44
  rcases r_load (x1 := x1) (x2 := x2) (x3 := x3) (x4 := x4) (wl := wl) (rl := rl) (rw0 := rw0) (wd := wd) h hfu with ⟨s, ⟨o1, o2, o3, o4⟩, h1, h2, h3, h4⟩ | ⟨t, u, n, m, row, word, A, B, ht, hu, n1, n10, m1, m60, rfl, rfl, rfl, rfl, h3, h4, hA, hB⟩
  · rw [h3, h4, bd_s, bd_s]
    simp (disch := omega) only [nI_eq0, nI_le0]
    rw [if_neg (by omega), if_neg (by omega), if_neg (by omega)]
    exact ⟨_, _, _, _, rfl, rfl⟩
  · rw [h3, h4, bd_s, bd_s]
    simp (disch := omega) only [nI_eq0, nI_le0, if_true, m_inN, bd_s, bI_0, x_lt0, x_lt, ref11, ref12]
    cases hx : inR x5 0 n
    · have hx' := inR_f hx
      rw [if_pos rfl, if_neg (show ¬ (5 = 0) by decide)]
      by_cases a : x5.toInt < 0
      · rw [if_pos a]; exact ⟨_, _, _, _, rfl, rfl⟩
      · rw [if_neg a, if_neg (by omega)]; exact ⟨_, _, _, _, rfl, rfl⟩
    · have hx' := inR_t hx
      obtain ⟨k, hk, rfl⟩ := inR_of hx
      rw [if_neg (by omega), if_pos (by omega), if_neg (show ¬ (true = false) by decide)]
      obtain ⟨p1, e1, g1⟩ := c_follow (t := t) (u := u) hA hB n1 n10 m60 (fr := 0) (Nat.zero_le m) hfu pls
      obtain ⟨p2, e2, g2⟩ := m_laysFrom ht hu hA hB n1 n10 m60 (fr := 0) (Nat.zero_le m) hfu mpl
      rw [e1, e2, bd_s, bd_s]
      simp only [bI_0]
      cases hg : gp A B m 0 (n - 1) with
      | none =>
        rw [if_pos (show oI none = (-1 : Int32) from rfl), if_pos (show (none : Option Nat).isSome = false from rfl)]
        exact ⟨_, _, _, _, rfl, rfl⟩
      | some l =>
        have hl := gp_lt hg
        rw [hg] at g1 g2
        obtain ⟨q1, a1, b1⟩ := g1 rfl k hk
        obtain ⟨q2, a2, b2⟩ := g2 rfl k hk
        rw [a1] at a2
        cases a2
        rw [if_neg (by rw [oI_s, nI_ne_m1 (by omega)]; exact id), if_neg (show ¬ ((some l).isSome = false) from fun h => (by cases h))]
        simp (disch := omega) only [gi_n, nI_cl, b1, b2, ans11, bd_s]
        exact ⟨_, _, _, _, rfl, rfl⟩
theorem r_shortest (h : TrRel R so le nu tm ts) (hfu : 100 < fu) : ∃ r s o mpl', f_X11_shortest fu x1 x2 x3 x4 st le (R 0) (R 1) (R 2) (R 3) wl rl pls rw0 wd = some (r, s, o) ∧ f_X12_shortest fu x1 x2 x3 x4 st2 th nu mpl tm = some (r, s, nI 0, mpl') := by
  unfold f_X11_shortest f_X12_shortest
  rcases r_load (x1 := x1) (x2 := x2) (x3 := x3) (x4 := x4) (wl := wl) (rl := rl) (rw0 := rw0) (wd := wd) h hfu with ⟨s, ⟨o1, o2, o3, o4⟩, h1, h2, h3, h4⟩ | ⟨t, u, n, m, row, word, A, B, ht, hu, n1, n10, m1, m60, rfl, rfl, rfl, rfl, h3, h4, hA, hB⟩
  · rw [h3, h4, bd_s, bd_s]
    simp (disch := omega) only [nI_eq0, nI_le0]
    rw [if_neg (by omega), if_neg (by omega)]
    exact ⟨_, _, _, _, rfl, rfl⟩
  · rw [h3, h4, bd_s, bd_s]
    simp (disch := omega) only [nI_eq0, nI_le0, if_true]
    have bC : ∀ i q, i < m → wC A B n m i = some q → q ≤ 100 := by
      intro i q hi hq
      unfold wC at hq
      split at hq
      · cases hg : gp A B m i (n - 1) with
        | none => rw [hg] at hq; cases hq
        | some l => rw [hg] at hq; cases hq; have := gp_lt hg; show l - i + 1 ≤ 100; omega
      · cases hq
    have bM : ∀ i q, i < m → wM A B n m i = some q → q ≤ 100 := by
      intro i q hi hq
      unfold wM at hq
      cases hg : gp A B m i (n - 1) with
      | none => rw [hg] at hq; cases hq
      | some l =>
        cases h0 : gp A B m i 0 with
        | none => rw [hg, h0] at hq; cases hq
        | some p => rw [hg, h0] at hq; cases hq; have := gp_lt hg; omega
    have hC : ∀ k j q (pl : Nat → Int32), j + k = m → k < q → ∃ pl', f_X10_leastLength_4 fu (nI n) (nI m) row word q (oI (mn (wC A B n m) j)) (nI j) pl = some (oI (mn (wC A B n m) m), pl') := by
      intro k
      induction k with
      | zero =>
        intro j q pl hj hq
        obtain ⟨q, rfl⟩ : ∃ z, q = z + 1 := ⟨q - 1, by omega⟩
        obtain rfl : j = m := by omega
        simp (disch := omega) only [f_X10_leastLength_4, nI_le', if_pos]
        exact ⟨_, rfl⟩
      | succ k ih =>
        intro j q pl hj hq
        obtain ⟨q, rfl⟩ : ∃ z, q = z + 1 := ⟨q - 1, by omega⟩
        obtain ⟨a1, a2, -⟩ := hA 0 (by omega)
        obtain ⟨b1, b2, -⟩ := hB j (by omega)
        have em : mn (wC A B n m) (j + 1) = (match wC A B n m j with | none => mn (wC A B n m) j | some v => match mn (wC A B n m) j with | none => some v | some y => some (if v < y then v else y)) := rfl
        simp (disch := omega) only [f_X10_leastLength_4, nI_le', if_neg, gi_n, nI_cl, a2, b2, nI_eq']
        by_cases e : B j = A 0
        · rw [if_pos e]
          obtain ⟨p1, e1, g1⟩ := c_follow (t := t) (u := u) hA hB n1 n10 m60 (fr := j) (by omega) hfu pl
          have ew : wC A B n m j = (gp A B m j (n - 1)).map (fun l => l - j + 1) := by unfold wC; rw [if_pos e]
          rw [e1, bd_s]
          simp only
          unfold f_X10_leastLength_36
          cases hg : gp A B m j (n - 1) with
          | none =>
            rw [hg] at ew
            rw [ew] at em
            rw [if_pos (show oI none = (-1 : Int32) from rfl)]
            simp only [lt_, nI_add]
            have := ih (j + 1) q p1 (by omega) (by omega)
            rw [em] at this
            exact this
          | some l =>
            have hl := gp_lt hg
            rw [hg] at ew
            rw [ew] at em
            rw [if_neg (by rw [oI_s, nI_ne_m1 (by omega)]; exact id)]
            have ih' := ih (j + 1) q p1 (by omega) (by omega)
            rw [em] at ih'
            rw [oI_s, pk_sub hl.1]
            cases hmn : mn (wC A B n m) j with
            | none =>
              rw [hmn] at ih'
              rw [if_pos (show oI none = (-1 : Int32) from rfl)]
              simp only [lt_, nI_add]
              exact ih'
            | some y =>
              have hy := mn_b (fun i q hi => bC i q (by omega)) hmn
              rw [hmn] at ih'
              rw [if_neg (by rw [oI_s, nI_ne_m1 (by omega)]; exact id)]
              simp (disch := omega) only [oI_s, nI_add, nI_le', lt_]
              by_cases c : l - j + 1 < y
              · rw [if_neg (by omega)]
                have e3 : (if l - j + 1 < y then l - j + 1 else y) = l - j + 1 := if_pos c
                simp only [Option.map] at ih'
                rw [e3] at ih'
                exact ih'
              · rw [if_pos (by omega)]
                have e3 : (if l - j + 1 < y then l - j + 1 else y) = y := if_neg c
                simp only [Option.map] at ih'
                rw [e3] at ih'
                exact ih'
        · rw [if_neg e]
          have ew : wC A B n m j = none := by unfold wC; rw [if_neg e]
          rw [ew] at em
          unfold f_X10_leastLength_36
          rw [if_pos rfl]
          simp only [lt_, nI_add]
          have := ih (j + 1) q pl (by omega) (by omega)
          rw [em] at this
          exact this
    have hM : ∀ k j q (pl : Nat → Int32), j + k = m → k < q → ∃ pl', f_X12_shortest_33 fu nu tm q (nI t) (nI n) (nI u) (nI m) (oI (mn (wM A B n m) j)) (nI j) (nI 0) (nI 0) pl = some (oI (mn (wM A B n m) m), nI (if mn (wM A B n m) m = none then 8 else 0), nI 0, pl') := by
      intro k
      induction k with
      | zero =>
        intro j q pl hj hq
        obtain ⟨q, rfl⟩ : ∃ z, q = z + 1 := ⟨q - 1, by omega⟩
        obtain rfl : j = m := by omega
        simp (disch := omega) only [f_X12_shortest_33, nI_le', if_pos]
        cases hmn : mn (wM A B n j) j with
        | none => rw [if_neg (by rw [oI_n0le]; exact id)]; exact ⟨_, rfl⟩
        | some y =>
          have hy := mn_b (fun i q hi => bM i q (by omega)) hmn
          rw [if_pos (by rw [oI_s, nI_0le (by omega)]; trivial)]; exact ⟨_, rfl⟩
      | succ k ih =>
        intro j q pl hj hq
        obtain ⟨q, rfl⟩ : ∃ z, q = z + 1 := ⟨q - 1, by omega⟩
        have em : mn (wM A B n m) (j + 1) = (match wM A B n m j with | none => mn (wM A B n m) j | some v => match mn (wM A B n m) j with | none => some v | some y => some (if v < y then v else y)) := rfl
        obtain ⟨p2, e2, g2⟩ := m_laysFrom ht hu hA hB n1 n10 m60 (fr := j) (by omega) hfu pl
        simp (disch := omega) only [f_X12_shortest_33, nI_le', if_neg, e2, bd_s, bI_0, pk_sub, gi_n, nI_cl, lt_, nI_add]
        cases hg : gp A B m j (n - 1) with
        | none =>
          have ew : wM A B n m j = none := by unfold wM; rw [hg]
          rw [ew] at em
          rw [if_pos (show (none : Option Nat).isSome = false from rfl)]
          have := ih (j + 1) q p2 (by omega) (by omega)
          rw [em] at this
          exact this
        | some l =>
          rw [hg] at g2
          obtain ⟨l', a1, b1⟩ := g2 rfl (n - 1) (by omega)
          obtain ⟨p, a2, b2⟩ := g2 rfl 0 (by omega)
          rw [hg] at a1
          cases a1
          have hl := gp_lt hg
          have hp := gp_lt a2
          have hpl : p ≤ l := gp_ge (e := n - 1) a2 (by rw [Nat.zero_add]; exact hg)
          have ew : wM A B n m j = some (l - p + 1) := by unfold wM; rw [hg, a2]
          rw [ew] at em
          have ih' := ih (j + 1) q p2 (by omega) (by omega)
          rw [em] at ih'
          rw [if_neg (show ¬ ((some l).isSome = false) from fun h => (by cases h)), b1, b2, pk_sub hpl, nI_add]
          cases hmn : mn (wM A B n m) j with
          | none =>
            rw [hmn] at ih'
            rw [if_neg (by rw [oI_n0le]; exact id)]
            exact ih'
          | some y =>
            have hy := mn_b (fun i q hi => bM i q (by omega)) hmn
            rw [hmn] at ih'
            rw [if_pos (by rw [oI_s, nI_0le (by omega)]; trivial)]
            simp (disch := omega) only [oI_s, nI_lt']
            by_cases c : l - p + 1 < y
            · rw [if_pos c]
              simp only [if_pos c] at ih'
              exact ih'
            · rw [if_neg c]
              simp only [if_neg c] at ih'
              exact ih'
    obtain ⟨o1, hc⟩ := hC m 0 fu pls (by omega) (by omega)
    obtain ⟨o2, hm⟩ := hM m 0 fu mpl (by omega) (by omega)
    have hb : ∀ j, mn (wC A B n m) m = some j → j < 2147483648 := fun j hj => by have := mn_b (fun i q hi => bC i q hi) hj; omega
    rw [w_same] at hc hb
    have hc' : f_X10_leastLength fu (nI n) (nI m) pls row word = some (oI (mn (wM A B n m) m), o1) := hc
    rw [hc', bd_s]
    simp only
    rw [ansAny _ _ hb, bd_s]
    exact ⟨_, _, _, _, rfl, hm⟩
end WF4
