/-! copyPage; feed; fault; what is told again -/
theorem cut_small : ∀ d, d < 128 → ((((nI d).toInt64.toInt32).toInt8.toInt32).toInt64 = (nI d).toInt64) ∧ ((((nI d).toInt64.toInt32).toInt16.toInt32).toInt64 = (nI d).toInt64) ∧ (((nI d).toInt64.toInt32).toInt64 = (nI d).toInt64) := by decide +kernel
theorem c_cutd {s d : Nat} (hs : s < 4) (hd : d < 128) : f_X9_cut (nI s) (nI d).toInt64 = some (nI d).toInt64 := by
  obtain ⟨h1, h2, h3⟩ := cut_small d hd
  unfold f_X9_cut
  simp (disch := omega) only [nI_eq', h1, h2, h3, ite_self]
/-- a row with the first so many others -/
def lay (F f : Nat → Int64) (a j : Nat) : Nat → Int64 := fun i => if a ≤ i ∧ i < a + j then f (i - a) else F i
theorem lay_0 {F f : Nat → Int64} {a : Nat} : lay F f a 0 = F := by funext i; unfold lay; rw [if_neg (by omega)]
theorem lay_step {F f : Nat → Int64} {a j : Nat} : vp_updL (lay F f a j) (a + j) (f j) = lay F f a (j + 1) := by
  funext i
  unfold vp_updL lay
  by_cases e : i = a + j
  · rw [if_pos e, if_pos (by omega), e, show a + j - a = j by omega]
  · rw [if_neg e]
    by_cases g : a ≤ i ∧ i < a + j
    · rw [if_pos g, if_pos (by omega)]
    · rw [if_neg g, if_neg (by omega)]
theorem up_up {α : Type} (f : Nat → α) (i : Nat) (v u : α) : up (up f i v) i u = up f i u := by
  funext j
  unfold up
  by_cases e : j = i
  · rw [if_pos e, if_pos e]
  · rw [if_neg e, if_neg e, if_neg e]
section CP
variable {c : Nat → Int32} {σ : Nat → Nat} {R : Nat → Nat → Int64} {so le dt : Nat → Int32} {nu : Nat → Int64} {tm ts : Nat → Int32} {x1 x2 x3 x4 x5 st st2 th : Int32} {fu : Nat}
theorem m_isTray : f_X12_isTray x1 = some (bI (inR x1 0 4)) := by
  unfold f_X12_isTray
  rw [m_in (by omega) (by omega), bd_s, gd_bI]
  rfl
theorem r_copyPage (w : WF σ) (h : TrRel R so le nu tm ts) (hfu : 100 < fu) : ∃ r s R' nu', f_X11_copyPage fu x1 x2 st (nI (σ 1)) (nI (σ 2)) (aD dt σ) le (R 0) (R 1) (R 2) (R 3) so = some (r, s, R' 0, R' 1, R' 2, R' 3) ∧ f_X12_copyPage fu x1 x2 st2 th (mk c σ) nu tm = some (r, s, nI 0, nu') ∧ TrRel R' so le nu' tm ts := by
  have w1 := w.c1
  have w2 := w.c2
  unfold f_X11_copyPage f_X12_copyPage
  rw [c_isKnown, m_isTray, bd_s, bd_s]
  simp only [bI_0]
  cases hx : inR x2 0 4
  · rw [if_pos rfl, if_pos rfl]; exact ⟨_, _, R, _, rfl, rfl, h⟩
  · obtain ⟨t, ht, rfl⟩ := inR_of (n := 4) hx
    rw [if_neg (show ¬ (true = false) by decide), if_neg (show ¬ (true = false) by decide), c_hasPage (by omega), m_isPageAt w, bd_s, bd_s]
    simp only [bI_0]
    cases hp : inR x1 0 (σ 2)
    · rw [if_pos rfl, if_pos rfl]; exact ⟨_, _, R, _, rfl, rfl, h⟩
    · obtain ⟨p, hp, rfl⟩ := inR_of hp
      rw [if_neg (show ¬ (true = false) by decide), if_neg (show ¬ (true = false) by decide)]
      unfold f_X9_isMissing
      simp (disch := omega) only [gi_n, nI_cl, bd_s, mk_in]
      rcases h t ht with ⟨e1, e2⟩ | ⟨m, s, a1, a2, a3, a4, a5, a6, a7⟩
      · rw [e1, e2, if_pos rfl, bd_s, if_neg (by decide), if_neg (by decide)]
        exact ⟨_, _, R, _, rfl, rfl, h⟩
      · simp (disch := omega) only [a3, a4, nI_ne_m1, if_false, bd_s, nI_0le, if_true, nI_eq0, nI_le']
        by_cases hl : σ 1 ≤ m
        · rw [if_pos hl, if_pos hl]
          have hA : f_X11_copyPage_78 fu (nI (σ 1)) (nI (σ 2)) (aD dt σ) le so fu (nI p) (nI t) (nI 0) st (R 0) (R 1) (R 2) (R 3) = some (nI (σ 1), nI 0, up R t (lay (R t) (fun i => (nI (σ (75 + 6 * p + i))).toInt64) 0 (σ 1)) 0, up R t (lay (R t) (fun i => (nI (σ (75 + 6 * p + i))).toInt64) 0 (σ 1)) 1, up R t (lay (R t) (fun i => (nI (σ (75 + 6 * p + i))).toInt64) 0 (σ 1)) 2, up R t (lay (R t) (fun i => (nI (σ (75 + 6 * p + i))).toInt64) 0 (σ 1)) 3) := by
            have e0 : R = up R t (lay (R t) (fun i => (nI (σ (75 + 6 * p + i))).toInt64) 0 0) := by
              funext q
              rw [lay_0]
              by_cases e : q = t
              · subst e; rw [up_s]
              · rw [up_n _ _ e]
            refine Eq.trans (congrArg (fun Z => f_X11_copyPage_78 fu (nI (σ 1)) (nI (σ 2)) (aD dt σ) le so fu (nI p) (nI t) (nI 0) st (Z 0) (Z 1) (Z 2) (Z 3)) e0) ?_
            refine loop_p (fun n j => f_X11_copyPage_78 fu (nI (σ 1)) (nI (σ 2)) (aD dt σ) le so n (nI p) (nI t) (nI j) st (up R t (lay (R t) (fun i => (nI (σ (75 + 6 * p + i))).toInt64) 0 j) 0) (up R t (lay (R t) (fun i => (nI (σ (75 + 6 * p + i))).toInt64) 0 j) 1) (up R t (lay (R t) (fun i => (nI (σ (75 + 6 * p + i))).toInt64) 0 j) 2) (up R t (lay (R t) (fun i => (nI (σ (75 + 6 * p + i))).toInt64) 0 j) 3)) (σ 1) _ ?_ ?_ (σ 1) 0 fu (by omega) (by omega)
            · intro n j hj
              have hd := w.dl' (p := p) (s := j) (by omega) (by omega)
              have ix : 75 + (p * 6 + j) = 75 + 6 * p + j := by omega
              have hP := c_put (R := up R t (lay (R t) (fun i => (nI (σ (75 + 6 * p + i))).toInt64) 0 j)) (so := so) (v := (nI (σ (75 + 6 * p + j))).toInt64) (t := t) (k := j) ht (by omega) a5 (c_cutd a2 (by omega))
              have hst : vp_updL (lay (R t) (fun i => (nI (σ (75 + 6 * p + i))).toInt64) 0 j) j (nI (σ (75 + 6 * p + j))).toInt64 = lay (R t) (fun i => (nI (σ (75 + 6 * p + i))).toInt64) 0 (j + 1) := by
                have := lay_step (F := R t) (f := fun i => (nI (σ (75 + 6 * p + i))).toInt64) (a := 0) (j := j)
                rw [Nat.zero_add] at this
                exact this
              rw [up_s, hst, up_up] at hP
              simp (disch := omega) only [f_X11_copyPage_78, nI_le', if_neg, pk_mul, nI_add, gi_n, nI_cl, aD_in, ix, hP, bd_s, lt_]
            · intro n
              simp (disch := omega) only [f_X11_copyPage_78, nI_le', if_pos, ans11, bd_s]
          have hB : f_X12_copyPage_76 fu (mk c σ) tm fu (nI p) (nI t) (nI 0) (nI 0) (nI 0) nu = some (nI (σ 1), nI 0, nI 0, lay nu (fun i => (nI (σ (75 + 6 * p + i))).toInt64) (60 * t) (σ 1)) := by
            refine Eq.trans (congrArg (fun Z => f_X12_copyPage_76 fu (mk c σ) tm fu (nI p) (nI t) (nI 0) (nI 0) (nI 0) Z) (lay_0 (f := fun i => (nI (σ (75 + 6 * p + i))).toInt64) (a := 60 * t)).symm) ?_
            refine loop_p (fun n j => f_X12_copyPage_76 fu (mk c σ) tm n (nI p) (nI t) (nI j) (nI 0) (nI 0) (lay nu (fun i => (nI (σ (75 + 6 * p + i))).toInt64) (60 * t) j)) (σ 1) _ ?_ ?_ (σ 1) 0 fu (by omega) (by omega)
            · intro n j hj
              have hst := lay_step (F := nu) (f := fun i => (nI (σ (75 + 6 * p + i))).toInt64) (a := 60 * t) (j := j)
              simp (disch := omega) only [f_X12_copyPage_76, gi_n, nI_cl, mk_in, nI_le', if_neg, pk_mul, nI_add, lt_]
              rw [← hst]
            · intro n
              simp (disch := omega) only [f_X12_copyPage_76, gi_n, nI_cl, mk_in, nI_le', if_pos]
          refine ⟨_, _, _, _, hA, hB, ?_⟩
          intro q hq
          by_cases eq : q = t
          · subst eq
            refine Or.inr ⟨m, s, a1, a2, a3, a4, a5, a6, fun k hk => ?_⟩
            rw [up_s]
            unfold lay
            by_cases hk2 : k < σ 1
            · rw [if_pos (by omega), if_pos (by omega), Nat.sub_zero, show 60 * q + k - 60 * q = k by omega]
            · rw [if_neg (by omega), if_neg (by omega)]; exact a7 k hk
          · rw [up_n _ _ eq]
            rcases h q hq with h2 | ⟨m', s', b1, b2, b3, b4, b5, b6, b7⟩
            · exact Or.inl h2
            · refine Or.inr ⟨m', s', b1, b2, b3, b4, b5, b6, fun k hk => ?_⟩
              unfold lay
              rw [if_neg (by omega)]; exact b7 k hk
        · rw [if_neg hl, if_neg hl]
          exact ⟨_, _, R, _, rfl, rfl, h⟩
/-- the tapes are alike -/
def TpRel (T : Nat) (tp tq : Nat → Int32) : Prop := T ≤ 900 ∧ ∀ i, i < T → tp i = tq i ∧ ∃ y : Int32, tp i = y.toInt8.toInt32
theorem tp_add {T : Nat} {tp tq : Nat → Int32} {y : Int32} (h : TpRel T tp tq) (hT : T < 900) : TpRel (T + 1) (upd tp T (vp_nar .byte y.toInt8.toInt32)) (upd tq T (vp_nar .byte y.toInt8.toInt32)) := by
  refine ⟨by omega, fun i hi => ?_⟩
  by_cases e : i = T
  · subst e
    rw [upd_s, upd_s, vp_nar_byte]
    exact ⟨rfl, _, rfl⟩
  · rw [upd_n e, upd_n e]
    exact h.2 i (by omega)
theorem r_lay {T : Nat} {tp tq : Nat → Int32} {x : Int32} (h : TpRel T tp tq) (hT : T + 4 ≤ 900) (hfu : 100 < fu) : ∃ tp' tq', f_X8_append fu x (nI T) tp = some (nI (T + 4), tp') ∧ f_X12_lay fu x (nI T) tq = some (nI (T + 4), tq') ∧ TpRel (T + 4) tp' tq' := by
  obtain ⟨n, rfl⟩ : ∃ n, fu = n + 5 := ⟨fu - 5, by omega⟩
  have h1 := tp_add (y := x >>> (nI 24 &&& (31 : Int32))) h (by omega)
  have h2 := tp_add (y := x >>> (nI 16 &&& (31 : Int32))) h1 (by omega)
  have h3 := tp_add (y := x >>> (nI 8 &&& (31 : Int32))) h2 (by omega)
  have h4 := tp_add (y := x >>> (nI 0 &&& (31 : Int32))) h3 (by omega)
  have c1 : nI 24 + (-8 : Int32) = nI 16 := by decide
  have c2 : nI 16 + (-8 : Int32) = nI 8 := by decide
  have c3 : nI 8 + (-8 : Int32) = nI 0 := by decide
  have c4 : ¬ nI 24 < 0 := by decide
  have c5 : ¬ nI 16 < 0 := by decide
  have c6 : ¬ nI 8 < 0 := by decide
  have c7 : ¬ nI 0 < 0 := by decide
  have c8 : nI 0 + (-8 : Int32) < 0 := by decide
  have d1 : nI 3 + (-1 : Int32) = nI 2 := by decide
  have d2 : nI 2 + (-1 : Int32) = nI 1 := by decide
  have d3 : nI 1 + (-1 : Int32) = nI 0 := by decide
  have d4 : ¬ nI 3 < 0 := by decide
  have d5 : ¬ nI 2 < 0 := by decide
  have d6 : ¬ nI 1 < 0 := by decide
  have d8 : nI 0 + (-1 : Int32) < 0 := by decide
  refine ⟨_, _, ?_, ?_, h4⟩
  · unfold f_X8_append
    have L : ∀ k z (q : Nat → Int32), T + k < 900 → (¬ z < 0) → f_X8_append_3 (n + 5) (k + 1) x z (nI (T + (4 - k))) q = f_X8_append_3 (n + 5) (k + 1) x z (nI (T + (4 - k))) q := fun _ _ _ _ _ => rfl
    simp (disch := omega) only [f_X8_append_3, c1, c2, c3, if_neg c4, if_neg c5, if_neg c6, if_neg c7, if_pos c8, nI_le', if_neg, gi_n, nI_cl, nI_add, lt_]
  · unfold f_X12_lay
    simp (disch := omega) only [f_X12_lay_2, d1, d2, d3, if_neg d4, if_neg d5, if_neg d6, if_neg c7, if_pos d8, gi_n, nI_cl, nI_add, pk_mul, lt_]
theorem r_feed {T : Nat} {tp tq : Nat → Int32} (h : TpRel T tp tq) (hfu : 100 < fu) : ∃ r T' tp' tq', f_X11_feed fu x1 x2 x3 x4 x5 (nI T) tp = some (r, nI T', tp') ∧ f_X12_feed fu x1 x2 x3 x4 x5 th (nI T) tq = some (r, nI 0, nI T', tq') ∧ TpRel T' tp' tq' := by
  have hT := h.1
  unfold f_X11_feed f_X12_feed f_X8_hasRoomFor
  simp (disch := omega) only [nI_add, nI_lt', nI_le']
  by_cases e : T + 20 ≤ 900
  · rw [if_neg (by omega), if_pos e, bd_s, if_neg (by decide)]
    obtain ⟨p1, q1, a1, b1, h1⟩ := r_lay (x := x1) (fu := fu) h (by omega) hfu
    obtain ⟨p2, q2, a2, b2, h2⟩ := r_lay (x := x2) (fu := fu) h1 (by omega) hfu
    obtain ⟨p3, q3, a3, b3, h3⟩ := r_lay (x := x3) (fu := fu) h2 (by omega) hfu
    obtain ⟨p4, q4, a4, b4, h4⟩ := r_lay (x := x4) (fu := fu) h3 (by omega) hfu
    obtain ⟨p5, q5, a5, b5, h5⟩ := r_lay (x := x5) (fu := fu) h4 (by omega) hfu
    simp only [a1, a2, a3, a4, a5, b1, b2, b3, b4, b5, bd_s]
    exact ⟨_, _, _, _, rfl, rfl, h5⟩
  · rw [if_pos (by omega), if_neg e, bd_s, if_pos (show nI 0 = 0 from rfl)]
    exact ⟨_, T, _, _, rfl, rfl, h⟩
theorem r_fault {a b : Int32} : ∃ r, f_X11_fault x1 a b = some r ∧ f_X12_fault x1 th a b = some (r, nI 0) := by
  unfold f_X11_fault f_X12_fault
  by_cases e : x1 = 0
  · rw [if_pos e, if_pos e]; exact ⟨_, rfl, rfl⟩
  · rw [if_neg e, if_neg e]
    by_cases e2 : x1 = nI 1
    · rw [if_pos e2, if_pos e2]; exact ⟨_, rfl, rfl⟩
    · rw [if_neg e2, if_neg e2]; exact ⟨_, rfl, rfl⟩
/-- the BEST ORDER told latest -/
def BoRel (bm : Int32) (be : Nat → Int32) (om : Int32) (oe : Nat → Int32) : Prop := ∃ m : Nat, m ≤ 6 ∧ bm = nI m ∧ (om = nI m ∨ (m = 0 ∧ om = (-1 : Int32))) ∧ ∀ k, k < m → be k = oe k
theorem r_bestAt {bm om : Int32} {be oe : Nat → Int32} (h : BoRel bm be om oe) : ∃ r s, f_X11_bestAt x1 st bm be = some (r, s) ∧ f_X12_bestAt x1 st2 th om oe = some (r, s, nI 0) := by
  obtain ⟨m, hm, rfl, ho, hk⟩ := h
  have hin : f_X12_isIn x1.toInt64 (lN 0) (om - nI 1).toInt64 = some (bI (inR x1 0 m)) := by
    rcases ho with rfl | ⟨rfl, rfl⟩
    · exact m_inN (by omega)
    · rw [← nI_l (show 0 < 2 ^ 31 by decide), m_isIn]
      congr 2
      unfold inR
      rw [show ((-1 : Int32) - nI 1).toInt = -2 from by decide, show (nI 0).toInt = 0 from by decide, decide_eq_decide]
      omega
  unfold f_X11_bestAt f_X12_bestAt
  rw [hin, bd_s]
  simp (disch := omega) only [bI_0, ref11, ref12, bd_s, x_lt0, x_lt]
  cases hx : inR x1 0 m
  · have h2 := inR_f hx
    rw [if_pos rfl]
    by_cases a : x1.toInt < 0
    · rw [if_pos a]; exact ⟨_, _, rfl, rfl⟩
    · rw [if_neg a, if_neg (by omega)]; exact ⟨_, _, rfl, rfl⟩
  · have h2 := inR_t hx
    obtain ⟨j, hj, rfl⟩ := inR_of hx
    rw [if_neg (by omega), if_pos (by omega), if_neg (show ¬ (true = false) by decide)]
    simp (disch := omega) only [gi_n, nI_cl, ans11, bd_s, hk j hj]
    exact ⟨_, _, rfl, rfl⟩
theorem r_lived {hl : Int32} {a b : Nat → Int32} (h : hl = 0 ∨ ∀ k, k < 5 → a k = b k) : ∃ r s, f_X11_lived x1 st hl a = some (r, s) ∧ f_X12_lived x1 st2 th hl b = some (r, s, nI 0) := by
  unfold f_X11_lived f_X12_lived
  rw [m_in (by omega) (by omega), bd_s]
  simp (disch := omega) only [bI_0, ref11, ref12, bd_s, x_lt0, x_lt]
  cases hx : inR x1 (0 : Nat) ((4 : Nat) + 1)
  · have h2 := inR_f hx
    rw [if_pos rfl]
    by_cases a : x1.toInt < 0
    · rw [if_pos a]; exact ⟨_, _, rfl, rfl⟩
    · rw [if_neg a, if_neg (by omega)]; exact ⟨_, _, rfl, rfl⟩
  · have h2 := inR_t hx
    obtain ⟨j, hj, rfl, hj2⟩ := nI_of0 (x := x1) (by omega)
    rw [if_neg (by omega), if_pos (by omega), if_neg (show ¬ (true = false) by decide)]
    by_cases e : hl = 0
    · rw [if_pos e, if_pos e]; exact ⟨_, _, rfl, rfl⟩
    · rw [if_neg e, if_neg e]
      have hk := (h.resolve_left e) j (by omega)
      simp (disch := omega) only [gi_n, nI_cl, ans11, bd_s, hk]
      exact ⟨_, _, rfl, rfl⟩
end CP
