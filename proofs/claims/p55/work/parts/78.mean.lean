/-! mean: so many seeds, all stays as it is -/
section MN
variable {c : Nat → Int32} {σ : Nat → Nat} {x1 x2 x3 st st2 th : Int32} {ab un : Int64} {fu z ns n : Nat} {co ma on ot lt rm sp xx dt kn md od sd us be : Nat → Int32} {pr sp1 rs rz : Int32}
theorem c_probeOf {q1 q2 q3 q4 q5 q6 : Int32} {q7 q8 q9 q10 q11 q12 q13 : Nat → Int32} (w : WF σ) : f_X3_probeOf q1 q2 q3 q4 q5 q6 q7 q8 q9 q10 q11 q12 q13 (nI (σ 3)) (nI (σ 8)) (nI (σ 6)) (nI (σ 7)) (nI (σ 4)) (nI (σ 5)) (aD dt σ) (aK kn σ) (aM md σ) (aO od σ) (aX xx σ) (aS sd σ) (aU us σ)
    = some (nI (σ 3), nI (σ 8), nI (σ 6), nI (σ 7), nI (σ 4), nI (σ 5), aD q7 σ, aK q8 σ, aM q9 σ, aO (va_cpy od q10 0 0 8) σ, aX q11 σ, aS q12 σ, aU q13 σ) := by
  unfold f_X3_probeOf
  rw [c_copyState w, bd_s]
theorem mean_G (w : WF σ) (h4 : σ 4 ≤ 9999) (hz : z ≤ 60) (hn : ns ≤ 30) (hc2 : c 112 = nI ns) (hLay : Lay (row4 co ma on ot) c (σ 0) (σ 1) (σ 2) 7 n 0 ns 0 z) {kc M : Nat} (hk : kc < σ 0) (hM : 1 ≤ M) (hM2 : M ≤ 20) (hfu : 40000 < fu) :
    ∀ (k j s N : Nat) (l1 l2 l3 l4 l5 l6 l7 : Int32) (ll : Nat → Int32) (q1 q2 q3 q4 q5 q6 : Int32) (q7 q8 q9 q10 q11 q12 q13 : Nat → Int32), j + k = M → k < N → s ≤ 6 * j →
      ∃ S o1 o2 o3 o4 o5 o6 o7 ll' p1 p2 p3 p4 p5 p6 p7 p8 p9 p10 p11 p12 p13,
        f_X11_mean_94 fu (nI (σ 0)) (nI (σ 1)) (nI (σ 2)) (nI (sB σ)) (nI (sR σ)) (aL lt σ) (nI (σ 3)) (nI (σ 8)) (nI (σ 6)) (nI (σ 7)) (nI (σ 4)) (nI (σ 5)) (aD dt σ) (aK kn σ) (aM md σ) (aO od σ) (aX xx σ) (aS sd σ) (aU us σ) (aR rm σ) pr (nI z) co ma on ot (aP sp σ) N (nI kc) x2 (nI M) (nI s) (nI j) st l1 l2 l3 l4 l5 l6 l7 ll q1 q2 q3 q4 q5 q6 q7 q8 q9 q10 q11 q12 q13 ab un
          = some (nI 1, nI 0, o1, o2, o3, o4, o5, o6, o7, ll', p1, p2, p3, p4, p5, p6, p7, p8, p9, p10, p11, p12, p13, lN (S / Nat.gcd S M), lN (M / Nat.gcd S M)) ∧
        ∀ (N2 : Nat) (i1 i2 i3 i4 i5 i6 i7 b1 b2 : Int32), k < N2 → ∃ i1' i2' i3' i4' i5' i6' i7', f_X12_mean_110 fu N2 (nI kc) x2 (nI M) (lN s) (nI j) b1 b2 ab un i1 i2 i3 i4 i5 i6 i7 (mk be σ) (mk c σ) = some (nI 1, b1, b2, lN (S / Nat.gcd S M), lN (M / Nat.gcd S M), i1', i2', i3', i4', i5', i6', i7', mk be σ, mk c σ) := by
  have h0 := w.c0
  intro k
  induction k with
  | zero =>
    intro j s N l1 l2 l3 l4 l5 l6 l7 ll q1 q2 q3 q4 q5 q6 q7 q8 q9 q10 q11 q12 q13 hj hN hs
    obtain ⟨N, rfl⟩ : ∃ x, N = x + 1 := ⟨N - 1, by omega⟩
    obtain rfl : j = M := by omega
    refine ⟨s, l1, l2, l3, l4, l5, l6, l7, ll, q1, q2, q3, q4, q5, q6, q7, q8, q9, q10, q11, q12, q13, ?_, ?_⟩
    · simp (disch := omega) only [f_X11_mean_94, nI_le', if_pos, nI_l', c_keep, bd_s, agr11, gd_1]
    · intro N2 i1 i2 i3 i4 i5 i6 i7 b1 b2 hN2
      obtain ⟨N2, rfl⟩ : ∃ x, N2 = x + 1 := ⟨N2 - 1, by omega⟩
      refine ⟨i1, i2, i3, i4, i5, i6, i7, ?_⟩
      simp (disch := omega) only [f_X12_mean_110, nI_le', if_pos, nI_l', m_frac, bd_s, gd_1]
  | succ k ih =>
    intro j s N l1 l2 l3 l4 l5 l6 l7 ll q1 q2 q3 q4 q5 q6 q7 q8 q9 q10 q11 q12 q13 hj hN hs
    obtain ⟨N, rfl⟩ : ∃ x, N = x + 1 := ⟨N - 1, by omega⟩
    obtain ⟨ov, d, m, f, v, lo, ll', σ', g1, g2, w', hC, h5⟩ := r_run (x1 := x2 + nI j) (l1 := l1) (l2 := l2) (l3 := l3) (l4 := l4) (l5 := l5) (l6 := l6) (l7 := l7) (ll := ll) (lt := lt) (rm := rm) (sp := sp) (xx := q11) (dt := q7) (kn := q8) (md := q9) (od := va_cpy od q10 0 0 8) (sd := q12) (us := q13) w h4 hz hn hc2 hLay hfu
    have hkn := w'.kn (k := kc) (by omega)
    have hsz := sz_6 (σ' (33 + kc)) hkn
    obtain ⟨S, o1, o2, o3, o4, o5, o6, o7, ll2, p1, p2, p3, p4, p5, p6, p7, p8, p9, p10, p11, p12, p13, e1, e2⟩ := ih (j + 1) (s + sz (σ' (33 + kc))) N (nI d) (nI m) (nI (σ' 4 - σ 4)) (nI (σ' 5) - nI (σ 5)) f lo v ll' (nI (σ 3)) (nI (σ' 8)) (nI (σ' 6)) (nI (σ' 7)) (nI (σ' 4)) (nI (σ' 5)) (aD q7 σ') (aK q8 σ') (aM q9 σ') (aO (va_cpy od q10 0 0 8) σ') (aX q11 σ) (aS q12 σ') (aU q13 σ') (by omega) (by omega) (by omega)
    refine ⟨S, o1, o2, o3, o4, o5, o6, o7, ll2, p1, p2, p3, p4, p5, p6, p7, p8, p9, p10, p11, p12, p13, ?_, ?_⟩
    · simp (disch := omega) only [f_X11_mean_94, nI_le', if_neg, c_probeOf w, bd_s, g1, gi_n, nI_cl, aK_in, c_size _ hkn, lt_, nI_add, e1]
    · intro N2 i1 i2 i3 i4 i5 i6 i7 b1 b2 hN2
      obtain ⟨N2, rfl⟩ : ∃ x, N2 = x + 1 := ⟨N2 - 1, by omega⟩
      obtain ⟨i1', i2', i3', i4', i5', i6', i7', e3⟩ := e2 N2 (nI ov) v (nI d) (nI m) (nI (σ' 4 - σ 4)) f lo b1 b2 (by omega)
      refine ⟨i1', i2', i3', i4', i5', i6', i7', ?_⟩
      simp (disch := omega) only [f_X12_mean_110, nI_le', if_neg, g2, bd_s, nI_add, gi_n, nI_cl, mk_in, m_size hkn, lt_, nI_l', lN_add, m_restore, e3]
theorem r_mean {l1 l2 l3 l4 l5 l6 l7 i1 i2 i3 i4 i5 i6 i7 : Int32} {ll : Nat → Int32} {q1 q2 q3 q4 q5 q6 : Int32} {q7 q8 q9 q10 q11 q12 q13 : Nat → Int32} (w : WF σ) (h4 : σ 4 ≤ 9999) (hR : RoRel c (σ 0) (σ 1) (σ 2) pr sp1 rz co ma on ot) (hfu : 40000 < fu) :
    ∃ r s a b o1 o2 o3 o4 o5 o6 o7 ll' p1 p2 p3 p4 p5 p6 p7 p8 p9 p10 p11 p12 p13 i1' i2' i3' i4' i5' i6' i7' be',
      f_X11_mean fu x1 x2 x3 st (nI (σ 0)) (nI (σ 1)) (nI (σ 2)) (nI (sB σ)) (nI (sR σ)) (aL lt σ) (nI (σ 3)) (nI (σ 8)) (nI (σ 6)) (nI (σ 7)) (nI (σ 4)) (nI (σ 5)) (aD dt σ) (aK kn σ) (aM md σ) (aO od σ) (aX xx σ) (aS sd σ) (aU us σ) (aR rm σ) pr rz co ma on ot (aP sp σ) l1 l2 l3 l4 l5 l6 l7 ll q1 q2 q3 q4 q5 q6 q7 q8 q9 q10 q11 q12 q13 ab un
        = some (r, s, o1, o2, o3, o4, o5, o6, o7, ll', p1, p2, p3, p4, p5, p6, p7, p8, p9, p10, p11, p12, p13, a, b) ∧
      f_X12_mean fu x1 x2 x3 st2 th ab un i1 i2 i3 i4 i5 i6 i7 be (mk c σ) = some (r, s, nI 0, a, b, i1', i2', i3', i4', i5', i6', i7', be', mk c σ) := by
  have h0 := w.c0
  obtain ⟨z, ns, hz, hn, rfl, hst, hpr⟩ := hR
  unfold f_X11_mean f_X12_mean
  rw [c_hasCell (by omega), bd_s, m_isCellAt w, bd_s]
  cases hx : inR x1 0 (σ 0)
  · rw [if_pos (show bI false = 0 from rfl), if_pos (show bI false = 0 from rfl)]
    exact ⟨_, _, _, _, _, _, _, _, _, _, _, _, _, _, _, _, _, _, _, _, _, _, _, _, _, _, _, _, _, _, _, _, _, rfl, rfl⟩
  · obtain ⟨kc, hk, rfl⟩ := inR_of hx
    rw [if_neg (show ¬ bI true = 0 by decide), if_neg (show ¬ bI true = 0 by decide), m_in (by omega) (by omega), bd_s]
    have hbad : f_X11_mean_43 fu (nI (σ 0)) (nI (σ 1)) (nI (σ 2)) (nI (sB σ)) (nI (sR σ)) (aL lt σ) (nI (σ 3)) (nI (σ 8)) (nI (σ 6)) (nI (σ 7)) (nI (σ 4)) (nI (σ 5)) (aD dt σ) (aK kn σ) (aM md σ) (aO od σ) (aX xx σ) (aS sd σ) (aU us σ) (aR rm σ) pr (nI z) co ma on ot (aP sp σ) (nI kc) x2 x3 st l1 l2 l3 l4 l5 l6 l7 ll q1 q2 q3 q4 q5 q6 q7 q8 q9 q10 q11 q12 q13 ab un = some (nI 0, nI 5, l1, l2, l3, l4, l5, l6, l7, ll, q1, q2, q3, q4, q5, q6, q7, q8, q9, q10, q11, q12, q13, ab, un) := by
      unfold f_X11_mean_43 f_X11_mean_44
      rw [if_pos (show nI 0 = 0 from rfl)]
      rfl
    cases hx3 : inR x3 (1 : Nat) ((20 : Nat) + 1)
    · have h3 := inR_f hx3
      rw [if_pos (show bI false = 0 from rfl)]
      rw [hbad]
      by_cases a : x2 < 0
      · rw [if_pos a]
        exact ⟨_, _, _, _, _, _, _, _, _, _, _, _, _, _, _, _, _, _, _, _, _, _, _, _, _, _, _, _, _, _, _, _, _, rfl, rfl⟩
      · by_cases a2 : nI 9999 < x2
        · rw [if_neg a, if_pos a2]
          exact ⟨_, _, _, _, _, _, _, _, _, _, _, _, _, _, _, _, _, _, _, _, _, _, _, _, _, _, _, _, _, _, _, _, _, rfl, rfl⟩
        · by_cases a3 : x3 < nI 1
          · rw [if_neg a, if_neg a2, if_pos a3]
            exact ⟨_, _, _, _, _, _, _, _, _, _, _, _, _, _, _, _, _, _, _, _, _, _, _, _, _, _, _, _, _, _, _, _, _, rfl, rfl⟩
          · have a4 : nI 20 < x3 := by
              rw [x_gt (by omega)]
              rw [x_lt (by omega)] at a3
              omega
            rw [if_neg a, if_neg a2, if_neg a3, if_pos a4]
            exact ⟨_, _, _, _, _, _, _, _, _, _, _, _, _, _, _, _, _, _, _, _, _, _, _, _, _, _, _, _, _, _, _, _, _, rfl, rfl⟩
    · have h3 := inR_t hx3
      obtain ⟨M, hM, rfl, hM2⟩ := nI_of0 (x := x3) (by omega)
      rw [if_neg (show ¬ bI true = 0 by decide), pk_sub (show M ≤ 10000 by omega), nI_l (by omega), m_in (by omega) (by omega), bd_s]
      cases hx2 : inR x2 (0 : Nat) ((10000 - M : Nat) + 1)
      · have h2 := inR_f hx2
        rw [if_pos (show bI false = 0 from rfl), hbad]
        by_cases a : x2 < 0
        · rw [if_pos a]
          exact ⟨_, _, _, _, _, _, _, _, _, _, _, _, _, _, _, _, _, _, _, _, _, _, _, _, _, _, _, _, _, _, _, _, _, rfl, rfl⟩
        · rw [if_neg a]
          have a' : ¬ x2.toInt < 0 := fun h => a (by rw [x_lt0]; exact h)
          by_cases a2 : nI 9999 < x2
          · rw [if_pos a2]
            exact ⟨_, _, _, _, _, _, _, _, _, _, _, _, _, _, _, _, _, _, _, _, _, _, _, _, _, _, _, _, _, _, _, _, _, rfl, rfl⟩
          · have a2' : ¬ ((9999 : Nat) : Int) < x2.toInt := fun h => a2 (by rw [x_gt (by omega)]; exact h)
            rw [if_neg a2, if_neg (show ¬ nI M < nI 1 by rw [nI_lt' (by omega) (by omega)]; omega), if_neg (show ¬ nI 20 < nI M by rw [nI_lt' (by omega) (by omega)]; omega)]
            obtain ⟨y, hy, rfl, hy2⟩ := nI_of0 (x := x2) (by omega)
            unfold f_X11_mean_44
            rw [if_neg (show ¬ nI 1 = 0 by decide), nI_add, pk_sub (show 1 ≤ y + M by omega), if_neg (show ¬ nI (y + M - 1) ≤ nI 9999 by rw [nI_le' (by omega) (by omega)]; omega)]
            exact ⟨_, _, _, _, _, _, _, _, _, _, _, _, _, _, _, _, _, _, _, _, _, _, _, _, _, _, _, _, _, _, _, _, _, rfl, rfl⟩
      · have h2 := inR_t hx2
        obtain ⟨y, hy, rfl, hy2⟩ := nI_of0 (x := x2) (by omega)
        rw [if_neg (show ¬ bI true = 0 by decide), if_neg (show ¬ nI y < 0 by rw [nI_lt0 (by omega)]; exact id), if_neg (show ¬ nI 9999 < nI y by rw [nI_lt' (by omega) (by omega)]; omega), if_neg (show ¬ nI M < nI 1 by rw [nI_lt' (by omega) (by omega)]; omega), if_neg (show ¬ nI 20 < nI M by rw [nI_lt' (by omega) (by omega)]; omega)]
        unfold f_X11_mean_44
        rw [if_neg (show ¬ nI 1 = 0 by decide), nI_add, pk_sub (show 1 ≤ y + M by omega), if_pos (show nI (y + M - 1) ≤ nI 9999 by rw [nI_le' (by omega) (by omega)]; omega)]
        rw [gi_n (show 111 < 1950 by omega) (by omega), nI_cl (show 111 < 2147483648 by omega), mk_hi (show 111 ≤ 111 by omega)]
        rcases hpr with ⟨hp, hc⟩ | ⟨hp, hc, hc2, n, hLay⟩
        · rw [hp, hc, if_pos (show nI 0 = 0 from rfl), if_pos (show nI 0 = 0 from rfl)]
          exact ⟨_, _, _, _, _, _, _, _, _, _, _, _, _, _, _, _, _, _, _, _, _, _, _, _, _, _, _, _, _, _, _, _, _, rfl, rfl⟩
        · rw [hp, hc, if_neg (show ¬ nI 1 = 0 by decide), if_neg (show ¬ nI 1 = 0 by decide)]
          obtain ⟨S, o1, o2, o3, o4, o5, o6, o7, ll', p1, p2, p3, p4, p5, p6, p7, p8, p9, p10, p11, p12, p13, e1, e2⟩ := mean_G (x2 := nI y) (st := st) (ab := ab) (un := un) (lt := lt) (rm := rm) (sp := sp) (xx := xx) (dt := dt) (kn := kn) (md := md) (od := od) (sd := sd) (us := us) (be := be) (pr := nI 1) w h4 hz hn hc2 hLay hk (M := M) (by omega) (by omega) hfu M 0 0 fu l1 l2 l3 l4 l5 l6 l7 ll q1 q2 q3 q4 q5 q6 q7 q8 q9 q10 q11 q12 q13 (by omega) (by omega) (by omega)
          obtain ⟨i1', i2', i3', i4', i5', i6', i7', e3⟩ := e2 fu i1 i2 i3 i4 i5 i6 i7 (nI 0) (nI 0) (by omega)
          rw [m_save (by omega), e1, e3]
          exact ⟨_, _, _, _, _, _, _, _, _, _, _, _, _, _, _, _, _, _, _, _, _, _, _, _, _, _, _, _, _, _, _, _, _, rfl, rfl⟩
end MN
