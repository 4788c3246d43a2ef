/-! who KNOWS at first; how a PAGE is READ -/
section KN
variable {B : Nat → Nat} {E fu : Nat} {tp tq : Nat → Int32} {K : Nat → Int64} {pl nx kd kk : Nat} {wd wd2 : Int64} {nu nu2 le fk fp ba : Int32} {c : Nat → Int32} {σ : Nat → Nat} {wds cn sn pn : Nat → Int64} {kn xx : Nat → Int32}
theorem wd_up {a v : Nat} (h : WD σ) (ha : (33 ≤ a ∧ a < 41 ∧ a - 33 < σ 0 ∧ v < 64) ∨ (61 ≤ a ∧ a < 67 ∧ v ≤ 16)) : WD (up σ a v) := by
  obtain ⟨⟨h0, h1, h2, h3⟩, hk, hl, hp, ho, hi, hz⟩ := h
  refine ⟨⟨?_, ?_, ?_, ?_⟩, fun k hk1 => ?_, fun s hs => ?_, fun p hp1 => ?_, fun i hi1 => ?_, fun i j hi1 hj1 he => ?_, fun i hi1 => ?_⟩
  · rw [up_n _ _ (by omega)]; exact h0
  · rw [up_n _ _ (by omega)]; exact h1
  · rw [up_n _ _ (by omega)]; exact h2
  · rw [up_n _ _ (by omega)]; exact h3
  · have := hk k hk1
    rw [up_n _ _ (show 9 + k ≠ a by omega), up_n _ _ (show 17 + k ≠ a by omega), up_n _ _ (show 25 + k ≠ a by omega), up_n _ _ (show 0 ≠ a by omega)]
    by_cases e : 33 + k = a
    · subst e
      rw [up_s]
      exact ⟨this.1, this.2.1, this.2.2.1, by omega, fun q => absurd q (by omega)⟩
    · rw [up_n _ _ e]; exact this
  · rw [up_n _ _ (show 49 + s ≠ a by omega), up_n _ _ (show 1 ≠ a by omega)]
    exact hl s hs
  · rw [up_n _ _ (show 55 + p ≠ a by omega)]
    have := hp p hp1
    by_cases e : 61 + p = a
    · subst e
      rw [up_s]; omega
    · rw [up_n _ _ e]; exact this
  · rw [up_n _ _ (show 3 ≠ a by omega)] at hi1
    rw [up_n _ _ (show 67 + i ≠ a by omega), up_n _ _ (show 0 ≠ a by omega)]
    exact ho i hi1
  · rw [up_n _ _ (show 3 ≠ a by omega)] at hi1 hj1
    rw [up_n _ _ (show 67 + i ≠ a by omega), up_n _ _ (show 67 + j ≠ a by omega)] at he
    exact hi i j hi1 hj1 he
  · rw [up_n _ _ (show i ≠ a by omega)]
    exact hz i hi1
theorem r_takeKnows (h : TX B E tp tq) (hK : ∀ k, k < 24 → K k = lN (KEY k)) (T : TOK B E pl nx kd kk wd nu nu2 le wd2) (w : WD σ) (hN : NM 4 cn sn pn wds (σ 0) (σ 1) (σ 2)) (hfu : 2000 < fu) :
    (∃ (σ' : Nat → Nat), ∃ y1 y2 y3 y4 y5 y6 r pl' nx' kd' kk' wd' nu' nu2' le' wd2', nx ≤ pl' ∧ TOK B E pl' nx' kd' kk' wd' nu' nu2' le' wd2' ∧
      f_X2_takeKnows fu (nI E) (nI nx) (nI kd) (nI pl) wd (kI kk) nu fk fp K tp (nI (σ 0)) (nI (σ 1)) cn (aK kn σ) sn = some (nI 1, nI nx', nI kd', nI pl', wd', kI kk', nu', fk, fp, aK kn σ') ∧
      f_X12_readKnows fu (nI E) (nI 0) ba (nI kd) (nI pl) (nI nx) nu2 le wd2 (mk4 c σ) tq wds = some (nI 0, ba, y1, y2, y3, y4, y5, y6, mk4 c σ') ∧
      f_X12_isSign (nI 59) y1 y4 = some r ∧ f_X12_must fu r (nI E) (nI 0) ba y1 y2 y3 y4 y5 y6 tq = some (nI 0, ba, nI kd', nI pl', nI nx', nu2', le', wd2') ∧
      WD σ' ∧ (∀ i, ¬ (33 ≤ i ∧ i < 41) → σ' i = σ i)) ∨
    (∃ k p, 1 ≤ k ∧ k ≤ 7 ∧ ∃ u1 u2 u3 : Int32, ∃ u4 : Int64, ∃ u5 u6 : Int32, ∃ (o2 : Nat → Int32), ∃ y1 y2 y3 y4 y5 y6 y7 : Int32, ∃ y8 : Int64, ∃ (c' : Nat → Int32), ∃ r z1 z2 z3 z4 z5 : Int32, ∃ z6 : Int64,
      f_X2_takeKnows fu (nI E) (nI nx) (nI kd) (nI pl) wd (kI kk) nu fk fp K tp (nI (σ 0)) (nI (σ 1)) cn (aK kn σ) sn = some (nI 0, u1, u2, u3, u4, u5, u6, nI k, nI p, o2) ∧
      f_X12_readKnows fu (nI E) (nI 0) ba (nI kd) (nI pl) (nI nx) nu2 le wd2 (mk4 c σ) tq wds = some (y1, y2, y3, y4, y5, y6, y7, y8, c') ∧
      (∀ i, i < 1560 → c' i = c i) ∧
      f_X12_isSign (nI 59) y3 y6 = some r ∧ f_X12_must fu r (nI E) y1 y2 y3 y4 y5 y6 y7 y8 tq = some (nI k, nI p, z1, z2, z3, z4, z5, z6)) := by
  have hT := T.1
  obtain ⟨⟨h0, h1, h2, h3⟩, hkk, -⟩ := id w
  have q0 : mk4 c σ (390 * 4 + 0) = nI (σ 0) := mk4_in (i := 0) (by omega)
  have q1 : mk4 c σ (390 * 4 + 1) = nI (σ 1) := mk4_in (i := 1) (by omega)
  have low0 : ∀ i, i < 1560 → mk4 c σ i = c i := fun i hi => mk4_lo hi
  obtain ⟨pl1, nx1, kd1, kk1, wd1, nu1, nu21, le1, wd21, a1, T1, a3, a4⟩ := tk_next (fu := fu) h hK (a := nx) (by omega) hfu (nI kd) (nI pl) wd (kI kk) nu (nI kd) (nI pl) nu2 le wd2
  have t1 := T1.1
  unfold f_X2_takeKnows f_X12_readKnows
  rw [a3, bd_s, a4, bd_s]
  simp only
  rcases r_old (fu := fu) (ba := ba) (fk := fk) (fp := fp) (wds := wds) (b := 4) (s := 0) (n := σ 0) (n1 := 8) (row := cn) h hK T1 (by omega) (by omega) (by rw [if_pos rfl]; omega) h0 (by omega) q0 hN.1 hfu with ⟨j, pl2, nx2, kd2, kk2, wd2', nu2', nu22, le2, wd22, b1, b2, b3, b3', T2, b5, b6, b7, b8⟩ | ⟨k, b1, b2, b3, b4, b5⟩
  · have t2 := T2.1
    rw [b5, bd_s, b8, bd_s]
    simp only
    rw [if_neg (show ¬ nI j = (-1 : Int32) by rw [nI_ne_m1 (by omega)]; exact id)]
    rcases r_old (fu := fu) (ba := ba) (fk := fk) (fp := fp) (wds := wds) (b := 4) (s := 1) (n := σ 1) (n1 := 6) (row := sn) h hK T2 (by omega) (by omega) (by rw [if_neg (by omega)]; omega) h1 (by omega) q1 hN.2.1 hfu with ⟨s, pl3, nx3, kd3, kk3, wd3, nu3, nu23, le3, wd23, d1, d2, d3, d3', T3, d5, d6, d7, d8⟩ | ⟨k, d1, d2, d3, d4, d5⟩
    · have t3 := T3.1
      have hs3 := m_isSign T3
      rw [d5, bd_s, d8, bd_s]
      simp only
      rw [if_pos (show nI 0 = 0 from rfl)]
      unfold f_X2_takeKnows_38
      rw [if_neg (show ¬ nI s = (-1 : Int32) by rw [nI_ne_m1 (by omega)]; exact id)]
      simp (disch := omega) only [nI_add, gi_n, nI_cl, lt_, mk4_at, nI_1shl, nI_or, mk4_up]
      rw [show 1593 + j - 1560 = 33 + j by omega]
      rcases r_semi (fu := fu) (ba := ba) (fk := fk) (fp := fp) h hK T3 hfu with ⟨pl4, nx4, kd4, kk4, wd4, nu4, nu24, le4, wd24, e1, T4, e3, e4, e5, e6⟩ | ⟨e1, e2, e3⟩
      · rw [e5, bd_s]
        simp only
        rw [if_neg (show ¬ nI 1 = 0 by decide), aK_in (by omega), nI_or, aK_up (by omega)]
        have hkn := (hkk j (by omega)).2.2.2.1
        have hpw : 2 ^ s < 2 ^ 6 := pw_lt (by omega)
        refine Or.inl ⟨up σ (33 + j) (σ (33 + j) ||| 2 ^ s), _, _, _, _, _, _, _, pl4, nx4, kd4, kk4, wd4, nu4, nu24, le4, wd24, by omega, T4, rfl, rfl, hs3, e6, wd_up w (Or.inl ⟨by omega, by omega, by omega, or_lt (n := 6) hkn hpw⟩), fun i hi => up_n _ _ (by omega)⟩
      · have hb := fK_b (kd := kd3) (x := 2) (by omega) (by omega)
        rw [e2, bd_s]
        simp only
        rw [if_pos (show nI 0 = 0 from rfl)]
        exact Or.inr ⟨fK kd3 2, pl3, hb.1, hb.2, _, _, _, _, _, _, _, _, _, _, _, _, _, _, _, _, _, _, _, _, _, _, _, rfl, rfl, fun i hi => mk4_lo hi, hs3, e3⟩
    · obtain ⟨r2, hr2⟩ := is_some (nI kd2) nu22
      rw [d3, bd_s, d5, bd_s]
      simp only
      rw [if_neg (b_eq d1 d2)]
      unfold f_X2_takeKnows_38
      rw [if_pos rfl]
      exact Or.inr ⟨k, pl2, d1, d2, _, _, _, _, _, _, _, _, _, _, _, _, _, _, _, _, r2, _, _, _, _, _, _, rfl, rfl, low0, hr2, b_must d1 d2⟩
  · obtain ⟨r2, hr2⟩ := is_some (nI kd1) nu21
    rw [b3, bd_s, b5, bd_s]
    simp only
    rw [if_pos trivial, b_readTold b1 b2, bd_s]
    simp only
    rw [if_neg (b_eq b1 b2)]
    unfold f_X2_takeKnows_38
    rw [if_pos rfl]
    exact Or.inr ⟨k, pl1, b1, b2, _, _, _, _, _, _, _, _, _, _, _, _, _, _, _, _, r2, _, _, _, _, _, _, rfl, rfl, low0, hr2, b_must b1 b2⟩
theorem aX_up {k v : Nat} (h : k < 6) : upd (aX xx σ) k (nI v) = aX xx (up σ (61 + k) v) := by
  unfold aX
  rw [mkF_up h]
  refine mkF_congr (fun i hi => ?_)
  unfold up
  by_cases e : i = k
  · rw [if_pos e, if_pos (by omega)]
  · rw [if_neg e, if_neg (by omega)]
theorem isOd_some (x : Int32) (z : Int64) : ∃ r, f_X12_isOdds x z = some r := by
  unfold f_X12_isOdds
  obtain ⟨r, h, h2⟩ := isW_some x x (lN (KEY 11)) z
  rw [sp_11, bd_s, h, bd_s, gd_pos h2]
  exact ⟨_, rfl⟩
theorem r_takeRead (h : TX B E tp tq) (hK : ∀ k, k < 24 → K k = lN (KEY k)) (T : TOK B E pl nx kd kk wd nu nu2 le wd2) (w : WD σ) (hN : NM 4 cn sn pn wds (σ 0) (σ 1) (σ 2)) (hfu : 2000 < fu) :
    (∃ (σ' : Nat → Nat), ∃ y1 y2 y3 y4 y5 y6 r pl' nx' kd' kk' wd' nu' nu2' le' wd2', nx ≤ pl' ∧ TOK B E pl' nx' kd' kk' wd' nu' nu2' le' wd2' ∧
      f_X2_takeRead fu (nI E) (nI nx) (nI kd) (nI pl) wd (kI kk) nu fk fp K tp (nI (σ 2)) (aX xx σ) pn = some (nI 1, nI nx', nI kd', nI pl', wd', kI kk', nu', fk, fp, aX xx σ') ∧
      f_X12_readRead fu (nI E) (nI 0) ba (nI kd) (nI pl) (nI nx) nu2 le wd2 (mk4 c σ) tq wds = some (nI 0, ba, y1, y2, y3, y4, y5, y6, mk4 c σ') ∧
      f_X12_isSign (nI 59) y1 y4 = some r ∧ f_X12_must fu r (nI E) (nI 0) ba y1 y2 y3 y4 y5 y6 tq = some (nI 0, ba, nI kd', nI pl', nI nx', nu2', le', wd2') ∧
      WD σ' ∧ (∀ i, ¬ (61 ≤ i ∧ i < 67) → σ' i = σ i)) ∨
    (∃ k p, 1 ≤ k ∧ k ≤ 7 ∧ ∃ u1 u2 u3 : Int32, ∃ u4 : Int64, ∃ u5 u6 : Int32, ∃ (o2 : Nat → Int32), ∃ y1 y2 y3 y4 y5 y6 y7 : Int32, ∃ y8 : Int64, ∃ (c' : Nat → Int32), ∃ r z1 z2 z3 z4 z5 : Int32, ∃ z6 : Int64,
      f_X2_takeRead fu (nI E) (nI nx) (nI kd) (nI pl) wd (kI kk) nu fk fp K tp (nI (σ 2)) (aX xx σ) pn = some (nI 0, u1, u2, u3, u4, u5, u6, nI k, nI p, o2) ∧
      f_X12_readRead fu (nI E) (nI 0) ba (nI kd) (nI pl) (nI nx) nu2 le wd2 (mk4 c σ) tq wds = some (y1, y2, y3, y4, y5, y6, y7, y8, c') ∧
      (∀ i, i < 1560 → c' i = c i) ∧
      f_X12_isSign (nI 59) y3 y6 = some r ∧ f_X12_must fu r (nI E) y1 y2 y3 y4 y5 y6 y7 y8 tq = some (nI k, nI p, z1, z2, z3, z4, z5, z6)) := by
  have hT := T.1
  obtain ⟨⟨h0, h1, h2, h3⟩, hkk, -⟩ := id w
  have q2 : mk4 c σ (390 * 4 + 2) = nI (σ 2) := mk4_in (i := 2) (by omega)
  have low0 : ∀ i, i < 1560 → mk4 c σ i = c i := fun i hi => mk4_lo hi
  obtain ⟨pl1, nx1, kd1, kk1, wd1, nu1, nu21, le1, wd21, a1, T1, a3, a4⟩ := tk_next (fu := fu) h hK (a := nx) (by omega) hfu (nI kd) (nI pl) wd (kI kk) nu (nI kd) (nI pl) nu2 le wd2
  have t1 := T1.1
  unfold f_X2_takeRead f_X12_readRead
  rw [a3, bd_s, a4, bd_s]
  simp only
  rcases r_old (fu := fu) (ba := ba) (fk := fk) (fp := fp) (wds := wds) (b := 4) (s := 2) (n := σ 2) (n1 := 6) (row := pn) h hK T1 (by omega) (by omega) (by rw [if_neg (by omega)]; omega) h2 (by omega) q2 hN.2.2 hfu with ⟨j, pl2, nx2, kd2, kk2, wd2', nu2', nu22, le2, wd22, b1, b2, b3, b3', T2, b5, b6, b7, b8⟩ | ⟨k, b1, b2, b3, b4, b5⟩
  · have t2 := T2.1
    rw [b5, bd_s, b8, bd_s]
    simp only
    rw [if_neg (show ¬ nI j = (-1 : Int32) by rw [nI_ne_m1 (by omega)]; exact id), m_isOdds T2, bd_s]
    rcases r_last (fu := fu) (ba := ba) (fk := fk) (fp := fp) (w := 11) (lo := 0) (hi := 16) h hK T2 (by omega) (by omega) (by omega) hfu with ⟨v, y1, y2, y3, y4, y5, y6, r, pl', nx', kd', kk', wd', nu', nu2'', le', wd2'', d1, d2, d3, T', d5, d6, d7, d8⟩ | ⟨k, p, d1, d2, u1, u2, u3, u4, u5, u6, v, y1, y2, y3, y4, y5, y6, y7, y8, r, x1, x2, x3, x4, x5, x6, d5, d6, d7, d8⟩
    · rw [d5, bd_s, d6, bd_s]
      simp only
      rw [if_pos (show nI 0 = 0 from rfl)]
      unfold f_X2_takeRead_35
      rw [if_neg (show ¬ nI v = (-1 : Int32) by rw [nI_ne_m1 (by omega)]; exact id)]
      simp (disch := omega) only [nI_add, gi_n, nI_cl, mk4_up, aX_up]
      rw [show 1621 + j - 1560 = 61 + j by omega]
      exact Or.inl ⟨up σ (61 + j) v, _, _, _, _, _, _, r, pl', nx', kd', kk', wd', nu', nu2'', le', wd2'', by omega, T', rfl, rfl, d7, d8, wd_up w (Or.inr ⟨by omega, by omega, by omega⟩), fun i hi => up_n _ _ (by omega)⟩
    · rw [d5, bd_s, d6, bd_s]
      simp only
      unfold f_X2_takeRead_35
      rw [if_pos rfl]
      refine Or.inr ⟨k, p, d1, d2, u1, u2, u3, u4, u5, u6, _, y1, y2, y3, y4, y5, y6, y7, y8, (if y1 = 0 then upd (mk4 c σ) (1621 + j) v else mk4 c σ), r, x1, x2, x3, x4, x5, x6, rfl, ?_, ?_, d7, d8⟩
      · simp (disch := omega) only [nI_add, gi_n, nI_cl]
        split <;> rfl
      · split
        · exact lowU (by omega) low0
        · exact low0
  · obtain ⟨r2, hr2⟩ := is_some (nI kd1) nu21
    obtain ⟨r3, hr3⟩ := isOd_some (nI kd1) wd21
    rw [b3, bd_s, b5, bd_s]
    simp only
    rw [if_pos trivial, hr3, bd_s, b_behind b1 b2, bd_s]
    simp only
    rw [if_neg (b_eq b1 b2)]
    unfold f_X2_takeRead_35
    rw [if_pos rfl]
    exact Or.inr ⟨k, pl1, b1, b2, _, _, _, _, _, _, _, _, _, _, _, _, _, _, _, _, r2, _, _, _, _, _, _, rfl, rfl, low0, hr2, b_must b1 b2⟩
end KN
