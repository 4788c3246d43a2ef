/-! ROUNDS that are told: when and its tests -/
section RT
variable {B : Nat → Nat} {E fu : Nat} {tp tq : Nat → Int32} {K : Nat → Int64} {pl nx kd kk : Nat} {wd wd2 : Int64} {nu nu2 le fk fp ba : Int32} {c : Nat → Int32} {W cn sn pn : Nat → Int64} {n0 n1 n2 w s p key : Nat} {op co ma on ot : Nat → Int32}
theorem c_isTest (hk : kk ≤ 24) : f_X5_isTest (kI kk) = some (bI (decide (kk = 8 ∨ kk = 19 ∨ kk = 20))) := by
  unfold f_X5_isTest
  by_cases e8 : kk = 8
  · rw [if_pos (show kI kk = nI 8 by rw [e8]; rfl), decide_eq_true (Or.inl e8)]; rfl
  · rw [if_neg (show ¬ kI kk = nI 8 by rw [kI_eq hk (by omega)]; exact e8)]
    by_cases e19 : kk = 19
    · rw [if_pos (show kI kk = nI 19 by rw [e19]; rfl), decide_eq_true (Or.inr (Or.inl e19))]; rfl
    · rw [if_neg (show ¬ kI kk = nI 19 by rw [kI_eq hk (by omega)]; exact e19)]
      by_cases e20 : kk = 20
      · rw [if_pos (show kI kk = nI 20 by rw [e20]; rfl), decide_eq_true (Or.inr (Or.inr e20))]; rfl
      · rw [if_neg (show ¬ kI kk = nI 20 by rw [kI_eq hk (by omega)]; exact e20), decide_eq_false (by omega)]; rfl
theorem test_19 (h : TX B E tp tq) (hK : ∀ k, k < 24 → K k = lN (KEY k)) (T : TOK B E pl nx kd kk wd nu nu2 le wd2) (hs : s < 30) (hp : p < 60) (hfu : 2000 < fu) (hc : c (1673 + 9 * s) = nI 6) (hc6 : c (1673 + 9 * s + 6) = nI 1) (hc0 : c (390 * 0 + 2) = nI n2) (h8 : n2 ≤ 6) (hN : ∀ k, k < n2 → pn k = W (20 * 0 + fr 2 + k)) (hw : w < 3) :
    (∃ (a b : Int32) (c1 : Nat → Int32), ∃ y1 y2 y3 y4 y5 y6 r pl' nx' kd' kk' wd' nu' nu2' le' wd2', nx ≤ pl' ∧ TOK B E pl' nx' kd' kk' wd' nu' nu2' le' wd2' ∧
      f_X6_takeStep_113 fu (nI E) K tp (nI n0) (nI n1) (nI n2) cn pn sn (nI 19) (nI w) op (nI nx) (nI kd) (nI pl) wd (kI kk) nu fk fp (nI s) (nI p) co ma on ot = some (nI 1, nI (if isBk 19 = true then w + 1 else w), if isBk 19 = true then upd op w (nI p) else op, nI nx', nI kd', nI pl', wd', kI kk', nu', fk, fp, nI (s + 1), nI (p + 1), upd co p (nI 19), upd ma p (-1 : Int32), upd on p a, upd ot p b) ∧
      f_X12_readTest_55 fu (nI E) tq W (nI (1673 + 9 * s)) (nI 1) (nI (1673 + 9 * s + 1)) (nI 0) (nI 2) (nI 0) ba (nI kd) (nI pl) (nI nx) nu2 le wd2 c = some (nI 0, ba, y1, y2, y3, y4, y5, y6, c1) ∧
      f_X12_isSign (nI 59) y1 y4 = some r ∧ f_X12_must fu r (nI E) (nI 0) ba y1 y2 y3 y4 y5 y6 tq = some (nI 0, ba, nI kd', nI pl', nI nx', nu2', le', wd2') ∧
      stD 19 (isBk 19) a b (fun i => c1 (1560 + i)) n0 n1 n2 s ∧ (∀ i, i < 1673 + 9 * s ∨ 1673 + 9 * s + 9 ≤ i → c1 i = c i)) ∨
    (∃ k p', 1 ≤ k ∧ k ≤ 7 ∧ ∃ u1 u2 u3 : Int32, ∃ u4 : Int64, ∃ u5 u6 : Int32, ∃ y1 y2 y3 y4 y5 y6 y7 : Int32, ∃ y8 : Int64, ∃ (c1 : Nat → Int32), ∃ r z1 z2 z3 z4 z5 : Int32, ∃ z6 : Int64,
      f_X6_takeStep_113 fu (nI E) K tp (nI n0) (nI n1) (nI n2) cn pn sn (nI 19) (nI w) op (nI nx) (nI kd) (nI pl) wd (kI kk) nu fk fp (nI s) (nI p) co ma on ot = some (nI 0, nI w, op, u1, u2, u3, u4, u5, u6, nI k, nI p', nI s, nI p, co, ma, on, ot) ∧
      f_X12_readTest_55 fu (nI E) tq W (nI (1673 + 9 * s)) (nI 1) (nI (1673 + 9 * s + 1)) (nI 0) (nI 2) (nI 0) ba (nI kd) (nI pl) (nI nx) nu2 le wd2 c = some (y1, y2, y3, y4, y5, y6, y7, y8, c1) ∧ (∀ i, i < 1673 + 9 * s → c1 i = c i) ∧
      f_X12_isSign (nI 59) y3 y6 = some r ∧ f_X12_must fu r (nI E) y1 y2 y3 y4 y5 y6 y7 y8 tq = some (nI k, nI p', z1, z2, z3, z4, z5, z6)) := by
  have hT := T.1
  unfold f_X6_takeStep_113 f_X6_takeOne f_X12_readTest_55
  simp (disch := omega) only [nI_eq', nI_eq0, if_true, if_false, if_neg, if_pos]
  rcases r_old (fu := fu) (ba := ba) (fk := fk) (fp := fp) (wds := W) (b := 0) (s := 2) (n := n2) (n1 := 6) (row := pn) h hK T (by omega) (by omega) (by rw [if_neg (by omega)]; omega) h8 (by omega) hc0 hN hfu with ⟨j, pl2, nx2, kd2, kk2, wd2', nu2', nu22, le2, wd22, b1, b2, b3, b3', T2, b5, b6, b7, b8⟩ | ⟨k, b1, b2, b3, b4, b5⟩
  · have t2 := T2.1
    rw [b5, b8, bd_s, bd_s, bd_s]
    simp only
    rw [if_neg (show ¬ nI j = (-1 : Int32) by rw [nI_ne_m1 (by omega)]; exact id), gi_n (by omega) (by omega), nI_cl (by omega)]
    have ho : f_X6_takeOther fu (nI 19) (nI E) (nI nx2) (nI kd2) (nI pl2) wd2' (kI kk2) nu2' fk fp K tp (nI n0) (nI n1) cn sn = some (nI 0, nI nx2, nI kd2, nI pl2, wd2', kI kk2, nu2', fk, fp) := by
      unfold f_X6_takeOther
      simp (disch := omega) only [nI_eq', nI_eq0, if_true, if_false, if_neg, if_pos]
    rw [ho, bd_s]
    simp only
    rcases c_139 (fu := fu) (ba := ba) (fk := fk) (fp := fp) (n0 := n0) (n1 := n1) (n2 := n2) (cn := cn) (sn := sn) (pn := pn) (w := w) (s := s) (p := p) (key := 19) (op := op) (co := co) (ma := ma) (on := on) (ot := ot) (a := nI j) (b := nI 0) h hK T2 (by omega) hp (fun _ => hw) (by decide) hfu with ⟨pl4, nx4, kd4, kk4, wd4, nu4, nu24, le4, wd24, e1, T4, e3, e4, e5⟩ | ⟨k, k1, k2, e3, e4, e5⟩
    · rw [e3]
      refine Or.inl ⟨nI j, nI 0, upd c (1673 + 9 * s + 1) (nI j), _, _, _, _, _, _, _, pl4, nx4, kd4, kk4, wd4, nu4, nu24, le4, wd24, by omega, T4, rfl, rfl, e4, e5, ?_, fun i hi => updN (by omega)⟩
      intro R q h0 h2 h3
      have e0 : upd c (1673 + 9 * s + 1) (nI j) (1560 + (113 + 9 * s)) = nI 6 := by rw [updN (by omega), show 1560 + (113 + 9 * s) = 1673 + 9 * s by omega]; exact hc
      have e1 : upd c (1673 + 9 * s + 1) (nI j) (1560 + (113 + 9 * s + 1)) = nI j := by rw [show 1560 + (113 + 9 * s + 1) = 1673 + 9 * s + 1 by omega]; exact updS
      have e6 : upd c (1673 + 9 * s + 1) (nI j) (1560 + (113 + 9 * s + 6)) = nI 1 := by rw [updN (by omega), show 1560 + (113 + 9 * s + 6) = 1673 + 9 * s + 6 by omega]; exact hc6
      rw [if_pos (show isBk 19 = true by decide)]
      exact Or.inl ⟨e0, 1, j, 0, e6, e1, h2, Or.inr (Or.inl ⟨rfl, h0, b1⟩)⟩
    · rw [e3]
      exact Or.inr ⟨k, pl2, k1, k2, _, _, _, _, _, _, _, _, _, _, _, _, _, _, _, _, _, _, _, _, _, _, rfl, rfl, fun i hi => updN (by omega), e4, e5⟩
  · obtain ⟨r2, hr2⟩ := is_some (nI kd) nu2
    rw [b3, b5, bd_s, bd_s, bd_s]
    simp only
    rw [if_pos trivial, c_139_bad, gi_n (by omega) (by omega), nI_cl (by omega)]
    exact Or.inr ⟨k, pl, b1, b2, _, _, _, _, _, _, _, _, _, _, _, _, _, _, _, r2, _, _, _, _, _, _, rfl, rfl, fun i hi => updN (by omega), hr2, b_must b1 b2⟩
theorem test_20 (h : TX B E tp tq) (hK : ∀ k, k < 24 → K k = lN (KEY k)) (T : TOK B E pl nx kd kk wd nu nu2 le wd2) (hs : s < 30) (hp : p < 60) (hfu : 2000 < fu) (hc : c (1673 + 9 * s) = nI 6) (hc6 : c (1673 + 9 * s + 6) = nI 2) (hc0 : c (390 * 0 + 1) = nI n1) (h8 : n1 ≤ 6) (hN : ∀ k, k < n1 → sn k = W (20 * 0 + fr 1 + k)) (hw : w < 3) :
    (∃ (a b : Int32) (c1 : Nat → Int32), ∃ y1 y2 y3 y4 y5 y6 r pl' nx' kd' kk' wd' nu' nu2' le' wd2', nx ≤ pl' ∧ TOK B E pl' nx' kd' kk' wd' nu' nu2' le' wd2' ∧
      f_X6_takeStep_113 fu (nI E) K tp (nI n0) (nI n1) (nI n2) cn pn sn (nI 20) (nI w) op (nI nx) (nI kd) (nI pl) wd (kI kk) nu fk fp (nI s) (nI p) co ma on ot = some (nI 1, nI (if isBk 20 = true then w + 1 else w), if isBk 20 = true then upd op w (nI p) else op, nI nx', nI kd', nI pl', wd', kI kk', nu', fk, fp, nI (s + 1), nI (p + 1), upd co p (nI 20), upd ma p (-1 : Int32), upd on p a, upd ot p b) ∧
      f_X12_readTest_55 fu (nI E) tq W (nI (1673 + 9 * s)) (nI 2) (nI (1673 + 9 * s + 1)) (nI 0) (nI 1) (nI 0) ba (nI kd) (nI pl) (nI nx) nu2 le wd2 c = some (nI 0, ba, y1, y2, y3, y4, y5, y6, c1) ∧
      f_X12_isSign (nI 59) y1 y4 = some r ∧ f_X12_must fu r (nI E) (nI 0) ba y1 y2 y3 y4 y5 y6 tq = some (nI 0, ba, nI kd', nI pl', nI nx', nu2', le', wd2') ∧
      stD 20 (isBk 20) a b (fun i => c1 (1560 + i)) n0 n1 n2 s ∧ (∀ i, i < 1673 + 9 * s ∨ 1673 + 9 * s + 9 ≤ i → c1 i = c i)) ∨
    (∃ k p', 1 ≤ k ∧ k ≤ 7 ∧ ∃ u1 u2 u3 : Int32, ∃ u4 : Int64, ∃ u5 u6 : Int32, ∃ y1 y2 y3 y4 y5 y6 y7 : Int32, ∃ y8 : Int64, ∃ (c1 : Nat → Int32), ∃ r z1 z2 z3 z4 z5 : Int32, ∃ z6 : Int64,
      f_X6_takeStep_113 fu (nI E) K tp (nI n0) (nI n1) (nI n2) cn pn sn (nI 20) (nI w) op (nI nx) (nI kd) (nI pl) wd (kI kk) nu fk fp (nI s) (nI p) co ma on ot = some (nI 0, nI w, op, u1, u2, u3, u4, u5, u6, nI k, nI p', nI s, nI p, co, ma, on, ot) ∧
      f_X12_readTest_55 fu (nI E) tq W (nI (1673 + 9 * s)) (nI 2) (nI (1673 + 9 * s + 1)) (nI 0) (nI 1) (nI 0) ba (nI kd) (nI pl) (nI nx) nu2 le wd2 c = some (y1, y2, y3, y4, y5, y6, y7, y8, c1) ∧ (∀ i, i < 1673 + 9 * s → c1 i = c i) ∧
      f_X12_isSign (nI 59) y3 y6 = some r ∧ f_X12_must fu r (nI E) y1 y2 y3 y4 y5 y6 y7 y8 tq = some (nI k, nI p', z1, z2, z3, z4, z5, z6)) := by
  have hT := T.1
  unfold f_X6_takeStep_113 f_X6_takeOne f_X12_readTest_55
  simp (disch := omega) only [nI_eq', nI_eq0, if_true, if_false, if_neg, if_pos]
  rcases r_old (fu := fu) (ba := ba) (fk := fk) (fp := fp) (wds := W) (b := 0) (s := 1) (n := n1) (n1 := 6) (row := sn) h hK T (by omega) (by omega) (by rw [if_neg (by omega)]; omega) h8 (by omega) hc0 hN hfu with ⟨j, pl2, nx2, kd2, kk2, wd2', nu2', nu22, le2, wd22, b1, b2, b3, b3', T2, b5, b6, b7, b8⟩ | ⟨k, b1, b2, b3, b4, b5⟩
  · have t2 := T2.1
    rw [b5, b8, bd_s, bd_s, bd_s]
    simp only
    rw [if_neg (show ¬ nI j = (-1 : Int32) by rw [nI_ne_m1 (by omega)]; exact id), gi_n (by omega) (by omega), nI_cl (by omega)]
    have ho : f_X6_takeOther fu (nI 20) (nI E) (nI nx2) (nI kd2) (nI pl2) wd2' (kI kk2) nu2' fk fp K tp (nI n0) (nI n1) cn sn = some (nI 0, nI nx2, nI kd2, nI pl2, wd2', kI kk2, nu2', fk, fp) := by
      unfold f_X6_takeOther
      simp (disch := omega) only [nI_eq', nI_eq0, if_true, if_false, if_neg, if_pos]
    rw [ho, bd_s]
    simp only
    rcases c_139 (fu := fu) (ba := ba) (fk := fk) (fp := fp) (n0 := n0) (n1 := n1) (n2 := n2) (cn := cn) (sn := sn) (pn := pn) (w := w) (s := s) (p := p) (key := 20) (op := op) (co := co) (ma := ma) (on := on) (ot := ot) (a := nI j) (b := nI 0) h hK T2 (by omega) hp (fun _ => hw) (by decide) hfu with ⟨pl4, nx4, kd4, kk4, wd4, nu4, nu24, le4, wd24, e1, T4, e3, e4, e5⟩ | ⟨k, k1, k2, e3, e4, e5⟩
    · rw [e3]
      refine Or.inl ⟨nI j, nI 0, upd c (1673 + 9 * s + 1) (nI j), _, _, _, _, _, _, _, pl4, nx4, kd4, kk4, wd4, nu4, nu24, le4, wd24, by omega, T4, rfl, rfl, e4, e5, ?_, fun i hi => updN (by omega)⟩
      intro R q h0 h2 h3
      have e0 : upd c (1673 + 9 * s + 1) (nI j) (1560 + (113 + 9 * s)) = nI 6 := by rw [updN (by omega), show 1560 + (113 + 9 * s) = 1673 + 9 * s by omega]; exact hc
      have e1 : upd c (1673 + 9 * s + 1) (nI j) (1560 + (113 + 9 * s + 1)) = nI j := by rw [show 1560 + (113 + 9 * s + 1) = 1673 + 9 * s + 1 by omega]; exact updS
      have e6 : upd c (1673 + 9 * s + 1) (nI j) (1560 + (113 + 9 * s + 6)) = nI 2 := by rw [updN (by omega), show 1560 + (113 + 9 * s + 6) = 1673 + 9 * s + 6 by omega]; exact hc6
      rw [if_pos (show isBk 20 = true by decide)]
      exact Or.inl ⟨e0, 2, j, 0, e6, e1, h2, Or.inr (Or.inr ⟨rfl, h0, b1⟩)⟩
    · rw [e3]
      exact Or.inr ⟨k, pl2, k1, k2, _, _, _, _, _, _, _, _, _, _, _, _, _, _, _, _, _, _, _, _, _, _, rfl, rfl, fun i hi => updN (by omega), e4, e5⟩
  · obtain ⟨r2, hr2⟩ := is_some (nI kd) nu2
    rw [b3, b5, bd_s, bd_s, bd_s]
    simp only
    rw [if_pos trivial, c_139_bad, gi_n (by omega) (by omega), nI_cl (by omega)]
    exact Or.inr ⟨k, pl, b1, b2, _, _, _, _, _, _, _, _, _, _, _, _, _, _, _, r2, _, _, _, _, _, _, rfl, rfl, fun i hi => updN (by omega), hr2, b_must b1 b2⟩
theorem test_8 (h : TX B E tp tq) (hK : ∀ k, k < 24 → K k = lN (KEY k)) (T : TOK B E pl nx kd kk wd nu nu2 le wd2) (hs : s < 30) (hp : p < 60) (hfu : 2000 < fu) (hc : c (1673 + 9 * s) = nI 6) (hc6 : c (1673 + 9 * s + 6) = nI 0) (hc0 : c (390 * 0 + 0) = nI n0) (hc1 : c (390 * 0 + 1) = nI n1) (h8 : n0 ≤ 8) (h6 : n1 ≤ 6) (hN : ∀ k, k < n0 → cn k = W (20 * 0 + fr 0 + k)) (hN1 : ∀ k, k < n1 → sn k = W (20 * 0 + fr 1 + k)) (hw : w < 3) :
    (∃ (a b : Int32) (c1 : Nat → Int32), ∃ y1 y2 y3 y4 y5 y6 r pl' nx' kd' kk' wd' nu' nu2' le' wd2', nx ≤ pl' ∧ TOK B E pl' nx' kd' kk' wd' nu' nu2' le' wd2' ∧
      f_X6_takeStep_113 fu (nI E) K tp (nI n0) (nI n1) (nI n2) cn pn sn (nI 8) (nI w) op (nI nx) (nI kd) (nI pl) wd (kI kk) nu fk fp (nI s) (nI p) co ma on ot = some (nI 1, nI (if isBk 8 = true then w + 1 else w), if isBk 8 = true then upd op w (nI p) else op, nI nx', nI kd', nI pl', wd', kI kk', nu', fk, fp, nI (s + 1), nI (p + 1), upd co p (nI 8), upd ma p (-1 : Int32), upd on p a, upd ot p b) ∧
      f_X12_readTest_55 fu (nI E) tq W (nI (1673 + 9 * s)) (nI 0) (nI (1673 + 9 * s + 1)) (nI 0) (nI 0) (nI 0) ba (nI kd) (nI pl) (nI nx) nu2 le wd2 c = some (nI 0, ba, y1, y2, y3, y4, y5, y6, c1) ∧
      f_X12_isSign (nI 59) y1 y4 = some r ∧ f_X12_must fu r (nI E) (nI 0) ba y1 y2 y3 y4 y5 y6 tq = some (nI 0, ba, nI kd', nI pl', nI nx', nu2', le', wd2') ∧
      stD 8 (isBk 8) a b (fun i => c1 (1560 + i)) n0 n1 n2 s ∧ (∀ i, i < 1673 + 9 * s ∨ 1673 + 9 * s + 9 ≤ i → c1 i = c i)) ∨
    (∃ k p', 1 ≤ k ∧ k ≤ 7 ∧ ∃ u1 u2 u3 : Int32, ∃ u4 : Int64, ∃ u5 u6 : Int32, ∃ y1 y2 y3 y4 y5 y6 y7 : Int32, ∃ y8 : Int64, ∃ (c1 : Nat → Int32), ∃ r z1 z2 z3 z4 z5 : Int32, ∃ z6 : Int64,
      f_X6_takeStep_113 fu (nI E) K tp (nI n0) (nI n1) (nI n2) cn pn sn (nI 8) (nI w) op (nI nx) (nI kd) (nI pl) wd (kI kk) nu fk fp (nI s) (nI p) co ma on ot = some (nI 0, nI w, op, u1, u2, u3, u4, u5, u6, nI k, nI p', nI s, nI p, co, ma, on, ot) ∧
      f_X12_readTest_55 fu (nI E) tq W (nI (1673 + 9 * s)) (nI 0) (nI (1673 + 9 * s + 1)) (nI 0) (nI 0) (nI 0) ba (nI kd) (nI pl) (nI nx) nu2 le wd2 c = some (y1, y2, y3, y4, y5, y6, y7, y8, c1) ∧ (∀ i, i < 1673 + 9 * s → c1 i = c i) ∧
      f_X12_isSign (nI 59) y3 y6 = some r ∧ f_X12_must fu r (nI E) y1 y2 y3 y4 y5 y6 y7 y8 tq = some (nI k, nI p', z1, z2, z3, z4, z5, z6)) := by
  have hT := T.1
  unfold f_X6_takeStep_113 f_X6_takeOne f_X12_readTest_55
  simp (disch := omega) only [nI_eq', nI_eq0, if_true, if_false, if_neg, if_pos]
  have hcu : ∀ x : Int32, upd c (1673 + 9 * s + 1) x (390 * 0 + 1) = nI n1 := fun x => by rw [updN (by omega)]; exact hc1
  rcases r_old (fu := fu) (ba := ba) (fk := fk) (fp := fp) (wds := W) (b := 0) (s := 0) (n := n0) (n1 := 8) (row := cn) h hK T (by omega) (by omega) (by rw [if_pos rfl]; omega) h8 (by omega) hc0 hN hfu with ⟨j, pl2, nx2, kd2, kk2, wd2', nu2', nu22, le2, wd22, b1, b2, b3, b3', T2, b5, b6, b7, b8⟩ | ⟨k, b1, b2, b3, b4, b5⟩
  · have t2 := T2.1
    rw [b5, b8, bd_s, bd_s, bd_s]
    simp only
    rw [if_neg (show ¬ nI j = (-1 : Int32) by rw [nI_ne_m1 (by omega)]; exact id), gi_n (by omega) (by omega), nI_cl (by omega)]
    unfold f_X6_takeOther
    simp (disch := omega) only [nI_eq', nI_eq0, if_true, if_false, if_neg, if_pos]
    rcases r_old (fu := fu) (ba := ba) (fk := fk) (fp := fp) (wds := W) (c := upd c (1673 + 9 * s + 1) (nI j)) (b := 0) (s := 1) (n := n1) (n1 := 6) (row := sn) h hK T2 (by omega) (by omega) (by rw [if_neg (by omega)]; omega) h6 (by omega) (hcu _) hN1 hfu with ⟨j2, pl3, nx3, kd3, kk3, wd3', nu3', nu33, le3, wd33, d1, d2, d3, d3', T3, d5, d6, d7, d8⟩ | ⟨k, d1, d2, d3, d4, d5⟩
    · have t3 := T3.1
      rw [d5, d8, bd_s, bd_s, bd_s]
      simp only
      rw [nI_add, gi_n (by omega) (by omega), nI_cl (by omega)]
      rcases c_139 (fu := fu) (ba := ba) (fk := fk) (fp := fp) (n0 := n0) (n1 := n1) (n2 := n2) (cn := cn) (sn := sn) (pn := pn) (w := w) (s := s) (p := p) (key := 8) (op := op) (co := co) (ma := ma) (on := on) (ot := ot) (a := nI j) (b := nI j2) h hK T3 (by omega) hp (fun _ => hw) (by rw [nI_ne_m1 (by omega)]; exact id) hfu with ⟨pl4, nx4, kd4, kk4, wd4, nu4, nu24, le4, wd24, e1, T4, e3, e4, e5⟩ | ⟨k, k1, k2, e3, e4, e5⟩
      · rw [e3]
        refine Or.inl ⟨nI j, nI j2, upd (upd c (1673 + 9 * s + 1) (nI j)) (1673 + 9 * s + 2) (nI j2), _, _, _, _, _, _, _, pl4, nx4, kd4, kk4, wd4, nu4, nu24, le4, wd24, by omega, T4, rfl, rfl, e4, e5, ?_, fun i hi => by rw [updN (by omega), updN (by omega)]⟩
        intro R q h0 h2 h3
        have e0 : upd (upd c (1673 + 9 * s + 1) (nI j)) (1673 + 9 * s + 2) (nI j2) (1560 + (113 + 9 * s)) = nI 6 := by rw [updN (by omega), updN (by omega), show 1560 + (113 + 9 * s) = 1673 + 9 * s by omega]; exact hc
        have e1 : upd (upd c (1673 + 9 * s + 1) (nI j)) (1673 + 9 * s + 2) (nI j2) (1560 + (113 + 9 * s + 1)) = nI j := by rw [updN (by omega), show 1560 + (113 + 9 * s + 1) = 1673 + 9 * s + 1 by omega]; exact updS
        have e2 : upd (upd c (1673 + 9 * s + 1) (nI j)) (1673 + 9 * s + 2) (nI j2) (1560 + (113 + 9 * s + 2)) = nI j2 := by rw [show 1560 + (113 + 9 * s + 2) = 1673 + 9 * s + 2 by omega]; exact updS
        have e6 : upd (upd c (1673 + 9 * s + 1) (nI j)) (1673 + 9 * s + 2) (nI j2) (1560 + (113 + 9 * s + 6)) = nI 0 := by rw [updN (by omega), updN (by omega), show 1560 + (113 + 9 * s + 6) = 1673 + 9 * s + 6 by omega]; exact hc6
        rw [if_pos (show isBk 8 = true by decide)]
        exact Or.inl ⟨e0, 0, j, j2, e6, e1, h2, Or.inl ⟨rfl, h0, b1, d1, e2, h3⟩⟩
      · rw [e3]
        exact Or.inr ⟨k, pl3, k1, k2, _, _, _, _, _, _, _, _, _, _, _, _, _, _, _, _, _, _, _, _, _, _, rfl, rfl, fun i hi => by rw [updN (by omega), updN (by omega)], e4, e5⟩
    · obtain ⟨r2, hr2⟩ := is_some (nI kd2) nu22
      rw [d3, d5, bd_s, bd_s, bd_s]
      simp only
      rw [c_139_bad, nI_add, gi_n (by omega) (by omega), nI_cl (by omega)]
      exact Or.inr ⟨k, pl2, d1, d2, _, _, _, _, _, _, _, _, _, _, _, _, _, _, _, r2, _, _, _, _, _, _, rfl, rfl, fun i hi => by rw [updN (by omega), updN (by omega)], hr2, b_must d1 d2⟩
  · obtain ⟨r2, hr2⟩ := is_some (nI kd) nu2
    rw [b3, b5, bd_s, bd_s, bd_s]
    simp only
    rw [if_pos trivial, c_139_bad, gi_n (by omega) (by omega), nI_cl (by omega), b_readTold b1 b2, bd_s]
    simp only
    rw [nI_add, gi_n (by omega) (by omega), nI_cl (by omega)]
    exact Or.inr ⟨k, pl, b1, b2, _, _, _, _, _, _, _, _, _, _, _, _, _, _, _, r2, _, _, _, _, _, _, rfl, rfl, fun i hi => by rw [updN (by omega), updN (by omega)], hr2, b_must b1 b2⟩
theorem r_whenS (h : TX B E tp tq) (hK : ∀ k, k < 24 → K k = lN (KEY k)) (T : TOK B E pl nx kd kk wd nu nu2 le wd2) (hs : s < 30) (hp : p < 60) (hfu : 2000 < fu) (hc : c (1673 + 9 * s) = nI 6) (hc0 : c (390 * 0 + 0) = nI n0) (hc1 : c (390 * 0 + 1) = nI n1) (hc2 : c (390 * 0 + 2) = nI n2) (h8 : n0 ≤ 8) (h61 : n1 ≤ 6) (h62 : n2 ≤ 6) (hN : NM 0 cn sn pn W n0 n1 n2) (hw : w < 3) :
    (∃ (cd : Nat) (a b : Int32) (c1 : Nat → Int32), ∃ y1 y2 y3 y4 y5 y6 r pl' nx' kd' kk' wd' nu' nu2' le' wd2', nx ≤ pl' ∧ TOK B E pl' nx' kd' kk' wd' nu' nu2' le' wd2' ∧
      bd_ (f_X5_isTest (kI kk)) (fun (r9 : Int32) => (if r9 = 0 then bd_ (f_X8_fail (nI 2) (nI kd) (nI pl) fk fp) (fun (z : Int32 × Int32 × Int32) => match z with | (r19, u20, u21) => gd_ (r19 = 0 ∨ r19 = 1) (some (r19, nI w, op, nI nx, nI kd, nI pl, wd, kI kk, nu, u20, u21, nI s, nI p, co, ma, on, ot))) else bd_ (f_X8_forward fu (nI E) (nI nx) (nI kd) (nI pl) wd (kI kk) nu K tp) (fun (z : Int32 × Int32 × Int32 × Int64 × Int32 × Int32) => match z with | (u12, u13, u14, u15, u16, u17) => f_X6_takeStep_113 fu (nI E) K tp (nI n0) (nI n1) (nI n2) cn pn sn (kI kk) (nI w) op u12 u13 u14 u15 u16 u17 fk fp (nI s) (nI p) co ma on ot))) = some (nI 1, nI (if isBk cd = true then w + 1 else w), if isBk cd = true then upd op w (nI p) else op, nI nx', nI kd', nI pl', wd', kI kk', nu', fk, fp, nI (s + 1), nI (p + 1), upd co p (nI cd), upd ma p (-1 : Int32), upd on p a, upd ot p b) ∧
      f_X12_readRest fu (nI (1673 + 9 * s)) (nI E) (nI 0) ba (nI kd) (nI pl) (nI nx) nu2 le wd2 c tq W = some (nI 0, ba, y1, y2, y3, y4, y5, y6, c1) ∧
      f_X12_isSign (nI 59) y1 y4 = some r ∧ f_X12_must fu r (nI E) (nI 0) ba y1 y2 y3 y4 y5 y6 tq = some (nI 0, ba, nI kd', nI pl', nI nx', nu2', le', wd2') ∧ cd < 24 ∧ isBk cd = true ∧
      stD cd (isBk cd) a b (fun i => c1 (1560 + i)) n0 n1 n2 s ∧ (∀ i, i < 1673 + 9 * s ∨ 1673 + 9 * s + 9 ≤ i → c1 i = c i)) ∨
    (∃ k p', 1 ≤ k ∧ k ≤ 7 ∧ ∃ u1 u2 u3 : Int32, ∃ u4 : Int64, ∃ u5 u6 : Int32, ∃ y1 y2 y3 y4 y5 y6 y7 : Int32, ∃ y8 : Int64, ∃ (c1 : Nat → Int32), ∃ r z1 z2 z3 z4 z5 : Int32, ∃ z6 : Int64,
      bd_ (f_X5_isTest (kI kk)) (fun (r9 : Int32) => (if r9 = 0 then bd_ (f_X8_fail (nI 2) (nI kd) (nI pl) fk fp) (fun (z : Int32 × Int32 × Int32) => match z with | (r19, u20, u21) => gd_ (r19 = 0 ∨ r19 = 1) (some (r19, nI w, op, nI nx, nI kd, nI pl, wd, kI kk, nu, u20, u21, nI s, nI p, co, ma, on, ot))) else bd_ (f_X8_forward fu (nI E) (nI nx) (nI kd) (nI pl) wd (kI kk) nu K tp) (fun (z : Int32 × Int32 × Int32 × Int64 × Int32 × Int32) => match z with | (u12, u13, u14, u15, u16, u17) => f_X6_takeStep_113 fu (nI E) K tp (nI n0) (nI n1) (nI n2) cn pn sn (kI kk) (nI w) op u12 u13 u14 u15 u16 u17 fk fp (nI s) (nI p) co ma on ot))) = some (nI 0, nI w, op, u1, u2, u3, u4, u5, u6, nI k, nI p', nI s, nI p, co, ma, on, ot) ∧
      f_X12_readRest fu (nI (1673 + 9 * s)) (nI E) (nI 0) ba (nI kd) (nI pl) (nI nx) nu2 le wd2 c tq W = some (y1, y2, y3, y4, y5, y6, y7, y8, c1) ∧ (∀ i, i < 1673 + 9 * s → c1 i = c i) ∧
      f_X12_isSign (nI 59) y3 y6 = some r ∧ f_X12_must fu r (nI E) y1 y2 y3 y4 y5 y6 y7 y8 tq = some (nI k, nI p', z1, z2, z3, z4, z5, z6)) := by
  have hT := T.1
  have l0 : ∀ {α β : Type} (x : β) (k : β → Option α), lt_ x k = k x := fun _ _ => rfl
  rw [c_isTest (by omega), bd_s]
  unfold f_X12_readRest
  rw [gi_n (by omega) (by omega), nI_cl (by omega), hc, l0]
  simp (disch := omega) only [nI_eq', nI_eq0, if_true, if_false, if_neg, if_pos]
  unfold f_X12_readTest
  rw [m_testWord T, bd_s]
  by_cases e8 : kk = 8
  · rw [decide_eq_true (show kk = 8 ∨ kk = 19 ∨ kk = 20 by omega), if_neg (show ¬ bI true = 0 by decide)]
    obtain ⟨pl1, nx1, kd1, kk1, wd1, nu1, nu21, le1, wd21, a1, T1, a3, a4⟩ := tk_next (fu := fu) h hK (a := nx) (by omega) hfu (nI kd) (nI pl) wd (kI kk) nu (nI kd) (nI pl) nu2 le wd2
    have t1 := T1.1
    rw [a3, bd_s, show sTs kk = nI 0 by rw [e8]; rfl, if_neg (show ¬ nI 0 < 0 by decide), show kI kk = nI 8 by rw [e8]; rfl]
    simp only
    unfold f_X12_readTest_15
    have hmu : f_X12_must fu (nI 1) (nI E) (nI 0) ba (nI kd) (nI pl) (nI nx) nu2 le wd2 tq = some (nI 0, ba, nI kd1, nI pl1, nI nx1, nu21, le1, wd21) := by
      unfold f_X12_must
      rw [if_pos (show nI 0 ≤ 0 by decide), if_neg (show ¬ nI 1 = 0 by decide), a4, bd_s]
    rw [hmu, bd_s]
    simp only
    rw [nI_add, gi_n (by omega) (by omega), nI_cl (by omega), if_pos (show nI 0 = 0 from rfl), nI_add]
    have g := test_8 (fu := fu) (ba := ba) (fk := fk) (fp := fp) (n0 := n0) (n1 := n1) (n2 := n2) (cn := cn) (sn := sn) (pn := pn) (W := W) (w := w) (s := s) (p := p) (op := op) (co := co) (ma := ma) (on := on) (ot := ot) (c := upd c (1673 + 9 * s + 6) (nI 0)) h hK T1 hs hp hfu (by rw [updN (by omega)]; exact hc) updS (by rw [updN (by omega)]; exact hc0) (by rw [updN (by omega)]; exact hc1) h8 h61 hN.1 hN.2.1 hw
    rcases g with ⟨a, b, c1, y1, y2, y3, y4, y5, y6, r, pl', nx', kd', kk', wd', nu', nu2', le', wd2', g1, g2, g3, g4, g5, g6, g7, g8⟩ | ⟨k, p', g1, g2, u1, u2, u3, u4, u5, u6, y1, y2, y3, y4, y5, y6, y7, y8, c1, r, z1, z2, z3, z4, z5, z6, g3, g4, g5, g6, g7⟩
    · rw [g4, bd_s]
      exact Or.inl ⟨8, a, b, c1, y1, y2, y3, y4, y5, y6, r, pl', nx', kd', kk', wd', nu', nu2', le', wd2', by omega, g2, g3, rfl, g5, g6, by omega, by decide, g7, fun i hi => by rw [g8 i hi, updN (by omega)]⟩
    · rw [g4, bd_s]
      exact Or.inr ⟨k, p', g1, g2, u1, u2, u3, u4, u5, u6, y1, y2, y3, y4, y5, y6, y7, y8, c1, r, z1, z2, z3, z4, z5, z6, g3, rfl, fun i hi => by rw [g5 i hi, updN (by omega)], g6, g7⟩
  by_cases e19 : kk = 19
  · rw [decide_eq_true (show kk = 8 ∨ kk = 19 ∨ kk = 20 by omega), if_neg (show ¬ bI true = 0 by decide)]
    obtain ⟨pl1, nx1, kd1, kk1, wd1, nu1, nu21, le1, wd21, a1, T1, a3, a4⟩ := tk_next (fu := fu) h hK (a := nx) (by omega) hfu (nI kd) (nI pl) wd (kI kk) nu (nI kd) (nI pl) nu2 le wd2
    have t1 := T1.1
    rw [a3, bd_s, show sTs kk = nI 1 by rw [e19]; rfl, if_neg (show ¬ nI 1 < 0 by decide), show kI kk = nI 19 by rw [e19]; rfl]
    simp only
    unfold f_X12_readTest_15
    have hmu : f_X12_must fu (nI 1) (nI E) (nI 0) ba (nI kd) (nI pl) (nI nx) nu2 le wd2 tq = some (nI 0, ba, nI kd1, nI pl1, nI nx1, nu21, le1, wd21) := by
      unfold f_X12_must
      rw [if_pos (show nI 0 ≤ 0 by decide), if_neg (show ¬ nI 1 = 0 by decide), a4, bd_s]
    rw [hmu, bd_s]
    simp only
    rw [nI_add, gi_n (by omega) (by omega), nI_cl (by omega), if_neg (show ¬ nI 1 = 0 by decide), if_pos trivial, nI_add]
    have g := test_19 (fu := fu) (ba := ba) (fk := fk) (fp := fp) (n0 := n0) (n1 := n1) (n2 := n2) (cn := cn) (sn := sn) (pn := pn) (W := W) (w := w) (s := s) (p := p) (op := op) (co := co) (ma := ma) (on := on) (ot := ot) (c := upd c (1673 + 9 * s + 6) (nI 1)) h hK T1 hs hp hfu (by rw [updN (by omega)]; exact hc) updS (by rw [updN (by omega)]; exact hc2) h62 hN.2.2 hw
    rcases g with ⟨a, b, c1, y1, y2, y3, y4, y5, y6, r, pl', nx', kd', kk', wd', nu', nu2', le', wd2', g1, g2, g3, g4, g5, g6, g7, g8⟩ | ⟨k, p', g1, g2, u1, u2, u3, u4, u5, u6, y1, y2, y3, y4, y5, y6, y7, y8, c1, r, z1, z2, z3, z4, z5, z6, g3, g4, g5, g6, g7⟩
    · rw [g4, bd_s]
      exact Or.inl ⟨19, a, b, c1, y1, y2, y3, y4, y5, y6, r, pl', nx', kd', kk', wd', nu', nu2', le', wd2', by omega, g2, g3, rfl, g5, g6, by omega, by decide, g7, fun i hi => by rw [g8 i hi, updN (by omega)]⟩
    · rw [g4, bd_s]
      exact Or.inr ⟨k, p', g1, g2, u1, u2, u3, u4, u5, u6, y1, y2, y3, y4, y5, y6, y7, y8, c1, r, z1, z2, z3, z4, z5, z6, g3, rfl, fun i hi => by rw [g5 i hi, updN (by omega)], g6, g7⟩
  by_cases e20 : kk = 20
  · rw [decide_eq_true (show kk = 8 ∨ kk = 19 ∨ kk = 20 by omega), if_neg (show ¬ bI true = 0 by decide)]
    obtain ⟨pl1, nx1, kd1, kk1, wd1, nu1, nu21, le1, wd21, a1, T1, a3, a4⟩ := tk_next (fu := fu) h hK (a := nx) (by omega) hfu (nI kd) (nI pl) wd (kI kk) nu (nI kd) (nI pl) nu2 le wd2
    have t1 := T1.1
    rw [a3, bd_s, show sTs kk = nI 2 by rw [e20]; rfl, if_neg (show ¬ nI 2 < 0 by decide), show kI kk = nI 20 by rw [e20]; rfl]
    simp only
    unfold f_X12_readTest_15
    have hmu : f_X12_must fu (nI 1) (nI E) (nI 0) ba (nI kd) (nI pl) (nI nx) nu2 le wd2 tq = some (nI 0, ba, nI kd1, nI pl1, nI nx1, nu21, le1, wd21) := by
      unfold f_X12_must
      rw [if_pos (show nI 0 ≤ 0 by decide), if_neg (show ¬ nI 1 = 0 by decide), a4, bd_s]
    rw [hmu, bd_s]
    simp only
    rw [nI_add, gi_n (by omega) (by omega), nI_cl (by omega), if_neg (show ¬ nI 2 = 0 by decide), if_neg (show ¬ nI 2 = nI 1 by decide), nI_add]
    have g := test_20 (fu := fu) (ba := ba) (fk := fk) (fp := fp) (n0 := n0) (n1 := n1) (n2 := n2) (cn := cn) (sn := sn) (pn := pn) (W := W) (w := w) (s := s) (p := p) (op := op) (co := co) (ma := ma) (on := on) (ot := ot) (c := upd c (1673 + 9 * s + 6) (nI 2)) h hK T1 hs hp hfu (by rw [updN (by omega)]; exact hc) updS (by rw [updN (by omega)]; exact hc1) h61 hN.2.1 hw
    rcases g with ⟨a, b, c1, y1, y2, y3, y4, y5, y6, r, pl', nx', kd', kk', wd', nu', nu2', le', wd2', g1, g2, g3, g4, g5, g6, g7, g8⟩ | ⟨k, p', g1, g2, u1, u2, u3, u4, u5, u6, y1, y2, y3, y4, y5, y6, y7, y8, c1, r, z1, z2, z3, z4, z5, z6, g3, g4, g5, g6, g7⟩
    · rw [g4, bd_s]
      exact Or.inl ⟨20, a, b, c1, y1, y2, y3, y4, y5, y6, r, pl', nx', kd', kk', wd', nu', nu2', le', wd2', by omega, g2, g3, rfl, g5, g6, by omega, by decide, g7, fun i hi => by rw [g8 i hi, updN (by omega)]⟩
    · rw [g4, bd_s]
      exact Or.inr ⟨k, p', g1, g2, u1, u2, u3, u4, u5, u6, y1, y2, y3, y4, y5, y6, y7, y8, c1, r, z1, z2, z3, z4, z5, z6, g3, rfl, fun i hi => by rw [g5 i hi, updN (by omega)], g6, g7⟩
  have hb := fK_b (kd := kd) (x := 2) (by omega) (by omega)
  obtain ⟨r2, hr2⟩ := is_some (nI kd) nu2
  have ets : sTs kk = (-1 : Int32) := by
    unfold sTs
    rw [if_neg e8, if_neg e19, if_neg e20]
  rw [decide_eq_false (show ¬ (kk = 8 ∨ kk = 19 ∨ kk = 20) by omega), if_pos (show bI false = 0 from rfl), c_fail (by omega), fK_nI, bd_s, ets, if_pos (show (-1 : Int32) < 0 by decide)]
  unfold f_X12_readTest_15
  have hmu : f_X12_must fu (nI 0) (nI E) (nI 0) ba (nI kd) (nI pl) (nI nx) nu2 le wd2 tq = some (nI (fK kd 2), nI pl, nI kd, nI pl, nI nx, nu2, le, wd2) := by
    unfold f_X12_must
    rw [if_pos (show nI 0 ≤ 0 by decide), if_pos (show nI 0 = 0 from rfl), m_amiss (by omega), bd_s, fK_nI]
  rw [hmu, bd_s]
  simp only
  rw [nI_add, gi_n (by omega) (by omega), nI_cl (by omega), if_neg (show ¬ (-1 : Int32) = 0 by decide), if_neg (show ¬ (-1 : Int32) = nI 1 by decide), nI_add]
  unfold f_X12_readTest_55
  rw [b_readTold hb.1 hb.2, bd_s]
  simp only
  rw [gi_n (by omega) (by omega), nI_cl (by omega), if_neg (show ¬ (-1 : Int32) = 0 by decide), gd_0, bd_s]
  exact Or.inr ⟨fK kd 2, pl, hb.1, hb.2, _, _, _, _, _, _, _, _, _, _, _, _, _, _, _, r2, _, _, _, _, _, _, rfl, rfl, fun i hi => (show upd (upd c (1673 + 9 * s + 6) (-1 : Int32)) (1673 + 9 * s + 1) (nI 0) i = c i by rw [updN (by omega), updN (by omega)]), hr2, b_must hb.1 hb.2⟩
end RT
