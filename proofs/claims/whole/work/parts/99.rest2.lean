/-! ROUNDS that are told: numbers, names behind a STEP's word -/
section RR
variable {B : Nat → Nat} {E fu : Nat} {tp tq : Nat → Int32} {K : Nat → Int64} {pl nx kd kk : Nat} {wd wd2 : Int64} {nu nu2 le fk fp ba : Int32} {c : Nat → Int32} {W cn sn pn : Nat → Int64} {n0 n1 n2 w s p key : Nat} {op co ma on ot : Nat → Int32}
theorem updN {g : Nat → Int32} {i j : Nat} {v : Int32} (h : i ≠ j) : upd g j v i = g i := if_neg h
theorem updS {g : Nat → Int32} {j : Nat} {v : Int32} : upd g j v j = v := if_pos rfl
theorem rest_12 (h : TX B E tp tq) (hK : ∀ k, k < 24 → K k = lN (KEY k)) (T : TOK B E pl nx kd kk wd nu nu2 le wd2) (hs : s < 30) (hp : p < 60) (hfu : 2000 < fu) (hc : c (1673 + 9 * s) = nI 0) :
    (∃ (a b : Int32) (c1 : Nat → Int32), ∃ y1 y2 y3 y4 y5 y6 r pl' nx' kd' kk' wd' nu' nu2' le' wd2', nx ≤ pl' ∧ TOK B E pl' nx' kd' kk' wd' nu' nu2' le' wd2' ∧
      f_X6_takeStep_113 fu (nI E) K tp (nI n0) (nI n1) (nI n2) cn pn sn (nI 12) (nI w) op (nI nx) (nI kd) (nI pl) wd (kI kk) nu fk fp (nI s) (nI p) co ma on ot = some (nI 1, nI (if isBk 12 = true then w + 1 else w), if isBk 12 = true then upd op w (nI p) else op, nI nx', nI kd', nI pl', wd', kI kk', nu', fk, fp, nI (s + 1), nI (p + 1), upd co p (nI 12), upd ma p (-1 : Int32), upd on p a, upd ot p b) ∧
      f_X12_readRest fu (nI (1673 + 9 * s)) (nI E) (nI 0) ba (nI kd) (nI pl) (nI nx) nu2 le wd2 c tq W = some (nI 0, ba, y1, y2, y3, y4, y5, y6, c1) ∧
      f_X12_isSign (nI 59) y1 y4 = some r ∧ f_X12_must fu r (nI E) (nI 0) ba y1 y2 y3 y4 y5 y6 tq = some (nI 0, ba, nI kd', nI pl', nI nx', nu2', le', wd2') ∧
      stD 12 (isBk 12) a b (fun i => c1 (1560 + i)) n0 n1 n2 s ∧ (∀ i, i < 1673 + 9 * s ∨ 1673 + 9 * s + 9 ≤ i → c1 i = c i)) ∨
    (∃ k p', 1 ≤ k ∧ k ≤ 7 ∧ ∃ u1 u2 u3 : Int32, ∃ u4 : Int64, ∃ u5 u6 : Int32, ∃ y1 y2 y3 y4 y5 y6 y7 : Int32, ∃ y8 : Int64, ∃ (c1 : Nat → Int32), ∃ r z1 z2 z3 z4 z5 : Int32, ∃ z6 : Int64,
      f_X6_takeStep_113 fu (nI E) K tp (nI n0) (nI n1) (nI n2) cn pn sn (nI 12) (nI w) op (nI nx) (nI kd) (nI pl) wd (kI kk) nu fk fp (nI s) (nI p) co ma on ot = some (nI 0, nI w, op, u1, u2, u3, u4, u5, u6, nI k, nI p', nI s, nI p, co, ma, on, ot) ∧
      f_X12_readRest fu (nI (1673 + 9 * s)) (nI E) (nI 0) ba (nI kd) (nI pl) (nI nx) nu2 le wd2 c tq W = some (y1, y2, y3, y4, y5, y6, y7, y8, c1) ∧ (∀ i, i < 1673 + 9 * s → c1 i = c i) ∧
      f_X12_isSign (nI 59) y3 y6 = some r ∧ f_X12_must fu r (nI E) y1 y2 y3 y4 y5 y6 y7 y8 tq = some (nI k, nI p', z1, z2, z3, z4, z5, z6)) := by
  have hT := T.1
  unfold f_X6_takeStep_113 f_X6_takeOne f_X12_readRest
  rw [gi_n (by omega) (by omega), nI_cl (by omega), hc]
  have l0 : ∀ {α β : Type} (x : β) (k : β → Option α), lt_ x k = k x := fun _ _ => rfl
  rw [l0]
  simp (disch := omega) only [nI_eq', nI_eq0, if_true, if_false, if_neg, if_pos]
  unfold f_X12_readRest_17
  rcases r_num (fu := fu) (ba := ba) (fk := fk) (fp := fp) (lo := 1) (hi := 99) h hK T (by omega) (by omega) hfu with ⟨v, pl2, nx2, kd2, kk2, wd2', nu2', nu22, le2, wd22, b0, b1, b2, b3, T2, b5, b6⟩ | ⟨k, b1, b2, b3, b4⟩
  · have t2 := T2.1
    rw [b5, b6, bd_s, bd_s, bd_s]
    simp only
    rw [if_neg (show ¬ nI v = (-1 : Int32) by rw [nI_ne_m1 (by omega)]; exact id), nI_add, gi_n (by omega) (by omega), nI_cl (by omega)]
    have ho : f_X6_takeOther fu (nI 12) (nI E) (nI nx2) (nI kd2) (nI pl2) wd2' (kI kk2) nu2' fk fp K tp (nI n0) (nI n1) cn sn = some (nI 0, nI nx2, nI kd2, nI pl2, wd2', kI kk2, nu2', fk, fp) := by
      unfold f_X6_takeOther
      simp (disch := omega) only [nI_eq', nI_eq0, if_true, if_false, if_neg, if_pos]
    rw [ho, bd_s]
    simp only
    rcases c_139 (fu := fu) (ba := ba) (fk := fk) (fp := fp) (n0 := n0) (n1 := n1) (n2 := n2) (cn := cn) (sn := sn) (pn := pn) (w := w) (s := s) (p := p) (key := 12) (op := op) (co := co) (ma := ma) (on := on) (ot := ot) (a := nI v) (b := nI 0) h hK T2 (by omega) hp (fun q => absurd q (by decide)) (by decide) hfu with ⟨pl4, nx4, kd4, kk4, wd4, nu4, nu24, le4, wd24, e1, T4, e3, e4, e5⟩ | ⟨k, k1, k2, e3, e4, e5⟩
    · rw [e3]
      refine Or.inl ⟨nI v, nI 0, upd c (1673 + 9 * s + 1) (nI v), _, _, _, _, _, _, _, pl4, nx4, kd4, kk4, wd4, nu4, nu24, le4, wd24, by omega, T4, rfl, rfl, e4, e5, ?_, fun i hi => updN (by omega)⟩
      · intro R q h0 h2 h3
        have e0 : upd c (1673 + 9 * s + 1) (nI v) (1560 + (113 + 9 * s)) = nI 0 := by rw [updN (by omega), show 1560 + (113 + 9 * s) = 1673 + 9 * s by omega]; exact hc
        have e1 : upd c (1673 + 9 * s + 1) (nI v) (1560 + (113 + 9 * s + 1)) = nI v := by rw [show 1560 + (113 + 9 * s + 1) = 1673 + 9 * s + 1 by omega]; exact updS
        rw [if_neg (show ¬ isBk 12 = true by decide)]
        exact Or.inl (Or.inl ⟨e0, h0, v, b0, b1, e1, h2⟩)
    · rw [e3]
      exact Or.inr ⟨k, pl2, k1, k2, _, _, _, _, _, _, _, _, _, _, _, _, _, _, _, _, _, _, _, _, _, _, rfl, rfl, fun i hi => updN (by omega), e4, e5⟩
  · obtain ⟨r2, hr2⟩ := is_some (nI kd) nu2
    rw [b3, b4, bd_s, bd_s, bd_s]
    simp only
    rw [if_pos trivial, c_139_bad, nI_add, gi_n (by omega) (by omega), nI_cl (by omega)]
    exact Or.inr ⟨k, pl, b1, b2, _, _, _, _, _, _, _, _, _, _, _, _, _, _, _, r2, _, _, _, _, _, _, rfl, rfl, fun i hi => updN (by omega), hr2, b_must b1 b2⟩
theorem rest_21 (h : TX B E tp tq) (hK : ∀ k, k < 24 → K k = lN (KEY k)) (T : TOK B E pl nx kd kk wd nu nu2 le wd2) (hs : s < 30) (hp : p < 60) (hfu : 2000 < fu) (hw : w < 3) (hc : c (1673 + 9 * s) = nI 7) :
    (∃ (a b : Int32) (c1 : Nat → Int32), ∃ y1 y2 y3 y4 y5 y6 r pl' nx' kd' kk' wd' nu' nu2' le' wd2', nx ≤ pl' ∧ TOK B E pl' nx' kd' kk' wd' nu' nu2' le' wd2' ∧
      f_X6_takeStep_113 fu (nI E) K tp (nI n0) (nI n1) (nI n2) cn pn sn (nI 21) (nI w) op (nI nx) (nI kd) (nI pl) wd (kI kk) nu fk fp (nI s) (nI p) co ma on ot = some (nI 1, nI (if isBk 21 = true then w + 1 else w), if isBk 21 = true then upd op w (nI p) else op, nI nx', nI kd', nI pl', wd', kI kk', nu', fk, fp, nI (s + 1), nI (p + 1), upd co p (nI 21), upd ma p (-1 : Int32), upd on p a, upd ot p b) ∧
      f_X12_readRest fu (nI (1673 + 9 * s)) (nI E) (nI 0) ba (nI kd) (nI pl) (nI nx) nu2 le wd2 c tq W = some (nI 0, ba, y1, y2, y3, y4, y5, y6, c1) ∧
      f_X12_isSign (nI 59) y1 y4 = some r ∧ f_X12_must fu r (nI E) (nI 0) ba y1 y2 y3 y4 y5 y6 tq = some (nI 0, ba, nI kd', nI pl', nI nx', nu2', le', wd2') ∧
      stD 21 (isBk 21) a b (fun i => c1 (1560 + i)) n0 n1 n2 s ∧ (∀ i, i < 1673 + 9 * s ∨ 1673 + 9 * s + 9 ≤ i → c1 i = c i)) ∨
    (∃ k p', 1 ≤ k ∧ k ≤ 7 ∧ ∃ u1 u2 u3 : Int32, ∃ u4 : Int64, ∃ u5 u6 : Int32, ∃ y1 y2 y3 y4 y5 y6 y7 : Int32, ∃ y8 : Int64, ∃ (c1 : Nat → Int32), ∃ r z1 z2 z3 z4 z5 : Int32, ∃ z6 : Int64,
      f_X6_takeStep_113 fu (nI E) K tp (nI n0) (nI n1) (nI n2) cn pn sn (nI 21) (nI w) op (nI nx) (nI kd) (nI pl) wd (kI kk) nu fk fp (nI s) (nI p) co ma on ot = some (nI 0, nI w, op, u1, u2, u3, u4, u5, u6, nI k, nI p', nI s, nI p, co, ma, on, ot) ∧
      f_X12_readRest fu (nI (1673 + 9 * s)) (nI E) (nI 0) ba (nI kd) (nI pl) (nI nx) nu2 le wd2 c tq W = some (y1, y2, y3, y4, y5, y6, y7, y8, c1) ∧ (∀ i, i < 1673 + 9 * s → c1 i = c i) ∧
      f_X12_isSign (nI 59) y3 y6 = some r ∧ f_X12_must fu r (nI E) y1 y2 y3 y4 y5 y6 y7 y8 tq = some (nI k, nI p', z1, z2, z3, z4, z5, z6)) := by
  have hT := T.1
  unfold f_X6_takeStep_113 f_X6_takeOne f_X12_readRest
  rw [gi_n (by omega) (by omega), nI_cl (by omega), hc]
  have l0 : ∀ {α β : Type} (x : β) (k : β → Option α), lt_ x k = k x := fun _ _ => rfl
  rw [l0]
  simp (disch := omega) only [nI_eq', nI_eq0, if_true, if_false, if_neg, if_pos]
  unfold f_X12_readRest_17
  rcases r_num (fu := fu) (ba := ba) (fk := fk) (fp := fp) (lo := 1) (hi := 99) h hK T (by omega) (by omega) hfu with ⟨v, pl2, nx2, kd2, kk2, wd2', nu2', nu22, le2, wd22, b0, b1, b2, b3, T2, b5, b6⟩ | ⟨k, b1, b2, b3, b4⟩
  · have t2 := T2.1
    rw [b5, b6, bd_s, bd_s, bd_s]
    simp only
    rw [if_neg (show ¬ nI v = (-1 : Int32) by rw [nI_ne_m1 (by omega)]; exact id), nI_add, gi_n (by omega) (by omega), nI_cl (by omega)]
    have ho : f_X6_takeOther fu (nI 21) (nI E) (nI nx2) (nI kd2) (nI pl2) wd2' (kI kk2) nu2' fk fp K tp (nI n0) (nI n1) cn sn = some (nI 0, nI nx2, nI kd2, nI pl2, wd2', kI kk2, nu2', fk, fp) := by
      unfold f_X6_takeOther
      simp (disch := omega) only [nI_eq', nI_eq0, if_true, if_false, if_neg, if_pos]
    rw [ho, bd_s]
    simp only
    rcases c_139 (fu := fu) (ba := ba) (fk := fk) (fp := fp) (n0 := n0) (n1 := n1) (n2 := n2) (cn := cn) (sn := sn) (pn := pn) (w := w) (s := s) (p := p) (key := 21) (op := op) (co := co) (ma := ma) (on := on) (ot := ot) (a := nI v) (b := nI 0) h hK T2 (by omega) hp (fun _ => hw) (by decide) hfu with ⟨pl4, nx4, kd4, kk4, wd4, nu4, nu24, le4, wd24, e1, T4, e3, e4, e5⟩ | ⟨k, k1, k2, e3, e4, e5⟩
    · rw [e3]
      refine Or.inl ⟨nI v, nI 0, upd c (1673 + 9 * s + 1) (nI v), _, _, _, _, _, _, _, pl4, nx4, kd4, kk4, wd4, nu4, nu24, le4, wd24, by omega, T4, rfl, rfl, e4, e5, ?_, fun i hi => updN (by omega)⟩
      · intro R q h0 h2 h3
        have e0 : upd c (1673 + 9 * s + 1) (nI v) (1560 + (113 + 9 * s)) = nI 7 := by rw [updN (by omega), show 1560 + (113 + 9 * s) = 1673 + 9 * s by omega]; exact hc
        have e1 : upd c (1673 + 9 * s + 1) (nI v) (1560 + (113 + 9 * s + 1)) = nI v := by rw [show 1560 + (113 + 9 * s + 1) = 1673 + 9 * s + 1 by omega]; exact updS
        rw [if_pos (show isBk 21 = true by decide)]
        exact Or.inr ⟨e0, h0, v, b0, b1, e1, h2⟩
    · rw [e3]
      exact Or.inr ⟨k, pl2, k1, k2, _, _, _, _, _, _, _, _, _, _, _, _, _, _, _, _, _, _, _, _, _, _, rfl, rfl, fun i hi => updN (by omega), e4, e5⟩
  · obtain ⟨r2, hr2⟩ := is_some (nI kd) nu2
    rw [b3, b4, bd_s, bd_s, bd_s]
    simp only
    rw [if_pos trivial, c_139_bad, nI_add, gi_n (by omega) (by omega), nI_cl (by omega)]
    exact Or.inr ⟨k, pl, b1, b2, _, _, _, _, _, _, _, _, _, _, _, _, _, _, _, r2, _, _, _, _, _, _, rfl, rfl, fun i hi => updN (by omega), hr2, b_must b1 b2⟩
theorem rest_13 (h : TX B E tp tq) (hK : ∀ k, k < 24 → K k = lN (KEY k)) (T : TOK B E pl nx kd kk wd nu nu2 le wd2) (hs : s < 30) (hp : p < 60) (hfu : 2000 < fu) (hc : c (1673 + 9 * s) = nI 1) (hc0 : c (390 * 0 + 0) = nI n0) (h8 : n0 ≤ 8) (hN : ∀ k, k < n0 → cn k = W (20 * 0 + fr 0 + k)) :
    (∃ (a b : Int32) (c1 : Nat → Int32), ∃ y1 y2 y3 y4 y5 y6 r pl' nx' kd' kk' wd' nu' nu2' le' wd2', nx ≤ pl' ∧ TOK B E pl' nx' kd' kk' wd' nu' nu2' le' wd2' ∧
      f_X6_takeStep_113 fu (nI E) K tp (nI n0) (nI n1) (nI n2) cn pn sn (nI 13) (nI w) op (nI nx) (nI kd) (nI pl) wd (kI kk) nu fk fp (nI s) (nI p) co ma on ot = some (nI 1, nI (if isBk 13 = true then w + 1 else w), if isBk 13 = true then upd op w (nI p) else op, nI nx', nI kd', nI pl', wd', kI kk', nu', fk, fp, nI (s + 1), nI (p + 1), upd co p (nI 13), upd ma p (-1 : Int32), upd on p a, upd ot p b) ∧
      f_X12_readRest fu (nI (1673 + 9 * s)) (nI E) (nI 0) ba (nI kd) (nI pl) (nI nx) nu2 le wd2 c tq W = some (nI 0, ba, y1, y2, y3, y4, y5, y6, c1) ∧
      f_X12_isSign (nI 59) y1 y4 = some r ∧ f_X12_must fu r (nI E) (nI 0) ba y1 y2 y3 y4 y5 y6 tq = some (nI 0, ba, nI kd', nI pl', nI nx', nu2', le', wd2') ∧
      stD 13 (isBk 13) a b (fun i => c1 (1560 + i)) n0 n1 n2 s ∧ (∀ i, i < 1673 + 9 * s ∨ 1673 + 9 * s + 9 ≤ i → c1 i = c i)) ∨
    (∃ k p', 1 ≤ k ∧ k ≤ 7 ∧ ∃ u1 u2 u3 : Int32, ∃ u4 : Int64, ∃ u5 u6 : Int32, ∃ y1 y2 y3 y4 y5 y6 y7 : Int32, ∃ y8 : Int64, ∃ (c1 : Nat → Int32), ∃ r z1 z2 z3 z4 z5 : Int32, ∃ z6 : Int64,
      f_X6_takeStep_113 fu (nI E) K tp (nI n0) (nI n1) (nI n2) cn pn sn (nI 13) (nI w) op (nI nx) (nI kd) (nI pl) wd (kI kk) nu fk fp (nI s) (nI p) co ma on ot = some (nI 0, nI w, op, u1, u2, u3, u4, u5, u6, nI k, nI p', nI s, nI p, co, ma, on, ot) ∧
      f_X12_readRest fu (nI (1673 + 9 * s)) (nI E) (nI 0) ba (nI kd) (nI pl) (nI nx) nu2 le wd2 c tq W = some (y1, y2, y3, y4, y5, y6, y7, y8, c1) ∧ (∀ i, i < 1673 + 9 * s → c1 i = c i) ∧
      f_X12_isSign (nI 59) y3 y6 = some r ∧ f_X12_must fu r (nI E) y1 y2 y3 y4 y5 y6 y7 y8 tq = some (nI k, nI p', z1, z2, z3, z4, z5, z6)) := by
  have hT := T.1
  unfold f_X6_takeStep_113 f_X6_takeOne f_X12_readRest
  rw [gi_n (by omega) (by omega), nI_cl (by omega), hc]
  have l0 : ∀ {α β : Type} (x : β) (k : β → Option α), lt_ x k = k x := fun _ _ => rfl
  rw [l0]
  simp (disch := omega) only [nI_eq', nI_eq0, if_true, if_false, if_neg, if_pos]
  unfold f_X12_readRest_59
  rcases r_old (fu := fu) (ba := ba) (fk := fk) (fp := fp) (wds := W) (b := 0) (s := 0) (n := n0) (n1 := 8) (row := cn) h hK T (by omega) (by omega) (by first | (rw [if_pos rfl]; omega) | (rw [if_neg (by omega)]; omega)) h8 (by omega) hc0 hN hfu with ⟨j, pl2, nx2, kd2, kk2, wd2', nu2', nu22, le2, wd22, b1, b2, b3, b3', T2, b5, b6, b7, b8⟩ | ⟨k, b1, b2, b3, b4, b5⟩
  · have t2 := T2.1
    rw [b5, b8, bd_s, bd_s, bd_s]
    simp only
    rw [if_neg (show ¬ nI j = (-1 : Int32) by rw [nI_ne_m1 (by omega)]; exact id), nI_add, gi_n (by omega) (by omega), nI_cl (by omega)]
    have ho : f_X6_takeOther fu (nI 13) (nI E) (nI nx2) (nI kd2) (nI pl2) wd2' (kI kk2) nu2' fk fp K tp (nI n0) (nI n1) cn sn = some (nI 0, nI nx2, nI kd2, nI pl2, wd2', kI kk2, nu2', fk, fp) := by
      unfold f_X6_takeOther
      simp (disch := omega) only [nI_eq', nI_eq0, if_true, if_false, if_neg, if_pos]
    rw [ho, bd_s]
    simp only
    rcases c_139 (fu := fu) (ba := ba) (fk := fk) (fp := fp) (n0 := n0) (n1 := n1) (n2 := n2) (cn := cn) (sn := sn) (pn := pn) (w := w) (s := s) (p := p) (key := 13) (op := op) (co := co) (ma := ma) (on := on) (ot := ot) (a := nI j) (b := nI 0) h hK T2 (by omega) hp (fun q => absurd q (by decide)) (by decide) hfu with ⟨pl4, nx4, kd4, kk4, wd4, nu4, nu24, le4, wd24, e1, T4, e3, e4, e5⟩ | ⟨k, k1, k2, e3, e4, e5⟩
    · rw [e3]
      rw [if_neg (show ¬ nI 1 = nI 2 by decide)]
      refine Or.inl ⟨nI j, nI 0, upd c (1673 + 9 * s + 1) (nI j), _, _, _, _, _, _, _, pl4, nx4, kd4, kk4, wd4, nu4, nu24, le4, wd24, by omega, T4, rfl, rfl, e4, e5, ?_, fun i hi => updN (by omega)⟩
      intro R q h0 h2 h3
      have e0 : upd c (1673 + 9 * s + 1) (nI j) (1560 + (113 + 9 * s)) = nI 1 := by rw [updN (by omega), show 1560 + (113 + 9 * s) = 1673 + 9 * s by omega]; exact hc
      have e1 : upd c (1673 + 9 * s + 1) (nI j) (1560 + (113 + 9 * s + 1)) = nI j := by rw [show 1560 + (113 + 9 * s + 1) = 1673 + 9 * s + 1 by omega]; exact updS
      rw [if_neg (show ¬ isBk 13 = true by decide)]
      exact Or.inl (Or.inr (Or.inl ⟨e0, h0, j, b1, e1, h2⟩))
    · rw [e3]
      rw [if_neg (show ¬ nI 1 = nI 2 by decide)]
      exact Or.inr ⟨k, pl2, k1, k2, _, _, _, _, _, _, _, _, _, _, _, _, _, _, _, _, _, _, _, _, _, _, rfl, rfl, fun i hi => updN (by omega), e4, e5⟩
  · obtain ⟨r2, hr2⟩ := is_some (nI kd) nu2
    rw [b3, b5, bd_s, bd_s, bd_s]
    simp only
    rw [if_pos trivial, c_139_bad, nI_add, gi_n (by omega) (by omega), nI_cl (by omega)]
    rw [if_neg (show ¬ nI 1 = nI 2 by decide)]
    exact Or.inr ⟨k, pl, b1, b2, _, _, _, _, _, _, _, _, _, _, _, _, _, _, _, r2, _, _, _, _, _, _, rfl, rfl, fun i hi => updN (by omega), hr2, b_must b1 b2⟩
theorem rest_15 (h : TX B E tp tq) (hK : ∀ k, k < 24 → K k = lN (KEY k)) (T : TOK B E pl nx kd kk wd nu nu2 le wd2) (hs : s < 30) (hp : p < 60) (hfu : 2000 < fu) (hc : c (1673 + 9 * s) = nI 3) (hc0 : c (390 * 0 + 2) = nI n2) (h8 : n2 ≤ 6) (hN : ∀ k, k < n2 → pn k = W (20 * 0 + fr 2 + k)) :
    (∃ (a b : Int32) (c1 : Nat → Int32), ∃ y1 y2 y3 y4 y5 y6 r pl' nx' kd' kk' wd' nu' nu2' le' wd2', nx ≤ pl' ∧ TOK B E pl' nx' kd' kk' wd' nu' nu2' le' wd2' ∧
      f_X6_takeStep_113 fu (nI E) K tp (nI n0) (nI n1) (nI n2) cn pn sn (nI 15) (nI w) op (nI nx) (nI kd) (nI pl) wd (kI kk) nu fk fp (nI s) (nI p) co ma on ot = some (nI 1, nI (if isBk 15 = true then w + 1 else w), if isBk 15 = true then upd op w (nI p) else op, nI nx', nI kd', nI pl', wd', kI kk', nu', fk, fp, nI (s + 1), nI (p + 1), upd co p (nI 15), upd ma p (-1 : Int32), upd on p a, upd ot p b) ∧
      f_X12_readRest fu (nI (1673 + 9 * s)) (nI E) (nI 0) ba (nI kd) (nI pl) (nI nx) nu2 le wd2 c tq W = some (nI 0, ba, y1, y2, y3, y4, y5, y6, c1) ∧
      f_X12_isSign (nI 59) y1 y4 = some r ∧ f_X12_must fu r (nI E) (nI 0) ba y1 y2 y3 y4 y5 y6 tq = some (nI 0, ba, nI kd', nI pl', nI nx', nu2', le', wd2') ∧
      stD 15 (isBk 15) a b (fun i => c1 (1560 + i)) n0 n1 n2 s ∧ (∀ i, i < 1673 + 9 * s ∨ 1673 + 9 * s + 9 ≤ i → c1 i = c i)) ∨
    (∃ k p', 1 ≤ k ∧ k ≤ 7 ∧ ∃ u1 u2 u3 : Int32, ∃ u4 : Int64, ∃ u5 u6 : Int32, ∃ y1 y2 y3 y4 y5 y6 y7 : Int32, ∃ y8 : Int64, ∃ (c1 : Nat → Int32), ∃ r z1 z2 z3 z4 z5 : Int32, ∃ z6 : Int64,
      f_X6_takeStep_113 fu (nI E) K tp (nI n0) (nI n1) (nI n2) cn pn sn (nI 15) (nI w) op (nI nx) (nI kd) (nI pl) wd (kI kk) nu fk fp (nI s) (nI p) co ma on ot = some (nI 0, nI w, op, u1, u2, u3, u4, u5, u6, nI k, nI p', nI s, nI p, co, ma, on, ot) ∧
      f_X12_readRest fu (nI (1673 + 9 * s)) (nI E) (nI 0) ba (nI kd) (nI pl) (nI nx) nu2 le wd2 c tq W = some (y1, y2, y3, y4, y5, y6, y7, y8, c1) ∧ (∀ i, i < 1673 + 9 * s → c1 i = c i) ∧
      f_X12_isSign (nI 59) y3 y6 = some r ∧ f_X12_must fu r (nI E) y1 y2 y3 y4 y5 y6 y7 y8 tq = some (nI k, nI p', z1, z2, z3, z4, z5, z6)) := by
  have hT := T.1
  unfold f_X6_takeStep_113 f_X6_takeOne f_X12_readRest
  rw [gi_n (by omega) (by omega), nI_cl (by omega), hc]
  have l0 : ∀ {α β : Type} (x : β) (k : β → Option α), lt_ x k = k x := fun _ _ => rfl
  rw [l0]
  simp (disch := omega) only [nI_eq', nI_eq0, if_true, if_false, if_neg, if_pos]
  unfold f_X12_readRest_105
  rcases r_old (fu := fu) (ba := ba) (fk := fk) (fp := fp) (wds := W) (b := 0) (s := 2) (n := n2) (n1 := 6) (row := pn) h hK T (by omega) (by omega) (by first | (rw [if_pos rfl]; omega) | (rw [if_neg (by omega)]; omega)) h8 (by omega) hc0 hN hfu with ⟨j, pl2, nx2, kd2, kk2, wd2', nu2', nu22, le2, wd22, b1, b2, b3, b3', T2, b5, b6, b7, b8⟩ | ⟨k, b1, b2, b3, b4, b5⟩
  · have t2 := T2.1
    rw [b5, b8, bd_s, bd_s, bd_s]
    simp only
    rw [if_neg (show ¬ nI j = (-1 : Int32) by rw [nI_ne_m1 (by omega)]; exact id), nI_add, gi_n (by omega) (by omega), nI_cl (by omega)]
    have ho : f_X6_takeOther fu (nI 15) (nI E) (nI nx2) (nI kd2) (nI pl2) wd2' (kI kk2) nu2' fk fp K tp (nI n0) (nI n1) cn sn = some (nI 0, nI nx2, nI kd2, nI pl2, wd2', kI kk2, nu2', fk, fp) := by
      unfold f_X6_takeOther
      simp (disch := omega) only [nI_eq', nI_eq0, if_true, if_false, if_neg, if_pos]
    rw [ho, bd_s]
    simp only
    rcases c_139 (fu := fu) (ba := ba) (fk := fk) (fp := fp) (n0 := n0) (n1 := n1) (n2 := n2) (cn := cn) (sn := sn) (pn := pn) (w := w) (s := s) (p := p) (key := 15) (op := op) (co := co) (ma := ma) (on := on) (ot := ot) (a := nI j) (b := nI 0) h hK T2 (by omega) hp (fun q => absurd q (by decide)) (by decide) hfu with ⟨pl4, nx4, kd4, kk4, wd4, nu4, nu24, le4, wd24, e1, T4, e3, e4, e5⟩ | ⟨k, k1, k2, e3, e4, e5⟩
    · rw [e3]
      refine Or.inl ⟨nI j, nI 0, upd c (1673 + 9 * s + 1) (nI j), _, _, _, _, _, _, _, pl4, nx4, kd4, kk4, wd4, nu4, nu24, le4, wd24, by omega, T4, rfl, rfl, e4, e5, ?_, fun i hi => updN (by omega)⟩
      intro R q h0 h2 h3
      have e0 : upd c (1673 + 9 * s + 1) (nI j) (1560 + (113 + 9 * s)) = nI 3 := by rw [updN (by omega), show 1560 + (113 + 9 * s) = 1673 + 9 * s by omega]; exact hc
      have e1 : upd c (1673 + 9 * s + 1) (nI j) (1560 + (113 + 9 * s + 1)) = nI j := by rw [show 1560 + (113 + 9 * s + 1) = 1673 + 9 * s + 1 by omega]; exact updS
      rw [if_neg (show ¬ isBk 15 = true by decide)]
      exact Or.inl (Or.inr (Or.inr (Or.inr (Or.inl ⟨e0, h0, j, b1, e1, h2⟩))))
    · rw [e3]
      exact Or.inr ⟨k, pl2, k1, k2, _, _, _, _, _, _, _, _, _, _, _, _, _, _, _, _, _, _, _, _, _, _, rfl, rfl, fun i hi => updN (by omega), e4, e5⟩
  · obtain ⟨r2, hr2⟩ := is_some (nI kd) nu2
    rw [b3, b5, bd_s, bd_s, bd_s]
    simp only
    rw [if_pos trivial, c_139_bad, nI_add, gi_n (by omega) (by omega), nI_cl (by omega)]
    exact Or.inr ⟨k, pl, b1, b2, _, _, _, _, _, _, _, _, _, _, _, _, _, _, _, r2, _, _, _, _, _, _, rfl, rfl, fun i hi => updN (by omega), hr2, b_must b1 b2⟩
theorem rest_16 (h : TX B E tp tq) (hK : ∀ k, k < 24 → K k = lN (KEY k)) (T : TOK B E pl nx kd kk wd nu nu2 le wd2) (hs : s < 30) (hp : p < 60) (hfu : 2000 < fu) (hc : c (1673 + 9 * s) = nI 4) (hc0 : c (390 * 0 + 2) = nI n2) (h8 : n2 ≤ 6) (hN : ∀ k, k < n2 → pn k = W (20 * 0 + fr 2 + k)) :
    (∃ (a b : Int32) (c1 : Nat → Int32), ∃ y1 y2 y3 y4 y5 y6 r pl' nx' kd' kk' wd' nu' nu2' le' wd2', nx ≤ pl' ∧ TOK B E pl' nx' kd' kk' wd' nu' nu2' le' wd2' ∧
      f_X6_takeStep_113 fu (nI E) K tp (nI n0) (nI n1) (nI n2) cn pn sn (nI 16) (nI w) op (nI nx) (nI kd) (nI pl) wd (kI kk) nu fk fp (nI s) (nI p) co ma on ot = some (nI 1, nI (if isBk 16 = true then w + 1 else w), if isBk 16 = true then upd op w (nI p) else op, nI nx', nI kd', nI pl', wd', kI kk', nu', fk, fp, nI (s + 1), nI (p + 1), upd co p (nI 16), upd ma p (-1 : Int32), upd on p a, upd ot p b) ∧
      f_X12_readRest fu (nI (1673 + 9 * s)) (nI E) (nI 0) ba (nI kd) (nI pl) (nI nx) nu2 le wd2 c tq W = some (nI 0, ba, y1, y2, y3, y4, y5, y6, c1) ∧
      f_X12_isSign (nI 59) y1 y4 = some r ∧ f_X12_must fu r (nI E) (nI 0) ba y1 y2 y3 y4 y5 y6 tq = some (nI 0, ba, nI kd', nI pl', nI nx', nu2', le', wd2') ∧
      stD 16 (isBk 16) a b (fun i => c1 (1560 + i)) n0 n1 n2 s ∧ (∀ i, i < 1673 + 9 * s ∨ 1673 + 9 * s + 9 ≤ i → c1 i = c i)) ∨
    (∃ k p', 1 ≤ k ∧ k ≤ 7 ∧ ∃ u1 u2 u3 : Int32, ∃ u4 : Int64, ∃ u5 u6 : Int32, ∃ y1 y2 y3 y4 y5 y6 y7 : Int32, ∃ y8 : Int64, ∃ (c1 : Nat → Int32), ∃ r z1 z2 z3 z4 z5 : Int32, ∃ z6 : Int64,
      f_X6_takeStep_113 fu (nI E) K tp (nI n0) (nI n1) (nI n2) cn pn sn (nI 16) (nI w) op (nI nx) (nI kd) (nI pl) wd (kI kk) nu fk fp (nI s) (nI p) co ma on ot = some (nI 0, nI w, op, u1, u2, u3, u4, u5, u6, nI k, nI p', nI s, nI p, co, ma, on, ot) ∧
      f_X12_readRest fu (nI (1673 + 9 * s)) (nI E) (nI 0) ba (nI kd) (nI pl) (nI nx) nu2 le wd2 c tq W = some (y1, y2, y3, y4, y5, y6, y7, y8, c1) ∧ (∀ i, i < 1673 + 9 * s → c1 i = c i) ∧
      f_X12_isSign (nI 59) y3 y6 = some r ∧ f_X12_must fu r (nI E) y1 y2 y3 y4 y5 y6 y7 y8 tq = some (nI k, nI p', z1, z2, z3, z4, z5, z6)) := by
  have hT := T.1
  unfold f_X6_takeStep_113 f_X6_takeOne f_X12_readRest
  rw [gi_n (by omega) (by omega), nI_cl (by omega), hc]
  have l0 : ∀ {α β : Type} (x : β) (k : β → Option α), lt_ x k = k x := fun _ _ => rfl
  rw [l0]
  simp (disch := omega) only [nI_eq', nI_eq0, if_true, if_false, if_neg, if_pos]
  unfold f_X12_readRest_105
  rcases r_old (fu := fu) (ba := ba) (fk := fk) (fp := fp) (wds := W) (b := 0) (s := 2) (n := n2) (n1 := 6) (row := pn) h hK T (by omega) (by omega) (by first | (rw [if_pos rfl]; omega) | (rw [if_neg (by omega)]; omega)) h8 (by omega) hc0 hN hfu with ⟨j, pl2, nx2, kd2, kk2, wd2', nu2', nu22, le2, wd22, b1, b2, b3, b3', T2, b5, b6, b7, b8⟩ | ⟨k, b1, b2, b3, b4, b5⟩
  · have t2 := T2.1
    rw [b5, b8, bd_s, bd_s, bd_s]
    simp only
    rw [if_neg (show ¬ nI j = (-1 : Int32) by rw [nI_ne_m1 (by omega)]; exact id), nI_add, gi_n (by omega) (by omega), nI_cl (by omega)]
    have ho : f_X6_takeOther fu (nI 16) (nI E) (nI nx2) (nI kd2) (nI pl2) wd2' (kI kk2) nu2' fk fp K tp (nI n0) (nI n1) cn sn = some (nI 0, nI nx2, nI kd2, nI pl2, wd2', kI kk2, nu2', fk, fp) := by
      unfold f_X6_takeOther
      simp (disch := omega) only [nI_eq', nI_eq0, if_true, if_false, if_neg, if_pos]
    rw [ho, bd_s]
    simp only
    rcases c_139 (fu := fu) (ba := ba) (fk := fk) (fp := fp) (n0 := n0) (n1 := n1) (n2 := n2) (cn := cn) (sn := sn) (pn := pn) (w := w) (s := s) (p := p) (key := 16) (op := op) (co := co) (ma := ma) (on := on) (ot := ot) (a := nI j) (b := nI 0) h hK T2 (by omega) hp (fun q => absurd q (by decide)) (by decide) hfu with ⟨pl4, nx4, kd4, kk4, wd4, nu4, nu24, le4, wd24, e1, T4, e3, e4, e5⟩ | ⟨k, k1, k2, e3, e4, e5⟩
    · rw [e3]
      refine Or.inl ⟨nI j, nI 0, upd c (1673 + 9 * s + 1) (nI j), _, _, _, _, _, _, _, pl4, nx4, kd4, kk4, wd4, nu4, nu24, le4, wd24, by omega, T4, rfl, rfl, e4, e5, ?_, fun i hi => updN (by omega)⟩
      intro R q h0 h2 h3
      have e0 : upd c (1673 + 9 * s + 1) (nI j) (1560 + (113 + 9 * s)) = nI 4 := by rw [updN (by omega), show 1560 + (113 + 9 * s) = 1673 + 9 * s by omega]; exact hc
      have e1 : upd c (1673 + 9 * s + 1) (nI j) (1560 + (113 + 9 * s + 1)) = nI j := by rw [show 1560 + (113 + 9 * s + 1) = 1673 + 9 * s + 1 by omega]; exact updS
      rw [if_neg (show ¬ isBk 16 = true by decide)]
      exact Or.inl (Or.inr (Or.inr (Or.inr (Or.inr (Or.inl ⟨e0, h0, j, b1, e1, h2⟩)))))
    · rw [e3]
      exact Or.inr ⟨k, pl2, k1, k2, _, _, _, _, _, _, _, _, _, _, _, _, _, _, _, _, _, _, _, _, _, _, rfl, rfl, fun i hi => updN (by omega), e4, e5⟩
  · obtain ⟨r2, hr2⟩ := is_some (nI kd) nu2
    rw [b3, b5, bd_s, bd_s, bd_s]
    simp only
    rw [if_pos trivial, c_139_bad, nI_add, gi_n (by omega) (by omega), nI_cl (by omega)]
    exact Or.inr ⟨k, pl, b1, b2, _, _, _, _, _, _, _, _, _, _, _, _, _, _, _, r2, _, _, _, _, _, _, rfl, rfl, fun i hi => updN (by omega), hr2, b_must b1 b2⟩
theorem rest_17 (h : TX B E tp tq) (hK : ∀ k, k < 24 → K k = lN (KEY k)) (T : TOK B E pl nx kd kk wd nu nu2 le wd2) (hs : s < 30) (hp : p < 60) (hfu : 2000 < fu) (hc : c (1673 + 9 * s) = nI 5) :
    (∃ (a b : Int32) (c1 : Nat → Int32), ∃ y1 y2 y3 y4 y5 y6 r pl' nx' kd' kk' wd' nu' nu2' le' wd2', nx ≤ pl' ∧ TOK B E pl' nx' kd' kk' wd' nu' nu2' le' wd2' ∧
      f_X6_takeStep_113 fu (nI E) K tp (nI n0) (nI n1) (nI n2) cn pn sn (nI 17) (nI w) op (nI nx) (nI kd) (nI pl) wd (kI kk) nu fk fp (nI s) (nI p) co ma on ot = some (nI 1, nI (if isBk 17 = true then w + 1 else w), if isBk 17 = true then upd op w (nI p) else op, nI nx', nI kd', nI pl', wd', kI kk', nu', fk, fp, nI (s + 1), nI (p + 1), upd co p (nI 17), upd ma p (-1 : Int32), upd on p a, upd ot p b) ∧
      f_X12_readRest fu (nI (1673 + 9 * s)) (nI E) (nI 0) ba (nI kd) (nI pl) (nI nx) nu2 le wd2 c tq W = some (nI 0, ba, y1, y2, y3, y4, y5, y6, c1) ∧
      f_X12_isSign (nI 59) y1 y4 = some r ∧ f_X12_must fu r (nI E) (nI 0) ba y1 y2 y3 y4 y5 y6 tq = some (nI 0, ba, nI kd', nI pl', nI nx', nu2', le', wd2') ∧
      stD 17 (isBk 17) a b (fun i => c1 (1560 + i)) n0 n1 n2 s ∧ (∀ i, i < 1673 + 9 * s ∨ 1673 + 9 * s + 9 ≤ i → c1 i = c i)) ∨
    (∃ k p', 1 ≤ k ∧ k ≤ 7 ∧ ∃ u1 u2 u3 : Int32, ∃ u4 : Int64, ∃ u5 u6 : Int32, ∃ y1 y2 y3 y4 y5 y6 y7 : Int32, ∃ y8 : Int64, ∃ (c1 : Nat → Int32), ∃ r z1 z2 z3 z4 z5 : Int32, ∃ z6 : Int64,
      f_X6_takeStep_113 fu (nI E) K tp (nI n0) (nI n1) (nI n2) cn pn sn (nI 17) (nI w) op (nI nx) (nI kd) (nI pl) wd (kI kk) nu fk fp (nI s) (nI p) co ma on ot = some (nI 0, nI w, op, u1, u2, u3, u4, u5, u6, nI k, nI p', nI s, nI p, co, ma, on, ot) ∧
      f_X12_readRest fu (nI (1673 + 9 * s)) (nI E) (nI 0) ba (nI kd) (nI pl) (nI nx) nu2 le wd2 c tq W = some (y1, y2, y3, y4, y5, y6, y7, y8, c1) ∧ (∀ i, i < 1673 + 9 * s → c1 i = c i) ∧
      f_X12_isSign (nI 59) y3 y6 = some r ∧ f_X12_must fu r (nI E) y1 y2 y3 y4 y5 y6 y7 y8 tq = some (nI k, nI p', z1, z2, z3, z4, z5, z6)) := by
  have hT := T.1
  unfold f_X6_takeStep_113 f_X6_takeOne f_X12_readRest
  rw [gi_n (by omega) (by omega), nI_cl (by omega), hc]
  have l0 : ∀ {α β : Type} (x : β) (k : β → Option α), lt_ x k = k x := fun _ _ => rfl
  rw [l0]
  simp (disch := omega) only [nI_eq', nI_eq0, if_true, if_false, if_neg, if_pos]
  rw [bd_s]
  simp only
  rw [if_neg (show ¬ nI 0 = (-1 : Int32) by decide)]
  have ho : f_X6_takeOther fu (nI 17) (nI E) (nI nx) (nI kd) (nI pl) wd (kI kk) nu fk fp K tp (nI n0) (nI n1) cn sn = some (nI 0, nI nx, nI kd, nI pl, wd, kI kk, nu, fk, fp) := by
    unfold f_X6_takeOther
    simp (disch := omega) only [nI_eq', nI_eq0, if_true, if_false, if_neg, if_pos]
  rw [ho, bd_s]
  simp only
  rcases c_139 (fu := fu) (ba := ba) (fk := fk) (fp := fp) (n0 := n0) (n1 := n1) (n2 := n2) (cn := cn) (sn := sn) (pn := pn) (w := w) (s := s) (p := p) (key := 17) (op := op) (co := co) (ma := ma) (on := on) (ot := ot) (a := nI 0) (b := nI 0) h hK T (by omega) hp (fun q => absurd q (by decide)) (by decide) hfu with ⟨pl4, nx4, kd4, kk4, wd4, nu4, nu24, le4, wd24, e1, T4, e3, e4, e5⟩ | ⟨k, k1, k2, e3, e4, e5⟩
  · rw [e3]
    refine Or.inl ⟨nI 0, nI 0, c, _, _, _, _, _, _, _, pl4, nx4, kd4, kk4, wd4, nu4, nu24, le4, wd24, by omega, T4, rfl, rfl, e4, e5, ?_, fun i hi => rfl⟩
    intro R q h0 h2 h3
    have e0 : c (1560 + (113 + 9 * s)) = nI 5 := by rw [show 1560 + (113 + 9 * s) = 1673 + 9 * s by omega]; exact hc
    rw [if_neg (show ¬ isBk 17 = true by decide)]
    exact Or.inl (Or.inr (Or.inr (Or.inr (Or.inr (Or.inr ⟨e0, h0⟩)))))
  · rw [e3]
    exact Or.inr ⟨k, pl, k1, k2, _, _, _, _, _, _, _, _, _, _, _, _, _, _, _, _, _, _, _, _, _, _, rfl, rfl, fun i hi => rfl, e4, e5⟩
theorem rest_23 (h : TX B E tp tq) (hK : ∀ k, k < 24 → K k = lN (KEY k)) (T : TOK B E pl nx kd kk wd nu nu2 le wd2) (hs : s < 30) (hp : p < 60) (hfu : 2000 < fu) (hc : c (1673 + 9 * s) = nI 8) :
    (∃ (a b : Int32) (c1 : Nat → Int32), ∃ y1 y2 y3 y4 y5 y6 r pl' nx' kd' kk' wd' nu' nu2' le' wd2', nx ≤ pl' ∧ TOK B E pl' nx' kd' kk' wd' nu' nu2' le' wd2' ∧
      f_X6_takeStep_113 fu (nI E) K tp (nI n0) (nI n1) (nI n2) cn pn sn (nI 23) (nI w) op (nI nx) (nI kd) (nI pl) wd (kI kk) nu fk fp (nI s) (nI p) co ma on ot = some (nI 1, nI (if isBk 23 = true then w + 1 else w), if isBk 23 = true then upd op w (nI p) else op, nI nx', nI kd', nI pl', wd', kI kk', nu', fk, fp, nI (s + 1), nI (p + 1), upd co p (nI 23), upd ma p (-1 : Int32), upd on p a, upd ot p b) ∧
      f_X12_readRest fu (nI (1673 + 9 * s)) (nI E) (nI 0) ba (nI kd) (nI pl) (nI nx) nu2 le wd2 c tq W = some (nI 0, ba, y1, y2, y3, y4, y5, y6, c1) ∧
      f_X12_isSign (nI 59) y1 y4 = some r ∧ f_X12_must fu r (nI E) (nI 0) ba y1 y2 y3 y4 y5 y6 tq = some (nI 0, ba, nI kd', nI pl', nI nx', nu2', le', wd2') ∧
      stD 23 (isBk 23) a b (fun i => c1 (1560 + i)) n0 n1 n2 s ∧ (∀ i, i < 1673 + 9 * s ∨ 1673 + 9 * s + 9 ≤ i → c1 i = c i)) ∨
    (∃ k p', 1 ≤ k ∧ k ≤ 7 ∧ ∃ u1 u2 u3 : Int32, ∃ u4 : Int64, ∃ u5 u6 : Int32, ∃ y1 y2 y3 y4 y5 y6 y7 : Int32, ∃ y8 : Int64, ∃ (c1 : Nat → Int32), ∃ r z1 z2 z3 z4 z5 : Int32, ∃ z6 : Int64,
      f_X6_takeStep_113 fu (nI E) K tp (nI n0) (nI n1) (nI n2) cn pn sn (nI 23) (nI w) op (nI nx) (nI kd) (nI pl) wd (kI kk) nu fk fp (nI s) (nI p) co ma on ot = some (nI 0, nI w, op, u1, u2, u3, u4, u5, u6, nI k, nI p', nI s, nI p, co, ma, on, ot) ∧
      f_X12_readRest fu (nI (1673 + 9 * s)) (nI E) (nI 0) ba (nI kd) (nI pl) (nI nx) nu2 le wd2 c tq W = some (y1, y2, y3, y4, y5, y6, y7, y8, c1) ∧ (∀ i, i < 1673 + 9 * s → c1 i = c i) ∧
      f_X12_isSign (nI 59) y3 y6 = some r ∧ f_X12_must fu r (nI E) y1 y2 y3 y4 y5 y6 y7 y8 tq = some (nI k, nI p', z1, z2, z3, z4, z5, z6)) := by
  have hT := T.1
  unfold f_X6_takeStep_113 f_X6_takeOne f_X12_readRest
  rw [gi_n (by omega) (by omega), nI_cl (by omega), hc]
  have l0 : ∀ {α β : Type} (x : β) (k : β → Option α), lt_ x k = k x := fun _ _ => rfl
  rw [l0]
  simp (disch := omega) only [nI_eq', nI_eq0, if_true, if_false, if_neg, if_pos]
  rw [bd_s]
  simp only
  rw [if_neg (show ¬ nI 0 = (-1 : Int32) by decide)]
  have ho : f_X6_takeOther fu (nI 23) (nI E) (nI nx) (nI kd) (nI pl) wd (kI kk) nu fk fp K tp (nI n0) (nI n1) cn sn = some (nI 0, nI nx, nI kd, nI pl, wd, kI kk, nu, fk, fp) := by
    unfold f_X6_takeOther
    simp (disch := omega) only [nI_eq', nI_eq0, if_true, if_false, if_neg, if_pos]
  rw [ho, bd_s]
  simp only
  rcases c_139 (fu := fu) (ba := ba) (fk := fk) (fp := fp) (n0 := n0) (n1 := n1) (n2 := n2) (cn := cn) (sn := sn) (pn := pn) (w := w) (s := s) (p := p) (key := 23) (op := op) (co := co) (ma := ma) (on := on) (ot := ot) (a := nI 0) (b := nI 0) h hK T (by omega) hp (fun q => absurd q (by decide)) (by decide) hfu with ⟨pl4, nx4, kd4, kk4, wd4, nu4, nu24, le4, wd24, e1, T4, e3, e4, e5⟩ | ⟨k, k1, k2, e3, e4, e5⟩
  · rw [e3]
    refine Or.inl ⟨nI 0, nI 0, c, _, _, _, _, _, _, _, pl4, nx4, kd4, kk4, wd4, nu4, nu24, le4, wd24, by omega, T4, rfl, rfl, e4, e5, ?_, fun i hi => rfl⟩
    intro R q h0 h2 h3
    have e0 : c (1560 + (113 + 9 * s)) = nI 8 := by rw [show 1560 + (113 + 9 * s) = 1673 + 9 * s by omega]; exact hc
    rw [if_neg (show ¬ isBk 23 = true by decide)]
    exact Or.inr ⟨e0, h0⟩
  · rw [e3]
    exact Or.inr ⟨k, pl, k1, k2, _, _, _, _, _, _, _, _, _, _, _, _, _, _, _, _, _, _, _, _, _, _, rfl, rfl, fun i hi => rfl, e4, e5⟩
theorem rest_14 (h : TX B E tp tq) (hK : ∀ k, k < 24 → K k = lN (KEY k)) (T : TOK B E pl nx kd kk wd nu nu2 le wd2) (hs : s < 30) (hp : p < 60) (hfu : 2000 < fu) (hc : c (1673 + 9 * s) = nI 2) (hc0 : c (390 * 0 + 0) = nI n0) (h8 : n0 ≤ 8) (hN : ∀ k, k < n0 → cn k = W (20 * 0 + fr 0 + k)) :
    (∃ (a b : Int32) (c1 : Nat → Int32), ∃ y1 y2 y3 y4 y5 y6 r pl' nx' kd' kk' wd' nu' nu2' le' wd2', nx ≤ pl' ∧ TOK B E pl' nx' kd' kk' wd' nu' nu2' le' wd2' ∧
      f_X6_takeStep_113 fu (nI E) K tp (nI n0) (nI n1) (nI n2) cn pn sn (nI 14) (nI w) op (nI nx) (nI kd) (nI pl) wd (kI kk) nu fk fp (nI s) (nI p) co ma on ot = some (nI 1, nI (if isBk 14 = true then w + 1 else w), if isBk 14 = true then upd op w (nI p) else op, nI nx', nI kd', nI pl', wd', kI kk', nu', fk, fp, nI (s + 1), nI (p + 1), upd co p (nI 14), upd ma p (-1 : Int32), upd on p a, upd ot p b) ∧
      f_X12_readRest fu (nI (1673 + 9 * s)) (nI E) (nI 0) ba (nI kd) (nI pl) (nI nx) nu2 le wd2 c tq W = some (nI 0, ba, y1, y2, y3, y4, y5, y6, c1) ∧
      f_X12_isSign (nI 59) y1 y4 = some r ∧ f_X12_must fu r (nI E) (nI 0) ba y1 y2 y3 y4 y5 y6 tq = some (nI 0, ba, nI kd', nI pl', nI nx', nu2', le', wd2') ∧
      stD 14 (isBk 14) a b (fun i => c1 (1560 + i)) n0 n1 n2 s ∧ (∀ i, i < 1673 + 9 * s ∨ 1673 + 9 * s + 9 ≤ i → c1 i = c i)) ∨
    (∃ k p', 1 ≤ k ∧ k ≤ 7 ∧ ∃ u1 u2 u3 : Int32, ∃ u4 : Int64, ∃ u5 u6 : Int32, ∃ y1 y2 y3 y4 y5 y6 y7 : Int32, ∃ y8 : Int64, ∃ (c1 : Nat → Int32), ∃ r z1 z2 z3 z4 z5 : Int32, ∃ z6 : Int64,
      f_X6_takeStep_113 fu (nI E) K tp (nI n0) (nI n1) (nI n2) cn pn sn (nI 14) (nI w) op (nI nx) (nI kd) (nI pl) wd (kI kk) nu fk fp (nI s) (nI p) co ma on ot = some (nI 0, nI w, op, u1, u2, u3, u4, u5, u6, nI k, nI p', nI s, nI p, co, ma, on, ot) ∧
      f_X12_readRest fu (nI (1673 + 9 * s)) (nI E) (nI 0) ba (nI kd) (nI pl) (nI nx) nu2 le wd2 c tq W = some (y1, y2, y3, y4, y5, y6, y7, y8, c1) ∧ (∀ i, i < 1673 + 9 * s → c1 i = c i) ∧
      f_X12_isSign (nI 59) y3 y6 = some r ∧ f_X12_must fu r (nI E) y1 y2 y3 y4 y5 y6 y7 y8 tq = some (nI k, nI p', z1, z2, z3, z4, z5, z6)) := by
  have hT := T.1
  unfold f_X6_takeStep_113 f_X6_takeOne f_X12_readRest
  rw [gi_n (by omega) (by omega), nI_cl (by omega), hc]
  have l0 : ∀ {α β : Type} (x : β) (k : β → Option α), lt_ x k = k x := fun _ _ => rfl
  rw [l0]
  simp (disch := omega) only [nI_eq', nI_eq0, if_true, if_false, if_neg, if_pos]
  unfold f_X12_readRest_59
  have hcu : ∀ x : Int32, upd c (1673 + 9 * s + 1) x (390 * 0 + 0) = nI n0 := fun x => by rw [updN (by omega)]; exact hc0
  rcases r_old (fu := fu) (ba := ba) (fk := fk) (fp := fp) (wds := W) (b := 0) (s := 0) (n := n0) (n1 := 8) (row := cn) h hK T (by omega) (by omega) (by rw [if_pos rfl]; omega) h8 (by omega) hc0 hN hfu with ⟨j, pl2, nx2, kd2, kk2, wd2', nu2', nu22, le2, wd22, b1, b2, b3, b3', T2, b5, b6, b7, b8⟩ | ⟨k, b1, b2, b3, b4, b5⟩
  · have t2 := T2.1
    rw [b5, b8, bd_s, bd_s, bd_s]
    simp only
    rw [if_neg (show ¬ nI j = (-1 : Int32) by rw [nI_ne_m1 (by omega)]; exact id), nI_add, gi_n (by omega) (by omega), nI_cl (by omega)]
    unfold f_X6_takeOther
    simp (disch := omega) only [nI_eq', nI_eq0, if_true, if_false, if_neg, if_pos]
    rcases r_old (fu := fu) (ba := ba) (fk := fk) (fp := fp) (wds := W) (c := upd c (1673 + 9 * s + 1) (nI j)) (b := 0) (s := 0) (n := n0) (n1 := 8) (row := cn) h hK T2 (by omega) (by omega) (by rw [if_pos rfl]; omega) h8 (by omega) (hcu _) hN hfu with ⟨j2, pl3, nx3, kd3, kk3, wd3', nu3', nu33, le3, wd33, d1, d2, d3, d3', T3, d5, d6, d7, d8⟩ | ⟨k, d1, d2, d3, d4, d5⟩
    · have t3 := T3.1
      rw [d5, d8, bd_s, bd_s, bd_s]
      simp only
      rw [nI_add, gi_n (by omega) (by omega), nI_cl (by omega)]
      rcases c_139 (fu := fu) (ba := ba) (fk := fk) (fp := fp) (n0 := n0) (n1 := n1) (n2 := n2) (cn := cn) (sn := sn) (pn := pn) (w := w) (s := s) (p := p) (key := 14) (op := op) (co := co) (ma := ma) (on := on) (ot := ot) (a := nI j) (b := nI j2) h hK T3 (by omega) hp (fun q => absurd q (by decide)) (by rw [nI_ne_m1 (by omega)]; exact id) hfu with ⟨pl4, nx4, kd4, kk4, wd4, nu4, nu24, le4, wd24, e1, T4, e3, e4, e5⟩ | ⟨k, k1, k2, e3, e4, e5⟩
      · rw [e3]
        refine Or.inl ⟨nI j, nI j2, upd (upd c (1673 + 9 * s + 1) (nI j)) (1673 + 9 * s + 2) (nI j2), _, _, _, _, _, _, _, pl4, nx4, kd4, kk4, wd4, nu4, nu24, le4, wd24, by omega, T4, rfl, rfl, e4, e5, ?_, fun i hi => by rw [updN (by omega), updN (by omega)]⟩
        intro R q h0 h2 h3
        have e0 : upd (upd c (1673 + 9 * s + 1) (nI j)) (1673 + 9 * s + 2) (nI j2) (1560 + (113 + 9 * s)) = nI 2 := by rw [updN (by omega), updN (by omega), show 1560 + (113 + 9 * s) = 1673 + 9 * s by omega]; exact hc
        have e1 : upd (upd c (1673 + 9 * s + 1) (nI j)) (1673 + 9 * s + 2) (nI j2) (1560 + (113 + 9 * s + 1)) = nI j := by rw [updN (by omega), show 1560 + (113 + 9 * s + 1) = 1673 + 9 * s + 1 by omega]; exact updS
        have e2 : upd (upd c (1673 + 9 * s + 1) (nI j)) (1673 + 9 * s + 2) (nI j2) (1560 + (113 + 9 * s + 2)) = nI j2 := by rw [show 1560 + (113 + 9 * s + 2) = 1673 + 9 * s + 2 by omega]; exact updS
        rw [if_neg (show ¬ isBk 14 = true by decide)]
        exact Or.inl (Or.inr (Or.inr (Or.inl ⟨e0, h0, j, j2, b1, d1, e1, e2, h2, h3⟩)))
      · rw [e3]
        exact Or.inr ⟨k, pl3, k1, k2, _, _, _, _, _, _, _, _, _, _, _, _, _, _, _, _, _, _, _, _, _, _, rfl, rfl, fun i hi => by rw [updN (by omega), updN (by omega)], e4, e5⟩
    · obtain ⟨r2, hr2⟩ := is_some (nI kd2) nu22
      rw [d3, d5, bd_s, bd_s, bd_s]
      simp only
      rw [c_139_bad, nI_add, gi_n (by omega) (by omega), nI_cl (by omega)]
      exact Or.inr ⟨k, pl2, d1, d2, _, _, _, _, _, _, _, _, _, _, _, _, _, _, _, r2, _, _, _, _, _, _, rfl, rfl, fun i hi => by rw [updN (by omega), updN (by omega)], hr2, b_must d1 d2⟩
  · obtain ⟨r2, hr2⟩ := is_some (nI kd) nu2
    rw [b3, b5, bd_s, bd_s, bd_s]
    simp only
    rw [if_pos trivial, c_139_bad, nI_add, gi_n (by omega) (by omega), nI_cl (by omega), b_readTold b1 b2, bd_s]
    simp only
    rw [nI_add, gi_n (by omega) (by omega), nI_cl (by omega)]
    exact Or.inr ⟨k, pl, b1, b2, _, _, _, _, _, _, _, _, _, _, _, _, _, _, _, r2, _, _, _, _, _, _, rfl, rfl, fun i hi => by rw [updN (by omega), updN (by omega)], hr2, b_must b1 b2⟩
end RR
