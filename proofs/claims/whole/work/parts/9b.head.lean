/-! ROUNDS that are told: a STEP's head on both sides -/
abbrev RF : Type := Int32 → Int32 → Int32 → Int32 → Int32 → Int32 → Int32 → Int32 → Int32 → Int64 → Int32 → (Nat → Int32) → (Nat → Int32) → (Nat → Int64) → Option (Int32 × Int32 × Int32 × Int32 × Int32 × Int32 × Int32 × Int64 × Int32 × (Nat → Int32))
section HD
variable {B : Nat → Nat} {E fu : Nat} {tp tq : Nat → Int32} {K : Nat → Int64} {pl nx kd kk : Nat} {wd wd2 : Int64} {nu nu2 le fk fp ba : Int32} {c : Nat → Int32} {W cn sn pn : Nat → Int64} {n0 n1 n2 w s p : Nat} {op co ma on ot : Nat → Int32} {REC : RF}
theorem isEn_some (x : Int32) (z : Int64) : ∃ r, f_X12_isEnd x z = some r := by
  unfold f_X12_isEnd
  obtain ⟨r, h, h2⟩ := isW_some x x (lN (KEY 22)) z
  rw [sp_22, bd_s, h, bd_s, gd_pos h2]
  exact ⟨_, rfl⟩
theorem b_142 {k N : Nat} {q y1 y2 y3 y4 y5 z1 z3 e x : Int32} {y6 : Int64} {g : Nat → Int32} (h1 : 1 ≤ k) (h2 : k ≤ 7) (hs : s < 30) : f_X12_readStep_142 fu e tq W REC (N + 1) z1 z3 (nI (1673 + 9 * s)) (nI k) q y1 y2 y3 y4 y5 y6 x g = some (nI k, q, y1, y2, y3, y4, y5, y6, x, upd g (1673 + 9 * s + 8) x) := by
  obtain ⟨r, hr⟩ := isEn_some y1 y6
  obtain ⟨r2, hr2⟩ := is_some y1 y4
  have e192 : f_X12_readStep_192 fu e tq W REC (nI (1673 + 9 * s)) (nI k) q y1 y2 y3 y4 y5 y6 x g = some (nI k, q, y1, y2, y3, y4, y5, y6, x, upd g (1673 + 9 * s + 8) x) := by
    unfold f_X12_readStep_192
    rw [nI_add, gi_n (by omega) (by omega), nI_cl (by omega)]
  have e170 : f_X12_readStep_170 fu e tq W REC z3 (nI (1673 + 9 * s)) (nI k) q y1 y2 y3 y4 y5 y6 x g = some (nI k, q, y1, y2, y3, y4, y5, y6, x, upd g (1673 + 9 * s + 8) x) := by
    unfold f_X12_readStep_170
    split
    · exact e192
    · rw [hr, bd_s, b_must h1 h2, bd_s]
      simp only
      rw [hr2, bd_s, b_must h1 h2, bd_s]
      exact e192
  unfold f_X12_readStep_142
  rw [if_neg (b_eq h1 h2)]
  split <;> exact e170
theorem r_head (h : TX B E tp tq) (hK : ∀ k, k < 24 → K k = lN (KEY k)) (T : TOK B E pl nx kd kk wd nu nu2 le wd2) (hs : s ≤ 30) (hp : p + w ≤ 2 * s) (hw : w ≤ 3) (hc0 : c (390 * 0 + 0) = nI n0) (hc1 : c (390 * 0 + 1) = nI n1) (hc2 : c (390 * 0 + 2) = nI n2) (h8 : n0 ≤ 8) (h61 : n1 ≤ 6) (h62 : n2 ≤ 6) (hN : NM 0 cn sn pn W n0 n1 n2) (hk22 : kk ≠ 22) (hfu : 2000 < fu) :
    (∃ (cd : Nat) (blk : Bool) (a b : Int32) (c1 : Nat → Int32), ∃ pl' nx' kd' kk' wd' nu' nu2' le' wd2', nx ≤ pl' ∧ pl < nx ∧ s < 30 ∧ TOK B E pl' nx' kd' kk' wd' nu' nu2' le' wd2' ∧ cd < 24 ∧ isBk cd = blk ∧ (blk = true → w < 3) ∧
      f_X6_takeStep fu (nI w) op (nI E) (nI nx) (nI kd) (nI pl) wd (kI kk) nu fk fp K tp (nI n0) (nI n1) (nI n2) cn pn sn (nI s) (nI p) co ma on ot = some (nI 1, nI (if blk = true then w + 1 else w), if blk = true then upd op w (nI p) else op, nI nx', nI kd', nI pl', wd', kI kk', nu', fk, fp, nI (s + 1), nI (p + 1), upd co p (nI cd), upd ma p (-1 : Int32), upd on p a, upd ot p b) ∧
      f_X12_readStepB fu REC (nI w) (nI E) (nI 0) ba (nI kd) (nI pl) (nI nx) nu2 le wd2 (nI s) c tq W = f_X12_readStep_142 fu (nI E) tq W REC fu (nI w) (bI blk) (nI (1673 + 9 * s)) (nI 0) ba (nI kd') (nI pl') (nI nx') nu2' le' wd2' (nI (s + 1)) c1 ∧
      stD cd blk a b (fun i => c1 (1560 + i)) n0 n1 n2 s ∧ (∀ i, i < 1673 + 9 * s ∨ 1673 + 9 * s + 9 ≤ i → c1 i = c i)) ∨
    (∃ k p', 1 ≤ k ∧ k ≤ 7 ∧ ∃ u1 u2 u3 : Int32, ∃ u4 : Int64, ∃ u5 u6 z1 z2 z3 z4 z5 : Int32, ∃ (z6 : Int64) (x : Int32) (c1 : Nat → Int32),
      f_X6_takeStep fu (nI w) op (nI E) (nI nx) (nI kd) (nI pl) wd (kI kk) nu fk fp K tp (nI n0) (nI n1) (nI n2) cn pn sn (nI s) (nI p) co ma on ot = some (nI 0, nI w, op, u1, u2, u3, u4, u5, u6, nI k, nI p', nI s, nI p, co, ma, on, ot) ∧
      f_X12_readStepB fu REC (nI w) (nI E) (nI 0) ba (nI kd) (nI pl) (nI nx) nu2 le wd2 (nI s) c tq W = some (nI k, nI p', z1, z2, z3, z4, z5, z6, x, c1) ∧ (∀ i, i < 1673 → c1 i = c i)) := by
  have hT := T.1
  have l0 : ∀ {α β : Type} (x : β) (k : β → Option α), lt_ x k = k x := fun _ _ => rfl
  unfold f_X6_takeStep f_X12_readStepB
  rw [m_stepWord T, bd_s]
  -- what the reference does behind a FAULT that it found ahead
  have fb : ∀ (k : Nat) (z1 z2 z3 : Int32), 1 ≤ k → k ≤ 7 → f_X12_readStep_83 fu (nI E) tq W REC z1 z2 z3 (nI k) (nI pl) (nI kd) (nI pl) (nI nx) nu2 le wd2 (nI s) c = some (nI k, nI pl, nI kd, nI pl, nI nx, nu2, le, wd2, nI s, c) := by
    intro k z1 z2 z3 h1 h2
    unfold f_X12_readStep_83
    rw [if_neg (b_le h1 h2)]
  by_cases e12 : kk = 12
  · have hkd1 : kd = 1 := Classical.byContradiction fun q => absurd (T.2.2.1 q) (by omega)
    have hnx : pl < nx := hT.2.2.2.2.2 (by omega)
    have kn : ∀ j, j < 24 → kk ≠ j → ¬ kI kk = nI j := fun j hj hne => by rw [kI_eq (by omega) hj]; exact hne
    rw [if_neg (show ¬ kI kk < nI 12 by rw [e12]; decide), if_neg (kn 19 (by omega) (by omega)), if_neg (kn 20 (by omega) (by omega)), show sKd kk = nI 0 by rw [e12]; rfl, if_neg (show ¬ nI 0 = nI 6 by decide), if_neg (show ¬ nI 0 = nI 7 by decide)]
    unfold f_X12_readStep_22
    rw [if_pos (show 0 ≤ nI 0 by decide)]
    unfold f_X12_readStep_31
    rw [if_pos (show nI 0 = 0 from rfl)]
    by_cases hs30 : s < 30
    rotate_left
    · have e30 : s = 30 := by omega
      rw [if_neg (show ¬ nI s < nI 30 by rw [nI_lt' (by omega) (by omega)]; omega), c_fail (by omega), ofK_1 hkd1, bd_s, if_pos (show nI s = nI 30 by rw [e30]), m_fail0, bd_s]
      simp only
      rw [gd_0]
      unfold f_X12_readStep_57
      rw [if_neg (b_eq (k := 6) (by omega) (by omega)), fb 6 _ _ _ (by omega) (by omega)]
      exact Or.inr ⟨6, pl, by omega, by omega, _, _, _, _, _, _, _, _, _, _, _, _, _, c, rfl, rfl, fun _ _ => rfl⟩
    rw [if_pos (show nI s < nI 30 by rw [nI_lt' (by omega) (by omega)]; exact hs30), if_neg (kn 18 (by omega) (by omega)), if_neg (kn 21 (by omega) (by omega))]
    unfold f_X12_readStep_57
    rw [if_neg (show ¬ nI s = nI 30 by rw [nI_eq' (by omega) (by omega)]; omega), if_pos (show nI 0 = 0 from rfl), if_pos (show nI 0 = 0 from rfl)]
    obtain ⟨pl1, nx1, kd1, kk1, wd1, nu1, nu21, le1, wd21, a1, T1, a3, a4⟩ := tk_next (fu := fu) h hK (a := nx) (by omega) hfu (nI kd) (nI pl) wd (kI kk) nu (nI kd) (nI pl) nu2 le wd2
    have t1 := T1.1
    unfold f_X6_takeStep_78
    rw [a3, bd_s]
    simp only
    rw [if_neg (show ¬ kI kk = nI 18 by rw [e12]; decide), show kI kk = nI 12 by rw [e12]; rfl]
    unfold f_X12_readStep_83
    rw [if_pos (show nI 0 ≤ 0 by decide), l0, l0, a4, bd_s]
    simp only
    rw [pk_mul, nI_add, nI_add, gi_n (by omega) (by omega), nI_cl (by omega)]
    rcases rest_12 (fu := fu) (ba := ba) (fk := fk) (fp := fp) (n0 := n0) (n1 := n1) (n2 := n2) (cn := cn) (sn := sn) (pn := pn) (W := W) (w := w) (s := s) (p := p) (op := op) (co := co) (ma := ma) (on := on) (ot := ot) (c := upd c (1673 + 9 * s) (nI 0)) h hK T1 hs30 (by omega) hfu updS with ⟨a, b, c1, y1, y2, y3, y4, y5, y6, r, pl', nx', kd', kk', wd', nu', nu2', le', wd2', g1, g2, g3, g4, g5, g6, g7, g8⟩ | ⟨k, p', g1, g2, u1, u2, u3, u4, u5, u6, y1, y2, y3, y4, y5, y6, y7, y8, c1, r, z1, z2, z3, z4, z5, z6, g3, g4, g5, g6, g7⟩
    · rw [g4, bd_s]
      simp only
      rw [g5, bd_s, g6, bd_s]
      rw [show isBk 12 = false from by decide] at g3 g7
      exact Or.inl ⟨12, false, a, b, c1, pl', nx', kd', kk', wd', nu', nu2', le', wd2', by omega, hnx, hs30, g2, by omega, (by decide), fun q => absurd q (by decide), g3, rfl, g7, fun i hi => by rw [g8 i hi, updN (by omega)]⟩
    · obtain ⟨N, hN1⟩ : ∃ N, fu = N + 1 := ⟨fu - 1, by omega⟩
      rw [g4, bd_s]
      simp only
      rw [g6, bd_s, g7, bd_s]
      simp only
      rw [show f_X12_readStep_142 fu (nI E) tq W REC fu = f_X12_readStep_142 fu (nI E) tq W REC (N + 1) from by rw [← hN1], b_142 g1 g2 hs30]
      exact Or.inr ⟨k, p', g1, g2, u1, u2, u3, u4, u5, u6, z1, z2, z3, z4, z5, z6, nI (s + 1), upd c1 (1673 + 9 * s + 8) (nI (s + 1)), g3, rfl, fun i hi => by rw [updN (by omega), g5 i (by omega), updN (by omega)]⟩
  by_cases e13 : kk = 13
  · have hkd1 : kd = 1 := Classical.byContradiction fun q => absurd (T.2.2.1 q) (by omega)
    have hnx : pl < nx := hT.2.2.2.2.2 (by omega)
    have kn : ∀ j, j < 24 → kk ≠ j → ¬ kI kk = nI j := fun j hj hne => by rw [kI_eq (by omega) hj]; exact hne
    rw [if_neg (show ¬ kI kk < nI 12 by rw [e13]; decide), if_neg (kn 19 (by omega) (by omega)), if_neg (kn 20 (by omega) (by omega)), show sKd kk = nI 1 by rw [e13]; rfl, if_neg (show ¬ nI 1 = nI 6 by decide), if_neg (show ¬ nI 1 = nI 7 by decide)]
    unfold f_X12_readStep_22
    rw [if_pos (show 0 ≤ nI 1 by decide)]
    unfold f_X12_readStep_31
    rw [if_pos (show nI 0 = 0 from rfl)]
    by_cases hs30 : s < 30
    rotate_left
    · have e30 : s = 30 := by omega
      rw [if_neg (show ¬ nI s < nI 30 by rw [nI_lt' (by omega) (by omega)]; omega), c_fail (by omega), ofK_1 hkd1, bd_s, if_pos (show nI s = nI 30 by rw [e30]), m_fail0, bd_s]
      simp only
      rw [gd_0]
      unfold f_X12_readStep_57
      rw [if_neg (b_eq (k := 6) (by omega) (by omega)), fb 6 _ _ _ (by omega) (by omega)]
      exact Or.inr ⟨6, pl, by omega, by omega, _, _, _, _, _, _, _, _, _, _, _, _, _, c, rfl, rfl, fun _ _ => rfl⟩
    rw [if_pos (show nI s < nI 30 by rw [nI_lt' (by omega) (by omega)]; exact hs30), if_neg (kn 18 (by omega) (by omega)), if_neg (kn 21 (by omega) (by omega))]
    unfold f_X12_readStep_57
    rw [if_neg (show ¬ nI s = nI 30 by rw [nI_eq' (by omega) (by omega)]; omega), if_pos (show nI 0 = 0 from rfl), if_pos (show nI 0 = 0 from rfl)]
    obtain ⟨pl1, nx1, kd1, kk1, wd1, nu1, nu21, le1, wd21, a1, T1, a3, a4⟩ := tk_next (fu := fu) h hK (a := nx) (by omega) hfu (nI kd) (nI pl) wd (kI kk) nu (nI kd) (nI pl) nu2 le wd2
    have t1 := T1.1
    unfold f_X6_takeStep_78
    rw [a3, bd_s]
    simp only
    rw [if_neg (show ¬ kI kk = nI 18 by rw [e13]; decide), show kI kk = nI 13 by rw [e13]; rfl]
    unfold f_X12_readStep_83
    rw [if_pos (show nI 0 ≤ 0 by decide), l0, l0, a4, bd_s]
    simp only
    rw [pk_mul, nI_add, nI_add, gi_n (by omega) (by omega), nI_cl (by omega)]
    rcases rest_13 (fu := fu) (ba := ba) (fk := fk) (fp := fp) (n0 := n0) (n1 := n1) (n2 := n2) (cn := cn) (sn := sn) (pn := pn) (W := W) (w := w) (s := s) (p := p) (op := op) (co := co) (ma := ma) (on := on) (ot := ot) (c := upd c (1673 + 9 * s) (nI 1)) h hK T1 hs30 (by omega) hfu updS (by rw [updN (by omega)]; exact hc0) h8 hN.1 with ⟨a, b, c1, y1, y2, y3, y4, y5, y6, r, pl', nx', kd', kk', wd', nu', nu2', le', wd2', g1, g2, g3, g4, g5, g6, g7, g8⟩ | ⟨k, p', g1, g2, u1, u2, u3, u4, u5, u6, y1, y2, y3, y4, y5, y6, y7, y8, c1, r, z1, z2, z3, z4, z5, z6, g3, g4, g5, g6, g7⟩
    · rw [g4, bd_s]
      simp only
      rw [g5, bd_s, g6, bd_s]
      rw [show isBk 13 = false from by decide] at g3 g7
      exact Or.inl ⟨13, false, a, b, c1, pl', nx', kd', kk', wd', nu', nu2', le', wd2', by omega, hnx, hs30, g2, by omega, (by decide), fun q => absurd q (by decide), g3, rfl, g7, fun i hi => by rw [g8 i hi, updN (by omega)]⟩
    · obtain ⟨N, hN1⟩ : ∃ N, fu = N + 1 := ⟨fu - 1, by omega⟩
      rw [g4, bd_s]
      simp only
      rw [g6, bd_s, g7, bd_s]
      simp only
      rw [show f_X12_readStep_142 fu (nI E) tq W REC fu = f_X12_readStep_142 fu (nI E) tq W REC (N + 1) from by rw [← hN1], b_142 g1 g2 hs30]
      exact Or.inr ⟨k, p', g1, g2, u1, u2, u3, u4, u5, u6, z1, z2, z3, z4, z5, z6, nI (s + 1), upd c1 (1673 + 9 * s + 8) (nI (s + 1)), g3, rfl, fun i hi => by rw [updN (by omega), g5 i (by omega), updN (by omega)]⟩
  by_cases e14 : kk = 14
  · have hkd1 : kd = 1 := Classical.byContradiction fun q => absurd (T.2.2.1 q) (by omega)
    have hnx : pl < nx := hT.2.2.2.2.2 (by omega)
    have kn : ∀ j, j < 24 → kk ≠ j → ¬ kI kk = nI j := fun j hj hne => by rw [kI_eq (by omega) hj]; exact hne
    rw [if_neg (show ¬ kI kk < nI 12 by rw [e14]; decide), if_neg (kn 19 (by omega) (by omega)), if_neg (kn 20 (by omega) (by omega)), show sKd kk = nI 2 by rw [e14]; rfl, if_neg (show ¬ nI 2 = nI 6 by decide), if_neg (show ¬ nI 2 = nI 7 by decide)]
    unfold f_X12_readStep_22
    rw [if_pos (show 0 ≤ nI 2 by decide)]
    unfold f_X12_readStep_31
    rw [if_pos (show nI 0 = 0 from rfl)]
    by_cases hs30 : s < 30
    rotate_left
    · have e30 : s = 30 := by omega
      rw [if_neg (show ¬ nI s < nI 30 by rw [nI_lt' (by omega) (by omega)]; omega), c_fail (by omega), ofK_1 hkd1, bd_s, if_pos (show nI s = nI 30 by rw [e30]), m_fail0, bd_s]
      simp only
      rw [gd_0]
      unfold f_X12_readStep_57
      rw [if_neg (b_eq (k := 6) (by omega) (by omega)), fb 6 _ _ _ (by omega) (by omega)]
      exact Or.inr ⟨6, pl, by omega, by omega, _, _, _, _, _, _, _, _, _, _, _, _, _, c, rfl, rfl, fun _ _ => rfl⟩
    rw [if_pos (show nI s < nI 30 by rw [nI_lt' (by omega) (by omega)]; exact hs30), if_neg (kn 18 (by omega) (by omega)), if_neg (kn 21 (by omega) (by omega))]
    unfold f_X12_readStep_57
    rw [if_neg (show ¬ nI s = nI 30 by rw [nI_eq' (by omega) (by omega)]; omega), if_pos (show nI 0 = 0 from rfl), if_pos (show nI 0 = 0 from rfl)]
    obtain ⟨pl1, nx1, kd1, kk1, wd1, nu1, nu21, le1, wd21, a1, T1, a3, a4⟩ := tk_next (fu := fu) h hK (a := nx) (by omega) hfu (nI kd) (nI pl) wd (kI kk) nu (nI kd) (nI pl) nu2 le wd2
    have t1 := T1.1
    unfold f_X6_takeStep_78
    rw [a3, bd_s]
    simp only
    rw [if_neg (show ¬ kI kk = nI 18 by rw [e14]; decide), show kI kk = nI 14 by rw [e14]; rfl]
    unfold f_X12_readStep_83
    rw [if_pos (show nI 0 ≤ 0 by decide), l0, l0, a4, bd_s]
    simp only
    rw [pk_mul, nI_add, nI_add, gi_n (by omega) (by omega), nI_cl (by omega)]
    rcases rest_14 (fu := fu) (ba := ba) (fk := fk) (fp := fp) (n0 := n0) (n1 := n1) (n2 := n2) (cn := cn) (sn := sn) (pn := pn) (W := W) (w := w) (s := s) (p := p) (op := op) (co := co) (ma := ma) (on := on) (ot := ot) (c := upd c (1673 + 9 * s) (nI 2)) h hK T1 hs30 (by omega) hfu updS (by rw [updN (by omega)]; exact hc0) h8 hN.1 with ⟨a, b, c1, y1, y2, y3, y4, y5, y6, r, pl', nx', kd', kk', wd', nu', nu2', le', wd2', g1, g2, g3, g4, g5, g6, g7, g8⟩ | ⟨k, p', g1, g2, u1, u2, u3, u4, u5, u6, y1, y2, y3, y4, y5, y6, y7, y8, c1, r, z1, z2, z3, z4, z5, z6, g3, g4, g5, g6, g7⟩
    · rw [g4, bd_s]
      simp only
      rw [g5, bd_s, g6, bd_s]
      rw [show isBk 14 = false from by decide] at g3 g7
      exact Or.inl ⟨14, false, a, b, c1, pl', nx', kd', kk', wd', nu', nu2', le', wd2', by omega, hnx, hs30, g2, by omega, (by decide), fun q => absurd q (by decide), g3, rfl, g7, fun i hi => by rw [g8 i hi, updN (by omega)]⟩
    · obtain ⟨N, hN1⟩ : ∃ N, fu = N + 1 := ⟨fu - 1, by omega⟩
      rw [g4, bd_s]
      simp only
      rw [g6, bd_s, g7, bd_s]
      simp only
      rw [show f_X12_readStep_142 fu (nI E) tq W REC fu = f_X12_readStep_142 fu (nI E) tq W REC (N + 1) from by rw [← hN1], b_142 g1 g2 hs30]
      exact Or.inr ⟨k, p', g1, g2, u1, u2, u3, u4, u5, u6, z1, z2, z3, z4, z5, z6, nI (s + 1), upd c1 (1673 + 9 * s + 8) (nI (s + 1)), g3, rfl, fun i hi => by rw [updN (by omega), g5 i (by omega), updN (by omega)]⟩
  by_cases e15 : kk = 15
  · have hkd1 : kd = 1 := Classical.byContradiction fun q => absurd (T.2.2.1 q) (by omega)
    have hnx : pl < nx := hT.2.2.2.2.2 (by omega)
    have kn : ∀ j, j < 24 → kk ≠ j → ¬ kI kk = nI j := fun j hj hne => by rw [kI_eq (by omega) hj]; exact hne
    rw [if_neg (show ¬ kI kk < nI 12 by rw [e15]; decide), if_neg (kn 19 (by omega) (by omega)), if_neg (kn 20 (by omega) (by omega)), show sKd kk = nI 3 by rw [e15]; rfl, if_neg (show ¬ nI 3 = nI 6 by decide), if_neg (show ¬ nI 3 = nI 7 by decide)]
    unfold f_X12_readStep_22
    rw [if_pos (show 0 ≤ nI 3 by decide)]
    unfold f_X12_readStep_31
    rw [if_pos (show nI 0 = 0 from rfl)]
    by_cases hs30 : s < 30
    rotate_left
    · have e30 : s = 30 := by omega
      rw [if_neg (show ¬ nI s < nI 30 by rw [nI_lt' (by omega) (by omega)]; omega), c_fail (by omega), ofK_1 hkd1, bd_s, if_pos (show nI s = nI 30 by rw [e30]), m_fail0, bd_s]
      simp only
      rw [gd_0]
      unfold f_X12_readStep_57
      rw [if_neg (b_eq (k := 6) (by omega) (by omega)), fb 6 _ _ _ (by omega) (by omega)]
      exact Or.inr ⟨6, pl, by omega, by omega, _, _, _, _, _, _, _, _, _, _, _, _, _, c, rfl, rfl, fun _ _ => rfl⟩
    rw [if_pos (show nI s < nI 30 by rw [nI_lt' (by omega) (by omega)]; exact hs30), if_neg (kn 18 (by omega) (by omega)), if_neg (kn 21 (by omega) (by omega))]
    unfold f_X12_readStep_57
    rw [if_neg (show ¬ nI s = nI 30 by rw [nI_eq' (by omega) (by omega)]; omega), if_pos (show nI 0 = 0 from rfl), if_pos (show nI 0 = 0 from rfl)]
    obtain ⟨pl1, nx1, kd1, kk1, wd1, nu1, nu21, le1, wd21, a1, T1, a3, a4⟩ := tk_next (fu := fu) h hK (a := nx) (by omega) hfu (nI kd) (nI pl) wd (kI kk) nu (nI kd) (nI pl) nu2 le wd2
    have t1 := T1.1
    unfold f_X6_takeStep_78
    rw [a3, bd_s]
    simp only
    rw [if_neg (show ¬ kI kk = nI 18 by rw [e15]; decide), show kI kk = nI 15 by rw [e15]; rfl]
    unfold f_X12_readStep_83
    rw [if_pos (show nI 0 ≤ 0 by decide), l0, l0, a4, bd_s]
    simp only
    rw [pk_mul, nI_add, nI_add, gi_n (by omega) (by omega), nI_cl (by omega)]
    rcases rest_15 (fu := fu) (ba := ba) (fk := fk) (fp := fp) (n0 := n0) (n1 := n1) (n2 := n2) (cn := cn) (sn := sn) (pn := pn) (W := W) (w := w) (s := s) (p := p) (op := op) (co := co) (ma := ma) (on := on) (ot := ot) (c := upd c (1673 + 9 * s) (nI 3)) h hK T1 hs30 (by omega) hfu updS (by rw [updN (by omega)]; exact hc2) h62 hN.2.2 with ⟨a, b, c1, y1, y2, y3, y4, y5, y6, r, pl', nx', kd', kk', wd', nu', nu2', le', wd2', g1, g2, g3, g4, g5, g6, g7, g8⟩ | ⟨k, p', g1, g2, u1, u2, u3, u4, u5, u6, y1, y2, y3, y4, y5, y6, y7, y8, c1, r, z1, z2, z3, z4, z5, z6, g3, g4, g5, g6, g7⟩
    · rw [g4, bd_s]
      simp only
      rw [g5, bd_s, g6, bd_s]
      rw [show isBk 15 = false from by decide] at g3 g7
      exact Or.inl ⟨15, false, a, b, c1, pl', nx', kd', kk', wd', nu', nu2', le', wd2', by omega, hnx, hs30, g2, by omega, (by decide), fun q => absurd q (by decide), g3, rfl, g7, fun i hi => by rw [g8 i hi, updN (by omega)]⟩
    · obtain ⟨N, hN1⟩ : ∃ N, fu = N + 1 := ⟨fu - 1, by omega⟩
      rw [g4, bd_s]
      simp only
      rw [g6, bd_s, g7, bd_s]
      simp only
      rw [show f_X12_readStep_142 fu (nI E) tq W REC fu = f_X12_readStep_142 fu (nI E) tq W REC (N + 1) from by rw [← hN1], b_142 g1 g2 hs30]
      exact Or.inr ⟨k, p', g1, g2, u1, u2, u3, u4, u5, u6, z1, z2, z3, z4, z5, z6, nI (s + 1), upd c1 (1673 + 9 * s + 8) (nI (s + 1)), g3, rfl, fun i hi => by rw [updN (by omega), g5 i (by omega), updN (by omega)]⟩
  by_cases e16 : kk = 16
  · have hkd1 : kd = 1 := Classical.byContradiction fun q => absurd (T.2.2.1 q) (by omega)
    have hnx : pl < nx := hT.2.2.2.2.2 (by omega)
    have kn : ∀ j, j < 24 → kk ≠ j → ¬ kI kk = nI j := fun j hj hne => by rw [kI_eq (by omega) hj]; exact hne
    rw [if_neg (show ¬ kI kk < nI 12 by rw [e16]; decide), if_neg (kn 19 (by omega) (by omega)), if_neg (kn 20 (by omega) (by omega)), show sKd kk = nI 4 by rw [e16]; rfl, if_neg (show ¬ nI 4 = nI 6 by decide), if_neg (show ¬ nI 4 = nI 7 by decide)]
    unfold f_X12_readStep_22
    rw [if_pos (show 0 ≤ nI 4 by decide)]
    unfold f_X12_readStep_31
    rw [if_pos (show nI 0 = 0 from rfl)]
    by_cases hs30 : s < 30
    rotate_left
    · have e30 : s = 30 := by omega
      rw [if_neg (show ¬ nI s < nI 30 by rw [nI_lt' (by omega) (by omega)]; omega), c_fail (by omega), ofK_1 hkd1, bd_s, if_pos (show nI s = nI 30 by rw [e30]), m_fail0, bd_s]
      simp only
      rw [gd_0]
      unfold f_X12_readStep_57
      rw [if_neg (b_eq (k := 6) (by omega) (by omega)), fb 6 _ _ _ (by omega) (by omega)]
      exact Or.inr ⟨6, pl, by omega, by omega, _, _, _, _, _, _, _, _, _, _, _, _, _, c, rfl, rfl, fun _ _ => rfl⟩
    rw [if_pos (show nI s < nI 30 by rw [nI_lt' (by omega) (by omega)]; exact hs30), if_neg (kn 18 (by omega) (by omega)), if_neg (kn 21 (by omega) (by omega))]
    unfold f_X12_readStep_57
    rw [if_neg (show ¬ nI s = nI 30 by rw [nI_eq' (by omega) (by omega)]; omega), if_pos (show nI 0 = 0 from rfl), if_pos (show nI 0 = 0 from rfl)]
    obtain ⟨pl1, nx1, kd1, kk1, wd1, nu1, nu21, le1, wd21, a1, T1, a3, a4⟩ := tk_next (fu := fu) h hK (a := nx) (by omega) hfu (nI kd) (nI pl) wd (kI kk) nu (nI kd) (nI pl) nu2 le wd2
    have t1 := T1.1
    unfold f_X6_takeStep_78
    rw [a3, bd_s]
    simp only
    rw [if_neg (show ¬ kI kk = nI 18 by rw [e16]; decide), show kI kk = nI 16 by rw [e16]; rfl]
    unfold f_X12_readStep_83
    rw [if_pos (show nI 0 ≤ 0 by decide), l0, l0, a4, bd_s]
    simp only
    rw [pk_mul, nI_add, nI_add, gi_n (by omega) (by omega), nI_cl (by omega)]
    rcases rest_16 (fu := fu) (ba := ba) (fk := fk) (fp := fp) (n0 := n0) (n1 := n1) (n2 := n2) (cn := cn) (sn := sn) (pn := pn) (W := W) (w := w) (s := s) (p := p) (op := op) (co := co) (ma := ma) (on := on) (ot := ot) (c := upd c (1673 + 9 * s) (nI 4)) h hK T1 hs30 (by omega) hfu updS (by rw [updN (by omega)]; exact hc2) h62 hN.2.2 with ⟨a, b, c1, y1, y2, y3, y4, y5, y6, r, pl', nx', kd', kk', wd', nu', nu2', le', wd2', g1, g2, g3, g4, g5, g6, g7, g8⟩ | ⟨k, p', g1, g2, u1, u2, u3, u4, u5, u6, y1, y2, y3, y4, y5, y6, y7, y8, c1, r, z1, z2, z3, z4, z5, z6, g3, g4, g5, g6, g7⟩
    · rw [g4, bd_s]
      simp only
      rw [g5, bd_s, g6, bd_s]
      rw [show isBk 16 = false from by decide] at g3 g7
      exact Or.inl ⟨16, false, a, b, c1, pl', nx', kd', kk', wd', nu', nu2', le', wd2', by omega, hnx, hs30, g2, by omega, (by decide), fun q => absurd q (by decide), g3, rfl, g7, fun i hi => by rw [g8 i hi, updN (by omega)]⟩
    · obtain ⟨N, hN1⟩ : ∃ N, fu = N + 1 := ⟨fu - 1, by omega⟩
      rw [g4, bd_s]
      simp only
      rw [g6, bd_s, g7, bd_s]
      simp only
      rw [show f_X12_readStep_142 fu (nI E) tq W REC fu = f_X12_readStep_142 fu (nI E) tq W REC (N + 1) from by rw [← hN1], b_142 g1 g2 hs30]
      exact Or.inr ⟨k, p', g1, g2, u1, u2, u3, u4, u5, u6, z1, z2, z3, z4, z5, z6, nI (s + 1), upd c1 (1673 + 9 * s + 8) (nI (s + 1)), g3, rfl, fun i hi => by rw [updN (by omega), g5 i (by omega), updN (by omega)]⟩
  by_cases e17 : kk = 17
  · have hkd1 : kd = 1 := Classical.byContradiction fun q => absurd (T.2.2.1 q) (by omega)
    have hnx : pl < nx := hT.2.2.2.2.2 (by omega)
    have kn : ∀ j, j < 24 → kk ≠ j → ¬ kI kk = nI j := fun j hj hne => by rw [kI_eq (by omega) hj]; exact hne
    rw [if_neg (show ¬ kI kk < nI 12 by rw [e17]; decide), if_neg (kn 19 (by omega) (by omega)), if_neg (kn 20 (by omega) (by omega)), show sKd kk = nI 5 by rw [e17]; rfl, if_neg (show ¬ nI 5 = nI 6 by decide), if_neg (show ¬ nI 5 = nI 7 by decide)]
    unfold f_X12_readStep_22
    rw [if_pos (show 0 ≤ nI 5 by decide)]
    unfold f_X12_readStep_31
    rw [if_pos (show nI 0 = 0 from rfl)]
    by_cases hs30 : s < 30
    rotate_left
    · have e30 : s = 30 := by omega
      rw [if_neg (show ¬ nI s < nI 30 by rw [nI_lt' (by omega) (by omega)]; omega), c_fail (by omega), ofK_1 hkd1, bd_s, if_pos (show nI s = nI 30 by rw [e30]), m_fail0, bd_s]
      simp only
      rw [gd_0]
      unfold f_X12_readStep_57
      rw [if_neg (b_eq (k := 6) (by omega) (by omega)), fb 6 _ _ _ (by omega) (by omega)]
      exact Or.inr ⟨6, pl, by omega, by omega, _, _, _, _, _, _, _, _, _, _, _, _, _, c, rfl, rfl, fun _ _ => rfl⟩
    rw [if_pos (show nI s < nI 30 by rw [nI_lt' (by omega) (by omega)]; exact hs30), if_neg (kn 18 (by omega) (by omega)), if_neg (kn 21 (by omega) (by omega))]
    unfold f_X12_readStep_57
    rw [if_neg (show ¬ nI s = nI 30 by rw [nI_eq' (by omega) (by omega)]; omega), if_pos (show nI 0 = 0 from rfl), if_pos (show nI 0 = 0 from rfl)]
    obtain ⟨pl1, nx1, kd1, kk1, wd1, nu1, nu21, le1, wd21, a1, T1, a3, a4⟩ := tk_next (fu := fu) h hK (a := nx) (by omega) hfu (nI kd) (nI pl) wd (kI kk) nu (nI kd) (nI pl) nu2 le wd2
    have t1 := T1.1
    unfold f_X6_takeStep_78
    rw [a3, bd_s]
    simp only
    rw [if_neg (show ¬ kI kk = nI 18 by rw [e17]; decide), show kI kk = nI 17 by rw [e17]; rfl]
    unfold f_X12_readStep_83
    rw [if_pos (show nI 0 ≤ 0 by decide), l0, l0, a4, bd_s]
    simp only
    rw [pk_mul, nI_add, nI_add, gi_n (by omega) (by omega), nI_cl (by omega)]
    rcases rest_17 (fu := fu) (ba := ba) (fk := fk) (fp := fp) (n0 := n0) (n1 := n1) (n2 := n2) (cn := cn) (sn := sn) (pn := pn) (W := W) (w := w) (s := s) (p := p) (op := op) (co := co) (ma := ma) (on := on) (ot := ot) (c := upd c (1673 + 9 * s) (nI 5)) h hK T1 hs30 (by omega) hfu updS with ⟨a, b, c1, y1, y2, y3, y4, y5, y6, r, pl', nx', kd', kk', wd', nu', nu2', le', wd2', g1, g2, g3, g4, g5, g6, g7, g8⟩ | ⟨k, p', g1, g2, u1, u2, u3, u4, u5, u6, y1, y2, y3, y4, y5, y6, y7, y8, c1, r, z1, z2, z3, z4, z5, z6, g3, g4, g5, g6, g7⟩
    · rw [g4, bd_s]
      simp only
      rw [g5, bd_s, g6, bd_s]
      rw [show isBk 17 = false from by decide] at g3 g7
      exact Or.inl ⟨17, false, a, b, c1, pl', nx', kd', kk', wd', nu', nu2', le', wd2', by omega, hnx, hs30, g2, by omega, (by decide), fun q => absurd q (by decide), g3, rfl, g7, fun i hi => by rw [g8 i hi, updN (by omega)]⟩
    · obtain ⟨N, hN1⟩ : ∃ N, fu = N + 1 := ⟨fu - 1, by omega⟩
      rw [g4, bd_s]
      simp only
      rw [g6, bd_s, g7, bd_s]
      simp only
      rw [show f_X12_readStep_142 fu (nI E) tq W REC fu = f_X12_readStep_142 fu (nI E) tq W REC (N + 1) from by rw [← hN1], b_142 g1 g2 hs30]
      exact Or.inr ⟨k, p', g1, g2, u1, u2, u3, u4, u5, u6, z1, z2, z3, z4, z5, z6, nI (s + 1), upd c1 (1673 + 9 * s + 8) (nI (s + 1)), g3, rfl, fun i hi => by rw [updN (by omega), g5 i (by omega), updN (by omega)]⟩
  by_cases e21 : kk = 21
  · have hkd1 : kd = 1 := Classical.byContradiction fun q => absurd (T.2.2.1 q) (by omega)
    have hnx : pl < nx := hT.2.2.2.2.2 (by omega)
    have kn : ∀ j, j < 24 → kk ≠ j → ¬ kI kk = nI j := fun j hj hne => by rw [kI_eq (by omega) hj]; exact hne
    rw [if_neg (show ¬ kI kk < nI 12 by rw [e21]; decide), if_neg (kn 19 (by omega) (by omega)), if_neg (kn 20 (by omega) (by omega)), show sKd kk = nI 7 by rw [e21]; rfl, if_neg (show ¬ nI 7 = nI 6 by decide), if_pos rfl]
    unfold f_X12_readStep_17 f_X12_readStep_22
    rw [if_pos (show 0 ≤ nI 7 by decide)]
    unfold f_X12_readStep_31
    rw [if_pos (show nI 0 = 0 from rfl)]
    by_cases hs30 : s < 30
    rotate_left
    · have e30 : s = 30 := by omega
      rw [if_neg (show ¬ nI s < nI 30 by rw [nI_lt' (by omega) (by omega)]; omega), c_fail (by omega), ofK_1 hkd1, bd_s, if_pos (show nI s = nI 30 by rw [e30]), m_fail0, bd_s]
      simp only
      rw [gd_0]
      unfold f_X12_readStep_57
      rw [if_neg (b_eq (k := 6) (by omega) (by omega)), fb 6 _ _ _ (by omega) (by omega)]
      exact Or.inr ⟨6, pl, by omega, by omega, _, _, _, _, _, _, _, _, _, _, _, _, _, c, rfl, rfl, fun _ _ => rfl⟩
    rw [if_pos (show nI s < nI 30 by rw [nI_lt' (by omega) (by omega)]; exact hs30), if_neg (kn 18 (by omega) (by omega)), if_pos (show kI kk = nI 21 by rw [e21]; rfl)]
    by_cases hw3 : w < 3
    rotate_left
    · have e3 : w = 3 := by omega
      unfold f_X6_takeStep_63 f_X12_readStep_57
      rw [if_neg (show ¬ nI w < nI 3 by rw [nI_lt' (by omega) (by omega)]; omega), c_fail (by omega), ofK_1 hkd1, bd_s, if_neg (show ¬ nI s = nI 30 by rw [nI_eq' (by omega) (by omega)]; omega), if_pos (show nI 0 = 0 from rfl), if_neg (show ¬ nI 1 = 0 by decide), if_pos (show nI w = nI 3 by rw [e3]), m_fail0, bd_s]
      simp only
      rw [gd_0, fb 7 _ _ _ (by omega) (by omega)]
      exact Or.inr ⟨7, pl, by omega, by omega, _, _, _, _, _, _, _, _, _, _, _, _, _, c, rfl, rfl, fun _ _ => rfl⟩
    unfold f_X6_takeStep_63
    rw [if_pos (show nI w < nI 3 by rw [nI_lt' (by omega) (by omega)]; exact hw3)]
    unfold f_X12_readStep_57
    rw [if_neg (show ¬ nI s = nI 30 by rw [nI_eq' (by omega) (by omega)]; omega), if_pos (show nI 0 = 0 from rfl), if_neg (show ¬ nI 1 = 0 by decide), if_neg (show ¬ nI w = nI 3 by rw [nI_eq' (by omega) (by omega)]; omega)]
    obtain ⟨pl1, nx1, kd1, kk1, wd1, nu1, nu21, le1, wd21, a1, T1, a3, a4⟩ := tk_next (fu := fu) h hK (a := nx) (by omega) hfu (nI kd) (nI pl) wd (kI kk) nu (nI kd) (nI pl) nu2 le wd2
    have t1 := T1.1
    unfold f_X6_takeStep_78
    rw [a3, bd_s]
    simp only
    rw [if_neg (show ¬ kI kk = nI 18 by rw [e21]; decide), show kI kk = nI 21 by rw [e21]; rfl]
    unfold f_X12_readStep_83
    rw [if_pos (show nI 0 ≤ 0 by decide), l0, l0, a4, bd_s]
    simp only
    rw [pk_mul, nI_add, nI_add, gi_n (by omega) (by omega), nI_cl (by omega)]
    rcases rest_21 (fu := fu) (ba := ba) (fk := fk) (fp := fp) (n0 := n0) (n1 := n1) (n2 := n2) (cn := cn) (sn := sn) (pn := pn) (W := W) (w := w) (s := s) (p := p) (op := op) (co := co) (ma := ma) (on := on) (ot := ot) (c := upd c (1673 + 9 * s) (nI 7)) h hK T1 hs30 (by omega) hfu hw3 updS with ⟨a, b, c1, y1, y2, y3, y4, y5, y6, r, pl', nx', kd', kk', wd', nu', nu2', le', wd2', g1, g2, g3, g4, g5, g6, g7, g8⟩ | ⟨k, p', g1, g2, u1, u2, u3, u4, u5, u6, y1, y2, y3, y4, y5, y6, y7, y8, c1, r, z1, z2, z3, z4, z5, z6, g3, g4, g5, g6, g7⟩
    · rw [g4, bd_s]
      simp only
      rw [g5, bd_s, g6, bd_s]
      rw [show isBk 21 = true from by decide] at g3 g7
      exact Or.inl ⟨21, true, a, b, c1, pl', nx', kd', kk', wd', nu', nu2', le', wd2', by omega, hnx, hs30, g2, by omega, (by decide), fun _ => hw3, g3, rfl, g7, fun i hi => by rw [g8 i hi, updN (by omega)]⟩
    · obtain ⟨N, hN1⟩ : ∃ N, fu = N + 1 := ⟨fu - 1, by omega⟩
      rw [g4, bd_s]
      simp only
      rw [g6, bd_s, g7, bd_s]
      simp only
      rw [show f_X12_readStep_142 fu (nI E) tq W REC fu = f_X12_readStep_142 fu (nI E) tq W REC (N + 1) from by rw [← hN1], b_142 g1 g2 hs30]
      exact Or.inr ⟨k, p', g1, g2, u1, u2, u3, u4, u5, u6, z1, z2, z3, z4, z5, z6, nI (s + 1), upd c1 (1673 + 9 * s + 8) (nI (s + 1)), g3, rfl, fun i hi => by rw [updN (by omega), g5 i (by omega), updN (by omega)]⟩
  by_cases e23 : kk = 23
  · have hkd1 : kd = 1 := Classical.byContradiction fun q => absurd (T.2.2.1 q) (by omega)
    have hnx : pl < nx := hT.2.2.2.2.2 (by omega)
    have kn : ∀ j, j < 24 → kk ≠ j → ¬ kI kk = nI j := fun j hj hne => by rw [kI_eq (by omega) hj]; exact hne
    rw [if_neg (show ¬ kI kk < nI 12 by rw [e23]; decide), if_neg (kn 19 (by omega) (by omega)), if_neg (kn 20 (by omega) (by omega)), show sKd kk = nI 8 by rw [e23]; rfl, if_neg (show ¬ nI 8 = nI 6 by decide), if_neg (show ¬ nI 8 = nI 7 by decide)]
    unfold f_X12_readStep_22
    rw [if_pos (show 0 ≤ nI 8 by decide)]
    unfold f_X12_readStep_31
    rw [if_pos (show nI 0 = 0 from rfl)]
    by_cases hs30 : s < 30
    rotate_left
    · have e30 : s = 30 := by omega
      rw [if_neg (show ¬ nI s < nI 30 by rw [nI_lt' (by omega) (by omega)]; omega), c_fail (by omega), ofK_1 hkd1, bd_s, if_pos (show nI s = nI 30 by rw [e30]), m_fail0, bd_s]
      simp only
      rw [gd_0]
      unfold f_X12_readStep_57
      rw [if_neg (b_eq (k := 6) (by omega) (by omega)), fb 6 _ _ _ (by omega) (by omega)]
      exact Or.inr ⟨6, pl, by omega, by omega, _, _, _, _, _, _, _, _, _, _, _, _, _, c, rfl, rfl, fun _ _ => rfl⟩
    rw [if_pos (show nI s < nI 30 by rw [nI_lt' (by omega) (by omega)]; exact hs30), if_neg (kn 18 (by omega) (by omega)), if_neg (kn 21 (by omega) (by omega))]
    unfold f_X12_readStep_57
    rw [if_neg (show ¬ nI s = nI 30 by rw [nI_eq' (by omega) (by omega)]; omega), if_pos (show nI 0 = 0 from rfl), if_pos (show nI 0 = 0 from rfl)]
    obtain ⟨pl1, nx1, kd1, kk1, wd1, nu1, nu21, le1, wd21, a1, T1, a3, a4⟩ := tk_next (fu := fu) h hK (a := nx) (by omega) hfu (nI kd) (nI pl) wd (kI kk) nu (nI kd) (nI pl) nu2 le wd2
    have t1 := T1.1
    unfold f_X6_takeStep_78
    rw [a3, bd_s]
    simp only
    rw [if_neg (show ¬ kI kk = nI 18 by rw [e23]; decide), show kI kk = nI 23 by rw [e23]; rfl]
    unfold f_X12_readStep_83
    rw [if_pos (show nI 0 ≤ 0 by decide), l0, l0, a4, bd_s]
    simp only
    rw [pk_mul, nI_add, nI_add, gi_n (by omega) (by omega), nI_cl (by omega)]
    rcases rest_23 (fu := fu) (ba := ba) (fk := fk) (fp := fp) (n0 := n0) (n1 := n1) (n2 := n2) (cn := cn) (sn := sn) (pn := pn) (W := W) (w := w) (s := s) (p := p) (op := op) (co := co) (ma := ma) (on := on) (ot := ot) (c := upd c (1673 + 9 * s) (nI 8)) h hK T1 hs30 (by omega) hfu updS with ⟨a, b, c1, y1, y2, y3, y4, y5, y6, r, pl', nx', kd', kk', wd', nu', nu2', le', wd2', g1, g2, g3, g4, g5, g6, g7, g8⟩ | ⟨k, p', g1, g2, u1, u2, u3, u4, u5, u6, y1, y2, y3, y4, y5, y6, y7, y8, c1, r, z1, z2, z3, z4, z5, z6, g3, g4, g5, g6, g7⟩
    · rw [g4, bd_s]
      simp only
      rw [g5, bd_s, g6, bd_s]
      rw [show isBk 23 = false from by decide] at g3 g7
      exact Or.inl ⟨23, false, a, b, c1, pl', nx', kd', kk', wd', nu', nu2', le', wd2', by omega, hnx, hs30, g2, by omega, (by decide), fun q => absurd q (by decide), g3, rfl, g7, fun i hi => by rw [g8 i hi, updN (by omega)]⟩
    · obtain ⟨N, hN1⟩ : ∃ N, fu = N + 1 := ⟨fu - 1, by omega⟩
      rw [g4, bd_s]
      simp only
      rw [g6, bd_s, g7, bd_s]
      simp only
      rw [show f_X12_readStep_142 fu (nI E) tq W REC fu = f_X12_readStep_142 fu (nI E) tq W REC (N + 1) from by rw [← hN1], b_142 g1 g2 hs30]
      exact Or.inr ⟨k, p', g1, g2, u1, u2, u3, u4, u5, u6, z1, z2, z3, z4, z5, z6, nI (s + 1), upd c1 (1673 + 9 * s + 8) (nI (s + 1)), g3, rfl, fun i hi => by rw [updN (by omega), g5 i (by omega), updN (by omega)]⟩
  by_cases e18 : kk = 18
  · have hkd1 : kd = 1 := Classical.byContradiction fun q => absurd (T.2.2.1 q) (by omega)
    have hnx : pl < nx := hT.2.2.2.2.2 (by omega)
    have kn : ∀ j, j < 24 → kk ≠ j → ¬ kI kk = nI j := fun j hj hne => by rw [kI_eq (by omega) hj]; exact hne
    rw [if_neg (show ¬ kI kk < nI 12 by rw [e18]; decide), if_neg (kn 19 (by omega) (by omega)), if_neg (kn 20 (by omega) (by omega)), show sKd kk = nI 6 by rw [e18]; rfl, if_pos rfl]
    unfold f_X12_readStep_17 f_X12_readStep_22
    rw [if_pos (show 0 ≤ nI 6 by decide)]
    unfold f_X12_readStep_31
    rw [if_pos (show nI 0 = 0 from rfl)]
    by_cases hs30 : s < 30
    rotate_left
    · have e30 : s = 30 := by omega
      rw [if_neg (show ¬ nI s < nI 30 by rw [nI_lt' (by omega) (by omega)]; omega), c_fail (by omega), ofK_1 hkd1, bd_s, if_pos (show nI s = nI 30 by rw [e30]), m_fail0, bd_s]
      simp only
      rw [gd_0]
      unfold f_X12_readStep_57
      rw [if_neg (b_eq (k := 6) (by omega) (by omega)), fb 6 _ _ _ (by omega) (by omega)]
      exact Or.inr ⟨6, pl, by omega, by omega, _, _, _, _, _, _, _, _, _, _, _, _, _, c, rfl, rfl, fun _ _ => rfl⟩
    rw [if_pos (show nI s < nI 30 by rw [nI_lt' (by omega) (by omega)]; exact hs30), if_pos (show kI kk = nI 18 by rw [e18]; rfl)]
    by_cases hw3 : w < 3
    rotate_left
    · have e3 : w = 3 := by omega
      unfold f_X6_takeStep_63 f_X12_readStep_57
      rw [if_neg (show ¬ nI w < nI 3 by rw [nI_lt' (by omega) (by omega)]; omega), c_fail (by omega), ofK_1 hkd1, bd_s, if_neg (show ¬ nI s = nI 30 by rw [nI_eq' (by omega) (by omega)]; omega), if_pos (show nI 0 = 0 from rfl), if_neg (show ¬ nI 1 = 0 by decide), if_pos (show nI w = nI 3 by rw [e3]), m_fail0, bd_s]
      simp only
      rw [gd_0, fb 7 _ _ _ (by omega) (by omega)]
      exact Or.inr ⟨7, pl, by omega, by omega, _, _, _, _, _, _, _, _, _, _, _, _, _, c, rfl, rfl, fun _ _ => rfl⟩
    unfold f_X6_takeStep_63
    rw [if_pos (show nI w < nI 3 by rw [nI_lt' (by omega) (by omega)]; exact hw3)]
    unfold f_X12_readStep_57
    rw [if_neg (show ¬ nI s = nI 30 by rw [nI_eq' (by omega) (by omega)]; omega), if_pos (show nI 0 = 0 from rfl), if_neg (show ¬ nI 1 = 0 by decide), if_neg (show ¬ nI w = nI 3 by rw [nI_eq' (by omega) (by omega)]; omega)]
    obtain ⟨pl1, nx1, kd1, kk1, wd1, nu1, nu21, le1, wd21, a1, T1, a3, a4⟩ := tk_next (fu := fu) h hK (a := nx) (by omega) hfu (nI kd) (nI pl) wd (kI kk) nu (nI kd) (nI pl) nu2 le wd2
    have t1 := T1.1
    unfold f_X6_takeStep_78
    rw [a3, bd_s]
    simp only
    rw [if_pos (show kI kk = nI 18 by rw [e18]; rfl)]
    unfold f_X12_readStep_83
    rw [if_pos (show nI 0 ≤ 0 by decide), l0, l0, a4, bd_s]
    simp only
    rw [pk_mul, nI_add, nI_add, gi_n (by omega) (by omega), nI_cl (by omega)]
    rcases r_whenS (fu := fu) (ba := ba) (fk := fk) (fp := fp) (n0 := n0) (n1 := n1) (n2 := n2) (cn := cn) (sn := sn) (pn := pn) (W := W) (w := w) (s := s) (p := p) (op := op) (co := co) (ma := ma) (on := on) (ot := ot) (c := upd c (1673 + 9 * s) (nI 6)) h hK T1 hs30 (by omega) hfu updS (by rw [updN (by omega)]; exact hc0) (by rw [updN (by omega)]; exact hc1) (by rw [updN (by omega)]; exact hc2) h8 h61 h62 hN hw3 with ⟨cd, a, b, c1, y1, y2, y3, y4, y5, y6, r, pl', nx', kd', kk', wd', nu', nu2', le', wd2', g1, g2, g3, g4, g5, g6, gcd, gbk, g7, g8⟩ | ⟨k, p', g1, g2, u1, u2, u3, u4, u5, u6, y1, y2, y3, y4, y5, y6, y7, y8, c1, r, z1, z2, z3, z4, z5, z6, g3, g4, g5, g6, g7⟩
    · rw [g4, bd_s]
      simp only
      rw [g5, bd_s, g6, bd_s]
      rw [gbk] at g3 g7
      exact Or.inl ⟨cd, true, a, b, c1, pl', nx', kd', kk', wd', nu', nu2', le', wd2', by omega, hnx, hs30, g2, by omega, gbk, fun _ => hw3, g3, rfl, g7, fun i hi => by rw [g8 i hi, updN (by omega)]⟩
    · obtain ⟨N, hN1⟩ : ∃ N, fu = N + 1 := ⟨fu - 1, by omega⟩
      rw [g4, bd_s]
      simp only
      rw [g6, bd_s, g7, bd_s]
      simp only
      rw [show f_X12_readStep_142 fu (nI E) tq W REC fu = f_X12_readStep_142 fu (nI E) tq W REC (N + 1) from by rw [← hN1], b_142 g1 g2 hs30]
      exact Or.inr ⟨k, p', g1, g2, u1, u2, u3, u4, u5, u6, z1, z2, z3, z4, z5, z6, nI (s + 1), upd c1 (1673 + 9 * s + 8) (nI (s + 1)), g3, rfl, fun i hi => by rw [updN (by omega), g5 i (by omega), updN (by omega)]⟩
  -- no STEP begins so
  have hb := fK_b (kd := kd) (x := 2) (by omega) (by omega)
  have ek : sKd kk = (-1 : Int32) := by
    unfold sKd
    rw [if_neg e12, if_neg e13, if_neg e14, if_neg e15, if_neg e16, if_neg e17, if_neg e18, if_neg e21, if_neg e23]
  have em : f_X12_readStep_22 fu (nI E) tq W REC (nI w) (-1 : Int32) (nI 0) (nI 0) ba (nI kd) (nI pl) (nI nx) nu2 le wd2 (nI s) c = some (nI (fK kd 2), nI pl, nI kd, nI pl, nI nx, nu2, le, wd2, nI s, c) := by
    unfold f_X12_readStep_22
    rw [if_neg (show ¬ 0 ≤ (-1 : Int32) by decide), m_amiss (by omega), fK_nI, bd_s]
    simp only
    unfold f_X12_readStep_31
    rw [if_neg (b_eq hb.1 hb.2)]
    unfold f_X12_readStep_57
    rw [if_neg (b_eq hb.1 hb.2), fb _ _ _ _ hb.1 hb.2]
  rw [ek, if_neg (show ¬ (-1 : Int32) = nI 6 by decide), if_neg (show ¬ (-1 : Int32) = nI 7 by decide), em]
  have hkk := hT.2.2.2.1
  have fin : ∀ X, X = some (nI 0, nI w, op, nI nx, nI kd, nI pl, wd, kI kk, nu, nI (fK kd 2), nI pl, nI s, nI p, co, ma, on, ot) → (∃ k p', 1 ≤ k ∧ k ≤ 7 ∧ ∃ u1 u2 u3 : Int32, ∃ u4 : Int64, ∃ u5 u6 z1 z2 z3 z4 z5 : Int32, ∃ (z6 : Int64) (x : Int32) (c1 : Nat → Int32), X = some (nI 0, nI w, op, u1, u2, u3, u4, u5, u6, nI k, nI p', nI s, nI p, co, ma, on, ot) ∧ some (nI (fK kd 2), nI pl, nI kd, nI pl, nI nx, nu2, le, wd2, nI s, c) = some (nI k, nI p', z1, z2, z3, z4, z5, z6, x, c1) ∧ (∀ i, i < 1673 → c1 i = c i)) := by
    intro X hX
    exact ⟨fK kd 2, pl, hb.1, hb.2, _, _, _, _, _, _, _, _, _, _, _, _, _, c, hX, rfl, fun _ _ => rfl⟩
  refine Or.inr (fin _ ?_)
  rw [c_fail (by omega), fK_nI, bd_s]
  simp only
  rw [gd_0]
  by_cases el : kI kk < nI 12
  · rw [if_pos el]
  · rw [if_neg el]
    by_cases e19 : kk = 19
    · rw [if_pos (show kI kk = nI 19 by rw [e19]; rfl)]
    · rw [if_neg (show ¬ kI kk = nI 19 by rw [kI_eq hkk (by omega)]; exact e19)]
      by_cases e20 : kk = 20
      · rw [if_pos (show kI kk = nI 20 by rw [e20]; rfl)]
      · exfalso
        by_cases e24 : kk = 24
        · rw [e24] at el
          exact el (by decide)
        · have : kI kk = nI kk := kI_lt (by omega)
          rw [this, nI_lt' (by omega) (by omega)] at el
          omega
end HD
