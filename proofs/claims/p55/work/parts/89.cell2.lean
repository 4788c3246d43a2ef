/-! a CELL that is told: whole -/
section CF
variable {B : Nat → Nat} {E fu : Nat} {tp tq : Nat → Int32} {K : Nat → Int64} {pl nx kd kk : Nat} {wd wd2 : Int64} {nu nu2 le fk fp ba : Int32} {c : Nat → Int32} {σ : Nat → Nat} {wds cn sn pn : Nat → Int64} {lt rm sp : Nat → Int32}
theorem nm_cell {w' : Int64} {v : Nat} {b r : Bool} (hN : NM 4 cn sn pn wds (σ 0) (σ 1) (σ 2)) (h8 : σ 0 < 8) : NM 4 (vp_updL cn (σ 0) w') sn pn (vp_updL wds (80 + fr 0 + σ 0) w') (sCl σ v b r 0) (sCl σ v b r 1) (sCl σ v b r 2) := by
  obtain ⟨n0, n1, n2⟩ := hN
  rw [sCl_0, sCl_ne (i := 1) (by omega) (by omega) (by omega) (by omega), sCl_ne (i := 2) (by omega) (by omega) (by omega) (by omega)]
  refine ⟨fun k hk => ?_, fun k hk => ?_, fun k hk => ?_⟩
  · show (if k = σ 0 then w' else cn k) = (if 20 * 4 + fr 0 + k = 80 + fr 0 + σ 0 then w' else wds (20 * 4 + fr 0 + k))
    by_cases e : k = σ 0
    · rw [if_pos e, if_pos (by omega)]
    · rw [if_neg e, if_neg (by omega)]
      exact n0 k (by omega)
  · rw [n1 k hk]
    exact (if_neg (by rw [fr0, fr1]; omega)).symm
  · rw [n2 k hk]
    exact (if_neg (by rw [fr0, fr2]; omega)).symm
theorem r_takeCell (h : TX B E tp tq) (hK : ∀ k, k < 24 → K k = lN (KEY k)) (T : TOK B E pl nx kd kk wd nu nu2 le wd2) (hkd : kd = 1) (w : WD σ) (hN : NM 4 cn sn pn wds (σ 0) (σ 1) (σ 2)) (hfu : 2000 < fu) :
    (∃ (σ' : Nat → Nat) (cn' wds' : Nat → Int64), ∃ y1 y2 y3 y4 y5 y6 r pl' nx' kd' kk' wd' nu' nu2' le' wd2', nx ≤ pl' ∧ TOK B E pl' nx' kd' kk' wd' nu' nu2' le' wd2' ∧
      f_X2_takeCell fu (nI E) (nI nx) (nI kd) (nI pl) wd (kI kk) nu fk fp K tp (nI (σ 0)) (nI (σ 1)) (nI (σ 2)) (nI (sB σ)) (nI (sR σ)) cn pn sn (aP sp σ) = some (nI 1, nI nx', nI kd', nI pl', wd', kI kk', nu', fk, fp, nI (σ' 0), nI (sB σ'), nI (sR σ'), cn', aP sp σ') ∧
      f_X12_readCell fu (nI E) (nI 0) ba (nI kd) (nI pl) (nI nx) nu2 le wd2 (mk4 c σ) tq wds = some (nI 0, ba, y1, y2, y3, y4, y5, y6, mk4 c σ', wds') ∧
      f_X12_isSign (nI 59) y1 y4 = some r ∧ f_X12_must fu r (nI E) (nI 0) ba y1 y2 y3 y4 y5 y6 tq = some (nI 0, ba, nI kd', nI pl', nI nx', nu2', le', wd2') ∧
      WD σ' ∧ NM 4 cn' sn pn wds' (σ' 0) (σ' 1) (σ' 2) ∧ (∀ i, i ≠ 0 → ¬ (9 ≤ i ∧ i < 33) → σ' i = σ i) ∧ (∀ i, i < 80 → wds' i = wds i)) ∨
    (∃ k p, 1 ≤ k ∧ k ≤ 7 ∧ ∃ u1 u2 u3 : Int32, ∃ u4 : Int64, ∃ u5 u6 o1 o2 o3 : Int32, ∃ (o4 : Nat → Int64) (o5 : Nat → Int32), ∃ y1 y2 y3 y4 y5 y6 y7 : Int32, ∃ y8 : Int64, ∃ (c' : Nat → Int32) (wds' : Nat → Int64), ∃ r z1 z2 z3 z4 z5 : Int32, ∃ z6 : Int64,
      f_X2_takeCell fu (nI E) (nI nx) (nI kd) (nI pl) wd (kI kk) nu fk fp K tp (nI (σ 0)) (nI (σ 1)) (nI (σ 2)) (nI (sB σ)) (nI (sR σ)) cn pn sn (aP sp σ) = some (nI 0, u1, u2, u3, u4, u5, u6, nI k, nI p, o1, o2, o3, o4, o5) ∧
      f_X12_readCell fu (nI E) (nI 0) ba (nI kd) (nI pl) (nI nx) nu2 le wd2 (mk4 c σ) tq wds = some (y1, y2, y3, y4, y5, y6, y7, y8, c', wds') ∧
      (∀ i, i < 1560 → c' i = c i) ∧ (∀ i, i < 80 → wds' i = wds i) ∧
      f_X12_isSign (nI 59) y3 y6 = some r ∧ f_X12_must fu r (nI E) y1 y2 y3 y4 y5 y6 y7 y8 tq = some (nI k, nI p, z1, z2, z3, z4, z5, z6)) := by
  have hT := T.1
  obtain ⟨⟨h0, h1, h2, h3⟩, -⟩ := id w
  have q0 : mk4 c σ 1560 = nI (σ 0) := mk4_in (i := 0) (by omega)
  have q1 : mk4 c σ 1561 = nI (σ 1) := mk4_in (i := 1) (by omega)
  have q2 : mk4 c σ 1562 = nI (σ 2) := mk4_in (i := 2) (by omega)
  have low0 : ∀ i, i < 1560 → mk4 c σ i = c i := fun i hi => mk4_lo hi
  unfold f_X2_takeCell f_X12_readCell
  by_cases e8 : σ 0 < 8
  · rw [if_pos (show nI (σ 0) < nI 8 by rw [nI_lt' (by omega) (by omega)]; exact e8)]
    obtain ⟨z1, z2, z3, z4, z5, z6, f1, f2⟩ := r_new (fu := fu) (ba := ba) (fk := fk) (fp := fp) (s := 0) (n := σ 0) (most := 8) (c := mk4 c σ) h hK T (by omega) q0 e8 rfl h0 h1 h2 q0 q1 q2 hN hfu
    rw [f1, bd_s]
    rcases f2 with ⟨w', pl1, nx1, kd1, kk1, wd1, nu1, nu21, le1, wd21, a1, a2, T1, a4, a5⟩ | ⟨k, p, b1, b2, u1, u2, u3, u4, u5, u6, w1, w2, w3, w4, w5, w6, b3, b4⟩
    · have t1 := T1.1
      have hcx : ∀ {α : Type} (x y : α), (if lg_cmp w' (-1 : Int64) = 0 then x else y) = y := fun x y => if_neg (by rw [lg_eq0]; exact a2)
      simp only [a4, a5, bd_s, hcx]
      -- what comes behind the pricks
      have fin : ∀ (v : Nat) {pl2 nx2 kd2 kk2 : Nat} {wd2' wd22 : Int64} {nuq nu22 le2 : Int32}, v ≤ 20 → nx ≤ nx2 → TOK B E pl2 nx2 kd2 kk2 wd2' nuq nu22 le2 wd22 →
          (∃ (σ' : Nat → Nat) (cn' wds' : Nat → Int64), ∃ y1 y2 y3 y4 y5 y6 r pl' nx' kd' kk' wd' nu' nu2' le' wd2'', nx ≤ pl' ∧ TOK B E pl' nx' kd' kk' wd' nu' nu2' le' wd2'' ∧
            f_X2_takeCell_55 fu (nI E) K tp (nI (σ 1)) (nI (σ 2)) pn sn w' (nI v) (nI nx2) (nI kd2) (nI pl2) wd2' (kI kk2) nuq fk fp (nI (σ 0)) (nI (sB σ)) (nI (sR σ)) cn (aP sp σ) = some (nI 1, nI nx', nI kd', nI pl', wd', kI kk', nu', fk, fp, nI (σ' 0), nI (sB σ'), nI (sR σ'), cn', aP sp σ') ∧
            f_X12_readCell_39 fu (nI E) tq (nI (σ 0)) (nI 1569 + nI (σ 0)) (nI v) (nI 0) ba (nI kd2) (nI pl2) (nI nx2) nu22 le2 wd22 (mk4 c σ) (vp_updL wds (80 + fr 0 + σ 0) w') = some (nI 0, ba, y1, y2, y3, y4, y5, y6, mk4 c σ', wds') ∧
            f_X12_isSign (nI 59) y1 y4 = some r ∧ f_X12_must fu r (nI E) (nI 0) ba y1 y2 y3 y4 y5 y6 tq = some (nI 0, ba, nI kd', nI pl', nI nx', nu2', le', wd2'') ∧
            WD σ' ∧ NM 4 cn' sn pn wds' (σ' 0) (σ' 1) (σ' 2) ∧ (∀ i, i ≠ 0 → ¬ (9 ≤ i ∧ i < 33) → σ' i = σ i) ∧ (∀ i, i < 80 → wds' i = wds i)) ∨
          (∃ k p, 1 ≤ k ∧ k ≤ 7 ∧ ∃ u1 u2 u3 : Int32, ∃ u4 : Int64, ∃ u5 u6 o1 o2 o3 : Int32, ∃ (o4 : Nat → Int64) (o5 : Nat → Int32), ∃ y1 y2 y3 y4 y5 y6 y7 : Int32, ∃ y8 : Int64, ∃ (c' : Nat → Int32) (wds' : Nat → Int64), ∃ r z1 z2 z3 z4 z5 : Int32, ∃ z6 : Int64,
            f_X2_takeCell_55 fu (nI E) K tp (nI (σ 1)) (nI (σ 2)) pn sn w' (nI v) (nI nx2) (nI kd2) (nI pl2) wd2' (kI kk2) nuq fk fp (nI (σ 0)) (nI (sB σ)) (nI (sR σ)) cn (aP sp σ) = some (nI 0, u1, u2, u3, u4, u5, u6, nI k, nI p, o1, o2, o3, o4, o5) ∧
            f_X12_readCell_39 fu (nI E) tq (nI (σ 0)) (nI 1569 + nI (σ 0)) (nI v) (nI 0) ba (nI kd2) (nI pl2) (nI nx2) nu22 le2 wd22 (mk4 c σ) (vp_updL wds (80 + fr 0 + σ 0) w') = some (y1, y2, y3, y4, y5, y6, y7, y8, c', wds') ∧
            (∀ i, i < 1560 → c' i = c i) ∧ (∀ i, i < 80 → wds' i = wds i) ∧
            f_X12_isSign (nI 59) y3 y6 = some r ∧ f_X12_must fu r (nI E) y1 y2 y3 y4 y5 y6 y7 y8 tq = some (nI k, nI p, z1, z2, z3, z4, z5, z6)) := by
        intro v pl2 nx2 kd2 kk2 wd2' wd22 nuq nu22 le2 hv hnx T2
        rw [nI_add]
        rcases r_39 (fu := fu) (ba := ba) (fk := fk) (fp := fp) (c := c) (σ := σ) (wds := vp_updL wds (80 + fr 0 + σ 0) w') (w' := w') (cn := cn) (sn := sn) (pn := pn) (sp := sp) h hK T2 w e8 hv hfu with ⟨b, r, y1, y2, y3, y4, y5, y6, rs, pl', nx', kd', kk', wd', nu', nu2', le', wd2', d1, T', d3, d4, d5, d6⟩ | ⟨k, p, b1, b2, u1, u2, u3, u4, u5, u6, y1, y2, y3, y4, y5, y6, y7, y8, c', rs, z1, z2, z3, z4, z5, z6, d3, d4, d5, d6, d7⟩
        · rw [show σ 0 + 1 = sCl σ v b r 0 from sCl_0.symm] at d3
          exact Or.inl ⟨sCl σ v b r, _, _, y1, y2, y3, y4, y5, y6, rs, pl', nx', kd', kk', wd', nu', nu2', le', wd2', by omega, T', d3, d4, d5, d6, wd_cell w e8 hv, nm_cell hN e8, fun i hi1 hi2 => sCl_ne hi1 (by omega) (by omega) (by omega), fun i hi => if_neg (by omega)⟩
        · exact Or.inr ⟨k, p, b1, b2, u1, u2, u3, u4, u5, u6, _, _, _, _, _, y1, y2, y3, y4, y5, y6, y7, y8, c', _, rs, z1, z2, z3, z4, z5, z6, d3, d4, d5, fun i hi => if_neg (by omega), d6, d7⟩
      rw [m_isPricks T1, bd_s]
      rcases r_skip (fu := fu) (ba := ba) (w := 1) h hK T1 (by omega) hfu with ⟨pl2, nx2, kd2, kk2, wd2', nu2', nu22, le2, wd22, g0, g1, T2, g3, g4, g5⟩ | ⟨g0, g1, g2, g3⟩
      · have t2 := T2.1
        rw [g3, bd_s, g4, bd_s]
        simp only
        rw [if_neg (show ¬ nI 1 = 0 by decide), if_neg (show ¬ nI 1 = 0 by decide)]
        rcases r_num (fu := fu) (ba := ba) (fk := fk) (fp := fp) (lo := 0) (hi := 20) h hK T2 (by omega) (by omega) hfu with ⟨v, pl3, nx3, kd3, kk3, wd3, nu3, nu23, le3, wd23, i0, i1, i2, i3, T3, i5, i6⟩ | ⟨k, i1, i2, i3, i4⟩
        · have t3 := T3.1
          rw [i5, bd_s, i6, bd_s]
          simp only
          exact fin v i1 (by omega) T3
        · rw [i3, bd_s, i4, bd_s]
          simp only
          rw [nI_add]
          obtain ⟨c', j1, j2⟩ := b_39 (tq := tq) (fu := fu) (wds := vp_updL wds (80 + fr 0 + σ 0) w') (k := k) (n := σ 0) (p := nI pl2) (y1 := nI kd2) (y2 := nI pl2) (y3 := nI nx2) (y4 := nu22) (y5 := le2) (y6 := wd22) (x := nI 0) (E' := nI E) i1 i2 e8 low0
          obtain ⟨r2, hr2⟩ := is_some (nI kd2) nu22
          unfold f_X2_takeCell_55
          rw [if_pos rfl, j1]
          exact Or.inr ⟨k, pl2, i1, i2, _, _, _, _, _, _, _, _, _, _, _, _, _, _, _, _, _, _, _, _, _, r2, _, _, _, _, _, _, rfl, rfl, j2, fun i hi => if_neg (by omega), hr2, b_must i1 i2⟩
      · rw [g1, bd_s, g2, bd_s]
        simp only
        rw [if_pos (show nI 0 = 0 from rfl), if_pos (show nI 0 = 0 from rfl)]
        exact fin 5 (by omega) (by omega) T1
    · have hcx : ∀ {α : Type} (x y : α), (if lg_cmp (-1 : Int64) (-1 : Int64) = 0 then x else y) = x := fun x y => if_pos (by decide)
      simp only [b3, b4, bd_s, hcx]
      obtain ⟨r1, hr1⟩ := isPr_some w1 w6
      obtain ⟨r2, hr2⟩ := is_some w1 w4
      obtain ⟨c', j1, j2⟩ := b_39 (tq := tq) (fu := fu) (wds := wds) (k := k) (n := 0) (p := nI p) (y1 := w1) (y2 := w2) (y3 := w3) (y4 := w4) (y5 := w5) (y6 := w6) (x := nI 5) (E' := nI E) b1 b2 (by omega) low0
      rw [hr1, bd_s, b_perhaps b1 b2, bd_s]
      simp only
      rw [if_pos (show nI 0 = 0 from rfl), nI_add, j1]
      exact Or.inr ⟨k, p, b1, b2, _, _, _, _, _, _, _, _, _, _, _, _, _, _, _, _, _, _, _, _, _, r2, _, _, _, _, _, _, rfl, rfl, j2, fun _ _ => rfl, hr2, b_must b1 b2⟩
  · obtain ⟨r2, hr2⟩ := is_some (nI kd) nu2
    have e7 : σ 0 = 8 := by omega
    obtain ⟨c', j1, j2⟩ := b_39 (tq := tq) (fu := fu) (wds := wds) (k := 6) (n := 0) (p := nI pl) (y1 := nI kd) (y2 := nI pl) (y3 := nI nx) (y4 := nu2) (y5 := le) (y6 := wd2) (x := nI 5) (E' := nI E) (by omega) (by omega) (by omega) low0
    have hn : f_X12_readNew fu (nI 0) (nI 8) (nI E) (nI 0) ba (nI kd) (nI pl) (nI nx) nu2 le wd2 (mk4 c σ) tq wds = some (nI 0, nI 6, nI pl, nI kd, nI pl, nI nx, nu2, le, wd2, wds) := by
      unfold f_X12_readNew
      simp (disch := omega) only [nI_add, gi_n, nI_cl, Nat.add_zero, q0, lt_]
      rw [if_pos (show nI (σ 0) = nI 8 by rw [e7]), m_fail0, bd_s]
      show f_X12_readNew_26 fu (nI E) (mk4 c σ) tq (nI 0) (nI (σ 0)) (nI 6) (nI pl) (nI kd) (nI pl) (nI nx) nu2 le wd2 wds = _
      unfold f_X12_readNew_26
      rw [if_neg (b_le (k := 6) (by omega) (by omega))]
    rw [if_neg (show ¬ nI (σ 0) < nI 8 by rw [nI_lt' (by omega) (by omega)]; exact e8), c_fail (by omega), bd_s, ofK_1 hkd, hn, bd_s]
    simp only
    rw [m_isPricks T, bd_s, b_perhaps (by omega) (by omega), bd_s]
    simp only
    rw [if_pos (show nI 0 = 0 from rfl), nI_add, j1]
    exact Or.inr ⟨6, pl, by omega, by omega, _, _, _, _, _, _, _, _, _, _, _, _, _, _, _, _, _, _, _, _, _, r2, _, _, _, _, _, _, gd_0 _, rfl, j2, fun _ _ => rfl, hr2, b_must (by omega) (by omega)⟩
end CF
