/-! rounds(n) on both sides -/
section RC
variable {b1 b2 b3 b4 b5 b8 b9 b10 b11 b12 b13 b23 b24 b25 : Int32} {b6 b21 b30 : Nat → Int64} {b7 b14 b15 b16 b17 b18 b19 b20 b22 b26 b27 b28 b29 b31 : Nat → Int32} {fu T : Nat} {K : Nat → Int64} {tp tq c : Nat → Int32} {W : Nat → Int64} {n st st2 th d23 d24 d25 dp e1 e2 e3 e4 e6 e7 e8 e9 m1 m4 m5 m6 m7 m8 m9 m10 m12 : Int32} {e5 m11 : Int64} {d26 d27 d28 d29 op : Nat → Int32}
set_option maxRecDepth 100000 in
set_option maxHeartbeats 4000000 in
theorem r_rounds (hK : ∀ k, k < 24 → K k = lN (KEY k)) (hT : TpRel T tp tq) (hb : BKb b1 b2 b3 b4 b5 b6 b7 b8 b9 b10 b11 b12 b13 b14 b15 b16 b17 b18 b19 b20 b21 b22 b23 b24 b25 b26 b27 b28 b29 b30 b31 0 c W) (hfu : 4000 < fu) :
    ∃ (r s : Int32), ∃ T' : Nat, ∃ p23 p24 p25 p26 p27 p28 p29, ∃ q23 q24 q25 q26 q27 q28 q29, ∃ dp' op', ∃ e1' e2' e3' e4' e5' e6' e7' e8' e9' m1' m4' m5' m6' m7' m8' m9' m10' m11' m12' c',
      f_X11_rounds fu n st b1 b2 b3 b6 b21 b23 b24 b25 b26 b27 b28 b29 b30 d23 d24 d25 d26 d27 d28 d29 dp op (nI T) e1 e2 e3 e4 e5 e6 e7 e8 e9 K tp = some (r, s, p23, p24, p25, p26, p27, p28, p29, q23, q24, q25, q26, q27, q28, q29, dp', op', nI T', e1', e2', e3', e4', e5', e6', e7', e8', e9') ∧
      f_X12_rounds fu n st2 th (nI T) m1 e8 e9 m4 m5 m6 m7 m8 m9 m10 m11 m12 c tq W = some (r, s, nI 0, nI T', m1', e8', e9', m4', m5', m6', m7', m8', m9', m10', m11', m12', c') ∧
      BKb b1 b2 b3 b4 b5 b6 b7 b8 b9 b10 b11 b12 b13 b14 b15 b16 b17 b18 b19 b20 b21 b22 p23 p24 p25 p26 p27 p28 p29 b30 b31 0 c' W ∧ T' ≤ T ∧ (∀ i, 390 ≤ i → i < 1560 → c' i = c i) := by
  have hT9 := hT.1
  unfold f_X11_rounds f_X12_rounds
  have no : ∀ (hst : f_X12_starts fu n (nI 300) (nI 0) (nI T) m1 m4 m6 m7 m8 m9 m10 m11 tq = some (nI 0, nI 5, nI T, m1, m4, m6, m7, m8, m9, m10, m11)) (X : Option (Int32 × Int32 × Int32 × Int32 × Int32 × (Nat → Int32) × (Nat → Int32) × (Nat → Int32) × (Nat → Int32) × Int32 × Int32 × Int32 × (Nat → Int32) × (Nat → Int32) × (Nat → Int32) × (Nat → Int32) × Int32 × (Nat → Int32) × Int32 × Int32 × Int32 × Int32 × Int32 × Int64 × Int32 × Int32 × Int32 × Int32)) (hX : X = some ((-1 : Int32), nI 5, b23, b24, b25, b26, b27, b28, b29, d23, d24, d25, d26, d27, d28, d29, dp, op, nI T, e1, e2, e3, e4, e5, e6, e7, e8, e9)),
      ∃ (r s : Int32), ∃ T' : Nat, ∃ p23 p24 p25 p26 p27 p28 p29, ∃ q23 q24 q25 q26 q27 q28 q29, ∃ dp' op', ∃ e1' e2' e3' e4' e5' e6' e7' e8' e9' m1' m4' m5' m6' m7' m8' m9' m10' m11' m12' c',
      X = some (r, s, p23, p24, p25, p26, p27, p28, p29, q23, q24, q25, q26, q27, q28, q29, dp', op', nI T', e1', e2', e3', e4', e5', e6', e7', e8', e9') ∧
      f_X12_rounds fu n st2 th (nI T) m1 e8 e9 m4 m5 m6 m7 m8 m9 m10 m11 m12 c tq W = some (r, s, nI 0, nI T', m1', e8', e9', m4', m5', m6', m7', m8', m9', m10', m11', m12', c') ∧
      BKb b1 b2 b3 b4 b5 b6 b7 b8 b9 b10 b11 b12 b13 b14 b15 b16 b17 b18 b19 b20 b21 b22 p23 p24 p25 p26 p27 p28 p29 b30 b31 0 c' W ∧ T' ≤ T ∧ (∀ i, 390 ≤ i → i < 1560 → c' i = c i) := by
    intro hst X hX
    unfold f_X12_rounds
    rw [hst, bd_s]
    simp only
    rw [if_pos (show nI 0 = 0 from rfl), hX]
    exact ⟨_, _, T, _, _, _, _, _, _, _, _, _, _, _, _, _, _, _, _, _, _, _, _, _, _, _, _, _, _, _, _, _, _, _, _, _, _, _, c, rfl, rfl, hb, Nat.le_refl _, fun _ _ _ => rfl⟩
  by_cases hn0 : n < 0
  · have hst : f_X12_starts fu n (nI 300) (nI 0) (nI T) m1 m4 m6 m7 m8 m9 m10 m11 tq = some (nI 0, nI 5, nI T, m1, m4, m6, m7, m8, m9, m10, m11) := by
      unfold f_X12_starts
      rw [if_pos hn0, no12, bd_s]
      exact gd_0 _
    refine no hst _ ?_
    have h3 : ¬ nI 300 < n := fun h => absurd (Int32.lt_trans h hn0) (by decide)
    unfold f_X8_begin
    rw [if_neg h3, if_pos hn0, bd_s]
    simp only
    rw [if_pos (show nI 0 = 0 from rfl), ref11, bd_s]
  obtain ⟨E, hE31, rfl⟩ := nI_of hn0
  by_cases hE3 : E ≤ 300
  rotate_left
  · have hst : f_X12_starts fu (nI E) (nI 300) (nI 0) (nI T) m1 m4 m6 m7 m8 m9 m10 m11 tq = some (nI 0, nI 5, nI T, m1, m4, m6, m7, m8, m9, m10, m11) := by
      unfold f_X12_starts
      rw [if_neg hn0, if_neg (show ¬ nI E ≤ nI 300 by rw [nI_le' (by omega) (by omega)]; exact hE3), no12, bd_s]
      simp only
      rw [gd_0]
      split <;> rfl
    refine no hst _ ?_
    rw [if_pos (show nI 300 < nI E by rw [nI_lt' (by omega) (by omega)]; omega), ref11, bd_s]
  by_cases hET : E ≤ T
  rotate_left
  · have hst : f_X12_starts fu (nI E) (nI 300) (nI 0) (nI T) m1 m4 m6 m7 m8 m9 m10 m11 tq = some (nI 0, nI 5, nI T, m1, m4, m6, m7, m8, m9, m10, m11) := by
      unfold f_X12_starts
      rw [if_neg hn0, if_pos (show nI T < nI E by rw [nI_lt' (by omega) (by omega)]; omega), no12, bd_s]
      exact gd_0 _
    refine no hst _ ?_
    unfold f_X8_begin
    rw [if_neg (show ¬ nI 300 < nI E by rw [nI_lt' (by omega) (by omega)]; omega), if_neg hn0, if_neg (show ¬ nI E ≤ nI T by rw [nI_le' (by omega) (by omega)]; exact hET), bd_s]
    simp only
    rw [if_pos (show nI 0 = 0 from rfl), ref11, bd_s]
  obtain ⟨B, hX⟩ := tx_of hT hET
  obtain ⟨pl, nx, kd, kk, wd, nu, nu2, le, wd2, h1, TT, h3, h4⟩ := tk_next (fu := fu) hX hK (a := 0) (by omega) (by omega) e3 e4 e5 e6 e7 m6 m7 m9 m10 m11
  obtain ⟨σ, ⟨w, hs4, ⟨rfl, rfl, rfl, rfl, rfl⟩, hB, hC, ⟨nm0, nm1, nm2⟩, hR⟩, hσ⟩ := id hb
  have w0 := w.c0
  have w1 := w.c1
  have w2 := w.c2
  unfold f_X12_starts f_X8_begin f_X6_take f_X5_clear
  rw [if_neg (show ¬ nI 300 < nI E by rw [nI_lt' (by omega) (by omega)]; omega), if_neg hn0, if_neg hn0, if_pos (show nI E ≤ nI T by rw [nI_le' (by omega) (by omega)]; exact hET), if_neg (show ¬ nI T < nI E by rw [nI_lt' (by omega) (by omega)]; omega), if_pos (show nI E ≤ nI 300 by rw [nI_le' (by omega) (by omega)]; exact hE3), h3, h4, bd_s, bd_s, bd_s, bd_s]
  simp only
  rw [if_neg (show ¬ nI 1 = 0 by decide), if_neg (show ¬ nI 1 = 0 by decide), bd_s]
  have hN : NM 0 b6 b30 b21 W (σ 0) (σ 1) (σ 2) := ⟨fun k hk => by
    rw [nm0 k hk, fr0]; exact congrArg W (Nat.add_assoc _ _ _).symm, fun k hk => by
    rw [nm1 k hk, fr1]; exact congrArg W (Nat.add_assoc _ _ _).symm, fun k hk => by
    rw [nm2 k hk, fr2]; exact congrArg W (Nat.add_assoc _ _ _).symm⟩
  rcases top_list hE3 (one_all (ba := m5) (fk := nI 0) (fp := (-1 : Int32)) (pr := nI 0) hX hE3 hK w0 w1 w2 hN (show 2000 < fu by omega) 3 8 0 (by omega) (by omega)) (E - pl) 0 pl nx kd kk 0 0 wd wd2 nu nu2 le c op d26 d27 d28 d29 (Nat.le_refl _) TT (by omega) (by omega) (by omega) (hσ 0 (by omega)) (hσ 1 (by omega)) (hσ 2 (by omega)) with ⟨n, I, op', nx', kd', pl', wd', kk', nu', s', p', co', ma', on', ot', c', nu2', le', wd2', hA, hkd', hM⟩ | ⟨k, q, I, k1, k2, k3, k4, z1, z2, z3, z4, z5, z6, x, c1, g1, g2⟩
  · obtain ⟨a1, a2, a3, a4, a5, a6, a7⟩ := hA
    have hl := Lay_le a7
    have ht2 := a2.1
    have hcl : f_X6_take_15 fu (nI E) K tp (nI (σ 0)) (nI (σ 1)) (nI (σ 2)) b6 b21 b30 fu (nI 1) (nI 0) (nI 0) op (nI nx) (nI kd) (nI pl) wd (kI kk) nu (nI 0) (-1 : Int32) (nI 0) (nI 0) (nI 0) d26 d27 d28 d29 = some (nI 1, nI 0, op', nI nx', nI kd', nI pl', wd', kI kk', nu', nI 0, (-1 : Int32), nI 1, nI s', nI p', co', ma', on', ot') := by
      have e := a1 ((fu - I - 1) + 1)
      rw [rd_good hkd', show (fu - I - 1) + 1 + I = fu by omega] at e
      exact e
    rw [hcl, bd_s, hM fu (by omega)]
    simp only
    rw [show f_X8_empty (nI T) = some (nI 0) from rfl, bd_s, if_neg (show ¬ nI 1 = 0 by decide)]
    unfold f_X12_rounds_50
    rw [well_ok, bd_s]
    simp only
    rw [if_neg (show ¬ nI 1 = 0 by decide), gi_n (by omega) (by omega), gi_n (by omega) (by omega), nI_cl (by omega), nI_cl (by omega), m_80 (by omega) (by omega)]
    have hR' : RoRel (fun i => cR (upd (upd c' 111 (nI 1)) 112 (nI s')) (9 * s') (390 * 0 + i)) (σ 0) (σ 1) (σ 2) (nI 1) (nI s') (nI p') co' ma' on' ot' := by
      refine ⟨p', s', by omega, by omega, rfl, rfl, Or.inr ⟨rfl, ?_, ?_, n, ?_⟩⟩
      · show cR (upd (upd c' 111 (nI 1)) 112 (nI s')) (9 * s') (390 * 0 + 111) = nI 1
        unfold cR
        rw [if_neg (by omega), updN (by omega)]
        exact updS
      · show cR (upd (upd c' 111 (nI 1)) 112 (nI s')) (9 * s') (390 * 0 + 112) = nI s'
        unfold cR
        rw [if_neg (by omega)]
        exact updS
      · refine Lay_congr (Lay_mono (Lay_mono (Lay_mono (Lay_mono a7)))) (fun _ _ _ _ _ => rfl) (fun i ha hi => ?_)
        show cR (upd (upd c' 111 (nI 1)) 112 (nI s')) (9 * s') (390 * 0 + i) = c' (1560 + i)
        unfold cR
        rw [if_pos (by omega), updN (by omega), updN (by omega), show 1560 + (390 * 0 + i) = 1560 + i by omega]
    obtain ⟨o4, o5, o6, o7, ho, hR2⟩ := c_copyRounds (q23 := b23) (q24 := b24) (q25 := b25) (q26 := b26) (q27 := b27) (q28 := b28) (q29 := b29) hR'
    rw [ho, bd_s]
    simp only
    rw [ans11, bd_s]
    have lo : ∀ i, (i < 111 ∨ 390 ≤ i) → i < 1673 → cR (upd (upd c' 111 (nI 1)) 112 (nI s')) (9 * s') i = c i := fun i h1 h2 => by
      unfold cR
      rw [if_neg (by omega), updN (by omega), updN (by omega)]
      exact a6 i (by omega)
    exact ⟨_, _, 0, _, _, _, _, _, _, _, _, _, _, _, _, _, _, _, _, _, _, _, _, _, _, _, _, _, _, _, _, _, _, _, _, _, _, _, _, rfl, rfl, ⟨σ, ⟨w, hs4, ⟨rfl, rfl, rfl, rfl, rfl⟩, hB, hC, ⟨nm0, nm1, nm2⟩, hR2⟩, fun i hi => by rw [lo _ (by omega) (by omega)]; exact hσ i hi⟩, by omega, fun i h1 h2 => lo i (Or.inr h1) (by omega)⟩
  · obtain ⟨oo, g3, g4, g5, g6⟩ := k4 (fu - I) (by omega)
    rw [show fu - I + I = fu by omega] at g3
    obtain ⟨a1, a2, a3, a4, a5, a6, a7, a8, a9, a10, a11, a12, a13, a14, a15, a16, a17, a18⟩ := oo
    replace g4 : a1 = nI 0 := g4
    replace g5 : a10 = nI k := g5
    replace g6 : a11 = nI q := g6
    subst g4 g5 g6
    have hcl : f_X6_take_15 fu (nI E) K tp (nI (σ 0)) (nI (σ 1)) (nI (σ 2)) b6 b21 b30 fu (nI 1) (nI 0) (nI 0) op (nI nx) (nI kd) (nI pl) wd (kI kk) nu (nI 0) (-1 : Int32) (nI 0) (nI 0) (nI 0) d26 d27 d28 d29 = _ := g3
    rw [hcl, bd_s, g2 fu (by omega)]
    simp only
    rw [show f_X8_empty (nI T) = some (nI 0) from rfl, bd_s, if_pos (show nI 0 = 0 from rfl), ref11, bd_s]
    unfold f_X12_rounds_50
    rw [well_bad k1 k2, bd_s]
    simp only
    rw [if_pos (show nI 0 = 0 from rfl)]
    exact ⟨_, _, 0, _, _, _, _, _, _, _, _, _, _, _, _, _, _, _, _, _, _, _, _, _, _, _, _, _, _, _, _, _, _, _, _, _, _, _, c1, rfl, rfl, bkb_congr hb (fun i hi => g1 _ (by omega)) (fun i hi => rfl), by omega, fun i h1 h2 => g1 i (by omega)⟩
end RC
