/-! a BOOK, from its first part to its end -/
section BG
variable {B : Nat → Nat} {E fu : Nat} {tp tq : Nat → Int32} {K : Nat → Int64} {c : Nat → Int32} {σ τ : Nat → Nat} {b : Nat → Int32}
theorem aLq (h1 : τ 1 = σ 1) (hc : σ 1 ≤ 6) (h : ∀ i, 49 ≤ i → i < 55 → τ i = σ i) : aL b τ = aL b σ := by
  unfold aL
  rw [h1]
  exact mkF_congr (fun i hi => h _ (by omega) (by omega))
theorem aRq (h1 : τ 2 = σ 2) (hc : σ 2 ≤ 6) (h : ∀ i, 55 ≤ i → i < 61 → τ i = σ i) : aR b τ = aR b σ := by
  unfold aR
  rw [h1]
  exact mkF_congr (fun i hi => h _ (by omega) (by omega))
theorem aPq (h1 : τ 0 = σ 0) (hc : σ 0 ≤ 8) (h : ∀ i, 9 ≤ i → i < 17 → τ i = σ i) : aP b τ = aP b σ := by
  unfold aP
  rw [h1]
  exact mkF_congr (fun i hi => h _ (by omega) (by omega))
theorem aOq (h1 : τ 3 = σ 3) (hc : σ 3 ≤ 8) (h : ∀ i, 67 ≤ i → i < 75 → τ i = σ i) : aO b τ = aO b σ := by
  unfold aO
  rw [h1]
  exact mkF_congr (fun i hi => h _ (by omega) (by omega))
theorem aXq (h : ∀ i, 61 ≤ i → i < 67 → τ i = σ i) : aX b τ = aX b σ := mkF_congr (fun i hi => h _ (by omega) (by omega))
theorem sBq (h : ∀ i, 17 ≤ i → i < 25 → τ i = σ i) : sB τ = sB σ := bset_congr (fun k hk => by rw [h _ (by omega) (by omega)])
theorem sRq (h : ∀ i, 25 ≤ i → i < 33 → τ i = σ i) : sR τ = sR σ := bset_congr (fun k hk => by rw [h _ (by omega) (by omega)])
theorem book_G (h : TX B E tp tq) (hK : ∀ k, k < 24 → K k = lN (KEY k)) (hfu : 2000 < fu) (fk fp ba : Int32) (Q : Nat → Nat → Int32) :
    ∀ (r pl nx kd kk : Nat) (wd wd2 : Int64) (nu nu2 le : Int32) (N N2 i o : Nat) (σ : Nat → Nat) (cn sn pn wds : Nat → Int64) (od : Nat → Int32), E ≤ pl + r → r + 1 < N → r + 1 < N2 → i ≤ pl → o ≤ 1 → WD σ → NM 4 cn sn pn wds (σ 0) (σ 1) (σ 2) → TOK B E pl nx kd kk wd nu nu2 le wd2 →
    (∃ (σ' : Nat → Nat) (od' : Nat → Int32) (cn' sn' pn' wds' : Nat → Int64) (o' : Nat), ∃ x1 x2 x3 : Int32, ∃ x4 : Int64, ∃ x5 x6 y1 y2 y3 y4 y5 : Int32, ∃ y6 : Int64,
      t14 fu E K tp N (nI 1) (nI i) (nI o) (nI nx) (nI kd) (nI pl) wd (kI kk) nu fk fp σ cn sn pn od Q = t163 fu E K tp (nI 1) (nI o') x1 x2 x3 x4 x5 x6 fk fp σ' cn' sn' pn' od' Q ∧
      (∀ sA th ta fA fB : Int32, f_X12_book_54 fu tq N2 sA th ta (nI E) fA fB (nI 0) ba (nI kd) (nI pl) (nI nx) nu2 le wd2 (nI o) (mk4 c σ) wds = f_X12_book_180 fu tq fu (nI 0) sA th ta (nI E) (nI 0) (-1 : Int32) (nI 0) ba y1 y2 y3 y4 y5 y6 (nI o') (mk4 c σ') wds') ∧
      WD σ' ∧ NM 4 cn' sn' pn' wds' (σ' 0) (σ' 1) (σ' 2) ∧ o' ≤ 1 ∧ (∀ i, i < 80 → wds' i = wds i)) ∨
    (∃ k p, 1 ≤ k ∧ k ≤ 7 ∧ (∃ oo, t14 fu E K tp N (nI 1) (nI i) (nI o) (nI nx) (nI kd) (nI pl) wd (kI kk) nu fk fp σ cn sn pn od Q = some oo ∧ oo.1 = nI 0 ∧ oo.2.2.2.2.2.2.2.2.1 = nI k ∧ oo.2.2.2.2.2.2.2.2.2.1 = nI p) ∧
      ∃ w1 w2 w3 w4 w5 : Int32, ∃ w6 : Int64, ∃ (w7 : Int32) (c' : Nat → Int32) (wds' : Nat → Int64), (∀ sA th ta fA fB : Int32, f_X12_book_54 fu tq N2 sA th ta (nI E) fA fB (nI 0) ba (nI kd) (nI pl) (nI nx) nu2 le wd2 (nI o) (mk4 c σ) wds = some ((-1 : Int32), nI 10, th, ta, nI E, nI k, nI p, nI k, nI p, w1, w2, w3, w4, w5, w6, w7, c', wds')) ∧
      (∀ i, i < 1560 → c' i = c i) ∧ (∀ i, i < 80 → wds' i = wds i)) := by
  have hE := h.1
  intro r
  induction r with
  | zero =>
    intro pl nx kd kk wd wd2 nu nu2 le N N2 i o σ cn sn pn wds od hr hN hN2 hi ho w hNM T
    have hT := T.1
    have hkd : kd = 0 := by omega
    subst hkd
    obtain ⟨N, rfl⟩ : ∃ q, N = q + 1 := ⟨N - 1, by omega⟩
    obtain ⟨N2, rfl⟩ : ∃ q, N2 = q + 1 := ⟨N2 - 1, by omega⟩
    refine Or.inl ⟨σ, od, cn, sn, pn, wds, o, nI nx, nI 0, nI pl, wd, kI kk, nu, nI 0, nI pl, nI nx, nu2, le, wd2, ?_, fun sA th ta fA fB => ?_, w, hNM, ho, fun _ _ => rfl⟩
    · unfold t14 t163
      conv => lhs; unfold f_X2_take_14
      rw [if_neg (show ¬ nI 1 = 0 by decide), if_pos (show nI 0 = 0 from rfl)]
      split <;> rfl
    · conv => lhs; unfold f_X12_book_54
      rw [if_pos (show nI 0 = 0 from rfl), if_pos (show nI 0 = 0 from rfl), well_ok, bd_s]
      simp only
      rw [if_neg (show ¬ nI 1 = 0 by decide)]
  | succ r ih =>
    intro pl nx kd kk wd wd2 nu nu2 le N N2 i o σ cn sn pn wds od hr hN hN2 hi ho w hNM T
    have hT := T.1
    obtain ⟨N, rfl⟩ : ∃ q, N = q + 2 := ⟨N - 2, by omega⟩
    obtain ⟨N2, rfl⟩ : ∃ q, N2 = q + 2 := ⟨N2 - 2, by omega⟩
    by_cases hkd : kd = 0
    · subst hkd
      refine Or.inl ⟨σ, od, cn, sn, pn, wds, o, nI nx, nI 0, nI pl, wd, kI kk, nu, nI 0, nI pl, nI nx, nu2, le, wd2, ?_, fun sA th ta fA fB => ?_, w, hNM, ho, fun _ _ => rfl⟩
      · unfold t14 t163
        conv => lhs; unfold f_X2_take_14
        rw [if_neg (show ¬ nI 1 = 0 by decide), if_pos (show nI 0 = 0 from rfl)]
        split <;> rfl
      · conv => lhs; unfold f_X12_book_54
        rw [if_pos (show nI 0 = 0 from rfl), if_pos (show nI 0 = 0 from rfl), well_ok, bd_s]
        simp only
        rw [if_neg (show ¬ nI 1 = 0 by decide)]
    · have hnx := hT.2.2.2.2.2 hkd
      obtain ⟨⟨h0, h1, h2, h3⟩, -⟩ := id w
      have hkk := hT.2.2.2.1
      have i900 : ¬ nI 900 ≤ nI i := by rw [nI_le' (by omega) (by omega)]; omega
      have k0 : ¬ nI kd = 0 := by rw [nI_eq0 (by omega)]; exact hkd
      have kn : ∀ j, j < 24 → kk ≠ j → ¬ kI kk = nI j := fun j hj hne => by rw [kI_eq hkk hj]; exact hne
      have md : ∀ j, kk ≠ j → bI (decide (kk = j)) = 0 := fun j hj => by rw [decide_eq_false hj]; rfl
      have mt : ∀ j, kk = j → ¬ bI (decide (kk = j)) = 0 := fun j hj => by rw [decide_eq_true hj]; decide
      by_cases e0 : kk = 0
      · rcases r_takeCell (fu := fu) (ba := ba) (fk := fk) (fp := fp) (c := c) (σ := σ) (wds := wds) (cn := cn) (sn := sn) (pn := pn) (sp := Q 5) h hK T (Classical.byContradiction fun q => absurd (T.2.2.1 q) (by omega)) w hNM hfu with ⟨σ', cn', wds', y1, y2, y3, y4, y5, y6, rs, pl', nx', kd', kk', wd', nu', nu2', le', wd2', a1, T', a3, a4, a5, a6, w', hNM', hs, hw⟩ | ⟨k, p, b1, b2, u1, u2, u3, u4, u5, u6, o1, o2, o3, o4, o5, y1, y2, y3, y4, y5, y6, y7, y8, c', wds', rs, z1, z2, z3, z4, z5, z6, g1, g2, g3, g4, g5, g6⟩
        · have hI := ih pl' nx' kd' kk' wd' wd2' nu' nu2' le' (N + 1) (N2 + 1) (i + 1) o σ' cn' sn pn wds' od (by omega) (by omega) (by omega) (by omega) (by omega) w' hNM' T'
          have hc : t14 fu E K tp (N + 2) (nI 1) (nI i) (nI o) (nI nx) (nI kd) (nI pl) wd (kI kk) nu fk fp σ cn sn pn od Q = t14 fu E K tp (N + 1) (nI 1) (nI (i + 1)) (nI o) (nI nx') (nI kd') (nI pl') wd' (kI kk') nu' fk fp σ' cn' sn pn od Q := by
            unfold t14
            conv => lhs; unfold f_X2_take_14
            rw [if_neg i900, if_neg (show ¬ nI 1 = 0 by decide), if_neg k0, if_pos (show kI kk = nI 0 by rw [e0, kI_lt (by omega)])]
            rw [a3, bd_s]
            simp only [lt_, nI_add]
            rw [hs 1 (by omega) (by omega), hs 2 (by omega) (by omega), hs 3 (by omega) (by omega), aLq (b := Q 0) (hs 1 (by omega) (by omega)) h1 (fun j _ _ => hs j (by omega) (by omega)), aK_c (b := Q 1) (σ := σ') (τ := σ) (fun j _ _ => hs j (by omega) (by omega)), aOq (b := od) (hs 3 (by omega) (by omega)) h3 (fun j _ _ => hs j (by omega) (by omega)), aXq (b := Q 3) (fun j _ _ => hs j (by omega) (by omega)), aRq (b := Q 4) (hs 2 (by omega) (by omega)) h2 (fun j _ _ => hs j (by omega) (by omega))]
          have hm : ∀ sA th ta fA fB : Int32, f_X12_book_54 fu tq (N2 + 2) sA th ta (nI E) fA fB (nI 0) ba (nI kd) (nI pl) (nI nx) nu2 le wd2 (nI o) (mk4 c σ) wds = f_X12_book_54 fu tq (N2 + 1) sA th ta (nI E) fA fB (nI 0) ba (nI kd') (nI pl') (nI nx') nu2' le' wd2' (nI o) (mk4 c σ') wds' := by
            intro sA th ta fA fB
            conv => lhs; unfold f_X12_book_54
            rw [if_pos (show nI 0 = 0 from rfl), if_neg k0, m_isCell T, bd_s, if_neg (mt 0 e0)]
            simp only [a4, a5, a6, bd_s]
          rw [hc]
          simp only [hm]
          rcases hI with ⟨σ2, od2, cn2, sn2, pn2, wds2, o2, x1, x2, x3, x4, x5, x6, v1, v2, v3, v4, v5, v6, e1, e2, e3, e4, e5, e6⟩ | ⟨k, p, b1, b2, e1, v1, v2, v3, v4, v5, v6, v7, c', wds2, e2, e3, e6⟩
          · exact Or.inl ⟨σ2, od2, cn2, sn2, pn2, wds2, o2, x1, x2, x3, x4, x5, x6, v1, v2, v3, v4, v5, v6, e1, e2, e3, e4, e5, fun j hj => by rw [e6 j hj, hw j hj]⟩
          · exact Or.inr ⟨k, p, b1, b2, e1, v1, v2, v3, v4, v5, v6, v7, c', wds2, e2, e3, fun j hj => by rw [e6 j hj, hw j hj]⟩
        · refine Or.inr ⟨k, p, b1, b2, ?_, z1, z2, z3, z4, z5, z6, nI o, c', wds', fun sA th ta fA fB => ?_, g3, g4⟩
          · unfold t14
            conv => enter [1, oo, 1, 1]; unfold f_X2_take_14
            rw [if_neg i900, if_neg (show ¬ nI 1 = 0 by decide), if_neg k0, if_pos (show kI kk = nI 0 by rw [e0, kI_lt (by omega)])]
            rw [g1, bd_s]
            simp only [lt_]
            exact t14_bad
          · conv => lhs; unfold f_X12_book_54
            rw [if_pos (show nI 0 = 0 from rfl), if_neg k0, m_isCell T, bd_s, if_neg (mt 0 e0)]
            simp only [g2, g5, g6, bd_s, b54_bad b1 b2]
      by_cases e4 : kk = 4
      · rcases r_takeSecret (fu := fu) (ba := ba) (fk := fk) (fp := fp) (c := c) (σ := σ) (wds := wds) (cn := cn) (sn := sn) (pn := pn) (lt := Q 0) h hK T (Classical.byContradiction fun q => absurd (T.2.2.1 q) (by omega)) w hNM hfu with ⟨σ', sn', wds', y1, y2, y3, y4, y5, y6, rs, pl', nx', kd', kk', wd', nu', nu2', le', wd2', a1, T', a3, a4, a5, a6, w', hNM', hs, hw⟩ | ⟨k, p, b1, b2, u1, u2, u3, u4, u5, u6, o1, o2, o3, y1, y2, y3, y4, y5, y6, y7, y8, c', wds', rs, z1, z2, z3, z4, z5, z6, g1, g2, g3, g4, g5, g6⟩
        · have hI := ih pl' nx' kd' kk' wd' wd2' nu' nu2' le' (N + 1) (N2 + 1) (i + 1) o σ' cn sn' pn wds' od (by omega) (by omega) (by omega) (by omega) (by omega) w' hNM' T'
          have hc : t14 fu E K tp (N + 2) (nI 1) (nI i) (nI o) (nI nx) (nI kd) (nI pl) wd (kI kk) nu fk fp σ cn sn pn od Q = t14 fu E K tp (N + 1) (nI 1) (nI (i + 1)) (nI o) (nI nx') (nI kd') (nI pl') wd' (kI kk') nu' fk fp σ' cn sn' pn od Q := by
            unfold t14
            conv => lhs; unfold f_X2_take_14
            rw [if_neg i900, if_neg (show ¬ nI 1 = 0 by decide), if_neg k0, if_neg (kn 0 (by omega) (by omega)), if_neg (kn 1 (by omega) (by omega)), if_neg (kn 2 (by omega) (by omega)), if_neg (kn 3 (by omega) (by omega)), if_pos (show kI kk = nI 4 by rw [e4, kI_lt (by omega)])]
            rw [a3, bd_s]
            simp only [lt_, nI_add]
            rw [hs 0 (by omega) (by omega), hs 2 (by omega) (by omega), hs 3 (by omega) (by omega), sBq (fun j _ _ => hs j (by omega) (by omega)), sRq (fun j _ _ => hs j (by omega) (by omega)), aK_c (b := Q 1) (σ := σ') (τ := σ) (fun j _ _ => hs j (by omega) (by omega)), aOq (b := od) (hs 3 (by omega) (by omega)) h3 (fun j _ _ => hs j (by omega) (by omega)), aXq (b := Q 3) (fun j _ _ => hs j (by omega) (by omega)), aRq (b := Q 4) (hs 2 (by omega) (by omega)) h2 (fun j _ _ => hs j (by omega) (by omega)), aPq (b := Q 5) (hs 0 (by omega) (by omega)) h0 (fun j _ _ => hs j (by omega) (by omega))]
          have hm : ∀ sA th ta fA fB : Int32, f_X12_book_54 fu tq (N2 + 2) sA th ta (nI E) fA fB (nI 0) ba (nI kd) (nI pl) (nI nx) nu2 le wd2 (nI o) (mk4 c σ) wds = f_X12_book_54 fu tq (N2 + 1) sA th ta (nI E) fA fB (nI 0) ba (nI kd') (nI pl') (nI nx') nu2' le' wd2' (nI o) (mk4 c σ') wds' := by
            intro sA th ta fA fB
            conv => lhs; unfold f_X12_book_54
            rw [if_pos (show nI 0 = 0 from rfl), if_neg k0, m_isCell T, bd_s, if_pos (md 0 e0), m_isSecret T, bd_s, if_neg (mt 4 e4)]
            simp only [a4, a5, a6, bd_s]
          rw [hc]
          simp only [hm]
          rcases hI with ⟨σ2, od2, cn2, sn2, pn2, wds2, o2, x1, x2, x3, x4, x5, x6, v1, v2, v3, v4, v5, v6, e1, e2, e3, e4, e5, e6⟩ | ⟨k, p, b1, b2, e1, v1, v2, v3, v4, v5, v6, v7, c', wds2, e2, e3, e6⟩
          · exact Or.inl ⟨σ2, od2, cn2, sn2, pn2, wds2, o2, x1, x2, x3, x4, x5, x6, v1, v2, v3, v4, v5, v6, e1, e2, e3, e4, e5, fun j hj => by rw [e6 j hj, hw j hj]⟩
          · exact Or.inr ⟨k, p, b1, b2, e1, v1, v2, v3, v4, v5, v6, v7, c', wds2, e2, e3, fun j hj => by rw [e6 j hj, hw j hj]⟩
        · refine Or.inr ⟨k, p, b1, b2, ?_, z1, z2, z3, z4, z5, z6, nI o, c', wds', fun sA th ta fA fB => ?_, g3, g4⟩
          · unfold t14
            conv => enter [1, oo, 1, 1]; unfold f_X2_take_14
            rw [if_neg i900, if_neg (show ¬ nI 1 = 0 by decide), if_neg k0, if_neg (kn 0 (by omega) (by omega)), if_neg (kn 1 (by omega) (by omega)), if_neg (kn 2 (by omega) (by omega)), if_neg (kn 3 (by omega) (by omega)), if_pos (show kI kk = nI 4 by rw [e4, kI_lt (by omega)])]
            rw [g1, bd_s]
            simp only [lt_]
            exact t14_bad
          · conv => lhs; unfold f_X12_book_54
            rw [if_pos (show nI 0 = 0 from rfl), if_neg k0, m_isCell T, bd_s, if_pos (md 0 e0), m_isSecret T, bd_s, if_neg (mt 4 e4)]
            simp only [g2, g5, g6, bd_s, b54_bad b1 b2]
      by_cases e6 : kk = 6
      · rcases r_takePage (fu := fu) (ba := ba) (fk := fk) (fp := fp) (c := c) (σ := σ) (wds := wds) (cn := cn) (sn := sn) (pn := pn) (rm := Q 4) h hK T (Classical.byContradiction fun q => absurd (T.2.2.1 q) (by omega)) w hNM hfu with ⟨σ', pn', wds', y1, y2, y3, y4, y5, y6, rs, pl', nx', kd', kk', wd', nu', nu2', le', wd2', a1, T', a3, a4, a5, a6, w', hNM', hs, hw⟩ | ⟨k, p, b1, b2, u1, u2, u3, u4, u5, u6, o1, o2, o3, y1, y2, y3, y4, y5, y6, y7, y8, c', wds', rs, z1, z2, z3, z4, z5, z6, g1, g2, g3, g4, g5, g6⟩
        · have hI := ih pl' nx' kd' kk' wd' wd2' nu' nu2' le' (N + 1) (N2 + 1) (i + 1) o σ' cn sn pn' wds' od (by omega) (by omega) (by omega) (by omega) (by omega) w' hNM' T'
          have hc : t14 fu E K tp (N + 2) (nI 1) (nI i) (nI o) (nI nx) (nI kd) (nI pl) wd (kI kk) nu fk fp σ cn sn pn od Q = t14 fu E K tp (N + 1) (nI 1) (nI (i + 1)) (nI o) (nI nx') (nI kd') (nI pl') wd' (kI kk') nu' fk fp σ' cn sn pn' od Q := by
            unfold t14
            conv => lhs; unfold f_X2_take_14
            rw [if_neg i900, if_neg (show ¬ nI 1 = 0 by decide), if_neg k0, if_neg (kn 0 (by omega) (by omega)), if_neg (kn 1 (by omega) (by omega)), if_neg (kn 2 (by omega) (by omega)), if_neg (kn 3 (by omega) (by omega)), if_neg (kn 4 (by omega) (by omega)), if_neg (kn 5 (by omega) (by omega)), if_pos (show kI kk = nI 6 by rw [e6, kI_lt (by omega)])]
            rw [a3, bd_s]
            simp only [lt_, nI_add]
            rw [hs 0 (by omega) (by omega), hs 1 (by omega) (by omega), hs 3 (by omega) (by omega), sBq (fun j _ _ => hs j (by omega) (by omega)), sRq (fun j _ _ => hs j (by omega) (by omega)), aLq (b := Q 0) (hs 1 (by omega) (by omega)) h1 (fun j _ _ => hs j (by omega) (by omega)), aK_c (b := Q 1) (σ := σ') (τ := σ) (fun j _ _ => hs j (by omega) (by omega)), aOq (b := od) (hs 3 (by omega) (by omega)) h3 (fun j _ _ => hs j (by omega) (by omega)), aXq (b := Q 3) (fun j _ _ => hs j (by omega) (by omega)), aPq (b := Q 5) (hs 0 (by omega) (by omega)) h0 (fun j _ _ => hs j (by omega) (by omega))]
          have hm : ∀ sA th ta fA fB : Int32, f_X12_book_54 fu tq (N2 + 2) sA th ta (nI E) fA fB (nI 0) ba (nI kd) (nI pl) (nI nx) nu2 le wd2 (nI o) (mk4 c σ) wds = f_X12_book_54 fu tq (N2 + 1) sA th ta (nI E) fA fB (nI 0) ba (nI kd') (nI pl') (nI nx') nu2' le' wd2' (nI o) (mk4 c σ') wds' := by
            intro sA th ta fA fB
            conv => lhs; unfold f_X12_book_54
            rw [if_pos (show nI 0 = 0 from rfl), if_neg k0, m_isCell T, bd_s, if_pos (md 0 e0), m_isSecret T, bd_s, if_pos (md 4 e4), m_isPage T, bd_s, if_neg (mt 6 e6)]
            simp only [a4, a5, a6, bd_s]
          rw [hc]
          simp only [hm]
          rcases hI with ⟨σ2, od2, cn2, sn2, pn2, wds2, o2, x1, x2, x3, x4, x5, x6, v1, v2, v3, v4, v5, v6, e1, e2, e3, e4, e5, e6⟩ | ⟨k, p, b1, b2, e1, v1, v2, v3, v4, v5, v6, v7, c', wds2, e2, e3, e6⟩
          · exact Or.inl ⟨σ2, od2, cn2, sn2, pn2, wds2, o2, x1, x2, x3, x4, x5, x6, v1, v2, v3, v4, v5, v6, e1, e2, e3, e4, e5, fun j hj => by rw [e6 j hj, hw j hj]⟩
          · exact Or.inr ⟨k, p, b1, b2, e1, v1, v2, v3, v4, v5, v6, v7, c', wds2, e2, e3, fun j hj => by rw [e6 j hj, hw j hj]⟩
        · refine Or.inr ⟨k, p, b1, b2, ?_, z1, z2, z3, z4, z5, z6, nI o, c', wds', fun sA th ta fA fB => ?_, g3, g4⟩
          · unfold t14
            conv => enter [1, oo, 1, 1]; unfold f_X2_take_14
            rw [if_neg i900, if_neg (show ¬ nI 1 = 0 by decide), if_neg k0, if_neg (kn 0 (by omega) (by omega)), if_neg (kn 1 (by omega) (by omega)), if_neg (kn 2 (by omega) (by omega)), if_neg (kn 3 (by omega) (by omega)), if_neg (kn 4 (by omega) (by omega)), if_neg (kn 5 (by omega) (by omega)), if_pos (show kI kk = nI 6 by rw [e6, kI_lt (by omega)])]
            rw [g1, bd_s]
            simp only [lt_]
            exact t14_bad
          · conv => lhs; unfold f_X12_book_54
            rw [if_pos (show nI 0 = 0 from rfl), if_neg k0, m_isCell T, bd_s, if_pos (md 0 e0), m_isSecret T, bd_s, if_pos (md 4 e4), m_isPage T, bd_s, if_neg (mt 6 e6)]
            simp only [g2, g5, g6, bd_s, b54_bad b1 b2]
      by_cases e8 : kk = 8
      · rcases r_takeKnows (fu := fu) (ba := ba) (fk := fk) (fp := fp) (c := c) (σ := σ) (wds := wds) (cn := cn) (sn := sn) (pn := pn) (kn := Q 1) h hK T w hNM hfu with ⟨σ', y1, y2, y3, y4, y5, y6, rs, pl', nx', kd', kk', wd', nu', nu2', le', wd2', a1, T', a3, a4, a5, a6, w', hs⟩ | ⟨k, p, b1, b2, u1, u2, u3, u4, u5, u6, o2, y1, y2, y3, y4, y5, y6, y7, y8, c', rs, z1, z2, z3, z4, z5, z6, g1, g2, g3, g5, g6⟩
        · have hI := ih pl' nx' kd' kk' wd' wd2' nu' nu2' le' (N + 1) (N2 + 1) (i + 1) o σ' cn sn pn wds od (by omega) (by omega) (by omega) (by omega) (by omega) w' (by rw [hs 0 (by omega), hs 1 (by omega), hs 2 (by omega)]; exact hNM) T'
          have hc : t14 fu E K tp (N + 2) (nI 1) (nI i) (nI o) (nI nx) (nI kd) (nI pl) wd (kI kk) nu fk fp σ cn sn pn od Q = t14 fu E K tp (N + 1) (nI 1) (nI (i + 1)) (nI o) (nI nx') (nI kd') (nI pl') wd' (kI kk') nu' fk fp σ' cn sn pn od Q := by
            unfold t14
            conv => lhs; unfold f_X2_take_14
            rw [if_neg i900, if_neg (show ¬ nI 1 = 0 by decide), if_neg k0, if_neg (kn 0 (by omega) (by omega)), if_neg (kn 1 (by omega) (by omega)), if_neg (kn 2 (by omega) (by omega)), if_neg (kn 3 (by omega) (by omega)), if_neg (kn 4 (by omega) (by omega)), if_neg (kn 5 (by omega) (by omega)), if_neg (kn 6 (by omega) (by omega)), if_neg (kn 7 (by omega) (by omega)), if_pos (show kI kk = nI 8 by rw [e8, kI_lt (by omega)])]
            rw [a3, bd_s]
            simp only [lt_, nI_add]
            rw [hs 0 (by omega), hs 1 (by omega), hs 2 (by omega), hs 3 (by omega), sBq (fun j _ _ => hs j (by omega)), sRq (fun j _ _ => hs j (by omega)), aLq (b := Q 0) (hs 1 (by omega)) h1 (fun j _ _ => hs j (by omega)), aOq (b := od) (hs 3 (by omega)) h3 (fun j _ _ => hs j (by omega)), aXq (b := Q 3) (fun j _ _ => hs j (by omega)), aRq (b := Q 4) (hs 2 (by omega)) h2 (fun j _ _ => hs j (by omega)), aPq (b := Q 5) (hs 0 (by omega)) h0 (fun j _ _ => hs j (by omega))]
          have hm : ∀ sA th ta fA fB : Int32, f_X12_book_54 fu tq (N2 + 2) sA th ta (nI E) fA fB (nI 0) ba (nI kd) (nI pl) (nI nx) nu2 le wd2 (nI o) (mk4 c σ) wds = f_X12_book_54 fu tq (N2 + 1) sA th ta (nI E) fA fB (nI 0) ba (nI kd') (nI pl') (nI nx') nu2' le' wd2' (nI o) (mk4 c σ') wds := by
            intro sA th ta fA fB
            conv => lhs; unfold f_X12_book_54
            rw [if_pos (show nI 0 = 0 from rfl), if_neg k0, m_isCell T, bd_s, if_pos (md 0 e0), m_isSecret T, bd_s, if_pos (md 4 e4), m_isPage T, bd_s, if_pos (md 6 e6), m_isKnows T, bd_s, if_neg (mt 8 e8)]
            simp only [a4, a5, a6, bd_s]
          rw [hc]
          simp only [hm]
          rcases hI with ⟨σ2, od2, cn2, sn2, pn2, wds2, o2, x1, x2, x3, x4, x5, x6, v1, v2, v3, v4, v5, v6, e1, e2, e3, e4, e5, e6⟩ | ⟨k, p, b1, b2, e1, v1, v2, v3, v4, v5, v6, v7, c', wds2, e2, e3, e6⟩
          · exact Or.inl ⟨σ2, od2, cn2, sn2, pn2, wds2, o2, x1, x2, x3, x4, x5, x6, v1, v2, v3, v4, v5, v6, e1, e2, e3, e4, e5, e6⟩
          · exact Or.inr ⟨k, p, b1, b2, e1, v1, v2, v3, v4, v5, v6, v7, c', wds2, e2, e3, e6⟩
        · refine Or.inr ⟨k, p, b1, b2, ?_, z1, z2, z3, z4, z5, z6, nI o, c', wds, fun sA th ta fA fB => ?_, g3, fun _ _ => rfl⟩
          · unfold t14
            conv => enter [1, oo, 1, 1]; unfold f_X2_take_14
            rw [if_neg i900, if_neg (show ¬ nI 1 = 0 by decide), if_neg k0, if_neg (kn 0 (by omega) (by omega)), if_neg (kn 1 (by omega) (by omega)), if_neg (kn 2 (by omega) (by omega)), if_neg (kn 3 (by omega) (by omega)), if_neg (kn 4 (by omega) (by omega)), if_neg (kn 5 (by omega) (by omega)), if_neg (kn 6 (by omega) (by omega)), if_neg (kn 7 (by omega) (by omega)), if_pos (show kI kk = nI 8 by rw [e8, kI_lt (by omega)])]
            rw [g1, bd_s]
            simp only [lt_]
            exact t14_bad
          · conv => lhs; unfold f_X12_book_54
            rw [if_pos (show nI 0 = 0 from rfl), if_neg k0, m_isCell T, bd_s, if_pos (md 0 e0), m_isSecret T, bd_s, if_pos (md 4 e4), m_isPage T, bd_s, if_pos (md 6 e6), m_isKnows T, bd_s, if_neg (mt 8 e8)]
            simp only [g2, g5, g6, bd_s, b54_bad b1 b2]
      by_cases e9 : kk = 9
      · rcases r_takeOrder (fu := fu) (ba := ba) (fk := fk) (fp := fp) (c := c) (σ := σ) (wds := wds) (cn := cn) (sn := sn) (pn := pn) (od := od) h hK T w hNM (nI o) hfu with ⟨σ', od', y1, y2, y3, y4, y5, y6, rs, pl', nx', kd', kk', wd', nu', nu2', le', wd2', a1, T', a3, a4, a5, a6, w', hs⟩ | ⟨k, p, b1, b2, u0, u1, u2, u3, u4, u5, u6, o1, o2, y1, y2, y3, y4, y5, y6, y7, y8, ot', c', rs, z1, z2, z3, z4, z5, z6, g1, g2, g3, g5, g6⟩
        · have hI := ih pl' nx' kd' kk' wd' wd2' nu' nu2' le' (N + 1) (N2 + 1) (i + 1) 1 σ' cn sn pn wds od' (by omega) (by omega) (by omega) (by omega) (by omega) w' (by rw [hs 0 (by omega) (by omega), hs 1 (by omega) (by omega), hs 2 (by omega) (by omega)]; exact hNM) T'
          have hc : t14 fu E K tp (N + 2) (nI 1) (nI i) (nI o) (nI nx) (nI kd) (nI pl) wd (kI kk) nu fk fp σ cn sn pn od Q = t14 fu E K tp (N + 1) (nI 1) (nI (i + 1)) (nI 1) (nI nx') (nI kd') (nI pl') wd' (kI kk') nu' fk fp σ' cn sn pn od' Q := by
            unfold t14
            conv => lhs; unfold f_X2_take_14
            rw [if_neg i900, if_neg (show ¬ nI 1 = 0 by decide), if_neg k0, if_neg (kn 0 (by omega) (by omega)), if_neg (kn 1 (by omega) (by omega)), if_neg (kn 2 (by omega) (by omega)), if_neg (kn 3 (by omega) (by omega)), if_neg (kn 4 (by omega) (by omega)), if_neg (kn 5 (by omega) (by omega)), if_neg (kn 6 (by omega) (by omega)), if_neg (kn 7 (by omega) (by omega)), if_neg (kn 8 (by omega) (by omega)), if_pos (show kI kk = nI 9 by rw [e9, kI_lt (by omega)])]
            rw [a3, bd_s]
            simp only [lt_, nI_add]
            rw [hs 0 (by omega) (by omega), hs 1 (by omega) (by omega), hs 2 (by omega) (by omega), sBq (fun j _ _ => hs j (by omega) (by omega)), sRq (fun j _ _ => hs j (by omega) (by omega)), aLq (b := Q 0) (hs 1 (by omega) (by omega)) h1 (fun j _ _ => hs j (by omega) (by omega)), aK_c (b := Q 1) (σ := σ') (τ := σ) (fun j _ _ => hs j (by omega) (by omega)), aXq (b := Q 3) (fun j _ _ => hs j (by omega) (by omega)), aRq (b := Q 4) (hs 2 (by omega) (by omega)) h2 (fun j _ _ => hs j (by omega) (by omega)), aPq (b := Q 5) (hs 0 (by omega) (by omega)) h0 (fun j _ _ => hs j (by omega) (by omega))]
          have hm : ∀ sA th ta fA fB : Int32, f_X12_book_54 fu tq (N2 + 2) sA th ta (nI E) fA fB (nI 0) ba (nI kd) (nI pl) (nI nx) nu2 le wd2 (nI o) (mk4 c σ) wds = f_X12_book_54 fu tq (N2 + 1) sA th ta (nI E) fA fB (nI 0) ba (nI kd') (nI pl') (nI nx') nu2' le' wd2' (nI 1) (mk4 c σ') wds := by
            intro sA th ta fA fB
            conv => lhs; unfold f_X12_book_54
            rw [if_pos (show nI 0 = 0 from rfl), if_neg k0, m_isCell T, bd_s, if_pos (md 0 e0), m_isSecret T, bd_s, if_pos (md 4 e4), m_isPage T, bd_s, if_pos (md 6 e6), m_isKnows T, bd_s, if_pos (md 8 e8), m_isOrder T, bd_s, if_neg (mt 9 e9)]
            simp only [a4, a5, a6, bd_s]
          rw [hc]
          simp only [hm]
          rcases hI with ⟨σ2, od2, cn2, sn2, pn2, wds2, o2, x1, x2, x3, x4, x5, x6, v1, v2, v3, v4, v5, v6, e1, e2, e3, e4, e5, e6⟩ | ⟨k, p, b1, b2, e1, v1, v2, v3, v4, v5, v6, v7, c', wds2, e2, e3, e6⟩
          · exact Or.inl ⟨σ2, od2, cn2, sn2, pn2, wds2, o2, x1, x2, x3, x4, x5, x6, v1, v2, v3, v4, v5, v6, e1, e2, e3, e4, e5, e6⟩
          · exact Or.inr ⟨k, p, b1, b2, e1, v1, v2, v3, v4, v5, v6, v7, c', wds2, e2, e3, e6⟩
        · refine Or.inr ⟨k, p, b1, b2, ?_, z1, z2, z3, z4, z5, z6, ot', c', wds, fun sA th ta fA fB => ?_, g3, fun _ _ => rfl⟩
          · unfold t14
            conv => enter [1, oo, 1, 1]; unfold f_X2_take_14
            rw [if_neg i900, if_neg (show ¬ nI 1 = 0 by decide), if_neg k0, if_neg (kn 0 (by omega) (by omega)), if_neg (kn 1 (by omega) (by omega)), if_neg (kn 2 (by omega) (by omega)), if_neg (kn 3 (by omega) (by omega)), if_neg (kn 4 (by omega) (by omega)), if_neg (kn 5 (by omega) (by omega)), if_neg (kn 6 (by omega) (by omega)), if_neg (kn 7 (by omega) (by omega)), if_neg (kn 8 (by omega) (by omega)), if_pos (show kI kk = nI 9 by rw [e9, kI_lt (by omega)])]
            rw [g1, bd_s]
            simp only [lt_]
            exact t14_bad
          · conv => lhs; unfold f_X12_book_54
            rw [if_pos (show nI 0 = 0 from rfl), if_neg k0, m_isCell T, bd_s, if_pos (md 0 e0), m_isSecret T, bd_s, if_pos (md 4 e4), m_isPage T, bd_s, if_pos (md 6 e6), m_isKnows T, bd_s, if_pos (md 8 e8), m_isOrder T, bd_s, if_neg (mt 9 e9)]
            simp only [g2, g5, g6, bd_s, b54_bad b1 b2]
      by_cases e10 : kk = 10
      · rcases r_takeRead (fu := fu) (ba := ba) (fk := fk) (fp := fp) (c := c) (σ := σ) (wds := wds) (cn := cn) (sn := sn) (pn := pn) (xx := Q 3) h hK T w hNM hfu with ⟨σ', y1, y2, y3, y4, y5, y6, rs, pl', nx', kd', kk', wd', nu', nu2', le', wd2', a1, T', a3, a4, a5, a6, w', hs⟩ | ⟨k, p, b1, b2, u1, u2, u3, u4, u5, u6, o2, y1, y2, y3, y4, y5, y6, y7, y8, c', rs, z1, z2, z3, z4, z5, z6, g1, g2, g3, g5, g6⟩
        · have hI := ih pl' nx' kd' kk' wd' wd2' nu' nu2' le' (N + 1) (N2 + 1) (i + 1) o σ' cn sn pn wds od (by omega) (by omega) (by omega) (by omega) (by omega) w' (by rw [hs 0 (by omega), hs 1 (by omega), hs 2 (by omega)]; exact hNM) T'
          have hc : t14 fu E K tp (N + 2) (nI 1) (nI i) (nI o) (nI nx) (nI kd) (nI pl) wd (kI kk) nu fk fp σ cn sn pn od Q = t14 fu E K tp (N + 1) (nI 1) (nI (i + 1)) (nI o) (nI nx') (nI kd') (nI pl') wd' (kI kk') nu' fk fp σ' cn sn pn od Q := by
            unfold t14
            conv => lhs; unfold f_X2_take_14
            rw [if_neg i900, if_neg (show ¬ nI 1 = 0 by decide), if_neg k0, if_neg (kn 0 (by omega) (by omega)), if_neg (kn 1 (by omega) (by omega)), if_neg (kn 2 (by omega) (by omega)), if_neg (kn 3 (by omega) (by omega)), if_neg (kn 4 (by omega) (by omega)), if_neg (kn 5 (by omega) (by omega)), if_neg (kn 6 (by omega) (by omega)), if_neg (kn 7 (by omega) (by omega)), if_neg (kn 8 (by omega) (by omega)), if_neg (kn 9 (by omega) (by omega)), if_pos (show kI kk = nI 10 by rw [e10, kI_lt (by omega)])]
            rw [a3, bd_s]
            simp only [lt_, nI_add]
            rw [hs 0 (by omega), hs 1 (by omega), hs 2 (by omega), hs 3 (by omega), sBq (fun j _ _ => hs j (by omega)), sRq (fun j _ _ => hs j (by omega)), aLq (b := Q 0) (hs 1 (by omega)) h1 (fun j _ _ => hs j (by omega)), aK_c (b := Q 1) (σ := σ') (τ := σ) (fun j _ _ => hs j (by omega)), aOq (b := od) (hs 3 (by omega)) h3 (fun j _ _ => hs j (by omega)), aRq (b := Q 4) (hs 2 (by omega)) h2 (fun j _ _ => hs j (by omega)), aPq (b := Q 5) (hs 0 (by omega)) h0 (fun j _ _ => hs j (by omega))]
          have hm : ∀ sA th ta fA fB : Int32, f_X12_book_54 fu tq (N2 + 2) sA th ta (nI E) fA fB (nI 0) ba (nI kd) (nI pl) (nI nx) nu2 le wd2 (nI o) (mk4 c σ) wds = f_X12_book_54 fu tq (N2 + 1) sA th ta (nI E) fA fB (nI 0) ba (nI kd') (nI pl') (nI nx') nu2' le' wd2' (nI o) (mk4 c σ') wds := by
            intro sA th ta fA fB
            conv => lhs; unfold f_X12_book_54
            rw [if_pos (show nI 0 = 0 from rfl), if_neg k0, m_isCell T, bd_s, if_pos (md 0 e0), m_isSecret T, bd_s, if_pos (md 4 e4), m_isPage T, bd_s, if_pos (md 6 e6), m_isKnows T, bd_s, if_pos (md 8 e8), m_isOrder T, bd_s, if_pos (md 9 e9), m_isRead T, bd_s, if_neg (mt 10 e10)]
            simp only [a4, a5, a6, bd_s]
          rw [hc]
          simp only [hm]
          rcases hI with ⟨σ2, od2, cn2, sn2, pn2, wds2, o2, x1, x2, x3, x4, x5, x6, v1, v2, v3, v4, v5, v6, e1, e2, e3, e4, e5, e6⟩ | ⟨k, p, b1, b2, e1, v1, v2, v3, v4, v5, v6, v7, c', wds2, e2, e3, e6⟩
          · exact Or.inl ⟨σ2, od2, cn2, sn2, pn2, wds2, o2, x1, x2, x3, x4, x5, x6, v1, v2, v3, v4, v5, v6, e1, e2, e3, e4, e5, e6⟩
          · exact Or.inr ⟨k, p, b1, b2, e1, v1, v2, v3, v4, v5, v6, v7, c', wds2, e2, e3, e6⟩
        · refine Or.inr ⟨k, p, b1, b2, ?_, z1, z2, z3, z4, z5, z6, nI o, c', wds, fun sA th ta fA fB => ?_, g3, fun _ _ => rfl⟩
          · unfold t14
            conv => enter [1, oo, 1, 1]; unfold f_X2_take_14
            rw [if_neg i900, if_neg (show ¬ nI 1 = 0 by decide), if_neg k0, if_neg (kn 0 (by omega) (by omega)), if_neg (kn 1 (by omega) (by omega)), if_neg (kn 2 (by omega) (by omega)), if_neg (kn 3 (by omega) (by omega)), if_neg (kn 4 (by omega) (by omega)), if_neg (kn 5 (by omega) (by omega)), if_neg (kn 6 (by omega) (by omega)), if_neg (kn 7 (by omega) (by omega)), if_neg (kn 8 (by omega) (by omega)), if_neg (kn 9 (by omega) (by omega)), if_pos (show kI kk = nI 10 by rw [e10, kI_lt (by omega)])]
            rw [g1, bd_s]
            simp only [lt_]
            exact t14_bad
          · conv => lhs; unfold f_X12_book_54
            rw [if_pos (show nI 0 = 0 from rfl), if_neg k0, m_isCell T, bd_s, if_pos (md 0 e0), m_isSecret T, bd_s, if_pos (md 4 e4), m_isPage T, bd_s, if_pos (md 6 e6), m_isKnows T, bd_s, if_pos (md 8 e8), m_isOrder T, bd_s, if_pos (md 9 e9), m_isRead T, bd_s, if_neg (mt 10 e10)]
            simp only [g2, g5, g6, bd_s, b54_bad b1 b2]
      -- no part begins so
      have hb := fK_b (kd := kd) (x := 2) (by omega) (by omega)
      refine Or.inr ⟨fK kd 2, pl, hb.1, hb.2, ?_, nI kd, nI pl, nI nx, nu2, le, wd2, nI o, mk4 c σ, wds, fun sA th ta fA fB => ?_, fun j hj => mk4_lo hj, fun _ _ => rfl⟩
      · unfold t14
        conv => enter [1, oo, 1, 1]; unfold f_X2_take_14
        rw [if_neg i900, if_neg (show ¬ nI 1 = 0 by decide), if_neg k0]
        simp only [c_fail (show kd ≤ 4 by omega), bd_s, fK_nI, lt_]
        rw [if_neg (kn 0 (by omega) e0), if_neg (kn 4 (by omega) e4), if_neg (kn 6 (by omega) e6), if_neg (kn 8 (by omega) e8), if_neg (kn 9 (by omega) e9), if_neg (kn 10 (by omega) e10)]
        simp only [ite_self]
        exact t14_bad
      · conv => lhs; unfold f_X12_book_54
        rw [if_pos (show nI 0 = 0 from rfl), if_neg k0, m_isCell T, bd_s, if_pos (md 0 e0), m_isSecret T, bd_s, if_pos (md 4 e4), m_isPage T, bd_s, if_pos (md 6 e6), m_isKnows T, bd_s, if_pos (md 8 e8), m_isOrder T, bd_s, if_pos (md 9 e9), m_isRead T, bd_s, if_pos (md 10 e10), m_amiss (by omega), bd_s, fK_nI]
        simp only [m_isSign T, bd_s, b_must hb.1 hb.2, b54_bad hb.1 hb.2]
end BG
