/-! a CELL that is told -/
def bN (b : Bool) : Nat := if b = true then 1 else 0
def sCl (σ : Nat → Nat) (v : Nat) (b r : Bool) : Nat → Nat := up (up (up (up σ (9 + σ 0) v) (17 + σ 0) (bN b)) (25 + σ 0) (bN r)) 0 (σ 0 + 1)
section CE
variable {B : Nat → Nat} {E fu : Nat} {tp tq : Nat → Int32} {K : Nat → Int64} {pl nx kd kk : Nat} {wd wd2 : Int64} {nu nu2 le fk fp ba : Int32} {c : Nat → Int32} {σ : Nat → Nat} {wds cn sn pn : Nat → Int64} {lt rm sp : Nat → Int32} {w' : Int64} {v : Nat} {b r : Bool}
theorem sCl_ne {i : Nat} (h : i ≠ 0) (h1 : i ≠ 9 + σ 0) (h2 : i ≠ 17 + σ 0) (h3 : i ≠ 25 + σ 0) : sCl σ v b r i = σ i := by
  unfold sCl
  rw [up_n _ _ h, up_n _ _ h3, up_n _ _ h2, up_n _ _ h1]
theorem sCl_0 : sCl σ v b r 0 = σ 0 + 1 := up_s _ _ _
theorem sCl_9 : sCl σ v b r (9 + σ 0) = v := by
  unfold sCl
  rw [up_n _ _ (by omega), up_n _ _ (by omega), up_n _ _ (by omega), up_s]
theorem sCl_17 : sCl σ v b r (17 + σ 0) = bN b := by
  unfold sCl
  rw [up_n _ _ (by omega), up_n _ _ (by omega), up_s]
theorem sCl_25 : sCl σ v b r (25 + σ 0) = bN r := by
  unfold sCl
  rw [up_n _ _ (by omega), up_s]
theorem bN_le (b : Bool) : bN b ≤ 1 := by unfold bN; split <;> omega
theorem wd_cell (h : WD σ) (h8 : σ 0 < 8) (hv : v ≤ 20) : WD (sCl σ v b r) := by
  have hb := bN_le b
  have hr := bN_le r
  obtain ⟨⟨h0, h1, h2, h3⟩, hk, hl, hp, ho, hi, hz⟩ := h
  refine ⟨⟨?_, ?_, ?_, ?_⟩, fun k hk1 => ?_, fun s hs => ?_, fun p hp1 => ?_, fun i hi1 => ?_, fun i j hi1 hj1 he => ?_, fun i hi1 => ?_⟩
  · rw [sCl_0]; omega
  · rw [sCl_ne (by omega) (by omega) (by omega) (by omega)]; exact h1
  · rw [sCl_ne (by omega) (by omega) (by omega) (by omega)]; exact h2
  · rw [sCl_ne (by omega) (by omega) (by omega) (by omega)]; exact h3
  · have := hk k hk1
    rw [sCl_0, sCl_ne (i := 33 + k) (by omega) (by omega) (by omega) (by omega)]
    by_cases e : k = σ 0
    · subst e
      rw [sCl_9, sCl_17, sCl_25]
      exact ⟨hv, hb, hr, this.2.2.2.1, fun q => absurd q (by omega)⟩
    · rw [sCl_ne (i := 9 + k) (by omega) (by omega) (by omega) (by omega), sCl_ne (i := 17 + k) (by omega) (by omega) (by omega) (by omega), sCl_ne (i := 25 + k) (by omega) (by omega) (by omega) (by omega)]
      exact ⟨this.1, this.2.1, this.2.2.1, this.2.2.2.1, fun q => this.2.2.2.2 (by omega)⟩
  · rw [sCl_ne (i := 49 + s) (by omega) (by omega) (by omega) (by omega), sCl_ne (i := 1) (by omega) (by omega) (by omega) (by omega)]
    exact hl s hs
  · rw [sCl_ne (i := 55 + p) (by omega) (by omega) (by omega) (by omega), sCl_ne (i := 61 + p) (by omega) (by omega) (by omega) (by omega)]
    exact hp p hp1
  · rw [sCl_ne (i := 3) (by omega) (by omega) (by omega) (by omega)] at hi1
    rw [sCl_ne (i := 67 + i) (by omega) (by omega) (by omega) (by omega), sCl_0]
    have := ho i hi1
    omega
  · rw [sCl_ne (i := 3) (by omega) (by omega) (by omega) (by omega)] at hi1 hj1
    rw [sCl_ne (i := 67 + i) (by omega) (by omega) (by omega) (by omega), sCl_ne (i := 67 + j) (by omega) (by omega) (by omega) (by omega)] at he
    exact hi i j hi1 hj1 he
  · rw [sCl_ne (i := i) (by omega) (by omega) (by omega) (by omega)]
    exact hz i hi1
theorem aP_cell : upd (aP sp σ) (σ 0) (nI v) = aP sp (sCl σ v b r) := by
  unfold aP
  rw [sCl_0]
  have := mkF_step (b := sp) (f := fun i => sCl σ v b r (9 + i)) (j := σ 0)
  rw [show sCl σ v b r (9 + σ 0) = v from sCl_9] at this
  rw [← this]
  congr 1
  exact mkF_congr (fun i hi => by
    unfold sCl
    rw [up_n _ _ (by omega), up_n _ _ (by omega), up_n _ _ (by omega), up_n _ _ (by omega)])
theorem sB_cell (h : WD σ) (h8 : σ 0 < 8) : sB (sCl σ v b r) = sB σ ||| (if b = true then 2 ^ σ 0 else 0) := by
  apply Nat.eq_of_testBit_eq
  intro i
  unfold sB
  rw [Nat.testBit_or, bset_bit, bset_bit]
  have z := ((h.2.1 (σ 0) h8).2.2.2.2 (Nat.le_refl _)).1
  by_cases hi : i < 8
  · rw [decide_eq_true hi, Bool.true_and, Bool.true_and]
    by_cases e : i = σ 0
    · subst e
      rw [sCl_17, z]
      cases b
      · rw [if_neg (show ¬ (false = true) by decide), Nat.zero_testBit]; rfl
      · rw [if_pos rfl, Nat.testBit_two_pow_self]; rfl
    · rw [sCl_ne (by omega) (by omega) (by omega) (by omega)]
      cases b
      · rw [if_neg (by decide), Nat.zero_testBit, Bool.or_false]
      · rw [if_pos rfl, Nat.testBit_two_pow, decide_eq_false (show ¬ σ 0 = i from fun q => e q.symm), Bool.or_false]
  · rw [decide_eq_false hi, Bool.false_and, Bool.false_and]
    cases b
    · rw [if_neg (by decide), Nat.zero_testBit]; rfl
    · rw [if_pos rfl, Nat.testBit_two_pow, decide_eq_false (by omega)]; rfl
theorem sR_cell (h : WD σ) (h8 : σ 0 < 8) : sR (sCl σ v b r) = sR σ ||| (if r = true then 2 ^ σ 0 else 0) := by
  apply Nat.eq_of_testBit_eq
  intro i
  unfold sR
  rw [Nat.testBit_or, bset_bit, bset_bit]
  have z := ((h.2.1 (σ 0) h8).2.2.2.2 (Nat.le_refl _)).2.1
  by_cases hi : i < 8
  · rw [decide_eq_true hi, Bool.true_and, Bool.true_and]
    by_cases e : i = σ 0
    · subst e
      rw [sCl_25, z]
      cases r
      · rw [if_neg (show ¬ (false = true) by decide), Nat.zero_testBit]; rfl
      · rw [if_pos rfl, Nat.testBit_two_pow_self]; rfl
    · rw [sCl_ne (by omega) (by omega) (by omega) (by omega)]
      cases r
      · rw [if_neg (by decide), Nat.zero_testBit, Bool.or_false]
      · rw [if_pos rfl, Nat.testBit_two_pow, decide_eq_false (show ¬ σ 0 = i from fun q => e q.symm), Bool.or_false]
  · rw [decide_eq_false hi, Bool.false_and, Bool.false_and]
    cases r
    · rw [if_neg (by decide), Nat.zero_testBit]; rfl
    · rw [if_pos rfl, Nat.testBit_two_pow, decide_eq_false (by omega)]; rfl
theorem c_addCell {n X Y : Nat} {row : Nat → Int32} (hn : n < 8) : f_X1_addCell w' (nI v) (bI b) (bI r) (nI n) (nI X) (nI Y) cn row = some (nI (n + 1), nI (X ||| if b = true then 2 ^ n else 0), nI (Y ||| if r = true then 2 ^ n else 0), vp_updL cn n w', upd row n (nI v)) := by
  unfold f_X1_addCell
  simp (disch := omega) only [gi_n, nI_cl, nI_1shl]
  unfold f_X1_addCell_40 f_X1_addCell_64
  have l0 : ∀ {α β : Type} (x : β) (k : β → Option α), lt_ x k = k x := fun _ _ => rfl
  cases b <;> cases r
  · rw [if_pos (show bI false = 0 from rfl), l0, if_pos (show bI false = 0 from rfl)]
    simp only [nI_or, lt_, nI_add, Bool.false_eq_true, if_false]
  · rw [if_pos (show bI false = 0 from rfl), l0, if_neg (show ¬ bI true = 0 by decide)]
    simp (disch := omega) only [nI_1shl, nI_or, lt_, nI_add, Bool.false_eq_true, if_false, if_true]
  · rw [if_neg (show ¬ bI true = 0 by decide), l0, if_pos (show bI false = 0 from rfl)]
    simp only [nI_or, lt_, nI_add, Bool.false_eq_true, if_false, if_true]
  · rw [if_neg (show ¬ bI true = 0 by decide), l0, if_neg (show ¬ bI true = 0 by decide)]
    simp (disch := omega) only [nI_1shl, nI_or, lt_, nI_add, if_true]
theorem isW_some (x a : Int32) (y z : Int64) : ∃ r, f_X12_isWord y x z = some r ∧ (r = 0 ∨ r = 1) := by
  unfold f_X12_isWord
  split
  · split
    · exact ⟨_, rfl, Or.inr rfl⟩
    · exact ⟨_, rfl, Or.inl rfl⟩
  · exact ⟨_, rfl, Or.inl rfl⟩
theorem isPr_some (x : Int32) (z : Int64) : ∃ r, f_X12_isPricks x z = some r := by
  unfold f_X12_isPricks
  obtain ⟨r, h, h2⟩ := isW_some x x (lN (KEY 1)) z
  rw [sp_1, bd_s, h, bd_s, gd_pos h2]
  exact ⟨_, rfl⟩
theorem isBl_some (x : Int32) (z : Int64) : ∃ r, f_X12_isBlind x z = some r := by
  unfold f_X12_isBlind
  obtain ⟨r, h, h2⟩ := isW_some x x (lN (KEY 2)) z
  rw [sp_2, bd_s, h, bd_s, gd_pos h2]
  exact ⟨_, rfl⟩
theorem isRu_some (x : Int32) (z : Int64) : ∃ r, f_X12_isRubs x z = some r := by
  unfold f_X12_isRubs
  obtain ⟨r, h, h2⟩ := isW_some x x (lN (KEY 3)) z
  rw [sp_3, bd_s, h, bd_s, gd_pos h2]
  exact ⟨_, rfl⟩
theorem lowU {c0 g : Nat → Int32} {a : Nat} {x : Int32} (ha : 1560 ≤ a) (hg : ∀ i, i < 1560 → g i = c0 i) : ∀ i, i < 1560 → upd g a x i = c0 i := fun i hi => by
  show (if i = a then x else g i) = c0 i
  rw [if_neg (by omega)]; exact hg i hi
/-- behind a FAULT -/
theorem b_39 {k n : Nat} {p y1 y2 y3 y4 y5 x E' : Int32} {y6 : Int64} {g : Nat → Int32} (h1 : 1 ≤ k) (h2 : k ≤ 7) (hn : n < 8) (hg : ∀ i, i < 1560 → g i = c i) : ∃ c', f_X12_readCell_39 fu E' tq (nI n) (nI (1569 + n)) x (nI k) p y1 y2 y3 y4 y5 y6 g wds = some (nI k, p, y1, y2, y3, y4, y5, y6, c', wds) ∧ ∀ i, i < 1560 → c' i = c i := by
  obtain ⟨r1, hr1⟩ := isBl_some y1 y6
  obtain ⟨r2, hr2⟩ := isRu_some y1 y6
  refine ⟨upd (upd (upd g (1569 + n) x) (1577 + n) (nI 0)) (1585 + n) (nI 0), ?_, lowU (by omega) (lowU (by omega) (lowU (by omega) hg))⟩
  unfold f_X12_readCell_39
  rw [gi_n (by omega) (by omega), nI_cl (by omega), hr1, bd_s, b_perhaps h1 h2, bd_s]
  simp only
  rw [if_pos (show nI 0 = 0 from rfl), nI_add]
  unfold f_X12_readCell_65
  rw [gi_n (by omega) (by omega), nI_cl (by omega), hr2, bd_s, b_perhaps h1 h2, bd_s]
  simp only
  rw [if_pos (show nI 0 = 0 from rfl), nI_add]
  unfold f_X12_readCell_91
  rw [gi_n (by omega) (by omega), nI_cl (by omega), if_neg (b_eq h1 h2)]
/-- behind the pricks -/
theorem r_39 (h : TX B E tp tq) (hK : ∀ k, k < 24 → K k = lN (KEY k)) (T : TOK B E pl nx kd kk wd nu nu2 le wd2) (w : WD σ) (h8 : σ 0 < 8) (hv : v ≤ 20) (hfu : 2000 < fu) :
    (∃ (b r : Bool), ∃ y1 y2 y3 y4 y5 y6 rs pl' nx' kd' kk' wd' nu' nu2' le' wd2', nx ≤ pl' ∧ TOK B E pl' nx' kd' kk' wd' nu' nu2' le' wd2' ∧
      f_X2_takeCell_55 fu (nI E) K tp (nI (σ 1)) (nI (σ 2)) pn sn w' (nI v) (nI nx) (nI kd) (nI pl) wd (kI kk) nu fk fp (nI (σ 0)) (nI (sB σ)) (nI (sR σ)) cn (aP sp σ) = some (nI 1, nI nx', nI kd', nI pl', wd', kI kk', nu', fk, fp, nI (σ 0 + 1), nI (sB (sCl σ v b r)), nI (sR (sCl σ v b r)), vp_updL cn (σ 0) w', aP sp (sCl σ v b r)) ∧
      f_X12_readCell_39 fu (nI E) tq (nI (σ 0)) (nI (1569 + σ 0)) (nI v) (nI 0) ba (nI kd) (nI pl) (nI nx) nu2 le wd2 (mk4 c σ) wds = some (nI 0, ba, y1, y2, y3, y4, y5, y6, mk4 c (sCl σ v b r), wds) ∧
      f_X12_isSign (nI 59) y1 y4 = some rs ∧ f_X12_must fu rs (nI E) (nI 0) ba y1 y2 y3 y4 y5 y6 tq = some (nI 0, ba, nI kd', nI pl', nI nx', nu2', le', wd2')) ∨
    (∃ k p, 1 ≤ k ∧ k ≤ 7 ∧ ∃ u1 u2 u3 : Int32, ∃ u4 : Int64, ∃ u5 u6 : Int32, ∃ y1 y2 y3 y4 y5 y6 y7 : Int32, ∃ y8 : Int64, ∃ (c' : Nat → Int32), ∃ rs z1 z2 z3 z4 z5 : Int32, ∃ z6 : Int64,
      f_X2_takeCell_55 fu (nI E) K tp (nI (σ 1)) (nI (σ 2)) pn sn w' (nI v) (nI nx) (nI kd) (nI pl) wd (kI kk) nu fk fp (nI (σ 0)) (nI (sB σ)) (nI (sR σ)) cn (aP sp σ) = some (nI 0, u1, u2, u3, u4, u5, u6, nI k, nI p, nI (σ 0), nI (sB σ), nI (sR σ), cn, aP sp σ) ∧
      f_X12_readCell_39 fu (nI E) tq (nI (σ 0)) (nI (1569 + σ 0)) (nI v) (nI 0) ba (nI kd) (nI pl) (nI nx) nu2 le wd2 (mk4 c σ) wds = some (y1, y2, y3, y4, y5, y6, y7, y8, c', wds) ∧ (∀ i, i < 1560 → c' i = c i) ∧
      f_X12_isSign (nI 59) y3 y6 = some rs ∧ f_X12_must fu rs (nI E) y1 y2 y3 y4 y5 y6 y7 y8 tq = some (nI k, nI p, z1, z2, z3, z4, z5, z6)) := by
  -- one word that may stand, both ways
  have sk : ∀ (w : Nat) {pl nx kd kk : Nat} {wd wd2 : Int64} {nu nu2 le : Int32}, w < 24 → TOK B E pl nx kd kk wd nu nu2 le wd2 → ∃ (b : Bool), ∃ pl' nx' kd' kk' wd' nu' nu2' le' wd2', pl ≤ pl' ∧ nx ≤ nx' ∧ TOK B E pl' nx' kd' kk' wd' nu' nu2' le' wd2' ∧
      f_X8_skips fu (nI w) (nI E) (nI nx) (nI kd) (nI pl) wd (kI kk) nu K tp = some (bI b, nI nx', nI kd', nI pl', wd', kI kk', nu') ∧
      f_X12_perhaps fu (bI (decide (kk = w))) (nI E) (nI 0) (nI kd) (nI pl) (nI nx) nu2 le wd2 tq = some (bI b, nI kd', nI pl', nI nx', nu2', le', wd2') := by
    intro w pl nx kd kk wd wd2 nu nu2 le hw T
    have t1 := T.1
    rcases r_skip (fu := fu) (ba := ba) h hK T hw hfu with ⟨pl1, nx1, kd1, kk1, wd1, nu1, nu21, le1, wd21, a0, a1, T1, a3, a4, a5⟩ | ⟨a0, a1, a2, a3⟩
    · have t2 := T1.1
      exact ⟨true, pl1, nx1, kd1, kk1, wd1, nu1, nu21, le1, wd21, by omega, by omega, T1, a3, a4⟩
    · exact ⟨false, pl, nx, kd, kk, wd, nu, nu2, le, wd2, by omega, by omega, T, a1, a2⟩
  obtain ⟨b, pl1, nx1, kd1, kk1, wd1, nu1, nu21, le1, wd21, a1, a1', T1, a3, a4⟩ := sk 2 (by omega) T
  obtain ⟨r, pl2, nx2, kd2, kk2, wd22, nu22, nu222, le2, wd222, c1, c1', T2, c3, c4⟩ := sk 3 (by omega) T1
  have t2 := T2.1
  have hs := m_isSign T2
  have hM : f_X12_readCell_39 fu (nI E) tq (nI (σ 0)) (nI (1569 + σ 0)) (nI v) (nI 0) ba (nI kd) (nI pl) (nI nx) nu2 le wd2 (mk4 c σ) wds = some (nI 0, ba, nI kd2, nI pl2, nI nx2, nu222, le2, wd222, mk4 c (sCl σ v b r), wds) := by
    have key : ∀ b' r' : Bool, b' = b → r' = r → f_X12_readCell_39 fu (nI E) tq (nI (σ 0)) (nI (1569 + σ 0)) (nI v) (nI 0) ba (nI kd) (nI pl) (nI nx) nu2 le wd2 (mk4 c σ) wds = some (nI 0, ba, nI kd2, nI pl2, nI nx2, nu222, le2, wd222, mk4 c (sCl σ v b' r'), wds) := by
      intro b' r' eb er
      have e91 : ∀ (x y : Nat), f_X12_readCell_91 fu (nI E) tq (nI (1585 + σ 0)) (nI y) (nI 0) ba (nI kd2) (nI pl2) (nI nx2) nu222 le2 wd222 (upd (upd (mk4 c σ) (1569 + σ 0) (nI v)) (1577 + σ 0) (nI x)) wds = some (nI 0, ba, nI kd2, nI pl2, nI nx2, nu222, le2, wd222, mk4 c (up (up (up (up σ (9 + σ 0) v) (17 + σ 0) x) (25 + σ 0) y) 0 (σ 0 + 1)), wds) := by
        intro x y
        unfold f_X12_readCell_91
        simp (disch := omega) only [gi_n, nI_cl, nI_eq0, if_true, lt_, mk4_up, mk4_at, nI_add]
        rw [show 1569 + σ 0 - 1560 = 9 + σ 0 by omega, show 1577 + σ 0 - 1560 = 17 + σ 0 by omega, show 1585 + σ 0 - 1560 = 25 + σ 0 by omega, Nat.sub_self, up_n _ _ (by omega), up_n _ _ (by omega), up_n _ _ (by omega)]
      unfold f_X12_readCell_39
      rw [gi_n (by omega) (by omega), nI_cl (by omega), m_isBlind T, bd_s, a4, bd_s]
      simp only
      have e65 : ∀ x : Nat, f_X12_readCell_65 fu (nI E) tq (nI (σ 0)) (nI 1577 + nI (σ 0)) (nI x) (nI 0) ba (nI kd1) (nI pl1) (nI nx1) nu21 le1 wd21 (upd (mk4 c σ) (1569 + σ 0) (nI v)) wds = some (nI 0, ba, nI kd2, nI pl2, nI nx2, nu222, le2, wd222, mk4 c (up (up (up (up σ (9 + σ 0) v) (17 + σ 0) x) (25 + σ 0) (bN r')) 0 (σ 0 + 1)), wds) := by
        intro x
        unfold f_X12_readCell_65
        rw [nI_add, gi_n (by omega) (by omega), nI_cl (by omega), m_isRubs T1, bd_s, c4, bd_s]
        simp only
        rw [nI_add, ← er]
        cases r'
        · rw [if_pos (show bI false = 0 from rfl)]; exact e91 x 0
        · rw [if_neg (show ¬ bI true = 0 by decide)]; exact e91 x 1
      rw [← eb]
      cases b'
      · rw [if_pos (show bI false = 0 from rfl)]; exact e65 0
      · rw [if_neg (show ¬ bI true = 0 by decide)]; exact e65 1
    exact key b r rfl rfl
  unfold f_X2_takeCell_55
  rw [if_neg (show ¬ nI v = (-1 : Int32) by rw [nI_ne_m1 (by omega)]; exact id), a3, bd_s]
  simp only
  rw [c3, bd_s]
  simp only
  rcases r_semi (fu := fu) (ba := ba) (fk := fk) (fp := fp) h hK T2 hfu with ⟨pl3, nx3, kd3, kk3, wd3, nu3, nu23, le3, wd23, d1, T3, d3, d4, d5, d6⟩ | ⟨d1, d2, d3⟩
  · rw [d5, bd_s]
    simp only
    rw [if_neg (show ¬ nI 1 = 0 by decide), c_addCell h8, bd_s, ← sB_cell w h8 (v := v) (r := r), ← sR_cell w h8 (v := v) (b := b), aP_cell (b := b) (r := r)]
    exact Or.inl ⟨b, r, _, _, _, _, _, _, _, pl3, nx3, kd3, kk3, wd3, nu3, nu23, le3, wd23, by omega, T3, rfl, hM, hs, d6⟩
  · have hb := fK_b (kd := kd2) (x := 2) (by omega) (by omega)
    rw [d2, bd_s]
    simp only
    rw [if_pos (show nI 0 = 0 from rfl)]
    refine Or.inr ⟨fK kd2 2, pl2, hb.1, hb.2, _, _, _, _, _, _, _, _, _, _, _, _, _, _, _, _, _, _, _, _, _, _, rfl, hM, fun i hi => mk4_lo hi, hs, d3⟩
end CE
