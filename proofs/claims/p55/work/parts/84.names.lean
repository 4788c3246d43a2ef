/-! names told ahead, new names -/
/-- the names of both sides are the same, in block b -/
def NM (b : Nat) (cn sn pn wds : Nat → Int64) (n0 n1 n2 : Nat) : Prop := (∀ k, k < n0 → cn k = wds (20 * b + fr 0 + k)) ∧ (∀ k, k < n1 → sn k = wds (20 * b + fr 1 + k)) ∧ (∀ k, k < n2 → pn k = wds (20 * b + fr 2 + k))
theorem oI_m1 {o : Option Nat} (h : ∀ j, o = some j → j < 2147483648) : (oI o = (-1 : Int32)) = (o = none) := by
  cases o with
  | none => exact propext ⟨fun _ => rfl, fun _ => rfl⟩
  | some j =>
    have := h j rfl
    rw [oI_s, nI_ne_m1 this]
    exact propext ⟨False.elim, fun q => by cases q⟩
section NN
variable {B : Nat → Nat} {E fu : Nat} {tp tq : Nat → Int32} {K : Nat → Int64} {pl nx kd kk : Nat} {wd wd2 : Int64} {nu nu2 le fk fp ba : Int32} {c : Nat → Int32} {wds row cn sn pn : Nat → Int64}
theorem m_told (T : TOK B E pl nx kd kk wd nu nu2 le wd2) (hE : E ≤ 900) {b s n : Nat} (hb : b ≤ 4) (hs : s < 3) (hn : n ≤ if s = 0 then 8 else 6) (hc : c (390 * b + s) = nI n) (hfu : 2000 < fu) :
    f_X12_told fu (nI b) (nI s) (nI 0) ba (nI kd) (nI pl) le wd2 c wds = if nmB pl nx kd kk = true then (match fnd (fun k => decide (wds (20 * b + fr s + k) = wd2)) n 0 with
      | some j => some (nI j, nI 0, ba)
      | none => some (nI 0, nI 3, nI pl)) else some (nI 0, nI (fK kd 2), nI pl) := by
  have hT := T.1
  have h8 : n ≤ 8 := by split at hn <;> omega
  unfold f_X12_told
  rw [if_pos (show nI 0 = 0 from rfl), m_isName T hE, bd_s]
  cases hm : nmB pl nx kd kk
  · have hb := fK_b (kd := kd) (x := 2) (by omega) (by omega)
    rw [if_pos (show bI false = 0 from rfl), m_amiss (by omega), bd_s, fK_nI, if_neg (by decide)]
    show f_X12_told_18 fu (nI kd) (nI pl) le wd2 c wds (nI b) (nI s) (nI (fK kd 2)) (nI pl) = _
    unfold f_X12_told_18
    rw [if_neg (b_le hb.1 hb.2)]
  · rw [if_neg (show ¬ bI true = 0 by decide), if_pos rfl]
    unfold f_X12_told_18
    rw [if_pos (show nI 0 ≤ 0 by decide), m_named hb hs hn hc (by omega), bd_s]
    cases hf : fnd (fun k => decide (wds (20 * b + fr s + k) = wd2)) n 0 with
    | none => rw [if_neg (show ¬ 0 ≤ oI none by decide), m_fail0, bd_s]; rfl
    | some j =>
      have := fnd_lt hf
      rw [if_pos (show 0 ≤ oI (some j) by rw [oI_s, nI_0le (by omega)]; trivial), oI_s]
      simp only
      by_cases e : 0 < j
      · rw [if_pos (show nI 0 < nI j by rw [nI_lt' (by omega) (by omega)]; exact e)]
      · obtain rfl : j = 0 := by omega
        rw [if_neg (by decide)]
theorem r_old (h : TX B E tp tq) (hK : ∀ k, k < 24 → K k = lN (KEY k)) (T : TOK B E pl nx kd kk wd nu nu2 le wd2) {b s n n1 : Nat} (hb : b ≤ 4) (hs : s < 3) (hn : n ≤ if s = 0 then 8 else 6) (hn1 : n ≤ n1) (hn8 : n1 ≤ 8) (hc : c (390 * b + s) = nI n) (hr : ∀ k, k < n → row k = wds (20 * b + fr s + k)) (hfu : 2000 < fu) :
    (∃ j pl' nx' kd' kk' wd' nu' nu2' le' wd2', j < n ∧ nx ≤ pl' ∧ pl < nx ∧ kd = 1 ∧ TOK B E pl' nx' kd' kk' wd' nu' nu2' le' wd2' ∧
      f_X8_oneOf fu n1 (nI n) (nI E) (nI nx) (nI kd) (nI pl) wd (kI kk) nu fk fp K tp row = some (nI j, nI nx', nI kd', nI pl', wd', kI kk', nu', fk, fp) ∧
      f_X12_told fu (nI b) (nI s) (nI 0) ba (nI kd) (nI pl) le wd2 c wds = some (nI j, nI 0, ba) ∧
      f_X12_must fu (nI 1) (nI E) (nI 0) ba (nI kd) (nI pl) (nI nx) nu2 le wd2 tq = some (nI 0, ba, nI kd', nI pl', nI nx', nu2', le', wd2') ∧
      f_X12_readTold fu (nI b) (nI s) (nI E) (nI 0) ba (nI kd) (nI pl) (nI nx) nu2 le wd2 c tq wds = some (nI j, nI 0, ba, nI kd', nI pl', nI nx', nu2', le', wd2')) ∨
    (∃ k, 1 ≤ k ∧ k ≤ 7 ∧
      f_X8_oneOf fu n1 (nI n) (nI E) (nI nx) (nI kd) (nI pl) wd (kI kk) nu fk fp K tp row = some ((-1 : Int32), nI nx, nI kd, nI pl, wd, kI kk, nu, nI k, nI pl) ∧
      f_X12_told fu (nI b) (nI s) (nI 0) ba (nI kd) (nI pl) le wd2 c wds = some (nI 0, nI k, nI pl) ∧
      f_X12_readTold fu (nI b) (nI s) (nI E) (nI 0) ba (nI kd) (nI pl) (nI nx) nu2 le wd2 c tq wds = some (nI 0, nI k, nI pl, nI kd, nI pl, nI nx, nu2, le, wd2)) := by
  have hT := T.1
  have hE := h.1
  have ht := m_told (ba := ba) (fu := fu) (wds := wds) T hE hb hs hn hc hfu
  unfold f_X8_oneOf f_X12_readTold
  rw [c_nameHere T hE]
  cases hm : nmB pl nx kd kk
  · have hb2 := fK_b (kd := kd) (x := 2) (by omega) (by omega)
    rw [hm, if_neg (show ¬ (false = true) by decide)] at ht
    refine Or.inr ⟨fK kd 2, hb2.1, hb2.2, ?_, ht, ?_⟩
    · rw [if_neg (show ¬ (false = true) by decide), bd_s]
      show (if lg_cmp (-1 : Int64) (-1 : Int64) = 0 then _ else _) = _
      rw [if_pos (by decide)]
    · rw [ht, bd_s]
      show bd_ (f_X12_must fu (nI 1) (nI E) (nI (fK kd 2)) (nI pl) (nI kd) (nI pl) (nI nx) nu2 le wd2 tq) _ = _
      rw [b_must hb2.1 hb2.2, bd_s]
  · obtain ⟨e1, e2, e3, e4, e5⟩ := nm_of T hm
    have hfc : fnd (fun k => decide (wds (20 * b + fr s + k) = wd2)) n 0 = fnd (fun k => decide (row k = wd)) n 0 := fnd_congr (fun i _ hi => by rw [hr i (by omega), e3])
    rw [hm, if_pos rfl, hfc] at ht
    rw [if_pos rfl, bd_s]
    have hcx : ∀ {α : Type} (x y : α), (if lg_cmp wd (-1 : Int64) = 0 then x else y) = y := fun x y => if_neg (by rw [lg_eq0]; exact e5)
    simp only [hcx, c_indexOf (row := row) (w := wd) hn1 hn8 (show 100 < fu by omega), bd_s]
    cases hf : fnd (fun k => decide (row k = wd)) n 0 with
    | none =>
      rw [hf] at ht
      refine Or.inr ⟨3, by omega, by omega, ?_, ht, ?_⟩
      · rw [if_pos (show oI none = (-1 : Int32) from rfl), c_fail (by omega), bd_s, if_neg (show ¬ kd = 4 by omega)]
      · rw [ht, bd_s]
        show bd_ (f_X12_must fu (nI 1) (nI E) (nI 3) (nI pl) (nI kd) (nI pl) (nI nx) nu2 le wd2 tq) _ = _
        rw [b_must (by omega) (by omega), bd_s]
    | some j =>
      have hj := fnd_lt hf
      rw [hf] at ht
      obtain ⟨pl', nx', kd', kk', wd', nu', nu2', le', wd2', h1, h2, h3, h4⟩ := tk_next (fu := fu) h hK (a := nx) (by omega) hfu (nI kd) (nI pl) wd (kI kk) nu (nI kd) (nI pl) nu2 le wd2
      have hmu : f_X12_must fu (nI 1) (nI E) (nI 0) ba (nI kd) (nI pl) (nI nx) nu2 le wd2 tq = some (nI 0, ba, nI kd', nI pl', nI nx', nu2', le', wd2') := by
        unfold f_X12_must
        rw [if_pos (show nI 0 ≤ 0 by decide), if_neg (show ¬ nI 1 = 0 by decide), h4, bd_s]
      refine Or.inl ⟨j, pl', nx', kd', kk', wd', nu', nu2', le', wd2', hj, h1, e4, e1, h2, ?_, ht, hmu, ?_⟩
      · rw [if_neg (show ¬ oI (some j) = (-1 : Int32) by rw [oI_s, nI_ne_m1 (by omega)]; exact id), h3, bd_s]; rfl
      · rw [ht, bd_s]
        show bd_ (f_X12_must fu (nI 1) (nI E) (nI 0) ba (nI kd) (nI pl) (nI nx) nu2 le wd2 tq) _ = _
        rw [hmu, bd_s]
/-- a new name: it is none of those told ahead -/
theorem r_new (h : TX B E tp tq) (hK : ∀ k, k < 24 → K k = lN (KEY k)) (T : TOK B E pl nx kd kk wd nu nu2 le wd2) {s n most n0 n1 n2 : Nat} (hs : s < 3) (hc : c (1560 + s) = nI n) (hnm : n < most) (hmo : most = if s = 0 then 8 else 6) (h0 : n0 ≤ 8) (h1 : n1 ≤ 6) (h2 : n2 ≤ 6) (hc0 : c 1560 = nI n0) (hc1 : c 1561 = nI n1) (hc2 : c 1562 = nI n2) (hN : NM 4 cn sn pn wds n0 n1 n2) (hfu : 2000 < fu) :
    ∃ z1 z2 z3 : Int32, ∃ z4 : Int64, ∃ z5 z6 : Int32, f_X8_forward fu (nI E) (nI nx) (nI kd) (nI pl) wd (kI kk) nu K tp = some (z1, z2, z3, z4, z5, z6) ∧
    ((∃ w pl' nx' kd' kk' wd' nu' nu2' le' wd2', nx ≤ pl' ∧ ¬ w = (-1 : Int64) ∧ TOK B E pl' nx' kd' kk' wd' nu' nu2' le' wd2' ∧
      f_X2_newName fu (nI E) z1 z2 z3 z4 z5 z6 fk fp K tp (nI n0) (nI n1) (nI n2) cn pn sn = some (w, nI nx', nI kd', nI pl', wd', kI kk', nu', fk, fp) ∧
      f_X12_readNew fu (nI s) (nI most) (nI E) (nI 0) ba (nI kd) (nI pl) (nI nx) nu2 le wd2 c tq wds = some (nI n, nI 0, ba, nI kd', nI pl', nI nx', nu2', le', wd2', vp_updL wds (80 + fr s + n) w)) ∨
    (∃ k p, 1 ≤ k ∧ k ≤ 7 ∧ ∃ u1 u2 u3 : Int32, ∃ u4 : Int64, ∃ u5 u6 w1 w2 w3 w4 w5 : Int32, ∃ w6 : Int64,
      f_X2_newName fu (nI E) z1 z2 z3 z4 z5 z6 fk fp K tp (nI n0) (nI n1) (nI n2) cn pn sn = some ((-1 : Int64), u1, u2, u3, u4, u5, u6, nI k, nI p) ∧
      f_X12_readNew fu (nI s) (nI most) (nI E) (nI 0) ba (nI kd) (nI pl) (nI nx) nu2 le wd2 c tq wds = some (nI 0, nI k, nI p, w1, w2, w3, w4, w5, w6, wds))) := by
  have hT := T.1
  have hE := h.1
  have hm8 : most ≤ 8 ∧ fr s + most ≤ 20 := by
    rw [hmo]
    unfold fr
    split
    · omega
    · split <;> omega
  obtain ⟨pl1, nx1, kd1, kk1, wd1, nu1, nu21, le1, wd21, a1, T1, a3, a4⟩ := tk_next (fu := fu) h hK (a := nx) (by omega) hfu (nI kd) (nI pl) wd (kI kk) nu (nI kd) (nI pl) nu2 le wd2
  refine ⟨_, _, _, _, _, _, a3, ?_⟩
  have hT1 := T1.1
  unfold f_X2_newName f_X12_readNew
  simp (disch := omega) only [nI_add, gi_n, nI_cl, hc, lt_]
  rw [if_neg (show ¬ nI n = nI most by rw [nI_eq' (by omega) (by omega)]; omega)]
  unfold f_X12_readNew_26
  rw [if_pos (show nI 0 ≤ 0 by decide), a4, bd_s, c_nameHere T1 hE]
  simp only
  rw [m_isName T1 hE, bd_s]
  cases hm : nmB pl1 nx1 kd1 kk1
  · have hb2 := fK_b (kd := kd1) (x := 2) (by omega) (by omega)
    refine Or.inr ⟨fK kd1 2, pl1, hb2.1, hb2.2, nI nx1, nI kd1, nI pl1, wd1, kI kk1, nu1, nI kd1, nI pl1, nI nx1, nu21, le1, wd21, ?_, ?_⟩
    · rw [if_neg (show ¬ (false = true) by decide), bd_s]
      show (if lg_cmp (-1 : Int64) (-1 : Int64) = 0 then _ else _) = _
      rw [if_pos (by decide)]
    · rw [if_pos (show bI false = 0 from rfl), m_amiss (by omega), bd_s, fK_nI]
      show f_X12_readNew_50 fu (nI E) c tq (nI s) (nI n) (nI (fK kd1 2)) (nI pl1) (nI kd1) (nI pl1) (nI nx1) nu21 le1 wd21 wds = _
      unfold f_X12_readNew_50 f_X12_readNew_93
      rw [if_neg (b_eq hb2.1 hb2.2), if_neg (b_le hb2.1 hb2.2)]
  · obtain ⟨e1, e2, e3, e4, e5⟩ := nm_of T1 hm
    have hcx : ∀ {α : Type} (x y : α), (if lg_cmp wd1 (-1 : Int64) = 0 then x else y) = y := fun x y => if_neg (by rw [lg_eq0]; exact e5)
    rw [if_pos rfl, bd_s, if_neg (show ¬ bI true = 0 by decide)]
    simp only [hcx]
    have f0 : fnd (fun k => decide (wds (20 * 4 + fr 0 + k) = wd21)) n0 0 = fnd (fun k => decide (cn k = wd1)) n0 0 := fnd_congr (fun i _ hi => by rw [hN.1 i (by omega), e3])
    have f1 : fnd (fun k => decide (wds (20 * 4 + fr 1 + k) = wd21)) n1 0 = fnd (fun k => decide (sn k = wd1)) n1 0 := fnd_congr (fun i _ hi => by rw [hN.2.1 i (by omega), e3])
    have f2 : fnd (fun k => decide (wds (20 * 4 + fr 2 + k) = wd21)) n2 0 = fnd (fun k => decide (pn k = wd1)) n2 0 := fnd_congr (fun i _ hi => by rw [hN.2.2 i (by omega), e3])
    have g0 := m_named (c := c) (wds := wds) (w := wd21) (b := 4) (s := 0) (n := n0) (fu := fu) (by omega) (by omega) (by rw [if_pos rfl]; omega) hc0 (by omega)
    have g1 := m_named (c := c) (wds := wds) (w := wd21) (b := 4) (s := 1) (n := n1) (fu := fu) (by omega) (by omega) (by rw [if_neg (by omega)]; omega) hc1 (by omega)
    have g2 := m_named (c := c) (wds := wds) (w := wd21) (b := 4) (s := 2) (n := n2) (fu := fu) (by omega) (by omega) (by rw [if_neg (by omega)]; omega) hc2 (by omega)
    rw [f0] at g0
    rw [f1] at g1
    rw [f2] at g2
    have i0 := c_indexOf (row := cn) (w := wd1) (n := n0) (n1 := 8) (fu := fu) h0 (by omega) (by omega)
    have i1 := c_indexOf (row := sn) (w := wd1) (n := n1) (n1 := 6) (fu := fu) h1 (by omega) (by omega)
    have i2 := c_indexOf (row := pn) (w := wd1) (n := n2) (n1 := 6) (fu := fu) h2 (by omega) (by omega)
    unfold f_X1_isTaken f_X12_readNew_50
    rw [if_pos (show nI 0 = 0 from rfl), g0, i0, bd_s, bd_s]
    have r84 : f_X12_readNew_84 fu (nI E) c tq (nI s) (nI n) (nI 0) ba (nI kd1) (nI pl1) (nI nx1) nu21 le1 wd21 wds = some (nI 0, nI 3, nI pl1, nI kd1, nI pl1, nI nx1, nu21, le1, wd21, wds) := by
      unfold f_X12_readNew_84
      rw [m_fail0, bd_s]
      show f_X12_readNew_93 fu (nI E) c tq (nI s) (nI n) (nI 3) (nI pl1) (nI kd1) (nI pl1) (nI nx1) nu21 le1 wd21 wds = _
      unfold f_X12_readNew_93
      rw [if_neg (b_le (k := 3) (by omega) (by omega))]
    have hf : f_X8_fail (nI 3) (nI kd1) (nI pl1) fk fp = some (nI 0, nI 3, nI pl1) := by rw [c_fail (by omega), if_neg (by omega)]
    cases hf0 : fnd (fun k => decide (cn k = wd1)) n0 0 with
    | some j =>
      have := fnd_lt hf0
      refine Or.inr ⟨3, pl1, by omega, by omega, nI nx1, nI kd1, nI pl1, wd1, kI kk1, nu1, nI kd1, nI pl1, nI nx1, nu21, le1, wd21, ?_, ?_⟩
      · rw [if_neg (show ¬ oI (some j) = (-1 : Int32) by rw [oI_s, nI_ne_m1 (by omega)]; exact id), bd_s, if_neg (show ¬ nI 1 = 0 by decide), hf, bd_s]
      · rw [if_pos (show 0 ≤ oI (some j) by rw [oI_s, nI_0le (by omega)]; trivial), r84]
    | none =>
      rw [if_pos (show oI none = (-1 : Int32) from rfl), if_neg (show ¬ 0 ≤ oI none by decide), g1, i1, bd_s, bd_s]
      cases hf1 : fnd (fun k => decide (sn k = wd1)) n1 0 with
      | some j =>
        have := fnd_lt hf1
        refine Or.inr ⟨3, pl1, by omega, by omega, nI nx1, nI kd1, nI pl1, wd1, kI kk1, nu1, nI kd1, nI pl1, nI nx1, nu21, le1, wd21, ?_, ?_⟩
        · rw [if_neg (show ¬ oI (some j) = (-1 : Int32) by rw [oI_s, nI_ne_m1 (by omega)]; exact id), bd_s, if_neg (show ¬ nI 1 = 0 by decide), hf, bd_s]
        · rw [if_pos (show 0 ≤ oI (some j) by rw [oI_s, nI_0le (by omega)]; trivial), r84]
      | none =>
        rw [if_pos (show oI none = (-1 : Int32) from rfl), if_neg (show ¬ 0 ≤ oI none by decide), g2, i2, bd_s, bd_s]
        cases hf2 : fnd (fun k => decide (pn k = wd1)) n2 0 with
        | some j =>
          have := fnd_lt hf2
          refine Or.inr ⟨3, pl1, by omega, by omega, nI nx1, nI kd1, nI pl1, wd1, kI kk1, nu1, nI kd1, nI pl1, nI nx1, nu21, le1, wd21, ?_, ?_⟩
          · rw [if_neg (show ¬ oI (some j) = (-1 : Int32) by rw [oI_s, nI_ne_m1 (by omega)]; exact id), bd_s, if_neg (show ¬ nI 1 = 0 by decide), hf, bd_s]
          · rw [if_neg (show ¬ oI (some j) < 0 by rw [oI_s, nI_lt0 (by omega)]; exact id), r84]
        | none =>
          obtain ⟨pl', nx', kd', kk', wd', nu', nu2', le', wd2', b1, b2, b3, b4⟩ := tk_next (fu := fu) h hK (a := nx1) (by omega) hfu (nI kd1) (nI pl1) wd1 (kI kk1) nu1 (nI kd1) (nI pl1) nu21 le1 wd21
          refine Or.inl ⟨wd1, pl', nx', kd', kk', wd', nu', nu2', le', wd2', by omega, e5, b2, ?_, ?_⟩
          · rw [if_pos (show oI none = (-1 : Int32) from rfl), bd_s, if_pos (show nI 0 = 0 from rfl), b3, bd_s]
          · rw [if_pos (show oI none < 0 by decide)]
            unfold f_X12_readNew_93
            rw [if_pos (show nI 0 ≤ 0 by decide), m_fromOf hs, bd_s]
            simp (disch := omega) only [nI_add, gi_n, nI_cl, b4, bd_s]
            rw [e3]
end NN
