/-! what must stand: numbers, names, words; both sides -/
def fr (s : Nat) : Nat := if s = 0 then 0 else if s = 1 then 8 else 14
def fK (kd x : Nat) : Nat := if kd = 4 then 1 else x
theorem fK_nI (kd x : Nat) : (if kd = 4 then nI 1 else nI x) = nI (fK kd x) := by unfold fK; split <;> rfl
theorem fK_b {kd x : Nat} (h : 1 ≤ x) (h2 : x ≤ 7) : 1 ≤ fK kd x ∧ fK kd x ≤ 7 := by unfold fK; split <;> omega
theorem fnd_lt {p : Nat → Bool} {n k : Nat} (h : fnd p n 0 = some k) : k < n := by have := fnd_some h; omega
section OP
variable {B : Nat → Nat} {E fu : Nat} {tp tq : Nat → Int32} {K : Nat → Int64} {pl nx kd kk : Nat} {wd wd2 : Int64} {nu nu2 le fk fp ba : Int32}
theorem c_indexOf {row : Nat → Int64} {n n1 : Nat} {w : Int64} (hn : n ≤ n1) (h8 : n1 ≤ 8) (hfu : 100 < fu) : f_X1_indexOf fu n1 (nI n) w row = some (oI (fnd (fun k => decide (row k = w)) n 0)) := by
  unfold f_X1_indexOf
  refine loop_q (fun m j => f_X1_indexOf_3 fu n1 row m (nI n) w (nI j)) n (fun k j => some (oI (fnd (fun k => decide (row k = w)) k j))) ?_ ?_ n 0 fu (by omega) (by omega)
  · intro m k j hj ih
    simp (disch := omega) only [f_X1_indexOf_3, nI_le', if_neg, gi_n, nI_cl, lg_eq0, lt_, nI_add, fnd]
    by_cases e : row j = w
    · rw [if_pos e, if_pos (decide_eq_true e)]; rfl
    · rw [if_neg e, if_neg (by rw [decide_eq_false e]; decide)]; exact ih
  · intro m
    simp (disch := omega) only [f_X1_indexOf_3, nI_le', if_pos]
    rfl
theorem m_fromOf {s : Nat} (hs : s < 3) : f_X12_fromOf (nI s) = some (nI (fr s)) := by
  have : s = 0 ∨ s = 1 ∨ s = 2 := by omega
  rcases this with rfl | rfl | rfl <;> rfl
theorem m_named {c : Nat → Int32} {wds : Nat → Int64} {b s n : Nat} {w : Int64} (hb : b ≤ 4) (hs : s < 3) (hn : n ≤ if s = 0 then 8 else 6) (hc : c (390 * b + s) = nI n) (hfu : 100 < fu) : f_X12_named fu (nI b) (nI s) w c wds = some (oI (fnd (fun k => decide (wds (20 * b + fr s + k) = w)) n 0)) := by
  have hn8 : n ≤ 8 ∧ fr s + n ≤ 20 := by
    unfold fr
    by_cases e : s = 0
    · rw [if_pos e] at hn; rw [if_pos e]; omega
    · rw [if_neg e] at hn; rw [if_neg e]; split <;> omega
  unfold f_X12_named
  refine loop_q (fun m j => f_X12_named_2 fu w c wds m (nI b) (nI s) (nI j)) n (fun k j => some (oI (fnd (fun k => decide (wds (20 * b + fr s + k) = w)) k j))) ?_ ?_ n 0 fu (by omega) (by omega)
  · intro m k j hj ih
    simp (disch := omega) only [f_X12_named_2, pk_mul, nI_add, gi_n, nI_cl, hc, nI_le', if_neg, m_fromOf hs, bd_s, lg_eq0, lt_, fnd]
    by_cases e : wds (20 * b + fr s + j) = w
    · rw [if_pos e, if_pos (decide_eq_true e)]; rfl
    · rw [if_neg e, if_neg (by rw [decide_eq_false e]; decide)]; exact ih
  · intro m
    simp (disch := omega) only [f_X12_named_2, pk_mul, nI_add, gi_n, nI_cl, hc, nI_le', if_pos]
    rfl
/-- a sign ; -/
theorem r_semi (h : TX B E tp tq) (hK : ∀ k, k < 24 → K k = lN (KEY k)) (T : TOK B E pl nx kd kk wd nu nu2 le wd2) (hfu : 2000 < fu) :
    (∃ pl' nx' kd' kk' wd' nu' nu2' le' wd2', nx ≤ pl' ∧ TOK B E pl' nx' kd' kk' wd' nu' nu2' le' wd2' ∧ kd = 3 ∧ B pl = 59 ∧
      f_X8_closes fu (nI E) (nI nx) (nI kd) (nI pl) wd (kI kk) nu fk fp K tp = some (nI 1, nI nx', nI kd', nI pl', wd', kI kk', nu', fk, fp) ∧
      f_X12_must fu (bI (smB B pl kd)) (nI E) (nI 0) ba (nI kd) (nI pl) (nI nx) nu2 le wd2 tq = some (nI 0, ba, nI kd', nI pl', nI nx', nu2', le', wd2')) ∨
    (¬ (kd = 3 ∧ B pl = 59) ∧ f_X8_closes fu (nI E) (nI nx) (nI kd) (nI pl) wd (kI kk) nu fk fp K tp = some (nI 0, nI nx, nI kd, nI pl, wd, kI kk, nu, nI (fK kd 2), nI pl) ∧
      f_X12_must fu (bI (smB B pl kd)) (nI E) (nI 0) ba (nI kd) (nI pl) (nI nx) nu2 le wd2 tq = some (nI (fK kd 2), nI pl, nI kd, nI pl, nI nx, nu2, le, wd2)) := by
  have hT := T.1
  unfold f_X8_closes f_X12_must
  rw [c_atSemi h T, bd_s, if_pos (show nI 0 ≤ 0 by decide)]
  by_cases e : kd = 3 ∧ B pl = 59
  · have es : smB B pl kd = true := decide_eq_true e
    obtain ⟨pl', nx', kd', kk', wd', nu', nu2', le', wd2', h1, h2, h3, h4⟩ := tk_next (fu := fu) h hK (a := nx) (by omega) hfu (nI kd) (nI pl) wd (kI kk) nu (nI kd) (nI pl) nu2 le wd2
    refine Or.inl ⟨pl', nx', kd', kk', wd', nu', nu2', le', wd2', h1, h2, e.1, e.2, ?_, ?_⟩
    · rw [es, if_neg (show ¬ bI true = 0 by decide), h3, bd_s]
    · rw [es, if_neg (show ¬ bI true = 0 by decide), h4, bd_s]
  · have es : smB B pl kd = false := decide_eq_false e
    refine Or.inr ⟨e, ?_, ?_⟩
    · rw [es, if_pos (show bI false = 0 from rfl), c_fail (by omega), bd_s, fK_nI]
      exact gd_0 _
    · rw [es, if_pos (show bI false = 0 from rfl), m_amiss (by omega), bd_s, fK_nI]
/-- a number within bounds -/
theorem r_num (h : TX B E tp tq) (hK : ∀ k, k < 24 → K k = lN (KEY k)) (T : TOK B E pl nx kd kk wd nu nu2 le wd2) {lo hi : Nat} (hlo : lo < 10000) (hhi : hi < 10000) (hfu : 2000 < fu) :
    (∃ v pl' nx' kd' kk' wd' nu' nu2' le' wd2', lo ≤ v ∧ v ≤ hi ∧ nx ≤ pl' ∧ pl < nx ∧ TOK B E pl' nx' kd' kk' wd' nu' nu2' le' wd2' ∧
      f_X8_numberWithin fu (nI lo) (nI hi) (nI E) (nI nx) (nI kd) (nI pl) wd (kI kk) nu fk fp K tp = some (nI v, nI nx', nI kd', nI pl', wd', kI kk', nu', fk, fp) ∧
      f_X12_count fu (nI lo) (nI hi) (nI E) (nI 0) ba (nI kd) (nI pl) (nI nx) nu2 le wd2 tq = some (nI v, nI 0, ba, nI kd', nI pl', nI nx', nu2', le', wd2')) ∨
    (∃ k, 1 ≤ k ∧ k ≤ 7 ∧ f_X8_numberWithin fu (nI lo) (nI hi) (nI E) (nI nx) (nI kd) (nI pl) wd (kI kk) nu fk fp K tp = some ((-1 : Int32), nI nx, nI kd, nI pl, wd, kI kk, nu, nI k, nI pl) ∧
      f_X12_count fu (nI lo) (nI hi) (nI E) (nI 0) ba (nI kd) (nI pl) (nI nx) nu2 le wd2 tq = some (nI 0, nI k, nI pl, nI kd, nI pl, nI nx, nu2, le, wd2)) := by
  have hT := T.1
  have hE := h.1
  unfold f_X8_numberWithin f_X12_count
  rw [if_pos (show nI 0 = 0 from rfl)]
  by_cases e : kd = 2
  · obtain ⟨h9, v, hv, hv2⟩ := T.2.2.2.1 e
    rw [if_pos (show nI kd = nI 2 by rw [e]), if_pos (show nI kd = nI 2 by rw [e])]
    unfold f_X12_count_19
    rw [if_pos (show nI 0 = 0 from rfl), h9, hv2, nI_l (show lo < 2 ^ 31 by omega), nI_l (show hi < 2 ^ 31 by omega), m_in (by omega) (by omega), bd_s]
    by_cases e1 : lo ≤ v ∧ v ≤ hi
    · have hi2 : inR (nI v) (lo : Nat) ((hi : Nat) + 1) = true := by
        unfold inR
        rw [nI_toInt (by omega)]
        exact decide_eq_true (by omega)
      obtain ⟨pl', nx', kd', kk', wd', nu', nu2', le', wd2', h1, h2, h3, h4⟩ := tk_next (fu := fu) h hK (a := nx) (by omega) hfu (nI kd) (nI pl) wd (kI kk) (nI v) (nI kd) (nI pl) (nI v) le wd2
      refine Or.inl ⟨v, pl', nx', kd', kk', wd', nu', nu2', le', wd2', e1.1, e1.2, h1, by omega, h2, ?_, ?_⟩
      · rw [if_neg (show ¬ nI v < nI lo by rw [nI_lt' (by omega) (by omega)]; omega), if_pos (show nI v ≤ nI hi by rw [nI_le' (by omega) (by omega)]; omega), h3, bd_s]
      · rw [hi2, if_neg (show ¬ bI true = 0 by decide)]
        unfold f_X12_count_50
        rw [if_pos (show nI 0 ≤ 0 by decide), h4, bd_s]
    · have hi2 : inR (nI v) (lo : Nat) ((hi : Nat) + 1) = false := by
        unfold inR
        rw [nI_toInt (by omega)]
        exact decide_eq_false (by omega)
      refine Or.inr ⟨4, by omega, by omega, ?_, ?_⟩
      · by_cases e2 : v < lo
        · rw [if_pos (show nI v < nI lo by rw [nI_lt' (by omega) (by omega)]; omega), c_fail (by omega), bd_s, if_neg (show ¬ kd = 4 by omega)]
        · rw [if_neg (show ¬ nI v < nI lo by rw [nI_lt' (by omega) (by omega)]; omega), if_neg (show ¬ nI v ≤ nI hi by rw [nI_le' (by omega) (by omega)]; omega), c_fail (by omega), bd_s, if_neg (show ¬ kd = 4 by omega)]
      · rw [hi2, if_pos (show bI false = 0 from rfl), m_fail0, bd_s]
        rfl
  · rw [if_neg (show ¬ nI kd = nI 2 by rw [nI_eq' (by omega) (by omega)]; exact e), if_neg (show ¬ nI kd = nI 2 by rw [nI_eq' (by omega) (by omega)]; exact e)]
    have hb := fK_b (kd := kd) (x := 2) (by omega) (by omega)
    refine Or.inr ⟨fK kd 2, hb.1, hb.2, ?_, ?_⟩
    · rw [c_fail (by omega), bd_s, fK_nI]
    · rw [m_amiss (by omega), bd_s, fK_nI]
      show f_X12_count_19 fu (nI E) tq (nI lo) (nI hi) (nI (fK kd 2)) (nI pl) (nI kd) (nI pl) (nI nx) nu2 le wd2 = _
      unfold f_X12_count_19 f_X12_count_50
      rw [if_neg (b_eq hb.1 hb.2), if_neg (b_le hb.1 hb.2)]
/-- a word that may stand -/
theorem r_skip (h : TX B E tp tq) (hK : ∀ k, k < 24 → K k = lN (KEY k)) (T : TOK B E pl nx kd kk wd nu nu2 le wd2) {w : Nat} (hw : w < 24) (hfu : 2000 < fu) :
    (∃ pl' nx' kd' kk' wd' nu' nu2' le' wd2', kk = w ∧ nx ≤ pl' ∧ TOK B E pl' nx' kd' kk' wd' nu' nu2' le' wd2' ∧
      f_X8_skips fu (nI w) (nI E) (nI nx) (nI kd) (nI pl) wd (kI kk) nu K tp = some (nI 1, nI nx', nI kd', nI pl', wd', kI kk', nu') ∧
      f_X12_perhaps fu (bI (decide (kk = w))) (nI E) (nI 0) (nI kd) (nI pl) (nI nx) nu2 le wd2 tq = some (nI 1, nI kd', nI pl', nI nx', nu2', le', wd2') ∧
      f_X12_must fu (bI (decide (kk = w))) (nI E) (nI 0) ba (nI kd) (nI pl) (nI nx) nu2 le wd2 tq = some (nI 0, ba, nI kd', nI pl', nI nx', nu2', le', wd2')) ∨
    (kk ≠ w ∧ f_X8_skips fu (nI w) (nI E) (nI nx) (nI kd) (nI pl) wd (kI kk) nu K tp = some (nI 0, nI nx, nI kd, nI pl, wd, kI kk, nu) ∧
      f_X12_perhaps fu (bI (decide (kk = w))) (nI E) (nI 0) (nI kd) (nI pl) (nI nx) nu2 le wd2 tq = some (nI 0, nI kd, nI pl, nI nx, nu2, le, wd2) ∧
      f_X12_must fu (bI (decide (kk = w))) (nI E) (nI 0) ba (nI kd) (nI pl) (nI nx) nu2 le wd2 tq = some (nI (fK kd 2), nI pl, nI kd, nI pl, nI nx, nu2, le, wd2)) := by
  have hT := T.1
  unfold f_X8_skips f_X12_perhaps f_X12_must
  rw [if_neg (show ¬ 0 < nI 0 by decide), if_pos (show nI 0 ≤ 0 by decide)]
  by_cases e : kk = w
  · obtain ⟨pl', nx', kd', kk', wd', nu', nu2', le', wd2', h1, h2, h3, h4⟩ := tk_next (fu := fu) h hK (a := nx) (by omega) hfu (nI kd) (nI pl) wd (kI kk) nu (nI kd) (nI pl) nu2 le wd2
    refine Or.inl ⟨pl', nx', kd', kk', wd', nu', nu2', le', wd2', e, h1, h2, ?_, ?_, ?_⟩
    · rw [if_pos (show kI kk = nI w by rw [e, kI_lt hw])]
      unfold f_X8_skips_13
      rw [if_neg (show ¬ nI 1 = 0 by decide), h3, bd_s]
      exact gd_1 _
    · rw [decide_eq_true e, if_neg (show ¬ bI true = 0 by decide), h4, bd_s]
    · rw [decide_eq_true e, if_neg (show ¬ bI true = 0 by decide), h4, bd_s]
  · refine Or.inr ⟨e, ?_, ?_, ?_⟩
    · rw [if_neg (show ¬ kI kk = nI w by rw [kI_eq (by omega) hw]; exact e)]
      unfold f_X8_skips_13
      rw [if_pos (show nI 0 = 0 from rfl)]
      exact gd_0 _
    · rw [decide_eq_false e, if_pos (show bI false = 0 from rfl)]
    · rw [decide_eq_false e, if_pos (show bI false = 0 from rfl), m_amiss (by omega), bd_s, fK_nI]
/-- a name -/
theorem c_nameHere (T : TOK B E pl nx kd kk wd nu nu2 le wd2) (hE : E ≤ 900) : f_X8_nameHere (nI kd) (nI pl) wd (kI kk) fk fp = if nmB pl nx kd kk = true then some (wd, fk, fp) else some ((-1 : Int64), nI (fK kd 2), nI pl) := by
  obtain ⟨⟨h1, h2, h3, h4, h5, h6⟩, h7, h8, -, -⟩ := T
  unfold f_X8_nameHere nmB
  by_cases e : kd = 1
  · obtain ⟨a, b, c, d⟩ := h7 e
    have e4 : fK kd 2 = 2 := by unfold fK; rw [if_neg (by omega)]
    rw [if_pos (show nI kd = nI 1 by rw [e]), c_fail (by omega), if_neg (show ¬ kd = 4 by omega), bd_s]
    show (if lg_cmp wd (-1) = 0 then some ((-1 : Int64), nI 2, nI pl) else if kI kk = (-1 : Int32) then some (wd, fk, fp) else some ((-1 : Int64), nI 2, nI pl)) = _
    rw [e4]
    rcases d with ⟨d1, W, d2, d3⟩ | ⟨d1, d2⟩
    · have hne : ¬ wd = (-1 : Int64) := by
        rw [d3]
        intro q
        have q2 := congrArg Int64.toInt q
        rw [show (-1 : Int64).toInt = -1 from by decide] at q2
        have q3 : (lN W).toInt = W := Int64.toInt_ofNat_of_lt (by omega)
        omega
      rw [if_neg (show ¬ lg_cmp wd (-1 : Int64) = 0 by rw [lg_eq0]; exact hne)]
      by_cases e2 : kk = 24
      · rw [if_pos (show kI kk = (-1 : Int32) by rw [kI_m1 h4]; exact e2), if_pos (decide_eq_true ⟨e, d1, e2⟩)]
      · rw [if_neg (show ¬ kI kk = (-1 : Int32) by rw [kI_m1 h4]; exact e2), if_neg (show ¬ decide (kd = 1 ∧ nx - pl ≤ 8 ∧ kk = 24) = true by rw [decide_eq_true_iff]; exact fun q => e2 q.2.2)]
    · rw [if_pos (show lg_cmp wd (-1 : Int64) = 0 by rw [lg_eq0]; exact d2), if_neg (show ¬ decide (kd = 1 ∧ nx - pl ≤ 8 ∧ kk = 24) = true by rw [decide_eq_true_iff]; omega)]
  · rw [if_neg (show ¬ nI kd = nI 1 by rw [nI_eq' (by omega) (by omega)]; exact e), c_fail (by omega), bd_s, if_neg (show ¬ decide (kd = 1 ∧ nx - pl ≤ 8 ∧ kk = 24) = true by rw [decide_eq_true_iff]; exact fun q => e q.1), fK_nI]
theorem nm_of (T : TOK B E pl nx kd kk wd nu nu2 le wd2) (hn : nmB pl nx kd kk = true) : kd = 1 ∧ kk = 24 ∧ wd2 = wd ∧ pl < nx ∧ ¬ wd = (-1 : Int64) := by
  obtain ⟨⟨h1, h2, h3, h4, h5, h6⟩, h7, h8, -, -⟩ := T
  obtain ⟨e1, e2, e3⟩ := of_decide_eq_true hn
  obtain ⟨a, b, c, d⟩ := h7 e1
  refine ⟨e1, e3, a, by omega, ?_⟩
  rcases d with ⟨d1, W, d2, d3⟩ | ⟨d1, d2⟩
  · rw [d3]
    intro q
    have q2 := congrArg Int64.toInt q
    rw [show (-1 : Int64).toInt = -1 from by decide] at q2
    have q3 : (lN W).toInt = W := Int64.toInt_ofNat_of_lt (by omega)
    omega
  · omega
end OP
