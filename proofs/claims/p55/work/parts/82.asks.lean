/-! what a TOKEN is asked: the words; what is amiss; numbers, names, what must stand -/
theorem sp_0 : f_X12_spelled (nI 99) (nI 101) (nI 108) (nI 108) (nI 0) (nI 0) = some (lN (KEY 0)) := by decide +kernel
theorem sp_1 : f_X12_spelled (nI 112) (nI 114) (nI 105) (nI 99) (nI 107) (nI 115) = some (lN (KEY 1)) := by decide +kernel
theorem sp_2 : f_X12_spelled (nI 98) (nI 108) (nI 105) (nI 110) (nI 100) (nI 0) = some (lN (KEY 2)) := by decide +kernel
theorem sp_3 : f_X12_spelled (nI 114) (nI 117) (nI 98) (nI 115) (nI 0) (nI 0) = some (lN (KEY 3)) := by decide +kernel
theorem sp_4 : f_X12_spelled (nI 115) (nI 101) (nI 99) (nI 114) (nI 101) (nI 116) = some (lN (KEY 4)) := by decide +kernel
theorem sp_5 : ∃ r, f_X12_spelled (nI 108) (nI 101) (nI 116) (nI 116) (nI 101) (nI 114) = some r ∧ r * lN 32 + lN 19 = lN (KEY 5) := ⟨_, rfl, by decide +kernel⟩
theorem sp_6 : f_X12_spelled (nI 112) (nI 97) (nI 103) (nI 101) (nI 0) (nI 0) = some (lN (KEY 6)) := by decide +kernel
theorem sp_7 : f_X12_spelled (nI 114) (nI 111) (nI 111) (nI 109) (nI 0) (nI 0) = some (lN (KEY 7)) := by decide +kernel
theorem sp_8 : f_X12_spelled (nI 107) (nI 110) (nI 111) (nI 119) (nI 115) (nI 0) = some (lN (KEY 8)) := by decide +kernel
theorem sp_9 : f_X12_spelled (nI 111) (nI 114) (nI 100) (nI 101) (nI 114) (nI 0) = some (lN (KEY 9)) := by decide +kernel
theorem sp_10 : f_X12_spelled (nI 114) (nI 101) (nI 97) (nI 100) (nI 0) (nI 0) = some (lN (KEY 10)) := by decide +kernel
theorem sp_11 : f_X12_spelled (nI 111) (nI 100) (nI 100) (nI 115) (nI 0) (nI 0) = some (lN (KEY 11)) := by decide +kernel
theorem sp_12 : f_X12_spelled (nI 116) (nI 117) (nI 114) (nI 110) (nI 0) (nI 0) = some (lN (KEY 12)) := by decide +kernel
theorem sp_13 : f_X12_spelled (nI 105) (nI 108) (nI 108) (nI 0) (nI 0) (nI 0) = some (lN (KEY 13)) := by decide +kernel
theorem sp_14 : f_X12_spelled (nI 109) (nI 111) (nI 118) (nI 101) (nI 0) (nI 0) = some (lN (KEY 14)) := by decide +kernel
theorem sp_15 : f_X12_spelled (nI 114) (nI 117) (nI 98) (nI 0) (nI 0) (nI 0) = some (lN (KEY 15)) := by decide +kernel
theorem sp_16 : f_X12_spelled (nI 100) (nI 97) (nI 109) (nI 112) (nI 0) (nI 0) = some (lN (KEY 16)) := by decide +kernel
theorem sp_17 : f_X12_spelled (nI 119) (nI 97) (nI 114) (nI 100) (nI 101) (nI 114) = some (lN (KEY 17)) := by decide +kernel
theorem sp_18 : f_X12_spelled (nI 119) (nI 104) (nI 101) (nI 110) (nI 0) (nI 0) = some (lN (KEY 18)) := by decide +kernel
theorem sp_19 : f_X12_spelled (nI 102) (nI 117) (nI 108) (nI 108) (nI 0) (nI 0) = some (lN (KEY 19)) := by decide +kernel
theorem sp_20 : f_X12_spelled (nI 97) (nI 108) (nI 108) (nI 0) (nI 0) (nI 0) = some (lN (KEY 20)) := by decide +kernel
theorem sp_21 : f_X12_spelled (nI 108) (nI 111) (nI 111) (nI 112) (nI 0) (nI 0) = some (lN (KEY 21)) := by decide +kernel
theorem sp_22 : f_X12_spelled (nI 101) (nI 110) (nI 100) (nI 0) (nI 0) (nI 0) = some (lN (KEY 22)) := by decide +kernel
theorem sp_23 : f_X12_spelled (nI 115) (nI 116) (nI 111) (nI 112) (nI 0) (nI 0) = some (lN (KEY 23)) := by decide +kernel
section PR
variable {B : Nat → Nat} {E fu : Nat} {tp tq : Nat → Int32} {K : Nat → Int64} {pl nx kd kk : Nat} {wd wd2 : Int64} {nu nu2 le : Int32}
theorem m_isCell (T : TOK B E pl nx kd kk wd nu nu2 le wd2) : f_X12_isCell (nI kd) wd2 = some (bI (decide (kk = 0))) := by
  unfold f_X12_isCell
  rw [sp_0, bd_s, m_isW T (by omega), bd_s, gd_bI]
theorem m_isPricks (T : TOK B E pl nx kd kk wd nu nu2 le wd2) : f_X12_isPricks (nI kd) wd2 = some (bI (decide (kk = 1))) := by
  unfold f_X12_isPricks
  rw [sp_1, bd_s, m_isW T (by omega), bd_s, gd_bI]
theorem m_isBlind (T : TOK B E pl nx kd kk wd nu nu2 le wd2) : f_X12_isBlind (nI kd) wd2 = some (bI (decide (kk = 2))) := by
  unfold f_X12_isBlind
  rw [sp_2, bd_s, m_isW T (by omega), bd_s, gd_bI]
theorem m_isRubs (T : TOK B E pl nx kd kk wd nu nu2 le wd2) : f_X12_isRubs (nI kd) wd2 = some (bI (decide (kk = 3))) := by
  unfold f_X12_isRubs
  rw [sp_3, bd_s, m_isW T (by omega), bd_s, gd_bI]
theorem m_isSecret (T : TOK B E pl nx kd kk wd nu nu2 le wd2) : f_X12_isSecret (nI kd) wd2 = some (bI (decide (kk = 4))) := by
  unfold f_X12_isSecret
  rw [sp_4, bd_s, m_isW T (by omega), bd_s, gd_bI]
theorem m_isPage (T : TOK B E pl nx kd kk wd nu nu2 le wd2) : f_X12_isPage (nI kd) wd2 = some (bI (decide (kk = 6))) := by
  unfold f_X12_isPage
  rw [sp_6, bd_s, m_isW T (by omega), bd_s, gd_bI]
theorem m_isRoom (T : TOK B E pl nx kd kk wd nu nu2 le wd2) : f_X12_isRoom (nI kd) wd2 = some (bI (decide (kk = 7))) := by
  unfold f_X12_isRoom
  rw [sp_7, bd_s, m_isW T (by omega), bd_s, gd_bI]
theorem m_isKnows (T : TOK B E pl nx kd kk wd nu nu2 le wd2) : f_X12_isKnows (nI kd) wd2 = some (bI (decide (kk = 8))) := by
  unfold f_X12_isKnows
  rw [sp_8, bd_s, m_isW T (by omega), bd_s, gd_bI]
theorem m_isOrder (T : TOK B E pl nx kd kk wd nu nu2 le wd2) : f_X12_isOrder (nI kd) wd2 = some (bI (decide (kk = 9))) := by
  unfold f_X12_isOrder
  rw [sp_9, bd_s, m_isW T (by omega), bd_s, gd_bI]
theorem m_isRead (T : TOK B E pl nx kd kk wd nu nu2 le wd2) : f_X12_isRead (nI kd) wd2 = some (bI (decide (kk = 10))) := by
  unfold f_X12_isRead
  rw [sp_10, bd_s, m_isW T (by omega), bd_s, gd_bI]
theorem m_isOdds (T : TOK B E pl nx kd kk wd nu nu2 le wd2) : f_X12_isOdds (nI kd) wd2 = some (bI (decide (kk = 11))) := by
  unfold f_X12_isOdds
  rw [sp_11, bd_s, m_isW T (by omega), bd_s, gd_bI]
theorem m_isEnd (T : TOK B E pl nx kd kk wd nu nu2 le wd2) : f_X12_isEnd (nI kd) wd2 = some (bI (decide (kk = 22))) := by
  unfold f_X12_isEnd
  rw [sp_22, bd_s, m_isW T (by omega), bd_s, gd_bI]
theorem m_isLetters (T : TOK B E pl nx kd kk wd nu nu2 le wd2) : f_X12_isLetters (nI kd) wd2 = some (bI (decide (kk = 5))) := by
  obtain ⟨r, h1, h2⟩ := sp_5
  unfold f_X12_isLetters
  rw [h1, bd_s, h2, m_isW T (by omega), bd_s, gd_bI]
/-- a STEP's word by its number among STEPS -/
def sKd (k : Nat) : Int32 := if k = 12 then nI 0 else if k = 13 then nI 1 else if k = 14 then nI 2 else if k = 15 then nI 3 else if k = 16 then nI 4 else if k = 17 then nI 5 else if k = 18 then nI 6 else if k = 21 then nI 7 else if k = 23 then nI 8 else (-1 : Int32)
def sTs (k : Nat) : Int32 := if k = 8 then nI 0 else if k = 19 then nI 1 else if k = 20 then nI 2 else (-1 : Int32)
theorem m_stepWord (T : TOK B E pl nx kd kk wd nu nu2 le wd2) : f_X12_stepWord (nI kd) wd2 = some (sKd kk) := by
  have hk := T.1.2.2.2.1
  clear hk
  unfold f_X12_stepWord
  rw [sp_12, bd_s, m_isW T (by omega), bd_s]
  by_cases e12 : kk = 12
  · rw [decide_eq_true e12, if_neg (show ¬ bI true = 0 by decide), e12]; rfl
  rw [decide_eq_false e12, if_pos (show bI false = 0 from rfl)]
  rw [sp_13, bd_s, m_isW T (by omega), bd_s]
  by_cases e13 : kk = 13
  · rw [decide_eq_true e13, if_neg (show ¬ bI true = 0 by decide), e13]; rfl
  rw [decide_eq_false e13, if_pos (show bI false = 0 from rfl)]
  rw [sp_14, bd_s, m_isW T (by omega), bd_s]
  by_cases e14 : kk = 14
  · rw [decide_eq_true e14, if_neg (show ¬ bI true = 0 by decide), e14]; rfl
  rw [decide_eq_false e14, if_pos (show bI false = 0 from rfl)]
  rw [sp_15, bd_s, m_isW T (by omega), bd_s]
  by_cases e15 : kk = 15
  · rw [decide_eq_true e15, if_neg (show ¬ bI true = 0 by decide), e15]; rfl
  rw [decide_eq_false e15, if_pos (show bI false = 0 from rfl)]
  rw [sp_16, bd_s, m_isW T (by omega), bd_s]
  by_cases e16 : kk = 16
  · rw [decide_eq_true e16, if_neg (show ¬ bI true = 0 by decide), e16]; rfl
  rw [decide_eq_false e16, if_pos (show bI false = 0 from rfl)]
  rw [sp_17, bd_s, m_isW T (by omega), bd_s]
  by_cases e17 : kk = 17
  · rw [decide_eq_true e17, if_neg (show ¬ bI true = 0 by decide), e17]; rfl
  rw [decide_eq_false e17, if_pos (show bI false = 0 from rfl)]
  rw [sp_18, bd_s, m_isW T (by omega), bd_s]
  by_cases e18 : kk = 18
  · rw [decide_eq_true e18, if_neg (show ¬ bI true = 0 by decide), e18]; rfl
  rw [decide_eq_false e18, if_pos (show bI false = 0 from rfl)]
  rw [sp_21, bd_s, m_isW T (by omega), bd_s]
  by_cases e21 : kk = 21
  · rw [decide_eq_true e21, if_neg (show ¬ bI true = 0 by decide), e21]; rfl
  rw [decide_eq_false e21, if_pos (show bI false = 0 from rfl)]
  rw [sp_23, bd_s, m_isW T (by omega), bd_s]
  by_cases e23 : kk = 23
  · rw [decide_eq_true e23, if_neg (show ¬ bI true = 0 by decide), e23]; rfl
  rw [decide_eq_false e23, if_pos (show bI false = 0 from rfl)]
  unfold sKd
  rw [if_neg e12, if_neg e13, if_neg e14, if_neg e15, if_neg e16, if_neg e17, if_neg e18, if_neg e21, if_neg e23]
theorem m_testWord (T : TOK B E pl nx kd kk wd nu nu2 le wd2) : f_X12_testWord (nI kd) wd2 = some (sTs kk) := by
  have hk := T.1.2.2.2.1
  unfold f_X12_testWord
  simp only [m_isKnows T, sp_19, sp_20, bd_s]
  simp (disch := omega) only [m_isW T, bd_s]
  clear T
  revert hk
  revert kk
  decide +kernel
theorem m_isKept (T : TOK B E pl nx kd kk wd nu nu2 le wd2) : f_X12_isKept (nI kd) wd2 = some (bI (decide (kk < 24))) := by
  have hk := T.1.2.2.2.1
  unfold f_X12_isKept
  simp only [m_isCell T, m_isPricks T, m_isBlind T, m_isRubs T, m_isSecret T, m_isLetters T, m_isPage T, m_isRoom T, m_isOrder T, m_isRead T, m_isOdds T, m_stepWord T, m_testWord T, m_isEnd T, bd_s]
  clear T
  revert hk
  revert kk
  decide +kernel
def nmB (pl nx kd kk : Nat) : Bool := decide (kd = 1 ∧ nx - pl ≤ 8 ∧ kk = 24)
theorem m_isName (T : TOK B E pl nx kd kk wd nu nu2 le wd2) (hE : E ≤ 900) : f_X12_isName (nI kd) le wd2 = some (bI (nmB pl nx kd kk)) := by
  have hkp := m_isKept T
  obtain ⟨⟨h1, h2, h3, h4, h5, h6⟩, h7, h8, -, -⟩ := T
  unfold f_X12_isName nmB
  by_cases e : kd = 1
  · obtain ⟨a, b, c, d⟩ := h7 e
    rw [if_pos (by rw [e]), b]
    by_cases e2 : nx - pl ≤ 8
    · rw [if_neg (show ¬ nI 8 < nI (nx - pl) by rw [nI_lt' (by omega) (by omega)]; omega), hkp, bd_s]
      by_cases e3 : kk = 24
      · rw [decide_eq_false (show ¬ kk < 24 by omega), decide_eq_true (⟨e, e2, e3⟩ : kd = 1 ∧ nx - pl ≤ 8 ∧ kk = 24)]; rfl
      · rw [decide_eq_true (show kk < 24 by omega), decide_eq_false (fun q : kd = 1 ∧ nx - pl ≤ 8 ∧ kk = 24 => e3 q.2.2)]; rfl
    · rw [if_pos (show nI 8 < nI (nx - pl) by rw [nI_lt' (by omega) (by omega)]; omega), decide_eq_false (fun q : kd = 1 ∧ nx - pl ≤ 8 ∧ kk = 24 => e2 q.2.1)]; rfl
  · rw [if_neg (show ¬ nI kd = nI 1 by rw [nI_eq' (by omega) (by omega)]; exact e), decide_eq_false (fun q : kd = 1 ∧ nx - pl ≤ 8 ∧ kk = 24 => e q.1)]; rfl
def smB (B : Nat → Nat) (pl kd : Nat) : Bool := decide (kd = 3 ∧ B pl = 59)
theorem m_isSign (T : TOK B E pl nx kd kk wd nu nu2 le wd2) : f_X12_isSign (nI 59) (nI kd) nu2 = some (bI (smB B pl kd)) := by
  obtain ⟨⟨h1, h2, h3, h4, h5, h6⟩, -, -, -, h9⟩ := T
  unfold f_X12_isSign smB
  by_cases e : kd = 3
  · obtain ⟨a, b⟩ := h9 e
    rw [if_pos (by rw [e]), a]
    by_cases e2 : B pl = 59
    · rw [if_pos (by rw [e2]), decide_eq_true ⟨e, e2⟩]; rfl
    · rw [if_neg (show ¬ nI (B pl) = nI 59 by rw [nI_eq' (by omega) (by omega)]; exact e2), decide_eq_false (fun q => e2 q.2)]; rfl
  · rw [if_neg (show ¬ nI kd = nI 3 by rw [nI_eq' (by omega) (by omega)]; exact e), decide_eq_false (fun q => e q.1)]; rfl
theorem c_atSemi (h : TX B E tp tq) (T : TOK B E pl nx kd kk wd nu nu2 le wd2) : f_X8_atSemicolon (nI kd) (nI pl) tp = some (bI (smB B pl kd)) := by
  have hE := h.1
  obtain ⟨⟨h1, h2, h3, h4, h5, h6⟩, -, -, -, h9⟩ := T
  unfold f_X8_atSemicolon smB
  by_cases e : kd = 3
  · have := h6 (by omega)
    rw [if_pos (by rw [e]), gi_n (by omega) (by omega), nI_cl (by omega)]
    by_cases e2 : B pl = 59
    · rw [if_pos (by rw [t_59 h (by omega)]; exact e2), decide_eq_true ⟨e, e2⟩]; rfl
    · rw [if_neg (by rw [t_59 h (by omega)]; exact e2), decide_eq_false (fun q => e2 q.2)]; rfl
  · rw [if_neg (show ¬ nI kd = nI 3 by rw [nI_eq' (by omega) (by omega)]; exact e), decide_eq_false (fun q => e q.1)]; rfl
theorem c_fail {x : Int32} (hk : kd ≤ 4) : f_X8_fail x (nI kd) (nI pl) nu nu2 = some (nI 0, if kd = 4 then nI 1 else x, nI pl) := by
  unfold f_X8_fail
  by_cases e : kd = 4
  · rw [if_pos (by rw [e]), if_pos e]; rfl
  · rw [if_neg (show ¬ nI kd = nI 4 by rw [nI_eq' (by omega) (by omega)]; exact e), if_neg e]; rfl
theorem m_amiss {ba : Int32} (hk : kd ≤ 4) : f_X12_amiss (nI 0) ba (nI kd) (nI pl) = some (if kd = 4 then nI 1 else nI 2, nI pl) := by
  unfold f_X12_amiss
  by_cases e : kd = 4
  · rw [if_pos (by rw [e]), if_pos e]; rfl
  · rw [if_neg (show ¬ nI kd = nI 4 by rw [nI_eq' (by omega) (by omega)]; exact e), if_neg e]; rfl
theorem m_fail0 {x y ba : Int32} : f_X12_fail x y (nI 0) ba = some (x, y) := rfl
/-! behind a FAULT the reference does nothing more -/
section BAD
variable {k : Nat} {p y1 y2 y3 y4 y5 : Int32} {y6 : Int64} {x x1 x2 : Int32}
theorem b_le (h : 1 ≤ k) (h2 : k ≤ 7) : ¬ nI k ≤ 0 := by rw [nI_le0 (by omega)]; omega
theorem b_eq (h : 1 ≤ k) (h2 : k ≤ 7) : ¬ nI k = 0 := by rw [nI_eq0 (by omega)]; omega
theorem b_fail (h : 1 ≤ k) (h2 : k ≤ 7) : f_X12_fail x1 x2 (nI k) p = some (nI k, p) := by
  unfold f_X12_fail
  rw [if_neg (b_le h h2)]
theorem b_amiss (h : 1 ≤ k) (h2 : k ≤ 7) : f_X12_amiss (nI k) p y1 y2 = some (nI k, p) := by
  unfold f_X12_amiss
  rw [b_fail h h2, b_fail h h2]
  split <;> rfl
theorem b_must (h : 1 ≤ k) (h2 : k ≤ 7) : f_X12_must fu x1 x2 (nI k) p y1 y2 y3 y4 y5 y6 tq = some (nI k, p, y1, y2, y3, y4, y5, y6) := by
  unfold f_X12_must
  rw [if_neg (b_le h h2)]
theorem b_count (h : 1 ≤ k) (h2 : k ≤ 7) : f_X12_count fu x1 x2 x (nI k) p y1 y2 y3 y4 y5 y6 tq = some (nI 0, nI k, p, y1, y2, y3, y4, y5, y6) := by
  unfold f_X12_count f_X12_count_19 f_X12_count_50
  rw [if_neg (b_eq h h2), if_neg (b_eq h h2), if_neg (b_le h h2)]
theorem b_behind (h : 1 ≤ k) (h2 : k ≤ 7) {x3 : Int32} : f_X12_behindWord fu x1 x2 x x3 (nI k) p y1 y2 y3 y4 y5 y6 tq = some (nI 0, nI k, p, y1, y2, y3, y4, y5, y6) := by
  unfold f_X12_behindWord
  rw [b_must h h2, bd_s]
  show bd_ _ _ = _
  rw [b_count h h2, bd_s]
theorem b_perhaps (h : 1 ≤ k) (h2 : k ≤ 7) : f_X12_perhaps fu x1 x2 (nI k) y1 y2 y3 y4 y5 y6 tq = some (nI 0, y1, y2, y3, y4, y5, y6) := by
  unfold f_X12_perhaps
  rw [if_pos (show 0 < nI k by rw [nI_0lt (by omega)]; omega)]
theorem b_told (h : 1 ≤ k) (h2 : k ≤ 7) {c : Nat → Int32} {wds : Nat → Int64} : f_X12_told fu x1 x2 (nI k) p y1 y2 y3 y6 c wds = some (nI 0, nI k, p) := by
  unfold f_X12_told f_X12_told_18
  rw [if_neg (b_eq h h2), if_neg (b_le h h2)]
theorem b_readTold (h : 1 ≤ k) (h2 : k ≤ 7) {c : Nat → Int32} {wds : Nat → Int64} : f_X12_readTold fu x1 x2 x (nI k) p y1 y2 y3 y4 y5 y6 c tq wds = some (nI 0, nI k, p, y1, y2, y3, y4, y5, y6) := by
  unfold f_X12_readTold
  rw [b_told h h2, bd_s]
  show bd_ _ _ = _
  rw [b_must h h2, bd_s]
end BAD
end PR
