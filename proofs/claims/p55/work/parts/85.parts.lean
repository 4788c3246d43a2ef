/-! a BOOK that is being read: the block NEW, the draft; SECRETS, PAGES -/
def mk4 (c : Nat → Int32) (σ : Nat → Nat) : Nat → Int32 := fun i => if 1560 ≤ i ∧ i < 1671 then nI (σ (i - 1560)) else c i
theorem mk4_in {c : Nat → Int32} {σ : Nat → Nat} {i : Nat} (h : i < 111) : mk4 c σ (1560 + i) = nI (σ i) := by
  unfold mk4
  rw [if_pos (by omega), Nat.add_sub_cancel_left]
theorem mk4_at {c : Nat → Int32} {σ : Nat → Nat} {i : Nat} (h1 : 1560 ≤ i) (h : i < 1671) : mk4 c σ i = nI (σ (i - 1560)) := if_pos ⟨h1, h⟩
theorem mk4_lo {c : Nat → Int32} {σ : Nat → Nat} {i : Nat} (h : i < 1560) : mk4 c σ i = c i := if_neg (by omega)
theorem mk4_up {c : Nat → Int32} {σ : Nat → Nat} {i v : Nat} (h1 : 1560 ≤ i) (h : i < 1671) : upd (mk4 c σ) i (nI v) = mk4 c (up σ (i - 1560) v) := by
  funext j
  unfold upd mk4 up
  by_cases e : j = i
  · subst e; rw [if_pos rfl, if_pos ⟨h1, h⟩, if_pos rfl]
  · rw [if_neg e]
    by_cases e2 : 1560 ≤ j ∧ j < 1671
    · rw [if_pos e2, if_pos e2, if_neg (by omega)]
    · rw [if_neg e2, if_neg e2]
def WD (σ : Nat → Nat) : Prop :=
  (σ 0 ≤ 8 ∧ σ 1 ≤ 6 ∧ σ 2 ≤ 6 ∧ σ 3 ≤ 8) ∧
  (∀ k, k < 8 → σ (9 + k) ≤ 20 ∧ σ (17 + k) ≤ 1 ∧ σ (25 + k) ≤ 1 ∧ σ (33 + k) < 64 ∧ (σ 0 ≤ k → σ (17 + k) = 0 ∧ σ (25 + k) = 0 ∧ σ (33 + k) = 0)) ∧
  (∀ s, s < 6 → σ (49 + s) ≤ 20 ∧ (s < σ 1 → 1 ≤ σ (49 + s))) ∧ (∀ p, p < 6 → σ (55 + p) ≤ 60 ∧ σ (61 + p) ≤ 16) ∧
  (∀ i, i < σ 3 → σ (67 + i) < σ 0) ∧ (∀ i j, i < σ 3 → j < σ 3 → σ (67 + i) = σ (67 + j) → i = j) ∧
  (∀ i, (4 ≤ i ∧ i < 9) ∨ (41 ≤ i ∧ i < 49) ∨ 75 ≤ i → σ i = 0)
theorem WD.wf {σ : Nat → Nat} (h : WD σ) : WF σ := by
  obtain ⟨⟨h0, h1, h2, h3⟩, hk, hl, hp, ho, hi, hz⟩ := h
  have hD : ∀ p s, sD σ p s = 0 := fun p s => hz _ (by omega)
  have hP : ∀ p, sPr σ p = 0 := fun p => by unfold sPr; simp only [hD]
  have z6 := hz 6 (by omega)
  have z7 := hz 7 (by omega)
  have z8 := hz 8 (by omega)
  exact ⟨⟨h0, h1, h2, h3, by omega, by omega, Or.inr z8⟩, fun k hk1 => by have := hk k hk1; omega, fun k hk1 h => ((hk k hk1).2.2.2.2 h).2.2, hl, hp, ho, hi, fun p s _ _ => by rw [hD]; exact ⟨by omega, fun _ => by omega, fun _ => rfl⟩, fun p _ => by rw [hP]; omega⟩
theorem is_some (a b : Int32) : ∃ r, f_X12_isSign (nI 59) a b = some r := by
  unfold f_X12_isSign
  split
  · split
    · exact ⟨_, rfl⟩
    · exact ⟨_, rfl⟩
  · exact ⟨_, rfl⟩
section PA
variable {B : Nat → Nat} {E fu : Nat} {tp tq : Nat → Int32} {K : Nat → Int64} {pl nx kd kk : Nat} {wd wd2 : Int64} {nu nu2 le fk fp ba : Int32}
/-- a word, a number and ; -/
theorem r_last (h : TX B E tp tq) (hK : ∀ k, k < 24 → K k = lN (KEY k)) (T : TOK B E pl nx kd kk wd nu nu2 le wd2) {w lo hi : Nat} (hw : w < 24) (hlo : lo < 10000) (hhi : hi < 10000) (hfu : 2000 < fu) :
    (∃ v y1 y2 y3 y4 y5 y6 r pl' nx' kd' kk' wd' nu' nu2' le' wd2', lo ≤ v ∧ v ≤ hi ∧ nx ≤ pl' ∧ TOK B E pl' nx' kd' kk' wd' nu' nu2' le' wd2' ∧
      f_X2_lastNumber fu (nI w) (nI lo) (nI hi) (nI E) (nI nx) (nI kd) (nI pl) wd (kI kk) nu fk fp K tp = some (nI v, nI nx', nI kd', nI pl', wd', kI kk', nu', fk, fp) ∧
      f_X12_behindWord fu (bI (decide (kk = w))) (nI lo) (nI hi) (nI E) (nI 0) ba (nI kd) (nI pl) (nI nx) nu2 le wd2 tq = some (nI v, nI 0, ba, y1, y2, y3, y4, y5, y6) ∧
      f_X12_isSign (nI 59) y1 y4 = some r ∧ f_X12_must fu r (nI E) (nI 0) ba y1 y2 y3 y4 y5 y6 tq = some (nI 0, ba, nI kd', nI pl', nI nx', nu2', le', wd2')) ∨
    (∃ k p, 1 ≤ k ∧ k ≤ 7 ∧ ∃ u1 u2 u3 : Int32, ∃ u4 : Int64, ∃ u5 u6 v : Int32, ∃ y1 y2 y3 y4 y5 y6 y7 : Int32, ∃ y8 : Int64, ∃ r z1 z2 z3 z4 z5 : Int32, ∃ z6 : Int64,
      f_X2_lastNumber fu (nI w) (nI lo) (nI hi) (nI E) (nI nx) (nI kd) (nI pl) wd (kI kk) nu fk fp K tp = some ((-1 : Int32), u1, u2, u3, u4, u5, u6, nI k, nI p) ∧
      f_X12_behindWord fu (bI (decide (kk = w))) (nI lo) (nI hi) (nI E) (nI 0) ba (nI kd) (nI pl) (nI nx) nu2 le wd2 tq = some (v, y1, y2, y3, y4, y5, y6, y7, y8) ∧
      f_X12_isSign (nI 59) y3 y6 = some r ∧ f_X12_must fu r (nI E) y1 y2 y3 y4 y5 y6 y7 y8 tq = some (nI k, nI p, z1, z2, z3, z4, z5, z6)) := by
  have hT := T.1
  unfold f_X2_lastNumber f_X12_behindWord
  rcases r_skip (fu := fu) (ba := ba) h hK T hw hfu with ⟨pl1, nx1, kd1, kk1, wd1, nu1, nu21, le1, wd21, a0, a1, T1, a3, a4, a5⟩ | ⟨a0, a1, a2, a3⟩
  · rw [a3, bd_s, a5, bd_s]
    simp only
    rw [if_neg (show ¬ nI 1 = 0 by decide)]
    rcases r_num (fu := fu) (ba := ba) (fk := fk) (fp := fp) h hK T1 hlo hhi hfu with ⟨v, pl2, nx2, kd2, kk2, wd2', nu2', nu22, le2, wd22, b0, b1, b2, b3, T2, b5, b6⟩ | ⟨k, b1, b2, b3, b4⟩
    · rw [b5, bd_s, b6, bd_s]
      simp only
      rw [if_neg (show ¬ nI v = (-1 : Int32) by rw [nI_ne_m1 (by omega)]; exact id)]
      have hs := m_isSign T2
      rcases r_semi (fu := fu) (ba := ba) (fk := fk) (fp := fp) h hK T2 hfu with ⟨pl3, nx3, kd3, kk3, wd3, nu3, nu23, le3, wd23, d1, T3, d3, d4, d5, d6⟩ | ⟨d1, d2, d3⟩
      · rw [d5, bd_s]
        simp only
        rw [if_neg (show ¬ nI 1 = 0 by decide)]
        have q1 := T1.1
        have q2 := T2.1
        exact Or.inl ⟨v, _, _, _, _, _, _, _, pl3, nx3, kd3, kk3, wd3, nu3, nu23, le3, wd23, b0, b1, by omega, T3, rfl, rfl, hs, d6⟩
      · rw [d2, bd_s]
        simp only
        rw [if_pos (show nI 0 = 0 from rfl)]
        have hb := fK_b (kd := kd2) (x := 2) (by omega) (by omega)
        exact Or.inr ⟨fK kd2 2, pl2, hb.1, hb.2, _, _, _, _, _, _, _, _, _, _, _, _, _, _, _, _, _, _, _, _, _, _, rfl, rfl, hs, d3⟩
    · rw [b3, bd_s, b4, bd_s]
      simp only
      obtain ⟨r, hr⟩ := is_some (nI kd1) nu21
      exact Or.inr ⟨k, pl1, b1, b2, _, _, _, _, _, _, _, _, _, _, _, _, _, _, _, _, _, _, _, _, _, _, rfl, rfl, hr, b_must b1 b2⟩
  · rw [a1, bd_s, a3, bd_s]
    simp only
    have hb := fK_b (kd := kd) (x := 2) (by omega) (by omega)
    rw [if_pos (show nI 0 = 0 from rfl), c_fail (by omega), bd_s, fK_nI, b_count hb.1 hb.2, bd_s]
    obtain ⟨r, hr⟩ := is_some (nI kd) nu2
    exact Or.inr ⟨fK kd 2, pl, hb.1, hb.2, _, _, _, _, _, _, _, _, _, _, _, _, _, _, _, _, _, _, _, _, _, _, rfl, rfl, hr, b_must hb.1 hb.2⟩
end PA
