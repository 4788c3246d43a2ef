section ON
variable {B : Nat → Nat} {E fu : Nat} {tp tq : Nat → Int32} {K : Nat → Int64} {W cn sn pn : Nat → Int64} {n0 n1 n2 : Nat} {fk fp pr ba : Int32}
/-- the end of a when, of a loop -/
theorem r_end {i w pl nx kd kk s s0 p p0 : Nat} {wd wd2 : Int64} {nu nu2 le : Int32} {c : Nat → Int32} {op co ma on ot : Nat → Int32} {REC : RF} (h : TX B E tp tq) (hE : E ≤ 300) (hK : ∀ k, k < 24 → K k = lN (KEY k)) (T : TOK B E pl nx kd kk wd nu nu2 le wd2) (hk : kk = 22) (hi : i ≤ pl) (hw : w < 3) (hs : s ≤ 30) (hs0 : s0 < s) (hp : p + (w + 1) ≤ 2 * s) (ho : op w = nI p0) (hp0 : p0 < p) (hfu : 2000 < fu) :
    (∃ pl' nx' kd' kk' wd' nu' nu2' le' wd2', pl + 1 ≤ pl' ∧ TOK B E pl' nx' kd' kk' wd' nu' nu2' le' wd2' ∧
      (∀ N, T15 fu E K tp n0 n1 n2 cn pn sn fk fp pr (N + 1) i (w + 1) op nx kd pl wd kk nu s p co ma on ot = T15 fu E K tp n0 n1 n2 cn pn sn fk fp pr N (i + 1) w op nx' kd' pl' wd' kk' nu' s (p + 1) (upd co p (nI 22)) (upd (upd (upd ma p (-1 : Int32)) p (nI p0)) p0 (nI p)) (upd on p (nI 0)) (upd ot p (nI 0))) ∧
      f_X12_readStep_170 fu (nI E) tq W REC (nI 1) (nI (1673 + 9 * s0)) (nI 0) ba (nI kd) (nI pl) (nI nx) nu2 le wd2 (nI s) c = some (nI 0, ba, nI kd', nI pl', nI nx', nu2', le', wd2', nI s, upd c (1673 + 9 * s0 + 8) (nI s))) ∨
    (∃ k q, 1 ≤ k ∧ k ≤ 7 ∧ (∀ N, 0 < N → badT (T15 fu E K tp n0 n1 n2 cn pn sn fk fp pr (N + 1) i (w + 1) op nx kd pl wd kk nu s p co ma on ot) k q) ∧ badM (f_X12_readStep_170 fu (nI E) tq W REC (nI 1) (nI (1673 + 9 * s0)) (nI 0) ba (nI kd) (nI pl) (nI nx) nu2 le wd2 (nI s) c) k q c) := by
  have hT := T.1
  have hkd1 : kd = 1 := Classical.byContradiction fun q => absurd (T.2.2.1 q) (by omega)
  have hnx : pl < nx := hT.2.2.2.2.2 (by omega)
  have l0 : ∀ {α β : Type} (x : β) (k : β → Option α), lt_ x k = k x := fun _ _ => rfl
  obtain ⟨pl1, nx1, kd1, kk1, wd1, nu1, nu21, le1, wd21, a1, T1, a3, a4⟩ := tk_next (fu := fu) h hK (a := nx) (by omega) hfu (nI kd) (nI pl) wd (kI kk) nu (nI kd) (nI pl) nu2 le wd2
  have hm : f_X12_must fu (bI (decide (kk = 22))) (nI E) (nI 0) ba (nI kd) (nI pl) (nI nx) nu2 le wd2 tq = some (nI 0, ba, nI kd1, nI pl1, nI nx1, nu21, le1, wd21) := by
    unfold f_X12_must
    rw [if_pos (show nI 0 ≤ 0 by decide), decide_eq_true hk, if_neg (show ¬ bI true = 0 by decide), a4, bd_s]
  have e192 : ∀ (k : Nat) (q y1 y2 y3 y4 y5 : Int32) (y6 : Int64), f_X12_readStep_192 fu (nI E) tq W REC (nI (1673 + 9 * s0)) (nI k) q y1 y2 y3 y4 y5 y6 (nI s) c = some (nI k, q, y1, y2, y3, y4, y5, y6, nI s, upd c (1673 + 9 * s0 + 8) (nI s)) := by
    intro k q y1 y2 y3 y4 y5 y6
    unfold f_X12_readStep_192
    rw [nI_add, gi_n (by omega) (by omega), nI_cl (by omega)]
  have hce : ∀ N, T15 fu E K tp n0 n1 n2 cn pn sn fk fp pr (N + 1) i (w + 1) op nx kd pl wd kk nu s p co ma on ot = _ := fun N => rd_end hE T hi hk
  have hwp : (0 : Int32) < nI (w + 1) := by rw [nI_0lt (by omega)]; omega
  have em : f_X12_readStep_170 fu (nI E) tq W REC (nI 1) (nI (1673 + 9 * s0)) (nI 0) ba (nI kd) (nI pl) (nI nx) nu2 le wd2 (nI s) c = bd_ (f_X12_must fu (bI (smB B pl1 kd1)) (nI E) (nI 0) ba (nI kd1) (nI pl1) (nI nx1) nu21 le1 wd21 tq) (fun (z : Int32 × Int32 × Int32 × Int32 × Int32 × Int32 × Int32 × Int64) => match z with | (u15, u16, u17, u18, u19, u20, u21, u22) => f_X12_readStep_192 fu (nI E) tq W REC (nI (1673 + 9 * s0)) u15 u16 u17 u18 u19 u20 u21 u22 (nI s) c) := by
    unfold f_X12_readStep_170
    rw [if_neg (show ¬ nI 1 = 0 by decide), m_isEnd T, bd_s, hm, bd_s]
    simp only
    rw [m_isSign T1, bd_s]
  rcases r_semi (fu := fu) (ba := ba) (fk := fk) (fp := fp) h hK T1 hfu with ⟨pl4, nx4, kd4, kk4, wd4, nu4, nu24, le4, wd24, e1, T4, e3, e4, e5, e6⟩ | ⟨e1, e2, e3⟩
  · refine Or.inl ⟨pl4, nx4, kd4, kk4, wd4, nu4, nu24, le4, wd24, by have := T1.1; omega, T4, fun N => ?_, ?_⟩
    · rw [hce N]
      unfold f_X6_takeEnd
      rw [if_pos hwp, a3, bd_s]
      simp only
      rw [e5, bd_s]
      simp only
      rw [if_neg (show ¬ nI 1 = 0 by decide), l0, pk_sub (show 1 ≤ w + 1 by omega), Nat.add_sub_cancel, gi_n (by omega) (by omega), nI_cl (by omega), ho, c_close hp0 (by omega), bd_s, bd_s]
      rfl
    · rw [em, e6, bd_s]
      exact e192 0 _ _ _ _ _ _ _
  · have hb := fK_b (kd := kd1) (x := 2) (by omega) (by omega)
    refine Or.inr ⟨fK kd1 2, pl1, hb.1, hb.2, fun N hN => ?_, ?_⟩
    · rw [hce N]
      unfold f_X6_takeEnd
      rw [if_pos hwp, a3, bd_s]
      simp only
      rw [e2, bd_s]
      simp only
      rw [if_pos (show nI 0 = 0 from rfl), bd_s]
      obtain ⟨N, rfl⟩ : ∃ q, N = q + 1 := ⟨N - 1, by omega⟩
      exact rd_bad
    · rw [em, e3, bd_s]
      exact ⟨_, _, _, _, _, _, _, _, e192 _ _ _ _ _ _ _ _, fun i hi => updN (by omega)⟩
end ON
