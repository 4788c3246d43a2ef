section TW
variable {B : Nat → Nat} {E fu : Nat} {tp tq : Nat → Int32} {K : Nat → Int64} {W cn sn pn : Nat → Int64} {n0 n1 n2 : Nat} {fk fp pr ba : Int32}
/-- what is so of one STEP D deep, within w -/
def ONE (B : Nat → Nat) (fu E : Nat) (K : Nat → Int64) (tp tq : Nat → Int32) (W : Nat → Int64) (n0 n1 n2 : Nat) (cn pn sn : Nat → Int64) (fk fp pr ba : Int32) (D dep w : Nat) : Prop :=
  ∀ (i pl nx kd kk s p : Nat) (wd wd2 : Int64) (nu nu2 le : Int32) (c op co ma on ot : Nat → Int32), TOK B E pl nx kd kk wd nu nu2 le wd2 → kk ≠ 22 → kd ≠ 0 → s ≤ 30 → p + w ≤ 2 * s → i ≤ pl → c (390 * 0 + 0) = nI n0 → c (390 * 0 + 1) = nI n1 → c (390 * 0 + 2) = nI n2 →
    (∃ I, ∃ (op' : Nat → Int32) (nx' kd' pl' : Nat) (wd' : Int64) (kk' : Nat) (nu' : Int32) (s' p' : Nat) (co' ma' on' ot' c' : Nat → Int32) (nu2' le' : Int32) (wd2' : Int64),
      AR B fu E K tp n0 n1 n2 cn pn sn fk fp pr D 1 I w i op nx kd pl wd kk nu s p co ma on ot c op' nx' kd' pl' wd' kk' nu' s' p' co' ma' on' ot' c' nu2' le' wd2' ∧
      f_X12_readStep fu dep (nI w) (nI E) (nI 0) ba (nI kd) (nI pl) (nI nx) nu2 le wd2 (nI s) c tq W = some (nI 0, ba, nI kd', nI pl', nI nx', nu2', le', wd2', nI s', c')) ∨
    (∃ k q I, 1 ≤ k ∧ k ≤ 7 ∧ i + I ≤ E + 2 ∧ (∀ N, 0 < N → badT (T15 fu E K tp n0 n1 n2 cn pn sn fk fp pr (N + I) i w op nx kd pl wd kk nu s p co ma on ot) k q) ∧
      badM (f_X12_readStep fu dep (nI w) (nI E) (nI 0) ba (nI kd) (nI pl) (nI nx) nu2 le wd2 (nI s) c tq W) k q c)
/-- a row of STEPS within a when, a loop -/
theorem in_list {D dep w s0 : Nat} (hs0 : s0 < 30) (hE : E ≤ 300) (hw : w < 3) (hO : ONE B fu E K tp tq W n0 n1 n2 cn pn sn fk fp pr ba D (dep + 1) (w + 1)) :
    ∀ (m i pl nx kd kk s p : Nat) (wd wd2 : Int64) (nu nu2 le : Int32) (c op co ma on ot : Nat → Int32), E - pl ≤ m → TOK B E pl nx kd kk wd nu nu2 le wd2 → s ≤ 30 → p + (w + 1) ≤ 2 * s → i ≤ pl → c (390 * 0 + 0) = nI n0 → c (390 * 0 + 1) = nI n1 → c (390 * 0 + 2) = nI n2 →
    (∃ n I, ∃ (op' : Nat → Int32) (nx' kd' pl' : Nat) (wd' : Int64) (kk' : Nat) (nu' : Int32) (s' p' : Nat) (co' ma' on' ot' c' : Nat → Int32) (nu2' le' : Int32) (wd2' : Int64),
      AR B fu E K tp n0 n1 n2 cn pn sn fk fp pr D n I (w + 1) i op nx kd pl wd kk nu s p co ma on ot c op' nx' kd' pl' wd' kk' nu' s' p' co' ma' on' ot' c' nu2' le' wd2' ∧ kk' = 22 ∧
      ∀ M, m < M → f_X12_readStep_142 fu (nI E) tq W (f_X12_readStep fu (dep + 1)) M (nI w) (nI 1) (nI (1673 + 9 * s0)) (nI 0) ba (nI kd) (nI pl) (nI nx) nu2 le wd2 (nI s) c = f_X12_readStep_170 fu (nI E) tq W (f_X12_readStep fu (dep + 1)) (nI 1) (nI (1673 + 9 * s0)) (nI 0) ba (nI kd') (nI pl') (nI nx') nu2' le' wd2' (nI s') c') ∨
    (∃ k q I, 1 ≤ k ∧ k ≤ 7 ∧ i + I ≤ E + 2 ∧ (∀ N, 0 < N → badT (T15 fu E K tp n0 n1 n2 cn pn sn fk fp pr (N + I) i (w + 1) op nx kd pl wd kk nu s p co ma on ot) k q) ∧
      ∀ M, m + 1 < M → badM (f_X12_readStep_142 fu (nI E) tq W (f_X12_readStep fu (dep + 1)) M (nI w) (nI 1) (nI (1673 + 9 * s0)) (nI 0) ba (nI kd) (nI pl) (nI nx) nu2 le wd2 (nI s) c) k q c)
  | m, i, pl, nx, kd, kk, s, p, wd, wd2, nu, nu2, le, c, op, co, ma, on, ot, hm, T, hs, hp, hi, hc0, hc1, hc2 => by
    have hT := T.1
    by_cases e22 : kk = 22
    · refine Or.inl ⟨0, 0, op, nx, kd, pl, wd, kk, nu, s, p, co, ma, on, ot, c, nu2, le, wd2, AR_nil T hi hs hp, e22, fun M hM => ?_⟩
      obtain ⟨M, rfl⟩ : ∃ q, M = q + 1 := ⟨M - 1, by omega⟩
      conv => lhs; unfold f_X12_readStep_142
      rw [if_neg (show ¬ nI 1 = 0 by decide), if_pos (show nI 0 = 0 from rfl), m_isEnd T, bd_s, decide_eq_true e22, if_neg (show ¬ bI true = 0 by decide)]
    have stp : ∀ M, f_X12_readStep_142 fu (nI E) tq W (f_X12_readStep fu (dep + 1)) (M + 1) (nI w) (nI 1) (nI (1673 + 9 * s0)) (nI 0) ba (nI kd) (nI pl) (nI nx) nu2 le wd2 (nI s) c = bd_ (f_X12_readStep fu (dep + 1) (nI (w + 1)) (nI E) (nI 0) ba (nI kd) (nI pl) (nI nx) nu2 le wd2 (nI s) c tq W) (fun (z : MT) => match z with | (u6, u7, u8, u9, u10, u11, u12, u13, u14, u15) => f_X12_readStep_142 fu (nI E) tq W (f_X12_readStep fu (dep + 1)) M (nI w) (nI 1) (nI (1673 + 9 * s0)) u6 u7 u8 u9 u10 u11 u12 u13 u14 u15) := by
      intro M
      conv => lhs; unfold f_X12_readStep_142
      rw [if_neg (show ¬ nI 1 = 0 by decide), if_pos (show nI 0 = 0 from rfl), m_isEnd T, bd_s, decide_eq_false e22, if_pos (show bI false = 0 from rfl), nI_add]
    have stb : ∀ k q, 1 ≤ k → k ≤ 7 → badM (f_X12_readStep fu (dep + 1) (nI (w + 1)) (nI E) (nI 0) ba (nI kd) (nI pl) (nI nx) nu2 le wd2 (nI s) c tq W) k q c → ∀ M, 1 < M → badM (f_X12_readStep_142 fu (nI E) tq W (f_X12_readStep fu (dep + 1)) M (nI w) (nI 1) (nI (1673 + 9 * s0)) (nI 0) ba (nI kd) (nI pl) (nI nx) nu2 le wd2 (nI s) c) k q c := by
      intro k q h1 h2 hb M hM
      obtain ⟨M, rfl⟩ : ∃ q, M = (q + 1) + 1 := ⟨M - 2, by omega⟩
      obtain ⟨z1, z2, z3, z4, z5, z6, x, c1, hz, hc⟩ := hb
      rw [stp, hz, bd_s]
      simp only
      rw [b_142 h1 h2 hs0]
      exact ⟨_, _, _, _, _, _, _, _, rfl, fun j hj => by rw [updN (by omega)]; exact hc j hj⟩
    by_cases e0 : kd = 0
    · have hsk : sKd kk = (-1 : Int32) := by
        rw [show kk = 24 from T.2.2.1 (by omega)]; rfl
      refine Or.inr ⟨2, pl, 0, by omega, by omega, by omega, fun N hN => ?_, fun M hM => stb 2 pl (by omega) (by omega) ?_ M (by omega)⟩
      · obtain ⟨N, rfl⟩ : ∃ q, N = q + 1 := ⟨N - 1, by omega⟩
        exact rd_over T e0 (by omega) (by omega)
      · have := m_over (fu := fu) (dep := dep) (w := w + 1) (x := nI s) (c := c) (tq := tq) (W := W) (ba := ba) T hsk
        rw [show fK kd 2 = 2 by rw [e0]; rfl] at this
        exact this
    rcases hO i pl nx kd kk s p wd wd2 nu nu2 le c op co ma on ot T e22 e0 hs hp hi hc0 hc1 hc2 with ⟨I, op', nx', kd', pl', wd', kk', nu', s', p', co', ma', on', ot', c', nu2', le', wd2', hA, hM⟩ | ⟨k, q, I, h1, h2, h3, h4, h5⟩
    rotate_left
    · exact Or.inr ⟨k, q, I, h1, h2, h3, h4, fun M hM => stb k q h1 h2 h5 M (by omega)⟩
    have hlt : pl < nx := hT.2.2.2.2.2 e0
    obtain ⟨-, T', hb, -, -, hcl, -⟩ := id hA
    obtain ⟨m, rfl⟩ : ∃ q, m = q + 1 := ⟨m - 1, by omega⟩
    have hT' := T'.1
    rcases in_list hs0 hE hw hO m (i + I) pl' nx' kd' kk' s' p' wd' wd2' nu' nu2' le' c' op' co' ma' on' ot' (by omega) T' (by omega) (by omega) (by omega) (by rw [hcl _ (by omega)]; exact hc0) (by rw [hcl _ (by omega)]; exact hc1) (by rw [hcl _ (by omega)]; exact hc2) with ⟨n, I2, op2, nx2, kd2, pl2, wd2q, kk2, nu2q, s2, p2, co2, ma2, on2, ot2, c2, nu22, le2, wd22, g1, g2, g3⟩ | ⟨k, q, I2, h1, h2, h3, h4, h5⟩
    · refine Or.inl ⟨1 + n, I + I2, op2, nx2, kd2, pl2, wd2q, kk2, nu2q, s2, p2, co2, ma2, on2, ot2, c2, nu22, le2, wd22, AR_app hA g1, g2, fun M hM' => ?_⟩
      obtain ⟨M, rfl⟩ : ∃ q, M = q + 1 := ⟨M - 1, by omega⟩
      rw [stp, hM, bd_s]
      exact g3 M (by omega)
    · refine Or.inr ⟨k, q, I + I2, h1, h2, by omega, fun N hN => ?_, fun M hM' => ?_⟩
      · rw [show N + (I + I2) = (N + I2) + I by omega, hA.1]
        exact h4 N hN
      · obtain ⟨M, rfl⟩ : ∃ q, M = q + 1 := ⟨M - 1, by omega⟩
        obtain ⟨z1, z2, z3, z4, z5, z6, x, c1, hz, hc⟩ := h5 M (by omega)
        rw [stp, hM, bd_s]
        exact ⟨z1, z2, z3, z4, z5, z6, x, c1, hz, fun j hj => by rw [hc j hj, hcl j (by omega)]⟩
termination_by m => m
end TW
