section TP
variable {B : Nat → Nat} {E fu : Nat} {tp tq : Nat → Int32} {K : Nat → Int64} {W cn sn pn : Nat → Int64} {n0 n1 n2 : Nat} {fk fp pr ba : Int32}
/-- all of the STEPS of a text -/
theorem top_list (hE : E ≤ 300) (hO : ONE B fu E K tp tq W n0 n1 n2 cn pn sn fk fp pr ba 3 8 0) :
    ∀ (m i pl nx kd kk s p : Nat) (wd wd2 : Int64) (nu nu2 le : Int32) (c op co ma on ot : Nat → Int32), E - pl ≤ m → TOK B E pl nx kd kk wd nu nu2 le wd2 → s ≤ 30 → p + 0 ≤ 2 * s → i ≤ pl → c (390 * 0 + 0) = nI n0 → c (390 * 0 + 1) = nI n1 → c (390 * 0 + 2) = nI n2 →
    (∃ n I, ∃ (op' : Nat → Int32) (nx' kd' pl' : Nat) (wd' : Int64) (kk' : Nat) (nu' : Int32) (s' p' : Nat) (co' ma' on' ot' c' : Nat → Int32) (nu2' le' : Int32) (wd2' : Int64),
      AR B fu E K tp n0 n1 n2 cn pn sn fk fp pr 3 n I 0 i op nx kd pl wd kk nu s p co ma on ot c op' nx' kd' pl' wd' kk' nu' s' p' co' ma' on' ot' c' nu2' le' wd2' ∧ kd' = 0 ∧
      ∀ M, m < M → ∀ st th ta f1 f2, f_X12_rounds_28 fu tq W M st th ta (nI E) f1 f2 (nI 0) ba (nI kd) (nI pl) (nI nx) nu2 le wd2 (nI s) c = f_X12_rounds_50 fu tq W st th ta (nI E) f1 f2 (nI 0) ba (nI kd') (nI pl') (nI nx') nu2' le' wd2' (nI s') c') ∨
    (∃ k q I, 1 ≤ k ∧ k ≤ 7 ∧ i + I ≤ E + 2 ∧ (∀ N, 0 < N → badT (T15 fu E K tp n0 n1 n2 cn pn sn fk fp pr (N + I) i 0 op nx kd pl wd kk nu s p co ma on ot) k q) ∧
      ∃ (z1 z2 z3 z4 z5 : Int32) (z6 : Int64) (x : Int32) (c1 : Nat → Int32), (∀ j, j < 1673 → c1 j = c j) ∧ ∀ M, m + 1 < M → ∀ st th ta f1 f2, f_X12_rounds_28 fu tq W M st th ta (nI E) f1 f2 (nI 0) ba (nI kd) (nI pl) (nI nx) nu2 le wd2 (nI s) c = f_X12_rounds_50 fu tq W st th ta (nI E) f1 f2 (nI k) (nI q) z1 z2 z3 z4 z5 z6 x c1)
  | m, i, pl, nx, kd, kk, s, p, wd, wd2, nu, nu2, le, c, op, co, ma, on, ot, hm, T, hs, hp, hi, hc0, hc1, hc2 => by
    have hT := T.1
    by_cases e0 : kd = 0
    · refine Or.inl ⟨0, 0, op, nx, kd, pl, wd, kk, nu, s, p, co, ma, on, ot, c, nu2, le, wd2, AR_nil T hi hs hp, e0, fun M hM st th ta f1 f2 => ?_⟩
      obtain ⟨M, rfl⟩ : ∃ q, M = q + 1 := ⟨M - 1, by omega⟩
      conv => lhs; unfold f_X12_rounds_28
      rw [if_pos (show nI 0 = 0 from rfl), if_pos (show nI kd = 0 by rw [e0]; rfl)]
    have hlt : pl < nx := hT.2.2.2.2.2 e0
    have stp : ∀ M st th ta f1 f2, f_X12_rounds_28 fu tq W (M + 1) st th ta (nI E) f1 f2 (nI 0) ba (nI kd) (nI pl) (nI nx) nu2 le wd2 (nI s) c = bd_ (f_X12_readStep fu 8 (nI 0) (nI E) (nI 0) ba (nI kd) (nI pl) (nI nx) nu2 le wd2 (nI s) c tq W) (fun (z : MT) => match z with | (u3, u4, u5, u6, u7, u8, u9, u10, u11, u12) => f_X12_rounds_28 fu tq W M st th ta (nI E) f1 f2 u3 u4 u5 u6 u7 u8 u9 u10 u11 u12) := by
      intro M st th ta f1 f2
      conv => lhs; unfold f_X12_rounds_28
      rw [if_pos (show nI 0 = 0 from rfl), if_neg (show ¬ nI kd = 0 by rw [nI_eq0 (by omega)]; exact e0)]
    have stb : ∀ k q, 1 ≤ k → k ≤ 7 → badM (f_X12_readStep fu 8 (nI 0) (nI E) (nI 0) ba (nI kd) (nI pl) (nI nx) nu2 le wd2 (nI s) c tq W) k q c → ∃ (z1 z2 z3 z4 z5 : Int32) (z6 : Int64) (x : Int32) (c1 : Nat → Int32), (∀ j, j < 1673 → c1 j = c j) ∧ ∀ M, 1 < M → ∀ st th ta f1 f2, f_X12_rounds_28 fu tq W M st th ta (nI E) f1 f2 (nI 0) ba (nI kd) (nI pl) (nI nx) nu2 le wd2 (nI s) c = f_X12_rounds_50 fu tq W st th ta (nI E) f1 f2 (nI k) (nI q) z1 z2 z3 z4 z5 z6 x c1 := by
      intro k q h1 h2 hb
      obtain ⟨z1, z2, z3, z4, z5, z6, x, c1, hz, hc⟩ := hb
      refine ⟨z1, z2, z3, z4, z5, z6, x, c1, hc, fun M hM st th ta f1 f2 => ?_⟩
      obtain ⟨M, rfl⟩ : ∃ q, M = (q + 1) + 1 := ⟨M - 2, by omega⟩
      rw [stp, hz, bd_s]
      simp only
      conv => lhs; unfold f_X12_rounds_28
      rw [if_neg (b_eq h1 h2)]
    by_cases e22 : kk = 22
    · have hkd1 : kd = 1 := Classical.byContradiction fun q => absurd (T.2.2.1 q) (by omega)
      have hov := m_over (fu := fu) (dep := 7) (w := 0) (x := nI s) (c := c) (tq := tq) (W := W) (ba := ba) T (show sKd kk = (-1 : Int32) by rw [e22]; rfl)
      have hb := fK_b (kd := kd) (x := 2) (by omega) (by omega)
      obtain ⟨z1, z2, z3, z4, z5, z6, x, c1, g1, g2⟩ := stb _ _ hb.1 hb.2 hov
      refine Or.inr ⟨fK kd 2, pl, 1, hb.1, hb.2, by omega, fun N hN => ?_, z1, z2, z3, z4, z5, z6, x, c1, g1, fun M hM => g2 M (by omega)⟩
      unfold T15
      rw [rd_end hE T hi e22]
      unfold f_X6_takeEnd
      rw [if_neg (show ¬ 0 < nI 0 by decide), c_fail (by omega), fK_nI, bd_s]
      simp only
      rw [gd_0, bd_s]
      simp only
      obtain ⟨N, rfl⟩ : ∃ q, N = q + 1 := ⟨N - 1, by omega⟩
      exact rd_bad
    rcases hO i pl nx kd kk s p wd wd2 nu nu2 le c op co ma on ot T e22 e0 hs hp hi hc0 hc1 hc2 with ⟨I, op', nx', kd', pl', wd', kk', nu', s', p', co', ma', on', ot', c', nu2', le', wd2', hA, hM⟩ | ⟨k, q, I, h1, h2, h3, h4, h5⟩
    rotate_left
    · obtain ⟨z1, z2, z3, z4, z5, z6, x, c1, g1, g2⟩ := stb _ _ h1 h2 h5
      exact Or.inr ⟨k, q, I, h1, h2, h3, h4, z1, z2, z3, z4, z5, z6, x, c1, g1, fun M hM => g2 M (by omega)⟩
    obtain ⟨-, T', hb, -, -, hcl, -⟩ := id hA
    obtain ⟨m, rfl⟩ : ∃ q, m = q + 1 := ⟨m - 1, by omega⟩
    have hT' := T'.1
    rcases top_list hE hO m (i + I) pl' nx' kd' kk' s' p' wd' wd2' nu' nu2' le' c' op' co' ma' on' ot' (by omega) T' (by omega) (by omega) (by omega) (by rw [hcl _ (by omega)]; exact hc0) (by rw [hcl _ (by omega)]; exact hc1) (by rw [hcl _ (by omega)]; exact hc2) with ⟨n, I2, op2, nx2, kd2, pl2, wd2q, kk2, nu2q, s2, p2, co2, ma2, on2, ot2, c2, nu22, le2, wd22, g1, g2, g3⟩ | ⟨k, q, I2, h1, h2, h3, h4, z1, z2, z3, z4, z5, z6, x, c1, g1, g2⟩
    · refine Or.inl ⟨1 + n, I + I2, op2, nx2, kd2, pl2, wd2q, kk2, nu2q, s2, p2, co2, ma2, on2, ot2, c2, nu22, le2, wd22, AR_app hA g1, g2, fun M hM' st th ta f1 f2 => ?_⟩
      obtain ⟨M, rfl⟩ : ∃ q, M = q + 1 := ⟨M - 1, by omega⟩
      rw [stp, hM, bd_s]
      exact g3 M (by omega) st th ta f1 f2
    · refine Or.inr ⟨k, q, I + I2, h1, h2, by omega, fun N hN => ?_, z1, z2, z3, z4, z5, z6, x, c1, fun j hj => by rw [g1 j hj, hcl j (by omega)], fun M hM' st th ta f1 f2 => ?_⟩
      · rw [show N + (I + I2) = (N + I2) + I by omega, hA.1]
        exact h4 N hN
      · obtain ⟨M, rfl⟩ : ∃ q, M = q + 1 := ⟨M - 1, by omega⟩
        rw [stp, hM, bd_s]
        exact g2 M (by omega) st th ta f1 f2
termination_by m => m
theorem rd_good {N i pl nx kd kk s p : Nat} {wd : Int64} {nu : Int32} {op co ma on ot : Nat → Int32} (hkd : kd = 0) : T15 fu E K tp n0 n1 n2 cn pn sn fk fp pr (N + 1) i 0 op nx kd pl wd kk nu s p co ma on ot = some (nI 1, nI 0, op, nI nx, nI kd, nI pl, wd, kI kk, nu, fk, fp, nI 1, nI s, nI p, co, ma, on, ot) := by
  have e68 : f_X6_take_68 fu (nI E) K tp (nI n0) (nI n1) (nI n2) cn pn sn (nI 1) (nI 0) op (nI nx) (nI kd) (nI pl) wd (kI kk) nu fk fp pr (nI s) (nI p) co ma on ot = some (nI 1, nI 0, op, nI nx, nI kd, nI pl, wd, kI kk, nu, fk, fp, nI 1, nI s, nI p, co, ma, on, ot) := by
    unfold f_X6_take_68
    rw [if_neg (show ¬ nI 1 = 0 by decide), if_pos (show nI 0 ≤ 0 by decide), gd_1, gd_1]
  unfold T15
  unfold f_X6_take_15
  rw [if_neg (show ¬ nI 1 = 0 by decide), if_pos (show nI kd = 0 by rw [hkd]; rfl), e68]
  split <;> rfl
/-- the STEPS that were told, copied into the book's block -/
def cR (g : Nat → Int32) (k : Nat) : Nat → Int32 := fun i => if 113 ≤ i ∧ i < 113 + k then g (1560 + i) else g i
theorem m_80 {s : Nat} {st th ta e f1 f2 bd y0 y1 y2 y3 y4 y5 : Int32} {y6 : Int64} {g : Nat → Int32} (hs : s ≤ 30) (hfu : 1000 < fu) : f_X12_rounds_80 fu tq W fu (nI 0) st th ta e f1 f2 bd y0 y1 y2 y3 y4 y5 y6 (nI s) g = some (nI s, st, th, ta, e, f1, f2, bd, y0, y1, y2, y3, y4, y5, y6, nI s, cR g (9 * s)) := by
  have e0 : cR g 0 = g := by funext i; exact if_neg (by omega)
  have := loop_p (fun n j => f_X12_rounds_80 fu tq W n (nI j) st th ta e f1 f2 bd y0 y1 y2 y3 y4 y5 y6 (nI s) (cR g j)) (9 * s) (some (nI s, st, th, ta, e, f1, f2, bd, y0, y1, y2, y3, y4, y5, y6, nI s, cR g (9 * s))) (by
    intro n j hj
    have e1 : upd (cR g j) (113 + j) (cR g j (1673 + j)) = cR g (j + 1) := by
      funext i
      have e2 : cR g j (1673 + j) = g (1560 + (113 + j)) := by
        unfold cR
        rw [if_neg (by omega), show 1560 + (113 + j) = 1673 + j by omega]
      rw [e2]
      unfold upd cR
      by_cases h : i = 113 + j
      · rw [if_pos h, if_pos (by omega), h]
      · rw [if_neg h]
        by_cases h2 : 113 ≤ i ∧ i < 113 + j
        · rw [if_pos h2, if_pos (by omega)]
        · rw [if_neg h2, if_neg (by omega)]
    simp (disch := omega) only [f_X12_rounds_80, pk_mul, nI_le', if_neg, nI_add, gi_n, nI_cl, lt_, e1]) (by
    intro n
    simp (disch := omega) only [f_X12_rounds_80, pk_mul, nI_le', if_pos]) (9 * s) 0 fu (by omega) (by omega)
  rw [e0] at this
  exact this
end TP
