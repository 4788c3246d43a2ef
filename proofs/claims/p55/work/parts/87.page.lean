/-! a PAGE that is told -/
section PG
variable {B : Nat → Nat} {E fu : Nat} {tp tq : Nat → Int32} {K : Nat → Int64} {pl nx kd kk : Nat} {wd wd2 : Int64} {nu nu2 le fk fp ba : Int32} {c : Nat → Int32} {σ : Nat → Nat} {wds cn sn pn : Nat → Int64} {lt rm sp : Nat → Int32}
theorem wd_page (h : WD σ) {v : Nat} (h6 : σ 2 < 6) (hv : v ≤ 60) : WD (up (up σ (55 + σ 2) v) 2 (σ 2 + 1)) := by
  obtain ⟨⟨h0, h1, h2, h3⟩, hk, hl, hp, ho, hi, hz⟩ := h
  refine ⟨⟨?_, ?_, ?_, ?_⟩, fun k hk1 => ?_, fun s hs => ?_, fun p hp1 => ?_, fun i hi1 => ?_, fun i j hi1 hj1 he => ?_, fun i hi1 => ?_⟩
  · rw [up_n _ _ (by omega), up_n _ _ (by omega)]; exact h0
  · rw [up_n _ _ (by omega), up_n _ _ (by omega)]; exact h1
  · rw [up_s]; omega
  · rw [up_n _ _ (by omega), up_n _ _ (by omega)]; exact h3
  · simp (disch := omega) only [up_n]
    exact hk k hk1
  · simp (disch := omega) only [up_n]
    exact hl s hs
  · rw [up_n _ _ (show 55 + p ≠ 2 by omega), up_n _ _ (show 61 + p ≠ 2 by omega), up_n _ _ (show 61 + p ≠ 55 + σ 2 by omega)]
    have := hp p hp1
    by_cases e : p = σ 2
    · rw [e, up_s, ← e]; omega
    · rw [up_n _ _ (show 55 + p ≠ 55 + σ 2 by omega)]; omega
  · simp (disch := omega) only [up_n] at hi1 ⊢
    exact ho i hi1
  · simp (disch := omega) only [up_n] at hi1 hj1 he
    exact hi i j hi1 hj1 he
  · simp (disch := omega) only [up_n]
    exact hz i hi1
theorem aR_page {v : Nat} : upd (aR rm σ) (σ 2) (nI v) = aR rm (up (up σ (55 + σ 2) v) 2 (σ 2 + 1)) := by
  unfold aR
  rw [up_s]
  have := mkF_step (b := rm) (f := fun i => up (up σ (55 + σ 2) v) 2 (σ 2 + 1) (55 + i)) (j := σ 2)
  rw [show up (up σ (55 + σ 2) v) 2 (σ 2 + 1) (55 + σ 2) = v by rw [up_n _ _ (by omega), up_s]] at this
  rw [← this]
  congr 1
  exact mkF_congr (fun i hi => by rw [up_n _ _ (by omega), up_n _ _ (by omega)])
theorem r_takePage (h : TX B E tp tq) (hK : ∀ k, k < 24 → K k = lN (KEY k)) (T : TOK B E pl nx kd kk wd nu nu2 le wd2) (hkd : kd = 1) (w : WD σ) (hN : NM 4 cn sn pn wds (σ 0) (σ 1) (σ 2)) (hfu : 2000 < fu) :
    (∃ (σ' : Nat → Nat) (pn' wds' : Nat → Int64), ∃ y1 y2 y3 y4 y5 y6 r pl' nx' kd' kk' wd' nu' nu2' le' wd2', nx ≤ pl' ∧ TOK B E pl' nx' kd' kk' wd' nu' nu2' le' wd2' ∧
      f_X2_takePage fu (nI E) (nI nx) (nI kd) (nI pl) wd (kI kk) nu fk fp K tp (nI (σ 0)) (nI (σ 1)) (nI (σ 2)) cn pn (aR rm σ) sn = some (nI 1, nI nx', nI kd', nI pl', wd', kI kk', nu', fk, fp, nI (σ' 2), pn', aR rm σ') ∧
      f_X12_readPage fu (nI E) (nI 0) ba (nI kd) (nI pl) (nI nx) nu2 le wd2 (mk4 c σ) tq wds = some (nI 0, ba, y1, y2, y3, y4, y5, y6, mk4 c σ', wds') ∧
      f_X12_isSign (nI 59) y1 y4 = some r ∧ f_X12_must fu r (nI E) (nI 0) ba y1 y2 y3 y4 y5 y6 tq = some (nI 0, ba, nI kd', nI pl', nI nx', nu2', le', wd2') ∧
      WD σ' ∧ NM 4 cn sn pn' wds' (σ' 0) (σ' 1) (σ' 2) ∧ (∀ i, i ≠ 2 → ¬ (55 ≤ i ∧ i < 61) → σ' i = σ i) ∧ (∀ i, i < 80 → wds' i = wds i)) ∨
    (∃ k p, 1 ≤ k ∧ k ≤ 7 ∧ ∃ u1 u2 u3 : Int32, ∃ u4 : Int64, ∃ u5 u6 o1 : Int32, ∃ (o2 : Nat → Int64) (o3 : Nat → Int32), ∃ y1 y2 y3 y4 y5 y6 y7 : Int32, ∃ y8 : Int64, ∃ (c' : Nat → Int32) (wds' : Nat → Int64), ∃ r z1 z2 z3 z4 z5 : Int32, ∃ z6 : Int64,
      f_X2_takePage fu (nI E) (nI nx) (nI kd) (nI pl) wd (kI kk) nu fk fp K tp (nI (σ 0)) (nI (σ 1)) (nI (σ 2)) cn pn (aR rm σ) sn = some (nI 0, u1, u2, u3, u4, u5, u6, nI k, nI p, o1, o2, o3) ∧
      f_X12_readPage fu (nI E) (nI 0) ba (nI kd) (nI pl) (nI nx) nu2 le wd2 (mk4 c σ) tq wds = some (y1, y2, y3, y4, y5, y6, y7, y8, c', wds') ∧
      (∀ i, i < 1560 → c' i = c i) ∧ (∀ i, i < 80 → wds' i = wds i) ∧
      f_X12_isSign (nI 59) y3 y6 = some r ∧ f_X12_must fu r (nI E) y1 y2 y3 y4 y5 y6 y7 y8 tq = some (nI k, nI p, z1, z2, z3, z4, z5, z6)) := by
  have hT := T.1
  obtain ⟨⟨h0, h1, h2, h3⟩, -⟩ := id w
  have q0 : mk4 c σ 1560 = nI (σ 0) := mk4_in (i := 0) (by omega)
  have q1 : mk4 c σ 1561 = nI (σ 1) := mk4_in (i := 1) (by omega)
  have q2 : mk4 c σ 1562 = nI (σ 2) := mk4_in (i := 2) (by omega)
  have lowu : ∀ (g : Nat → Int32) (a : Nat) (x : Int32), 1560 ≤ a → (∀ i, i < 1560 → g i = c i) → ∀ i, i < 1560 → upd g a x i = c i := fun g a x ha hg i hi => by
    show (if i = a then x else g i) = c i
    rw [if_neg (by omega)]; exact hg i hi
  have low0 : ∀ i, i < 1560 → mk4 c σ i = c i := fun i hi => mk4_lo hi
  unfold f_X2_takePage f_X12_readPage
  by_cases e6 : σ 2 < 6
  · rw [if_pos (show nI (σ 2) < nI 6 by rw [nI_lt' (by omega) (by omega)]; exact e6)]
    obtain ⟨z1, z2, z3, z4, z5, z6, f1, f2⟩ := r_new (fu := fu) (ba := ba) (fk := fk) (fp := fp) (s := 2) (n := σ 2) (most := 6) (c := mk4 c σ) h hK T (by omega) q2 e6 rfl h0 h1 h2 q0 q1 q2 hN hfu
    rw [f1, bd_s]
    rcases f2 with ⟨w', pl1, nx1, kd1, kk1, wd1, nu1, nu21, le1, wd21, a1, a2, T1, a4, a5⟩ | ⟨k, p, b1, b2, u1, u2, u3, u4, u5, u6, w1, w2, w3, w4, w5, w6, b3, b4⟩
    · simp only [a4, a5, bd_s]
      have hcx : ∀ {α : Type} (x y : α), (if lg_cmp w' (-1 : Int64) = 0 then x else y) = y := fun x y => if_neg (by rw [lg_eq0]; exact a2)
      rw [hcx, m_isRoom T1, bd_s]
      rcases r_last (fu := fu) (ba := ba) (fk := fk) (fp := fp) (w := 7) (lo := 0) (hi := 60) h hK T1 (by omega) (by omega) (by omega) hfu with ⟨v, y1, y2, y3, y4, y5, y6, r, pl', nx', kd', kk', wd', nu', nu2', le', wd2', d1, d2, d3, T', d5, d6, d7, d8⟩ | ⟨k, p, b1, b2, u1, u2, u3, u4, u5, u6, v, y1, y2, y3, y4, y5, y6, y7, y8, r, x1, x2, x3, x4, x5, x6, d5, d6, d7, d8⟩
      · have t1 := T1.1
        refine Or.inl ⟨up (up σ (55 + σ 2) v) 2 (σ 2 + 1), vp_updL pn (σ 2) w', vp_updL wds (80 + fr 2 + σ 2) w', y1, y2, y3, y4, y5, y6, r, pl', nx', kd', kk', wd', nu', nu2', le', wd2', by omega, T', ?_, ?_, d7, d8, wd_page w e6 d2, ?_, fun i hi1 hi2 => by rw [up_n _ _ hi1, up_n _ _ (by omega)], fun i hi => if_neg (by rw [fr2]; omega)⟩
        · rw [d5, bd_s]
          simp only
          unfold f_X2_takePage_47 f_X1_addPage
          rw [if_neg (show ¬ nI v = (-1 : Int32) by rw [nI_ne_m1 (by omega)]; exact id)]
          simp (disch := omega) only [gi_n, nI_cl, nI_add, lt_, bd_s, aR_page, up_s]
        · rw [d6, bd_s]
          simp (disch := omega) only [nI_add, gi_n, nI_cl, nI_eq0, if_true, lt_, mk4_up, mk4_at, Nat.reduceSub]
          rw [show 1615 + σ 2 - 1560 = 55 + σ 2 by omega, up_n _ _ (by omega)]
        · obtain ⟨n0, n1, n2⟩ := hN
          have e0 : up (up σ (55 + σ 2) v) 2 (σ 2 + 1) 0 = σ 0 := by rw [up_n _ _ (by omega), up_n _ _ (by omega)]
          have e1 : up (up σ (55 + σ 2) v) 2 (σ 2 + 1) 1 = σ 1 := by rw [up_n _ _ (by omega), up_n _ _ (by omega)]
          rw [e0, e1, up_s]
          refine ⟨fun k hk => ?_, fun k hk => ?_, fun k hk => ?_⟩
          · rw [n0 k hk]
            exact (if_neg (by rw [fr0, fr2]; omega)).symm
          · rw [n1 k hk]
            exact (if_neg (by rw [fr1, fr2]; omega)).symm
          · show (if k = σ 2 then w' else pn k) = (if 20 * 4 + fr 2 + k = 80 + fr 2 + σ 2 then w' else wds (20 * 4 + fr 2 + k))
            by_cases e : k = σ 2
            · rw [if_pos e, if_pos (by omega)]
            · rw [if_neg e, if_neg (by omega)]
              exact n2 k (by omega)
      · refine Or.inr ⟨k, p, b1, b2, u1, u2, u3, u4, u5, u6, nI (σ 2), pn, aR rm σ, y1, y2, y3, y4, y5, y6, y7, y8, (if y1 = 0 then upd (upd (mk4 c σ) (1615 + σ 2) v) 1562 (upd (mk4 c σ) (1615 + σ 2) v 1562 + nI 1) else upd (mk4 c σ) (1615 + σ 2) v), vp_updL wds (80 + fr 2 + σ 2) w', r, x1, x2, x3, x4, x5, x6, ?_, ?_, ?_, fun i hi => if_neg (by rw [fr2]; omega), d7, d8⟩
        · rw [d5, bd_s]
          simp only
          unfold f_X2_takePage_47
          rw [if_pos rfl]
        · rw [d6, bd_s]
          simp (disch := omega) only [nI_add, gi_n, nI_cl, lt_]
          split <;> rfl
        · intro i hi
          split
          · exact lowu _ _ _ (by omega) (lowu _ _ _ (by omega) low0) i hi
          · exact lowu _ _ _ (by omega) low0 i hi
    · simp only [b3, b4, bd_s]
      have hcx : ∀ {α : Type} (x y : α), (if lg_cmp (-1 : Int64) (-1 : Int64) = 0 then x else y) = x := fun x y => if_pos (by decide)
      obtain ⟨r1, hr1⟩ : ∃ r1, f_X12_isRoom w1 w6 = some r1 := by
        unfold f_X12_isRoom f_X12_isWord
        rw [sp_7, bd_s]
        split
        · split
          · exact ⟨_, rfl⟩
          · exact ⟨_, rfl⟩
        · exact ⟨_, rfl⟩
      obtain ⟨r2, hr2⟩ := is_some w1 w4
      refine Or.inr ⟨k, p, b1, b2, u1, u2, u3, u4, u5, u6, nI (σ 2), pn, aR rm σ, nI k, nI p, w1, w2, w3, w4, w5, w6, upd (mk4 c σ) 1615 (nI 0), wds, r2, w1, w2, w3, w4, w5, w6, ?_, ?_, lowu _ _ _ (by omega) low0, fun _ _ => rfl, hr2, b_must b1 b2⟩
      · rw [hcx]
        unfold f_X2_takePage_47
        rw [if_pos rfl]
      · rw [hr1, bd_s, b_behind b1 b2, bd_s]
        simp (disch := omega) only [nI_add, gi_n, nI_cl]
        rw [if_neg (b_eq b1 b2)]
  · obtain ⟨r2, hr2⟩ := is_some (nI kd) nu2
    have e7 : σ 2 = 6 := by omega
    rw [if_neg (show ¬ nI (σ 2) < nI 6 by rw [nI_lt' (by omega) (by omega)]; exact e6)]
    refine Or.inr ⟨6, pl, by omega, by omega, nI nx, nI kd, nI pl, wd, kI kk, nu, nI (σ 2), pn, aR rm σ, nI 6, nI pl, nI kd, nI pl, nI nx, nu2, le, wd2, upd (mk4 c σ) 1615 (nI 0), wds, r2, nI kd, nI pl, nI nx, nu2, le, wd2, ?_, ?_, lowu _ _ _ (by omega) low0, fun _ _ => rfl, hr2, b_must (by omega) (by omega)⟩
    · rw [c_fail (by omega), bd_s, ofK_1 hkd]
      exact gd_0 _
    · unfold f_X12_readNew
      simp (disch := omega) only [nI_add, gi_n, nI_cl, q2, lt_]
      rw [if_pos (show nI (σ 2) = nI 6 by rw [e7]), m_fail0, bd_s]
      show bd_ (f_X12_readNew_26 fu (nI E) (mk4 c σ) tq (nI 2) (nI (σ 2)) (nI 6) (nI pl) (nI kd) (nI pl) (nI nx) nu2 le wd2 wds) _ = _
      unfold f_X12_readNew_26
      rw [if_neg (b_le (k := 6) (by omega) (by omega)), bd_s]
      simp only
      rw [m_isRoom T, bd_s, b_behind (by omega) (by omega), bd_s]
      simp (disch := omega) only [nI_add, gi_n, nI_cl]
      rw [if_neg (b_eq (k := 6) (by omega) (by omega))]
end PG
