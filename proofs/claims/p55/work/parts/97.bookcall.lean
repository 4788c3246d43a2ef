/-! book(n) on both sides -/
section BC
variable {fu E : Nat} {K : Nat → Int64} {tp tq : Nat → Int32} {σ : Nat → Nat} {cn sn pn : Nat → Int64} {od : Nat → Int32} {Q : Nat → Nat → Int32} {x1 x2 x3 x5 x6 fk fp : Int32} {x4 : Int64} {o : Nat}
theorem c_163 (h : WD σ) (ho : o ≤ 1) (hfu : 100 < fu) : ∃ od', t163 fu E K tp (nI 1) (nI o) x1 x2 x3 x4 x5 x6 fk fp σ cn sn pn od Q
    = some (nI 1, nI o, x1, x2, x3, x4, x5, x6, fk, fp, nI (sFin σ o 0), nI (sFin σ o 1), nI (sFin σ o 2), nI (sB (sFin σ o)), nI (sR (sFin σ o)), cn, aL (Q 0) (sFin σ o), nI (sFin σ o 3), nI 0, nI 0, nI 0, nI 0, nI 0, Q 6, aK (Q 1) (sFin σ o), Q 7, aO od' (sFin σ o), aX (Q 3) (sFin σ o), Q 8, Q 9, pn, aR (Q 4) (sFin σ o), nI 0, nI 0, nI 0, sn, aP (Q 5) (sFin σ o)) := by
  obtain ⟨⟨h0, h1, h2, h3⟩, -⟩ := id h
  have n : ∀ i, i ≠ 3 → ¬ (67 ≤ i ∧ i < 75) → sFin σ o i = σ i := fun i a b => fin_ne a b h0
  unfold t163 f_X2_take_163
  rw [if_neg (show ¬ nI 1 = 0 by decide), n 0 (by omega) (by omega), n 1 (by omega) (by omega), n 2 (by omega) (by omega), sBq (σ := σ) (τ := sFin σ o) (fun j _ _ => n j (by omega) (by omega)), sRq (σ := σ) (τ := sFin σ o) (fun j _ _ => n j (by omega) (by omega)), aLq (b := Q 0) (n 1 (by omega) (by omega)) h1 (fun j _ _ => n j (by omega) (by omega)), aK_c (b := Q 1) (σ := sFin σ o) (τ := σ) (fun j _ _ => n j (by omega) (by omega)), aXq (b := Q 3) (fun j _ _ => n j (by omega) (by omega)), aRq (b := Q 4) (n 2 (by omega) (by omega)) h2 (fun j _ _ => n j (by omega) (by omega)), aPq (b := Q 5) (n 0 (by omega) (by omega)) h0 (fun j _ _ => n j (by omega) (by omega))]
  by_cases e : o = 0
  · subst e
    rw [if_pos (show nI 0 = 0 from rfl), c_orderAll h hfu, bd_s]
    exact ⟨aO od σ, gd_1 _⟩
  · have e1 : o = 1 := by omega
    subst e1
    have ef : sFin σ 1 = σ := if_neg (by omega)
    rw [if_neg (show ¬ nI 1 = 0 by decide), ef]
    exact ⟨od, gd_1 _⟩
end BC
section BD
variable {d1 d2 d3 d4 d5 d8 d9 d10 d11 d12 d13 d23 d24 d25 : Int32} {d6 d21 d30 : Nat → Int64} {d7 d14 d15 d16 d17 d18 d19 d20 d22 d26 d27 d28 d29 d31 : Nat → Int32} {fu : Nat} {K : Nat → Int64} {tp tq : Nat → Int32} {e1 e2 e3 e4 e6 e7 e8 e9 ord : Int32} {e5 : Int64}
theorem take_0 {E : Nat} (hfu : 100 < fu) : f_X2_take fu ord (nI E) e2 e3 e4 e5 e6 e7 e8 e9 K tp d1 d2 d3 d4 d5 d6 d7 d8 d9 d10 d11 d12 d13 d14 d15 d16 d17 d18 d19 d20 d21 d22 d23 d24 d25 d30 d31 = t14 fu E K tp fu (nI 1) (nI 0) (nI 0) e2 e3 e4 e5 e6 e7 e8 e9 (fun _ => 0) d6 d30 d21 d17 (fun i => match i with | 0 => d7 | 1 => d15 | 3 => d18 | 4 => d22 | 5 => d31 | 6 => mkF d14 36 (fun _ => 0) | 7 => mkF d16 8 (fun _ => 0) | 8 => mkF d19 6 (fun _ => 0) | _ => mkF d20 6 (fun _ => 0)) := by
  unfold f_X2_take f_X1_clear f_X7_clear f_X5_clear
  rw [c_fillI (by omega) hfu, bd_s, c_fillI (by omega) hfu, bd_s, c_fillI (by omega) hfu, bd_s, c_fillI (by omega) hfu, bd_s, c_fillI (by omega) hfu, bd_s, c_fillI (by omega) hfu, bd_s, bd_s]
  rfl
end BD
theorem wd_0 : WD (fun _ => 0) := ⟨⟨Nat.zero_le _, Nat.zero_le _, Nat.zero_le _, Nat.zero_le _⟩, fun k _ => ⟨Nat.zero_le _, Nat.zero_le _, Nat.zero_le _, Nat.zero_lt_succ 63, fun _ => ⟨rfl, rfl, rfl⟩⟩, fun s _ => ⟨Nat.zero_le _, fun h => absurd h (Nat.not_lt_zero s)⟩, fun p _ => ⟨Nat.zero_le _, Nat.zero_le _⟩, fun i h => absurd h (Nat.not_lt_zero i), fun i _ h => absurd h (Nat.not_lt_zero i), fun _ _ => rfl⟩
/-- the block NEW, all 0 -/
def cZ (c : Nat → Int32) (n : Nat) : Nat → Int32 := fun i => if 1560 ≤ i ∧ i < 1560 + n then nI 0 else c i
theorem m_zero {fu : Nat} {tq c : Nat → Int32} {W : Nat → Int64} {s th ta e f1 f2 bd ba y1 y2 y3 y4 y5 ot : Int32} {y6 : Int64} (hfu : 1000 < fu) : f_X12_book_25 fu tq fu (nI 0) s th ta e f1 f2 bd ba y1 y2 y3 y4 y5 y6 ot c W = f_X12_book_54 fu tq fu s th ta e f1 f2 bd ba y1 y2 y3 y4 y5 y6 (nI 0) (mk4 (cZ c 390) (fun _ => 0)) W := by
  have e0 : cZ c 0 = c := by funext i; exact if_neg (by omega)
  have e4 : mk4 (cZ c 390) (fun _ => 0) = cZ c 390 := by
    funext i
    unfold mk4
    by_cases h : 1560 ≤ i ∧ i < 1671
    · rw [if_pos h]
      unfold cZ
      rw [if_pos (by omega)]
    · rw [if_neg h]
  rw [e4]
  have := loop_p (fun n j => f_X12_book_25 fu tq n (nI j) s th ta e f1 f2 bd ba y1 y2 y3 y4 y5 y6 ot (cZ c j) W) 390 (f_X12_book_54 fu tq fu s th ta e f1 f2 bd ba y1 y2 y3 y4 y5 y6 (nI 0) (cZ c 390) W) (by
    intro n j hj
    have e1 : upd (cZ c j) (1560 + j) (nI 0) = cZ c (j + 1) := by
      funext i
      unfold upd cZ
      by_cases h : i = 1560 + j
      · rw [if_pos h, if_pos (by omega)]
      · rw [if_neg h]
        by_cases h2 : 1560 ≤ i ∧ i < 1560 + j
        · rw [if_pos h2, if_pos (by omega)]
        · rw [if_neg h2, if_neg (by omega)]
    simp (disch := omega) only [f_X12_book_25, nI_le', if_neg, nI_add, gi_n, nI_cl, lt_, e1]) (by
    intro n
    simp (disch := omega) only [f_X12_book_25, nI_le', if_pos]) 390 0 fu (by omega) (by omega)
  rw [e0] at this
  exact this
section BE
variable {b1 b2 b3 b4 b5 b8 b9 b10 b11 b12 b13 b23 b24 b25 d1 d2 d3 d4 d5 d8 d9 d10 d11 d12 d13 d23 d24 d25 : Int32} {b6 b21 b30 d6 d21 d30 : Nat → Int64} {b7 b14 b15 b16 b17 b18 b19 b20 b22 b26 b27 b28 b29 b31 d7 d14 d15 d16 d17 d18 d19 d20 d22 d26 d27 d28 d29 d31 : Nat → Int32} {fu T : Nat} {K : Nat → Int64} {tp tq c : Nat → Int32} {W : Nat → Int64} {n st st2 th ord e1 e2 e3 e4 e6 e7 e8 e9 m1 m4 m5 m6 m7 m8 m9 m10 m12 : Int32} {e5 m11 : Int64}
set_option maxRecDepth 100000 in
set_option maxHeartbeats 4000000 in
theorem r_book (hK : ∀ k, k < 24 → K k = lN (KEY k)) (hT : TpRel T tp tq) (hb : BKb b1 b2 b3 b4 b5 b6 b7 b8 b9 b10 b11 b12 b13 b14 b15 b16 b17 b18 b19 b20 b21 b22 b23 b24 b25 b26 b27 b28 b29 b30 b31 0 c W) (hfu : 4000 < fu) :
    ∃ (r s : Int32), ∃ T' : Nat, ∃ p1 p2 p3 p4 p5 p6 p7 p8 p9 p10 p11 p12 p13 p14 p15 p16 p17 p18 p19 p20 p21 p22 p23 p24 p25 p26 p27 p28 p29 p30 p31, ∃ ord', ∃ q1 q2 q3 q4 q5 q6 q7 q8 q9 q10 q11 q12 q13 q14 q15 q16 q17 q18 q19 q20 q21 q22 q23 q24 q25 q30 q31, ∃ e1' e2' e3' e4' e5' e6' e7' e8' e9' m1' m4' m5' m6' m7' m8' m9' m10' m11' m12' c' W',
      f_X11_book fu n st b1 b2 b3 b4 b5 b6 b7 b8 b9 b10 b11 b12 b13 b14 b15 b16 b17 b18 b19 b20 b21 b22 b23 b24 b25 b26 b27 b28 b29 b30 b31 ord d1 d2 d3 d4 d5 d6 d7 d8 d9 d10 d11 d12 d13 d14 d15 d16 d17 d18 d19 d20 d21 d22 d23 d24 d25 d26 d27 d28 d29 d30 d31 (nI T) e1 e2 e3 e4 e5 e6 e7 e8 e9 K tp = some (r, s, p1, p2, p3, p4, p5, p6, p7, p8, p9, p10, p11, p12, p13, p14, p15, p16, p17, p18, p19, p20, p21, p22, p23, p24, p25, p26, p27, p28, p29, p30, p31, ord', q1, q2, q3, q4, q5, q6, q7, q8, q9, q10, q11, q12, q13, q14, q15, q16, q17, q18, q19, q20, q21, q22, q23, q24, q25, q30, q31, nI T', e1', e2', e3', e4', e5', e6', e7', e8', e9') ∧
      f_X12_book fu n st2 th (nI T) m1 e8 e9 m4 m5 m6 m7 m8 m9 m10 m11 m12 c tq W = some (r, s, nI 0, nI T', m1', e8', e9', m4', m5', m6', m7', m8', m9', m10', m11', m12', c', W') ∧
      BKb p1 p2 p3 p4 p5 p6 p7 p8 p9 p10 p11 p12 p13 p14 p15 p16 p17 p18 p19 p20 p21 p22 p23 p24 p25 p26 p27 p28 p29 p30 p31 0 c' W' ∧ T' ≤ T ∧ (∀ i, 390 ≤ i → i < 1560 → c' i = c i) ∧ (∀ i, 20 ≤ i → i < 80 → W' i = W i) := by
  have hT9 := hT.1
  unfold f_X11_book f_X8_begin f_X12_book
  by_cases hn0 : n < 0
  · have hst : f_X12_starts fu n (nI 900) (nI 0) (nI T) m1 m4 m6 m7 m8 m9 m10 m11 tq = some (nI 0, nI 5, nI T, m1, m4, m6, m7, m8, m9, m10, m11) := by
      unfold f_X12_starts
      rw [if_pos hn0, no12, bd_s]
      exact gd_0 _
    rw [if_pos hn0, bd_s, hst, bd_s]
    simp only
    rw [if_pos (show nI 0 = 0 from rfl), ref11, bd_s, if_pos (show nI 0 = 0 from rfl)]
    exact ⟨_, _, T, _, _, _, _, _, _, _, _, _, _, _, _, _, _, _, _, _, _, _, _, _, _, _, _, _, _, _, _, _, _, _, _, _, _, _, _, _, _, _, _, _, _, _, _, _, _, _, _, _, _, _, _, _, _, _, _, _, _, _, _, _, _, _, _, _, _, _, _, _, _, _, _, _, _, _, _, _, _, c, W, rfl, rfl, hb, Nat.le_refl _, fun _ _ _ => rfl, fun _ _ _ => rfl⟩
  · rw [if_neg hn0]
    obtain ⟨E, hE31, rfl⟩ := nI_of hn0
    by_cases hET : E ≤ T
    · obtain ⟨B, hX⟩ := tx_of hT hET
      obtain ⟨pl, nx, kd, kk, wd, nu, nu2, le, wd2, h1, TT, h3, h4⟩ := tk_next (fu := fu) hX hK (a := 0) (by omega) (by omega) e3 e4 e5 e6 e7 m6 m7 m9 m10 m11
      unfold f_X12_starts
      rw [if_neg hn0, if_pos (show nI E ≤ nI T by rw [nI_le' (by omega) (by omega)]; exact hET), if_neg (show ¬ nI T < nI E by rw [nI_lt' (by omega) (by omega)]; omega), if_pos (show nI E ≤ nI 900 by rw [nI_le' (by omega) (by omega)]; omega), h3, h4, bd_s, bd_s, bd_s, bd_s]
      simp only
      rw [if_neg (show ¬ nI 1 = 0 by decide), if_neg (show ¬ nI 1 = 0 by decide), take_0 (by omega), m_zero (by omega)]
      obtain ⟨σ, hB, hσ⟩ := id hb
      have low : ∀ i, i < 1560 → cZ c 390 i = c i := fun i hi => if_neg (by omega)
      rcases book_G (c := cZ c 390) hX hK (show 2000 < fu by omega) (nI 0) (-1 : Int32) m5 (fun i => match i with | 0 => d7 | 1 => d15 | 3 => d18 | 4 => d22 | 5 => d31 | 6 => mkF d14 36 (fun _ => 0) | 7 => mkF d16 8 (fun _ => 0) | 8 => mkF d19 6 (fun _ => 0) | _ => mkF d20 6 (fun _ => 0)) E pl nx kd kk wd wd2 nu nu2 le fu fu 0 0 (fun _ => 0) d6 d30 d21 W d17 (by omega) (by omega) (by omega) (by omega) (by omega) wd_0 ⟨fun k hk => absurd hk (Nat.not_lt_zero k), fun k hk => absurd hk (Nat.not_lt_zero k), fun k hk => absurd hk (Nat.not_lt_zero k)⟩ TT with ⟨σ', od', cn', sn', pn', W', o', x1, x2, x3, x4, x5, x6, y1, y2, y3, y4, y5, y6, g1, g2, g3, g4, g5, g6⟩ | ⟨k, p, k1, k2, ⟨oo, g1, g2, g3, g4⟩, w1, w2, w3, w4, w5, w6, w7, c', W', g5, g6, g7⟩
      · obtain ⟨od2, hF⟩ := c_163 (fu := fu) (E := E) (K := K) (tp := tp) (cn := cn') (sn := sn') (pn := pn') (od := od') (x1 := x1) (x2 := x2) (x3 := x3) (x4 := x4) (x5 := x5) (x6 := x6) (fk := nI 0) (fp := (-1 : Int32)) (Q := (fun i => match i with | 0 => d7 | 1 => d15 | 3 => d18 | 4 => d22 | 5 => d31 | 6 => mkF d14 36 (fun _ => 0) | 7 => mkF d16 8 (fun _ => 0) | 8 => mkF d19 6 (fun _ => 0) | _ => mkF d20 6 (fun _ => 0))) g3 g5 (by omega)
        have hw := wd_fin (o := o') g3
        have h0' := g3.1.1
        have hz := hw.2.2.2.2.2.2
        have n : ∀ i, i ≠ 3 → ¬ (67 ≤ i ∧ i < 75) → sFin σ' o' i = σ' i := fun i a b => fin_ne a b h0'
        rw [g1, hF, bd_s, g2, m_180 g3 g5 (by omega)]
        simp only
        rw [show f_X8_empty (nI T) = some (nI 0) from rfl, bd_s, if_neg (show ¬ nI 1 = 0 by decide)]
        have hD : BK (nI (sFin σ' o' 0)) (nI (sFin σ' o' 1)) (nI (sFin σ' o' 2)) (nI (sB (sFin σ' o'))) (nI (sR (sFin σ' o'))) cn' (aL d7 (sFin σ' o')) (nI (sFin σ' o' 3)) (nI 0) (nI 0) (nI 0) (nI 0) (nI 0) (mkF d14 36 (fun _ => 0)) (aK d15 (sFin σ' o')) (mkF d16 8 (fun _ => 0)) (aO od2 (sFin σ' o')) (aX d18 (sFin σ' o')) (mkF d19 6 (fun _ => 0)) (mkF d20 6 (fun _ => 0)) pn' (aR d22 (sFin σ' o')) (nI 0) (nI 0) (nI 0) d26 d27 d28 d29 sn' (aP d31 (sFin σ' o')) (sFin σ' o') (fun i => mk4 (cZ c 390) (sFin σ' o') (390 * 4 + i)) (fun i => W' (20 * 4 + i)) := by
          refine ⟨hw.wf, by rw [hz 4 (by omega)]; omega, ⟨rfl, rfl, rfl, rfl, rfl⟩, ⟨rfl, by rw [hz 8 (by omega)], by rw [hz 6 (by omega)], by rw [hz 7 (by omega)], by rw [hz 4 (by omega)], by rw [hz 5 (by omega)]⟩, ⟨⟨_, rfl⟩, ⟨d14, z_D hw⟩, ⟨_, rfl⟩, ⟨d16, z_M hw⟩, ⟨_, rfl⟩, ⟨_, rfl⟩, ⟨d19, z_S hw⟩, ⟨d20, z_U hw⟩, ⟨_, rfl⟩, ⟨_, rfl⟩⟩, ⟨fun k hk => ?_, fun k hk => ?_, fun k hk => ?_⟩, 0, 0, by omega, by omega, rfl, rfl, Or.inl ⟨rfl, ?_⟩⟩
          · rw [n 0 (by omega) (by omega)] at hk
            rw [g4.1 k hk, fr0]
            exact congrArg W' (Nat.add_assoc _ _ _)
          · rw [n 1 (by omega) (by omega)] at hk
            rw [g4.2.1 k hk, fr1]
            exact congrArg W' (Nat.add_assoc _ _ _)
          · rw [n 2 (by omega) (by omega)] at hk
            rw [g4.2.2 k hk, fr2]
            exact congrArg W' (Nat.add_assoc _ _ _)
          · show mk4 (cZ c 390) (sFin σ' o') 1671 = nI 0
            unfold mk4
            rw [if_neg (by omega)]
            exact if_pos (by omega)
        obtain ⟨o1, o2, o3, o4, o5, o6, o7, o8, o9, o10, o11, o12, o13, o14, o15, o16, o17, o18, o19, o20, o21, o22, o23, o24, o25, o26, o27, o28, o29, o30, o31, ho, ho1, hB2⟩ := c_copyBook (q1 := b1) (q2 := b2) (q3 := b3) (q4 := b4) (q5 := b5) (q6 := b6) (q7 := b7) (q8 := b8) (q9 := b9) (q10 := b10) (q11 := b11) (q12 := b12) (q13 := b13) (q14 := b14) (q15 := b15) (q16 := b16) (q17 := b17) (q18 := b18) (q19 := b19) (q20 := b20) (q21 := b21) (q22 := b22) (q23 := b23) (q24 := b24) (q25 := b25) (q26 := b26) (q27 := b27) (q28 := b28) (q29 := b29) (q30 := b30) (q31 := b31) hD
        rw [ho, bd_s]
        simp only
        rw [ans11, bd_s]
        have hc0 : nI (σ' 0) = o1 := by rw [ho1, n 0 (by omega) (by omega)]
        rw [hc0]
        refine ⟨_, _, 0, _, _, _, _, _, _, _, _, _, _, _, _, _, _, _, _, _, _, _, _, _, _, _, _, _, _, _, _, _, _, _, _, _, _, _, _, _, _, _, _, _, _, _, _, _, _, _, _, _, _, _, _, _, _, _, _, _, _, _, _, _, _, _, _, _, _, _, _, _, _, _, _, _, _, _, _, _, _, _, _, rfl, rfl, bkb_new hB2 (fun i hi => mk4_in hi), by omega, fun i h1 h2 => ?_, fun i h1 h2 => ?_⟩
        · show (if 390 * 0 ≤ i ∧ i < 390 * 0 + 390 then _ else mk4 (cZ c 390) (sFin σ' o') i) = c i
          rw [if_neg (by omega), mk4_lo h2, low i h2]
        · show (if 20 * 0 ≤ i ∧ i < 20 * 0 + 20 then _ else W' i) = W i
          rw [if_neg (by omega), g6 i h2]
      · obtain ⟨a1, a2, a3, a4, a5, a6, a7, a8, a9, a10, a11, a12, a13, a14, a15, a16, a17, a18, a19, a20, a21, a22, a23, a24, a25, a26, a27, a28, a29, a30, a31, a32, a33, a34, a35, a36, a37⟩ := oo
        replace g2 : a1 = nI 0 := g2
        replace g3 : a9 = nI k := g3
        replace g4 : a10 = nI p := g4
        subst g2 g3 g4
        rw [g1, bd_s, g5]
        simp only
        rw [show f_X8_empty (nI T) = some (nI 0) from rfl, bd_s, if_pos (show nI 0 = 0 from rfl), ref11, bd_s]
        exact ⟨_, _, 0, _, _, _, _, _, _, _, _, _, _, _, _, _, _, _, _, _, _, _, _, _, _, _, _, _, _, _, _, _, _, _, _, _, _, _, _, _, _, _, _, _, _, _, _, _, _, _, _, _, _, _, _, _, _, _, _, _, _, _, _, _, _, _, _, _, _, _, _, _, _, _, _, _, _, _, _, _, _, c', W', rfl, rfl, bkb_congr hb (fun i hi => by rw [g6 _ (by omega), low _ (by omega)]) (fun i hi => by rw [g7 _ (by omega)]), by omega, fun i h1 h2 => by rw [g6 i h2, low i h2], fun i h1 h2 => g7 i h2⟩
    · have hst : f_X12_starts fu (nI E) (nI 900) (nI 0) (nI T) m1 m4 m6 m7 m8 m9 m10 m11 tq = some (nI 0, nI 5, nI T, m1, m4, m6, m7, m8, m9, m10, m11) := by
        unfold f_X12_starts
        rw [if_neg hn0, if_pos (show nI T < nI E by rw [nI_lt' (by omega) (by omega)]; omega), no12, bd_s]
        exact gd_0 _
      rw [if_neg (show ¬ nI E ≤ nI T by rw [nI_le' (by omega) (by omega)]; exact hET), bd_s, hst, bd_s]
      simp only
      rw [if_pos (show nI 0 = 0 from rfl), ref11, bd_s, if_pos (show nI 0 = 0 from rfl)]
      exact ⟨_, _, T, _, _, _, _, _, _, _, _, _, _, _, _, _, _, _, _, _, _, _, _, _, _, _, _, _, _, _, _, _, _, _, _, _, _, _, _, _, _, _, _, _, _, _, _, _, _, _, _, _, _, _, _, _, _, _, _, _, _, _, _, _, _, _, _, _, _, _, _, _, _, _, _, _, _, _, _, _, _, c, W, rfl, rfl, hb, Nat.le_refl _, fun _ _ _ => rfl, fun _ _ _ => rfl⟩
end BE
