/-! MARKS: mark, back -/
def BKb (x1 : Int32) (x2 : Int32) (x3 : Int32) (x4 : Int32) (x5 : Int32) (x6 : Nat → Int64) (x7 : Nat → Int32) (x8 : Int32) (x9 : Int32) (x10 : Int32) (x11 : Int32) (x12 : Int32) (x13 : Int32) (x14 : Nat → Int32) (x15 : Nat → Int32) (x16 : Nat → Int32) (x17 : Nat → Int32) (x18 : Nat → Int32) (x19 : Nat → Int32) (x20 : Nat → Int32) (x21 : Nat → Int64) (x22 : Nat → Int32) (x23 : Int32) (x24 : Int32) (x25 : Int32) (x26 : Nat → Int32) (x27 : Nat → Int32) (x28 : Nat → Int32) (x29 : Nat → Int32) (x30 : Nat → Int64) (x31 : Nat → Int32) (b : Nat) (c : Nat → Int32) (W : Nat → Int64) : Prop := ∃ σ, BK x1 x2 x3 x4 x5 x6 x7 x8 x9 x10 x11 x12 x13 x14 x15 x16 x17 x18 x19 x20 x21 x22 x23 x24 x25 x26 x27 x28 x29 x30 x31 σ (fun i => c (390 * b + i)) (fun i => W (20 * b + i)) ∧ ∀ i, i < 111 → c (390 * b + i) = nI (σ i)
section MB
variable {x1 x2 x3 x4 x5 x8 x9 x10 x11 x12 x13 x23 x24 x25 : Int32} {x6 x21 x30 : Nat → Int64} {x7 x14 x15 x16 x17 x18 x19 x20 x22 x26 x27 x28 x29 x31 : Nat → Int32} {c c' : Nat → Int32} {W W' : Nat → Int64} {a b d : Nat} {σ : Nat → Nat}
theorem bkb_congr (h : BKb x1 x2 x3 x4 x5 x6 x7 x8 x9 x10 x11 x12 x13 x14 x15 x16 x17 x18 x19 x20 x21 x22 x23 x24 x25 x26 x27 x28 x29 x30 x31 d c W) (hc : ∀ i, i < 390 → c' (390 * d + i) = c (390 * d + i)) (hW : ∀ i, i < 20 → W' (20 * d + i) = W (20 * d + i)) : BKb x1 x2 x3 x4 x5 x6 x7 x8 x9 x10 x11 x12 x13 x14 x15 x16 x17 x18 x19 x20 x21 x22 x23 x24 x25 x26 x27 x28 x29 x30 x31 d c' W' := by
  obtain ⟨σ, h1, h2⟩ := h
  exact ⟨σ, BK_congr h1 (fun i _ hi => hc i hi) (fun i hi => hW i hi), fun i hi => by rw [hc i (by omega)]; exact h2 i hi⟩
theorem bkb_new (h : BK x1 x2 x3 x4 x5 x6 x7 x8 x9 x10 x11 x12 x13 x14 x15 x16 x17 x18 x19 x20 x21 x22 x23 x24 x25 x26 x27 x28 x29 x30 x31 σ (fun i => c (390 * a + i)) (fun i => W (20 * a + i))) (hσ : ∀ i, i < 111 → c (390 * a + i) = nI (σ i)) : BKb x1 x2 x3 x4 x5 x6 x7 x8 x9 x10 x11 x12 x13 x14 x15 x16 x17 x18 x19 x20 x21 x22 x23 x24 x25 x26 x27 x28 x29 x30 x31 b (cpC c a b 390) (cpW W a b 20) := by
  have e : ∀ i, i < 390 → cpC c a b 390 (390 * b + i) = c (390 * a + i) := fun i hi => by
    unfold cpC
    rw [if_pos (by omega), Nat.add_sub_cancel_left]
  have eW : ∀ i, i < 20 → cpW W a b 20 (20 * b + i) = W (20 * a + i) := fun i hi => by
    unfold cpW
    rw [if_pos (by omega), Nat.add_sub_cancel_left]
  exact ⟨σ, BK_congr h (fun i _ hi => e i hi) (fun i hi => eW i hi), fun i hi => by rw [e i (by omega)]; exact hσ i hi⟩
theorem bkb_keep (hd : d ≠ b) (h : BKb x1 x2 x3 x4 x5 x6 x7 x8 x9 x10 x11 x12 x13 x14 x15 x16 x17 x18 x19 x20 x21 x22 x23 x24 x25 x26 x27 x28 x29 x30 x31 d c W) : BKb x1 x2 x3 x4 x5 x6 x7 x8 x9 x10 x11 x12 x13 x14 x15 x16 x17 x18 x19 x20 x21 x22 x23 x24 x25 x26 x27 x28 x29 x30 x31 d (cpC c a b 390) (cpW W a b 20) :=
  bkb_congr h (fun i hi => if_neg (fun q => hd (by omega))) (fun i hi => if_neg (fun q => hd (by omega)))
end MB
section MM
variable {b1 b2 b3 b4 b5 b8 b9 b10 b11 b12 b13 b23 b24 b25 x1 x2 x3 x4 x5 x8 x9 x10 x11 x12 x13 x23 x24 x25 y1 y2 y3 y4 y5 y8 y9 y10 y11 y12 y13 y23 y24 y25 z1 z2 z3 z4 z5 z8 z9 z10 z11 z12 z13 z23 z24 z25 : Int32} {b6 b21 b30 x6 x21 x30 y6 y21 y30 z6 z21 z30 : Nat → Int64} {b7 b14 b15 b16 b17 b18 b19 b20 b22 b26 b27 b28 b29 b31 x7 x14 x15 x16 x17 x18 x19 x20 x22 x26 x27 x28 x29 x31 y7 y14 y15 y16 y17 y18 y19 y20 y22 y26 y27 y28 y29 y31 z7 z14 z15 z16 z17 z18 z19 z20 z22 z26 z27 z28 z29 z31 : Nat → Int32} {st st2 th marked mm : Int32} {c : Nat → Int32} {W : Nat → Int64} {m fu : Nat}
set_option maxRecDepth 100000 in
theorem r_mark (hm : m ≤ 3) (hb : BKb b1 b2 b3 b4 b5 b6 b7 b8 b9 b10 b11 b12 b13 b14 b15 b16 b17 b18 b19 b20 b21 b22 b23 b24 b25 b26 b27 b28 b29 b30 b31 0 c W) (hM : (0 < m → BKb x1 x2 x3 x4 x5 x6 x7 x8 x9 x10 x11 x12 x13 x14 x15 x16 x17 x18 x19 x20 x21 x22 x23 x24 x25 x26 x27 x28 x29 x30 x31 1 c W) ∧ (1 < m → BKb y1 y2 y3 y4 y5 y6 y7 y8 y9 y10 y11 y12 y13 y14 y15 y16 y17 y18 y19 y20 y21 y22 y23 y24 y25 y26 y27 y28 y29 y30 y31 2 c W) ∧ (2 < m → BKb z1 z2 z3 z4 z5 z6 z7 z8 z9 z10 z11 z12 z13 z14 z15 z16 z17 z18 z19 z20 z21 z22 z23 z24 z25 z26 z27 z28 z29 z30 z31 3 c W)) (hfu : 1000 < fu) :
    ∃ r s m' p1 p2 p3 p4 p5 p6 p7 p8 p9 p10 p11 p12 p13 p14 p15 p16 p17 p18 p19 p20 p21 p22 p23 p24 p25 p26 p27 p28 p29 p30 p31 q1 q2 q3 q4 q5 q6 q7 q8 q9 q10 q11 q12 q13 q14 q15 q16 q17 q18 q19 q20 q21 q22 q23 q24 q25 q26 q27 q28 q29 q30 q31 t1 t2 t3 t4 t5 t6 t7 t8 t9 t10 t11 t12 t13 t14 t15 t16 t17 t18 t19 t20 t21 t22 t23 t24 t25 t26 t27 t28 t29 t30 t31 c' W', m' ≤ 3 ∧
      f_X11_mark st (nI m) b1 b2 b3 b4 b5 b6 b7 b8 b9 b10 b11 b12 b13 b14 b15 b16 b17 b18 b19 b20 b21 b22 b23 b24 b25 b26 b27 b28 b29 b30 b31 x1 x2 x3 x4 x5 x6 x7 x8 x9 x10 x11 x12 x13 x14 x15 x16 x17 x18 x19 x20 x21 x22 x23 x24 x25 x26 x27 x28 x29 x30 x31 y1 y2 y3 y4 y5 y6 y7 y8 y9 y10 y11 y12 y13 y14 y15 y16 y17 y18 y19 y20 y21 y22 y23 y24 y25 y26 y27 y28 y29 y30 y31 z1 z2 z3 z4 z5 z6 z7 z8 z9 z10 z11 z12 z13 z14 z15 z16 z17 z18 z19 z20 z21 z22 z23 z24 z25 z26 z27 z28 z29 z30 z31 = some (r, s, nI m', p1, p2, p3, p4, p5, p6, p7, p8, p9, p10, p11, p12, p13, p14, p15, p16, p17, p18, p19, p20, p21, p22, p23, p24, p25, p26, p27, p28, p29, p30, p31, q1, q2, q3, q4, q5, q6, q7, q8, q9, q10, q11, q12, q13, q14, q15, q16, q17, q18, q19, q20, q21, q22, q23, q24, q25, q26, q27, q28, q29, q30, q31, t1, t2, t3, t4, t5, t6, t7, t8, t9, t10, t11, t12, t13, t14, t15, t16, t17, t18, t19, t20, t21, t22, t23, t24, t25, t26, t27, t28, t29, t30, t31) ∧
      f_X12_mark fu st2 th (nI m) c W = some (r, s, nI 0, nI m', c', W') ∧ BKb b1 b2 b3 b4 b5 b6 b7 b8 b9 b10 b11 b12 b13 b14 b15 b16 b17 b18 b19 b20 b21 b22 b23 b24 b25 b26 b27 b28 b29 b30 b31 0 c' W' ∧ (0 < m' → BKb p1 p2 p3 p4 p5 p6 p7 p8 p9 p10 p11 p12 p13 p14 p15 p16 p17 p18 p19 p20 p21 p22 p23 p24 p25 p26 p27 p28 p29 p30 p31 1 c' W') ∧ (1 < m' → BKb q1 q2 q3 q4 q5 q6 q7 q8 q9 q10 q11 q12 q13 q14 q15 q16 q17 q18 q19 q20 q21 q22 q23 q24 q25 q26 q27 q28 q29 q30 q31 2 c' W') ∧ (2 < m' → BKb t1 t2 t3 t4 t5 t6 t7 t8 t9 t10 t11 t12 t13 t14 t15 t16 t17 t18 t19 t20 t21 t22 t23 t24 t25 t26 t27 t28 t29 t30 t31 3 c' W') := by
  obtain ⟨σ, h1, h2⟩ := id hb
  obtain ⟨hM1, hM2, hM3⟩ := hM
  unfold f_X11_mark f_X12_mark
  by_cases e : m = 3
  · subst e
    rw [if_neg (show ¬ nI 3 < nI 3 by decide), if_pos rfl, ref11, ref12]
    exact ⟨_, _, 3, _, _, _, _, _, _, _, _, _, _, _, _, _, _, _, _, _, _, _, _, _, _, _, _, _, _, _, _, _, _, _, _, _, _, _, _, _, _, _, _, _, _, _, _, _, _, _, _, _, _, _, _, _, _, _, _, _, _, _, _, _, _, _, _, _, _, _, _, _, _, _, _, _, _, _, _, _, _, _, _, _, _, _, _, _, _, _, _, _, _, _, _, _, c, W, Nat.le_refl _, rfl, rfl, hb, hM1, hM2, hM3⟩
  · rw [if_pos (show nI m < nI 3 by rw [nI_lt' (by omega) (by omega)]; omega), if_neg (show ¬ nI m = nI 3 by rw [nI_eq' (by omega) (by omega)]; exact e), gi_n (by omega) (by omega)]
    simp only [lt_, nI_add, m_copy (a := 0) (b := m + 1) (by omega) (by omega) (by omega) hfu, bd_s]
    have hm3 : m = 0 ∨ m = 1 ∨ m = 2 := by omega
    rcases hm3 with rfl | rfl | rfl
    · obtain ⟨o1, o2, o3, o4, o5, o6, o7, o8, o9, o10, o11, o12, o13, o14, o15, o16, o17, o18, o19, o20, o21, o22, o23, o24, o25, o26, o27, o28, o29, o30, o31, ho, -, hB⟩ := c_copyBook (q1 := x1) (q2 := x2) (q3 := x3) (q4 := x4) (q5 := x5) (q6 := x6) (q7 := x7) (q8 := x8) (q9 := x9) (q10 := x10) (q11 := x11) (q12 := x12) (q13 := x13) (q14 := x14) (q15 := x15) (q16 := x16) (q17 := x17) (q18 := x18) (q19 := x19) (q20 := x20) (q21 := x21) (q22 := x22) (q23 := x23) (q24 := x24) (q25 := x25) (q26 := x26) (q27 := x27) (q28 := x28) (q29 := x29) (q30 := x30) (q31 := x31) h1
      rw [if_pos rfl]
      rw [ho, bd_s]
      simp only [lt_, nI_add, ans11, bd_s]
      refine ⟨_, _, 1, _, _, _, _, _, _, _, _, _, _, _, _, _, _, _, _, _, _, _, _, _, _, _, _, _, _, _, _, _, _, _, _, _, _, _, _, _, _, _, _, _, _, _, _, _, _, _, _, _, _, _, _, _, _, _, _, _, _, _, _, _, _, _, _, _, _, _, _, _, _, _, _, _, _, _, _, _, _, _, _, _, _, _, _, _, _, _, _, _, _, _, _, _, _, _, by omega, rfl, rfl, bkb_keep (by omega) hb, fun _ => bkb_new hB h2, fun h => absurd h (by omega), fun h => absurd h (by omega)⟩
    · obtain ⟨o1, o2, o3, o4, o5, o6, o7, o8, o9, o10, o11, o12, o13, o14, o15, o16, o17, o18, o19, o20, o21, o22, o23, o24, o25, o26, o27, o28, o29, o30, o31, ho, -, hB⟩ := c_copyBook (q1 := y1) (q2 := y2) (q3 := y3) (q4 := y4) (q5 := y5) (q6 := y6) (q7 := y7) (q8 := y8) (q9 := y9) (q10 := y10) (q11 := y11) (q12 := y12) (q13 := y13) (q14 := y14) (q15 := y15) (q16 := y16) (q17 := y17) (q18 := y18) (q19 := y19) (q20 := y20) (q21 := y21) (q22 := y22) (q23 := y23) (q24 := y24) (q25 := y25) (q26 := y26) (q27 := y27) (q28 := y28) (q29 := y29) (q30 := y30) (q31 := y31) h1
      rw [if_neg (show ¬ nI 1 = nI 0 by decide), if_pos rfl]
      rw [ho, bd_s]
      simp only [lt_, nI_add, ans11, bd_s]
      refine ⟨_, _, 2, _, _, _, _, _, _, _, _, _, _, _, _, _, _, _, _, _, _, _, _, _, _, _, _, _, _, _, _, _, _, _, _, _, _, _, _, _, _, _, _, _, _, _, _, _, _, _, _, _, _, _, _, _, _, _, _, _, _, _, _, _, _, _, _, _, _, _, _, _, _, _, _, _, _, _, _, _, _, _, _, _, _, _, _, _, _, _, _, _, _, _, _, _, _, _, by omega, rfl, rfl, bkb_keep (by omega) hb, fun _ => bkb_keep (by omega) (hM1 (by omega)), fun _ => bkb_new hB h2, fun h => absurd h (by omega)⟩
    · obtain ⟨o1, o2, o3, o4, o5, o6, o7, o8, o9, o10, o11, o12, o13, o14, o15, o16, o17, o18, o19, o20, o21, o22, o23, o24, o25, o26, o27, o28, o29, o30, o31, ho, -, hB⟩ := c_copyBook (q1 := z1) (q2 := z2) (q3 := z3) (q4 := z4) (q5 := z5) (q6 := z6) (q7 := z7) (q8 := z8) (q9 := z9) (q10 := z10) (q11 := z11) (q12 := z12) (q13 := z13) (q14 := z14) (q15 := z15) (q16 := z16) (q17 := z17) (q18 := z18) (q19 := z19) (q20 := z20) (q21 := z21) (q22 := z22) (q23 := z23) (q24 := z24) (q25 := z25) (q26 := z26) (q27 := z27) (q28 := z28) (q29 := z29) (q30 := z30) (q31 := z31) h1
      rw [if_neg (show ¬ nI 2 = nI 0 by decide), if_neg (show ¬ nI 2 = nI 1 by decide)]
      rw [ho, bd_s]
      simp only [lt_, nI_add, ans11, bd_s]
      refine ⟨_, _, 3, _, _, _, _, _, _, _, _, _, _, _, _, _, _, _, _, _, _, _, _, _, _, _, _, _, _, _, _, _, _, _, _, _, _, _, _, _, _, _, _, _, _, _, _, _, _, _, _, _, _, _, _, _, _, _, _, _, _, _, _, _, _, _, _, _, _, _, _, _, _, _, _, _, _, _, _, _, _, _, _, _, _, _, _, _, _, _, _, _, _, _, _, _, _, _, by omega, rfl, rfl, bkb_keep (by omega) hb, fun _ => bkb_keep (by omega) (hM1 (by omega)), fun _ => bkb_keep (by omega) (hM2 (by omega)), fun _ => bkb_new hB h2⟩
set_option maxRecDepth 100000 in
theorem r_back (hm : m ≤ 3) (hb : BKb b1 b2 b3 b4 b5 b6 b7 b8 b9 b10 b11 b12 b13 b14 b15 b16 b17 b18 b19 b20 b21 b22 b23 b24 b25 b26 b27 b28 b29 b30 b31 0 c W) (hM : (0 < m → BKb x1 x2 x3 x4 x5 x6 x7 x8 x9 x10 x11 x12 x13 x14 x15 x16 x17 x18 x19 x20 x21 x22 x23 x24 x25 x26 x27 x28 x29 x30 x31 1 c W) ∧ (1 < m → BKb y1 y2 y3 y4 y5 y6 y7 y8 y9 y10 y11 y12 y13 y14 y15 y16 y17 y18 y19 y20 y21 y22 y23 y24 y25 y26 y27 y28 y29 y30 y31 2 c W) ∧ (2 < m → BKb z1 z2 z3 z4 z5 z6 z7 z8 z9 z10 z11 z12 z13 z14 z15 z16 z17 z18 z19 z20 z21 z22 z23 z24 z25 z26 z27 z28 z29 z30 z31 3 c W)) (hfu : 1000 < fu) :
    ∃ r s m' p1 p2 p3 p4 p5 p6 p7 p8 p9 p10 p11 p12 p13 p14 p15 p16 p17 p18 p19 p20 p21 p22 p23 p24 p25 p26 p27 p28 p29 p30 p31 c' W', m' ≤ 3 ∧
      f_X11_back st (nI m) b1 b2 b3 b4 b5 b6 b7 b8 b9 b10 b11 b12 b13 b14 b15 b16 b17 b18 b19 b20 b21 b22 b23 b24 b25 b26 b27 b28 b29 b30 b31 x1 x2 x3 x4 x5 x6 x7 x8 x9 x10 x11 x12 x13 x14 x15 x16 x17 x18 x19 x20 x21 x22 x23 x24 x25 x26 x27 x28 x29 x30 x31 y1 y2 y3 y4 y5 y6 y7 y8 y9 y10 y11 y12 y13 y14 y15 y16 y17 y18 y19 y20 y21 y22 y23 y24 y25 y26 y27 y28 y29 y30 y31 z1 z2 z3 z4 z5 z6 z7 z8 z9 z10 z11 z12 z13 z14 z15 z16 z17 z18 z19 z20 z21 z22 z23 z24 z25 z26 z27 z28 z29 z30 z31 = some (r, s, nI m', p1, p2, p3, p4, p5, p6, p7, p8, p9, p10, p11, p12, p13, p14, p15, p16, p17, p18, p19, p20, p21, p22, p23, p24, p25, p26, p27, p28, p29, p30, p31) ∧
      f_X12_back fu st2 th (nI m) c W = some (r, s, nI 0, nI m', c', W') ∧ BKb p1 p2 p3 p4 p5 p6 p7 p8 p9 p10 p11 p12 p13 p14 p15 p16 p17 p18 p19 p20 p21 p22 p23 p24 p25 p26 p27 p28 p29 p30 p31 0 c' W' ∧ (0 < m' → BKb x1 x2 x3 x4 x5 x6 x7 x8 x9 x10 x11 x12 x13 x14 x15 x16 x17 x18 x19 x20 x21 x22 x23 x24 x25 x26 x27 x28 x29 x30 x31 1 c' W') ∧ (1 < m' → BKb y1 y2 y3 y4 y5 y6 y7 y8 y9 y10 y11 y12 y13 y14 y15 y16 y17 y18 y19 y20 y21 y22 y23 y24 y25 y26 y27 y28 y29 y30 y31 2 c' W') ∧ (2 < m' → BKb z1 z2 z3 z4 z5 z6 z7 z8 z9 z10 z11 z12 z13 z14 z15 z16 z17 z18 z19 z20 z21 z22 z23 z24 z25 z26 z27 z28 z29 z30 z31 3 c' W') := by
  obtain ⟨hM1, hM2, hM3⟩ := hM
  unfold f_X11_back f_X12_back
  by_cases e : m = 0
  · subst e
    rw [if_neg (show ¬ 0 < nI 0 by decide), if_pos (show nI 0 = 0 from rfl), ref11, ref12]
    exact ⟨_, _, 0, _, _, _, _, _, _, _, _, _, _, _, _, _, _, _, _, _, _, _, _, _, _, _, _, _, _, _, _, _, _, _, c, W, by omega, rfl, rfl, hb, hM1, hM2, hM3⟩
  · obtain ⟨k, rfl⟩ : ∃ k, m = k + 1 := ⟨m - 1, by omega⟩
    rw [if_pos (show 0 < nI (k + 1) by rw [nI_0lt (by omega)]; omega), if_neg (show ¬ nI (k + 1) = 0 by rw [nI_eq0 (by omega)]; exact e), m_copy (a := k + 1) (b := 0) (by omega) (by omega) (by omega) hfu, bd_s, pk_sub (show 1 ≤ k + 1 by omega), Nat.add_sub_cancel]
    simp only [lt_]
    rw [gi_n (by omega) (by omega)]
    have hm3 : k = 0 ∨ k = 1 ∨ k = 2 := by omega
    rcases hm3 with rfl | rfl | rfl
    · obtain ⟨σ, h1, h2⟩ := hM1 (by omega)
      obtain ⟨o1, o2, o3, o4, o5, o6, o7, o8, o9, o10, o11, o12, o13, o14, o15, o16, o17, o18, o19, o20, o21, o22, o23, o24, o25, o26, o27, o28, o29, o30, o31, ho, -, hB⟩ := c_copyBook (q1 := b1) (q2 := b2) (q3 := b3) (q4 := b4) (q5 := b5) (q6 := b6) (q7 := b7) (q8 := b8) (q9 := b9) (q10 := b10) (q11 := b11) (q12 := b12) (q13 := b13) (q14 := b14) (q15 := b15) (q16 := b16) (q17 := b17) (q18 := b18) (q19 := b19) (q20 := b20) (q21 := b21) (q22 := b22) (q23 := b23) (q24 := b24) (q25 := b25) (q26 := b26) (q27 := b27) (q28 := b28) (q29 := b29) (q30 := b30) (q31 := b31) h1
      rw [if_pos (show nI 0 = nI 0 from rfl)]
      rw [ho, bd_s]
      simp only [ans11, bd_s]
      exact ⟨_, _, 0, _, _, _, _, _, _, _, _, _, _, _, _, _, _, _, _, _, _, _, _, _, _, _, _, _, _, _, _, _, _, _, _, _, by omega, rfl, rfl, bkb_new hB h2, fun h => absurd h (by omega), fun h => absurd h (by omega), fun h => absurd h (by omega)⟩
    · obtain ⟨σ, h1, h2⟩ := hM2 (by omega)
      obtain ⟨o1, o2, o3, o4, o5, o6, o7, o8, o9, o10, o11, o12, o13, o14, o15, o16, o17, o18, o19, o20, o21, o22, o23, o24, o25, o26, o27, o28, o29, o30, o31, ho, -, hB⟩ := c_copyBook (q1 := b1) (q2 := b2) (q3 := b3) (q4 := b4) (q5 := b5) (q6 := b6) (q7 := b7) (q8 := b8) (q9 := b9) (q10 := b10) (q11 := b11) (q12 := b12) (q13 := b13) (q14 := b14) (q15 := b15) (q16 := b16) (q17 := b17) (q18 := b18) (q19 := b19) (q20 := b20) (q21 := b21) (q22 := b22) (q23 := b23) (q24 := b24) (q25 := b25) (q26 := b26) (q27 := b27) (q28 := b28) (q29 := b29) (q30 := b30) (q31 := b31) h1
      rw [if_neg (show ¬ nI 1 = nI 0 by decide), if_pos (show nI 1 = nI 1 from rfl)]
      rw [ho, bd_s]
      simp only [ans11, bd_s]
      exact ⟨_, _, 1, _, _, _, _, _, _, _, _, _, _, _, _, _, _, _, _, _, _, _, _, _, _, _, _, _, _, _, _, _, _, _, _, _, by omega, rfl, rfl, bkb_new hB h2, fun _ => bkb_keep (by omega) (hM1 (by omega)), fun h => absurd h (by omega), fun h => absurd h (by omega)⟩
    · obtain ⟨σ, h1, h2⟩ := hM3 (by omega)
      obtain ⟨o1, o2, o3, o4, o5, o6, o7, o8, o9, o10, o11, o12, o13, o14, o15, o16, o17, o18, o19, o20, o21, o22, o23, o24, o25, o26, o27, o28, o29, o30, o31, ho, -, hB⟩ := c_copyBook (q1 := b1) (q2 := b2) (q3 := b3) (q4 := b4) (q5 := b5) (q6 := b6) (q7 := b7) (q8 := b8) (q9 := b9) (q10 := b10) (q11 := b11) (q12 := b12) (q13 := b13) (q14 := b14) (q15 := b15) (q16 := b16) (q17 := b17) (q18 := b18) (q19 := b19) (q20 := b20) (q21 := b21) (q22 := b22) (q23 := b23) (q24 := b24) (q25 := b25) (q26 := b26) (q27 := b27) (q28 := b28) (q29 := b29) (q30 := b30) (q31 := b31) h1
      rw [if_neg (show ¬ nI 2 = nI 0 by decide), if_neg (show ¬ nI 2 = nI 1 by decide)]
      rw [ho, bd_s]
      simp only [ans11, bd_s]
      exact ⟨_, _, 2, _, _, _, _, _, _, _, _, _, _, _, _, _, _, _, _, _, _, _, _, _, _, _, _, _, _, _, _, _, _, _, _, _, by omega, rfl, rfl, bkb_new hB h2, fun _ => bkb_keep (by omega) (hM1 (by omega)), fun _ => bkb_keep (by omega) (hM2 (by omega)), fun h => absurd h (by omega)⟩
end MM
