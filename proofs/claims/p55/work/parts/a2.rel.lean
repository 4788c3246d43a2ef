/-! the class as an abstract state: the row σ, the mark M, the best order bm bo, the fraction fa fb -/
def BK5 (x1 : Int32) (x2 : Int32) (x3 : Int32) (x4 : Int32) (x5 : Int32) (x6 : Nat → Int64) (x7 : Nat → Int32) (x8 : Int32) (x9 : Int32) (x10 : Int32) (x11 : Int32) (x12 : Int32) (x13 : Int32) (x14 : Nat → Int32) (x15 : Nat → Int32) (x16 : Nat → Int32) (x17 : Nat → Int32) (x18 : Nat → Int32) (x19 : Nat → Int32) (x20 : Nat → Int32) (x21 : Nat → Int64) (x22 : Nat → Int32) (x23 : Int32) (x24 : Int32) (x25 : Int32) (x26 : Nat → Int32) (x27 : Nat → Int32) (x28 : Nat → Int32) (x29 : Nat → Int32) (x30 : Nat → Int64) (x31 : Nat → Int32) (σ : Nat → Nat) : Prop :=
  WF σ ∧ σ 4 ≤ 9999 ∧ (x1 = nI (σ 0) ∧ x2 = nI (σ 1) ∧ x3 = nI (σ 2) ∧ x4 = nI (sB σ) ∧ x5 = nI (sR σ)) ∧
  (x8 = nI (σ 3) ∧ x9 = nI (σ 8) ∧ x10 = nI (σ 6) ∧ x11 = nI (σ 7) ∧ x12 = nI (σ 4) ∧ x13 = nI (σ 5)) ∧
  ((∃ b, x7 = aL b σ) ∧ (∃ b, x14 = aD b σ) ∧ (∃ b, x15 = aK b σ) ∧ (∃ b, x16 = aM b σ) ∧ (∃ b, x17 = aO b σ) ∧ (∃ b, x18 = aX b σ) ∧ (∃ b, x19 = aS b σ) ∧ (∃ b, x20 = aU b σ) ∧ (∃ b, x22 = aR b σ) ∧ (∃ b, x31 = aP b σ)) ∧
  (x23 = 0 ∨ x23 = 1) ∧ ∃ z, z ≤ 60 ∧ x25 = nI z
def mI (M : Option (Nat → Nat)) : Int32 := match M with
  | none => nI 0
  | some _ => nI 1
def REL5 (σ : Nat → Nat) (M : Option (Nat → Nat)) (bm : Nat) (bo : Nat → Nat) (fa fb : Int64) (i : Nat → Int32) (j : Nat → Int64) (f : Nat → Nat → Int32) (g : Nat → Nat → Int64) : Prop :=
  (BK5 (i 16) (i 17) (i 18) (i 19) (i 20) (g 7) (f 9) (i 21) (i 22) (i 23) (i 24) (i 25) (i 26) (f 15) (f 12) (f 13) (f 11) (f 14) (f 17) (f 16) (g 9) (f 10) (i 27) (i 28) (i 29) (f 18) (f 21) (f 19) (f 20) (g 8) (f 8) σ) ∧ ((i 1) = mI M ∧ ∀ τ, M = some τ → BK5 (i 64) (i 65) (i 66) (i 67) (i 68) (g 13) (f 55) (i 69) (i 70) (i 71) (i 72) (i 73) (i 74) (f 61) (f 58) (f 59) (f 57) (f 60) (f 63) (f 62) (g 15) (f 56) (i 75) (i 76) (i 77) (f 64) (f 67) (f 65) (f 66) (g 14) (f 54) τ) ∧ ((i 44) = nI bm ∧ bm ≤ 6 ∧ ∀ k, k < bm → f 44 k = nI (bo k)) ∧ (j 0) = fa ∧ (j 1) = fb
def s_pricks (x1 : Int32) (x2 : Int32) (σ : Nat → Nat) : Option (Int32) := gi_ x1 (σ 2) (gi_ x2 (σ 1) (some (nI (sD σ x1.toNatClampNeg x2.toNatClampNeg))))
def s_page (x1 : Int32) (x2 : Int32) (σ : Nat → Nat) : Option (Int32) := gi_ x1 (σ 2) (if x2 = nI 2 then some (nI (sFree σ x1.toNatClampNeg)) else if x2 = nI 3 then some (nI (sStg σ x1.toNatClampNeg)) else none)
def s_cell (x1 : Int32) (x2 : Int32) (σ : Nat → Nat) : Option (Int32) := gi_ x1 (σ 0) (if x2 = nI 3 then some (nI (σ (33 + x1.toNatClampNeg))) else if x2 = nI 5 then some (nI (σ (41 + x1.toNatClampNeg))) else none)
def s_many (x1 : Int32) (σ : Nat → Nat) : Option (Int32) := if x1 = nI 3 then some (nI (σ 3)) else if x1 = nI 4 then some (nI (σ 4)) else if x1 = nI 5 then some (nI (sAll6 σ)) else if x1 = nI 6 then some (nI (σ 5)) else if x1 = nI 8 then some (nI (σ 7)) else none
def s_when (x1 : Int32) (x2 : Int32) (σ : Nat → Nat) : Option (Int32) := gi_ x1 (σ 0) (gi_ x2 (σ 1) (some (oI (sTill σ (2 ^ x1.toNatClampNeg) (2 ^ x2.toNatClampNeg) 999))))
def s_heard (x1 : Int32) (σ : Nat → Nat) : Option (Int32) := gi_ x1 (σ 1) (some (oI (sTill σ (sSee σ) (2 ^ x1.toNatClampNeg) 999)))
def s_all (σ : Nat → Nat) : Option (Int32) := some (oI (sTill σ (sSee σ) (2 ^ σ 1 - 1) 999))
def s_later (x1 : Int32) (x2 : Int32) (σ : Nat → Nat) : Option (Int32) := gi_ x1 (σ 0) (gi_ x2 1000 (some (nI (sIt x2.toNatClampNeg σ (33 + x1.toNatClampNeg)))))
def s_never (σ : Nat → Nat) : Option (Int32) := some (nI (sNever σ (σ 1)))
def s_next (σ : Nat → Nat) : Option (Int32) := some (oI ((sNext σ).map (fun p => σ (67 + p))))
def s_orderAt (x1 : Int32) (σ : Nat → Nat) : Option (Int32) := gi_ x1 (σ 3) (some (nI (σ (67 + x1.toNatClampNeg))))
def s_kept (σ : Nat → Nat) : Option (Int32) := some (oI (sKp σ (σ 2)))
def s_hide (x1 : Int32) (σ : Nat → Nat) : Option (Int32) := gi_ x1 (σ 1) (some (oI (sHd σ x1.toNatClampNeg (σ 2))))
def s_mix (x1 : Int32) (σ : Nat → Nat) (fa : Int64) (fb : Int64) : Option (Int32 × Int64 × Int64) := gi_ x1 (σ 2) (if sShut σ x1.toNatClampNeg = true then some (nI 0, fa, fb) else some (nI 1, lN (sMixT σ x1.toNatClampNeg / Nat.gcd (sMixT σ x1.toNatClampNeg) (sMixB σ)), lN (sMixB σ / Nat.gcd (sMixT σ x1.toNatClampNeg) (sMixB σ))))
def s_top (fa : Int64) : Option (Int64) := some fa
def s_bottom (fb : Int64) : Option (Int64) := some fb
def s_turn (x1 : Int32) (σ : Nat → Nat) : Option (Int32 × (Nat → Nat)) := gi_ x1 100 (if x1.toNatClampNeg = 0 then none else if 9999 < σ 4 + x1.toNatClampNeg then none else some (nI (sIt x1.toNatClampNeg σ 4), sIt x1.toNatClampNeg σ))
def s_rub (x1 : Int32) (σ : Nat → Nat) : Option (Nat → Nat) := gi_ x1 (σ 2) (some (sErase σ x1.toNatClampNeg))
def s_damp (x1 : Int32) (x2 : Int32) (σ : Nat → Nat) : Option (Nat → Nat) := gi_ x1 (σ 2) (gd_ (x2 = 0 ∨ x2 = 1) (some (sFlip7 σ x1.toNatClampNeg (decide (x2 = 1)))))
def s_ill (x1 : Int32) (x2 : Int32) (σ : Nat → Nat) : Option (Nat → Nat) := gi_ x1 (σ 0) (gd_ (x2 = 0 ∨ x2 = 1) (some (sFlip6 σ x1.toNatClampNeg (decide (x2 = 1)))))
def s_move (x1 : Int32) (x2 : Int32) (σ : Nat → Nat) : Option (Int32 × (Nat → Nat)) := gi_ x1 (σ 0) (gi_ x2 (σ 0) (some (bI (sMove σ x1.toNatClampNeg x2.toNatClampNeg).1, (sMove σ x1.toNatClampNeg x2.toNatClampNeg).2)))
def s_mark (σ : Nat → Nat) (M : Option (Nat → Nat)) : Option (Int32 × Option (Nat → Nat)) := match M with | none => some (nI 1, some σ) | some _ => none
def s_back (M : Option (Nat → Nat)) : Option (Int32 × (Nat → Nat) × Option (Nat → Nat)) := match M with | none => none | some τ => some (nI 0, τ, none)
def s_bestOrder (σ : Nat → Nat) (bm : Nat) (bo : Nat → Nat) : Option (Int32 × Nat × (Nat → Nat)) := if 6 < σ 3 then none else some (oI ((sBest σ).map Prod.fst), (match sBest σ with | none => bm | some _ => σ 3), (match sBest σ with | none => bo | some z => el z.2))
def s_bestAt (x1 : Int32) (bm : Nat) (bo : Nat → Nat) : Option (Int32) := gi_ x1 bm (some (nI (bo x1.toNatClampNeg)))
section CO5
variable {q1 p1 q2 p2 q3 p3 q4 p4 q5 p5 q8 p8 q9 p9 q10 p10 q11 p11 q12 p12 q13 p13 q23 p23 q24 p24 q25 p25 : Int32} {q6 p6 q21 p21 q30 p30 : Nat → Int64} {q7 p7 q14 p14 q15 p15 q16 p16 q17 p17 q18 p18 q19 p19 q20 p20 q22 p22 q26 p26 q27 p27 q28 p28 q29 p29 q31 p31 : Nat → Int32} {σ : Nat → Nat}
theorem c_copyBook5 (h : BK5 p1 p2 p3 p4 p5 p6 p7 p8 p9 p10 p11 p12 p13 p14 p15 p16 p17 p18 p19 p20 p21 p22 p23 p24 p25 p26 p27 p28 p29 p30 p31 σ) : ∃ o1 o2 o3 o4 o5 o6 o7 o8 o9 o10 o11 o12 o13 o14 o15 o16 o17 o18 o19 o20 o21 o22 o23 o24 o25 o26 o27 o28 o29 o30 o31, f_X1_copyFrom q1 q2 q3 q4 q5 q6 q7 q8 q9 q10 q11 q12 q13 q14 q15 q16 q17 q18 q19 q20 q21 q22 q23 q24 q25 q26 q27 q28 q29 q30 q31 p1 p2 p3 p4 p5 p6 p7 p8 p9 p10 p11 p12 p13 p14 p15 p16 p17 p18 p19 p20 p21 p22 p23 p24 p25 p26 p27 p28 p29 p30 p31 = some (o1, o2, o3, o4, o5, o6, o7, o8, o9, o10, o11, o12, o13, o14, o15, o16, o17, o18, o19, o20, o21, o22, o23, o24, o25, o26, o27, o28, o29, o30, o31) ∧ BK5 o1 o2 o3 o4 o5 o6 o7 o8 o9 o10 o11 o12 o13 o14 o15 o16 o17 o18 o19 o20 o21 o22 o23 o24 o25 o26 o27 o28 o29 o30 o31 σ := by
  obtain ⟨w, h4, ⟨rfl, rfl, rfl, rfl, rfl⟩, ⟨rfl, rfl, rfl, rfl, rfl, rfl⟩, ⟨⟨b7, rfl⟩, ⟨b14, rfl⟩, ⟨b15, rfl⟩, ⟨b16, rfl⟩, ⟨b17, rfl⟩, ⟨b18, rfl⟩, ⟨b19, rfl⟩, ⟨b20, rfl⟩, ⟨b22, rfl⟩, ⟨b31, rfl⟩⟩, hg, z, hz, rfl⟩ := h
  have w0 := w.c0
  have w1 := w.c1
  have w2 := w.c2
  have hr : ∃ r4 r5 r6 r7, f_X5_copyFrom q23 q24 q25 q26 q27 q28 q29 p23 p24 (nI z) p26 p27 p28 p29 = some (p23, p24, nI z, r4, r5, r6, r7) := by
    unfold f_X5_copyFrom
    rw [gd_pos hg, gc_0 (by omega) (by omega) (by omega), gc_0 (by omega) (by omega) (by omega), gc_0 (by omega) (by omega) (by omega), gc_0 (by omega) (by omega) (by omega)]
    exact ⟨_, _, _, _, rfl⟩
  obtain ⟨r4, r5, r6, r7, hr⟩ := hr
  unfold f_X1_copyFrom
  rw [gc_0 (by omega) (by omega) (by omega), gc_0 (by omega) (by omega) (by omega), gc_0 (by omega) (by omega) (by omega), gc_0 (by omega) (by omega) (by omega), gc_0 (by omega) (by omega) (by omega), gc_0 (by omega) (by omega) (by omega), c_copyState w, bd_s]
  simp only
  rw [hr, bd_s]
  refine ⟨_, _, _, _, _, _, _, _, _, _, _, _, _, _, _, _, _, _, _, _, _, _, _, _, _, _, _, _, _, _, _, rfl, w, h4, ⟨rfl, rfl, rfl, rfl, rfl⟩, ⟨rfl, rfl, rfl, rfl, rfl, rfl⟩, ⟨⟨va_cpy b7 q7 0 0 6, ?_⟩, ⟨_, rfl⟩, ⟨_, rfl⟩, ⟨_, rfl⟩, ⟨_, rfl⟩, ⟨_, rfl⟩, ⟨_, rfl⟩, ⟨_, rfl⟩, ⟨va_cpy b22 q22 0 0 6, ?_⟩, ⟨va_cpy b31 q31 0 0 8, ?_⟩⟩, hg, z, hz, rfl⟩
  · exact cpy_mkF w1
  · exact cpy_mkF w2
  · exact cpy_mkF w0
end CO5
section VV
variable {b1 b2 b3 b4 b5 b8 b9 b10 b11 b12 b13 b23 b24 b25 st x1 x2 r : Int32} {b6 b21 b30 : Nat → Int64} {b7 b14 b15 b16 b17 b18 b19 b20 b22 b26 b27 b28 b29 b31 : Nat → Int32} {σ : Nat → Nat} {fa fb : Int64}
theorem V_pricks (hb : BK5 b1 b2 b3 b4 b5 b6 b7 b8 b9 b10 b11 b12 b13 b14 b15 b16 b17 b18 b19 b20 b21 b22 b23 b24 b25 b26 b27 b28 b29 b30 b31 σ) (hs : s_pricks x1 x2 σ = some r) : ∃ oc, f_X11_pricks x1 x2 st b2 b3 b14 = some oc ∧ oc.1 = r := by
  obtain ⟨w, h4, ⟨rfl, rfl, rfl, rfl, rfl⟩, ⟨rfl, rfl, rfl, rfl, rfl, rfl⟩, ⟨⟨lt, rfl⟩, ⟨dt, rfl⟩, ⟨kn, rfl⟩, ⟨md, rfl⟩, ⟨od, rfl⟩, ⟨xx, rfl⟩, ⟨sd, rfl⟩, ⟨us, rfl⟩, ⟨rm, rfl⟩, ⟨sp, rfl⟩⟩, hg, hz⟩ := hb
  have c0 := w.c0
  have c1 := w.c1
  have c2 := w.c2
  have c3 := w.c3
  unfold s_pricks at hs
  obtain ⟨hxp, hs⟩ := gi_of hs
  obtain ⟨p, hp, rfl⟩ := vp_in_of hxp (by omega)
  try rw [nI_cl (show p < 2147483648 by omega)] at hs
  obtain ⟨hxe, hs⟩ := gi_of hs
  obtain ⟨e, he, rfl⟩ := vp_in_of hxe (by omega)
  try rw [nI_cl (show e < 2147483648 by omega)] at hs
  cases hs
  exact ⟨_, u_pricks w hp he, rfl⟩
theorem V_page (hb : BK5 b1 b2 b3 b4 b5 b6 b7 b8 b9 b10 b11 b12 b13 b14 b15 b16 b17 b18 b19 b20 b21 b22 b23 b24 b25 b26 b27 b28 b29 b30 b31 σ) (hs : s_page x1 x2 σ = some r) : ∃ oc, f_X11_page x1 x2 st b3 b18 b19 b20 b22 = some oc ∧ oc.1 = r := by
  obtain ⟨w, h4, ⟨rfl, rfl, rfl, rfl, rfl⟩, ⟨rfl, rfl, rfl, rfl, rfl, rfl⟩, ⟨⟨lt, rfl⟩, ⟨dt, rfl⟩, ⟨kn, rfl⟩, ⟨md, rfl⟩, ⟨od, rfl⟩, ⟨xx, rfl⟩, ⟨sd, rfl⟩, ⟨us, rfl⟩, ⟨rm, rfl⟩, ⟨sp, rfl⟩⟩, hg, hz⟩ := hb
  have c0 := w.c0
  have c1 := w.c1
  have c2 := w.c2
  have c3 := w.c3
  unfold s_page at hs
  obtain ⟨hxp, hs⟩ := gi_of hs
  obtain ⟨p, hp, rfl⟩ := vp_in_of hxp (by omega)
  try rw [nI_cl (show p < 2147483648 by omega)] at hs
  by_cases e2 : x2 = nI 2
  · subst e2
    rw [if_pos rfl] at hs
    cases hs
    exact ⟨_, u_page2 w hp, rfl⟩
  · rw [if_neg e2] at hs
    by_cases e3 : x2 = nI 3
    · subst e3
      rw [if_pos rfl] at hs
      cases hs
      exact ⟨_, u_page3 w hp, rfl⟩
    · rw [if_neg e3] at hs; cases hs
theorem V_cell (hb : BK5 b1 b2 b3 b4 b5 b6 b7 b8 b9 b10 b11 b12 b13 b14 b15 b16 b17 b18 b19 b20 b21 b22 b23 b24 b25 b26 b27 b28 b29 b30 b31 σ) (hs : s_cell x1 x2 σ = some r) : ∃ oc, f_X11_cell 100000 x1 x2 st b1 b4 b5 b8 b15 b16 b17 b31 = some oc ∧ oc.1 = r := by
  obtain ⟨w, h4, ⟨rfl, rfl, rfl, rfl, rfl⟩, ⟨rfl, rfl, rfl, rfl, rfl, rfl⟩, ⟨⟨lt, rfl⟩, ⟨dt, rfl⟩, ⟨kn, rfl⟩, ⟨md, rfl⟩, ⟨od, rfl⟩, ⟨xx, rfl⟩, ⟨sd, rfl⟩, ⟨us, rfl⟩, ⟨rm, rfl⟩, ⟨sp, rfl⟩⟩, hg, hz⟩ := hb
  have c0 := w.c0
  have c1 := w.c1
  have c2 := w.c2
  have c3 := w.c3
  unfold s_cell at hs
  obtain ⟨hxk, hs⟩ := gi_of hs
  obtain ⟨k, hk, rfl⟩ := vp_in_of hxk (by omega)
  try rw [nI_cl (show k < 2147483648 by omega)] at hs
  by_cases e2 : x2 = nI 3
  · subst e2
    rw [if_pos rfl] at hs
    cases hs
    exact ⟨_, u_cell3 w hk (by decide), rfl⟩
  · rw [if_neg e2] at hs
    by_cases e3 : x2 = nI 5
    · subst e3
      rw [if_pos rfl] at hs
      cases hs
      exact ⟨_, u_cell5 w hk (by decide), rfl⟩
    · rw [if_neg e3] at hs; cases hs
theorem V_many (hb : BK5 b1 b2 b3 b4 b5 b6 b7 b8 b9 b10 b11 b12 b13 b14 b15 b16 b17 b18 b19 b20 b21 b22 b23 b24 b25 b26 b27 b28 b29 b30 b31 σ) (hs : s_many x1 σ = some r) : ∃ oc, f_X11_many 100000 x1 st b1 b2 b3 b8 b10 b11 b12 b13 b20 = some oc ∧ oc.1 = r := by
  obtain ⟨w, h4, ⟨rfl, rfl, rfl, rfl, rfl⟩, ⟨rfl, rfl, rfl, rfl, rfl, rfl⟩, ⟨⟨lt, rfl⟩, ⟨dt, rfl⟩, ⟨kn, rfl⟩, ⟨md, rfl⟩, ⟨od, rfl⟩, ⟨xx, rfl⟩, ⟨sd, rfl⟩, ⟨us, rfl⟩, ⟨rm, rfl⟩, ⟨sp, rfl⟩⟩, hg, hz⟩ := hb
  have c0 := w.c0
  have c1 := w.c1
  have c2 := w.c2
  have c3 := w.c3
  unfold s_many at hs
  by_cases e3 : x1 = nI 3
  · subst e3
    rw [if_pos rfl] at hs
    cases hs
    exact ⟨_, u_many3 (by decide), rfl⟩
  rw [if_neg e3] at hs
  by_cases e4 : x1 = nI 4
  · subst e4
    rw [if_pos rfl] at hs
    cases hs
    exact ⟨_, u_many4 (by decide), rfl⟩
  rw [if_neg e4] at hs
  by_cases e5 : x1 = nI 5
  · subst e5
    rw [if_pos rfl] at hs
    cases hs
    exact ⟨_, u_many5 (by decide), rfl⟩
  rw [if_neg e5] at hs
  by_cases e6 : x1 = nI 6
  · subst e6
    rw [if_pos rfl] at hs
    cases hs
    exact ⟨_, u_many6 (by decide), rfl⟩
  rw [if_neg e6] at hs
  by_cases e8 : x1 = nI 8
  · subst e8
    rw [if_pos rfl] at hs
    cases hs
    exact ⟨_, u_many8 (by decide), rfl⟩
  rw [if_neg e8] at hs
  cases hs
theorem V_when {y1 : Int32} {y2 : Int32} {y3 : Int32} {y4 : Int32} {y5 : Int32} {y6 : Int32} {y7 : (Nat → Int32)} {y8 : (Nat → Int32)} {y9 : (Nat → Int32)} {y10 : (Nat → Int32)} {y11 : (Nat → Int32)} {y12 : (Nat → Int32)} {y13 : (Nat → Int32)} (hb : BK5 b1 b2 b3 b4 b5 b6 b7 b8 b9 b10 b11 b12 b13 b14 b15 b16 b17 b18 b19 b20 b21 b22 b23 b24 b25 b26 b27 b28 b29 b30 b31 σ) (hs : s_when x1 x2 σ = some r) : ∃ oc, f_X11_when 100000 x1 x2 st y1 y2 y3 y4 y5 y6 y7 y8 y9 y10 y11 y12 y13 b1 b2 b3 b4 b5 b7 b8 b9 b10 b11 b12 b13 b14 b15 b16 b17 b18 b19 b20 b22 b31 = some oc ∧ oc.1 = r := by
  obtain ⟨w, h4, ⟨rfl, rfl, rfl, rfl, rfl⟩, ⟨rfl, rfl, rfl, rfl, rfl, rfl⟩, ⟨⟨lt, rfl⟩, ⟨dt, rfl⟩, ⟨kn, rfl⟩, ⟨md, rfl⟩, ⟨od, rfl⟩, ⟨xx, rfl⟩, ⟨sd, rfl⟩, ⟨us, rfl⟩, ⟨rm, rfl⟩, ⟨sp, rfl⟩⟩, hg, hz⟩ := hb
  have c0 := w.c0
  have c1 := w.c1
  have c2 := w.c2
  have c3 := w.c3
  unfold s_when at hs
  obtain ⟨hxk, hs⟩ := gi_of hs
  obtain ⟨k, hk, rfl⟩ := vp_in_of hxk (by omega)
  try rw [nI_cl (show k < 2147483648 by omega)] at hs
  obtain ⟨hxe, hs⟩ := gi_of hs
  obtain ⟨e, he, rfl⟩ := vp_in_of hxe (by omega)
  try rw [nI_cl (show e < 2147483648 by omega)] at hs
  cases hs
  exact oT (u_when w hk he (by decide))
theorem V_heard {y1 : Int32} {y2 : Int32} {y3 : Int32} {y4 : Int32} {y5 : Int32} {y6 : Int32} {y7 : (Nat → Int32)} {y8 : (Nat → Int32)} {y9 : (Nat → Int32)} {y10 : (Nat → Int32)} {y11 : (Nat → Int32)} {y12 : (Nat → Int32)} {y13 : (Nat → Int32)} (hb : BK5 b1 b2 b3 b4 b5 b6 b7 b8 b9 b10 b11 b12 b13 b14 b15 b16 b17 b18 b19 b20 b21 b22 b23 b24 b25 b26 b27 b28 b29 b30 b31 σ) (hs : s_heard x1 σ = some r) : ∃ oc, f_X11_heard 100000 x1 st y1 y2 y3 y4 y5 y6 y7 y8 y9 y10 y11 y12 y13 b1 b2 b3 b4 b5 b7 b8 b9 b10 b11 b12 b13 b14 b15 b16 b17 b18 b19 b20 b22 b31 = some oc ∧ oc.1 = r := by
  obtain ⟨w, h4, ⟨rfl, rfl, rfl, rfl, rfl⟩, ⟨rfl, rfl, rfl, rfl, rfl, rfl⟩, ⟨⟨lt, rfl⟩, ⟨dt, rfl⟩, ⟨kn, rfl⟩, ⟨md, rfl⟩, ⟨od, rfl⟩, ⟨xx, rfl⟩, ⟨sd, rfl⟩, ⟨us, rfl⟩, ⟨rm, rfl⟩, ⟨sp, rfl⟩⟩, hg, hz⟩ := hb
  have c0 := w.c0
  have c1 := w.c1
  have c2 := w.c2
  have c3 := w.c3
  unfold s_heard at hs
  obtain ⟨hxe, hs⟩ := gi_of hs
  obtain ⟨e, he, rfl⟩ := vp_in_of hxe (by omega)
  try rw [nI_cl (show e < 2147483648 by omega)] at hs
  cases hs
  exact oT (u_heard w he (by decide))
theorem V_all {y1 : Int32} {y2 : Int32} {y3 : Int32} {y4 : Int32} {y5 : Int32} {y6 : Int32} {y7 : (Nat → Int32)} {y8 : (Nat → Int32)} {y9 : (Nat → Int32)} {y10 : (Nat → Int32)} {y11 : (Nat → Int32)} {y12 : (Nat → Int32)} {y13 : (Nat → Int32)} (hb : BK5 b1 b2 b3 b4 b5 b6 b7 b8 b9 b10 b11 b12 b13 b14 b15 b16 b17 b18 b19 b20 b21 b22 b23 b24 b25 b26 b27 b28 b29 b30 b31 σ) (hs : s_all σ = some r) : ∃ oc, f_X11_all 100000 st y1 y2 y3 y4 y5 y6 y7 y8 y9 y10 y11 y12 y13 b1 b2 b3 b4 b5 b7 b8 b9 b10 b11 b12 b13 b14 b15 b16 b17 b18 b19 b20 b22 b31 = some oc ∧ oc.1 = r := by
  obtain ⟨w, h4, ⟨rfl, rfl, rfl, rfl, rfl⟩, ⟨rfl, rfl, rfl, rfl, rfl, rfl⟩, ⟨⟨lt, rfl⟩, ⟨dt, rfl⟩, ⟨kn, rfl⟩, ⟨md, rfl⟩, ⟨od, rfl⟩, ⟨xx, rfl⟩, ⟨sd, rfl⟩, ⟨us, rfl⟩, ⟨rm, rfl⟩, ⟨sp, rfl⟩⟩, hg, hz⟩ := hb
  have c0 := w.c0
  have c1 := w.c1
  have c2 := w.c2
  have c3 := w.c3
  unfold s_all at hs
  cases hs
  exact oT (u_all w (by decide))
theorem V_later {y1 : Int32} {y2 : Int32} {y3 : Int32} {y4 : Int32} {y5 : Int32} {y6 : Int32} {y7 : (Nat → Int32)} {y8 : (Nat → Int32)} {y9 : (Nat → Int32)} {y10 : (Nat → Int32)} {y11 : (Nat → Int32)} {y12 : (Nat → Int32)} {y13 : (Nat → Int32)} (hb : BK5 b1 b2 b3 b4 b5 b6 b7 b8 b9 b10 b11 b12 b13 b14 b15 b16 b17 b18 b19 b20 b21 b22 b23 b24 b25 b26 b27 b28 b29 b30 b31 σ) (hs : s_later x1 x2 σ = some r) : ∃ oc, f_X11_later 100000 x1 x2 st y1 y2 y3 y4 y5 y6 y7 y8 y9 y10 y11 y12 y13 b1 b2 b3 b4 b5 b7 b8 b9 b10 b11 b12 b13 b14 b15 b16 b17 b18 b19 b20 b22 b31 = some oc ∧ oc.1 = r := by
  obtain ⟨w, h4, ⟨rfl, rfl, rfl, rfl, rfl⟩, ⟨rfl, rfl, rfl, rfl, rfl, rfl⟩, ⟨⟨lt, rfl⟩, ⟨dt, rfl⟩, ⟨kn, rfl⟩, ⟨md, rfl⟩, ⟨od, rfl⟩, ⟨xx, rfl⟩, ⟨sd, rfl⟩, ⟨us, rfl⟩, ⟨rm, rfl⟩, ⟨sp, rfl⟩⟩, hg, hz⟩ := hb
  have c0 := w.c0
  have c1 := w.c1
  have c2 := w.c2
  have c3 := w.c3
  unfold s_later at hs
  obtain ⟨hxk, hs⟩ := gi_of hs
  obtain ⟨k, hk, rfl⟩ := vp_in_of hxk (by omega)
  try rw [nI_cl (show k < 2147483648 by omega)] at hs
  obtain ⟨hxm, hs⟩ := gi_of hs
  obtain ⟨m, hm, rfl⟩ := vp_in_of hxm (by omega)
  try rw [nI_cl (show m < 2147483648 by omega)] at hs
  cases hs
  exact oT (u_later w hk (show m ≤ 999 by omega) (by decide))
theorem V_never {y1 : Int32} {y2 : Int32} {y3 : Int32} {y4 : Int32} {y5 : Int32} {y6 : Int32} {y7 : (Nat → Int32)} {y8 : (Nat → Int32)} {y9 : (Nat → Int32)} {y10 : (Nat → Int32)} {y11 : (Nat → Int32)} {y12 : (Nat → Int32)} {y13 : (Nat → Int32)} (hb : BK5 b1 b2 b3 b4 b5 b6 b7 b8 b9 b10 b11 b12 b13 b14 b15 b16 b17 b18 b19 b20 b21 b22 b23 b24 b25 b26 b27 b28 b29 b30 b31 σ) (hs : s_never σ = some r) : ∃ oc, f_X11_never 100000 st y1 y2 y3 y4 y5 y6 y7 y8 y9 y10 y11 y12 y13 b1 b2 b3 b4 b5 b7 b8 b9 b10 b11 b12 b13 b14 b15 b16 b17 b18 b19 b20 b22 b31 = some oc ∧ oc.1 = r := by
  obtain ⟨w, h4, ⟨rfl, rfl, rfl, rfl, rfl⟩, ⟨rfl, rfl, rfl, rfl, rfl, rfl⟩, ⟨⟨lt, rfl⟩, ⟨dt, rfl⟩, ⟨kn, rfl⟩, ⟨md, rfl⟩, ⟨od, rfl⟩, ⟨xx, rfl⟩, ⟨sd, rfl⟩, ⟨us, rfl⟩, ⟨rm, rfl⟩, ⟨sp, rfl⟩⟩, hg, hz⟩ := hb
  have c0 := w.c0
  have c1 := w.c1
  have c2 := w.c2
  have c3 := w.c3
  unfold s_never at hs
  cases hs
  exact oT (u_never w (by decide))
theorem V_next (hb : BK5 b1 b2 b3 b4 b5 b6 b7 b8 b9 b10 b11 b12 b13 b14 b15 b16 b17 b18 b19 b20 b21 b22 b23 b24 b25 b26 b27 b28 b29 b30 b31 σ) (hs : s_next σ = some r) : ∃ oc, f_X11_next 100000 st b8 b9 b10 b17 = some oc ∧ oc.1 = r := by
  obtain ⟨w, h4, ⟨rfl, rfl, rfl, rfl, rfl⟩, ⟨rfl, rfl, rfl, rfl, rfl, rfl⟩, ⟨⟨lt, rfl⟩, ⟨dt, rfl⟩, ⟨kn, rfl⟩, ⟨md, rfl⟩, ⟨od, rfl⟩, ⟨xx, rfl⟩, ⟨sd, rfl⟩, ⟨us, rfl⟩, ⟨rm, rfl⟩, ⟨sp, rfl⟩⟩, hg, hz⟩ := hb
  have c0 := w.c0
  have c1 := w.c1
  have c2 := w.c2
  have c3 := w.c3
  unfold s_next at hs
  cases hs
  exact oT (u_next w (by decide))
theorem V_orderAt (hb : BK5 b1 b2 b3 b4 b5 b6 b7 b8 b9 b10 b11 b12 b13 b14 b15 b16 b17 b18 b19 b20 b21 b22 b23 b24 b25 b26 b27 b28 b29 b30 b31 σ) (hs : s_orderAt x1 σ = some r) : ∃ oc, f_X11_orderAt x1 st b8 b17 = some oc ∧ oc.1 = r := by
  obtain ⟨w, h4, ⟨rfl, rfl, rfl, rfl, rfl⟩, ⟨rfl, rfl, rfl, rfl, rfl, rfl⟩, ⟨⟨lt, rfl⟩, ⟨dt, rfl⟩, ⟨kn, rfl⟩, ⟨md, rfl⟩, ⟨od, rfl⟩, ⟨xx, rfl⟩, ⟨sd, rfl⟩, ⟨us, rfl⟩, ⟨rm, rfl⟩, ⟨sp, rfl⟩⟩, hg, hz⟩ := hb
  have c0 := w.c0
  have c1 := w.c1
  have c2 := w.c2
  have c3 := w.c3
  unfold s_orderAt at hs
  obtain ⟨hxk, hs⟩ := gi_of hs
  obtain ⟨k, hk, rfl⟩ := vp_in_of hxk (by omega)
  try rw [nI_cl (show k < 2147483648 by omega)] at hs
  cases hs
  exact ⟨_, u_orderAt w hk, rfl⟩
theorem V_kept (hb : BK5 b1 b2 b3 b4 b5 b6 b7 b8 b9 b10 b11 b12 b13 b14 b15 b16 b17 b18 b19 b20 b21 b22 b23 b24 b25 b26 b27 b28 b29 b30 b31 σ) (hs : s_kept σ = some r) : ∃ oc, f_X11_kept 100000 st b3 b11 b20 b22 = some oc ∧ oc.1 = r := by
  obtain ⟨w, h4, ⟨rfl, rfl, rfl, rfl, rfl⟩, ⟨rfl, rfl, rfl, rfl, rfl, rfl⟩, ⟨⟨lt, rfl⟩, ⟨dt, rfl⟩, ⟨kn, rfl⟩, ⟨md, rfl⟩, ⟨od, rfl⟩, ⟨xx, rfl⟩, ⟨sd, rfl⟩, ⟨us, rfl⟩, ⟨rm, rfl⟩, ⟨sp, rfl⟩⟩, hg, hz⟩ := hb
  have c0 := w.c0
  have c1 := w.c1
  have c2 := w.c2
  have c3 := w.c3
  unfold s_kept at hs
  cases hs
  exact ⟨_, u_kept w (by decide), rfl⟩
theorem V_hide (hb : BK5 b1 b2 b3 b4 b5 b6 b7 b8 b9 b10 b11 b12 b13 b14 b15 b16 b17 b18 b19 b20 b21 b22 b23 b24 b25 b26 b27 b28 b29 b30 b31 σ) (hs : s_hide x1 σ = some r) : ∃ oc, f_X11_hide 100000 x1 st b2 b3 b7 b11 b18 b20 b22 = some oc ∧ oc.1 = r := by
  obtain ⟨w, h4, ⟨rfl, rfl, rfl, rfl, rfl⟩, ⟨rfl, rfl, rfl, rfl, rfl, rfl⟩, ⟨⟨lt, rfl⟩, ⟨dt, rfl⟩, ⟨kn, rfl⟩, ⟨md, rfl⟩, ⟨od, rfl⟩, ⟨xx, rfl⟩, ⟨sd, rfl⟩, ⟨us, rfl⟩, ⟨rm, rfl⟩, ⟨sp, rfl⟩⟩, hg, hz⟩ := hb
  have c0 := w.c0
  have c1 := w.c1
  have c2 := w.c2
  have c3 := w.c3
  unfold s_hide at hs
  obtain ⟨hxt, hs⟩ := gi_of hs
  obtain ⟨t, ht, rfl⟩ := vp_in_of hxt (by omega)
  try rw [nI_cl (show t < 2147483648 by omega)] at hs
  cases hs
  exact ⟨_, u_hide w ht (by decide), rfl⟩
theorem V_mix {fa' fb' : Int64} (hb : BK5 b1 b2 b3 b4 b5 b6 b7 b8 b9 b10 b11 b12 b13 b14 b15 b16 b17 b18 b19 b20 b21 b22 b23 b24 b25 b26 b27 b28 b29 b30 b31 σ) (hs : s_mix x1 σ fa fb = some (r, fa', fb')) : ∃ s, f_X11_mix 100000 x1 st b3 b11 b18 fa fb = some (r, s, fa', fb') := by
  obtain ⟨w, h4, ⟨rfl, rfl, rfl, rfl, rfl⟩, ⟨rfl, rfl, rfl, rfl, rfl, rfl⟩, ⟨⟨lt, rfl⟩, ⟨dt, rfl⟩, ⟨kn, rfl⟩, ⟨md, rfl⟩, ⟨od, rfl⟩, ⟨xx, rfl⟩, ⟨sd, rfl⟩, ⟨us, rfl⟩, ⟨rm, rfl⟩, ⟨sp, rfl⟩⟩, hg, hz⟩ := hb
  have c0 := w.c0
  have c1 := w.c1
  have c2 := w.c2
  have c3 := w.c3
  unfold s_mix at hs
  obtain ⟨hxp, hs⟩ := gi_of hs
  obtain ⟨p, hp, rfl⟩ := vp_in_of hxp (by omega)
  try rw [nI_cl (show p < 2147483648 by omega)] at hs
  cases hst : sShut σ p
  · rw [hst, if_neg (by decide)] at hs
    cases hs
    exact ⟨_, u_mix0 w hp hst (by decide)⟩
  · rw [hst, if_pos rfl] at hs
    cases hs
    exact ⟨_, u_mix1 w hp hst⟩
/-- what a change of the row keeps of a book's cells -/
theorem bk5_up {σ' : Nat → Nat} {lt dt kn md od xx sd us rm sp : Nat → Int32} (w' : WF σ') (h4' : σ' 4 ≤ 9999) (hg : b23 = 0 ∨ b23 = 1) (hz : ∃ z, z ≤ 60 ∧ b25 = nI z) :
    BK5 (nI (σ' 0)) (nI (σ' 1)) (nI (σ' 2)) (nI (sB σ')) (nI (sR σ')) b6 (aL lt σ') (nI (σ' 3)) (nI (σ' 8)) (nI (σ' 6)) (nI (σ' 7)) (nI (σ' 4)) (nI (σ' 5)) (aD dt σ') (aK kn σ') (aM md σ') (aO od σ') (aX xx σ') (aS sd σ') (aU us σ') b21 (aR rm σ') b23 b24 b25 b26 b27 b28 b29 b30 (aP sp σ') σ' :=
  ⟨w', h4', ⟨rfl, rfl, rfl, rfl, rfl⟩, ⟨rfl, rfl, rfl, rfl, rfl, rfl⟩, ⟨⟨_, rfl⟩, ⟨_, rfl⟩, ⟨_, rfl⟩, ⟨_, rfl⟩, ⟨_, rfl⟩, ⟨_, rfl⟩, ⟨_, rfl⟩, ⟨_, rfl⟩, ⟨_, rfl⟩, ⟨_, rfl⟩⟩, hg, hz⟩
theorem aSq5 {σ τ : Nat → Nat} {b : Nat → Int32} (e1 : τ 1 = σ 1) (w : σ 1 ≤ 6) (h : ∀ i, 75 ≤ i → i < 111 → τ i = σ i) (h2 : ∀ i, 49 ≤ i → i < 55 → τ i = σ i) : aS b τ = aS b σ := aS_c (fun p hp => sStg_same e1 (fun s hs => by
  unfold sSt sD
  rw [h _ (by omega) (by omega), h2 _ (by omega) (by omega)]))
theorem aUq5 {σ τ : Nat → Nat} {b : Nat → Int32} (h : ∀ i, 75 ≤ i → i < 111 → τ i = σ i) : aU b τ = aU b σ := aU_c (fun p hp => by
  unfold sPr sD
  rw [h _ (by omega) (by omega), h _ (by omega) (by omega), h _ (by omega) (by omega), h _ (by omega) (by omega), h _ (by omega) (by omega), h _ (by omega) (by omega)])
theorem V_damp {σ' : Nat → Nat} (hb : BK5 b1 b2 b3 b4 b5 b6 b7 b8 b9 b10 b11 b12 b13 b14 b15 b16 b17 b18 b19 b20 b21 b22 b23 b24 b25 b26 b27 b28 b29 b30 b31 σ) (hs : s_damp x1 x2 σ = some σ') : ∃ r s, ∃ d11, f_X11_damp x1 x2 st b3 b11 = some (r, s, d11) ∧ BK5 b1 b2 b3 b4 b5 b6 b7 b8 b9 b10 d11 b12 b13 b14 b15 b16 b17 b18 b19 b20 b21 b22 b23 b24 b25 b26 b27 b28 b29 b30 b31 σ' := by
  obtain ⟨w, h4, ⟨rfl, rfl, rfl, rfl, rfl⟩, ⟨rfl, rfl, rfl, rfl, rfl, rfl⟩, ⟨⟨lt, rfl⟩, ⟨dt, rfl⟩, ⟨kn, rfl⟩, ⟨md, rfl⟩, ⟨od, rfl⟩, ⟨xx, rfl⟩, ⟨sd, rfl⟩, ⟨us, rfl⟩, ⟨rm, rfl⟩, ⟨sp, rfl⟩⟩, hg, hz⟩ := hb
  have c0 := w.c0
  have c1 := w.c1
  have c2 := w.c2
  have c3 := w.c3
  unfold s_damp at hs
  obtain ⟨hxp, hs⟩ := gi_of hs
  obtain ⟨p, hp, rfl⟩ := vp_in_of hxp (by omega)
  try rw [nI_cl (show p < 2147483648 by omega)] at hs
  obtain ⟨hg2, hs⟩ := gd_of hs
  obtain ⟨bb, rfl⟩ : ∃ bb : Bool, x2 = bI bb := by
    rcases hg2 with e | e
    · exact ⟨false, e⟩
    · exact ⟨true, e⟩
  have eb : decide (bI bb = 1) = bb := by cases bb <;> rfl
  rw [eb] at hs
  obtain ⟨r, s, hu⟩ := u_damp (st := st) w (b := bb) hp
  have w' : WF (sFlip7 σ p bb) := wf_flip7 w hp
  have hsm : ∀ i, i ≠ 7 → (sFlip7 σ p bb) i = σ i := fun i hi => by
    unfold sFlip7
    split
    · rfl
    · exact up_n _ _ hi
  cases hs
  generalize sFlip7 σ p bb = τ at *
  have s0 : τ 0 = σ 0 := hsm 0 (by omega)
  have s1 : τ 1 = σ 1 := hsm 1 (by omega)
  have s2 : τ 2 = σ 2 := hsm 2 (by omega)
  have s3 : τ 3 = σ 3 := hsm 3 (by omega)
  have s4 : τ 4 = σ 4 := hsm 4 (by omega)
  have key := bk5_up (b6 := b6) (b21 := b21) (b23 := b23) (b24 := b24) (b25 := b25) (b26 := b26) (b27 := b27) (b28 := b28) (b29 := b29) (b30 := b30) (lt := lt) (dt := dt) (kn := kn) (md := md) (od := od) (xx := xx) (sd := sd) (us := us) (rm := rm) (sp := sp) w' (by rw [s4]; exact h4) hg hz
  rw [s0, s1, s2, s3, s4, hsm 8 (by omega), hsm 6 (by omega), hsm 5 (by omega), sBq (σ := σ) (τ := τ) (fun i _ _ => hsm i (by omega)), sRq (σ := σ) (τ := τ) (fun i _ _ => hsm i (by omega)), aLq (b := lt) s1 c1 (fun i _ _ => hsm i (by omega)), aD_c (b := dt) (σ := τ) (τ := σ) (fun i _ _ => hsm i (by omega)), aK_c (b := kn) (σ := τ) (τ := σ) (fun i _ _ => hsm i (by omega)), aM_c (b := md) (σ := τ) (τ := σ) (fun i _ _ => hsm i (by omega)), aOq (b := od) s3 c3 (fun i _ _ => hsm i (by omega)), aXq (b := xx) (fun i _ _ => hsm i (by omega)), aSq5 (b := sd) s1 c1 (fun i _ _ => hsm i (by omega)) (fun i _ _ => hsm i (by omega)), aUq5 (σ := σ) (τ := τ) (b := us) (fun i _ _ => hsm i (by omega)), aRq (b := rm) s2 c2 (fun i _ _ => hsm i (by omega)), aPq (b := sp) s0 c0 (fun i _ _ => hsm i (by omega))] at key
  exact ⟨_, s, _, hu, key⟩
theorem V_ill {σ' : Nat → Nat} (hb : BK5 b1 b2 b3 b4 b5 b6 b7 b8 b9 b10 b11 b12 b13 b14 b15 b16 b17 b18 b19 b20 b21 b22 b23 b24 b25 b26 b27 b28 b29 b30 b31 σ) (hs : s_ill x1 x2 σ = some σ') : ∃ r s, ∃ d10, f_X11_ill x1 x2 st b1 b10 = some (r, s, d10) ∧ BK5 b1 b2 b3 b4 b5 b6 b7 b8 b9 d10 b11 b12 b13 b14 b15 b16 b17 b18 b19 b20 b21 b22 b23 b24 b25 b26 b27 b28 b29 b30 b31 σ' := by
  obtain ⟨w, h4, ⟨rfl, rfl, rfl, rfl, rfl⟩, ⟨rfl, rfl, rfl, rfl, rfl, rfl⟩, ⟨⟨lt, rfl⟩, ⟨dt, rfl⟩, ⟨kn, rfl⟩, ⟨md, rfl⟩, ⟨od, rfl⟩, ⟨xx, rfl⟩, ⟨sd, rfl⟩, ⟨us, rfl⟩, ⟨rm, rfl⟩, ⟨sp, rfl⟩⟩, hg, hz⟩ := hb
  have c0 := w.c0
  have c1 := w.c1
  have c2 := w.c2
  have c3 := w.c3
  unfold s_ill at hs
  obtain ⟨hxk, hs⟩ := gi_of hs
  obtain ⟨k, hk, rfl⟩ := vp_in_of hxk (by omega)
  try rw [nI_cl (show k < 2147483648 by omega)] at hs
  obtain ⟨hg2, hs⟩ := gd_of hs
  obtain ⟨bb, rfl⟩ : ∃ bb : Bool, x2 = bI bb := by
    rcases hg2 with e | e
    · exact ⟨false, e⟩
    · exact ⟨true, e⟩
  have eb : decide (bI bb = 1) = bb := by cases bb <;> rfl
  rw [eb] at hs
  obtain ⟨r, s, hu⟩ := u_ill (st := st) w (b := bb) hk
  have w' : WF (sFlip6 σ k bb) := wf_flip6 w hk
  have hsm : ∀ i, i ≠ 6 → (sFlip6 σ k bb) i = σ i := fun i hi => by
    unfold sFlip6
    split
    · rfl
    · exact up_n _ _ hi
  cases hs
  generalize sFlip6 σ k bb = τ at *
  have s0 : τ 0 = σ 0 := hsm 0 (by omega)
  have s1 : τ 1 = σ 1 := hsm 1 (by omega)
  have s2 : τ 2 = σ 2 := hsm 2 (by omega)
  have s3 : τ 3 = σ 3 := hsm 3 (by omega)
  have s4 : τ 4 = σ 4 := hsm 4 (by omega)
  have key := bk5_up (b6 := b6) (b21 := b21) (b23 := b23) (b24 := b24) (b25 := b25) (b26 := b26) (b27 := b27) (b28 := b28) (b29 := b29) (b30 := b30) (lt := lt) (dt := dt) (kn := kn) (md := md) (od := od) (xx := xx) (sd := sd) (us := us) (rm := rm) (sp := sp) w' (by rw [s4]; exact h4) hg hz
  rw [s0, s1, s2, s3, s4, hsm 8 (by omega), hsm 7 (by omega), hsm 5 (by omega), sBq (σ := σ) (τ := τ) (fun i _ _ => hsm i (by omega)), sRq (σ := σ) (τ := τ) (fun i _ _ => hsm i (by omega)), aLq (b := lt) s1 c1 (fun i _ _ => hsm i (by omega)), aD_c (b := dt) (σ := τ) (τ := σ) (fun i _ _ => hsm i (by omega)), aK_c (b := kn) (σ := τ) (τ := σ) (fun i _ _ => hsm i (by omega)), aM_c (b := md) (σ := τ) (τ := σ) (fun i _ _ => hsm i (by omega)), aOq (b := od) s3 c3 (fun i _ _ => hsm i (by omega)), aXq (b := xx) (fun i _ _ => hsm i (by omega)), aSq5 (b := sd) s1 c1 (fun i _ _ => hsm i (by omega)) (fun i _ _ => hsm i (by omega)), aUq5 (σ := σ) (τ := τ) (b := us) (fun i _ _ => hsm i (by omega)), aRq (b := rm) s2 c2 (fun i _ _ => hsm i (by omega)), aPq (b := sp) s0 c0 (fun i _ _ => hsm i (by omega))] at key
  exact ⟨_, s, _, hu, key⟩
theorem V_move {σ' : Nat → Nat} (hb : BK5 b1 b2 b3 b4 b5 b6 b7 b8 b9 b10 b11 b12 b13 b14 b15 b16 b17 b18 b19 b20 b21 b22 b23 b24 b25 b26 b27 b28 b29 b30 b31 σ) (hs : s_move x1 x2 σ = some (r, σ')) : ∃ s, ∃ d17, f_X11_move 100000 x1 x2 st b1 b8 b17 = some (r, s, d17) ∧ BK5 b1 b2 b3 b4 b5 b6 b7 b8 b9 b10 b11 b12 b13 b14 b15 b16 d17 b18 b19 b20 b21 b22 b23 b24 b25 b26 b27 b28 b29 b30 b31 σ' := by
  obtain ⟨w, h4, ⟨rfl, rfl, rfl, rfl, rfl⟩, ⟨rfl, rfl, rfl, rfl, rfl, rfl⟩, ⟨⟨lt, rfl⟩, ⟨dt, rfl⟩, ⟨kn, rfl⟩, ⟨md, rfl⟩, ⟨od, rfl⟩, ⟨xx, rfl⟩, ⟨sd, rfl⟩, ⟨us, rfl⟩, ⟨rm, rfl⟩, ⟨sp, rfl⟩⟩, hg, hz⟩ := hb
  have c0 := w.c0
  have c1 := w.c1
  have c2 := w.c2
  have c3 := w.c3
  unfold s_move at hs
  obtain ⟨hxa, hs⟩ := gi_of hs
  obtain ⟨a, ha, rfl⟩ := vp_in_of hxa (by omega)
  try rw [nI_cl (show a < 2147483648 by omega)] at hs
  obtain ⟨hxb, hs⟩ := gi_of hs
  obtain ⟨b, hb, rfl⟩ := vp_in_of hxb (by omega)
  try rw [nI_cl (show b < 2147483648 by omega)] at hs
  obtain ⟨s, hu⟩ := u_move (st := st) (od := od) (fu := 100000) w ha hb (by decide)
  have w' : WF ((sMove σ a b).2) := (wf_move w (a := a) (b := b)).1
  have hsm : ∀ i, ¬ (67 ≤ i ∧ i < 67 + σ 3) → ((sMove σ a b).2) i = σ i := (wf_move w (a := a) (b := b)).2
  cases hs
  generalize (sMove σ a b).2 = τ at *
  have s0 : τ 0 = σ 0 := hsm 0 (by omega)
  have s1 : τ 1 = σ 1 := hsm 1 (by omega)
  have s2 : τ 2 = σ 2 := hsm 2 (by omega)
  have s3 : τ 3 = σ 3 := hsm 3 (by omega)
  have s4 : τ 4 = σ 4 := hsm 4 (by omega)
  have key := bk5_up (b6 := b6) (b21 := b21) (b23 := b23) (b24 := b24) (b25 := b25) (b26 := b26) (b27 := b27) (b28 := b28) (b29 := b29) (b30 := b30) (lt := lt) (dt := dt) (kn := kn) (md := md) (od := od) (xx := xx) (sd := sd) (us := us) (rm := rm) (sp := sp) w' (by rw [s4]; exact h4) hg hz
  rw [s0, s1, s2, s3, s4, hsm 8 (by omega), hsm 6 (by omega), hsm 7 (by omega), hsm 5 (by omega), sBq (σ := σ) (τ := τ) (fun i _ _ => hsm i (by omega)), sRq (σ := σ) (τ := τ) (fun i _ _ => hsm i (by omega)), aLq (b := lt) s1 c1 (fun i _ _ => hsm i (by omega)), aD_c (b := dt) (σ := τ) (τ := σ) (fun i _ _ => hsm i (by omega)), aK_c (b := kn) (σ := τ) (τ := σ) (fun i _ _ => hsm i (by omega)), aM_c (b := md) (σ := τ) (τ := σ) (fun i _ _ => hsm i (by omega)), aXq (b := xx) (fun i _ _ => hsm i (by omega)), aSq5 (b := sd) s1 c1 (fun i _ _ => hsm i (by omega)) (fun i _ _ => hsm i (by omega)), aUq5 (σ := σ) (τ := τ) (b := us) (fun i _ _ => hsm i (by omega)), aRq (b := rm) s2 c2 (fun i _ _ => hsm i (by omega)), aPq (b := sp) s0 c0 (fun i _ _ => hsm i (by omega))] at key
  exact ⟨s, _, hu, key⟩
theorem V_rub {σ' : Nat → Nat} (hb : BK5 b1 b2 b3 b4 b5 b6 b7 b8 b9 b10 b11 b12 b13 b14 b15 b16 b17 b18 b19 b20 b21 b22 b23 b24 b25 b26 b27 b28 b29 b30 b31 σ) (hs : s_rub x1 σ = some σ') : ∃ r s, ∃ d14 d19 d20, f_X11_rub 100000 x1 st b3 b14 b19 b20 = some (r, s, d14, d19, d20) ∧ BK5 b1 b2 b3 b4 b5 b6 b7 b8 b9 b10 b11 b12 b13 d14 b15 b16 b17 b18 d19 d20 b21 b22 b23 b24 b25 b26 b27 b28 b29 b30 b31 σ' := by
  obtain ⟨w, h4, ⟨rfl, rfl, rfl, rfl, rfl⟩, ⟨rfl, rfl, rfl, rfl, rfl, rfl⟩, ⟨⟨lt, rfl⟩, ⟨dt, rfl⟩, ⟨kn, rfl⟩, ⟨md, rfl⟩, ⟨od, rfl⟩, ⟨xx, rfl⟩, ⟨sd, rfl⟩, ⟨us, rfl⟩, ⟨rm, rfl⟩, ⟨sp, rfl⟩⟩, hg, hz⟩ := hb
  have c0 := w.c0
  have c1 := w.c1
  have c2 := w.c2
  have c3 := w.c3
  unfold s_rub at hs
  obtain ⟨hxp, hs⟩ := gi_of hs
  obtain ⟨p, hp, rfl⟩ := vp_in_of hxp (by omega)
  try rw [nI_cl (show p < 2147483648 by omega)] at hs
  obtain ⟨r, s, hu⟩ := u_rub (st := st) (dt := dt) (sd := sd) (us := us) (fu := 100000) w hp (by decide)
  have w' : WF (sErase σ p) := wf_erase w
  have hsm : ∀ i, i < 75 → (sErase σ p) i = σ i := fun i hi => sErase_lo hi
  cases hs
  generalize sErase σ p = τ at *
  have s0 : τ 0 = σ 0 := hsm 0 (by omega)
  have s1 : τ 1 = σ 1 := hsm 1 (by omega)
  have s2 : τ 2 = σ 2 := hsm 2 (by omega)
  have s3 : τ 3 = σ 3 := hsm 3 (by omega)
  have s4 : τ 4 = σ 4 := hsm 4 (by omega)
  have key := bk5_up (b6 := b6) (b21 := b21) (b23 := b23) (b24 := b24) (b25 := b25) (b26 := b26) (b27 := b27) (b28 := b28) (b29 := b29) (b30 := b30) (lt := lt) (dt := dt) (kn := kn) (md := md) (od := od) (xx := xx) (sd := sd) (us := us) (rm := rm) (sp := sp) w' (by rw [s4]; exact h4) hg hz
  rw [s0, s1, s2, s3, s4, hsm 8 (by omega), hsm 6 (by omega), hsm 7 (by omega), hsm 5 (by omega), sBq (σ := σ) (τ := τ) (fun i _ _ => hsm i (by omega)), sRq (σ := σ) (τ := τ) (fun i _ _ => hsm i (by omega)), aLq (b := lt) s1 c1 (fun i _ _ => hsm i (by omega)), aK_c (b := kn) (σ := τ) (τ := σ) (fun i _ _ => hsm i (by omega)), aM_c (b := md) (σ := τ) (τ := σ) (fun i _ _ => hsm i (by omega)), aOq (b := od) s3 c3 (fun i _ _ => hsm i (by omega)), aXq (b := xx) (fun i _ _ => hsm i (by omega)), aRq (b := rm) s2 c2 (fun i _ _ => hsm i (by omega)), aPq (b := sp) s0 c0 (fun i _ _ => hsm i (by omega))] at key
  exact ⟨_, s, _, _, _, hu, key⟩
theorem V_turn {σ' : Nat → Nat} (hb : BK5 b1 b2 b3 b4 b5 b6 b7 b8 b9 b10 b11 b12 b13 b14 b15 b16 b17 b18 b19 b20 b21 b22 b23 b24 b25 b26 b27 b28 b29 b30 b31 σ) (hs : s_turn x1 σ = some (r, σ')) : ∃ s, ∃ d9 d12 d13 d14 d15 d16 d19 d20, f_X11_turn 100000 x1 st b2 b3 b4 b5 b7 b8 b9 b10 b11 b12 b13 b14 b15 b16 b17 b19 b20 b22 b31 = some (r, s, d9, d12, d13, d14, d15, d16, d19, d20) ∧ BK5 b1 b2 b3 b4 b5 b6 b7 b8 d9 b10 b11 d12 d13 d14 d15 d16 b17 b18 d19 d20 b21 b22 b23 b24 b25 b26 b27 b28 b29 b30 b31 σ' := by
  obtain ⟨w, h4, ⟨rfl, rfl, rfl, rfl, rfl⟩, ⟨rfl, rfl, rfl, rfl, rfl, rfl⟩, ⟨⟨lt, rfl⟩, ⟨dt, rfl⟩, ⟨kn, rfl⟩, ⟨md, rfl⟩, ⟨od, rfl⟩, ⟨xx, rfl⟩, ⟨sd, rfl⟩, ⟨us, rfl⟩, ⟨rm, rfl⟩, ⟨sp, rfl⟩⟩, hg, hz⟩ := hb
  have c0 := w.c0
  have c1 := w.c1
  have c2 := w.c2
  have c3 := w.c3
  unfold s_turn at hs
  obtain ⟨hxm, hs⟩ := gi_of hs
  obtain ⟨m, hm, rfl⟩ := vp_in_of hxm (by omega)
  try rw [nI_cl (show m < 2147483648 by omega)] at hs
  by_cases m0 : m = 0
  · rw [if_pos m0] at hs; cases hs
  rw [if_neg m0] at hs
  by_cases m9 : 9999 < σ 4 + m
  · rw [if_pos m9] at hs; cases hs
  rw [if_neg m9] at hs
  have hu := u_turn (st := st) (lt := lt) (dt := dt) (kn := kn) (md := md) (od := od) (sd := sd) (us := us) (rm := rm) (sp := sp) (fu := 100000) w (m := m) (by omega) (by omega) (by omega) (by decide)
  have w' : WF (sIt m σ) := (sIt_ok w m).1
  have hsm : ∀ i, (i < 33 ∨ (49 ≤ i ∧ i < 75)) ∧ i ≠ 4 ∧ i ≠ 5 ∧ i ≠ 8 → (sIt m σ) i = σ i := fun i hi => (sIt_ok w m).2.1 i hi.1 hi.2.1 hi.2.2.1 hi.2.2.2
  cases hs
  have h4' : (sIt m σ) 4 ≤ 9999 := by rw [(sIt_ok w m).2.2]; omega
  generalize sIt m σ = τ at *
  have s0 : τ 0 = σ 0 := hsm 0 (by omega)
  have s1 : τ 1 = σ 1 := hsm 1 (by omega)
  have s2 : τ 2 = σ 2 := hsm 2 (by omega)
  have s3 : τ 3 = σ 3 := hsm 3 (by omega)
  have key := bk5_up (b6 := b6) (b21 := b21) (b23 := b23) (b24 := b24) (b25 := b25) (b26 := b26) (b27 := b27) (b28 := b28) (b29 := b29) (b30 := b30) (lt := lt) (dt := dt) (kn := kn) (md := md) (od := od) (xx := xx) (sd := sd) (us := us) (rm := rm) (sp := sp) w' h4' hg hz
  rw [s0, s1, s2, s3, hsm 6 (by omega), hsm 7 (by omega), sBq (σ := σ) (τ := τ) (fun i _ _ => hsm i (by omega)), sRq (σ := σ) (τ := τ) (fun i _ _ => hsm i (by omega)), aLq (b := lt) s1 c1 (fun i _ _ => hsm i (by omega)), aOq (b := od) s3 c3 (fun i _ _ => hsm i (by omega)), aXq (b := xx) (fun i _ _ => hsm i (by omega)), aRq (b := rm) s2 c2 (fun i _ _ => hsm i (by omega)), aPq (b := sp) s0 c0 (fun i _ _ => hsm i (by omega))] at key
  exact ⟨_, _, _, _, _, _, _, _, _, hu, key⟩
end VV
