/-! a BOOK, part by part -/
section BL
variable {B : Nat → Nat} {E fu : Nat} {tp tq : Nat → Int32} {K : Nat → Int64} {pl nx kd kk : Nat} {wd wd2 : Int64} {nu nu2 le fk fp ba : Int32} {c : Nat → Int32} {σ : Nat → Nat} {wds cn sn pn : Nat → Int64} {od : Nat → Int32} {Q : Nat → Nat → Int32}
theorem r_takeOrder (h : TX B E tp tq) (hK : ∀ k, k < 24 → K k = lN (KEY k)) (T : TOK B E pl nx kd kk wd nu nu2 le wd2) (w : WD σ) (hN : NM 4 cn sn pn wds (σ 0) (σ 1) (σ 2)) (o : Int32) (hfu : 2000 < fu) :
    (∃ (σ' : Nat → Nat) (od' : Nat → Int32), ∃ y1 y2 y3 y4 y5 y6 r pl' nx' kd' kk' wd' nu' nu2' le' wd2', nx ≤ pl' ∧ TOK B E pl' nx' kd' kk' wd' nu' nu2' le' wd2' ∧
      f_X2_takeOrder fu o (nI E) (nI nx) (nI kd) (nI pl) wd (kI kk) nu fk fp K tp (nI (σ 0)) cn (nI (σ 3)) (aO od σ) = some (nI 1, nI 1, nI nx', nI kd', nI pl', wd', kI kk', nu', fk, fp, nI (σ' 3), aO od' σ') ∧
      f_X12_readOrder fu (nI E) (nI 0) ba (nI kd) (nI pl) (nI nx) nu2 le wd2 o (mk4 c σ) tq wds = some (nI 0, ba, y1, y2, y3, y4, y5, y6, nI 1, mk4 c σ') ∧
      f_X12_isSign (nI 59) y1 y4 = some r ∧ f_X12_must fu r (nI E) (nI 0) ba y1 y2 y3 y4 y5 y6 tq = some (nI 0, ba, nI kd', nI pl', nI nx', nu2', le', wd2') ∧
      WD σ' ∧ (∀ i, i ≠ 3 → ¬ (67 ≤ i ∧ i < 75) → σ' i = σ i)) ∨
    (∃ k p, 1 ≤ k ∧ k ≤ 7 ∧ ∃ u0 u1 u2 u3 : Int32, ∃ u4 : Int64, ∃ u5 u6 o1 : Int32, ∃ (o2 : Nat → Int32), ∃ y1 y2 y3 y4 y5 y6 y7 : Int32, ∃ y8 : Int64, ∃ (ot' : Int32) (c' : Nat → Int32), ∃ r z1 z2 z3 z4 z5 : Int32, ∃ z6 : Int64,
      f_X2_takeOrder fu o (nI E) (nI nx) (nI kd) (nI pl) wd (kI kk) nu fk fp K tp (nI (σ 0)) cn (nI (σ 3)) (aO od σ) = some (nI 0, u0, u1, u2, u3, u4, u5, u6, nI k, nI p, o1, o2) ∧
      f_X12_readOrder fu (nI E) (nI 0) ba (nI kd) (nI pl) (nI nx) nu2 le wd2 o (mk4 c σ) tq wds = some (y1, y2, y3, y4, y5, y6, y7, y8, ot', c') ∧
      (∀ i, i < 1560 → c' i = c i) ∧
      f_X12_isSign (nI 59) y3 y6 = some r ∧ f_X12_must fu r (nI E) y1 y2 y3 y4 y5 y6 y7 y8 tq = some (nI k, nI p, z1, z2, z3, z4, z5, z6)) := by
  have hT := T.1
  obtain ⟨pl1, nx1, kd1, kk1, wd1, nu1, nu21, le1, wd21, a1, T1, a3, a4⟩ := tk_next (fu := fu) h hK (a := nx) (by omega) hfu (nI kd) (nI pl) wd (kI kk) nu (nI kd) (nI pl) nu2 le wd2
  have t1 := T1.1
  unfold f_X2_takeOrder f_X12_readOrder
  rw [a3, bd_s, a4, bd_s]
  simp only
  have e0 : up σ 3 0 0 = σ 0 := up_n _ _ (by omega)
  have e3 : up σ 3 0 3 = 0 := up_s _ _ _
  have eo : aO (aO od σ) (up σ 3 0) = aO od σ := by
    conv => lhs; unfold aO
    rw [e3, mkF_0]
    rfl
  have em : up (up σ 3 0) 3 (σ 3) = σ := by
    funext i
    unfold up
    by_cases e : i = 3
    · rw [if_pos e, e]
    · rw [if_neg e, if_neg e]
  have G := order_G (fu := fu) (ba := ba) (fk := fk) (fp := fp) (c := c) (od := aO od σ) (m := σ 3) (cn := cn) (wds := wds) h hK hfu 9 (up σ 3 0) 0 fu fu pl1 nx1 kd1 kk1 wd1 wd21 nu1 nu21 le1 (by rw [e3]) (by omega) (by omega) (wd_3 w) (by rw [e0]; exact hN.1) (by omega) (fun k hk => by
    rw [Nat.zero_testBit, e3]
    exact ⟨fun q => absurd q (by decide), fun ⟨i, q, _⟩ => absurd q (Nat.not_lt_zero i)⟩) T1
  rw [e0, e3, eo, em] at G
  rcases G with ⟨ρ', y1, y2, y3, y4, y5, y6, r, pl', nx', kd', kk', wd', nu', nu2', le', wd2', b1, b2, b3, b4, b5, b6, b7, b8⟩ | ⟨k, p, b1, b2, u0, u1, u2, u3, u4, u5, u6, o1, o2, y1, y2, y3, y4, y5, y6, y7, y8, c', r, z1, z2, z3, z4, z5, z6, d1, d2, d3, d4, d5⟩
  · exact Or.inl ⟨ρ', aO od σ, y1, y2, y3, y4, y5, y6, r, pl', nx', kd', kk', wd', nu', nu2', le', wd2', by omega, b2, b3, b4 o, b5, b6, b7, fun i hi1 hi2 => by rw [b8 i hi1 hi2, up_n _ _ hi1]⟩
  · obtain ⟨ot', d2'⟩ := d2 o
    exact Or.inr ⟨k, p, b1, b2, u0, u1, u2, u3, u4, u5, u6, o1, o2, y1, y2, y3, y4, y5, y6, y7, y8, ot', c', r, z1, z2, z3, z4, z5, z6, d1, d2', d3, d4, d5⟩
/-- the class's way through the parts -/
def t14 (fu E : Nat) (K : Nat → Int64) (tp : Nat → Int32) (N : Nat) (z3 i o x1 x2 x3 : Int32) (x4 : Int64) (x5 x6 fk fp : Int32) (σ : Nat → Nat) (cn sn pn : Nat → Int64) (od : Nat → Int32) (Q : Nat → Nat → Int32) :=
  f_X2_take_14 fu (nI E) K tp N z3 i o x1 x2 x3 x4 x5 x6 fk fp (nI (σ 0)) (nI (σ 1)) (nI (σ 2)) (nI (sB σ)) (nI (sR σ)) cn (aL (Q 0) σ) (nI (σ 3)) (nI 0) (nI 0) (nI 0) (nI 0) (nI 0) (Q 6) (aK (Q 1) σ) (Q 7) (aO od σ) (aX (Q 3) σ) (Q 8) (Q 9) pn (aR (Q 4) σ) (nI 0) (nI 0) (nI 0) sn (aP (Q 5) σ)
def t163 (fu E : Nat) (K : Nat → Int64) (tp : Nat → Int32) (z3 o x1 x2 x3 : Int32) (x4 : Int64) (x5 x6 fk fp : Int32) (σ : Nat → Nat) (cn sn pn : Nat → Int64) (od : Nat → Int32) (Q : Nat → Nat → Int32) :=
  f_X2_take_163 fu (nI E) K tp z3 o x1 x2 x3 x4 x5 x6 fk fp (nI (σ 0)) (nI (σ 1)) (nI (σ 2)) (nI (sB σ)) (nI (sR σ)) cn (aL (Q 0) σ) (nI (σ 3)) (nI 0) (nI 0) (nI 0) (nI 0) (nI 0) (Q 6) (aK (Q 1) σ) (Q 7) (aO od σ) (aX (Q 3) σ) (Q 8) (Q 9) pn (aR (Q 4) σ) (nI 0) (nI 0) (nI 0) sn (aP (Q 5) σ)
/-- behind a FAULT the class does nothing more -/
theorem t14_bad {N : Nat} {K : Nat → Int64} {e i o x1 x2 x3 x5 x6 fk fp a1 a2 a3 a4 a5 a8 a9 a10 a11 a12 a13 p1 p2 p3 : Int32} {x4 : Int64} {n1 n2 n3 : Nat → Int64} {g1 g2 g3 g4 g5 g6 g7 g8 g9 g10 : Nat → Int32} :
    ∃ oo, f_X2_take_14 fu e K tp (N + 1) (nI 0) i o x1 x2 x3 x4 x5 x6 fk fp a1 a2 a3 a4 a5 n1 g1 a8 a9 a10 a11 a12 a13 g2 g3 g4 g5 g6 g7 g8 n2 g9 p1 p2 p3 n3 g10 = some oo ∧ oo.1 = nI 0 ∧ oo.2.2.2.2.2.2.2.2.1 = fk ∧ oo.2.2.2.2.2.2.2.2.2.1 = fp := by
  refine ⟨(nI 0, o, x1, x2, x3, x4, x5, x6, fk, fp, a1, a2, a3, a4, a5, n1, g1, a8, a9, a10, a11, a12, a13, g2, g3, g4, g5, g6, g7, g8, n2, g9, p1, p2, p3, n3, g10), ?_, rfl, rfl, rfl⟩
  unfold f_X2_take_14
  rw [if_pos (show nI 0 = 0 from rfl)]
  unfold f_X2_take_163
  rw [if_pos (show nI 0 = 0 from rfl), gd_0]
  split <;> rfl
theorem well_bad {k : Nat} {p s f1 f2 : Int32} (h1 : 1 ≤ k) (h2 : k ≤ 7) : f_X12_isWell s f1 f2 (nI k) p = some (nI 0, nI 10, nI k, p) := by
  unfold f_X12_isWell
  rw [if_neg (b_eq h1 h2)]
  unfold f_X12_isWell_24
  rw [if_neg (b_eq h1 h2)]
  rfl
theorem well_ok {p s f1 f2 : Int32} : f_X12_isWell s f1 f2 (nI 0) p = some (nI 1, s, nI 0, (-1 : Int32)) := rfl
theorem b54_bad {N k : Nat} {p s th ta e f1 f2 y1 y2 y3 y4 y5 ot : Int32} {y6 : Int64} {g : Nat → Int32} (h1 : 1 ≤ k) (h2 : k ≤ 7) : f_X12_book_54 fu tq (N + 1) s th ta e f1 f2 (nI k) p y1 y2 y3 y4 y5 y6 ot g wds = some ((-1 : Int32), nI 10, th, ta, e, nI k, p, nI k, p, y1, y2, y3, y4, y5, y6, ot, g, wds) := by
  unfold f_X12_book_54
  rw [if_neg (b_eq h1 h2), well_bad h1 h2, bd_s]
  rfl
end BL
