/-! book(n) of the law's text; load -/
theorem ex_bd {α β : Type} {x : Option β} {k : β → Option α} {P : α → Prop} {W : β → Prop} (hx : ∃ v, x = some v ∧ W v) (hk : ∀ v, W v → ∃ oc, k v = some oc ∧ P oc) : ∃ oc, bd_ x k = some oc ∧ P oc := by
  obtain ⟨v, rfl, hv⟩ := hx
  exact hk v hv
section KB
variable {b1 b2 b3 b4 b5 b8 b9 b10 b11 b12 b13 b23 b24 b25 d1 d2 d3 d4 d5 d8 d9 d10 d11 d12 d13 d23 d24 d25 : Int32} {b6 b21 b30 d6 d21 d30 : Nat → Int64} {b7 b14 b15 b16 b17 b18 b19 b20 b22 b26 b27 b28 b29 b31 d7 d14 d15 d16 d17 d18 d19 d20 d22 d26 d27 d28 d29 d31 : Nat → Int32} {fu T E : Nat} {K : Nat → Int64} {tp : Nat → Int32} {B : Nat → Nat} {st ord e1 e2 e3 e4 e6 e7 e8 e9 : Int32} {e5 : Int64} {vh : Nat → Int32}
set_option maxRecDepth 100000 in
set_option maxHeartbeats 4000000 in
theorem k_book (hX : TX B E tp tp) (hK : ∀ k, k < 24 → K k = lN (KEY k)) (H : HV vh) (hT : Txt B E 0 (txt vh)) (hET : E ≤ T) (hE8 : E < 900) (hT9 : T ≤ 900) (hfu : 4000 < fu) :
    ∃ v, f_X11_book fu (nI E) st b1 b2 b3 b4 b5 b6 b7 b8 b9 b10 b11 b12 b13 b14 b15 b16 b17 b18 b19 b20 b21 b22 b23 b24 b25 b26 b27 b28 b29 b30 b31 ord d1 d2 d3 d4 d5 d6 d7 d8 d9 d10 d11 d12 d13 d14 d15 d16 d17 d18 d19 d20 d21 d22 d23 d24 d25 d26 d27 d28 d29 d30 d31 (nI T) e1 e2 e3 e4 e5 e6 e7 e8 e9 K tp = some v ∧ ∃ (s : Int32), ∃ p1 p2 p3 p4 p5 p6 p7 p8 p9 p10 p11 p12 p13 p14 p15 p16 p17 p18 p19 p20 p21 p22 p23 p24 p25 p26 p27 p28 p29 p30 p31, ∃ ord' q1 q2 q3 q4 q5 q6 q7 q8 q9 q10 q11 q12 q13 q14 q15 q16 q17 q18 q19 q20 q21 q22 q23 q24 q25 q30 q31 g1 g2 g3 g4 g5 g6 g7 g8 g9 g0', v = (nI (sg vh 0), s, p1, p2, p3, p4, p5, p6, p7, p8, p9, p10, p11, p12, p13, p14, p15, p16, p17, p18, p19, p20, p21, p22, p23, p24, p25, p26, p27, p28, p29, p30, p31, ord', q1, q2, q3, q4, q5, q6, q7, q8, q9, q10, q11, q12, q13, q14, q15, q16, q17, q18, q19, q20, q21, q22, q23, q24, q25, q30, q31, g0', g1, g2, g3, g4, g5, g6, g7, g8, g9) ∧ BK5 p1 p2 p3 p4 p5 p6 p7 p8 p9 p10 p11 p12 p13 p14 p15 p16 p17 p18 p19 p20 p21 p22 p23 p24 p25 p26 p27 p28 p29 p30 p31 (sg vh) := by
  obtain ⟨Q, hQ, q6, q7, q8, q9⟩ : ∃ Q : Nat → Nat → Int32, (∀ (x2 x3 x4 : Int32) (x5 : Int64) (x6 x7 x8 x9 : Int32), f_X2_take fu ord (nI E) x2 x3 x4 x5 x6 x7 x8 x9 K tp d1 d2 d3 d4 d5 d6 d7 d8 d9 d10 d11 d12 d13 d14 d15 d16 d17 d18 d19 d20 d21 d22 d23 d24 d25 d30 d31 = t14 fu E K tp fu (nI 1) (nI 0) (nI 0) x2 x3 x4 x5 x6 x7 x8 x9 (fun _ => 0) d6 d30 d21 d17 Q) ∧ Q 6 = mkF d14 36 (fun _ => 0) ∧ Q 7 = mkF d16 8 (fun _ => 0) ∧ Q 8 = mkF d19 6 (fun _ => 0) ∧ Q 9 = mkF d20 6 (fun _ => 0) := ⟨_, fun _ _ _ _ _ _ _ _ => take_0 (by omega), rfl, rfl, rfl, rfl⟩
  have hF := pp_all (fu := fu) (fk := nI 0) (fp := (-1 : Int32)) (Q := Q) hX hK (by omega) H d6 d30 d21 d17 ⟨fun k hk => absurd hk (Nat.not_lt_zero k), fun k hk => absurd hk (Nat.not_lt_zero k), fun k hk => absurd hk (Nat.not_lt_zero k)⟩ 0 hT e3 e4 e5 e6 e7
  obtain ⟨nx, kd, pl, wd, kk, nu, h3, h4⟩ := hF
  have hl := hT.1
  rw [Nat.zero_add] at hl
  obtain ⟨cn', sn', pn', od', x1, x2, x3, x4, x5, x6, g1⟩ := h4 fu 0 (by omega) (by omega)
  have w := wd_sgF H
  have ho : oFv vh ≤ 1 := by unfold oFv; split <;> omega
  obtain ⟨od2, hC⟩ := c_163 (fu := fu) (E := E) (K := K) (tp := tp) (cn := cn') (sn := sn') (pn := pn') (od := od') (x1 := x1) (x2 := x2) (x3 := x3) (x4 := x4) (x5 := x5) (x6 := x6) (fk := nI 0) (fp := (-1 : Int32)) (Q := Q) w ho (by omega)
  have hw := wd_fin (o := oFv vh) w
  rw [sgF_is H] at hC hw
  have hz := hw.2.2.2.2.2.2
  unfold f_X11_book f_X8_begin
  rw [if_neg (show ¬ nI E < 0 by rw [nI_lt0 (by omega)]; exact id), if_pos (show nI E ≤ nI T by rw [nI_le' (by omega) (by omega)]; exact hET), h3, bd_s, bd_s]
  simp only
  rw [if_neg (show ¬ nI 1 = 0 by decide), hQ, g1, hC, bd_s]
  rw [q6, q7, q8, q9]
  simp only
  rw [show f_X8_empty (nI T) = some (nI 0) from rfl, bd_s, if_neg (show ¬ nI 1 = 0 by decide)]
  have hD : BK5 (nI (sg vh 0)) (nI (sg vh 1)) (nI (sg vh 2)) (nI (sB (sg vh))) (nI (sR (sg vh))) cn' (aL (Q 0) (sg vh)) (nI (sg vh 3)) (nI 0) (nI 0) (nI 0) (nI 0) (nI 0) (mkF d14 36 (fun _ => 0)) (aK (Q 1) (sg vh)) (mkF d16 8 (fun _ => 0)) (aO od2 (sg vh)) (aX (Q 3) (sg vh)) (mkF d19 6 (fun _ => 0)) (mkF d20 6 (fun _ => 0)) pn' (aR (Q 4) (sg vh)) (nI 0) (nI 0) (nI 0) d26 d27 d28 d29 sn' (aP (Q 5) (sg vh)) (sg vh) := by
    refine ⟨hw.wf, by rw [hz 4 (by omega)]; omega, ⟨rfl, rfl, rfl, rfl, rfl⟩, ⟨rfl, by rw [hz 8 (by omega)], by rw [hz 6 (by omega)], by rw [hz 7 (by omega)], by rw [hz 4 (by omega)], by rw [hz 5 (by omega)]⟩, ⟨⟨_, rfl⟩, ⟨d14, z_D hw⟩, ⟨_, rfl⟩, ⟨d16, z_M hw⟩, ⟨_, rfl⟩, ⟨_, rfl⟩, ⟨d19, z_S hw⟩, ⟨d20, z_U hw⟩, ⟨_, rfl⟩, ⟨_, rfl⟩⟩, Or.inl rfl, 0, by omega, rfl⟩
  obtain ⟨o1, o2, o3, o4, o5, o6, o7, o8, o9, o10, o11, o12, o13, o14, o15, o16, o17, o18, o19, o20, o21, o22, o23, o24, o25, o26, o27, o28, o29, o30, o31, hc, hB2⟩ := c_copyBook5 (q1 := b1) (q2 := b2) (q3 := b3) (q4 := b4) (q5 := b5) (q6 := b6) (q7 := b7) (q8 := b8) (q9 := b9) (q10 := b10) (q11 := b11) (q12 := b12) (q13 := b13) (q14 := b14) (q15 := b15) (q16 := b16) (q17 := b17) (q18 := b18) (q19 := b19) (q20 := b20) (q21 := b21) (q22 := b22) (q23 := b23) (q24 := b24) (q25 := b25) (q26 := b26) (q27 := b27) (q28 := b28) (q29 := b29) (q30 := b30) (q31 := b31) hD
  have hc0 : o1 = nI (sg vh 0) := hB2.2.2.1.1
  rw [hc, bd_s]
  simp only
  rw [ans11, bd_s, ← hc0]
  refine ⟨_, rfl, _, o1, o2, o3, o4, o5, o6, o7, o8, o9, o10, o11, o12, o13, o14, o15, o16, o17, o18, o19, o20, o21, o22, o23, o24, o25, o26, o27, o28, o29, o30, o31, _, _, _, _, _, _, _, _, _, _, _, _, _, _, _, _, _, _, _, _, _, _, _, _, _, _, _, _, _, _, _, _, _, _, _, _, _, _, rfl, hB2⟩
end KB
