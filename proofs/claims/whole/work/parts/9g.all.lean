theorem stD_congr {cd : Nat} {blk : Bool} {a b : Int32} {C C' : Nat → Int32} {n0 n1 n2 s : Nat} (h : stD cd blk a b C n0 n1 n2 s) (hC : ∀ j, j < 8 → C' (113 + 9 * s + j) = C (113 + 9 * s + j)) : stD cd blk a b C' n0 n1 n2 s := by
  intro R p h0 h2 h3
  have g := h R p h0 h2 h3
  have k0 : C' (113 + 9 * s) = C (113 + 9 * s) := hC 0 (by omega)
  have k1 := hC 1 (by omega)
  have k2 := hC 2 (by omega)
  have k6 := hC 6 (by omega)
  cases blk with
  | false =>
    rw [if_neg (by decide)] at g ⊢
    unfold stS stX at g ⊢
    rw [k0, k1, k2]
    exact g
  | true =>
    rw [if_pos rfl] at g ⊢
    unfold stW stL at g ⊢
    rw [k0, k1, k2, k6]
    exact g
section AL
variable {B : Nat → Nat} {E fu : Nat} {tp tq : Nat → Int32} {K : Nat → Int64} {W cn sn pn : Nat → Int64} {n0 n1 n2 : Nat} {fk fp pr ba : Int32}
theorem one_all (h : TX B E tp tq) (hE : E ≤ 300) (hK : ∀ k, k < 24 → K k = lN (KEY k)) (h8 : n0 ≤ 8) (h61 : n1 ≤ 6) (h62 : n2 ≤ 6) (hN : NM 0 cn sn pn W n0 n1 n2) (hfu : 2000 < fu) : ∀ D dep w, w + D = 3 → D < dep → ONE B fu E K tp tq W n0 n1 n2 cn pn sn fk fp pr ba D dep w := by
  intro D
  induction D with
  | zero =>
    intro dep w hw hd i pl nx kd kk s p wd wd2 nu nu2 le c op co ma on ot T hk hkd hs hp hi hc0 hc1 hc2
    obtain ⟨d, rfl⟩ : ∃ d, dep = d + 1 := ⟨dep - 1, by omega⟩
    obtain ⟨fM, hfM⟩ : ∃ N, fu = N + 1 := ⟨fu - 1, by omega⟩
    have hT := T.1
    rcases r_head (ba := ba) (fk := fk) (fp := fp) (op := op) (co := co) (ma := ma) (on := on) (ot := ot) (REC := f_X12_readStep fu d) h hK T hs hp (by omega) hc0 hc1 hc2 h8 h61 h62 hN hk hfu with ⟨cd, blk, a, b, c1, pl', nx', kd', kk', wd', nu', nu2', le', wd2', g1, g2, g3, T', g4, g5, g6, g7, g8, g9, g10⟩ | ⟨k, q, k1, k2, u1, u2, u3, u4, u5, u6, z1, z2, z3, z4, z5, z6, x, c1, g1, g2, g3⟩
    · have hT' := T'.1
      cases blk with
      | true => have := g6 rfl; omega
      | false =>
        rw [if_neg (show ¬ false = true by decide), if_neg (show ¬ false = true by decide)] at g7
        refine Or.inl ⟨1, op, nx', kd', pl', wd', kk', nu', s + 1, p + 1, upd co p (nI cd), upd ma p (-1 : Int32), upd on p a, upd ot p b, upd c1 (1673 + 9 * s + 8) (nI (s + 1)), nu2', le', wd2', ⟨fun N => ?_, T', ⟨by omega, by omega, by omega, by omega, by omega⟩, fun _ _ => rfl, fun j hj => ⟨updN (by omega), updN (by omega), updN (by omega), updN (by omega)⟩, fun j hj => by rw [updN (by omega)]; exact g10 j (Or.inl hj), ?_⟩, ?_⟩
        · unfold T15
          rw [rd_step hE T hi hkd hk, g7, bd_s]
        · refine lay_one ?_ ?_
          · show upd c1 (1673 + 9 * s + 8) (nI (s + 1)) (1560 + (113 + 9 * s + 8)) = nI (s + 1)
            rw [show 1560 + (113 + 9 * s + 8) = 1673 + 9 * s + 8 by omega]
            exact updS
          · have := stD_congr (C' := fun i => upd c1 (1673 + 9 * s + 8) (nI (s + 1)) (1560 + i)) g9 (fun j hj => updN (by omega)) (row4 (upd co p (nI cd)) (upd ma p (-1 : Int32)) (upd on p a) (upd ot p b)) p updS updS updS
            rw [if_neg (show ¬ false = true by decide)] at this
            exact this
        · show f_X12_readStepB fu (f_X12_readStep fu d) (nI w) (nI E) (nI 0) ba (nI kd) (nI pl) (nI nx) nu2 le wd2 (nI s) c tq W = _
          rw [g8]
          conv => lhs; rw [show f_X12_readStep_142 fu (nI E) tq W (f_X12_readStep fu d) fu = f_X12_readStep_142 fu (nI E) tq W (f_X12_readStep fu d) (fM + 1) from by rw [← hfM]]
          unfold f_X12_readStep_142
          rw [if_pos (show bI false = 0 from rfl)]
          unfold f_X12_readStep_170
          rw [if_pos (show bI false = 0 from rfl)]
          unfold f_X12_readStep_192
          rw [nI_add, gi_n (by omega) (by omega), nI_cl (by omega)]
    · exact Or.inr ⟨k, q, 1, k1, k2, by omega, fun N hN => T15_step hE T hi hkd hk hN g1, ⟨z1, z2, z3, z4, z5, z6, x, c1, g2, g3⟩⟩
  | succ D ih =>
    intro dep w hw hd i pl nx kd kk s p wd wd2 nu nu2 le c op co ma on ot T hk hkd hs hp hi hc0 hc1 hc2
    obtain ⟨d, rfl⟩ : ∃ d, dep = (d + 1) + 1 := ⟨dep - 2, by omega⟩
    obtain ⟨fM, hfM⟩ : ∃ N, fu = N + 1 := ⟨fu - 1, by omega⟩
    have hT := T.1
    rcases r_head (ba := ba) (fk := fk) (fp := fp) (op := op) (co := co) (ma := ma) (on := on) (ot := ot) (REC := f_X12_readStep fu (d + 1)) h hK T hs hp (by omega) hc0 hc1 hc2 h8 h61 h62 hN hk hfu with ⟨cd, blk, a, b, c1, pl', nx', kd', kk', wd', nu', nu2', le', wd2', g1, g2, g3, T', g4, g5, g6, g7, g8, g9, g10⟩ | ⟨k, q, k1, k2, u1, u2, u3, u4, u5, u6, z1, z2, z3, z4, z5, z6, x, c1, g1, g2, g3⟩
    · have hT' := T'.1
      cases blk with
      | true =>
        rw [if_pos rfl, if_pos rfl] at g7
        have hst : ∀ N, T15 fu E K tp n0 n1 n2 cn pn sn fk fp pr (N + 1) i w op nx kd pl wd kk nu s p co ma on ot = T15 fu E K tp n0 n1 n2 cn pn sn fk fp pr N (i + 1) (w + 1) (upd op w (nI p)) nx' kd' pl' wd' kk' nu' (s + 1) (p + 1) (upd co p (nI cd)) (upd ma p (-1 : Int32)) (upd on p a) (upd ot p b) := by
          intro N
          unfold T15
          rw [rd_step hE T hi hkd hk, g7, bd_s]
        have hmo : f_X12_readStep fu ((d + 1) + 1) (nI w) (nI E) (nI 0) ba (nI kd) (nI pl) (nI nx) nu2 le wd2 (nI s) c tq W = f_X12_readStep_142 fu (nI E) tq W (f_X12_readStep fu (d + 1)) fu (nI w) (nI 1) (nI (1673 + 9 * s)) (nI 0) ba (nI kd') (nI pl') (nI nx') nu2' le' wd2' (nI (s + 1)) c1 := g8
        rcases in_list (dep := d) (s0 := s) g3 hE (show w < 3 by omega) (ih (d + 1) (w + 1) (by omega) (by omega)) (E - pl') (i + 1) pl' nx' kd' kk' (s + 1) (p + 1) wd' wd2' nu' nu2' le' c1 (upd op w (nI p)) (upd co p (nI cd)) (upd ma p (-1 : Int32)) (upd on p a) (upd ot p b) (Nat.le_refl _) T' (by omega) (by omega) (by omega) (by rw [g10 _ (by omega)]; exact hc0) (by rw [g10 _ (by omega)]; exact hc1) (by rw [g10 _ (by omega)]; exact hc2) with ⟨n, I, op2, nx2, kd2, pl2, wd2q, kk2, nu2q, s2, p2, co2, ma2, on2, ot2, c2, nu22, le2, wd22, f1, f2, f3⟩ | ⟨k, q, I, h1, h2, h3, h4, h5⟩
        · obtain ⟨q1, q2, q3, q4, q5, q6, q7⟩ := f1
          have hl := Lay_le q7
          have hT2 := q2.1
          rcases r_end (s := s2) (p := p2) (fk := fk) (fp := fp) (pr := pr) (ba := ba) (n0 := n0) (n1 := n1) (n2 := n2) (cn := cn) (pn := pn) (sn := sn) (W := W) (co := co2) (ma := ma2) (on := on2) (ot := ot2) (c := c2) (REC := f_X12_readStep fu (d + 1)) (s0 := s) (op := op2) (p0 := p) (i := i + 1 + I) h hE hK q2 f2 (by omega) (show w < 3 by omega) (by omega) (by omega) (by omega) (by rw [q4 w (by omega)]; exact updS) (by omega) hfu with ⟨pl4, nx4, kd4, kk4, wd4, nu4, nu24, le4, wd24, r1, r2, r3, r4⟩ | ⟨k, q, r1, r2, r3, r4⟩
          · refine Or.inl ⟨I + 2, op2, nx4, kd4, pl4, wd4, kk4, nu4, s2, p2 + 1, upd co2 p2 (nI 22), upd (upd (upd ma2 p2 (-1 : Int32)) p2 (nI p)) p (nI p2), upd on2 p2 (nI 0), upd ot2 p2 (nI 0), upd c2 (1673 + 9 * s + 8) (nI s2), nu24, le4, wd24, ⟨fun N => ?_, r2, ⟨by omega, by omega, by omega, by omega, by omega⟩, fun j hj => ?_, fun j hj => ?_, fun j hj => ?_, ?_⟩, ?_⟩
            · rw [show N + (I + 2) = ((N + 1) + I) + 1 by omega, hst, q1, r3, show i + 1 + I + 1 = i + (I + 2) by omega]
            · rw [q4 j (by omega), updN (by omega)]
            · obtain ⟨w1, w2, w3, w4⟩ := q5 j (by omega)
              refine ⟨?_, ?_, ?_, ?_⟩
              · rw [updN (by omega), w1, updN (by omega)]
              · rw [updN (by omega), updN (by omega), updN (by omega), w2, updN (by omega)]
              · rw [updN (by omega), w3, updN (by omega)]
              · rw [updN (by omega), w4, updN (by omega)]
            · rw [updN (by omega), q6 j (by omega)]; exact g10 j (Or.inl hj)
            · obtain ⟨w1, w2, w3, w4⟩ := q5 p (by omega)
              refine lay_blk (D := D) (n := n) ?_ ?_ ?_ ?_ ?_ ?_
              · show upd c2 (1673 + 9 * s + 8) (nI s2) (1560 + (113 + 9 * s + 8)) = nI s2
                rw [show 1560 + (113 + 9 * s + 8) = 1673 + 9 * s + 8 by omega]
                exact updS
              · have := stD_congr (C' := fun i => upd c2 (1673 + 9 * s + 8) (nI s2) (1560 + i)) g9 (fun j hj => by
                  show upd c2 (1673 + 9 * s + 8) (nI s2) (1560 + (113 + 9 * s + j)) = c1 (1560 + (113 + 9 * s + j))
                  rw [updN (by omega)]
                  exact q6 _ (by omega)) (row4 (upd co2 p2 (nI 22)) (upd (upd (upd ma2 p2 (-1 : Int32)) p2 (nI p)) p (nI p2)) (upd on2 p2 (nI 0)) (upd ot2 p2 (nI 0))) p (by
                  show upd co2 p2 (nI 22) p = nI cd
                  rw [updN (by omega), w1]; exact updS) (by
                  show upd on2 p2 (nI 0) p = a
                  rw [updN (by omega), w3]; exact updS) (by
                  show upd ot2 p2 (nI 0) p = b
                  rw [updN (by omega), w4]; exact updS)
                rw [if_pos rfl] at this
                exact this
              · exact updS
              · show upd (upd (upd ma2 p2 (-1 : Int32)) p2 (nI p)) p (nI p2) p2 = nI p
                rw [updN (by omega)]; exact updS
              · exact updS
              · refine Lay_congr q7 (fun j ha hj i _ => row4_at ⟨updN (by omega), ?_, updN (by omega), updN (by omega)⟩) (fun j ha hj => updN (by omega))
                rw [updN (by omega), updN (by omega), updN (by omega)]
            · rw [hmo, f3 fu (by omega)]
              exact r4
          · refine Or.inr ⟨k, q, I + 2, r1, r2, by omega, fun N hN => ?_, ?_⟩
            · rw [show N + (I + 2) = ((N + 1) + I) + 1 by omega, hst, q1]
              exact r3 N hN
            · obtain ⟨z1, z2, z3, z4, z5, z6, x, c4, hz, hc⟩ := r4
              rw [hmo, f3 fu (by omega)]
              exact ⟨z1, z2, z3, z4, z5, z6, x, c4, hz, fun j hj => by rw [hc j hj, q6 j (by omega)]; exact g10 j (Or.inl (by omega))⟩
        · refine Or.inr ⟨k, q, I + 1, h1, h2, by omega, fun N hN => ?_, ?_⟩
          · rw [show N + (I + 1) = (N + I) + 1 by omega, hst]
            exact h4 N hN
          · obtain ⟨z1, z2, z3, z4, z5, z6, x, c4, hz, hc⟩ := h5 fu (by omega)
            rw [hmo]
            exact ⟨z1, z2, z3, z4, z5, z6, x, c4, hz, fun j hj => by rw [hc j hj]; exact g10 j (Or.inl (by omega))⟩
      | false =>
        rw [if_neg (show ¬ false = true by decide), if_neg (show ¬ false = true by decide)] at g7
        refine Or.inl ⟨1, op, nx', kd', pl', wd', kk', nu', s + 1, p + 1, upd co p (nI cd), upd ma p (-1 : Int32), upd on p a, upd ot p b, upd c1 (1673 + 9 * s + 8) (nI (s + 1)), nu2', le', wd2', ⟨fun N => ?_, T', ⟨by omega, by omega, by omega, by omega, by omega⟩, fun _ _ => rfl, fun j hj => ⟨updN (by omega), updN (by omega), updN (by omega), updN (by omega)⟩, fun j hj => by rw [updN (by omega)]; exact g10 j (Or.inl hj), ?_⟩, ?_⟩
        · unfold T15
          rw [rd_step hE T hi hkd hk, g7, bd_s]
        · refine lay_one ?_ ?_
          · show upd c1 (1673 + 9 * s + 8) (nI (s + 1)) (1560 + (113 + 9 * s + 8)) = nI (s + 1)
            rw [show 1560 + (113 + 9 * s + 8) = 1673 + 9 * s + 8 by omega]
            exact updS
          · have := stD_congr (C' := fun i => upd c1 (1673 + 9 * s + 8) (nI (s + 1)) (1560 + i)) g9 (fun j hj => updN (by omega)) (row4 (upd co p (nI cd)) (upd ma p (-1 : Int32)) (upd on p a) (upd ot p b)) p updS updS updS
            rw [if_neg (show ¬ false = true by decide)] at this
            exact this
        · show f_X12_readStepB fu (f_X12_readStep fu (d + 1)) (nI w) (nI E) (nI 0) ba (nI kd) (nI pl) (nI nx) nu2 le wd2 (nI s) c tq W = _
          rw [g8]
          conv => lhs; rw [show f_X12_readStep_142 fu (nI E) tq W (f_X12_readStep fu (d + 1)) fu = f_X12_readStep_142 fu (nI E) tq W (f_X12_readStep fu (d + 1)) (fM + 1) from by rw [← hfM]]
          unfold f_X12_readStep_142
          rw [if_pos (show bI false = 0 from rfl)]
          unfold f_X12_readStep_170
          rw [if_pos (show bI false = 0 from rfl)]
          unfold f_X12_readStep_192
          rw [nI_add, gi_n (by omega) (by omega), nI_cl (by omega)]
    · exact Or.inr ⟨k, q, 1, k1, k2, by omega, fun N hN => T15_step hE T hi hkd hk hN g1, ⟨z1, z2, z3, z4, z5, z6, x, c1, g2, g3⟩⟩
end AL
