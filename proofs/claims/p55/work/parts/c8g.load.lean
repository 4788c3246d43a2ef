/-! load of the law's text -/
section BO5
variable {vh : Nat → Int32}
set_option maxRecDepth 100000 in
set_option maxHeartbeats 8000000 in
theorem bok (H : HV vh) : BOK (txt vh) (sg vh) := by
  intro fl tp vm hS
  obtain ⟨hL, hb, hfl, h20, h21, h22, htp, hvm⟩ := id hS
  have hKR : ∀ k, k < 24 → g0 6 k = lN (KEY k) := fun k hk => if_pos hk
  have hTx : Txt (BL (txt vh)) (txt vh).length 0 (txt vh) := ⟨by omega, fun i _ => by rw [Nat.zero_add], fun i h1 h2 => by omega⟩
  have hTX : ∀ tp' : Nat → Int32, (∀ i, i < (txt vh).length → tp' i = bx (BL (txt vh) i)) → TX (BL (txt vh)) (txt vh).length tp' tp' := fun tp' h => ⟨by omega, fun i hi => ⟨by have := hb i hi; omega, h i hi, h i hi⟩⟩
  unfold f_L_load
  rw [gi_n (by decide) (by decide), nI_cl (n := 21) (by decide), h21]
  unfold lt_
  dsimp only
  rw [gi_n (by decide) (by decide), nI_cl (n := 20) (by decide), h20]
  have hm : (txt vh).length % 20 < 20 := Nat.mod_lt _ (by decide)
  by_cases c : (txt vh).length % 20 = 0
  · rw [if_pos (by rw [c]; decide)]
    unfold f_L_load_17
    rw [gi_n (by decide) (by decide), gi_n (by decide) (by decide), nI_cl (n := 21) (by decide), nI_cl (n := 22) (by decide), if_pos (by rw [upd_n (by decide), h22]; rfl), hfl]
    refine ex_bd (k_book (T := 20 * ((txt vh).length / 20)) (hTX tp (fun i hi => htp i (by omega))) hKR H hTx (by omega) (by omega) (by omega) (by decide)) (fun v hv => ?_)
    obtain ⟨s, p1, p2, p3, p4, p5, p6, p7, p8, p9, p10, p11, p12, p13, p14, p15, p16, p17, p18, p19, p20, p21, p22, p23, p24, p25, p26, p27, p28, p29, p30, p31, ord', q1, q2, q3, q4, q5, q6, q7, q8, q9, q10, q11, q12, q13, q14, q15, q16, q17, q18, q19, q20, q21, q22, q23, q24, q25, q30, q31, g1, g2, g3, g4, g5, g6, g7, g8, g9, g0', rfl, hB⟩ := hv
    exact ⟨_, rfl, rfl, hB, ⟨rfl, fun τ h => by cases h⟩, ⟨rfl, by omega, fun k hk => absurd hk (Nat.not_lt_zero k)⟩, rfl, rfl⟩
  · rw [if_neg (by rw [nI_le0 (by omega)]; exact c), hfl]
    obtain ⟨vm', e1, e2, e3⟩ := l_feed (tp := tp) (fu := 100000) (F := 20 * ((txt vh).length / 20)) (r := (txt vh).length % 20) (n := fun k => BL (txt vh) (20 * ((txt vh).length / 20) + k)) hvm h20 (by omega) (fun j hj => hb _ (by omega)) (by omega) (by decide)
    rw [e1, bd_s]
    dsimp only
    have hw : ∀ i, i < (txt vh).length → wr tp (20 * ((txt vh).length / 20)) (pad (fun k => BL (txt vh) (20 * ((txt vh).length / 20) + k)) ((txt vh).length % 20)) 20 i = bx (BL (txt vh) i) := fun i hi => by
      unfold wr
      by_cases h2 : 20 * ((txt vh).length / 20) ≤ i ∧ i < 20 * ((txt vh).length / 20) + 20
      · rw [if_pos h2]
        unfold pad
        rw [if_pos (by omega)]
        dsimp only
        rw [show 20 * ((txt vh).length / 20) + (i - 20 * ((txt vh).length / 20)) = i by omega]
      · rw [if_neg h2]
        exact htp i (by omega)
    generalize wr tp (20 * ((txt vh).length / 20)) (pad (fun k => BL (txt vh) (20 * ((txt vh).length / 20) + k)) ((txt vh).length % 20)) 20 = tw at hw
    unfold f_L_load_17
    rw [gi_n (by decide) (by decide), gi_n (by decide) (by decide), nI_cl (n := 21) (by decide), nI_cl (n := 22) (by decide), if_pos (by rw [upd_n (by decide), e3 22 (by decide), h22]; rfl)]
    refine ex_bd (k_book (T := 20 * ((txt vh).length / 20) + 20) (hTX tw hw) hKR H hTx (by omega) (by omega) (by omega) (by decide)) (fun v hv => ?_)
    obtain ⟨s, p1, p2, p3, p4, p5, p6, p7, p8, p9, p10, p11, p12, p13, p14, p15, p16, p17, p18, p19, p20, p21, p22, p23, p24, p25, p26, p27, p28, p29, p30, p31, ord', q1, q2, q3, q4, q5, q6, q7, q8, q9, q10, q11, q12, q13, q14, q15, q16, q17, q18, q19, q20, q21, q22, q23, q24, q25, q30, q31, g1, g2, g3, g4, g5, g6, g7, g8, g9, g0', rfl, hB⟩ := hv
    exact ⟨_, rfl, rfl, hB, ⟨rfl, fun τ h => by cases h⟩, ⟨rfl, by omega, fun k hk => absurd hk (Nat.not_lt_zero k)⟩, rfl, rfl⟩
end BO5
