/-! the next TOKEN on both sides; what a TOKEN is asked -/
section NX
variable {B : Nat → Nat} {E fu : Nat} {tp tq : Nat → Int32} {K : Nat → Int64} {pl nx kd kk : Nat} {wd wd2 : Int64} {nu nu2 le : Int32}
theorem tk_next (h : TX B E tp tq) (hK : ∀ k, k < 24 → K k = lN (KEY k)) {a : Nat} (ha : a ≤ E) (hfu : 2000 < fu) (x1 x2 : Int32) (x3 : Int64) (x4 x5 y1 y2 y3 y4 : Int32) (y5 : Int64) :
    ∃ pl nx kd kk wd nu nu2 le wd2, a ≤ pl ∧ TOK B E pl nx kd kk wd nu nu2 le wd2 ∧
      f_X8_forward fu (nI E) (nI a) x1 x2 x3 x4 x5 K tp = some (nI nx, nI kd, nI pl, wd, kI kk, nu) ∧
      f_X12_advance fu (nI E) y1 y2 (nI a) y3 y4 y5 tq = some (nI kd, nI pl, nI nx, nu2, le, wd2) := by
  have hE := h.1
  obtain ⟨pl, h1, h2, h3, h4⟩ := tk_skip (fu := fu) (K := K) h (E - a) a (by omega)
  unfold f_X8_forward f_X12_advance
  rw [h3 fu x1 x2 x3 x4 x5 (by omega), h4 fu y1 (nI a) y3 y4 y5 (by omega)]
  unfold f_X8_forward_52 f_X12_advance_58
  rcases Nat.lt_or_ge pl E with hp | hp
  · obtain ⟨hB, htp, htq⟩ := h.2 pl hp
    rw [if_pos (show nI pl < nI E by rw [nI_lt' (by omega) (by omega)]; exact hp), if_pos (show nI pl < nI E by rw [nI_lt' (by omega) (by omega)]; exact hp), gi_n (by omega) (by omega), nI_cl (by omega), t_letter h hp, m_look h hp, bd_s, bd_s, m_letter _ hB, bd_s]
    cases hl : isLt (B pl)
    · rw [if_pos (show bI false = 0 from rfl), if_pos (show bI false = 0 from rfl), gi_n (by omega) (by omega), t_digit h hp, m_digit _ hB, bd_s, bd_s]
      cases hd : isDg (B pl)
      · rw [if_pos (show bI false = 0 from rfl), if_pos (show bI false = 0 from rfl), gi_n (by omega) (by omega), t_sign h hp, bd_s]
        simp only [lt_, nI_add]
        rw [m_signB _ hB, bd_s]
        cases hs : isSg (B pl)
        · refine ⟨pl, pl + 1, 4, 24, x3, x5, nI (B pl), y4, y5, h1, ⟨⟨by omega, by omega, by omega, by omega, fun e => (by omega), fun _ => (by omega)⟩, fun e => (by omega), fun _ => rfl, fun e => (by omega), fun e => (by omega)⟩, ?_, ?_⟩
          · rw [if_pos (show bI false = 0 from rfl)]; rfl
          · rw [if_pos (show bI false = 0 from rfl)]
        · refine ⟨pl, pl + 1, 3, 24, x3, x5, nI (B pl), y4, y5, h1, ⟨⟨by omega, by omega, by omega, by omega, fun e => (by omega), fun _ => (by omega)⟩, fun e => (by omega), fun _ => rfl, fun e => (by omega), fun e => ⟨rfl, hB⟩⟩, ?_, ?_⟩
          · rw [if_neg (show ¬ bI true = 0 by decide)]; rfl
          · rw [if_neg (show ¬ bI true = 0 by decide)]
      · rw [if_neg (show ¬ bI true = 0 by decide), if_neg (show ¬ bI true = 0 by decide)]
        obtain ⟨L, a1, a2, a3, a4, a5, a6⟩ := tk_num (fu := fu) h (pl := pl) (E - pl) 0 (by omega) (fun i hi => absurd hi (Nat.not_lt_zero i))
        have hL := a4 (by omega) hd
        obtain ⟨x6, a7, a8⟩ := a6 fu y1 (nI 0) y4 y5 (by omega) (fun _ => rfl)
        refine ⟨pl, pl + L, if L ≤ 4 then 2 else 4, 24, x3, nI (dv B pl L), x6, y4, y5, h1, ⟨⟨by omega, by omega, by split <;> omega, by omega, fun e => (by split at e <;> omega), fun _ => (by omega)⟩, fun e => (by split at e <;> omega), fun _ => rfl, fun e => ?_, fun e => (by split at e <;> omega)⟩, ?_, a7⟩
        · have hL4 : L ≤ 4 := by
            rcases Nat.lt_or_ge 4 L with q | q
            · rw [if_neg (by omega)] at e; omega
            · exact q
          refine ⟨a8 hL4, dv B pl L, ?_, rfl⟩
          have := dv_lt L a3
          have h10 : 10 ^ L ≤ 10 ^ 4 := Nat.pow_le_pow_right (by omega) hL4
          omega
        · unfold f_X8_takeNumber
          rw [show f_X8_takeNumber_5 fu (nI E) (nI pl) tp fu (nI pl) x1 (nI 0) = _ from a5 fu x1 (by omega), bd_s]; rfl
    · rw [if_neg (show ¬ bI true = 0 by decide), if_neg (show ¬ bI true = 0 by decide)]
      obtain ⟨L, a1, a2, a3, a4, a5, a6⟩ := tk_word (fu := fu) (K := K) h (pl := pl) (E - pl) 0 (by omega) (fun i hi => absurd hi (Nat.not_lt_zero i))
      have hL := a4 (by omega) hl
      have a7 := a6 fu (nI 1) y3 y4 (by omega)
      rw [if_pos (show 0 ≤ 8 by omega)] at a7
      have hc : f_X8_takeWord fu (nI E) (nI pl) x1 (nI pl) x3 (-1 : Int32) K tp = some (nI (pl + L), nI 1, (if L ≤ 8 then lN (wv B pl L) else (-1 : Int64)), kI (lkw (if L ≤ 8 then lN (wv B pl L) else (-1 : Int64)) 24)) := by
        unfold f_X8_takeWord
        rw [show f_X8_takeWord_2 fu (nI E) (nI pl) K tp fu (lN 0) (nI pl) x1 x3 (-1 : Int32) = _ from a5 fu x1 x3 (-1 : Int32) (by omega)]
        unfold f_X8_takeWord_55
        rw [pk_sub (by omega), Nat.add_sub_cancel_left]
        by_cases e : L ≤ 8
        · rw [if_pos (show nI L ≤ nI 8 by rw [nI_le' (by omega) (by omega)]; exact e), if_pos e]
          exact tk_key hK (by omega)
        · rw [if_neg (show ¬ nI L ≤ nI 8 by rw [nI_le' (by omega) (by omega)]; exact e), if_neg e]
          exact tk_key hK (by omega)
      refine ⟨pl, pl + L, 1, lkw (if L ≤ 8 then lN (wv B pl L) else (-1 : Int64)) 24, (if L ≤ 8 then lN (wv B pl L) else (-1 : Int64)), x5, y3, nI L, (if L ≤ 8 then lN (wv B pl L) else (-1 : Int64)), h1, ⟨⟨by omega, by omega, by omega, lkw_24 _, fun e => (by omega), fun _ => (by omega)⟩, fun _ => ⟨rfl, by rw [Nat.add_sub_cancel_left], fun k hk => lkw_iff hk, ?_⟩, fun e => absurd rfl e, fun e => (by omega), fun e => (by omega)⟩, ?_, a7⟩
      · rw [Nat.add_sub_cancel_left]
        by_cases e : L ≤ 8
        · rw [if_pos e]
          refine Or.inl ⟨e, _, ?_, rfl⟩
          have := wv_lt L a3
          have h32 : 32 ^ L ≤ 32 ^ 8 := Nat.pow_le_pow_right (by omega) e
          omega
        · rw [if_neg e]
          exact Or.inr ⟨by omega, rfl⟩
      · rw [hc, bd_s]
  · obtain rfl : pl = E := by omega
    rw [if_neg (Int32.lt_irrefl), if_neg (Int32.lt_irrefl)]
    exact ⟨pl, pl, 0, 24, x3, x5, y3, y4, y5, h1, ⟨⟨by omega, by omega, by omega, by omega, fun _ => rfl, fun e => absurd rfl e⟩, fun e => (by omega), fun _ => rfl, fun e => (by omega), fun e => (by omega)⟩, rfl, rfl⟩
/-! what the reference asks of a word -/
theorem m_isW (T : TOK B E pl nx kd kk wd nu nu2 le wd2) {k : Nat} (hk : k < 24) : f_X12_isWord (lN (KEY k)) (nI kd) wd2 = some (bI (decide (kk = k))) := by
  obtain ⟨⟨h1, h2, h3, h4, h5, h6⟩, h7, h8, -, -⟩ := T
  unfold f_X12_isWord
  by_cases e : kd = 1
  · obtain ⟨a, b, c, d⟩ := h7 e
    rw [if_pos (by rw [e]), a]
    by_cases e2 : kk = k
    · rw [if_pos (show lg_cmp wd (lN (KEY k)) = 0 by rw [lg_eq0]; exact (c k hk).mpr e2), decide_eq_true e2]; rfl
    · rw [if_neg (show ¬ lg_cmp wd (lN (KEY k)) = 0 by rw [lg_eq0]; exact fun q => e2 ((c k hk).mp q)), decide_eq_false e2]; rfl
  · have := h8 e
    rw [if_neg (show ¬ nI kd = nI 1 by rw [nI_eq' (by omega) (by omega)]; exact e), decide_eq_false (by omega)]; rfl
end NX
