/-! the law's rounds, one and all -/
section LAW4
variable {fu n1 : Nat} {xs : Nat → Int32} {vh : Nat → Int32} {K : Int32 → Int32 → (Nat → Nat) → Option (Nat → Nat) → Nat → (Nat → Nat) → Int64 → Int64 → Option (Int32)} {z4 z5 z6 z8 : Int32} {σ ρ τ : Nat → Nat} {bm : Nat} {bo : Nat → Nat} {fa fb : Int64} {B c e : Nat} {va : Nat → Int32}
theorem T248 (H : HV vh) (hK : HK vh K z4 z5 (σ 4 + 4)) (h : RI vh σ) (hB : σ 4 ≤ 9000) (hfu : 1000 < fu) : ∀ k j n, j + k = hN vh 0 → k < n → f_L_law_248 fu n1 xs vh K n z4 z5 z6 (nI (sAll6 σ)) (nI (sm (fun k => σ (41 + k)) j)) (nI j) σ none bm bo fa fb = some (nI 1) := by
  have w := h.1
  have h0 := H.2.1.1
  have h1 := H.2.1.2.1
  have e0 := h.2.1.1
  have e1 := h.2.1.2.1
  have c0 := w.c0
  have c1 := w.c1
  obtain ⟨im, im2⟩ := h.2.2.2.2.2.1
  have hA := all6_le w
  have h5 := im2.2
  intro k
  induction k with
  | zero =>
    intro j n hj hn
    obtain ⟨n, rfl⟩ : ∃ m, n = m + 1 := ⟨n - 1, by omega⟩
    obtain rfl : j = σ 0 := by omega
    rw [sm_mo im im2 c0]
    unfold f_L_law_248
    obtain ⟨q1, hq1, eq1⟩ := and3 z6
    obtain ⟨q2, hq2, eq2⟩ := and7 (z6 >>> (nI 2 &&& (31 : Int32)))
    have he : q1 % hN vh 1 < σ 1 := by rw [e1]; exact Nat.mod_lt _ (by omega)
    have hc : q2 % hN vh 0 < σ 0 := by rw [e0]; exact Nat.mod_lt _ (by omega)
    rw [gi_n (by decide) (by decide), H.at 0 (by decide), if_pos (by rw [nI_le' (by omega) (by omega)]; omega), sc_many5, bd_s, if_pos rfl, sc_many6, bd_s, if_pos rfl, if_pos (by rw [nI_le' (by omega) (by omega)]; exact im.2), gi_n (by decide) (by decide), H.at 1 (by decide), gd_nI (by omega) (by omega), eq1, pk_rem (by omega) (by omega) (by omega)]
    unfold lt_
    dsimp only
    rw [gi_n (by decide) (by decide), gd_nI (by omega) (by omega), eq2, pk_rem (by omega) (by omega) (by omega)]
    generalize q1 % hN vh 1 = e at *
    generalize q2 % hN vh 0 = c at *
    have q := T382 (n1 := n1) (xs := xs) (z6 := z6) (bm := bm) (bo := bo) (fa := fa) (fb := fb) H hK h hB hc he hfu rfl
    rw [sc_when w hc he, bd_s]
    cases hW : sTill σ (2 ^ c) (2 ^ e) 999 with
    | none =>
      rw [if_pos (by rw [oI_nlt0]; trivial)]
      rw [hW] at q
      exact q
    | some r =>
      obtain ⟨t1, t2, t3⟩ := tl_some hW
      have wr := (sIt_ok w r).1
      rw [hW] at q
      rw [oI_s] at q ⊢
      rw [if_neg (by rw [nI_lt0 (by omega)]; exact id), sc_later w hc t1, bd_s, bit_1 (by have := wr.kn (k := c) (by omega); omega) (by omega) ((reach_bit (by omega)).mp t2), if_neg (by decide)]
      split
      · exact q
      · rename_i hr
        rw [nI_le0 (by omega)] at hr
        have hb : (sIt (r - 1) σ (33 + c)).testBit e = false := by
          cases hx : (sIt (r - 1) σ (33 + c)).testBit e
          · rfl
          · have := t3 (r - 1) (by omega)
            rw [(reach_bit (by omega)).mpr hx] at this
            cases this
        rw [pk_sub (by omega), sc_later w hc (by omega), bd_s, bit_0 (by have := (sIt_ok w (r - 1)).1.kn (k := c) (by omega); omega) (by omega) hb, if_neg (by decide)]
        exact q
  | succ k ih =>
    intro j n hj hn
    obtain ⟨n, rfl⟩ : ∃ m, n = m + 1 := ⟨n - 1, by omega⟩
    unfold f_L_law_248
    rw [gi_n (by decide) (by decide), H.at 0 (by decide), if_neg (by rw [nI_le' (by omega) (by omega)]; omega), sc_cell5 w (by omega), bd_s, nI_add]
    have ih' := ih (j + 1) n (by omega) (by omega)
    rw [← nI_add j 1] at ih'
    exact ih'
theorem T115 {K2 : Int32 → Int32 → Int32 → Int32 → Int32 → (Nat → Nat) → Option (Nat → Nat) → Nat → (Nat → Nat) → Int64 → Int64 → Option (Int32)} {z7 : Int32} {p : Nat} (H : HV vh) (h : RI vh σ) (hp : p < σ 2) (hK2 : K2 z4 z5 z6 (z7 + nI (sPr σ p)) (nI p + nI 1) σ none bm bo fa fb = some (nI 1)) : ∀ k j n, j + k = hN vh 1 → k < n → f_L_law_115 fu n1 xs vh K K2 n z4 z5 z6 z7 (nI p) (nI (sm (sD σ p) j)) (nI j) σ none bm bo fa fb = some (nI 1) := by
  have w := h.1
  have h1 := H.2.1.2.1
  have h2 := H.2.1.2.2.1
  have e1 := h.2.1.2.1
  have e2 := h.2.1.2.2.1
  have hu := w.us (p := p) (by omega)
  have hr := w.ro (p := p) (by omega)
  have er := h.2.2.2.2.1 p (by omega)
  intro k
  induction k with
  | zero =>
    intro j n hj hn
    obtain ⟨n, rfl⟩ : ∃ m, n = m + 1 := ⟨n - 1, by omega⟩
    obtain rfl : j = σ 1 := by omega
    rw [sm_pr w (by omega)]
    unfold f_L_law_115
    have ef : sPr σ p + sFree σ p = hN vh (42 + p) := by unfold sFree; omega
    have hf := sFree_le w (p := p) (by omega)
    rw [gi_n (by decide) (by decide), H.at 1 (by decide), if_pos (by rw [nI_le' (by omega) (by omega)]; omega), sc_page2 w hp, bd_s, nI_add 42 p, gi_n (by omega) (by omega), H.at _ (by omega), nI_add, ef, if_pos rfl, bd_s, if_pos (by rw [nI_0le (by omega)]; trivial)]
    exact hK2
  | succ k ih =>
    intro j n hj hn
    obtain ⟨n, rfl⟩ : ∃ m, n = m + 1 := ⟨n - 1, by omega⟩
    have hd := w.dle (p := p) (s := j) (by omega) (by omega)
    have hd2 := w.dl (p := p) (s := j) (by omega) (by omega)
    have el := h.2.2.2.1 j (by omega)
    have hl := w.le (s := j) (by omega)
    have ih' := ih (j + 1) n (by omega) (by omega)
    rw [← nI_add j 1, show sm (sD σ p) (j + 1) = sm (sD σ p) j + sD σ p j from rfl, ← nI_add] at ih'
    have hg := w.stg p
    unfold f_L_law_115
    rw [gi_n (by decide) (by decide), H.at 1 (by decide), if_neg (by rw [nI_le' (by omega) (by omega)]; omega), sc_pricks w hp (by omega), bd_s, if_neg (by rw [nI_lt0 (by omega)]; exact id), nI_add 36 j, gi_n (by omega) (by omega), H.at _ (by omega), if_neg (by rw [nI_lt' (by omega) (by omega)]; omega), sc_page3 w hp, bd_s, gi_n (by omega) (by omega)]
    by_cases ee : sD σ p j = σ (49 + j)
    · have hb : (sStg σ p).testBit j = true := by
        rw [b_stg, decide_eq_true (show j < σ 1 by omega)]
        exact decide_eq_true ee
      rw [if_pos (by rw [nI_eq' (by omega) (by omega)]; omega), bit_1 (by omega) (by omega) hb, if_pos rfl]
      exact ih'
    · have hb : (sStg σ p).testBit j = false := by
        rw [b_stg, decide_eq_true (show j < σ 1 by omega)]
        exact decide_eq_false ee
      rw [if_neg (by rw [nI_eq' (by omega) (by omega)]; omega), bit_0 (by omega) (by omega) hb, if_pos rfl]
      exact ih'
theorem T101 (H : HV vh) (hK : HK vh K z4 z5 (σ 4 + 4)) (h : RI vh σ) (hB : σ 4 ≤ 9000) (hfu : 1000 < fu) : ∀ k p n, p + k = hN vh 2 → k < n → f_L_law_101 fu n1 xs vh K n z4 z5 z6 (nI (sm (sPr σ) p)) (nI p) σ none bm bo fa fb = some (nI 1) := by
  have w := h.1
  have h0 := H.2.1.1
  have h1 := H.2.1.2.1
  have h2 := H.2.1.2.2.1
  have e2 := h.2.1.2.2.1
  intro k
  induction k with
  | zero =>
    intro p n hj hn
    obtain ⟨n, rfl⟩ : ∃ m, n = m + 1 := ⟨n - 1, by omega⟩
    obtain rfl : p = σ 2 := by omega
    unfold f_L_law_101
    rw [gi_n (by decide) (by decide), H.at 2 (by decide), if_pos (by rw [nI_le' (by omega) (by omega)]; omega), sm_all w]
    exact T248 H hK h hB hfu (hN vh 0) 0 fu (by omega) (by omega)
  | succ k ih =>
    intro p n hj hn
    obtain ⟨n, rfl⟩ : ∃ m, n = m + 1 := ⟨n - 1, by omega⟩
    have ih' := ih (p + 1) n (by omega) (by omega)
    rw [← nI_add p 1, show sm (sPr σ) (p + 1) = sm (sPr σ) p + sPr σ p from rfl, ← nI_add] at ih'
    unfold f_L_law_101
    rw [gi_n (by decide) (by decide), H.at 2 (by decide), if_neg (by rw [nI_le' (by omega) (by omega)]; omega)]
    exact T115 H h (by omega) ih' (hN vh 1) 0 fu (by omega) (by omega)
theorem T55 (H : HV vh) (hfu : 1000 < fu) (hn1 : n1 ≤ 300) : ∀ k rd n (σ : Nat → Nat) (bm : Nat) (bo : Nat → Nat) (fa fb : Int64), rd + k = 8 → k < n → RI vh σ → σ 4 ≤ 4 * rd → f_L_law_55 fu n1 xs vh n z4 (nI rd) σ none bm bo fa fb = some (nI 1) := by
  intro k
  induction k with
  | zero =>
    intro rd n σ bm bo fa fb hrd hn h hB
    obtain ⟨n, rfl⟩ : ∃ m, n = m + 1 := ⟨n - 1, by omega⟩
    unfold f_L_law_55
    rw [if_pos (by rw [nI_le' (by omega) (by omega)]; omega)]
  | succ k ih =>
    intro rd n σ bm bo fa fb hrd hn h hB
    obtain ⟨n, rfl⟩ : ∃ m, n = m + 1 := ⟨n - 1, by omega⟩
    have hK : HK vh (f_L_law_55 fu n1 xs vh n) z4 (nI rd) (σ 4 + 4) := fun τ bm bo fa fb hr h4 => by
      rw [nI_add]
      exact ih (rd + 1) n τ bm bo fa fb (by omega) (by omega) hr (by omega)
    have q := fun z6 => T101 (n1 := n1) (xs := xs) (z6 := z6) (bm := bm) (bo := bo) (fa := fa) (fb := fb) H hK h (by omega) hfu (hN vh 2) 0 fu (by omega) (by have := H.2.1.2.2.1; omega)
    unfold f_L_law_55
    rw [if_neg (by rw [nI_le' (by omega) (by omega)]; omega)]
    split
    · exact q _
    · rename_i hx
      have hx2 : rd < n1 := by
        rcases Nat.lt_or_ge rd n1 with h2 | h2
        · exact h2
        · exact absurd (show nI n1 ≤ nI rd by rw [nI_le' (by omega) (by omega)]; exact h2) hx
      rw [gi_n hx2 (by omega)]
      exact q _
end LAW4
