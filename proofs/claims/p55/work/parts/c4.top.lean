/-! the law's round: who knows what when; the best order; the pages -/
section LAW3
variable {fu n1 : Nat} {xs : Nat → Int32} {vh : Nat → Int32} {K : Int32 → Int32 → (Nat → Nat) → Option (Nat → Nat) → Nat → (Nat → Nat) → Int64 → Int64 → Option (Int32)} {z4 z5 z6 z8 : Int32} {σ ρ τ : Nat → Nat} {bm : Nat} {bo : Nat → Nat} {fa fb : Int64} {B c e : Nat} {va : Nat → Int32}
theorem place_of (w : WF τ) {j : Nat} (hj : j < τ 3) : sPlace τ (τ (67 + j)) = some j := by
  rcases place_msk (σ := τ) (k := τ (67 + j)) with ⟨-, h⟩ | ⟨i, h, hi, -⟩
  · have : (sMk τ).testBit (τ (67 + j)) = true := msk_bit.2 ⟨j, hj, rfl⟩
    rw [h] at this; cases this
  · rw [h, w.inj hi hj (sPlace_some h).2]
theorem oI_le0 : (oI none ≤ 0) = True := propext ⟨fun _ => trivial, fun _ => by decide⟩
theorem T720 (H : HV vh) (hK : HK vh K z4 z5 (σ 4 + 4)) (h : RI vh σ) (hB : σ 4 ≤ 9000) (hc : c < σ 0) (he : e < σ 1) (hfu : 1000 < fu) (hz8 : z8 = nI (σ 5)) {A U : Option Nat} (hA : ∀ v, A = some v → v ≤ 999) (hU : ∀ v, U = some v → v ≤ 999) (hb : σ 4 = 0 → ∀ v, A = some v → v ≤ 99 → ∃ u, U = some u ∧ u ≤ v) : f_L_law_720 fu n1 xs vh K z4 z5 z6 z8 (nI e) (nI c) (oI A) (oI U) (nI (σ 4)) σ none bm bo fa fb = some (nI 1) := by
  have q := T751 (n1 := n1) (xs := xs) (z6 := z6) (bm := bm) (bo := bo) (fa := fa) (fb := fb) H hK h hB hc he hfu hz8
  unfold f_L_law_720
  split
  · exact q
  · rename_i h1
    split
    · rename_i h2
      rw [nI_eq0 (by omega)] at h2
      split
      · exact q
      · rename_i h3
        split
        · exact q
        · rename_i h4
          split
          · exact q
          · rename_i h5
            exfalso
            cases A with
            | none => exact h3 (by rw [oI_nlt0]; trivial)
            | some v =>
              have hv := hA v rfl
              rw [oI_s, nI_lt' (by omega) (by omega)] at h4
              obtain ⟨u, rfl, hu⟩ := hb h2 v rfl (by omega)
              exact h5 (by rw [oI_s, oI_s, nI_le' (by omega) (by omega)]; exact hu)
    · exact q
theorem T646 (H : HV vh) (hK : HK vh K z4 z5 (σ 4 + 4)) (h : RI vh σ) (hB : σ 4 ≤ 9000) (hc : c < σ 0) (he : e < σ 1) (hfu : 1000 < fu) (hz8 : z8 = nI (σ 5)) (h8 : σ 8 = 0) {L : List Nat} {u : Nat} (hL : L ∈ lvs 8 (σ 3) (sMk σ)) (hV : sV σ L = some u)
    (hb : σ 4 = 0 → ∀ v, sTill σ (sSee σ) (2 ^ σ 1 - 1) 999 = some v → v ≤ 99 → u ≤ v) (hva : ∀ i, i < σ 3 → va i = nI (el L i)) :
    ∀ k j n (τ : Nat → Nat), j + k = σ 3 → k < n → WF τ → (∀ i, ¬ (67 ≤ i ∧ i < 67 + σ 3) → τ i = σ i) → (∀ i, i < j → τ (67 + i) = el L i) → (∀ i, i < σ 3 → ∃ q, q < σ 3 ∧ τ (67 + q) = el L i) → f_L_law_646 fu n1 xs vh K n z4 z5 z6 z8 (nI e) (nI c) (oI (sTill σ (sSee σ) (2 ^ σ 1 - 1) 999)) (nI u) (nI (σ 3)) (nI (σ 4)) (nI j) τ (some σ) bm bo fa fb va = some (nI 1) := by
  have w := h.1
  have h3 := h.2.1.2.2.2
  obtain ⟨-, l2, l3⟩ := lvs_in hL
  have hu := sV_le hV
  intro k
  induction k with
  | zero =>
    intro j n τ hj hn wt hs hd hset
    obtain ⟨n, rfl⟩ : ∃ m, n = m + 1 := ⟨n - 1, by omega⟩
    have et : τ = sO σ L := by
      funext i
      unfold sO
      split
      · rename_i hi
        have := hd (i - 67) (by omega)
        rw [show 67 + (i - 67) = i by omega] at this
        exact this
      · rename_i hi
        rw [hs i hi]
        split
        · rename_i h9; rw [h9, h8]
        · rfl
    have eV : sTill τ (sSee τ) (2 ^ τ 1 - 1) 999 = some u := by
      rw [et, sO_sSee, sO_o (i := 1) (by omega) (by omega)]
      exact till_A (k := 100) (d := 900) hV
    unfold f_L_law_646
    rw [if_pos (by rw [nI_le' (by omega) (by omega)]; omega)]
    unfold s_all
    rw [bd_s, eV, oI_s, if_pos rfl]
    have eb : s_back (some σ) = some (nI 0, σ, none) := rfl
    rw [eb, bd_s]
    dsimp only
    rw [if_pos (show nI 0 = 0 by decide), bd_s, if_pos rfl]
    exact T720 (U := some u) H hK h hB hc he hfu hz8 (fun v hv => sTill_le hv) (fun v hv => by cases hv; omega) (fun h4 v hv h99 => ⟨u, rfl, hb h4 v hv h99⟩)
  | succ k ih =>
    intro j n τ hj hn wt hs hd hset
    obtain ⟨n, rfl⟩ : ∃ m, n = m + 1 := ⟨n - 1, by omega⟩
    have e0 : τ 0 = σ 0 := hs 0 (by omega)
    have e3 : τ 3 = σ 3 := hs 3 (by omega)
    have hlj := l2 j (by omega)
    unfold f_L_law_646
    rw [if_neg (by rw [nI_le' (by omega) (by omega)]; omega), sc_orderAt wt (by omega), bd_s, gi_n (by omega) (by omega), nI_cl (by omega), hva j (by omega)]
    have hoj := wt.or' (i := j) (by omega)
    have ih' := ih (j + 1) n
    rw [← nI_add] at ih'
    by_cases ee : τ (67 + j) = el L j
    · rw [if_pos (by rw [ee])]
      refine ih' τ (by omega) (by omega) wt hs (fun i hi => ?_) hset
      by_cases e2 : i = j
      · subst e2; exact ee
      · exact hd i (by omega)
    · rw [if_neg (by rw [nI_eq' (by omega) (by omega)]; exact ee), bd_s, gi_n (by omega) (by omega)]
      have hlt := sMk_0 w hlj.1
      rw [sc_move wt (by rw [e0]; have := wt.or (i := j) (by omega); omega) (by rw [e0]; exact hlt), bd_s]
      obtain ⟨q, hq, eq⟩ := hset j (by omega)
      have hqj : q ≠ j := fun h => ee (by have := eq; rw [h] at this; exact this)
      have hqg : j < q := by
        rcases Nat.lt_or_ge j q with h | h
        · exact h
        · have := hd q (by omega)
          rw [eq] at this
          have := l3 j q (by omega) hq this
          omega
      have hp1 := place_of wt (j := j) (by omega)
      have hp2 := place_of wt (j := q) (by omega)
      rw [eq] at hp2
      have hm : sMove τ (τ (67 + j)) (el L j) = (true, sSwap τ (τ (67 + j)) (el L j) j q) := by
        unfold sMove
        rw [hp1, hp2]
        show (if _ then _ else _) = _
        rw [if_neg ee]
      obtain ⟨wm, hm2⟩ := wf_move wt (a := τ (67 + j)) (b := el L j)
      rw [hm] at wm hm2 ⊢
      have ev : ∀ i, i < σ 3 → (true, sSwap τ (τ (67 + j)) (el L j) j q).2 (67 + i) = if i = q then τ (67 + j) else if i = j then el L j else τ (67 + i) := by
        intro i hi
        show sSwap τ (τ (67 + j)) (el L j) j q (67 + i) = _
        unfold sSwap up
        by_cases e1 : i = q
        · rw [if_pos e1, if_pos (by omega)]
        · rw [if_neg e1, if_neg (by omega)]
          by_cases e2 : i = j
          · rw [if_pos e2, if_pos (by omega)]
          · rw [if_neg e2, if_neg (by omega)]
      show (if bI true = 0 then _ else _) = _
      rw [if_neg (by decide)]
      refine ih' _ (by omega) (by omega) wm (fun i hi => ?_) (fun i hi => ?_) (fun i hi => ?_)
      · rw [hm2 i (by rw [e3]; exact hi)]; exact hs i hi
      · rw [ev i (by omega), if_neg (by omega)]
        by_cases e2 : i = j
        · rw [if_pos e2, e2]
        · rw [if_neg e2]; exact hd i (by omega)
      · obtain ⟨r, hr, er⟩ := hset i hi
        by_cases r1 : r = j
        · exact ⟨q, hq, by rw [ev q hq, if_pos rfl, ← r1]; exact er⟩
        · by_cases r2 : r = q
          · exact ⟨j, by omega, by rw [ev j (by omega), if_neg (Ne.symm hqj), if_pos rfl, ← eq, ← r2]; exact er⟩
          · exact ⟨r, hr, by rw [ev r hr, if_neg r2, if_neg r1]; exact er⟩
theorem T609 (H : HV vh) (hK : HK vh K z4 z5 (σ 4 + 4)) (h : RI vh σ) (hB : σ 4 ≤ 9000) (hc : c < σ 0) (he : e < σ 1) (hfu : 1000 < fu) (hz8 : z8 = nI (σ 5)) (h8 : σ 8 = 0) {L : List Nat} {u : Nat} (hL : L ∈ lvs 8 (σ 3) (sMk σ)) (hV : sV σ L = some u)
    (hb : σ 4 = 0 → ∀ v, sTill σ (sSee σ) (2 ^ σ 1 - 1) 999 = some v → v ≤ 99 → u ≤ v) :
    ∀ k j n (va : Nat → Int32), j + k = σ 3 → k < n → (∀ i, i < j → va i = nI (el L i)) → f_L_law_609 fu n1 xs vh K n z4 z5 z6 z8 (nI e) (nI c) (oI (sTill σ (sSee σ) (2 ^ σ 1 - 1) 999)) (nI u) (nI (σ 3)) (nI (σ 4)) (nI j) σ none (σ 3) (el L) fa fb va = some (nI 1) := by
  have w := h.1
  have h3 := h.2.1.2.2.2
  obtain ⟨-, l2, l3⟩ := lvs_in hL
  intro k
  induction k with
  | zero =>
    intro j n va hj hn hva
    obtain ⟨n, rfl⟩ : ∃ m, n = m + 1 := ⟨n - 1, by omega⟩
    obtain rfl : j = σ 3 := by omega
    unfold f_L_law_609
    rw [if_pos (by rw [nI_le' (by omega) (by omega)]; omega)]
    have em : s_mark σ none = some (nI 1, some σ) := rfl
    rw [em, bd_s]
    dsimp only
    rw [if_pos rfl]
    refine T646 H hK h hB hc he hfu hz8 h8 hL hV hb hva (σ 3) 0 fu σ (by omega) (by omega) w (fun i _ => rfl) (fun i hi => absurd hi (Nat.not_lt_zero i)) (fun i hi => ?_)
    obtain ⟨q, hq, eq⟩ := msk_bit.1 (l2 i hi).1
    exact ⟨q, hq, eq⟩
  | succ k ih =>
    intro j n va hj hn hva
    obtain ⟨n, rfl⟩ : ∃ m, n = m + 1 := ⟨n - 1, by omega⟩
    unfold f_L_law_609
    rw [if_neg (by rw [nI_le' (by omega) (by omega)]; omega), sc_bestAt (by omega) (by omega), bd_s, gi_n (by omega) (by omega), nI_cl (by omega)]
    have ih' := ih (j + 1) n
    rw [← nI_add] at ih'
    refine ih' _ (by omega) (by omega) (fun i hi => ?_)
    unfold upd
    by_cases e : i = j
    · subst e; exact if_pos rfl
    · rw [if_neg e]; exact hva i (by omega)
theorem T563 (H : HV vh) (hK : HK vh K z4 z5 (σ 4 + 4)) (h : RI vh σ) (hB : σ 4 ≤ 9000) (hc : c < σ 0) (he : e < σ 1) (hfu : 1000 < fu) (hz8 : z8 = nI (σ 5)) : f_L_law_563 fu n1 xs vh K z4 z5 z6 z8 (nI e) (nI c) (oI (sTill σ (sSee σ) (2 ^ σ 1 - 1) 999)) σ none bm bo fa fb = some (nI 1) := by
  have w := h.1
  have h3 := h.2.1.2.2.2
  have h8 := h.2.2.2.2.2.2
  have hU : ∀ v, (sBest σ).map Prod.fst = some v → v ≤ 999 := fun v hv => by
    cases hb : sBest σ with
    | none => rw [hb] at hv; cases hv
    | some z =>
      obtain ⟨u, L⟩ := z
      rw [hb] at hv
      cases hv
      have := sBest_le (σ := σ) _ _ hb
      omega
  have hbU : σ 4 = 0 → ∀ v, sTill σ (sSee σ) (2 ^ σ 1 - 1) 999 = some v → v ≤ 99 → ∃ u, (sBest σ).map Prod.fst = some u ∧ u ≤ v := fun h4 v hv h99 => by
    obtain ⟨u, L, e1, e2⟩ := best_le w (h8 h4) hv h99
    exact ⟨u, by rw [e1]; rfl, e2⟩
  have q := fun bm bo => T720 (n1 := n1) (xs := xs) (z6 := z6) (bm := bm) (bo := bo) (fa := fa) (fb := fb) H hK h hB hc he hfu hz8 (fun v hv => sTill_le hv) hU hbU
  unfold f_L_law_563 s_bestOrder
  rw [if_neg (by omega), bd_s]
  simp only [sc_many3, sc_many4, bd_s]
  split
  · exact q _ _
  · rename_i c1
    split
    · exact q _ _
    · split
      · rename_i c3
        rw [nI_eq0 (by omega)] at c3
        cases hb : sBest σ with
        | none => rw [hb] at c1; exact absurd (by rw [show (Option.map Prod.fst (none : Option (Nat × List Nat))) = none from rfl, oI_le0]; trivial) c1
        | some z =>
          obtain ⟨u, L⟩ := z
          obtain ⟨b1, b2⟩ := best_is hb
          refine T609 H hK h hB hc he hfu hz8 (h8 c3) b1 b2 (fun h4 v hv h99 => ?_) (σ 3) 0 fu _ (by omega) (by omega) (fun i hi => absurd hi (Nat.not_lt_zero i))
          obtain ⟨u2, e1, e2⟩ := hbU h4 v hv h99
          rw [hb] at e1
          cases e1
          exact e2
      · exact q _ _
theorem T508 (H : HV vh) (hK : HK vh K z4 z5 (σ 4 + 4)) (h : RI vh σ) (hB : σ 4 ≤ 9000) (hc : c < σ 0) (he : e < σ 1) (hfu : 1000 < fu) (hz8 : z8 = nI (σ 5)) : f_L_law_508 fu n1 xs vh K z4 z5 z6 z8 (nI e) (nI c) (oI (sTill σ (2 ^ c) (2 ^ e) 999)) (oI (sTill σ (sSee σ) (2 ^ σ 1 - 1) 999)) σ none bm bo fa fb = some (nI 1) := by
  have w := h.1
  have q := T563 (n1 := n1) (xs := xs) (z6 := z6) (bm := bm) (bo := bo) (fa := fa) (fb := fb) H hK h hB hc he hfu hz8
  unfold f_L_law_508
  split
  · exact q
  · rename_i c1
    split
    · exact q
    · rename_i c2
      cases hW : sTill σ (2 ^ c) (2 ^ e) 999 with
      | none => rw [hW, oI_le0] at c1; exact absurd trivial c1
      | some r =>
        rw [hW, oI_s] at c1 c2
        obtain ⟨t1, t2, t3⟩ := tl_some hW
        rw [nI_le0 (by omega)] at c1
        rw [nI_le' (by omega) (by omega)] at c2
        obtain ⟨wr, hB2, h4⟩ := sIt_ok w r
        rw [oI_s]
        have em : s_mark σ none = some (nI 1, some σ) := rfl
        rw [em, bd_s]
        dsimp only
        rw [if_pos rfl, sc_turn (by omega) (by omega) (by omega), bd_s]
        show (if nI (sIt r σ 4) < nI r then _ else _) = _
        have c0 := w.c0
        rw [h4, if_neg (by rw [nI_lt' (by omega) (by omega)]; omega), sc_cell3 wr (by rw [hB2.e0]; exact hc), bd_s, bit_1 (by have := wr.kn (k := c) (by omega); omega) (by have := w.c1; omega) ((reach_bit (by omega)).mp t2), if_neg (by decide)]
        have eb : s_back (some σ) = some (nI 0, σ, none) := rfl
        rw [eb, bd_s]
        dsimp only
        rw [if_pos (show nI 0 = 0 by decide)]
        exact q
theorem T481 (H : HV vh) (hK : HK vh K z4 z5 (σ 4 + 4)) (h : RI vh σ) (hB : σ 4 ≤ 9000) (hc : c < σ 0) (he : e < σ 1) (hfu : 1000 < fu) (hz8 : z8 = nI (σ 5)) : f_L_law_481 fu n1 xs vh K z4 z5 z6 z8 (nI e) (nI c) (oI (sTill σ (2 ^ c) (2 ^ e) 999)) (oI (sHear σ e)) σ none bm bo fa fb = some (nI 1) := by
  have w := h.1
  have q := T508 (n1 := n1) (xs := xs) (z6 := z6) (bm := bm) (bo := bo) (fa := fa) (fb := fb) H hK h hB hc he hfu hz8
  unfold f_L_law_481 s_all
  rw [bd_s]
  cases hA : sTill σ (sSee σ) (2 ^ σ 1 - 1) 999 with
  | none =>
    rw [if_pos (by rw [oI_nlt0]; trivial)]
    rw [hA] at q
    exact q
  | some T =>
    obtain ⟨t1, t2, t3⟩ := tl_some hA
    have hsub : ∀ f, f < σ 1 → ∃ r, sHear σ f = some r ∧ r ≤ T := fun f hf => by
      refine tl_le t1 (reach_sub (fun i _ hi => hi) (fun i hi => ?_) t2)
      rw [Nat.testBit_two_pow, decide_eq_true_eq] at hi
      rw [ones_bit, decide_eq_true_eq]
      omega
    rw [hA] at q
    rw [if_neg (by rw [oI_s, nI_lt0 (by omega)]; exact id)]
    obtain ⟨r, hr, hrT⟩ := hsub e he
    rw [hr, oI_s, oI_s, if_neg (by rw [nI_lt' (by omega) (by omega)]; omega)]
    unfold s_never
    have hn : sNever σ (σ 1) = 0 := by
      apply Nat.eq_of_testBit_eq
      intro i
      rw [Nat.zero_testBit]
      cases hb : (sNever σ (σ 1)).testBit i
      · rfl
      · obtain ⟨b1, b2⟩ := never_bit.mp hb
        obtain ⟨r2, hr2, -⟩ := hsub i b1
        rw [b2] at hr2; cases hr2
    rw [bd_s, hn, if_pos (by decide)]
    exact q
theorem T454 (H : HV vh) (hK : HK vh K z4 z5 (σ 4 + 4)) (h : RI vh σ) (hB : σ 4 ≤ 9000) (hc : c < σ 0) (he : e < σ 1) (hfu : 1000 < fu) (hz8 : z8 = nI (σ 5)) {w0 w1 : Int32} (hw : w0 = w1) : f_L_law_454 fu n1 xs vh K z4 z5 z6 z8 (nI e) (nI c) (oI (sTill σ (2 ^ c) (2 ^ e) 999)) (oI (sHear σ e)) w0 w1 σ none bm bo fa fb = some (nI 1) := by
  have w := h.1
  have c0 := w.c0
  have e0 := h.2.1.1
  have q := T481 (n1 := n1) (xs := xs) (z6 := z6) (bm := bm) (bo := bo) (fa := fa) (fb := fb) H hK h hB hc he hfu hz8
  unfold f_L_law_454
  rw [if_pos hw]
  split
  · exact q
  · rename_i c1
    rw [nI_add 12 c, gi_n (by omega) (by omega), H.at _ (by omega)]
    split
    · rename_i c2
      rw [nI_eq0 (by have := (H.2.2.1 c (by omega)).2.1; omega)] at c2
      cases hH : sHear σ e with
      | none => rw [hH, oI_nlt0] at c1; exact absurd trivial c1
      | some r =>
        obtain ⟨t1, t2, t3⟩ := tl_some hH
        have hs : (sSee σ).testBit c = true := (sSee_bit (by omega)).mpr ⟨hc, by rw [h.2.2.1 c (by omega), c2]; decide⟩
        obtain ⟨r2, hr2, hle⟩ := tl_le t1 (reach_sub (C' := 2 ^ c) (S' := 2 ^ e) (fun i _ hi => by
          rw [Nat.testBit_two_pow, decide_eq_true_eq] at hi
          rw [← hi]; exact hs) (fun i hi => hi) t2)
        rw [if_pos (by rw [hr2, oI_s, oI_s, nI_le' (by omega) (by omega)]; exact hle)]
        rw [hH] at q
        exact q
    · exact q
theorem T436 (H : HV vh) (hK : HK vh K z4 z5 (σ 4 + 4)) (h : RI vh σ) (hB : σ 4 ≤ 9000) (hc : c < σ 0) (he : e < σ 1) (hfu : 1000 < fu) (hz8 : z8 = nI (σ 5)) {w0 : Int32} (hw : w0 = if sHear σ e = none then nI 1 else nI 0) : f_L_law_436 fu n1 xs vh K z4 z5 z6 z8 (nI e) (nI c) (oI (sTill σ (2 ^ c) (2 ^ e) 999)) (oI (sHear σ e)) w0 σ none bm bo fa fb = some (nI 1) := by
  have h1 := h.1.c1
  have hl := never_lt (σ := σ) h1
  unfold f_L_law_436 s_never
  rw [bd_s]
  by_cases hH : sHear σ e = none
  · rw [bit_1 (by omega) (by omega) (never_bit.mpr ⟨he, hH⟩), if_pos rfl]
    rw [if_pos hH] at hw
    exact T454 H hK h hB hc he hfu hz8 hw
  · have : (sNever σ (σ 1)).testBit e = false := by
      cases hb : (sNever σ (σ 1)).testBit e
      · rfl
      · exact absurd (never_bit.mp hb).2 hH
    rw [bit_0 (by omega) (by omega) this, if_neg (by decide)]
    rw [if_neg hH] at hw
    exact T454 H hK h hB hc he hfu hz8 hw
theorem T413 (H : HV vh) (hK : HK vh K z4 z5 (σ 4 + 4)) (h : RI vh σ) (hB : σ 4 ≤ 9000) (hc : c < σ 0) (he : e < σ 1) (hfu : 1000 < fu) (hz8 : z8 = nI (σ 5)) {w0 w1 : Int32} (hw : w0 = w1) : f_L_law_413 fu n1 xs vh K z4 z5 z6 z8 (nI e) (nI c) (oI (sTill σ (2 ^ c) (2 ^ e) 999)) w0 w1 σ none bm bo fa fb = some (nI 1) := by
  unfold f_L_law_413
  rw [if_pos hw, sc_heard h.1 he, bd_s]
  cases hH : sHear σ e with
  | none =>
    rw [if_neg (by rw [oI_n0le]; exact id)]
    have q := T436 (n1 := n1) (xs := xs) (z6 := z6) (bm := bm) (bo := bo) (fa := fa) (fb := fb) (w0 := nI 1) H hK h hB hc he hfu hz8 (by rw [if_pos hH])
    rw [hH] at q
    exact q
  | some r =>
    have := hear_b r hH
    rw [if_pos (by rw [oI_s, nI_0le (by omega)]; trivial)]
    have q := T436 (n1 := n1) (xs := xs) (z6 := z6) (bm := bm) (bo := bo) (fa := fa) (fb := fb) (w0 := nI 0) H hK h hB hc he hfu hz8 (by rw [if_neg (by rw [hH]; exact fun h => by cases h)])
    rw [hH] at q
    exact q
theorem T382 (H : HV vh) (hK : HK vh K z4 z5 (σ 4 + 4)) (h : RI vh σ) (hB : σ 4 ≤ 9000) (hc : c < σ 0) (he : e < σ 1) (hfu : 1000 < fu) (hz8 : z8 = nI (σ 5)) : f_L_law_382 fu n1 xs vh K z4 z5 z6 z8 (nI e) (nI c) (oI (sTill σ (2 ^ c) (2 ^ e) 999)) σ none bm bo fa fb = some (nI 1) := by
  have w := h.1
  have c0 := w.c0
  have c1 := w.c1
  have hkn := w.kn (k := c) (by omega)
  have q := fun w1 hw => T413 (n1 := n1) (xs := xs) (z6 := z6) (bm := bm) (bo := bo) (fa := fa) (fb := fb) (w0 := w1) (w1 := w1) H hK h hB hc he hfu hz8 hw
  unfold f_L_law_382
  cases hb : (σ (33 + c)).testBit e with
  | true =>
    have hr : sReach (sIt 0 σ) (2 ^ c) (2 ^ e) = true := (reach_bit (by omega)).mpr hb
    obtain ⟨r, hr2, hr3⟩ := tl_le (m := 999) (by omega) hr
    obtain rfl : r = 0 := by omega
    rw [hr2] at q ⊢
    rw [oI_s, if_pos (by decide)]
    unfold f_L_law_392
    rw [sc_cell3 w hc, bd_s, bit_1 (by omega) (by omega) hb, if_pos rfl]
    exact q _ rfl
  | false =>
    rw [if_neg (fun hz => ?_)]
    · unfold f_L_law_392
      rw [sc_cell3 w hc, bd_s, bit_0 (by omega) (by omega) hb, if_neg (by decide)]
      exact q _ rfl
    · cases hW : sTill σ (2 ^ c) (2 ^ e) 999 with
      | none => rw [hW] at hz; exact absurd hz (by rw [oI_n, m1_eq0]; exact id)
      | some r =>
        obtain ⟨t1, t2, -⟩ := tl_some hW
        rw [hW, oI_s, nI_eq0 (by omega)] at hz
        subst hz
        have := (reach_bit (σ := σ) (by omega)).mp t2
        rw [hb] at this; cases this
end LAW3
