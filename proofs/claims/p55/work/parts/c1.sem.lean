/-! what TURNS and the other changes keep -/
def Mo (σ : Nat → Nat) : Nat := σ 41 + σ 42 + σ 43 + σ 44 + σ 45 + σ 46 + σ 47 + σ 48
def IM (σ : Nat → Nat) : Prop := Mo σ = σ 5 ∧ sAll6 σ ≤ σ 5
section SEM
variable {σ τ : Nat → Nat}
theorem rub_lo {knew i : Nat} (h : i < 75) : sRub σ knew i = σ i := by
  unfold sRub
  cases sRubP σ knew with
  | none => rfl
  | some p => exact up_n _ _ (by omega)
theorem mo_up {k v : Nat} (hk : k < 8) : Mo (up σ (41 + k) v) + σ (41 + k) = Mo σ + v := by
  have : k = 0 ∨ k = 1 ∨ k = 2 ∨ k = 3 ∨ k = 4 ∨ k = 5 ∨ k = 6 ∨ k = 7 := by omega
  unfold Mo
  rcases this with rfl | rfl | rfl | rfl | rfl | rfl | rfl | rfl <;> simp (disch := omega) only [up_n, up_s, Nat.add_zero, Nat.reduceAdd] <;> omega
theorem mo_upo {i v : Nat} (hi : i < 41 ∨ 49 ≤ i) : Mo (up σ i v) = Mo σ := by
  unfold Mo
  simp (disch := omega) only [up_n]
theorem all6_c (h : ∀ p, sPr τ p = sPr σ p) : sAll6 τ = sAll6 σ := by
  unfold sAll6
  simp only [h]
theorem all6_upo {i v : Nat} (hi : i < 75) : sAll6 (up σ i v) = sAll6 σ := all6_c (fun p => sPr_upo hi)
theorem im_upo {i v : Nat} (h : IM σ) (hi : i < 41 ∨ (49 ≤ i ∧ i < 75)) (h5 : i ≠ 5) : IM (up σ i v) := by
  obtain ⟨a, b⟩ := h
  refine ⟨?_, ?_⟩
  · rw [mo_upo (by omega), up_n _ _ (Ne.symm h5)]; exact a
  · rw [all6_upo (by omega), up_n _ _ (Ne.symm h5)]; exact b
theorem im_add {k p s n : Nat} (h : IM σ) (hk : k < 8) (hp : p < 6) (hs : s < 6) : IM (sAdd σ k p s n) := by
  obtain ⟨a, b⟩ := h
  have e5 : sAdd σ k p s n 5 = σ 5 + n := up_s _ _ _
  have eM : Mo (sAdd σ k p s n) = Mo σ + n := by
    unfold sAdd
    have h1 := mo_up (σ := up σ (75 + 6 * p + s) (sD σ p s + n)) (v := σ (41 + k) + n) hk
    rw [up_n _ _ (show 41 + k ≠ 75 + 6 * p + s by omega)] at h1
    have h2 := mo_upo (σ := σ) (i := 75 + 6 * p + s) (v := sD σ p s + n) (Or.inr (by omega))
    rw [mo_upo (by omega)]
    omega
  have eA : sAll6 (sAdd σ k p s n) = sAll6 σ + n := by
    unfold sAll6
    simp only [sAdd_Pr hk hs]
    have : p = 0 ∨ p = 1 ∨ p = 2 ∨ p = 3 ∨ p = 4 ∨ p = 5 := by omega
    rcases this with rfl | rfl | rfl | rfl | rfl | rfl <;> simp only [if_true, Nat.reduceEqDiff, if_false] <;> omega
  refine ⟨?_, ?_⟩
  · rw [eM, e5, a]
  · rw [eA, e5]; omega
theorem im_D0 {p s : Nat} (h : IM σ) (hs : s < 6) : IM (up σ (75 + 6 * p + s) 0) := by
  obtain ⟨a, b⟩ := h
  have hq : ∀ q, sPr (up σ (75 + 6 * p + s) 0) q ≤ sPr σ q := fun q => by
    have := sPr_up (σ := σ) (p := p) (q := q) (v := 0) hs
    split at this <;> omega
  refine ⟨?_, ?_⟩
  · rw [mo_upo (by omega), up_n _ _ (by omega)]; exact a
  · rw [up_n _ _ (by omega)]
    refine Nat.le_trans ?_ b
    have h0 := hq 0
    have h1 := hq 1
    have h2 := hq 2
    have h3 := hq 3
    have h4 := hq 4
    have h5 := hq 5
    unfold sAll6
    omega
theorem im_rub {knew : Nat} (h : IM σ) : IM (sRub σ knew) := by
  unfold sRub
  split
  · exact h
  · exact im_D0 h sRubS_lt
theorem im_reads {k : Nat} (h : IM σ) (hk : k < 8) : IM (sReads σ k) := by
  unfold sReads
  split
  · split
    · exact im_rub (im_upo h (by omega) (by omega))
    · exact im_upo h (by omega) (by omega)
  · exact h
theorem im_prickN (w : WF σ) {k left : Nat} (hk : k < 8) (h : IM σ) : ∀ j, j ≤ σ 1 → IM (sPrickN k (σ, left) j).1
  | 0, _ => h
  | j + 1, hj => by
    have ih := im_prickN w (left := left) hk h j (by omega)
    obtain ⟨a, b, c, d⟩ := sPrickN_ok w (left := left) hk j (by omega)
    have e2 : (sPrickN k (σ, left) j).1 2 = σ 2 := d 2 (by omega) (by omega)
    have h1 := w.c1
    have h2 := w.c2
    show IM (sPrick1 k j (sPrickN k (σ, left) j)).1
    unfold sPrick1
    split
    · split
      · exact ih
      · rename_i p hp
        have hp2 := sPg_lt hp
        exact im_add ih hk (by omega) (by omega)
    · exact ih
theorem im_turn (w : WF σ) (h : IM σ) : IM (sTurn σ) := by
  unfold sTurn
  cases hn : sNext σ with
  | none => exact im_upo h (by omega) (by omega)
  | some pl =>
    have hpl := sNext_lt hn
    have hk := w.or hpl
    have h0 := w.c0
    have w2 : WF (up (up σ 4 (σ 4 + 1)) 8 ((pl + 1) % σ 3)) := wf_8 (wf_4 w) (by rw [up_n _ _ (by omega)]; exact Or.inl (Nat.mod_lt _ (by omega)))
    obtain ⟨a, b, c, d⟩ := wf_reads w2 (k := σ (67 + pl)) (by rw [up_n _ _ (by omega), up_n _ _ (by omega)]; exact hk)
    exact im_prickN a (by omega) (im_reads (im_upo (im_upo h (by omega) (by omega)) (by omega) (by omega)) (by omega)) _ (Nat.le_refl _)
theorem im_it (w : WF σ) (h : IM σ) : ∀ n, IM (sIt n σ)
  | 0 => h
  | n + 1 => by
    rw [sIt_s]
    exact im_turn (sIt_ok w n).1 (im_it w h n)
/-- nothing that is known is forgotten; who sees nothing learns nothing -/
def KM (σ τ : Nat → Nat) : Prop := ∀ k, k < 8 → dif (σ (33 + k)) (τ (33 + k)) = 0 ∧ (σ (17 + k) ≠ 0 → τ (33 + k) = σ (33 + k))
theorem dif_self (a : Nat) : dif a a = 0 := dif_0.mpr (fun _ h => h)
theorem km_turn (w : WF σ) : KM σ (sTurn σ) := by
  intro j hj
  have hsame : sTurn σ (33 + j) = σ (33 + j) → dif (σ (33 + j)) (sTurn σ (33 + j)) = 0 ∧ (σ (17 + j) ≠ 0 → sTurn σ (33 + j) = σ (33 + j)) := fun h => ⟨by rw [h]; exact dif_self _, fun _ => h⟩
  cases hn : sNext σ with
  | none =>
    refine hsame ?_
    unfold sTurn
    rw [hn]
    exact up_n _ _ (by omega)
  | some pl =>
    have hpl := sNext_lt hn
    have hk := w.or hpl
    have h0 := w.c0
    have h3 := w.c3
    have w2 : WF (up (up σ 4 (σ 4 + 1)) 8 ((pl + 1) % σ 3)) := wf_8 (wf_4 w) (by rw [up_n _ _ (by omega)]; exact Or.inl (Nat.mod_lt _ (by omega)))
    obtain ⟨a, b, c, d⟩ := wf_reads w2 (k := σ (67 + pl)) (by rw [up_n _ _ (by omega), up_n _ _ (by omega)]; exact hk)
    obtain ⟨a2, b2, c2, d2⟩ := sPrickN_ok a (k := σ (67 + pl)) (left := sReads (up (up σ 4 (σ 4 + 1)) 8 ((pl + 1) % σ 3)) (σ (67 + pl)) (9 + σ (67 + pl))) (by omega) _ (Nat.le_refl _)
    have e : sTurn σ (33 + j) = sReads (up (up σ 4 (σ 4 + 1)) 8 ((pl + 1) % σ 3)) (σ (67 + pl)) (33 + j) := by
      unfold sTurn
      rw [hn]
      exact d2 _ (by omega) (by omega)
    have e0 : ∀ i, 9 ≤ i → i < 41 → up (up σ 4 (σ 4 + 1)) 8 ((pl + 1) % σ 3) i = σ i := fun i h1 h2 => by rw [up_n _ _ (by omega), up_n _ _ (by omega)]
    have e17 := e0 (17 + σ (67 + pl)) (by omega) (by omega)
    have e33 := e0 (33 + σ (67 + pl)) (by omega) (by omega)
    have e33j := e0 (33 + j) (by omega) (by omega)
    generalize up (up σ 4 (σ 4 + 1)) 8 ((pl + 1) % σ 3) = ρ at e e17 e33 e33j
    have hX : ∀ X, up ρ (33 + σ (67 + pl)) (σ (33 + σ (67 + pl)) ||| X) (33 + j) = σ (33 + j) ||| (if j = σ (67 + pl) then X else 0) := fun X => by
      by_cases ej : j = σ (67 + pl)
      · rw [if_pos ej, ← ej, up_s]
      · rw [if_neg ej, up_n _ _ (by omega), e33j, Nat.or_zero]
    unfold sReads at e
    rw [e17, e33] at e
    by_cases hb : σ (17 + σ (67 + pl)) = 0
    · rw [if_pos hb] at e
      have e2 : sTurn σ (33 + j) = σ (33 + j) ||| (if j = σ (67 + pl) then sOpen ρ else 0) := by
        rw [← hX, e]
        split
        · exact rub_lo (by omega)
        · rfl
      refine ⟨?_, fun hne => ?_⟩
      · rw [e2]
        exact dif_0.mpr (fun i hi => by rw [Nat.testBit_or, hi]; rfl)
      · rw [e2, if_neg (fun h => hne (by rw [h]; exact hb)), Nat.or_zero]
    · rw [if_neg hb, e33j] at e
      exact hsame e
theorem km_it (w : WF σ) : ∀ n, KM σ (sIt n σ)
  | 0 => fun k _ => ⟨dif_self _, fun _ => rfl⟩
  | n + 1 => fun k hk => by
    obtain ⟨wn, hB, -⟩ := sIt_ok w n
    obtain ⟨a, b⟩ := km_it w n k hk
    obtain ⟨c, d⟩ := km_turn wn k hk
    have e17 : sIt n σ (17 + k) = σ (17 + k) := hB (17 + k) (Or.inl (by omega)) (by omega) (by omega) (by omega)
    rw [sIt_s]
    refine ⟨?_, fun hne => ?_⟩
    · exact dif_0.mpr (fun i hi => dif_0.mp c i (dif_0.mp a i hi))
    · rw [d (by rw [e17]; exact hne), b hne]
/-- no one has the book next: nothing but TURNS goes on -/
theorem no_next (h : sNext σ = none) : ∀ n, sIt n σ 5 = σ 5 ∧ sNext (sIt n σ) = none
  | 0 => ⟨rfl, h⟩
  | n + 1 => by
    obtain ⟨a, b⟩ := no_next h n
    rw [sIt_s]
    have e : sTurn (sIt n σ) = up (sIt n σ) 4 (sIt n σ 4 + 1) := by
      unfold sTurn
      rw [b]
    rw [e]
    exact ⟨by rw [up_n _ _ (by omega), a], by rw [sNext_up, b]⟩
/-! how many TURNS till .. -/
theorem till_some {C S : Nat} : ∀ {k t r : Nat} {τ : Nat → Nat}, sTillN C S k t τ = some r → ∃ d, r = t + d ∧ d < k ∧ sReach (sIt d τ) C S = true ∧ ∀ j, j < d → sReach (sIt j τ) C S = false
  | 0, _, _, _, h => by cases h
  | k + 1, t, r, τ, h => by
    unfold sTillN at h
    split at h
    · rename_i hr
      cases h
      exact ⟨0, rfl, by omega, hr, fun j hj => absurd hj (Nat.not_lt_zero j)⟩
    · rename_i hr
      obtain ⟨d, e, hd, h1, h2⟩ := till_some h
      refine ⟨d + 1, by omega, by omega, h1, fun j hj => ?_⟩
      cases j with
      | zero => exact Bool.eq_false_iff.mpr hr
      | succ j => exact h2 j (by omega)
theorem till_no {C S : Nat} : ∀ {k t : Nat} {τ : Nat → Nat}, sTillN C S k t τ = none → ∀ j, j < k → sReach (sIt j τ) C S = false
  | 0, _, _, _, j, hj => absurd hj (Nat.not_lt_zero j)
  | k + 1, t, τ, h, j, hj => by
    unfold sTillN at h
    split at h
    · cases h
    · rename_i hr
      cases j with
      | zero => exact Bool.eq_false_iff.mpr hr
      | succ j => exact till_no h j (by omega)
theorem tl_some {C S m r : Nat} (h : sTill σ C S m = some r) : r ≤ m ∧ sReach (sIt r σ) C S = true ∧ ∀ j, j < r → sReach (sIt j σ) C S = false := by
  obtain ⟨d, e, hd, h1, h2⟩ := till_some h
  obtain rfl : r = d := by omega
  exact ⟨by omega, h1, h2⟩
theorem tl_none {C S m : Nat} (h : sTill σ C S m = none) {j : Nat} (hj : j ≤ m) : sReach (sIt j σ) C S = false := till_no h j (by omega)
theorem tl_le {C S m d : Nat} (hd : d ≤ m) (h : sReach (sIt d σ) C S = true) : ∃ r, sTill σ C S m = some r ∧ r ≤ d := by
  cases ht : sTill σ C S m with
  | none =>
    have := tl_none ht hd
    rw [h] at this; cases this
  | some r =>
    refine ⟨r, rfl, ?_⟩
    rcases Nat.lt_or_ge d r with h2 | h2
    · have := (tl_some ht).2.2 d h2
      rw [h] at this; cases this
    · exact h2
/-- one CELL, one SECRET -/
theorem reach_bit {c e : Nat} (hc : c < 8) : sReach σ (2 ^ c) (2 ^ e) = true ↔ (σ (33 + c)).testBit e = true := (reach_one hc).symm.trans dif_pw
theorem see_it (w : WF σ) (n : Nat) : sSee (sIt n σ) = sSee σ := sSee_B (sIt_ok w n).2.1
theorem reach_sub {C C' S S' : Nat} (hC : ∀ i, i < 8 → C'.testBit i = true → C.testBit i = true) (hS : ∀ i, S'.testBit i = true → S.testBit i = true) (h : sReach σ C S = true) : sReach σ C' S' = true := by
  rw [sReach_iff] at h ⊢
  intro i hi hc
  exact dif_0.mpr (fun j hj => dif_0.mp (h i hi (hC i hi hc)) j (hS j hj))
theorem never_bit {e : Nat} : ∀ {n : Nat}, (sNever σ n).testBit e = true ↔ e < n ∧ sHear σ e = none
  | 0 => ⟨fun h => (by unfold sNever at h; rw [Nat.zero_testBit] at h; cases h), fun h => absurd h.1 (Nat.not_lt_zero e)⟩
  | n + 1 => by
    unfold sNever
    rw [Nat.testBit_or, Bool.or_eq_true, never_bit (n := n)]
    by_cases hn : sHear σ n = none
    · rw [if_pos hn, Nat.testBit_two_pow, decide_eq_true_eq]
      constructor
      · rintro (⟨a, b⟩ | rfl)
        · exact ⟨by omega, b⟩
        · exact ⟨by omega, hn⟩
      · rintro ⟨a, b⟩
        by_cases e2 : n = e
        · exact Or.inr e2
        · exact Or.inl ⟨by omega, b⟩
    · rw [if_neg hn, Nat.zero_testBit]
      constructor
      · rintro (⟨a, b⟩ | h)
        · exact ⟨by omega, b⟩
        · cases h
      · rintro ⟨a, b⟩
        by_cases e2 : n = e
        · subst e2; exact absurd b hn
        · exact Or.inl ⟨by omega, b⟩
theorem never_lt : ∀ {n : Nat}, n ≤ 6 → sNever σ n < 64
  | 0, _ => Nat.zero_lt_succ 63
  | n + 1, h => by
    unfold sNever
    refine or_lt (n := 6) (never_lt (by omega)) ?_
    split
    · exact Nat.pow_lt_pow_right (by decide) (by omega)
    · decide
/-! PAGES to KEEP, to HIDE -/
theorem hd_some {s : Nat} : ∀ {k p : Nat}, sHd σ s k = some p → p < k ∧ sShut σ p = false ∧ σ (49 + s) ≤ sFree σ p
  | 0, p, h => by cases h
  | k + 1, p, h => by
    unfold sHd sHdS at h
    split at h
    · obtain ⟨a, b, c⟩ := hd_some h
      exact ⟨by omega, b, c⟩
    · rename_i hk
      have hk1 : sShut σ k = false := by
        cases hs : sShut σ k
        · rfl
        · exact absurd (Or.inl hs) hk
      have hk2 : σ (49 + s) ≤ sFree σ k := by
        rcases Nat.lt_or_ge (sFree σ k) (σ (49 + s)) with h2 | h2
        · exact absurd (Or.inr h2) hk
        · exact h2
      split at h
      · cases h; exact ⟨by omega, hk1, hk2⟩
      · rename_i q hq
        split at h
        · cases h
          obtain ⟨a, b, c⟩ := hd_some hq
          exact ⟨by omega, b, c⟩
        · cases h; exact ⟨by omega, hk1, hk2⟩
theorem kp_some : ∀ {k p : Nat}, sKp σ k = some p → p < k ∧ sShut σ p = false
  | 0, p, h => by cases h
  | k + 1, p, h => by
    unfold sKp sKpS at h
    split at h
    · obtain ⟨a, b⟩ := kp_some h
      exact ⟨by omega, b⟩
    · rename_i hk
      have hk1 : sShut σ k = false := by
        cases hs : sShut σ k
        · rfl
        · exact absurd hs hk
      split at h
      · cases h; exact ⟨by omega, hk1⟩
      · rename_i q hq
        split at h
        · cases h
          obtain ⟨a, b⟩ := kp_some hq
          exact ⟨by omega, b⟩
        · cases h; exact ⟨by omega, hk1⟩
/-! BEST ORDER -/
theorem bf_mem : ∀ {r : List (List Nat)} {b : Option (Nat × List Nat)} {u : Nat} {L : List Nat}, bf σ b r = some (u, L) → b = some (u, L) ∨ (L ∈ r ∧ sV σ L = some u)
  | [], b, u, L, h => Or.inl h
  | K :: r, b, u, L, h => by
    unfold bf at h
    rcases bf_mem h with h2 | ⟨h2, h3⟩
    · unfold bs at h2
      split at h2
      · exact Or.inl h2
      · rename_i v hv
        split at h2
        · cases h2; exact Or.inr ⟨List.mem_cons_self, hv⟩
        · rename_i u0 L0
          split at h2
          · cases h2; exact Or.inr ⟨List.mem_cons_self, hv⟩
          · exact Or.inl h2
    · exact Or.inr ⟨List.mem_cons_of_mem _ h2, h3⟩
/-- b is no worse than v -/
def noW (b : Option (Nat × List Nat)) (v : Nat) : Prop := ∃ u L, b = some (u, L) ∧ u ≤ v
theorem bs_noW {b : Option (Nat × List Nat)} {v : Nat} {L : List Nat} (h : noW b v) : noW (bs σ b L) v := by
  obtain ⟨u, L0, rfl, hu⟩ := h
  unfold bs
  split
  · exact ⟨u, L0, rfl, hu⟩
  · rename_i x hx
    show noW (if x < u then some (x, L) else some (u, L0)) v
    split
    · exact ⟨x, L, rfl, by omega⟩
    · exact ⟨u, L0, rfl, hu⟩
theorem bs_own {b : Option (Nat × List Nat)} {v : Nat} {L : List Nat} (h : sV σ L = some v) : noW (bs σ b L) v := by
  unfold bs
  rw [h]
  cases b with
  | none => exact ⟨v, L, rfl, Nat.le_refl _⟩
  | some q =>
    obtain ⟨u, L0⟩ := q
    show noW (if v < u then some (v, L) else some (u, L0)) v
    split
    · exact ⟨v, L, rfl, Nat.le_refl _⟩
    · exact ⟨u, L0, rfl, by omega⟩
theorem bf_noW : ∀ {r : List (List Nat)} {b : Option (Nat × List Nat)} {v : Nat}, noW b v → noW (bf σ b r) v
  | [], b, v, h => h
  | K :: r, b, v, h => bf_noW (r := r) (bs_noW h)
theorem bf_own {v : Nat} {L : List Nat} (h : sV σ L = some v) : ∀ {r : List (List Nat)} {b : Option (Nat × List Nat)}, L ∈ r → noW (bf σ b r) v
  | [], _, hm => by cases hm
  | K :: r, b, hm => by
    rcases List.mem_cons.mp hm with rfl | hm
    · exact bf_noW (r := r) (bs_own h)
    · exact bf_own (r := r) h hm
/-- the first n of a row, as a list -/
def fst (f : Nat → Nat) : Nat → Nat → List Nat
  | 0, _ => []
  | n + 1, j => f j :: fst f n (j + 1)
theorem fst_el {f : Nat → Nat} : ∀ {n j i : Nat}, i < n → el (fst f n j) i = f (j + i)
  | 0, _, i, h => absurd h (Nat.not_lt_zero i)
  | n + 1, j, 0, _ => rfl
  | n + 1, j, i + 1, h => by
    show el (fst f n (j + 1)) i = _
    rw [fst_el (by omega)]
    congr 1
    omega
theorem fst_lvs {f : Nat → Nat} : ∀ {n j M : Nat}, (∀ i, i < n → f (j + i) < 8 ∧ M.testBit (f (j + i)) = true) → (∀ i k, i < n → k < n → f (j + i) = f (j + k) → i = k) → fst f n j ∈ lvs 8 n M
  | 0, _, _, _, _ => List.mem_singleton.mpr rfl
  | n + 1, j, M, h, hi => by
    have h0 := h 0 (by omega)
    rw [Nat.add_zero] at h0
    unfold lvs
    refine List.mem_flatMap.mpr ⟨f j, List.mem_range.mpr h0.1, ?_⟩
    rw [h0.2]
    refine List.mem_map.mpr ⟨fst f n (j + 1), fst_lvs (fun i hi2 => ?_) (fun i k h1 h2 he => ?_), rfl⟩
    · have h1 := h (i + 1) (by omega)
      rw [show j + (i + 1) = j + 1 + i by omega] at h1
      refine ⟨h1.1, ?_⟩
      rw [dif_bit, h1.2, Nat.testBit_two_pow]
      have : f j ≠ f (j + 1 + i) := fun e => by
        have := hi 0 (i + 1) (by omega) (by omega) (by rw [Nat.add_zero, e]; congr 1; omega)
        omega
      rw [decide_eq_false this]; rfl
    · have := hi (i + 1) (k + 1) (by omega) (by omega) (by rw [show j + (i + 1) = j + 1 + i by omega, show j + (k + 1) = j + 1 + k by omega]; exact he)
      omega
theorem own_lvs (w : WF σ) : fst (fun i => σ (67 + i)) (σ 3) 0 ∈ lvs 8 (σ 3) (sMk σ) := by
  refine fst_lvs (fun i hi => ?_) (fun i k hi hk he => ?_)
  · simp only [Nat.zero_add]
    exact ⟨w.or' hi, msk_bit.2 ⟨i, hi, rfl⟩⟩
  · simp only [Nat.zero_add] at he
    exact w.inj hi hk he
theorem own_sO (h8 : σ 8 = 0) : sO σ (fst (fun i => σ (67 + i)) (σ 3) 0) = σ := by
  funext i
  unfold sO
  split
  · rename_i h
    rw [fst_el (by omega), Nat.zero_add]
    congr 1
    omega
  · split
    · rename_i h; rw [h, h8]
    · rfl
/-- the BEST ORDER is no slower than the one that there is -/
theorem best_le (w : WF σ) (h8 : σ 8 = 0) {v : Nat} (h : sTill σ (sSee σ) (2 ^ σ 1 - 1) 999 = some v) (hv : v ≤ 99) : ∃ u L, sBest σ = some (u, L) ∧ u ≤ v := by
  have h2 : sV σ (fst (fun i => σ (67 + i)) (σ 3) 0) = some v := by
    unfold sV
    rw [own_sO h8]
    exact till_B (k := 100) (d := 900) h (by omega)
  obtain ⟨u, L, e, hu⟩ := bf_own h2 (r := lvs 8 (σ 3) (sMk σ)) (b := none) (own_lvs w)
  exact ⟨u, L, e, hu⟩
theorem best_is {u : Nat} {L : List Nat} (h : sBest σ = some (u, L)) : L ∈ lvs 8 (σ 3) (sMk σ) ∧ sV σ L = some u := by
  rcases bf_mem h with h | h
  · cases h
  · exact h
end SEM
