/-! what a TURN leaves as it is; that what always holds goes on -/
def sameB (σ σ' : Nat → Nat) : Prop := ∀ i, (i < 33 ∨ (49 ≤ i ∧ i < 75)) → i ≠ 4 → i ≠ 5 → i ≠ 8 → σ' i = σ i
theorem sameB.rf {σ : Nat → Nat} : sameB σ σ := fun _ _ _ _ _ => rfl
theorem sameB.tr {σ σ' σ'' : Nat → Nat} (h : sameB σ σ') (h2 : sameB σ' σ'') : sameB σ σ'' := fun i a b c d => (h2 i a b c d).trans (h i a b c d)
theorem sameB.up {σ : Nat → Nat} {i v : Nat} (h : ¬ ((i < 33 ∨ (49 ≤ i ∧ i < 75)) ∧ i ≠ 4 ∧ i ≠ 5 ∧ i ≠ 8)) : sameB σ (up σ i v) := fun j a b c d => up_n _ _ (fun e => h (by subst e; exact ⟨a, b, c, d⟩))
theorem WF.mk' {σ σ' : Nat → Nat} (w : WF σ) (hB : sameB σ σ') (h8 : σ' 8 < σ 3 ∨ σ' 8 = 0) (hk : ∀ k, k < 8 → σ' (33 + k) < 64 ∧ (σ 0 ≤ k → σ' (33 + k) = 0))
    (hd : ∀ p s, p < 6 → s < 6 → sD σ' p s ≤ 20 ∧ (s < σ 1 → sD σ' p s ≤ σ (49 + s)) ∧ (σ 1 ≤ s ∨ σ 2 ≤ p → sD σ' p s = 0)) (hu : ∀ p, p < 6 → sPr σ' p ≤ σ (55 + p)) : WF σ' := by
  have e0 : σ' 0 = σ 0 := hB 0 (by omega) (by omega) (by omega) (by omega)
  have e1 : σ' 1 = σ 1 := hB 1 (by omega) (by omega) (by omega) (by omega)
  have e2 : σ' 2 = σ 2 := hB 2 (by omega) (by omega) (by omega) (by omega)
  have e3 : σ' 3 = σ 3 := hB 3 (by omega) (by omega) (by omega) (by omega)
  have e6 : σ' 6 = σ 6 := hB 6 (by omega) (by omega) (by omega) (by omega)
  have e7 : σ' 7 = σ 7 := hB 7 (by omega) (by omega) (by omega) (by omega)
  refine ⟨⟨?_, ?_, ?_, ?_, ?_, ?_, ?_⟩, ?_, ?_, ?_, ?_, ?_, ?_, ?_, ?_⟩
  · rw [e0]; exact w.c0
  · rw [e1]; exact w.c1
  · rw [e2]; exact w.c2
  · rw [e3]; exact w.c3
  · rw [e6]; exact w.c6
  · rw [e7]; exact w.c7
  · rw [e3]; exact h8
  · intro k h
    rw [hB (9 + k) (by omega) (by omega) (by omega) (by omega), hB (17 + k) (by omega) (by omega) (by omega) (by omega), hB (25 + k) (by omega) (by omega) (by omega) (by omega)]
    exact ⟨w.can h, w.bl h, w.ru h, (hk k h).1⟩
  · intro k h h0
    rw [e0] at h0
    exact (hk k h).2 h0
  · intro s h
    rw [hB (49 + s) (by omega) (by omega) (by omega) (by omega), e1]
    exact ⟨w.le h, w.le1 h⟩
  · intro p h
    rw [hB (55 + p) (by omega) (by omega) (by omega) (by omega), hB (61 + p) (by omega) (by omega) (by omega) (by omega)]
    exact ⟨w.ro h, w.od h⟩
  · intro i h
    rw [e3] at h
    have := w.c3
    rw [hB (67 + i) (by omega) (by omega) (by omega) (by omega), e0]
    exact w.or h
  · intro i j h h2
    rw [e3] at h h2
    have := w.c3
    rw [hB (67 + i) (by omega) (by omega) (by omega) (by omega), hB (67 + j) (by omega) (by omega) (by omega) (by omega)]
    exact w.inj h h2
  · intro p s h h2
    rw [hB (49 + s) (by omega) (by omega) (by omega) (by omega), e1, e2]
    exact hd p s h h2
  · intro p h
    rw [hB (55 + p) (by omega) (by omega) (by omega) (by omega)]
    exact hu p h
theorem sD_up {σ : Nat → Nat} {p q s t v : Nat} (hs : s < 6) (ht : t < 6) : sD (up σ (75 + 6 * p + s) v) q t = if q = p ∧ t = s then v else sD σ q t := by
  unfold sD up
  by_cases h : q = p ∧ t = s
  · rw [if_pos h, if_pos (by omega)]
  · rw [if_neg h, if_neg (by omega)]
theorem sD_upo {σ : Nat → Nat} {i q t v : Nat} (hi : i < 75) : sD (up σ i v) q t = sD σ q t := up_n _ _ (by omega)
theorem sPr_upo {σ : Nat → Nat} {i q v : Nat} (hi : i < 75) : sPr (up σ i v) q = sPr σ q := by
  unfold sPr
  simp only [sD_upo hi]
theorem sPr_up {σ : Nat → Nat} {p q s v : Nat} (hs : s < 6) : sPr (up σ (75 + 6 * p + s) v) q + (if q = p then sD σ p s else 0) = sPr σ q + (if q = p then v else 0) := by
  unfold sPr
  simp (disch := omega) only [sD_up hs]
  by_cases h : q = p
  · subst h
    simp only [true_and, if_true]
    have : s = 0 ∨ s = 1 ∨ s = 2 ∨ s = 3 ∨ s = 4 ∨ s = 5 := by omega
    rcases this with rfl | rfl | rfl | rfl | rfl | rfl <;> simp <;> omega
  · simp only [h, false_and, if_false]
theorem sSt_up {σ : Nat → Nat} {p q s t v : Nat} (hs : s < 6) (ht : t < 6) (h : ¬ (q = p ∧ t = s)) : sSt (up σ (75 + 6 * p + s) v) q t = sSt σ q t := by
  unfold sSt
  rw [sD_up hs ht, if_neg h, up_n _ _ (by omega)]
theorem sStg_same {σ σ' : Nat → Nat} {p : Nat} (h1 : σ' 1 = σ 1) (h : ∀ s, s < σ 1 → sSt σ' p s = sSt σ p s) : sStg σ' p = sStg σ p := by
  unfold sStg
  rw [h1]
  exact bset_congr h
/-- SECRETS on PAGES not shut, bit by bit -/
theorem sOpenN_bit {σ : Nat → Nat} {s : Nat} : ∀ k, (sOpenN σ k).testBit s = true ↔ ∃ p, p < k ∧ sShut σ p = false ∧ s < σ 1 ∧ sSt σ p s = true
  | 0 => by
    unfold sOpenN
    rw [Nat.zero_testBit]
    exact ⟨fun h => (by cases h), fun ⟨p, h, _⟩ => absurd h (Nat.not_lt_zero p)⟩
  | k + 1 => by
    unfold sOpenN
    rw [Nat.testBit_or, Bool.or_eq_true, sOpenN_bit k]
    constructor
    · rintro (⟨p, h1, h2⟩ | h)
      · exact ⟨p, by omega, h2⟩
      · cases hb : sShut σ k
        · rw [hb, if_neg (by decide)] at h
          unfold sStg at h
          rw [bset_bit, Bool.and_eq_true, decide_eq_true_eq] at h
          exact ⟨k, by omega, hb, h.1, h.2⟩
        · rw [hb, if_pos rfl, Nat.zero_testBit] at h; cases h
    · rintro ⟨p, h1, h2, h3, h4⟩
      by_cases hp : p = k
      · subst hp
        refine Or.inr ?_
        rw [h2, if_neg (by decide)]
        unfold sStg
        rw [bset_bit, Bool.and_eq_true, decide_eq_true_eq]
        exact ⟨h3, h4⟩
      · exact Or.inl ⟨p, by omega, h2, h3, h4⟩
theorem sOpen_bit {σ : Nat → Nat} {s : Nat} : (sOpen σ).testBit s = true ↔ ∃ p, p < σ 2 ∧ sShut σ p = false ∧ s < σ 1 ∧ sSt σ p s = true := sOpenN_bit _
theorem sAdd_D {σ : Nat → Nat} {k p s n q t : Nat} (hk : k < 8) (hs : s < 6) (ht : t < 6) : sD (sAdd σ k p s n) q t = if q = p ∧ t = s then sD σ p s + n else sD σ q t := by
  unfold sAdd
  rw [sD_upo (by omega), sD_upo (by omega), sD_up hs ht]
theorem sAdd_Pr {σ : Nat → Nat} {k p s n q : Nat} (hk : k < 8) (hs : s < 6) : sPr (sAdd σ k p s n) q = sPr σ q + (if q = p then n else 0) := by
  have h := sPr_up (σ := σ) (p := p) (q := q) (v := sD σ p s + n) hs
  unfold sAdd
  rw [sPr_upo (by omega), sPr_upo (by omega)]
  by_cases e : q = p
  · rw [if_pos e, if_pos e] at h; rw [if_pos e]; omega
  · rw [if_neg e, if_neg e] at h; rw [if_neg e]; omega
theorem sAdd_B {σ : Nat → Nat} {k p s n : Nat} (hk : k < 8) : sameB σ (sAdd σ k p s n) := by
  unfold sAdd
  exact ((sameB.up (by omega)).tr (sameB.up (by omega))).tr (sameB.up (by omega))
theorem sAdd_k {σ : Nat → Nat} {k p s n i : Nat} (hi : i < 41) (h5 : i ≠ 5) : sAdd σ k p s n i = σ i := by
  unfold sAdd
  rw [up_n _ _ h5, up_n _ _ (by omega), up_n _ _ (by omega)]
theorem wf_add {σ : Nat → Nat} (w : WF σ) {k p s n : Nat} (hk : k < 8) (hp : p < σ 2) (hs : s < σ 1) (hn : n ≤ sFree σ p) (hn2 : n ≤ σ (49 + s) - sD σ p s) : WF (sAdd σ k p s n) := by
  have h1 := w.c1
  have h2 := w.c2
  refine w.mk' (sAdd_B hk) ?_ ?_ ?_ ?_
  · rw [sAdd_k (by omega) (by omega)]; exact w.c8
  · intro j hj
    rw [sAdd_k (by omega) (by omega)]
    exact ⟨w.kn hj, w.kn0 hj⟩
  · intro q t hq ht
    rw [sAdd_D hk (by omega) ht]
    by_cases e : q = p ∧ t = s
    · obtain ⟨rfl, rfl⟩ := e
      rw [if_pos ⟨rfl, rfl⟩]
      have a := w.dle (p := q) hq hs
      have b := w.le (s := t) (by omega)
      exact ⟨by omega, fun _ => by omega, fun h => by omega⟩
    · rw [if_neg e]
      exact ⟨w.dl hq ht, fun h => w.dle hq h, fun h => w.d0 hq ht h⟩
  · intro q hq
    rw [sAdd_Pr hk (by omega)]
    have a := w.us hq
    by_cases e : q = p
    · subst e
      rw [if_pos rfl]
      unfold sFree at hn
      omega
    · rw [if_neg e]; exact a
theorem sMany_le {σ : Nat → Nat} {p s left : Nat} : sMany σ p s left ≤ left ∧ sMany σ p s left ≤ sFree σ p ∧ sMany σ p s left ≤ σ (49 + s) - sD σ p s := by
  unfold sMany
  omega
/-- PRICKS of one TURN: what holds as far as secret j -/
theorem sPrickN_ok {σ : Nat → Nat} (w : WF σ) {k left : Nat} (hk : k < 8) : ∀ j, j ≤ σ 1 → WF (sPrickN k (σ, left) j).1 ∧ sameB σ (sPrickN k (σ, left) j).1 ∧ (sPrickN k (σ, left) j).2 ≤ left ∧ (∀ i, i < 41 → i ≠ 5 → (sPrickN k (σ, left) j).1 i = σ i)
  | 0, _ => ⟨w, sameB.rf, Nat.le_refl _, fun _ _ _ => rfl⟩
  | j + 1, hj => by
    obtain ⟨a, b, c, d⟩ := sPrickN_ok w hk j (by omega)
    have e1 : (sPrickN k (σ, left) j).1 1 = σ 1 := d 1 (by omega) (by omega)
    have e2 : (sPrickN k (σ, left) j).1 2 = σ 2 := d 2 (by omega) (by omega)
    show WF (sPrick1 k j (sPrickN k (σ, left) j)).1 ∧ sameB σ (sPrick1 k j (sPrickN k (σ, left) j)).1 ∧ (sPrick1 k j (sPrickN k (σ, left) j)).2 ≤ left ∧ (∀ i, i < 41 → i ≠ 5 → (sPrick1 k j (sPrickN k (σ, left) j)).1 i = σ i)
    unfold sPrick1
    split
    · split
      · exact ⟨a, b, c, d⟩
      · rename_i p hp
        have hp2 := sPg_lt hp
        have hm := sMany_le (σ := (sPrickN k (σ, left) j).1) (p := p) (s := j) (left := (sPrickN k (σ, left) j).2)
        refine ⟨wf_add a hk hp2 (by omega) hm.2.1 hm.2.2, b.tr (sAdd_B hk), by omega, fun i hi h5 => ?_⟩
        show sAdd _ k p j _ i = σ i
        rw [sAdd_k hi h5, d i hi h5]
    · exact ⟨a, b, c, d⟩
theorem m_pricksAll {c : Nat → Int32} {σ : Nat → Nat} {fu k : Nat} (w : WF σ) (hk : k < 8) (hfu : 100 < fu) : f_X12_pricksAll fu (nI k) (mk c σ) = some (mk c (sPricks σ k)) := by
  have h1 := w.c1
  have hc := w.can hk
  unfold f_X12_pricksAll sPricks
  simp (disch := omega) only [gi_n, nI_cl, nI_add, mk_in, lt_]
  refine loop_p (fun n j => f_X12_pricksAll_12 fu n (nI k) (nI (sPrickN k (σ, σ (9 + k)) j).2) (nI j) (mk c (sPrickN k (σ, σ (9 + k)) j).1)) (σ 1) _ ?_ ?_ (σ 1) 0 fu (by omega) (by omega)
  · intro n j hj
    obtain ⟨w', -, hl, hd⟩ := sPrickN_ok w (left := σ (9 + k)) hk j (by omega)
    show f_X12_pricksAll_12 fu (n + 1) (nI k) (nI (sPrickN k (σ, σ (9 + k)) j).2) (nI j) (mk c (sPrickN k (σ, σ (9 + k)) j).1) = f_X12_pricksAll_12 fu n (nI k) (nI (sPrick1 k j (sPrickN k (σ, σ (9 + k)) j)).2) (nI (j + 1)) (mk c (sPrick1 k j (sPrickN k (σ, σ (9 + k)) j)).1)
    have e1 := hd 1 (by omega) (by omega)
    have e2 := hd 2 (by omega) (by omega)
    generalize sPrickN k (σ, σ (9 + k)) j = q at w' hl e1 e2 ⊢
    obtain ⟨τ, left⟩ := q
    simp only at w' hl e1 e2 ⊢
    have hkn := w'.kn hk
    have hop := w'.opn'
    simp (disch := omega) only [f_X12_pricksAll_12, gi_n, nI_cl, nI_add, mk_in, e1, nI_le', if_neg, has12, bd_s, bI_0, lt_, m_standingOpen w', m_pageFor w']
    unfold sPrick1 sWant
    simp only
    cases hb1 : (τ (33 + k)).testBit j
    · simp only [if_true, Bool.false_and, Bool.false_eq_true, if_false]
    · cases hb2 : (sOpen τ).testBit j
      · simp only [if_true, Bool.true_and, Bool.not_false, Bool.true_eq_false, if_false]
        cases hp : sPg τ j with
        | none => simp only [oI_n0le, if_false]
        | some p =>
          have hp2 := sPg_lt hp
          have hc2 := w'.c2
          have hF : sFree τ p ≤ 60 := by have := w'.ro (p := p) (by omega); unfold sFree; omega
          have hD := w'.dle (p := p) (s := j) (by omega) (by omega)
          have hL := w'.le (s := j) (by omega)
          have hD' : τ (75 + 6 * p + j) ≤ τ (49 + j) := hD
          have hmin : (if (if τ (49 + j) - τ (75 + 6 * p + j) < sFree τ p then nI (τ (49 + j) - τ (75 + 6 * p + j)) else nI (sFree τ p)) < nI left then (if τ (49 + j) - τ (75 + 6 * p + j) < sFree τ p then nI (τ (49 + j) - τ (75 + 6 * p + j)) else nI (sFree τ p)) else nI left) = nI (sMany τ p j left) := by
            unfold sMany sD
            by_cases h : τ (49 + j) - τ (75 + 6 * p + j) < sFree τ p
            · simp only [if_pos h]
              simp (disch := omega) only [nI_lt']
              split <;> congr 1 <;> omega
            · simp only [if_neg h]
              simp (disch := omega) only [nI_lt']
              split <;> congr 1 <;> omega
          have hm := sMany_le (σ := τ) (p := p) (s := j) (left := left)
          simp (disch := omega) only [oI_s, nI_0le, if_true, m_freeOf w', bd_s, gi_n, nI_cl, nI_add, pk_mul, mk_in, pk_sub, nI_lt', hmin, mk_up, up_n, up_s, lt_]
          rfl
      · simp only [if_true, Bool.true_and, Bool.not_true, Bool.true_eq_false, if_false, Bool.false_eq_true]
  · intro n
    obtain ⟨-, -, -, hd⟩ := sPrickN_ok w (left := σ (9 + k)) hk (σ 1) (Nat.le_refl _)
    have e1 := hd 1 (by omega) (by omega)
    simp (disch := omega) only [f_X12_pricksAll_12, gi_n, nI_cl, mk_in, e1, nI_le', if_pos]
