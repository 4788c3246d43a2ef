theorem loop_r {β : Type} (L : Nat → Nat → β) (N : Nat) (fin : β) (hs : ∀ n j, j < N → L n (j + 1) = fin → L (n + 1) j = fin) (hf : ∀ n, L (n + 1) N = fin) : ∀ k j n, j + k = N → k < n → L n j = fin :=
  loop_q L N (fun _ _ => fin) (fun n _ j hj ih => hs n j (by omega) ih) hf
section SB
variable {b : Nat → Int32} {σ τ : Nat → Nat}
theorem sameB.e0 (h : sameB σ τ) : τ 0 = σ 0 := h 0 (by omega) (by omega) (by omega) (by omega)
theorem sameB.e1 (h : sameB σ τ) : τ 1 = σ 1 := h 1 (by omega) (by omega) (by omega) (by omega)
theorem sameB.e2 (h : sameB σ τ) : τ 2 = σ 2 := h 2 (by omega) (by omega) (by omega) (by omega)
theorem sameB.e3 (h : sameB σ τ) : τ 3 = σ 3 := h 3 (by omega) (by omega) (by omega) (by omega)
theorem sameB.e6 (h : sameB σ τ) : τ 6 = σ 6 := h 6 (by omega) (by omega) (by omega) (by omega)
theorem sameB.e7 (h : sameB σ τ) : τ 7 = σ 7 := h 7 (by omega) (by omega) (by omega) (by omega)
theorem sameB.can (h : sameB σ τ) {k : Nat} (hk : k < 8) : τ (9 + k) = σ (9 + k) := h _ (by omega) (by omega) (by omega) (by omega)
theorem sameB.bl (h : sameB σ τ) {k : Nat} (hk : k < 8) : τ (17 + k) = σ (17 + k) := h _ (by omega) (by omega) (by omega) (by omega)
theorem sameB.ru (h : sameB σ τ) {k : Nat} (hk : k < 8) : τ (25 + k) = σ (25 + k) := h _ (by omega) (by omega) (by omega) (by omega)
theorem sameB.le (h : sameB σ τ) {k : Nat} (hk : k < 6) : τ (49 + k) = σ (49 + k) := h _ (by omega) (by omega) (by omega) (by omega)
theorem sameB.ro (h : sameB σ τ) {k : Nat} (hk : k < 6) : τ (55 + k) = σ (55 + k) := h _ (by omega) (by omega) (by omega) (by omega)
theorem sameB.od (h : sameB σ τ) {k : Nat} (hk : k < 6) : τ (61 + k) = σ (61 + k) := h _ (by omega) (by omega) (by omega) (by omega)
theorem sameB.or (h : sameB σ τ) {k : Nat} (hk : k < 8) : τ (67 + k) = σ (67 + k) := h _ (by omega) (by omega) (by omega) (by omega)
theorem sameB.shut (h : sameB σ τ) {p : Nat} : sShut τ p = sShut σ p := by unfold sShut; rw [h.e7]
theorem aL_B (h : sameB σ τ) (w : WF σ) : aL b τ = aL b σ := by
  have := w.c1
  unfold aL
  rw [h.e1]
  exact mkF_congr (fun i hi => h.le (by omega))
theorem aR_B (h : sameB σ τ) (w : WF σ) : aR b τ = aR b σ := by
  have := w.c2
  unfold aR
  rw [h.e2]
  exact mkF_congr (fun i hi => h.ro (by omega))
theorem aP_B (h : sameB σ τ) (w : WF σ) : aP b τ = aP b σ := by
  have := w.c0
  unfold aP
  rw [h.e0]
  exact mkF_congr (fun i hi => h.can (by omega))
theorem aO_B (h : sameB σ τ) (w : WF σ) : aO b τ = aO b σ := by
  have := w.c3
  unfold aO
  rw [h.e3]
  exact mkF_congr (fun i hi => h.or (by omega))
theorem aX_B (h : sameB σ τ) : aX b τ = aX b σ := mkF_congr (fun _ hi => h.od hi)
end SB
theorem sPgN_well {σ : Nat → Nat} {s : Nat} : ∀ {k p : Nat}, sPgN σ s k = some p → sShut σ p = false
  | 0, p, h => by cases h
  | k + 1, p, h => by
    unfold sPgN sPgS at h
    split at h
    · exact sPgN_well h
    · rename_i hb
      have hk : sShut σ k = false := Bool.eq_false_iff.mpr (fun q => hb (Or.inl q))
      split at h
      · cases h; exact hk
      · rename_i q hq
        split at h
        · cases h; exact sPgN_well hq
        · cases h; exact hk
theorem sPg_well {σ : Nat → Nat} {s p : Nat} (h : sPg σ s = some p) : sShut σ p = false := sPgN_well h
theorem sPg_low {σ : Nat → Nat} {s p : Nat} (h : sPg σ s = some p) (hs : s < σ 1) (ho : (sOpen σ).testBit s = false) : sSt σ p s = false := by
  apply Bool.eq_false_iff.mpr
  intro q
  have := (sOpen_bit (σ := σ) (s := s)).mpr ⟨p, sPg_lt h, sPg_well h, hs, q⟩
  rw [ho] at this; cases this
theorem sPrick1_cases {σ : Nat → Nat} {k s left : Nat} (P : (Nat → Nat) × Nat → Prop) (h0 : P (σ, left)) (h1 : ∀ p, sWant σ k s = true → sPg σ s = some p → P (sAdd σ k p s (sMany σ p s left), left - sMany σ p s left)) : P (sPrick1 k s (σ, left)) := by
  unfold sPrick1
  split
  · rename_i hw
    split
    · exact h0
    · rename_i p hp
      exact h1 p hw hp
  · exact h0
theorem sPrickN_more {σ : Nat → Nat} (w : WF σ) {k left : Nat} (hk : k < 8) : ∀ j, j ≤ σ 1 →
    (∀ t, j ≤ t → t < σ 1 → (sOpen (sPrickN k (σ, left) j).1).testBit t = (sOpen σ).testBit t) ∧
    (sPrickN k (σ, left) j).1 5 = σ 5 + (left - (sPrickN k (σ, left) j).2) ∧ (sPrickN k (σ, left) j).1 (41 + k) = σ (41 + k) + (left - (sPrickN k (σ, left) j).2) ∧
    (∀ i, i < 8 → i ≠ k → (sPrickN k (σ, left) j).1 (41 + i) = σ (41 + i))
  | 0, _ => ⟨fun _ _ _ => rfl, by show σ 5 = σ 5 + (left - left); omega, by show σ (41 + k) = σ (41 + k) + (left - left); omega, fun _ _ _ => rfl⟩
  | j + 1, hj => by
    obtain ⟨a, b, c, d⟩ := sPrickN_more w (left := left) hk j (by omega)
    obtain ⟨w', hB, hl, hd⟩ := sPrickN_ok w (left := left) hk j (by omega)
    have h1 := w.c1
    show (∀ t, j + 1 ≤ t → t < σ 1 → (sOpen (sPrick1 k j (sPrickN k (σ, left) j)).1).testBit t = (sOpen σ).testBit t) ∧
      (sPrick1 k j (sPrickN k (σ, left) j)).1 5 = σ 5 + (left - (sPrick1 k j (sPrickN k (σ, left) j)).2) ∧ (sPrick1 k j (sPrickN k (σ, left) j)).1 (41 + k) = σ (41 + k) + (left - (sPrick1 k j (sPrickN k (σ, left) j)).2) ∧
      (∀ i, i < 8 → i ≠ k → (sPrick1 k j (sPrickN k (σ, left) j)).1 (41 + i) = σ (41 + i))
    generalize sPrickN k (σ, left) j = q at a b c d w' hB hl ⊢
    obtain ⟨τ, l⟩ := q
    simp only at a b c d w' hB hl
    refine sPrick1_cases (fun r => (∀ t, j + 1 ≤ t → t < σ 1 → (sOpen r.1).testBit t = (sOpen σ).testBit t) ∧ r.1 5 = σ 5 + (left - r.2) ∧ r.1 (41 + k) = σ (41 + k) + (left - r.2) ∧ (∀ i, i < 8 → i ≠ k → r.1 (41 + i) = σ (41 + i))) ⟨fun t h1 h2 => a t (by omega) h2, b, c, d⟩ ?_
    intro p _ hp
    have hm := sMany_le (σ := τ) (p := p) (s := j) (left := l)
    generalize sMany τ p j l = n at hm ⊢
    refine ⟨fun t h1 h2 => ?_, ?_, ?_, fun i hi hne => ?_⟩
    · rw [← a t (by omega) h2, Bool.eq_iff_iff, sOpen_bit, sOpen_bit]
      simp only
      have hBA := sAdd_B (σ := τ) (k := k) (p := p) (s := j) (n := n) hk
      rw [hBA.e2, hBA.e1]
      have : ∀ q, sSt (sAdd τ k p j n) q t = sSt τ q t := by
        intro q
        unfold sSt
        rw [sAdd_D hk (by omega) (by omega), if_neg (by omega), hBA.le (by omega)]
      simp only [hBA.shut, this]
    · show sAdd τ k p j n 5 = _
      unfold sAdd
      rw [up_s]
      omega
    · show sAdd τ k p j n (41 + k) = _
      unfold sAdd
      rw [up_n _ _ (by omega), up_s]
      omega
    · show sAdd τ k p j n (41 + i) = _
      unfold sAdd
      rw [up_n _ _ (by omega), up_n _ _ (by omega), up_n _ _ (by omega)]
      exact d i hi hne
theorem c_makePricks {σ : Nat → Nat} {dt kn md sd us lt rm sp : Nat → Int32} {fu k : Nat} (w : WF σ) (hk : k < σ 0) (hfu : 100 < fu) :
    f_X7_makePricks fu (nI k) (nI (σ 7)) (nI (σ 5)) (aD dt σ) (aK kn σ) (aM md σ) (aS sd σ) (aU us σ) (nI (σ 1)) (nI (σ 2)) (aL lt σ) (aR rm σ) (aP sp σ)
      = some (nI (sPricks σ k 5), aD dt (sPricks σ k), aM md (sPricks σ k), aS sd (sPricks σ k), aU us (sPricks σ k)) := by
  have h0 := w.c0
  have h1 := w.c1
  have h2 := w.c2
  have hc := w.can (k := k) (by omega)
  have hkn := w.kn (k := k) (by omega)
  have hop := w.opn'
  unfold f_X7_makePricks sPricks
  simp (disch := omega) only [gi_n, nI_cl, aP_in, aK_in, lt_, c_standingInAll w, bd_s, nI_andn]
  have hwd : dif (σ (33 + k)) (sOpen σ) < 64 := dif_lt (n := 6) hkn
  -- the end
  have H87 : ∀ j, j ≤ σ 1 → sPrickN k (σ, σ (9 + k)) (σ 1) = sPrickN k (σ, σ (9 + k)) j → f_X7_makePricks_87 fu (nI (σ 7)) (aK kn σ) (nI (σ 1)) (nI (σ 2)) (aL lt σ) (aR rm σ) (aP sp σ) (nI k) (nI (sPrickN k (σ, σ (9 + k)) j).2) (nI (σ 5)) (aD dt (sPrickN k (σ, σ (9 + k)) j).1) (aM md σ) (aS sd (sPrickN k (σ, σ (9 + k)) j).1) (aU us (sPrickN k (σ, σ (9 + k)) j).1) = some (nI ((sPrickN k (σ, σ (9 + k)) (σ 1)).1 5), aD dt (sPrickN k (σ, σ (9 + k)) (σ 1)).1, aM md (sPrickN k (σ, σ (9 + k)) (σ 1)).1, aS sd (sPrickN k (σ, σ (9 + k)) (σ 1)).1, aU us (sPrickN k (σ, σ (9 + k)) (σ 1)).1) := by
    intro j hj e
    rw [e]
    obtain ⟨-, b, c, d⟩ := sPrickN_more w (left := σ (9 + k)) (show k < 8 by omega) j hj
    obtain ⟨-, -, hl, -⟩ := sPrickN_ok w (left := σ (9 + k)) (show k < 8 by omega) j hj
    generalize sPrickN k (σ, σ (9 + k)) j = q at b c d hl ⊢
    obtain ⟨τ, l⟩ := q
    simp only at b c d hl ⊢
    unfold f_X7_makePricks_87
    simp (disch := omega) only [gi_n, nI_cl, aP_in, aM_in, pk_sub, nI_add, lt_, ← b]
    congr 3
    rw [aM_up (by omega)]
    congr 1
    refine aM_c (fun i hi hi2 => ?_)
    by_cases e : i = 41 + k
    · subst e; rw [up_s, c]
    · rw [up_n _ _ e]
      have := d (i - 41) (by omega) (by omega)
      rw [show 41 + (i - 41) = i by omega] at this
      exact this.symm
  refine loop_r (fun n j => f_X7_makePricks_26 fu (nI (σ 7)) (aK kn σ) (nI (σ 1)) (nI (σ 2)) (aL lt σ) (aR rm σ) (aP sp σ) n (nI k) (nI (sPrickN k (σ, σ (9 + k)) j).2) (nI (dif (σ (33 + k)) (sOpen σ))) (nI j) (nI (σ 5)) (aD dt (sPrickN k (σ, σ (9 + k)) j).1) (aM md σ) (aS sd (sPrickN k (σ, σ (9 + k)) j).1) (aU us (sPrickN k (σ, σ (9 + k)) j).1)) (σ 1) _ ?_ ?_ (σ 1) 0 fu (by omega) (by omega)
  · intro n j hj ih
    have hj' : j ≤ σ 1 := by omega
    obtain ⟨a, b, c, d⟩ := sPrickN_more w (left := σ (9 + k)) (show k < 8 by omega) j hj'
    obtain ⟨w', hB, hl, hd⟩ := sPrickN_ok w (left := σ (9 + k)) (show k < 8 by omega) j hj'
    have H := H87 j hj'
    have hbit : (dif (σ (33 + k)) (sOpen σ)).testBit j = sWant (sPrickN k (σ, σ (9 + k)) j).1 k j := by
      unfold sWant
      rw [dif_bit, a j (Nat.le_refl _) hj, hd (33 + k) (by omega) (by omega)]
    have hz : (sPrickN k (σ, σ (9 + k)) j).2 = 0 → sPrickN k (σ, σ (9 + k)) (σ 1) = sPrickN k (σ, σ (9 + k)) j := fun h => sPrickN_0 h _ hj'
    have e : sPrickN k (σ, σ (9 + k)) (j + 1) = sPrick1 k j (sPrickN k (σ, σ (9 + k)) j) := rfl
    rw [e] at ih
    generalize sPrickN k (σ, σ (9 + k)) j = q at a b c d w' hB hl H hbit hz ih ⊢
    obtain ⟨τ, l⟩ := q
    simp only at a b c d w' hB hl hz hbit H ⊢
    rw [← ih]
    simp (disch := omega) only [f_X7_makePricks_26, nI_le', if_neg, nI_le0]
    by_cases hl0 : l = 0
    · rw [if_pos hl0, H (hz hl0), ih]
    · rw [if_neg hl0]
      simp (disch := omega) only [has7, bd_s, bI_0, hbit]
      unfold sPrick1
      cases hw : sWant τ k j
      · simp only [if_true, Bool.false_eq_true, if_false]
        simp (disch := omega) only [f_X7_makePricks_60, if_true, lt_, nI_add]
      · simp only [if_true, Bool.true_eq_false, if_false]
        have hP := c_pageFor (dt := dt) (us := us) (rm := rm) (fu := fu) w' (s := j) (by omega) hfu
        rw [hB.e7, hB.e2, aR_B hB w] at hP
        rw [hP, bd_s]
        cases hp : sPg τ j with
        | none =>
          show f_X7_makePricks_60 fu (nI (σ 7)) (aK kn σ) (nI (σ 1)) (nI (σ 2)) (aL lt σ) (aR rm σ) (aP sp σ) (f_X7_makePricks_26 fu (nI (σ 7)) (aK kn σ) (nI (σ 1)) (nI (σ 2)) (aL lt σ) (aR rm σ) (aP sp σ) n) (nI k) (nI l) (nI (dif (σ (33 + k)) (sOpen σ))) (nI j) (-1 : Int32) _ _ _ _ _ = _
          simp (disch := omega) only [f_X7_makePricks_60, if_true, lt_, nI_add]
        | some p =>
          have hpl := sPg_lt hp
          have e1 := hB.e1
          have e2 := hB.e2
          have hlow : sSt τ p j = false := by
            refine sPg_low hp (by omega) ?_
            unfold sWant at hw
            rw [Bool.and_eq_true] at hw
            simpa using hw.2
          have hM := c_makeOn (dt := dt) (sd := sd) (us := us) (lt := lt) (rm := rm) (k := k) (left := l) w' (by omega) hpl (show j < τ 1 by omega) (by omega) hlow
          rw [aL_B hB w, aR_B hB w] at hM
          have hm := sMany_le (σ := τ) (p := p) (s := j) (left := l)
          show f_X7_makePricks_60 fu (nI (σ 7)) (aK kn σ) (nI (σ 1)) (nI (σ 2)) (aL lt σ) (aR rm σ) (aP sp σ) (f_X7_makePricks_26 fu (nI (σ 7)) (aK kn σ) (nI (σ 1)) (nI (σ 2)) (aL lt σ) (aR rm σ) (aP sp σ) n) (nI k) (nI l) (nI (dif (σ (33 + k)) (sOpen σ))) (nI j) (nI p) _ _ _ _ _ = _
          simp (disch := omega) only [f_X7_makePricks_60, nI_ne_m1, if_false, hM, bd_s, lt_, nI_add, pk_sub]
  · intro n
    simp (disch := omega) only [f_X7_makePricks_26, nI_le', if_pos]
    exact H87 (σ 1) (Nat.le_refl _) rfl
