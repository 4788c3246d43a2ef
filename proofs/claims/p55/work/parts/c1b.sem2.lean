/-! what each CELL has made, how much in all; sums -/
def IM2 (σ : Nat → Nat) : Prop := (∀ k, σ 0 ≤ k → k < 8 → σ (41 + k) = 0) ∧ σ 5 ≤ 20 * σ 4
section SEM2
variable {σ τ : Nat → Nat}
theorem reads_lo {k i : Nat} (h : i < 75) (hk : i ≠ 33 + k) : sReads σ k i = σ i := by
  unfold sReads
  split
  · split
    · rw [rub_lo h, up_n _ _ hk]
    · rw [up_n _ _ hk]
  · rfl
theorem prick_2 (w : WF σ) {k left : Nat} (hk : k < 8) : ∀ j, j ≤ σ 1 → (∀ i, 41 ≤ i → i < 49 → i ≠ 41 + k → (sPrickN k (σ, left) j).1 i = σ i) ∧ (sPrickN k (σ, left) j).1 5 + (sPrickN k (σ, left) j).2 = σ 5 + left
  | 0, _ => ⟨fun _ _ _ _ => rfl, rfl⟩
  | j + 1, hj => by
    obtain ⟨a, b⟩ := prick_2 w (left := left) hk j (by omega)
    show (∀ i, 41 ≤ i → i < 49 → i ≠ 41 + k → (sPrick1 k j (sPrickN k (σ, left) j)).1 i = σ i) ∧ (sPrick1 k j (sPrickN k (σ, left) j)).1 5 + (sPrick1 k j (sPrickN k (σ, left) j)).2 = σ 5 + left
    unfold sPrick1
    split
    · split
      · exact ⟨a, b⟩
      · rename_i p hp
        have hm := (sMany_le (σ := (sPrickN k (σ, left) j).1) (p := p) (s := j) (left := (sPrickN k (σ, left) j).2)).1
        refine ⟨fun i h1 h2 h3 => ?_, ?_⟩
        · show sAdd _ k p j _ i = σ i
          unfold sAdd
          rw [up_n _ _ (by omega), up_n _ _ h3, up_n _ _ (by omega)]
          exact a i h1 h2 h3
        · show sAdd _ k p j _ 5 + (_ - _) = _
          unfold sAdd
          rw [up_s]
          omega
    · exact ⟨a, b⟩
theorem im2_turn (w : WF σ) (h : IM2 σ) : IM2 (sTurn σ) := by
  obtain ⟨a, b⟩ := h
  obtain ⟨w1, hB, h4⟩ := wf_turn w
  have e0 : sTurn σ 0 = σ 0 := hB.e0
  cases hn : sNext σ with
  | none =>
    have e : sTurn σ = up σ 4 (σ 4 + 1) := by
      unfold sTurn
      rw [hn]
    refine ⟨fun k h1 h2 => ?_, ?_⟩
    · rw [e, up_n _ _ (by omega)]
      rw [e0] at h1
      exact a k h1 h2
    · rw [h4, e, up_n _ _ (by omega)]; omega
  | some pl =>
    have hpl := sNext_lt hn
    have hk := w.or hpl
    have h0 := w.c0
    have hsp := w.can (k := σ (67 + pl)) (by omega)
    have w2 : WF (up (up σ 4 (σ 4 + 1)) 8 ((pl + 1) % σ 3)) := wf_8 (wf_4 w) (by rw [up_n _ _ (by omega)]; exact Or.inl (Nat.mod_lt _ (by omega)))
    obtain ⟨wr, -, -, -⟩ := wf_reads w2 (k := σ (67 + pl)) (by rw [up_n _ _ (by omega), up_n _ _ (by omega)]; exact hk)
    have hp := prick_2 wr (k := σ (67 + pl)) (left := sReads (up (up σ 4 (σ 4 + 1)) 8 ((pl + 1) % σ 3)) (σ (67 + pl)) (9 + σ (67 + pl))) (by omega) _ (Nat.le_refl _)
    have e : sTurn σ = sPricks (sReads (up (up σ 4 (σ 4 + 1)) 8 ((pl + 1) % σ 3)) (σ (67 + pl))) (σ (67 + pl)) := by
      unfold sTurn
      rw [hn]
    have eR : ∀ i, i < 75 → i ≠ 33 + σ (67 + pl) → i ≠ 4 → i ≠ 8 → sReads (up (up σ 4 (σ 4 + 1)) 8 ((pl + 1) % σ 3)) (σ (67 + pl)) i = σ i := fun i h1 h2 h3 h4 => by rw [reads_lo h1 h2, up_n _ _ h4, up_n _ _ h3]
    unfold sPricks at e
    rw [← e] at hp
    obtain ⟨p1, p2⟩ := hp
    rw [eR 5 (by omega) (by omega) (by omega) (by omega), eR (9 + σ (67 + pl)) (by omega) (by omega) (by omega) (by omega)] at p2
    refine ⟨fun k h1 h2 => ?_, ?_⟩
    · rw [e0] at h1
      rw [p1 _ (by omega) (by omega) (by omega), eR _ (by omega) (by omega) (by omega) (by omega)]
      exact a k h1 h2
    · rw [h4]; omega
theorem im2_it (w : WF σ) (h : IM2 σ) : ∀ n, IM2 (sIt n σ)
  | 0 => h
  | n + 1 => by
    rw [sIt_s]
    exact im2_turn (sIt_ok w n).1 (im2_it w h n)
theorem im2_c (h : IM2 σ) (h1 : ∀ i, i < 6 ∨ (41 ≤ i ∧ i < 49) → τ i = σ i) : IM2 τ := by
  obtain ⟨a, b⟩ := h
  refine ⟨fun k q1 q2 => ?_, ?_⟩
  · rw [h1 _ (by omega)] at q1 ⊢
    exact a k q1 q2
  · rw [h1 _ (by omega), h1 _ (by omega)]; exact b
theorem im_c (h : IM σ) (h1 : ∀ i, i < 6 ∨ (41 ≤ i ∧ i < 49) → τ i = σ i) (h2 : ∀ p, sPr τ p ≤ sPr σ p) : IM τ := by
  obtain ⟨a, b⟩ := h
  refine ⟨?_, ?_⟩
  · unfold Mo at a ⊢
    simp (disch := omega) only [h1]
    exact a
  · rw [h1 5 (by omega)]
    have q0 := h2 0
    have q1 := h2 1
    have q2 := h2 2
    have q3 := h2 3
    have q4 := h2 4
    have q5 := h2 5
    unfold sAll6 at *
    omega
/-- f 0 + .. -/
def sm (f : Nat → Nat) : Nat → Nat
  | 0 => 0
  | n + 1 => sm f n + f n
theorem sm_0 {f : Nat → Nat} {n : Nat} : ∀ {d : Nat}, (∀ i, n ≤ i → i < n + d → f i = 0) → sm f (n + d) = sm f n
  | 0, _ => rfl
  | d + 1, h => by
    show sm f (n + d) + f (n + d) = _
    rw [sm_0 (fun i h1 h2 => h i h1 (by omega)), h (n + d) (by omega) (by omega), Nat.add_zero]
theorem sm_mo (h : IM σ) (h2 : IM2 σ) (h0 : σ 0 ≤ 8) : sm (fun k => σ (41 + k)) (σ 0) = σ 5 := by
  have e : sm (fun k => σ (41 + k)) 8 = Mo σ := by
    unfold Mo
    simp only [sm, Nat.zero_add, Nat.reduceAdd]
  have := sm_0 (f := fun k => σ (41 + k)) (n := σ 0) (d := 8 - σ 0) (fun i q1 q2 => h2.1 i q1 (by omega))
  rw [show σ 0 + (8 - σ 0) = 8 by omega] at this
  rw [← this, e, h.1]
theorem sm_pr (w : WF σ) {p : Nat} (hp : p < 6) : sm (sD σ p) (σ 1) = sPr σ p := by
  have h1 := w.c1
  have e : sm (sD σ p) 6 = sPr σ p := by
    unfold sPr
    simp only [sm, Nat.zero_add]
  have := sm_0 (f := sD σ p) (n := σ 1) (d := 6 - σ 1) (fun i q1 q2 => w.d0 hp (by omega) (Or.inl q1))
  rw [show σ 1 + (6 - σ 1) = 6 by omega] at this
  rw [← this, e]
theorem sm_all (w : WF σ) : sm (sPr σ) (σ 2) = sAll6 σ := by
  have h2 := w.c2
  have e : sm (sPr σ) 6 = sAll6 σ := by
    unfold sAll6
    simp only [sm, Nat.zero_add]
  have := sm_0 (f := sPr σ) (n := σ 2) (d := 6 - σ 2) (fun i q1 q2 => by
    unfold sPr
    rw [w.d0 (by omega) (by omega) (Or.inr q1), w.d0 (by omega) (by omega) (Or.inr q1), w.d0 (by omega) (by omega) (Or.inr q1), w.d0 (by omega) (by omega) (Or.inr q1), w.d0 (by omega) (by omega) (Or.inr q1), w.d0 (by omega) (by omega) (Or.inr q1)])
  rw [show σ 2 + (6 - σ 2) = 6 by omega] at this
  rw [← this, e]
theorem all6_le (w : WF σ) : sAll6 σ ≤ 360 := by
  have h0 := Nat.le_trans (w.us (p := 0) (by omega)) (w.ro (by omega))
  have h1 := Nat.le_trans (w.us (p := 1) (by omega)) (w.ro (by omega))
  have h2 := Nat.le_trans (w.us (p := 2) (by omega)) (w.ro (by omega))
  have h3 := Nat.le_trans (w.us (p := 3) (by omega)) (w.ro (by omega))
  have h4 := Nat.le_trans (w.us (p := 4) (by omega)) (w.ro (by omega))
  have h5 := Nat.le_trans (w.us (p := 5) (by omega)) (w.ro (by omega))
  unfold sAll6
  omega
end SEM2
/-! what the law's row keeps -/
def HV (vh : Nat → Int32) : Prop :=
  (∀ k, k < 62 → vh k = nI (hN vh k)) ∧ ((1 ≤ hN vh 0 ∧ hN vh 0 ≤ 4) ∧ (1 ≤ hN vh 1 ∧ hN vh 1 ≤ 4) ∧ (1 ≤ hN vh 2 ∧ hN vh 2 ≤ 4) ∧ hN vh 3 ≤ hN vh 0) ∧
  (∀ k, k < 8 → hN vh (4 + k) ≤ 10 ∧ hN vh (12 + k) ≤ 1 ∧ hN vh (20 + k) ≤ 1 ∧ hN vh (28 + k) < 16) ∧
  (∀ s, s < 6 → (1 ≤ hN vh (36 + s) ∧ hN vh (36 + s) ≤ 12) ∧ hN vh (42 + s) ≤ 31 ∧ hN vh (48 + s) ≤ 16) ∧
  (∀ j, j < hN vh 3 → hN vh (54 + j) < hN vh 0) ∧ ∀ i j, i < hN vh 3 → j < hN vh 3 → hN vh (54 + i) = hN vh (54 + j) → i = j
def RI (vh : Nat → Int32) (σ : Nat → Nat) : Prop := WF σ ∧ (σ 0 = hN vh 0 ∧ σ 1 = hN vh 1 ∧ σ 2 = hN vh 2 ∧ σ 3 ≤ 4) ∧ (∀ k, k < hN vh 0 → σ (17 + k) = hN vh (12 + k)) ∧ (∀ s, s < hN vh 1 → σ (49 + s) = hN vh (36 + s)) ∧ (∀ p, p < hN vh 2 → σ (55 + p) = hN vh (42 + p)) ∧ (IM σ ∧ IM2 σ) ∧ (σ 4 = 0 → σ 8 = 0)
section RIS
variable {σ τ : Nat → Nat} {vh : Nat → Int32}
theorem RI.of (H : HV vh) (h : RI vh σ) (w : WF τ) (hs : ∀ i, (i < 4 ∨ (17 ≤ i ∧ i < 25) ∨ (49 ≤ i ∧ i < 61)) → τ i = σ i) (i1 : IM τ) (i2 : IM2 τ) (h48 : τ 4 = 0 → τ 8 = 0) : RI vh τ := by
  obtain ⟨-, ⟨⟨-, a0⟩, ⟨-, a1⟩, ⟨-, a2⟩, -⟩, -⟩ := H
  obtain ⟨-, ⟨b0, b1, b2, b3⟩, c, d, e, -⟩ := h
  refine ⟨w, ⟨?_, ?_, ?_, ?_⟩, fun k hk => ?_, fun s hk => ?_, fun p hk => ?_, ⟨i1, i2⟩, h48⟩
  · rw [hs _ (by omega)]; exact b0
  · rw [hs _ (by omega)]; exact b1
  · rw [hs _ (by omega)]; exact b2
  · rw [hs _ (by omega)]; exact b3
  · rw [hs _ (by omega)]; exact c k hk
  · rw [hs _ (by omega)]; exact d s hk
  · rw [hs _ (by omega)]; exact e p hk
theorem RI.it (H : HV vh) (h : RI vh σ) (n : Nat) (hn : 0 < n) : RI vh (sIt n σ) := by
  have w := h.1
  obtain ⟨wn, hB, h4⟩ := sIt_ok w n
  exact h.of H wn (fun i hi => hB i (by omega) (by omega) (by omega) (by omega)) (im_it w h.2.2.2.2.2.1.1 n) (im2_it w h.2.2.2.2.2.1.2 n) (fun h => by omega)
theorem RI.erase (H : HV vh) (h : RI vh σ) {p : Nat} : RI vh (sErase σ p) :=
  h.of H (wf_erase h.1) (fun i hi => sErase_lo (by omega)) (im_c h.2.2.2.2.2.1.1 (fun i hi => sErase_lo (by omega)) (fun q => by rw [sErase_Pr]; split <;> omega)) (im2_c h.2.2.2.2.2.1.2 (fun i hi => sErase_lo (by omega))) (by rw [sErase_lo (by omega), sErase_lo (by omega)]; exact h.2.2.2.2.2.2)
theorem RI.flip7 (H : HV vh) (h : RI vh σ) {p : Nat} {b : Bool} (hp : p < σ 2) : RI vh (sFlip7 σ p b) := by
  have w := wf_flip7 h.1 (b := b) hp
  have e : ∀ i, i ≠ 7 → sFlip7 σ p b i = σ i := fun i hi => by
    unfold sFlip7
    split
    · rfl
    · exact up_n _ _ hi
  have eP : ∀ q, sPr (sFlip7 σ p b) q = sPr σ q := fun q => by
    unfold sPr sD
    simp (disch := omega) only [e]
  exact h.of H w (fun i hi => e i (by omega)) (im_c h.2.2.2.2.2.1.1 (fun i hi => e i (by omega)) (fun q => by rw [eP]; exact Nat.le_refl _)) (im2_c h.2.2.2.2.2.1.2 (fun i hi => e i (by omega))) (by rw [e 4 (by omega), e 8 (by omega)]; exact h.2.2.2.2.2.2)
theorem RI.flip6 (H : HV vh) (h : RI vh σ) {p : Nat} {b : Bool} (hp : p < σ 0) : RI vh (sFlip6 σ p b) := by
  have w := wf_flip6 h.1 (b := b) hp
  have e : ∀ i, i ≠ 6 → sFlip6 σ p b i = σ i := fun i hi => by
    unfold sFlip6
    split
    · rfl
    · exact up_n _ _ hi
  have eP : ∀ q, sPr (sFlip6 σ p b) q = sPr σ q := fun q => by
    unfold sPr sD
    simp (disch := omega) only [e]
  exact h.of H w (fun i hi => e i (by omega)) (im_c h.2.2.2.2.2.1.1 (fun i hi => e i (by omega)) (fun q => by rw [eP]; exact Nat.le_refl _)) (im2_c h.2.2.2.2.2.1.2 (fun i hi => e i (by omega))) (by rw [e 4 (by omega), e 8 (by omega)]; exact h.2.2.2.2.2.2)
end RIS
