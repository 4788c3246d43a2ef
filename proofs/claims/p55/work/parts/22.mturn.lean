/-! loops: what is gathered as far as j; what is found from j on -/
theorem loop_p {β : Type} (L : Nat → Nat → β) (N : Nat) (fin : β) (hs : ∀ n j, j < N → L (n + 1) j = L n (j + 1)) (hf : ∀ n, L (n + 1) N = fin) : ∀ k j n, j + k = N → k < n → L n j = fin
  | 0, j, n, hj, hn => by
    obtain ⟨n, rfl⟩ : ∃ m, n = m + 1 := ⟨n - 1, by omega⟩
    obtain rfl : j = N := by omega
    exact hf n
  | k + 1, j, n, hj, hn => by
    obtain ⟨n, rfl⟩ : ∃ m, n = m + 1 := ⟨n - 1, by omega⟩
    rw [hs n j (by omega)]
    exact loop_p L N fin hs hf k (j + 1) n (by omega) (by omega)
theorem loop_q {β : Type} (L : Nat → Nat → β) (N : Nat) (val : Nat → Nat → β) (hs : ∀ n k j, j + k + 1 = N → L n (j + 1) = val k (j + 1) → L (n + 1) j = val (k + 1) j) (hf : ∀ n, L (n + 1) N = val 0 N) : ∀ k j n, j + k = N → k < n → L n j = val k j
  | 0, j, n, hj, hn => by
    obtain ⟨n, rfl⟩ : ∃ m, n = m + 1 := ⟨n - 1, by omega⟩
    obtain rfl : j = N := by omega
    exact hf n
  | k + 1, j, n, hj, hn => by
    obtain ⟨n, rfl⟩ : ∃ m, n = m + 1 := ⟨n - 1, by omega⟩
    exact hs n k j (by omega) (loop_q L N val hs hf k (j + 1) n (by omega) (by omega))
/-! the reference's TURN -/
theorem m_pricksOn {c : Nat → Int32} {σ : Nat → Nat} {fu p : Nat} (hp : p < 6) (hfu : 100 < fu) : f_X12_pricksOn fu (nI p) (mk c σ) = some (nI (sPr σ p)) := by
  obtain ⟨n, rfl⟩ : ∃ n, fu = n + 7 := ⟨fu - 7, by omega⟩
  unfold f_X12_pricksOn
  simp (disch := omega) only [f_X12_pricksOn_4, nI_le', if_neg, if_pos, pk_mul, nI_add, gi_n, nI_cl, lt_, mk_in]
  simp only [sPr, sD, Nat.zero_add]
theorem m_freeOf {c : Nat → Int32} {σ : Nat → Nat} {fu p : Nat} (w : WF σ) (hp : p < 6) (hfu : 100 < fu) : f_X12_freeOf fu (nI p) (mk c σ) = some (nI (sFree σ p)) := by
  have h1 := w.us hp
  unfold f_X12_freeOf sFree
  simp (disch := omega) only [nI_add, gi_n, nI_cl, m_pricksOn, bd_s, mk_in, pk_sub]
theorem m_isShut {c : Nat → Int32} {σ : Nat → Nat} {p : Nat} (w : WF σ) (hp : p < 6) : f_X12_isShut (nI p) (mk c σ) = some (bI (sShut σ p)) := by
  have h1 := w.c7
  unfold f_X12_isShut sShut
  simp (disch := omega) only [gi_n, nI_cl, mk_in, has12, bd_s, gd_bI]
theorem m_stands {c : Nat → Int32} {σ : Nat → Nat} {p s : Nat} (w : WF σ) (hp : p < 6) (hs : s < 6) : f_X12_stands (nI p) (nI s) (mk c σ) = some (bI (sSt σ p s)) := by
  have h1 := w.dl' hp hs
  have h2 := w.le hs
  unfold f_X12_stands sSt sD
  simp (disch := omega) only [pk_mul, nI_add, gi_n, nI_cl, mk_in, nI_eq']
  by_cases h : σ (75 + 6 * p + s) = σ (49 + s)
  · rw [if_pos h, decide_eq_true h]; rfl
  · rw [if_neg h, decide_eq_false h]; rfl
theorem m_standing {c : Nat → Int32} {σ : Nat → Nat} {fu p : Nat} (w : WF σ) (hp : p < 6) (hfu : 100 < fu) : f_X12_standing fu (nI p) (mk c σ) = some (nI (sStg σ p)) := by
  have h1 := w.c1
  unfold f_X12_standing
  refine loop_p (fun n j => f_X12_standing_4 fu (mk c σ) n (nI p) (nI (bset (sSt σ p) j)) (nI j)) (σ 1) _ ?_ ?_ (σ 1) 0 fu (by omega) (by omega)
  · intro n j hj
    simp (disch := omega) only [f_X12_standing_4, gi_n, nI_cl, mk_in, nI_le', if_neg, m_stands w hp, bd_s, bI_0, lt_, nI_add, nI_1shl, nI_or, bset]
    cases sSt σ p j <;> rfl
  · intro n
    simp (disch := omega) only [f_X12_standing_4, gi_n, nI_cl, mk_in, nI_le', if_pos]
    rfl
theorem m_standingOpen {c : Nat → Int32} {σ : Nat → Nat} {fu : Nat} (w : WF σ) (hfu : 100 < fu) : f_X12_standingOpen fu (mk c σ) = some (nI (sOpen σ)) := by
  have h1 := w.c2
  unfold f_X12_standingOpen
  refine loop_p (fun n j => f_X12_standingOpen_4 fu (mk c σ) n (nI (sOpenN σ j)) (nI j)) (σ 2) _ ?_ ?_ (σ 2) 0 fu (by omega) (by omega)
  · intro n j hj
    simp (disch := omega) only [f_X12_standingOpen_4, gi_n, nI_cl, mk_in, nI_le', if_neg, m_isShut w, m_standing w, bd_s, bI_0, lt_, nI_add, nI_or, sOpenN]
    cases sShut σ j <;> rfl
  · intro n
    simp (disch := omega) only [f_X12_standingOpen_4, gi_n, nI_cl, mk_in, nI_le', if_pos]
    rfl
theorem m_nextPlace {c : Nat → Int32} {σ : Nat → Nat} {fu : Nat} (w : WF σ) (hfu : 100 < fu) : f_X12_nextPlace fu (mk c σ) = some (oI (sNext σ)) := by
  have h1 := w.c3
  have h8 := w.c8'
  have h6 := w.c6
  unfold f_X12_nextPlace sNext
  refine loop_q (fun n j => f_X12_nextPlace_2 fu (mk c σ) n (nI j)) (σ 3) (fun k j => some (oI (sNextN σ k j))) ?_ ?_ (σ 3) 0 fu (by omega) (by omega)
  · intro n k j hj ih
    have hm : (σ 8 + j) % σ 3 < σ 3 := Nat.mod_lt _ (by omega)
    have ho := w.or' hm
    simp (disch := omega) only [f_X12_nextPlace_2, gi_n, nI_cl, mk_in, nI_le', if_neg, nI_eq0, gd_pos, nI_add, pk_rem, lt_, has12, bd_s, bI_0, sNextN]
    cases hb : (σ 6).testBit (σ (67 + (σ 8 + j) % σ 3))
    · simp only [if_true, if_false, Bool.false_eq_true]
      rfl
    · simp only [if_true, if_false, Bool.true_eq_false]
      exact ih
  · intro n
    simp (disch := omega) only [f_X12_nextPlace_2, gi_n, nI_cl, mk_in, nI_le', if_pos]
    rfl
