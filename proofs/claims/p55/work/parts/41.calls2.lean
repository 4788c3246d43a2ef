theorem c_usedInAll {σ : Nat → Nat} {us : Nat → Int32} {fu : Nat} (hfu : 100 < fu) : f_X7_usedInAll fu (aU us σ) = some (nI (sPr σ 0 + sPr σ 1 + sPr σ 2 + sPr σ 3 + sPr σ 4 + sPr σ 5)) := by
  obtain ⟨n, rfl⟩ : ∃ n, fu = n + 7 := ⟨fu - 7, by omega⟩
  unfold f_X7_usedInAll
  simp (disch := omega) only [f_X7_usedInAll_4, nI_le', if_neg, if_pos, nI_add, gi_n, nI_cl, lt_, aU_in]
  simp only [Nat.zero_add]
def sAllPr (σ : Nat → Nat) : Nat → Nat
  | 0 => 0
  | k + 1 => sAllPr σ k + sPr σ k
theorem m_allPricks {c : Nat → Int32} {σ : Nat → Nat} {fu : Nat} (w : WF σ) (hfu : 100 < fu) : f_X12_allPricks fu (mk c σ) = some (nI (sAllPr σ (σ 2))) := by
  have h2 := w.c2
  unfold f_X12_allPricks
  refine loop_p (fun n j => f_X12_allPricks_4 fu (mk c σ) n (nI (sAllPr σ j)) (nI j)) (σ 2) _ ?_ ?_ (σ 2) 0 fu (by omega) (by omega)
  · intro n j hj
    simp (disch := omega) only [f_X12_allPricks_4, gi_n, nI_cl, mk_in, nI_le', if_neg, m_pricksOn, bd_s, lt_, nI_add, sAllPr]
  · intro n
    simp (disch := omega) only [f_X12_allPricks_4, gi_n, nI_cl, mk_in, nI_le', if_pos]
theorem pr_0 {σ : Nat → Nat} (w : WF σ) {p : Nat} (hp : p < 6) (h : σ 2 ≤ p) : sPr σ p = 0 := by
  unfold sPr
  rw [w.d0 hp (by omega) (Or.inr h), w.d0 hp (by omega) (Or.inr h), w.d0 hp (by omega) (Or.inr h), w.d0 hp (by omega) (Or.inr h), w.d0 hp (by omega) (Or.inr h), w.d0 hp (by omega) (Or.inr h)]
theorem allPr_6 {σ : Nat → Nat} (w : WF σ) : sAllPr σ (σ 2) = sPr σ 0 + sPr σ 1 + sPr σ 2 + sPr σ 3 + sPr σ 4 + sPr σ 5 := by
  have h : ∀ k, σ 2 + k ≤ 6 → sAllPr σ (σ 2 + k) = sAllPr σ (σ 2) := by
    intro k
    induction k with
    | zero => intro _; rfl
    | succ k ih =>
      intro hk
      show sAllPr σ (σ 2 + k) + sPr σ (σ 2 + k) = _
      rw [ih (by omega), pr_0 w (by omega) (by omega)]; rfl
  have h2 := w.c2
  have h3 := h (6 - σ 2) (by omega)
  rw [show σ 2 + (6 - σ 2) = 6 by omega] at h3
  rw [← h3]
  simp only [sAllPr, Nat.zero_add]
/-- so many CELLS that KNOW it -/
def sKnowN (σ : Nat → Nat) (s : Nat) : Nat → Nat
  | 0 => 0
  | k + 1 => sKnowN σ s k ||| (if (σ (33 + k)).testBit s then 2 ^ k else 0)
theorem m_knowers {c : Nat → Int32} {σ : Nat → Nat} {fu s : Nat} {a b : Int32} (w : WF σ) (hs : s < 32) (hfu : 100 < fu) : f_X12_knowers_28 fu (mk c σ) fu (nI s) (nI 0) (nI 0) a b = some (nI (sKnowN σ s (σ 0)), a, b) := by
  have h0 := w.c0
  refine loop_p (fun n j => f_X12_knowers_28 fu (mk c σ) n (nI s) (nI (sKnowN σ s j)) (nI j) a b) (σ 0) _ ?_ ?_ (σ 0) 0 fu (by omega) (by omega)
  · intro n j hj
    have hk := w.kn (k := j) (by omega)
    simp (disch := omega) only [f_X12_knowers_28, gi_n, nI_cl, mk_in, nI_le', if_neg, nI_add, has12, bd_s, bI_0, lt_, nI_1shl, nI_or, sKnowN]
    cases (σ (33 + j)).testBit s <;> rfl
  · intro n
    simp (disch := omega) only [f_X12_knowers_28, gi_n, nI_cl, mk_in, nI_le', if_pos]
theorem c_cellsKnowing {σ : Nat → Nat} {kn : Nat → Int32} {fu s : Nat} (w : WF σ) (hs : s < 32) (hfu : 100 < fu) : f_X7_cellsKnowing fu (nI s) (aK kn σ) = some (nI (sKnowN σ s (σ 0))) := by
  have h0 := w.c0
  have h8 : sKnowN σ s (σ 0) = sKnowN σ s 8 := by
    have h : ∀ k, σ 0 + k ≤ 8 → sKnowN σ s (σ 0 + k) = sKnowN σ s (σ 0) := by
      intro k
      induction k with
      | zero => intro _; rfl
      | succ k ih =>
        intro hk
        show sKnowN σ s (σ 0 + k) ||| (if (σ (33 + (σ 0 + k))).testBit s then 2 ^ (σ 0 + k) else 0) = _
        rw [ih (by omega), w.kn0 (by omega) (by omega), Nat.zero_testBit, if_neg (by decide), Nat.or_zero]
    have h3 := h (8 - σ 0) (by omega)
    rw [show σ 0 + (8 - σ 0) = 8 by omega] at h3
    exact h3.symm
  rw [h8]
  unfold f_X7_cellsKnowing
  refine loop_p (fun n j => f_X7_cellsKnowing_4 fu (aK kn σ) n (nI s) (nI (sKnowN σ s j)) (nI j)) 8 _ ?_ ?_ 8 0 fu (by omega) (by omega)
  · intro n j hj
    have hk := w.kn (k := j) (by omega)
    simp (disch := omega) only [f_X7_cellsKnowing_4, gi_n, nI_cl, aK_in, nI_le', if_neg, nI_add, has7, bd_s, bI_0, lt_, nI_1shl, nI_or, sKnowN]
    cases (σ (33 + j)).testBit s <;> rfl
  · intro n
    simp (disch := omega) only [f_X7_cellsKnowing_4, nI_le', if_pos]
theorem xor_lt {a b n : Nat} (ha : a < 2 ^ n) (hb : b < 2 ^ n) : a ^^^ b < 2 ^ n := Nat.xor_lt_two_pow ha hb
theorem pw_lt {k n : Nat} (h : k < n) : 2 ^ k < 2 ^ n := Nat.pow_lt_pow_right (by decide) h
theorem wf_6 {σ : Nat → Nat} (w : WF σ) {v : Nat} (hv : v < 256) : WF (up σ 6 v) := by
  obtain ⟨⟨a0, a1, a2, a3, a4, a5, a6⟩, b, c, d, e, f, g, h, i⟩ := w
  refine ⟨⟨?_, ?_, ?_, ?_, ?_, ?_, ?_⟩, fun k hk => ?_, fun k hk h0 => ?_, fun s hs => ?_, fun p hp => ?_, fun j hj => ?_, fun j j2 hj hj2 he => ?_, fun p s hp hs => ?_, fun p hp => ?_⟩
  · rw [up_n _ _ (by omega)]; exact a0
  · rw [up_n _ _ (by omega)]; exact a1
  · rw [up_n _ _ (by omega)]; exact a2
  · rw [up_n _ _ (by omega)]; exact a3
  · rw [up_s]; exact hv
  · rw [up_n _ _ (by omega)]; exact a5
  · rw [up_n _ _ (by omega), up_n _ _ (by omega)]; exact a6
  · rw [up_n _ _ (by omega), up_n _ _ (by omega), up_n _ _ (by omega), up_n _ _ (by omega)]; exact b k hk
  · rw [up_n _ _ (by omega)] at h0
    rw [up_n _ _ (by omega)]; exact c k hk h0
  · rw [up_n _ _ (by omega), up_n _ _ (by omega)]; exact d s hs
  · rw [up_n _ _ (by omega), up_n _ _ (by omega)]; exact e p hp
  · rw [up_n _ _ (by omega)] at hj
    rw [up_n _ _ (by omega), up_n _ _ (by omega)]; exact f j hj
  · rw [up_n _ _ (by omega)] at hj hj2
    rw [up_n _ _ (by omega), up_n _ _ (by omega)] at he
    exact g j j2 hj hj2 he
  · rw [sD_upo (by omega), up_n _ _ (by omega), up_n _ _ (by omega), up_n _ _ (by omega)]; exact h p s hp hs
  · rw [sPr_upo (by omega), up_n _ _ (by omega)]; exact i p hp
theorem wf_7 {σ : Nat → Nat} (w : WF σ) {v : Nat} (hv : v < 64) : WF (up σ 7 v) := by
  obtain ⟨⟨a0, a1, a2, a3, a4, a5, a6⟩, b, c, d, e, f, g, h, i⟩ := w
  refine ⟨⟨?_, ?_, ?_, ?_, ?_, ?_, ?_⟩, fun k hk => ?_, fun k hk h0 => ?_, fun s hs => ?_, fun p hp => ?_, fun j hj => ?_, fun j j2 hj hj2 he => ?_, fun p s hp hs => ?_, fun p hp => ?_⟩
  · rw [up_n _ _ (by omega)]; exact a0
  · rw [up_n _ _ (by omega)]; exact a1
  · rw [up_n _ _ (by omega)]; exact a2
  · rw [up_n _ _ (by omega)]; exact a3
  · rw [up_n _ _ (by omega)]; exact a4
  · rw [up_s]; exact hv
  · rw [up_n _ _ (by omega), up_n _ _ (by omega)]; exact a6
  · rw [up_n _ _ (by omega), up_n _ _ (by omega), up_n _ _ (by omega), up_n _ _ (by omega)]; exact b k hk
  · rw [up_n _ _ (by omega)] at h0
    rw [up_n _ _ (by omega)]; exact c k hk h0
  · rw [up_n _ _ (by omega), up_n _ _ (by omega)]; exact d s hs
  · rw [up_n _ _ (by omega), up_n _ _ (by omega)]; exact e p hp
  · rw [up_n _ _ (by omega)] at hj
    rw [up_n _ _ (by omega), up_n _ _ (by omega)]; exact f j hj
  · rw [up_n _ _ (by omega)] at hj hj2
    rw [up_n _ _ (by omega), up_n _ _ (by omega)] at he
    exact g j j2 hj hj2 he
  · rw [sD_upo (by omega), up_n _ _ (by omega), up_n _ _ (by omega), up_n _ _ (by omega)]; exact h p s hp hs
  · rw [sPr_upo (by omega), up_n _ _ (by omega)]; exact i p hp
theorem wf_odds {σ : Nat → Nat} (w : WF σ) {q v : Nat} (hq : q < 6) (hv : v ≤ 16) : WF (up σ (61 + q) v) := by
  obtain ⟨⟨a0, a1, a2, a3, a4, a5, a6⟩, b, c, d, e, f, g, h, i⟩ := w
  refine ⟨⟨?_, ?_, ?_, ?_, ?_, ?_, ?_⟩, fun k hk => ?_, fun k hk h0 => ?_, fun s hs => ?_, fun p hp => ?_, fun j hj => ?_, fun j j2 hj hj2 he => ?_, fun p s hp hs => ?_, fun p hp => ?_⟩
  · rw [up_n _ _ (by omega)]; exact a0
  · rw [up_n _ _ (by omega)]; exact a1
  · rw [up_n _ _ (by omega)]; exact a2
  · rw [up_n _ _ (by omega)]; exact a3
  · rw [up_n _ _ (by omega)]; exact a4
  · rw [up_n _ _ (by omega)]; exact a5
  · rw [up_n _ _ (by omega), up_n _ _ (by omega)]; exact a6
  · rw [up_n _ _ (by omega), up_n _ _ (by omega), up_n _ _ (by omega), up_n _ _ (by omega)]; exact b k hk
  · rw [up_n _ _ (by omega)] at h0
    rw [up_n _ _ (by omega)]; exact c k hk h0
  · rw [up_n _ _ (by omega), up_n _ _ (by omega)]; exact d s hs
  · rw [up_n _ _ (by omega)]
    by_cases hpq : p = q
    · subst hpq; rw [up_s]; exact ⟨(e p hp).1, hv⟩
    · rw [up_n _ _ (by omega)]; exact e p hp
  · rw [up_n _ _ (by omega)] at hj
    rw [up_n _ _ (by omega), up_n _ _ (by omega)]; exact f j hj
  · rw [up_n _ _ (by omega)] at hj hj2
    rw [up_n _ _ (by omega), up_n _ _ (by omega)] at he
    exact g j j2 hj hj2 he
  · rw [sD_upo (by omega), up_n _ _ (by omega), up_n _ _ (by omega), up_n _ _ (by omega)]; exact h p s hp hs
  · rw [sPr_upo (by omega), up_n _ _ (by omega)]; exact i p hp
