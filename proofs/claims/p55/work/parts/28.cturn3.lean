
theorem sAdd_0 {σ : Nat → Nat} {k p s : Nat} : sAdd σ k p s 0 = σ := by
  have h : ∀ (f : Nat → Nat) (i v : Nat), f i = v → up f i v = f := by
    intro f i v h
    funext j
    unfold up
    split
    · rename_i e; rw [e, h]
    · rfl
  unfold sAdd
  rw [h σ (75 + 6 * p + s) _ (by show σ (75 + 6 * p + s) = sD σ p s + 0; rfl), h σ (41 + k) (σ (41 + k) + 0) rfl, h σ 5 (σ 5 + 0) rfl]
theorem sPrick1_0 {k s : Nat} {τ : Nat → Nat} : sPrick1 k s (τ, 0) = (τ, 0) := by
  have hm : ∀ p, sMany τ p s 0 = 0 := fun p => by unfold sMany; omega
  unfold sPrick1
  split
  · split
    · rfl
    · rename_i p _
      simp only [hm, sAdd_0]
  · rfl
theorem sPrickN_0 {k : Nat} {q : (Nat → Nat) × Nat} {j : Nat} (h : (sPrickN k q j).2 = 0) : ∀ i, j ≤ i → sPrickN k q i = sPrickN k q j
  | 0, hi => by
    obtain rfl : j = 0 := by omega
    rfl
  | i + 1, hi => by
    by_cases e : j = i + 1
    · rw [e]
    · have h2 := sPrickN_0 h i (by omega)
      show sPrick1 k i (sPrickN k q i) = _
      rw [h2]
      generalize hq : sPrickN k q j = r at h ⊢
      obtain ⟨τ, l⟩ := r
      obtain rfl : l = 0 := h
      exact sPrick1_0
/-- what a class's rows are when so many pricks of a secret come on a page -/
theorem c_makeOn {σ : Nat → Nat} {dt sd us lt rm : Nat → Int32} {k p s left : Nat} (w : WF σ) (hk : k < 8) (hp : p < σ 2) (hs : s < σ 1) (hl : left ≤ 20) (hn : sSt σ p s = false) :
    f_X7_makeOn (nI p) (nI s) (nI left) (aD dt σ) (aS sd σ) (aU us σ) (aL lt σ) (aR rm σ) = some (nI (sMany σ p s left), aD dt (sAdd σ k p s (sMany σ p s left)), aS sd (sAdd σ k p s (sMany σ p s left)), aU us (sAdd σ k p s (sMany σ p s left))) := by
  have h1 := w.c1
  have h2 := w.c2
  have hF : sFree σ p ≤ 60 := by have := w.ro (p := p) (by omega); unfold sFree; omega
  have hD : sD σ p s ≤ σ (49 + s) := w.dle (by omega) hs
  have hL := w.le (s := s) (by omega)
  have hu := w.us (p := p) (by omega)
  have hr := w.ro (p := p) (by omega)
  have hm := sMany_le (σ := σ) (p := p) (s := s) (left := left)
  have ix : 75 + (p * 6 + s) = 75 + 6 * p + s := by omega
  have hDe : σ (75 + 6 * p + s) = sD σ p s := rfl
  have hmin : (if (if sFree σ p < σ (49 + s) - sD σ p s then nI (sFree σ p) else nI (σ (49 + s) - sD σ p s)) < nI left then (if sFree σ p < σ (49 + s) - sD σ p s then nI (sFree σ p) else nI (σ (49 + s) - sD σ p s)) else nI left) = nI (sMany σ p s left) := by
    unfold sMany
    by_cases h : sFree σ p < σ (49 + s) - sD σ p s
    · simp only [if_pos h]
      simp (disch := omega) only [nI_lt']
      split <;> congr 1 <;> omega
    · simp only [if_neg h]
      simp (disch := omega) only [nI_lt']
      split <;> congr 1 <;> omega
  unfold f_X7_makeOn
  simp (disch := omega) only [lt_, pk_mul, nI_add, gi_n, nI_cl, aL_in, aD_in, aU_in, aS_in, ix, hDe, pk_sub, c_freeOf w, bd_s, nI_lt', hmin, nI_eq', nI_1shl, nI_or]
  generalize hn' : sMany σ p s left = n at hm ⊢
  have eD : upd (aD dt σ) (p * 6 + s) (nI (sD σ p s + n)) = aD dt (sAdd σ k p s n) := by
    unfold aD
    rw [mkF_up (by omega)]
    refine mkF_congr (fun i hi => ?_)
    unfold sAdd
    rw [up_n _ _ (show 75 + i ≠ 5 by omega), up_n _ _ (show 75 + i ≠ 41 + k by omega)]
    unfold up
    by_cases e : i = p * 6 + s
    · rw [if_pos e, if_pos (by omega)]
    · rw [if_neg e, if_neg (by omega)]
  have eU : upd (aU us σ) p (nI (sPr σ p + n)) = aU us (sAdd σ k p s n) := by
    unfold aU
    rw [mkF_up (by omega)]
    refine mkF_congr (fun q hq => ?_)
    rw [sAdd_Pr hk (by omega)]
    unfold up
    by_cases e : q = p
    · subst e; rw [if_pos rfl, if_pos rfl]
    · rw [if_neg e, if_neg e]; rfl
  have hother : ∀ q, q ≠ p → sStg (sAdd σ k p s n) q = sStg σ q := by
    intro q e
    refine sStg_same (sAdd_k (by omega) (by omega)) (fun t ht => ?_)
    unfold sSt
    rw [sAdd_D hk (by omega) (by omega), if_neg (fun h => e h.1), (sAdd_B hk) (49 + t) (by omega) (by omega) (by omega) (by omega)]
  have hbit : ∀ i, (sStg (sAdd σ k p s n) p).testBit i = if i = s then decide (n = σ (49 + s) - sD σ p s) else (sStg σ p).testBit i := by
    intro i
    rw [b_stg, b_stg, sAdd_k (show 1 < 41 by omega) (by omega)]
    by_cases hi : i < σ 1
    · unfold sSt
      rw [sAdd_D hk (by omega) (by omega), (sAdd_B hk) (49 + i) (by omega) (by omega) (by omega) (by omega)]
      by_cases e : i = s
      · subst e
        rw [if_pos ⟨rfl, rfl⟩, if_pos rfl, decide_eq_true hi, Bool.true_and, decide_eq_decide]
        omega
      · rw [if_neg (fun h => e h.2), if_neg e]
    · rw [decide_eq_false hi, if_neg (by omega)]; rfl
  by_cases hc : n = σ (49 + s) - sD σ p s
  · rw [if_pos hc, eD, eU]
    congr 4
    unfold aS
    rw [mkF_up (by omega)]
    refine mkF_congr (fun q hq => ?_)
    by_cases e : q = p
    · subst e
      rw [up_s]
      apply Nat.eq_of_testBit_eq
      intro i
      rw [hbit, Nat.testBit_or, Nat.testBit_two_pow]
      by_cases ei : i = s
      · subst ei; simp [hc]
      · rw [if_neg ei]; simp [show ¬ s = i from fun h => ei h.symm]
    · rw [up_n _ _ e, hother q e]
  · rw [if_neg hc, eD, eU]
    congr 4
    unfold aS
    refine mkF_congr (fun q hq => ?_)
    by_cases e : q = p
    · subst e
      apply Nat.eq_of_testBit_eq
      intro i
      rw [hbit]
      by_cases ei : i = s
      · subst ei
        rw [if_pos rfl, b_stg, hn, decide_eq_false hc]; simp
      · rw [if_neg ei]
    · rw [hother q e]
