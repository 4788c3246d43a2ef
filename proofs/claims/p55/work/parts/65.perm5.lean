/-! the row with another order -/
def sO (σ : Nat → Nat) (L : List Nat) : Nat → Nat := fun i => if 67 ≤ i ∧ i < 67 + σ 3 then el L (i - 67) else if i = 8 then 0 else σ i
section SO
variable {σ : Nat → Nat} {L : List Nat}
theorem sO_o {i : Nat} (h : ¬ (67 ≤ i ∧ i < 67 + σ 3)) (h8 : i ≠ 8) : sO σ L i = σ i := by
  unfold sO
  rw [if_neg h, if_neg h8]
theorem sO_i {i : Nat} (h : i < σ 3) : sO σ L (67 + i) = el L i := by
  unfold sO
  rw [if_pos (by omega), show 67 + i - 67 = i by omega]
theorem sO_8 : sO σ L 8 = 0 := by
  unfold sO
  rw [if_neg (by omega), if_pos rfl]
theorem wf_sO (w : WF σ) (h1 : ∀ i, i < σ 3 → el L i < σ 0) (h2 : ∀ i j, i < σ 3 → j < σ 3 → el L i = el L j → i = j) : WF (sO σ L) := by
  have e3 : up σ 8 0 3 = σ 3 := up_n _ _ (by decide)
  have e0 : up σ 8 0 0 = σ 0 := up_n _ _ (by decide)
  refine wf_ord (wf_8 w (v := 0) (Or.inr rfl)) (fun i hi => ?_) (fun i hi => ?_) (fun i j hi hj he => ?_)
  · rw [e3] at hi
    by_cases e : i = 8
    · subst e; rw [sO_8, up_s]
    · rw [sO_o hi e, up_n _ _ e]
  · rw [e3] at hi
    rw [e0, sO_i hi]; exact h1 i hi
  · rw [e3] at hi hj
    rw [sO_i hi, sO_i hj] at he
    exact h2 i j hi hj he
/-! which cells are in the order -/
def msk (σ : Nat → Nat) : Nat → Nat
  | 0 => 0
  | j + 1 => msk σ j ||| 2 ^ σ (67 + j)
theorem msk_bit {k : Nat} : ∀ {j : Nat}, (msk σ j).testBit k = true ↔ ∃ i, i < j ∧ σ (67 + i) = k
  | 0 => by
    constructor
    · intro h
      unfold msk at h
      rw [Nat.zero_testBit] at h
      cases h
    · rintro ⟨i, h, _⟩
      exact absurd h (Nat.not_lt_zero i)
  | j + 1 => by
    unfold msk
    rw [Nat.testBit_or, Nat.testBit_two_pow, Bool.or_eq_true, msk_bit (j := j), decide_eq_true_iff]
    constructor
    · rintro (⟨i, h, e⟩ | e)
      · exact ⟨i, by omega, e⟩
      · exact ⟨j, Nat.lt_succ_self j, e⟩
    · rintro ⟨i, h, e⟩
      by_cases c : i = j
      · subst c; exact Or.inr e
      · exact Or.inl ⟨i, by omega, e⟩
theorem msk_lt (w : WF σ) : ∀ {j : Nat}, j ≤ σ 3 → msk σ j < 256
  | 0, _ => Nat.zero_lt_succ 255
  | j + 1, h => or_lt (n := 8) (msk_lt w (Nat.le_of_succ_le h)) (Nat.pow_lt_pow_right (by decide) (w.or' h))
theorem sz_or : ∀ M, M < 256 → ∀ k, k < 8 → M.testBit k = false → sz (M ||| 2 ^ k) = sz M + 1 := by decide +kernel
theorem msk_sz (w : WF σ) : ∀ {j : Nat}, j ≤ σ 3 → sz (msk σ j) = j
  | 0, _ => (show sz 0 = 0 by decide)
  | j + 1, h => by
    have hb : (msk σ j).testBit (σ (67 + j)) = false := by
      cases hc : (msk σ j).testBit (σ (67 + j))
      · rfl
      · obtain ⟨i, hi, e⟩ := msk_bit.1 hc
        have := w.inj (i := i) (j := j) (by omega) (by omega) e
        omega
    show sz (msk σ j ||| 2 ^ σ (67 + j)) = j + 1
    rw [sz_or _ (msk_lt w (Nat.le_of_succ_le h)) _ (w.or' h) hb, msk_sz w (Nat.le_of_succ_le h)]
def sMk (σ : Nat → Nat) : Nat := msk σ (σ 3)
theorem sMk_lt (w : WF σ) : sMk σ < 256 := msk_lt w (Nat.le_refl _)
theorem sMk_sz (w : WF σ) : sz (sMk σ) = σ 3 := msk_sz w (Nat.le_refl _)
theorem sMk_0 (w : WF σ) {k : Nat} (h : (sMk σ).testBit k = true) : k < σ 0 := by
  obtain ⟨i, hi, e⟩ := msk_bit.1 h
  rw [← e]
  exact w.or hi
theorem sMk_wf (w : WF σ) (hL : L ∈ lvs 8 (σ 3) (sMk σ)) : WF (sO σ L) := by
  obtain ⟨-, h2, h3⟩ := lvs_in hL
  exact wf_sO w (fun i hi => sMk_0 w (h2 i hi).1) h3
theorem el_app1 {x : Nat} : ∀ {A : List Nat} {i : Nat}, i < A.length → el (A ++ [x]) i = el A i
  | [], i, h => absurd h (Nat.not_lt_zero i)
  | y :: A, 0, _ => rfl
  | y :: A, i + 1, h => el_app1 (A := A) (Nat.lt_of_succ_lt_succ h)
theorem el_app2 {x : Nat} : ∀ {A : List Nat}, el (A ++ [x]) A.length = x
  | [] => rfl
  | y :: A => el_app2 (A := A)
def seg (M j : Nat) : List Nat := (List.range j).filter (fun k => M.testBit k)
theorem seg_s {M j : Nat} : seg M (j + 1) = if M.testBit j = true then seg M j ++ [j] else seg M j := by
  unfold seg
  rw [List.range_succ, List.filter_append, List.filter_cons, List.filter_nil]
  split
  · rfl
  · rw [List.append_nil]
theorem seg_le {M : Nat} : ∀ {j : Nat}, (seg M j).length ≤ j
  | 0 => Nat.le_refl 0
  | j + 1 => by
    have := seg_le (M := M) (j := j)
    rw [seg_s]
    split
    · rw [List.length_append]; exact Nat.succ_le_succ this
    · omega
theorem place_msk {k : Nat} : (sPlace σ k = none ∧ (sMk σ).testBit k = false) ∨ ∃ i, sPlace σ k = some i ∧ i < σ 3 ∧ (sMk σ).testBit k = true := by
  cases hp : sPlace σ k with
  | some i =>
    obtain ⟨a, b⟩ := sPlace_some hp
    exact Or.inr ⟨i, rfl, a, msk_bit.2 ⟨i, a, b⟩⟩
  | none =>
    refine Or.inl ⟨rfl, ?_⟩
    cases hc : (sMk σ).testBit k
    · rfl
    · obtain ⟨i, hi, e⟩ := msk_bit.1 hc
      have hn : ∀ {n j : Nat}, sPlaceN σ k n j = none → ∀ i, j ≤ i → i < j + n → σ (67 + i) ≠ k := by
        intro n
        induction n with
        | zero => intro j _ i h1 h2; omega
        | succ n ih =>
          intro j h i h1 h2
          unfold sPlaceN at h
          split at h
          · cases h
          · rename_i hne
            by_cases c : i = j
            · subst c; exact hne
            · exact ih h i (by omega) (by omega)
      exact absurd e (hn hp i (Nat.zero_le _) (by omega))
theorem c_sortInto {tr od : Nat → Int32} {fu : Nat} (w : WF σ) (hfu : 100 < fu) : f_X0_sortInto fu tr (nI (σ 3)) (aO od σ) = some (mkF tr (σ 3) (el (asc (sMk σ)))) := by
  have h3 := w.c3
  have hl : (seg (sMk σ) 8).length = σ 3 := (asc_len _ (sMk_lt w)).trans (sMk_sz w)
  unfold f_X0_sortInto
  refine Eq.trans (congrArg (fun z => f_X0_sortInto_4 fu (nI (σ 3)) (aO od σ) fu (nI 0) (nI 0) z) (mkF_n0 (f := el (seg (sMk σ) 0))).symm) ?_
  refine loop_p (fun q j => f_X0_sortInto_4 fu (nI (σ 3)) (aO od σ) q (nI (seg (sMk σ) j).length) (nI j) (mkF tr (seg (sMk σ) j).length (el (seg (sMk σ) j)))) 8 _ ?_ ?_ 8 0 fu (by omega) (by omega)
  · intro q j hj
    have hle := seg_le (M := sMk σ) (j := j)
    simp (disch := omega) only [f_X0_sortInto_4, nI_le', if_neg, c_placeOf w, bd_s, lt_, nI_add]
    rw [seg_s]
    rcases place_msk (σ := σ) (k := j) with ⟨a, e⟩ | ⟨i, a, hi, e⟩
    · rw [a, e, if_pos (show oI none = (-1 : Int32) from rfl), if_neg (by decide)]
    · rw [a, e, if_neg (by rw [oI_s, nI_ne_m1 (by omega)]; exact id), if_pos rfl, gi_n (by omega) (by omega), nI_cl (by omega), List.length_append]
      have e2 : upd (mkF tr (seg (sMk σ) j).length (el (seg (sMk σ) j))) (seg (sMk σ) j).length (nI j) = mkF tr ((seg (sMk σ) j).length + [j].length) (el (seg (sMk σ) j ++ [j])) := by
        have g := mkF_grow (b := tr) (f := el (seg (sMk σ) j ++ [j])) (j := (seg (sMk σ) j).length)
        rw [el_app2] at g
        rw [show mkF tr (seg (sMk σ) j).length (el (seg (sMk σ) j)) = mkF tr (seg (sMk σ) j).length (el (seg (sMk σ) j ++ [j])) from mkF_congr (fun i hi => (el_app1 hi).symm)]
        exact g
      rw [e2]
      rfl
  · intro q
    simp (disch := omega) only [f_X0_sortInto_4, nI_le', if_pos, hl]
    rfl
end SO
