/-! a BOOK that is taken: the ORDER of all where none was told, the copy; the call -/
def sId (σ : Nat → Nat) : Nat → Nat := fun i => if 67 ≤ i ∧ i < 67 + σ 0 then i - 67 else if i = 3 then σ 0 else σ i
def sFin (σ : Nat → Nat) (o : Nat) : Nat → Nat := if o = 0 then sId σ else σ
theorem sId_n {σ : Nat → Nat} (i : Nat) (a : i ≠ 3) (b : ¬ (67 ≤ i ∧ i < 67 + σ 0)) : sId σ i = σ i := by unfold sId; rw [if_neg b, if_neg a]
theorem sId_3 {σ : Nat → Nat} : sId σ 3 = σ 0 := by unfold sId; rw [if_neg (by omega), if_pos rfl]
theorem sId_o {σ : Nat → Nat} {i : Nat} (hi : i < σ 0) : sId σ (67 + i) = i := by unfold sId; rw [if_pos (by omega)]; omega
theorem wd_fin {σ : Nat → Nat} {o : Nat} (h : WD σ) : WD (sFin σ o) := by
  unfold sFin
  split
  · obtain ⟨⟨h0, h1, h2, h3⟩, hk, hl, hp, ho, hi, hz⟩ := h
    refine ⟨⟨?_, ?_, ?_, ?_⟩, fun k hk1 => ?_, fun s hs => ?_, fun p hp1 => ?_, fun i hi1 => ?_, fun i j hi1 hj1 he => ?_, fun i hi1 => ?_⟩
    · rw [sId_n 0 (by omega) (by omega)]; exact h0
    · rw [sId_n 1 (by omega) (by omega)]; exact h1
    · rw [sId_n 2 (by omega) (by omega)]; exact h2
    · rw [sId_3]; exact h0
    · rw [sId_n (9 + k) (by omega) (by omega), sId_n (17 + k) (by omega) (by omega), sId_n (25 + k) (by omega) (by omega), sId_n (33 + k) (by omega) (by omega), sId_n 0 (by omega) (by omega)]
      exact hk k hk1
    · rw [sId_n (49 + s) (by omega) (by omega), sId_n 1 (by omega) (by omega)]
      exact hl s hs
    · rw [sId_n (55 + p) (by omega) (by omega), sId_n (61 + p) (by omega) (by omega)]
      exact hp p hp1
    · rw [sId_3] at hi1
      rw [sId_n 0 (by omega) (by omega), sId_o hi1]; exact hi1
    · rw [sId_3] at hi1 hj1
      rw [sId_o hi1, sId_o hj1] at he
      exact he
    · rw [sId_n i (by omega) (by omega)]
      exact hz i hi1
  · exact h
theorem fin_ne {σ : Nat → Nat} {o i : Nat} (h : i ≠ 3) (h2 : ¬ (67 ≤ i ∧ i < 75)) (h0 : σ 0 ≤ 8) : sFin σ o i = σ i := by
  unfold sFin
  split
  · exact sId_n i h (by omega)
  · rfl
section FI
variable {fu E : Nat} {K : Nat → Int64} {tp tq : Nat → Int32} {c : Nat → Int32} {σ : Nat → Nat} {W : Nat → Int64} {b : Nat → Int32}
theorem z_D (h : WD σ) : mkF b 36 (fun _ => 0) = aD b σ := mkF_congr (fun i hi => (h.2.2.2.2.2.2 _ (by omega)).symm)
theorem z_M (h : WD σ) : mkF b 8 (fun _ => 0) = aM b σ := mkF_congr (fun i hi => (h.2.2.2.2.2.2 _ (by omega)).symm)
theorem z_U (h : WD σ) : mkF b 6 (fun _ => 0) = aU b σ := mkF_congr (fun p hp => by
  have hD : ∀ s, sD σ p s = 0 := fun s => h.2.2.2.2.2.2 _ (by omega)
  unfold sPr
  simp only [hD])
theorem z_S (h : WD σ) : mkF b 6 (fun _ => 0) = aS b σ := mkF_congr (fun p hp => by
  have hD : ∀ s, sD σ p s = 0 := fun s => h.2.2.2.2.2.2 _ (by omega)
  apply Nat.eq_of_testBit_eq
  intro i
  rw [Nat.zero_testBit, b_stg]
  by_cases hi : i < σ 1
  · have := (h.2.2.1 i (by have := h.1.2.1; omega)).2 hi
    have e : sSt σ p i = false := by
      unfold sSt
      rw [hD, decide_eq_false (by omega)]
    rw [e, Bool.and_false]
  · rw [decide_eq_false hi]; rfl)
theorem c_orderAll {x : Int32} (h : WD σ) (hfu : 100 < fu) : f_X7_orderAll fu (nI (σ 0)) x (aO b σ) = some (nI (sFin σ 0 3), aO (aO b σ) (sFin σ 0)) := by
  have h0 := h.1.1
  have ef : sFin σ 0 = sId σ := if_pos rfl
  have e3 : sFin σ 0 3 = σ 0 := by rw [ef, sId_3]
  have er : aO (aO b σ) (sFin σ 0) = mkF (aO b σ) (σ 0) (fun i => i) := by
    conv => lhs; unfold aO
    rw [e3]
    exact mkF_congr (fun i hi => by rw [ef, sId_o hi])
  rw [er, e3]
  unfold f_X7_orderAll
  refine loop_p (fun n j => f_X7_orderAll_2 fu n (nI (σ 0)) (nI j) x (mkF (aO b σ) j (fun i => i))) (σ 0) _ ?_ ?_ (σ 0) 0 fu (by omega) (by omega)
  · intro n j hj
    have := mkF_step (b := aO b σ) (f := fun i => i) (j := j)
    simp (disch := omega) only [f_X7_orderAll_2, nI_le', if_neg, gi_n, nI_cl, lt_, nI_add, this]
  · intro n
    simp (disch := omega) only [f_X7_orderAll_2, nI_le', if_pos]
/-- the reference's end of a BOOK -/
theorem m_180 {o : Nat} (h : WD σ) (ho : o ≤ 1) (hfu : 1000 < fu) {sA th ta e f1 f2 bd ba y1 y2 y3 y4 y5 : Int32} {y6 : Int64} : f_X12_book_180 fu tq fu (nI 0) sA th ta e f1 f2 bd ba y1 y2 y3 y4 y5 y6 (nI o) (mk4 c σ) W = some (nI (σ 0), sA, th, ta, e, f1, f2, bd, ba, y1, y2, y3, y4, y5, y6, nI o, cpC (mk4 c (sFin σ o)) 4 0 390, cpW W 4 0 20) := by
  have h0 := h.1.1
  have e239 : ∀ τ : Nat → Nat, τ 0 = σ 0 → f_X12_book_239 fu tq sA th ta e f1 f2 bd ba y1 y2 y3 y4 y5 y6 (nI o) (mk4 c τ) W = some (nI (σ 0), sA, th, ta, e, f1, f2, bd, ba, y1, y2, y3, y4, y5, y6, nI o, cpC (mk4 c τ) 4 0 390, cpW W 4 0 20) := by
    intro τ ht
    unfold f_X12_book_239
    rw [m_copy (a := 4) (b := 0) (by omega) (by omega) (by omega) hfu, bd_s]
    show gi_ (nI 0) 1950 (some (cpC (mk4 c τ) 4 0 390 (nI 0).toNatClampNeg, sA, th, ta, e, f1, f2, bd, ba, y1, y2, y3, y4, y5, y6, nI o, cpC (mk4 c τ) 4 0 390, cpW W 4 0 20)) = _
    rw [gi_n (by omega) (by omega), nI_cl (by omega)]
    have : cpC (mk4 c τ) 4 0 390 0 = nI (σ 0) := by
      unfold cpC
      rw [if_pos (by omega)]
      show mk4 c τ 1560 = nI (σ 0)
      rw [← ht]
      exact mk4_in (i := 0) (by omega)
    rw [this]
  by_cases eo : o = 0
  · subst eo
    have G : ∀ k j n, j + k = σ 0 → k < n → f_X12_book_180 fu tq n (nI j) sA th ta e f1 f2 bd ba y1 y2 y3 y4 y5 y6 (nI 0) (mk4 c (fun i => if 67 ≤ i ∧ i < 67 + j then i - 67 else σ i)) W = some (nI (σ 0), sA, th, ta, e, f1, f2, bd, ba, y1, y2, y3, y4, y5, y6, nI 0, cpC (mk4 c (sFin σ 0)) 4 0 390, cpW W 4 0 20) := by
      intro k
      induction k with
      | zero =>
        intro j n hj hn
        obtain ⟨n, rfl⟩ : ∃ q, n = q + 1 := ⟨n - 1, by omega⟩
        unfold f_X12_book_180
        rw [gi_n (by omega) (by omega), nI_cl (by omega), mk4_at (by omega) (by omega), if_pos (show nI ((fun i => if 67 ≤ i ∧ i < 67 + j then i - 67 else σ i) (1560 - 1560)) ≤ nI j by
          show nI (if 67 ≤ 0 ∧ 0 < 67 + j then 0 - 67 else σ 0) ≤ nI j
          rw [if_neg (by omega), nI_le' (by omega) (by omega)]; omega)]
        unfold f_X12_book_216
        rw [if_pos (show nI 0 = 0 from rfl), gi_n (by omega) (by omega), nI_cl (by omega), mk4_at (by omega) (by omega)]
        simp only [lt_]
        rw [gi_n (by omega) (by omega), nI_cl (by omega), mk4_up (by omega) (by omega)]
        have e3 : up (fun i => if 67 ≤ i ∧ i < 67 + j then i - 67 else σ i) (1563 - 1560) ((fun i => if 67 ≤ i ∧ i < 67 + j then i - 67 else σ i) (1560 - 1560)) = sFin σ 0 := by
          funext i
          rw [show sFin σ 0 = sId σ from if_pos rfl]
          unfold sId up
          show (if i = 3 then (if 67 ≤ 0 ∧ 0 < 67 + j then 0 - 67 else σ 0) else (if 67 ≤ i ∧ i < 67 + j then i - 67 else σ i)) = (if 67 ≤ i ∧ i < 67 + σ 0 then i - 67 else if i = 3 then σ 0 else σ i)
          have ej : j = σ 0 := by omega
          rw [ej]
          by_cases e1 : i = 3
          · rw [if_pos e1, if_neg (by omega), if_neg (by omega), if_pos e1]
          · rw [if_neg e1]
            by_cases e2 : 67 ≤ i ∧ i < 67 + σ 0
            · rw [if_pos e2, if_pos e2]
            · rw [if_neg e2, if_neg e2, if_neg e1]
        have e4 := e239 (sFin σ 0) (fin_ne (by omega) (by omega) h0)
        rw [← e3] at e4
        rw [← e3]
        exact e4
      | succ k ih =>
        intro j n hj hn
        obtain ⟨n, rfl⟩ : ∃ q, n = q + 1 := ⟨n - 1, by omega⟩
        have hI := ih (j + 1) n (by omega) (by omega)
        rw [← hI]
        conv => lhs; unfold f_X12_book_180
        rw [gi_n (by omega) (by omega), nI_cl (by omega), mk4_at (by omega) (by omega), if_neg (show ¬ nI ((fun i => if 67 ≤ i ∧ i < 67 + j then i - 67 else σ i) (1560 - 1560)) ≤ nI j by
          show ¬ nI (if 67 ≤ 0 ∧ 0 < 67 + j then 0 - 67 else σ 0) ≤ nI j
          rw [if_neg (by omega), nI_le' (by omega) (by omega)]; omega), if_pos (show nI 0 = 0 from rfl), nI_add, gi_n (by omega) (by omega), nI_cl (by omega), mk4_up (by omega) (by omega)]
        simp only [lt_, nI_add]
        congr 2
        funext i
        show (if i = 1627 + j - 1560 then j else (if 67 ≤ i ∧ i < 67 + j then i - 67 else σ i)) = (if 67 ≤ i ∧ i < 67 + (j + 1) then i - 67 else σ i)
        by_cases e1 : i = 1627 + j - 1560
        · rw [if_pos e1, if_pos (by omega)]; omega
        · rw [if_neg e1]
          by_cases e2 : 67 ≤ i ∧ i < 67 + j
          · rw [if_pos e2, if_pos (by omega)]
          · rw [if_neg e2, if_neg (by omega)]
    have e0 : (fun i => if 67 ≤ i ∧ i < 67 + 0 then i - 67 else σ i) = σ := by
      funext i; exact if_neg (by omega)
    have := G (σ 0) 0 fu (by omega) (by omega)
    rw [e0] at this
    exact this
  · have e1 : o = 1 := by omega
    subst e1
    have ef : sFin σ 1 = σ := by
      unfold sFin
      rw [if_neg (by omega)]
    rw [ef]
    obtain ⟨n, hn⟩ : ∃ q, fu = q + 1 := ⟨fu - 1, by omega⟩
    rw [show f_X12_book_180 fu tq fu = f_X12_book_180 fu tq (n + 1) from by rw [← hn]]
    have e216 : f_X12_book_216 fu tq sA th ta e f1 f2 bd ba y1 y2 y3 y4 y5 y6 (nI 1) (mk4 c σ) W = some (nI (σ 0), sA, th, ta, e, f1, f2, bd, ba, y1, y2, y3, y4, y5, y6, nI 1, cpC (mk4 c σ) 4 0 390, cpW W 4 0 20) := by
      unfold f_X12_book_216
      rw [if_neg (show ¬ nI 1 = 0 by decide)]
      exact e239 σ rfl
    unfold f_X12_book_180
    rw [gi_n (by omega) (by omega), if_neg (show ¬ nI 1 = 0 by decide), e216]
    split <;> rfl
end FI
