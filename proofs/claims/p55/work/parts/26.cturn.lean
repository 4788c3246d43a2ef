/-! the class's rows, as the row of numbers has them -/
def aU (b : Nat → Int32) (σ : Nat → Nat) : Nat → Int32 := mkF b 6 (sPr σ)
def aS (b : Nat → Int32) (σ : Nat → Nat) : Nat → Int32 := mkF b 6 (sStg σ)
def aD (b : Nat → Int32) (σ : Nat → Nat) : Nat → Int32 := mkF b 36 (fun i => σ (75 + i))
def aK (b : Nat → Int32) (σ : Nat → Nat) : Nat → Int32 := mkF b 8 (fun i => σ (33 + i))
def aM (b : Nat → Int32) (σ : Nat → Nat) : Nat → Int32 := mkF b 8 (fun i => σ (41 + i))
def aX (b : Nat → Int32) (σ : Nat → Nat) : Nat → Int32 := mkF b 6 (fun i => σ (61 + i))
def aO (b : Nat → Int32) (σ : Nat → Nat) : Nat → Int32 := mkF b (σ 3) (fun i => σ (67 + i))
def aL (b : Nat → Int32) (σ : Nat → Nat) : Nat → Int32 := mkF b (σ 1) (fun i => σ (49 + i))
def aR (b : Nat → Int32) (σ : Nat → Nat) : Nat → Int32 := mkF b (σ 2) (fun i => σ (55 + i))
def aP (b : Nat → Int32) (σ : Nat → Nat) : Nat → Int32 := mkF b (σ 0) (fun i => σ (9 + i))
section AA
variable {b : Nat → Int32} {σ : Nat → Nat} {i : Nat}
theorem aU_in (h : i < 6) : aU b σ i = nI (sPr σ i) := if_pos h
theorem aS_in (h : i < 6) : aS b σ i = nI (sStg σ i) := if_pos h
theorem aD_in (h : i < 36) : aD b σ i = nI (σ (75 + i)) := if_pos h
theorem aK_in (h : i < 8) : aK b σ i = nI (σ (33 + i)) := if_pos h
theorem aM_in (h : i < 8) : aM b σ i = nI (σ (41 + i)) := if_pos h
theorem aX_in (h : i < 6) : aX b σ i = nI (σ (61 + i)) := if_pos h
theorem aO_in (h : i < σ 3) : aO b σ i = nI (σ (67 + i)) := if_pos h
theorem aL_in (h : i < σ 1) : aL b σ i = nI (σ (49 + i)) := if_pos h
theorem aR_in (h : i < σ 2) : aR b σ i = nI (σ (55 + i)) := if_pos h
theorem aP_in (h : i < σ 0) : aP b σ i = nI (σ (9 + i)) := if_pos h
theorem aK_up {k v : Nat} (h : k < 8) : upd (aK b σ) k (nI v) = aK b (up σ (33 + k) v) := by
  unfold aK
  rw [mkF_up h]
  refine mkF_congr (fun i _ => ?_)
  unfold up
  by_cases e : i = k
  · subst e; simp
  · rw [if_neg e, if_neg (by omega)]
theorem aM_up {k v : Nat} (h : k < 8) : upd (aM b σ) k (nI v) = aM b (up σ (41 + k) v) := by
  unfold aM
  rw [mkF_up h]
  refine mkF_congr (fun i _ => ?_)
  unfold up
  by_cases e : i = k
  · subst e; simp
  · rw [if_neg e, if_neg (by omega)]
end AA
section AC
variable {b : Nat → Int32} {σ τ : Nat → Nat}
theorem aU_c (h : ∀ p, p < 6 → sPr σ p = sPr τ p) : aU b σ = aU b τ := mkF_congr h
theorem aS_c (h : ∀ p, p < 6 → sStg σ p = sStg τ p) : aS b σ = aS b τ := mkF_congr h
theorem aD_c (h : ∀ i, 75 ≤ i → i < 111 → σ i = τ i) : aD b σ = aD b τ := mkF_congr (fun i hi => h _ (by omega) (by omega))
theorem aK_c (h : ∀ i, 33 ≤ i → i < 41 → σ i = τ i) : aK b σ = aK b τ := mkF_congr (fun i hi => h _ (by omega) (by omega))
theorem aM_c (h : ∀ i, 41 ≤ i → i < 49 → σ i = τ i) : aM b σ = aM b τ := mkF_congr (fun i hi => h _ (by omega) (by omega))
end AC
theorem b_stg {σ : Nat → Nat} {p s : Nat} : (sStg σ p).testBit s = (decide (s < σ 1) && sSt σ p s) := bset_bit _ _ _
theorem c_shut {σ : Nat → Nat} {p : Nat} (w : WF σ) (hp : p < 6) : f_X7_has (nI (σ 7)) (nI p) = some (bI (sShut σ p)) := has7 (by have := w.c7; omega) (by omega)
theorem c_standingInAll {σ : Nat → Nat} {sd : Nat → Int32} {fu : Nat} (w : WF σ) (hfu : 100 < fu) : f_X7_standingInAll fu (nI (σ 7)) (aS sd σ) (nI (σ 2)) = some (nI (sOpen σ)) := by
  have h1 := w.c2
  have h7 := w.c7
  unfold f_X7_standingInAll
  refine loop_p (fun n j => f_X7_standingInAll_4 fu (nI (σ 7)) (aS sd σ) (nI (σ 2)) n (nI (sOpenN σ j)) (nI j)) (σ 2) _ ?_ ?_ (σ 2) 0 fu (by omega) (by omega)
  · intro n j hj
    simp (disch := omega) only [f_X7_standingInAll_4, gi_n, nI_cl, aS_in, nI_le', if_neg, c_shut w, bd_s, bI_0, lt_, nI_add, nI_or, sOpenN]
    cases sShut σ j <;> rfl
  · intro n
    simp (disch := omega) only [f_X7_standingInAll_4, nI_le', if_pos]
    rfl
theorem c_nextPlace {σ : Nat → Nat} {od : Nat → Int32} {fu : Nat} (w : WF σ) (hfu : 100 < fu) : f_X7_nextPlace fu (nI (σ 3)) (nI (σ 8)) (nI (σ 6)) (aO od σ) = some (oI (sNext σ)) := by
  have h1 := w.c3
  have h8 := w.c8
  have h6 := w.c6
  unfold f_X7_nextPlace sNext
  refine loop_q (fun n j => f_X7_nextPlace_2 fu (nI (σ 3)) (nI (σ 8)) (nI (σ 6)) (aO od σ) n (nI j)) (σ 3) (fun k j => some (oI (sNextN σ k j))) ?_ ?_ (σ 3) 0 fu (by omega) (by omega)
  · intro n k j hj ih
    have hm : (σ 8 + j) % σ 3 < σ 3 := Nat.mod_lt _ (by omega)
    have ho := w.or' hm
    have key : ∀ x, x = (σ 8 + j) % σ 3 → f_X7_nextPlace_43 fu (nI (σ 3)) (nI (σ 8)) (nI (σ 6)) (aO od σ) (f_X7_nextPlace_2 fu (nI (σ 3)) (nI (σ 8)) (nI (σ 6)) (aO od σ) n) (nI j) (nI x) = some (oI (sNextN σ (k + 1) j)) := by
      rintro x rfl
      simp (disch := omega) only [f_X7_nextPlace_43, gi_n, nI_cl, aO_in, has7, bd_s, bI_0, lt_, nI_add, sNextN]
      cases hb : (σ 6).testBit (σ (67 + (σ 8 + j) % σ 3))
      · simp only [if_true, if_false, Bool.false_eq_true]
        rfl
      · simp only [if_true, if_false, Bool.true_eq_false]
        exact ih
    simp (disch := omega) only [f_X7_nextPlace_2, nI_le', if_neg, nI_add]
    by_cases hw : σ 3 ≤ σ 8 + j
    · rw [if_pos hw, pk_sub hw]
      exact key _ (by rw [Nat.mod_eq_sub_mod hw, Nat.mod_eq_of_lt (by omega)])
    · rw [if_neg hw]
      exact key _ (by rw [Nat.mod_eq_of_lt (by omega)])
  · intro n
    simp (disch := omega) only [f_X7_nextPlace_2, nI_le', if_pos]
    rfl
/-- where the book is behind its next place -/
def sPl (σ : Nat → Nat) : Nat := match sNext σ with
  | none => σ 8
  | some pl => (pl + 1) % σ 3
def sCell (σ : Nat → Nat) : Option Nat := (sNext σ).map (fun pl => σ (67 + pl))
theorem c_goOn {σ : Nat → Nat} {od : Nat → Int32} {fu : Nat} (w : WF σ) (hfu : 100 < fu) : f_X7_goOn fu (nI (σ 3)) (nI (σ 8)) (nI (σ 6)) (aO od σ) = some (oI (sCell σ), nI (sPl σ)) := by
  have h1 := w.c3
  unfold f_X7_goOn sCell sPl
  simp only [c_nextPlace w hfu, bd_s]
  cases h : sNext σ with
  | none => rfl
  | some pl =>
    have hpl := sNext_lt h
    have ho := w.or' hpl
    simp (disch := omega) only [oI_s, nI_ne_m1, if_false, nI_add, nI_le', gi_n, nI_cl, aO_in, lt_, Option.map]
    by_cases e : σ 3 ≤ pl + 1
    · rw [if_pos e, show pl + 1 = σ 3 by omega, Nat.mod_self]
    · rw [if_neg e, Nat.mod_eq_of_lt (by omega)]
theorem c_eraseSecret {σ : Nat → Nat} {dt sd us : Nat → Int32} {p s : Nat} (w : WF σ) (hp : p < 6) (hs : s < σ 1) : f_X7_eraseSecret (nI p) (nI s) (aD dt σ) (aS sd σ) (aU us σ) = some (aD dt (up σ (75 + 6 * p + s) 0), aS sd (up σ (75 + 6 * p + s) 0), aU us (up σ (75 + 6 * p + s) 0)) := by
  have h1 := w.c1
  have hr := w.ro hp
  have hu := w.us hp
  have hd := w.dl' hp (s := s) (by omega)
  have hle := w.le1 (s := s) (by omega) hs
  have hpr : σ (75 + 6 * p + s) ≤ sPr σ p := by
    have h := sPr_up (σ := σ) (p := p) (q := p) (v := 0) (s := s) (by omega)
    rw [if_pos rfl, if_pos rfl] at h
    unfold sD at h
    omega
  unfold f_X7_eraseSecret
  have ix : 75 + (p * 6 + s) = 75 + 6 * p + s := by omega
  simp (disch := omega) only [lt_, pk_mul, nI_add, gi_n, nI_cl, aU_in, aD_in, aS_in, ix, pk_sub, nI_1shl, nI_andn]
  congr 2
  · unfold aD
    rw [show (nI 0 : Int32) = nI 0 from rfl, mkF_up (by omega)]
    refine mkF_congr (fun i hi => ?_)
    unfold up
    by_cases e : i = p * 6 + s
    · rw [if_pos e, if_pos (by omega)]
    · rw [if_neg e, if_neg (by omega)]
  · congr 1
    · unfold aS
      rw [mkF_up hp]
      refine mkF_congr (fun q hq => ?_)
      unfold up
      by_cases e : q = p
      · subst e
        rw [if_pos rfl]
        apply Nat.eq_of_testBit_eq
        intro i
        show _ = (sStg (up σ (75 + 6 * q + s) 0) q).testBit i
        rw [dif_bit, b_stg, b_stg, Nat.testBit_two_pow, up_n _ _ (by omega)]
        by_cases hi : i = s
        · subst hi
          have : sSt (up σ (75 + 6 * q + i) 0) q i = false := by
            unfold sSt
            rw [sD_up (by omega) (by omega), if_pos ⟨rfl, rfl⟩, up_n _ _ (by omega), decide_eq_false_iff_not]
            omega
          rw [this]; simp
        · by_cases hi2 : i < σ 1
          · rw [sSt_up (by omega) (by omega) (by omega)]
            simp [show ¬ s = i from fun e => hi e.symm]
          · simp [hi2]
      · rw [if_neg e]
        refine (sStg_same (σ := σ) (σ' := up σ (75 + 6 * p + s) 0) (up_n _ _ (by omega)) (fun t ht => ?_)).symm
        exact sSt_up (by omega) (by omega) (fun h => e h.1)
    · unfold aU
      rw [mkF_up hp]
      refine mkF_congr (fun q hq => ?_)
      have h := sPr_up (σ := σ) (p := p) (q := q) (v := 0) (s := s) (by omega)
      by_cases e : q = p
      · subst e
        rw [up_s]
        rw [if_pos rfl, if_pos rfl] at h
        unfold sD at h
        omega
      · rw [up_n _ _ e]
        rw [if_neg e, if_neg e] at h
        omega
