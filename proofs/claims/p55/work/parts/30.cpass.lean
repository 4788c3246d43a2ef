theorem nI_same {a d : Nat} (hd : d < 2147483648) : (nI (a + d) = nI a) = (d = 0) := propext ⟨fun h => by
  have h1 : (nI (a + d)).toBitVec.toNat = (nI a).toBitVec.toNat := by rw [h]
  have h2 : ∀ n, (nI n).toBitVec.toNat = n % 4294967296 := fun n => rfl
  rw [h2, h2] at h1
  omega, fun h => by rw [h]; rfl⟩
/-- the sets of CELLS that are BLIND, that RUB -/
def sB (σ : Nat → Nat) : Nat := bset (fun k => decide (σ (17 + k) = 1)) 8
def sR (σ : Nat → Nat) : Nat := bset (fun k => decide (σ (25 + k) = 1)) 8
theorem sB_lt {σ : Nat → Nat} : sB σ < 256 := bset_lt _ 8
theorem sR_lt {σ : Nat → Nat} : sR σ < 256 := bset_lt _ 8
theorem sB_bit {σ : Nat → Nat} {k : Nat} (hk : k < 8) : (sB σ).testBit k = decide (σ (17 + k) = 1) := by unfold sB; rw [bset_bit, decide_eq_true hk]; rfl
theorem sR_bit {σ : Nat → Nat} {k : Nat} (hk : k < 8) : (sR σ).testBit k = decide (σ (25 + k) = 1) := by unfold sR; rw [bset_bit, decide_eq_true hk]; rfl
theorem sB_B {σ τ : Nat → Nat} (h : sameB σ τ) : sB τ = sB σ := bset_congr (fun k hk => by rw [h.bl hk])
theorem sR_B {σ τ : Nat → Nat} (h : sameB σ τ) : sR τ = sR σ := bset_congr (fun k hk => by rw [h.ru hk])
theorem sPricks_ok {σ : Nat → Nat} (w : WF σ) {k : Nat} (hk : k < 8) : WF (sPricks σ k) ∧ sameB σ (sPricks σ k) ∧ (∀ i, i < 41 → i ≠ 5 → sPricks σ k i = σ i) ∧ ∃ d, d ≤ 20 ∧ sPricks σ k 5 = σ 5 + d := by
  obtain ⟨a, b, c, d⟩ := sPrickN_ok w (left := σ (9 + k)) hk _ (Nat.le_refl _)
  obtain ⟨-, e, -, -⟩ := sPrickN_more w (left := σ (9 + k)) hk _ (Nat.le_refl _)
  have hc := w.can hk
  exact ⟨a, b, d, _, by omega, e⟩
/-- the end of a TURN -/
theorem c_pass77 {ρ σ : Nat → Nat} {dt kn md sd us lt rm sp od : Nat → Int32} {pl tu : Int32} {fu k ka : Nat} (w : WF ρ) (ws : WF σ) (hB : sameB σ ρ) (hk : k < ρ 0) (hka : ka < 64) (hfu : 100 < fu) :
    f_X7_pass_77 fu (nI (σ 3)) (nI (σ 6)) (nI (σ 7)) (aO od σ) (nI (σ 1)) (nI (σ 2)) (nI (sB σ)) (nI (sR σ)) (aL lt σ) (aR rm σ) (aP sp σ) (nI k) (nI ka) (nI (ρ 5)) pl tu (nI (ρ 5)) (aD dt ρ) (aK kn ρ) (aM md ρ) (aS sd ρ) (aU us ρ)
      = some (bI (decide (ρ (33 + k) ≠ ka) || decide (sPricks ρ k 5 ≠ ρ 5)), pl, tu, nI (sPricks ρ k 5), aD dt (sPricks ρ k), aK kn (sPricks ρ k), aM md (sPricks ρ k), aS sd (sPricks ρ k), aU us (sPricks ρ k)) := by
  have h0 := w.c0
  have hkn := w.kn (k := k) (by omega)
  have hM := c_makePricks (dt := dt) (kn := kn) (md := md) (sd := sd) (us := us) (lt := lt) (rm := rm) (sp := sp) w hk hfu
  rw [hB.e7, hB.e1, hB.e2, aL_B hB ws, aR_B hB ws, aP_B hB ws] at hM
  obtain ⟨-, -, hp, d, hd, h5⟩ := sPricks_ok w (k := k) (by omega)
  have eK : aK kn ρ = aK kn (sPricks ρ k) := aK_c (fun i h1 h2 => (hp i (by omega) (by omega)).symm)
  unfold f_X7_pass_77
  simp (disch := omega) only [hM, bd_s, gi_n, nI_cl, aK_in, nI_eq']
  rw [h5]
  simp (disch := omega) only [nI_same]
  rw [← eK]
  by_cases e : ρ (33 + k) = ka
  · rw [if_pos e]
    by_cases e2 : d = 0
    · subst e2
      rw [if_pos rfl]
      simp [e, bI]
    · rw [if_neg e2]
      simp [e, e2, bI]
  · rw [if_neg e]
    simp [e, bI]
/-- whether a TURN changes more than the book's place -/
def sFlag (σ : Nat → Nat) : Bool := match sNext σ with
  | none => false
  | some pl => decide (sTurn σ (33 + σ (67 + pl)) ≠ σ (33 + σ (67 + pl))) || decide (sTurn σ 5 ≠ σ 5)
theorem sRub_75 {σ : Nat → Nat} {knew i : Nat} (hi : i < 75) : sRub σ knew i = σ i := by
  unfold sRub
  cases sRubP σ knew with
  | none => rfl
  | some p => exact up_n _ _ (by omega)
theorem c_pass {σ : Nat → Nat} {dt kn md sd us lt rm sp od : Nat → Int32} {fu : Nat} (w : WF σ) (hfu : 100 < fu) :
    f_X7_pass fu (nI (σ 3)) (nI (σ 8)) (nI (σ 6)) (nI (σ 7)) (nI (σ 4)) (nI (σ 5)) (aD dt σ) (aK kn σ) (aM md σ) (aO od σ) (aS sd σ) (aU us σ) (nI (σ 1)) (nI (σ 2)) (nI (sB σ)) (nI (sR σ)) (aL lt σ) (aR rm σ) (aP sp σ)
      = some (bI (sFlag σ), nI (sTurn σ 8), nI (sTurn σ 4), nI (sTurn σ 5), aD dt (sTurn σ), aK kn (sTurn σ), aM md (sTurn σ), aS sd (sTurn σ), aU us (sTurn σ)) := by
  have h0 := w.c0
  have h3 := w.c3
  unfold f_X7_pass
  simp (disch := omega) only [lt_, nI_add, c_goOn w, bd_s]
  cases h : sNext σ with
  | none =>
    have e1 : sCell σ = none := by unfold sCell; rw [h]; rfl
    have e2 : sPl σ = σ 8 := by unfold sPl; rw [h]
    have e3 : sFlag σ = false := by unfold sFlag; rw [h]
    have e4 : sTurn σ = up σ 4 (σ 4 + 1) := by unfold sTurn; rw [h]
    have n1 : ∀ p, sPr (up σ 4 (σ 4 + 1)) p = sPr σ p := fun p => sPr_upo (by omega)
    have n2 : ∀ p, sStg (up σ 4 (σ 4 + 1)) p = sStg σ p := fun p => sStg_same (up_n _ _ (by omega)) (fun s _ => by unfold sSt; rw [sD_upo (by omega)]; rw [up_n _ _ (by omega)])
    rw [e1, e2, e3, e4]
    simp only [oI_nm1, if_true]
    rw [up_n _ _ (show 8 ≠ 4 by omega), up_s, up_n _ _ (show 5 ≠ 4 by omega), aU_c (τ := σ) (fun p _ => n1 p), aS_c (τ := σ) (fun p _ => n2 p), aD_c (τ := σ) (fun i _ _ => up_n _ _ (by omega)), aK_c (τ := σ) (fun i _ _ => up_n _ _ (by omega)), aM_c (τ := σ) (fun i _ _ => up_n _ _ (by omega))]
    rfl
  | some pl =>
    have hpl := sNext_lt h
    have hk := w.or' hpl
    have hk0 := w.or hpl
    have hm : (pl + 1) % σ 3 < σ 3 := Nat.mod_lt _ (by omega)
    have e1 : sCell σ = some (σ (67 + pl)) := by unfold sCell; rw [h]; rfl
    have e2 : sPl σ = (pl + 1) % σ 3 := by unfold sPl; rw [h]
    have e3 : sFlag σ = (decide (sTurn σ (33 + σ (67 + pl)) ≠ σ (33 + σ (67 + pl))) || decide (sTurn σ 5 ≠ σ 5)) := by unfold sFlag; rw [h]
    have e4 : sTurn σ = sPricks (sReads (up (up σ 4 (σ 4 + 1)) 8 ((pl + 1) % σ 3)) (σ (67 + pl))) (σ (67 + pl)) := by unfold sTurn; rw [h]
    have wt := wf_8 (wf_4 w (v := σ 4 + 1)) (v := (pl + 1) % σ 3) (by rw [up_n _ _ (by omega)]; exact Or.inl hm)
    have hBt : sameB σ (up (up σ 4 (σ 4 + 1)) 8 ((pl + 1) % σ 3)) := (sameB.up (by omega)).tr (sameB.up (by omega))
    have n0 : ∀ i, i ≠ 4 → i ≠ 8 → up (up σ 4 (σ 4 + 1)) 8 ((pl + 1) % σ 3) i = σ i := fun i a b => by rw [up_n _ _ b, up_n _ _ a]
    have n4 : up (up σ 4 (σ 4 + 1)) 8 ((pl + 1) % σ 3) 4 = σ 4 + 1 := by rw [up_n _ _ (by omega), up_s]
    have n8 : up (up σ 4 (σ 4 + 1)) 8 ((pl + 1) % σ 3) 8 = (pl + 1) % σ 3 := up_s _ _ _
    have n1 : ∀ p, sPr (up (up σ 4 (σ 4 + 1)) 8 ((pl + 1) % σ 3)) p = sPr σ p := fun p => by rw [sPr_upo (by omega), sPr_upo (by omega)]
    have n2 : ∀ p, sStg (up (up σ 4 (σ 4 + 1)) 8 ((pl + 1) % σ 3)) p = sStg σ p := fun p => sStg_same (n0 1 (by omega) (by omega)) (fun s _ => by unfold sSt; rw [sD_upo (by omega), sD_upo (by omega), n0 _ (by omega) (by omega)])
    rw [e1, e2, e3, e4]
    generalize σ (67 + pl) = k at hk hk0 ⊢
    generalize up (up σ 4 (σ 4 + 1)) 8 ((pl + 1) % σ 3) = τ at wt hBt n0 n4 n8 n1 n2 ⊢
    rw [aU_c (τ := τ) (fun p _ => (n1 p).symm), aS_c (τ := τ) (fun p _ => (n2 p).symm), aD_c (τ := τ) (fun i _ _ => (n0 i (by omega) (by omega)).symm), aK_c (τ := τ) (fun i _ _ => (n0 i (by omega) (by omega)).symm), aM_c (τ := τ) (fun i _ _ => (n0 i (by omega) (by omega)).symm)]
    have hkn := wt.kn hk
    have hka := w.kn hk
    have t0 : τ 0 = σ 0 := hBt.e0
    have t5 : τ 5 = σ 5 := n0 5 (by omega) (by omega)
    have tk : τ (33 + k) = σ (33 + k) := n0 _ (by omega) (by omega)
    have hbl := w.bl hk
    have hru := w.ru hk
    have hsB := sB_lt (σ := σ)
    have hsR := sR_lt (σ := σ)
    have hO := c_standingInAll (sd := sd) (fu := fu) wt hfu
    rw [hBt.e7, hBt.e2] at hO
    have hop := wt.opn'
    simp (disch := omega) only [oI_s, nI_ne_m1, if_false, gi_n, nI_cl, aK_in, lt_, has7, sB_bit, sR_bit, bd_s, bI_0, hO, nI_or, aK_up]
    have e17 : τ (17 + k) = σ (17 + k) := hBt.bl hk
    have e25 : τ (25 + k) = σ (25 + k) := hBt.ru hk
    unfold sReads
    rw [e17, e25]
    by_cases hb : σ (17 + k) = 0
    · rw [if_pos hb, if_pos (by simp [hb])]
      have hv : τ (33 + k) ||| sOpen τ < 64 := or_lt (n := 6) hkn wt.opn'
      have w1 := wf_kn wt (k := k) (v := τ (33 + k) ||| sOpen τ) (by omega) hv
      have hB1 : sameB σ (up τ (33 + k) (τ (33 + k) ||| sOpen τ)) := hBt.tr (sameB.up (by omega))
      have f8 : up τ (33 + k) (τ (33 + k) ||| sOpen τ) 8 = (pl + 1) % σ 3 := by rw [up_n _ _ (by omega)]; exact n8
      have f4 : up τ (33 + k) (τ (33 + k) ||| sOpen τ) 4 = σ 4 + 1 := by rw [up_n _ _ (by omega)]; exact n4
      have f5 : up τ (33 + k) (τ (33 + k) ||| sOpen τ) 5 = σ 5 := by rw [up_n _ _ (by omega)]; exact t5
      have fD : aD dt τ = aD dt (up τ (33 + k) (τ (33 + k) ||| sOpen τ)) := aD_c (fun i _ _ => (up_n _ _ (by omega)).symm)
      have fM : aM md τ = aM md (up τ (33 + k) (τ (33 + k) ||| sOpen τ)) := aM_c (fun i _ _ => (up_n _ _ (by omega)).symm)
      have fU : aU us τ = aU us (up τ (33 + k) (τ (33 + k) ||| sOpen τ)) := aU_c (fun p _ => (sPr_upo (by omega)).symm)
      have fS : aS sd τ = aS sd (up τ (33 + k) (τ (33 + k) ||| sOpen τ)) := aS_c (fun p _ => (sStg_same (up_n _ _ (by omega)) (fun s _ => by unfold sSt; rw [sD_upo (by omega)]; rw [up_n _ _ (by have := wt.c1; omega)])).symm)
      rw [fD, fM, fU, fS]
      generalize up τ (33 + k) (τ (33 + k) ||| sOpen τ) = ρ at w1 hB1 f8 f4 f5 ⊢
      by_cases hr : σ (25 + k) = 1
      · rw [if_pos hr, if_neg (by simp [hr])]
        obtain ⟨w2, hB2, hlow⟩ := wf_rub w1 (knew := τ (33 + k))
        have hE := c_eraseFirstNew (dt := dt) (sd := sd) (us := us) (fu := fu) w1 (knew := τ (33 + k)) hkn hfu
        rw [hB1.e7, hB1.e1, hB1.e2] at hE
        rw [hE, bd_s]
        have g5 : sRub ρ (τ (33 + k)) 5 = σ 5 := by rw [hlow 5 (by omega)]; exact f5
        have gK : aK kn ρ = aK kn (sRub ρ (τ (33 + k))) := aK_c (fun i _ _ => (hlow i (by omega)).symm)
        have gM : aM md ρ = aM md (sRub ρ (τ (33 + k))) := aM_c (fun i _ _ => (hlow i (by omega)).symm)
        have hP := c_pass77 (dt := dt) (kn := kn) (md := md) (sd := sd) (us := us) (lt := lt) (rm := rm) (sp := sp) (od := od) (pl := nI ((pl + 1) % σ 3)) (tu := nI (σ 4 + 1)) (ka := τ (33 + k)) w2 w (hB1.tr hB2) (k := k) (by rw [hlow 0 (by omega), hB1.e0]; exact hk0) hkn hfu
        obtain ⟨-, -, hp, -⟩ := sPricks_ok w2 (k := k) hk
        rw [g5] at hP
        rw [gK, gM]
        simp only
        rw [hP, hp 8 (by omega) (by omega), hp 4 (by omega) (by omega), hp (33 + k) (by omega) (by omega), hlow 8 (by omega), hlow 4 (by omega), f8, f4, tk]
      · rw [if_neg hr, if_pos (by simp [hr])]
        have hP := c_pass77 (dt := dt) (kn := kn) (md := md) (sd := sd) (us := us) (lt := lt) (rm := rm) (sp := sp) (od := od) (pl := nI ((pl + 1) % σ 3)) (tu := nI (σ 4 + 1)) (ka := τ (33 + k)) w1 w hB1 (k := k) (by rw [hB1.e0]; exact hk0) hkn hfu
        obtain ⟨-, -, hp, -⟩ := sPricks_ok w1 (k := k) hk
        rw [f5] at hP
        rw [hP, hp 8 (by omega) (by omega), hp 4 (by omega) (by omega), hp (33 + k) (by omega) (by omega), f8, f4, tk]
    · rw [if_neg hb, if_neg (by simp; omega)]
      have hP := c_pass77 (dt := dt) (kn := kn) (md := md) (sd := sd) (us := us) (lt := lt) (rm := rm) (sp := sp) (od := od) (pl := nI ((pl + 1) % σ 3)) (tu := nI (σ 4 + 1)) (ka := τ (33 + k)) wt w hBt (k := k) (by omega) hkn hfu
      obtain ⟨-, -, hp, -⟩ := sPricks_ok wt (k := k) hk
      rw [t5] at hP
      rw [hP, hp 8 (by omega) (by omega), hp 4 (by omega) (by omega), hp (33 + k) (by omega) (by omega), n8, n4, tk]
