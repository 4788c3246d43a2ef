/-! ROUNDS: a STEP without an end, on both sides -/
def stS (c co on ot : Nat → Int32) (n0 n2 s p : Nat) : Prop :=
  (c (113 + 9 * s) = nI 0 ∧ co p = nI 12 ∧ ∃ a, 1 ≤ a ∧ a ≤ 99 ∧ c (113 + 9 * s + 1) = nI a ∧ on p = nI a) ∨
  (c (113 + 9 * s) = nI 1 ∧ co p = nI 13 ∧ ∃ a, a < n0 ∧ c (113 + 9 * s + 1) = nI a ∧ on p = nI a) ∨
  (c (113 + 9 * s) = nI 2 ∧ co p = nI 14 ∧ ∃ a b, a < n0 ∧ b < n0 ∧ c (113 + 9 * s + 1) = nI a ∧ c (113 + 9 * s + 2) = nI b ∧ on p = nI a ∧ ot p = nI b) ∨
  (c (113 + 9 * s) = nI 3 ∧ co p = nI 15 ∧ ∃ a, a < n2 ∧ c (113 + 9 * s + 1) = nI a ∧ on p = nI a) ∨
  (c (113 + 9 * s) = nI 4 ∧ co p = nI 16 ∧ ∃ a, a < n2 ∧ c (113 + 9 * s + 1) = nI a ∧ on p = nI a) ∨
  (c (113 + 9 * s) = nI 5 ∧ co p = nI 17)
def stX (c co : Nat → Int32) (s p : Nat) : Prop := c (113 + 9 * s) = nI 8 ∧ co p = nI 23
def stW (c co on ot : Nat → Int32) (n0 n1 n2 s p : Nat) : Prop :=
  c (113 + 9 * s) = nI 6 ∧ ∃ T a b, c (113 + 9 * s + 6) = nI T ∧ c (113 + 9 * s + 1) = nI a ∧ on p = nI a ∧
    ((T = 0 ∧ co p = nI 8 ∧ a < n0 ∧ b < n1 ∧ c (113 + 9 * s + 2) = nI b ∧ ot p = nI b) ∨ (T = 1 ∧ co p = nI 19 ∧ a < n2) ∨ (T = 2 ∧ co p = nI 20 ∧ a < n1))
def stL (c co on : Nat → Int32) (s p : Nat) : Prop := c (113 + 9 * s) = nI 7 ∧ co p = nI 21 ∧ ∃ a, 1 ≤ a ∧ a ≤ 99 ∧ c (113 + 9 * s + 1) = nI a ∧ on p = nI a
theorem mk_hi {c : Nat → Int32} {σ : Nat → Nat} {i : Nat} (h : 111 ≤ i) : mk c σ i = c i := if_neg (by omega)
section AQ
variable {b : Nat → Int32} {σ τ : Nat → Nat}
theorem aD_67 (h : ∀ i, i ≠ 6 → i ≠ 7 → τ i = σ i) : aD b τ = aD b σ := aD_c (fun i _ _ => h i (by omega) (by omega))
theorem aK_67 (h : ∀ i, i ≠ 6 → i ≠ 7 → τ i = σ i) : aK b τ = aK b σ := aK_c (fun i _ _ => h i (by omega) (by omega))
theorem aM_67 (h : ∀ i, i ≠ 6 → i ≠ 7 → τ i = σ i) : aM b τ = aM b σ := aM_c (fun i _ _ => h i (by omega) (by omega))
theorem aO_67 (h : ∀ i, i ≠ 6 → i ≠ 7 → τ i = σ i) : aO b τ = aO b σ := by
  unfold aO
  rw [h 3 (by omega) (by omega)]
  exact mkF_congr (fun i hi => h _ (by omega) (by omega))
theorem sPr_hi (h : ∀ i, 75 ≤ i → τ i = σ i) (p : Nat) : sPr τ p = sPr σ p := by
  unfold sPr sD
  rw [h _ (by omega), h _ (by omega), h _ (by omega), h _ (by omega), h _ (by omega), h _ (by omega)]
theorem aU_hi (h : ∀ i, 75 ≤ i → τ i = σ i) : aU b τ = aU b σ := aU_c (fun p _ => sPr_hi h p)
theorem aS_hi (w : WF σ) (h : ∀ i, 75 ≤ i → τ i = σ i) (h2 : ∀ i, i < 55 → i ≠ 6 → i ≠ 7 → τ i = σ i) : aS b τ = aS b σ := aS_c (fun p _ => sStg_same (h2 1 (by omega) (by omega) (by omega)) (fun s hs => by
  have := w.c1
  unfold sSt sD
  rw [h _ (by omega), h2 _ (by omega) (by omega) (by omega)]))
end AQ
/-- what a STEP of the class comes to -/
def oS (q m : Nat) (f v : Int32) (ll dt kn md od sd us : Nat → Int32) (σ : Nat → Nat) : Int32 × Int32 × Int32 × Int32 × (Nat → Int32) × Int32 × Int32 × Int32 × Int32 × Int32 × (Nat → Int32) × (Nat → Int32) × (Nat → Int32) × (Nat → Int32) × (Nat → Int32) × (Nat → Int32) :=
  (nI q, nI m, f, v, ll, nI (σ 8), nI (σ 6), nI (σ 7), nI (σ 4), nI (σ 5), aD dt σ, aK kn σ, aM md σ, aO od σ, aS sd σ, aU us σ)
def tS (fu p m : Nat) (f v : Int32) (ll : Nat → Int32) (sz : Nat) (co ma on ot lt rm sp xx dt kn md od sd us : Nat → Int32) (σ : Nat → Nat) :=
  f_X3_takeStep fu (nI p) (nI m) f v ll (nI (σ 0)) (nI (σ 1)) (nI (σ 2)) (nI (sB σ)) (nI (sR σ)) (aL lt σ) (aR rm σ) (nI sz) co ma on ot (aP sp σ) (nI (σ 3)) (nI (σ 8)) (nI (σ 6)) (nI (σ 7)) (nI (σ 4)) (nI (σ 5)) (aD dt σ) (aK kn σ) (aM md σ) (aO od σ) (aX xx σ) (aS sd σ) (aU us σ)
section ST
variable {c : Nat → Int32} {σ : Nat → Nat} {fu p m s sz T0 : Nat} {f v : Int32} {ll co ma on ot lt rm sp xx dt kn md od sd us : Nat → Int32}
theorem m_anyTurns (w : WF σ) {a t : Nat} (ha : a ≤ 99) (h4 : σ 4 ≤ 9999) (hfu : 1000 < fu) : f_X12_anyTurns fu (nI a) (nI t) (mk c σ) = if σ 4 + a ≤ 9999 then some (nI 1, nI (t + a), mk c (sIt a σ)) else some (nI 0, nI t, mk c σ) := by
  unfold f_X12_anyTurns
  simp (disch := omega) only [gi_n, nI_cl, mk_in, nI_add, nI_le']
  by_cases e : σ 4 + a ≤ 9999
  · rw [if_pos e, if_pos e]
    refine loop_p (fun n j => f_X12_anyTurns_18 fu n (nI a) (nI j) (nI t) (mk c (sIt j σ))) a _ ?_ ?_ a 0 fu (by omega) (by omega)
    · intro n j hj
      simp (disch := omega) only [f_X12_anyTurns_18, nI_le', if_neg, m_goesTurn (sIt_ok w j).1, bd_s, lt_, nI_add, sIt_s]
    · intro n
      simp (disch := omega) only [f_X12_anyTurns_18, nI_le', if_pos, lt_, nI_add]
  · rw [if_neg e, if_neg e]
theorem ts_274 {q : Nat} {dn : Bool} {k1 k2 k3 k4 k5 k6 k7 : Int32} (hm : m < 1000) {u1 u2 u3 u4 u5 : Int32} {w1 w2 w3 w4 w5 w6 lo ro po xo : Nat → Int32} :
    f_X3_takeStep_274 fu k1 k2 k3 k4 k5 lo ro k6 co ma on ot po k7 xo (nI q) (bI dn) (nI m) f v ll u1 u2 u3 u4 u5 w1 w2 w3 w4 w5 w6 = some (nI q, nI (m + if dn = true then 0 else 1), f, v, ll, u1, u2, u3, u4, u5, w1, w2, w3, w4, w5, w6) := by
  unfold f_X3_takeStep_274
  simp (disch := omega) only [lt_, nI_add]
  cases dn
  · rw [if_pos (show bI false = 0 from rfl)]; rfl
  · rw [if_neg (show ¬ bI true = 0 by decide)]; rfl
theorem st_do (w : WF σ) (h4 : σ 4 ≤ 9999) (hT : T0 ≤ σ 4) (hs : s < 30) (hp : p < 60) (hm : m < 1000) (h : stS c co on ot (σ 0) (σ 2) s p) (hfu : 1000 < fu) :
    ∃ (dn : Bool) (f' v' : Int32) (σ' : Nat → Nat), f_X12_does fu (nI (113 + 9 * s)) v (nI (σ 4 - T0)) f (mk c σ) = some (bI dn, v', nI (σ' 4 - T0), f', mk c σ') ∧ WF σ' ∧ sameC σ σ' ∧ σ 4 ≤ σ' 4 ∧ σ' 4 ≤ 9999 ∧
      tS fu p m f v ll sz co ma on ot lt rm sp xx dt kn md od sd us σ = some (oS (p + 1) (m + if dn = true then 0 else 1) f' v' ll dt kn md od sd us σ') := by
  have h0 := w.c0
  have h2 := w.c2
  have h6 := w.c6
  have h7 := w.c7
  unfold tS f_X3_takeStep f_X12_does
  rcases h with ⟨hk, hc, a, ha, ha2, hca, hoa⟩ | ⟨hk, hc, a, ha, hca, hoa⟩ | ⟨hk, hc, a, b, ha, hb, hca, hcb, hoa, hob⟩ | ⟨hk, hc, a, ha, hca, hoa⟩ | ⟨hk, hc, a, ha, hca, hoa⟩ | ⟨hk, hc⟩
  · -- turn
    simp (disch := omega) only [gi_n, nI_cl, mk_hi, nI_add, hk, hc, hca, hoa, lt_, nI_eq', nI_eq0, if_true, if_false, if_neg, if_pos, m_anyTurns w ha2 h4 hfu, nI_lt']
    have hP := fun k (hk : k ≤ 99) => c_passMany (dt := dt) (kn := kn) (md := md) (sd := sd) (us := us) (lt := lt) (rm := rm) (sp := sp) (od := od) (fu := fu) w (m := k) (by omega) (by omega)
    obtain ⟨w', hB, h5⟩ := sIt_ok w a
    by_cases e : σ 4 + a ≤ 9999
    · rw [if_pos e, if_neg (by omega), bd_s]
      refine ⟨true, f, v, sIt a σ, ?_, w', sameC.ofB hB, by omega, by omega, ?_⟩
      · show gd_ _ _ = _
        rw [gd_1, show σ 4 - T0 + a = sIt a σ 4 - T0 by omega]; rfl
      · unfold f_X3_takeStep_245
        rw [if_neg (by decide)]
        unfold f_X3_takeStep_260
        rw [hP a ha2, bd_s]
        refine (ts_274 (dn := true) hm).trans ?_
        unfold oS
        rw [hB.e6, hB.e7, aO_B hB w]
    · rw [if_neg e, if_pos (by omega), bd_s]
      refine ⟨false, f, v, σ, ?_, w, sameC.rf, by omega, by omega, ?_⟩
      · exact gd_0 _
      · unfold f_X3_takeStep_245
        rw [if_pos (by decide)]
        unfold f_X3_takeStep_260
        rw [hP 0 (by omega), bd_s]
        exact ts_274 (dn := false) hm
  · -- ill
    have hx : σ 6 ^^^ 2 ^ a < 256 := xor_lt (n := 8) h6 (pw_lt (by omega))
    have hu : ∀ i, i ≠ 6 → i ≠ 7 → up σ 6 (σ 6 ^^^ 2 ^ a) i = σ i := fun i h _ => up_n _ _ h
    simp (disch := omega) only [gi_n, nI_cl, mk_hi, mk_in, nI_add, hk, hc, hca, hoa, lt_, nI_eq', nI_eq0, if_true, if_false, if_neg, if_pos, nI_1shl, nI_xor, mk_up]
    refine ⟨true, f, v, up σ 6 (σ 6 ^^^ 2 ^ a), ?_, wf_6 w hx, fun i hi => up_n _ _ (by omega), by rw [hu 4 (by omega) (by omega)]; omega, by rw [hu 4 (by omega) (by omega)]; exact h4, ?_⟩
    · rw [hu 4 (by omega) (by omega)]; rfl
    · refine (ts_274 (dn := true) hm).trans ?_
      unfold oS
      rw [aD_67 hu, aK_67 hu, aM_67 hu, aO_67 hu, aS_hi w (fun i hi => hu i (by omega) (by omega)) (fun i _ a b => hu i a b), aU_hi (fun i hi => hu i (by omega) (by omega)), up_s, hu 8 (by omega) (by omega), hu 4 (by omega) (by omega), hu 5 (by omega) (by omega), up_n _ _ (show 7 ≠ 6 by omega)]
  · -- move
    obtain ⟨w', hm'⟩ := wf_move w (a := a) (b := b)
    simp (disch := omega) only [gi_n, nI_cl, mk_hi, nI_add, hk, hc, hca, hcb, hoa, hob, lt_, nI_eq', nI_eq0, if_true, if_false, if_neg, if_pos, c_swapPlaces w, m_moves w, bd_s, gd_bI]
    have h3 := w.c3
    have hu : ∀ i, i < 67 → (sMove σ a b).2 i = σ i := fun i hi => hm' i (by omega)
    have hv : ∀ i, 75 ≤ i → (sMove σ a b).2 i = σ i := fun i hi => hm' i (by omega)
    refine ⟨(sMove σ a b).1, f, v, (sMove σ a b).2, ?_, w', fun i hi => hu i (by omega), by rw [hu 4 (by omega)]; omega, by rw [hu 4 (by omega)]; exact h4, ?_⟩
    · rw [hu 4 (by omega)]
    · refine (ts_274 hm).trans ?_
      unfold oS
      rw [aD_c (fun i h _ => hv i h), aK_c (fun i _ _ => hu i (by omega)), aM_c (fun i _ _ => hu i (by omega)), aS_hi w hv (fun i _ _ _ => hu i (by omega)), aU_hi hv, hu 8 (by omega), hu 4 (by omega), hu 5 (by omega), hu 6 (by omega), hu 7 (by omega)]
  · -- rub
    have hu : ∀ i, i < 75 → sErase σ a i = σ i := fun i hi => sErase_lo hi
    have hr := w.us (p := a) (by omega)
    have hr2 := w.ro (p := a) (by omega)
    simp (disch := omega) only [gi_n, nI_cl, mk_hi, nI_add, hk, hc, hca, hoa, lt_, nI_eq', nI_eq0, if_true, if_false, if_neg, if_pos, c_erasePage w, m_clears, bd_s, nI_le0]
    refine ⟨decide (sPr σ a ≠ 0), f, v, sErase σ a, ?_, wf_erase w, wd_C hu, by rw [hu 4 (by omega)]; omega, by rw [hu 4 (by omega)]; exact h4, ?_⟩
    · rw [hu 4 (by omega)]
      by_cases e : sPr σ a = 0
      · rw [if_pos e, decide_eq_false (by omega)]; rfl
      · rw [if_neg e, decide_eq_true e]; rfl
    · unfold oS
      rw [aK_c (σ := sErase σ a) (τ := σ) (fun i _ _ => hu i (by omega)), aM_c (σ := sErase σ a) (τ := σ) (fun i _ _ => hu i (by omega)), aO_75 w hu, hu 8 (by omega), hu 4 (by omega), hu 5 (by omega), hu 6 (by omega), hu 7 (by omega)]
      by_cases e : sPr σ a = 0
      · rw [if_pos e, decide_eq_false (by omega)]
        exact ts_274 (dn := false) hm
      · rw [if_neg e, decide_eq_true e]
        exact ts_274 (dn := true) hm
  · -- damp
    have hx : σ 7 ^^^ 2 ^ a < 64 := xor_lt (n := 6) h7 (pw_lt (by omega))
    have hu : ∀ i, i ≠ 6 → i ≠ 7 → up σ 7 (σ 7 ^^^ 2 ^ a) i = σ i := fun i _ h => up_n _ _ h
    simp (disch := omega) only [gi_n, nI_cl, mk_hi, mk_in, nI_add, hk, hc, hca, hoa, lt_, nI_eq', nI_eq0, if_true, if_false, if_neg, if_pos, nI_1shl, nI_xor, mk_up]
    refine ⟨true, f, v, up σ 7 (σ 7 ^^^ 2 ^ a), ?_, wf_7 w hx, fun i hi => up_n _ _ (by omega), by rw [hu 4 (by omega) (by omega)]; omega, by rw [hu 4 (by omega) (by omega)]; exact h4, ?_⟩
    · rw [hu 4 (by omega) (by omega)]; rfl
    · refine (ts_274 (dn := true) hm).trans ?_
      unfold oS
      rw [aD_67 hu, aK_67 hu, aM_67 hu, aO_67 hu, aS_hi w (fun i hi => hu i (by omega) (by omega)) (fun i _ a b => hu i a b), aU_hi (fun i hi => hu i (by omega) (by omega)), up_s, hu 8 (by omega) (by omega), hu 4 (by omega) (by omega), hu 5 (by omega) (by omega), up_n _ _ (show 6 ≠ 7 by omega)]
  · -- warder
    obtain ⟨w', hu, -⟩ := wdN_ok w v (σ 2) h2
    simp (disch := omega) only [gi_n, nI_cl, mk_hi, nI_add, hk, hc, lt_, nI_eq', nI_eq0, if_true, if_false, if_neg, if_pos, c_searches w, m_warder w, bd_s, gd_bI]
    refine ⟨decide (0 < (wdN (0, v, σ) (σ 2)).1), f + nI (wdN (0, v, σ) (σ 2)).1, (wdN (0, v, σ) (σ 2)).2.1, (wdN (0, v, σ) (σ 2)).2.2, ?_, w', wd_C hu, by rw [hu 4 (by omega)]; omega, by rw [hu 4 (by omega)]; exact h4, ?_⟩
    · rw [hu 4 (by omega)]
    · refine (ts_274 hm).trans ?_
      unfold oS
      rw [aK_c (fun i _ _ => hu i (by omega)), aM_c (fun i _ _ => hu i (by omega)), aO_75 w hu, hu 8 (by omega), hu 4 (by omega), hu 5 (by omega), hu 6 (by omega), hu 7 (by omega)]
end ST
