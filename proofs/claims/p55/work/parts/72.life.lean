/-! what ROUNDS leave as it is; the warder's draws; the tests -/
def sameC (σ τ : Nat → Nat) : Prop := ∀ i, (i < 4 ∨ (9 ≤ i ∧ i < 33) ∨ (49 ≤ i ∧ i < 67)) → τ i = σ i
section SC
variable {σ τ ρ : Nat → Nat} {b : Nat → Int32}
theorem sameC.rf : sameC σ σ := fun _ _ => rfl
theorem sameC.tr (h : sameC σ τ) (h2 : sameC τ ρ) : sameC σ ρ := fun i a => (h2 i a).trans (h i a)
theorem sameC.ofB (h : sameB σ τ) : sameC σ τ := fun i a => h i (by omega) (by omega) (by omega) (by omega)
theorem sameC.e0 (h : sameC σ τ) : τ 0 = σ 0 := h 0 (by omega)
theorem sameC.e1 (h : sameC σ τ) : τ 1 = σ 1 := h 1 (by omega)
theorem sameC.e2 (h : sameC σ τ) : τ 2 = σ 2 := h 2 (by omega)
theorem sameC.e3 (h : sameC σ τ) : τ 3 = σ 3 := h 3 (by omega)
theorem aL_C (h : sameC σ τ) (w : WF σ) : aL b τ = aL b σ := by
  have := w.c1
  unfold aL
  rw [h.e1]
  exact mkF_congr (fun i hi => h _ (by omega))
theorem aR_C (h : sameC σ τ) (w : WF σ) : aR b τ = aR b σ := by
  have := w.c2
  unfold aR
  rw [h.e2]
  exact mkF_congr (fun i hi => h _ (by omega))
theorem aP_C (h : sameC σ τ) (w : WF σ) : aP b τ = aP b σ := by
  have := w.c0
  unfold aP
  rw [h.e0]
  exact mkF_congr (fun i hi => h _ (by omega))
theorem aX_C (h : sameC σ τ) : aX b τ = aX b σ := mkF_congr (fun _ hi => h _ (by omega))
theorem sB_C (h : sameC σ τ) : sB τ = sB σ := bset_congr (fun k hk => by rw [h _ (by omega)])
theorem sR_C (h : sameC σ τ) : sR τ = sR σ := bset_congr (fun k hk => by rw [h _ (by omega)])
end SC
def dw (v : Int32) : Int32 := ((v * (nI 2969)) + (nI 10651)) - ((v * (nI 2969)) + (nI 10651)) / (nI 65536) * (nI 65536)
def dx (v : Int32) : Int32 := (dw v / (nI 8)) - (dw v / (nI 8)) / (nI 16) * (nI 16)
theorem c_draw (v : Int32) : f_X3_drawSixteenth v = some (dx v, dw v) := rfl
theorem m_draw (v : Int32) : f_X12_draw (nI 16) v = some (dx v, dw v) := by
  unfold f_X12_draw
  show gd_ _ _ = _
  rw [gd_pos (show ¬ nI 16 = 0 by decide)]
  rfl
/-- the warder, page by page: how many went, the draws, the row -/
def wdS (p : Nat) (q : Nat × Int32 × (Nat → Nat)) : Nat × Int32 × (Nat → Nat) :=
  if sShut q.2.2 p = true then q else
    if nI (q.2.2 (61 + p)) ≤ dx q.2.1 then (q.1, dw q.2.1, q.2.2) else (q.1 + sPr q.2.2 p, dw q.2.1, sErase q.2.2 p)
def wdN (q : Nat × Int32 × (Nat → Nat)) : Nat → Nat × Int32 × (Nat → Nat)
  | 0 => q
  | k + 1 => wdS k (wdN q k)
theorem wdN_ok {σ : Nat → Nat} (w : WF σ) (v : Int32) : ∀ k, k ≤ 6 → WF (wdN (0, v, σ) k).2.2 ∧ (∀ i, i < 75 → (wdN (0, v, σ) k).2.2 i = σ i) ∧ (wdN (0, v, σ) k).1 ≤ 60 * k
  | 0, _ => ⟨w, fun _ _ => rfl, Nat.le_refl _⟩
  | k + 1, hk => by
    obtain ⟨a, b, d⟩ := wdN_ok w v k (by omega)
    have hp := a.us (p := k) (by omega)
    have hr := a.ro (p := k) (by omega)
    show WF (wdS k (wdN (0, v, σ) k)).2.2 ∧ (∀ i, i < 75 → (wdS k (wdN (0, v, σ) k)).2.2 i = σ i) ∧ (wdS k (wdN (0, v, σ) k)).1 ≤ 60 * (k + 1)
    unfold wdS
    split
    · exact ⟨a, b, by omega⟩
    · split
      · exact ⟨a, b, by show (wdN (0, v, σ) k).1 ≤ _; omega⟩
      · exact ⟨wf_erase a, fun i hi => by show sErase _ k i = _; rw [sErase_lo hi]; exact b i hi, by show (wdN (0, v, σ) k).1 + sPr _ k ≤ _; omega⟩
theorem wd_C {σ τ : Nat → Nat} (h : ∀ i, i < 75 → τ i = σ i) : sameC σ τ := fun i hi => h i (by omega)
theorem aO_75 {σ τ : Nat → Nat} {b : Nat → Int32} (w : WF σ) (h : ∀ i, i < 75 → τ i = σ i) : aO b τ = aO b σ := by
  have := w.c3
  unfold aO
  rw [h 3 (by omega)]
  exact mkF_congr (fun i hi => h _ (by omega))
theorem c_searches {σ : Nat → Nat} {dt sd us xx : Nat → Int32} {fu : Nat} {f v : Int32} (w : WF σ) (hfu : 100 < fu) : f_X3_searches fu f v (nI (σ 2)) (nI (σ 7)) (aD dt σ) (aX xx σ) (aS sd σ) (aU us σ)
    = some (bI (decide (0 < (wdN (0, v, σ) (σ 2)).1)), f + nI (wdN (0, v, σ) (σ 2)).1, (wdN (0, v, σ) (σ 2)).2.1, aD dt (wdN (0, v, σ) (σ 2)).2.2, aS sd (wdN (0, v, σ) (σ 2)).2.2, aU us (wdN (0, v, σ) (σ 2)).2.2) := by
  have h2 := w.c2
  unfold f_X3_searches
  refine loop_p (fun n j => f_X3_searches_5 fu (nI (σ 2)) (nI (σ 7)) (aX xx σ) n (nI (wdN (0, v, σ) j).1) (nI j) f (wdN (0, v, σ) j).2.1 (aD dt (wdN (0, v, σ) j).2.2) (aS sd (wdN (0, v, σ) j).2.2) (aU us (wdN (0, v, σ) j).2.2)) (σ 2) _ ?_ ?_ (σ 2) 0 fu (by omega) (by omega)
  · intro n j hj
    obtain ⟨a, b, d⟩ := wdN_ok w v j (by omega)
    have hs : sShut (wdN (0, v, σ) j).2.2 j = sShut σ j := by unfold sShut; rw [b 7 (by omega)]
    simp (disch := omega) only [f_X3_searches_5, nI_le', if_neg, c_shut w, bd_s, bI_0, c_draw, gi_n, nI_cl, aX_in, lt_, nI_add, c_erasePage a, wdN]
    unfold wdS
    rw [hs, b (61 + j) (by omega)]
    cases sShut σ j
    · rw [if_pos rfl, if_neg (show ¬ (false = true) by decide)]
      by_cases e : nI (σ (61 + j)) ≤ dx (wdN (0, v, σ) j).2.1
      · rw [if_pos e, if_pos e]
      · rw [if_neg e, if_neg e]
    · rw [if_neg (show ¬ (true = false) by decide), if_pos (show true = true from rfl)]
  · intro n
    obtain ⟨a, b, d⟩ := wdN_ok w v (σ 2) (by omega)
    simp (disch := omega) only [f_X3_searches_5, nI_le', if_pos, lt_, nI_le0]
    by_cases e : (wdN (0, v, σ) (σ 2)).1 = 0
    · rw [if_pos e, decide_eq_false (by omega)]; rfl
    · rw [if_neg e, decide_eq_true (by omega)]; rfl
theorem m_warder {c : Nat → Int32} {σ : Nat → Nat} {fu : Nat} {f v : Int32} (w : WF σ) (hfu : 100 < fu) : f_X12_warder fu v f (mk c σ)
    = some (bI (decide (0 < (wdN (0, v, σ) (σ 2)).1)), (wdN (0, v, σ) (σ 2)).2.1, f + nI (wdN (0, v, σ) (σ 2)).1, mk c (wdN (0, v, σ) (σ 2)).2.2) := by
  have h2 := w.c2
  unfold f_X12_warder
  refine loop_p (fun n j => f_X12_warder_4 fu n (nI (wdN (0, v, σ) j).1) (nI j) (wdN (0, v, σ) j).2.1 f (mk c (wdN (0, v, σ) j).2.2)) (σ 2) _ ?_ ?_ (σ 2) 0 fu (by omega) (by omega)
  · intro n j hj
    obtain ⟨a, b, d⟩ := wdN_ok w v j (by omega)
    have hb2 := b 2 (by omega)
    simp (disch := omega) only [f_X12_warder_4, gi_n, nI_cl, mk_in, hb2, nI_le', if_neg, m_isShut a, bd_s, bI_0, m_draw, lt_, nI_add, m_clears, wdN]
    unfold wdS
    cases sShut (wdN (0, v, σ) j).2.2 j
    · rw [if_pos rfl, if_neg (show ¬ (false = true) by decide)]
      by_cases e : nI ((wdN (0, v, σ) j).2.2 (61 + j)) ≤ dx (wdN (0, v, σ) j).2.1
      · rw [if_pos e, if_pos e]
      · rw [if_neg e, if_neg e]
    · rw [if_neg (show ¬ (true = false) by decide), if_pos (show true = true from rfl)]
  · intro n
    obtain ⟨a, b, d⟩ := wdN_ok w v (σ 2) (by omega)
    have hb2 := b 2 (by omega)
    simp (disch := omega) only [f_X12_warder_4, gi_n, nI_cl, mk_in, hb2, nI_le', if_pos, lt_, nI_le0]
    by_cases e : (wdN (0, v, σ) (σ 2)).1 = 0
    · rw [if_pos e, decide_eq_false (by omega)]; rfl
    · rw [if_neg e, decide_eq_true (by omega)]; rfl
/-- what a test comes to -/
def sTest (σ : Nat → Nat) (T a b : Nat) : Bool := if T = 0 then (σ (33 + a)).testBit b else if T = 1 then decide (sFree σ a = 0) else (sAllK σ).testBit a
theorem dif_pw {a X : Nat} : dif (2 ^ a) X = 0 ↔ X.testBit a = true := by
  rw [dif_0]
  constructor
  · intro h
    exact h a Nat.testBit_two_pow_self
  · intro h i hi
    rw [Nat.testBit_two_pow, decide_eq_true_eq] at hi
    subst hi; exact h
theorem all_see {σ : Nat → Nat} (w : WF σ) {a : Nat} (ha : a < σ 1) : sReach σ (sSee σ) (2 ^ a) = (sAllK σ).testBit a := by
  rw [Bool.eq_iff_iff, ← reach_all w (pw_lt ha), dif_pw]
