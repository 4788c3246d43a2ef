/-! RUB, MOVE, TURNS -/
def sErase (σ : Nat → Nat) (p : Nat) : Nat → Nat := fun i => if 75 + 6 * p ≤ i ∧ i < 81 + 6 * p then 0 else σ i
theorem sErase_lo {σ : Nat → Nat} {p i : Nat} (h : i < 75) : sErase σ p i = σ i := if_neg (by omega)
theorem sErase_D {σ : Nat → Nat} {p q s : Nat} (hs : s < 6) : sD (sErase σ p) q s = if q = p then 0 else sD σ q s := by
  unfold sD sErase
  by_cases e : q = p
  · rw [if_pos e, if_pos (by omega)]
  · rw [if_neg e, if_neg (by omega)]
theorem sErase_Pr {σ : Nat → Nat} {p q : Nat} : sPr (sErase σ p) q = if q = p then 0 else sPr σ q := by
  unfold sPr
  simp (disch := omega) only [sErase_D]
  by_cases e : q = p
  · simp only [if_pos e]
  · simp only [if_neg e]
theorem sErase_B {σ : Nat → Nat} {p : Nat} : sameB σ (sErase σ p) := fun i _ _ _ _ => sErase_lo (by omega)
theorem wf_erase {σ : Nat → Nat} (w : WF σ) {p : Nat} : WF (sErase σ p) := by
  refine w.mk' sErase_B ?_ ?_ ?_ ?_
  · rw [sErase_lo (by omega)]; exact w.c8
  · intro k hk
    rw [sErase_lo (by omega)]; exact ⟨w.kn hk, w.kn0 hk⟩
  · intro q s hq hs
    rw [sErase_D hs]
    split
    · exact ⟨by omega, fun _ => by omega, fun _ => rfl⟩
    · exact ⟨w.dl hq hs, fun h => w.dle hq h, fun h => w.d0 hq hs h⟩
  · intro q hq
    rw [sErase_Pr]
    split
    · omega
    · exact w.us hq
theorem sErase_up {σ : Nat → Nat} {p : Nat} : up (up (up (up (up (up σ (75 + 6 * p + 0) 0) (75 + 6 * p + 1) 0) (75 + 6 * p + 2) 0) (75 + 6 * p + 3) 0) (75 + 6 * p + 4) 0) (75 + 6 * p + 5) 0 = sErase σ p := by
  funext i
  unfold up sErase
  by_cases h : 75 + 6 * p ≤ i ∧ i < 81 + 6 * p
  · rw [if_pos h]
    have : i = 75 + 6 * p + 5 ∨ i = 75 + 6 * p + 4 ∨ i = 75 + 6 * p + 3 ∨ i = 75 + 6 * p + 2 ∨ i = 75 + 6 * p + 1 ∨ i = 75 + 6 * p + 0 := by omega
    split
    · rfl
    · split
      · rfl
      · split
        · rfl
        · split
          · rfl
          · split
            · rfl
            · rw [if_pos (by omega)]
  · rw [if_neg h, if_neg (by omega), if_neg (by omega), if_neg (by omega), if_neg (by omega), if_neg (by omega), if_neg (by omega)]
theorem sErase_0 {σ : Nat → Nat} {p : Nat} (h : sPr σ p = 0) : sErase σ p = σ := by
  funext i
  unfold sErase
  split
  · rename_i hi
    unfold sPr sD at h
    have : i = 75 + 6 * p + 0 ∨ i = 75 + 6 * p + 1 ∨ i = 75 + 6 * p + 2 ∨ i = 75 + 6 * p + 3 ∨ i = 75 + 6 * p + 4 ∨ i = 75 + 6 * p + 5 := by omega
    rcases this with rfl | rfl | rfl | rfl | rfl | rfl <;> omega
  · rfl
theorem m_clears {c : Nat → Int32} {σ : Nat → Nat} {fu p : Nat} (hp : p < 6) (hfu : 100 < fu) : f_X12_clears fu (nI p) (mk c σ) = some (nI (sPr σ p), mk c (sErase σ p)) := by
  unfold f_X12_clears
  rw [m_pricksOn hp hfu, bd_s, ← sErase_up]
  obtain ⟨n, e⟩ : ∃ n, fu = n + 7 := ⟨fu - 7, by omega⟩
  rw [show f_X12_clears_8 fu fu = f_X12_clears_8 fu (n + 7) from by rw [← e]]
  simp (disch := omega) only [f_X12_clears_8, nI_le', if_neg, if_pos, pk_mul, nI_add, gi_n, nI_cl, lt_, mk_up]
theorem aD_step {b : Nat → Int32} {σ : Nat → Nat} {p s v : Nat} (hp : p < 6) (hs : s < 6) : upd (aD b σ) (p * 6 + s) (nI v) = aD b (up σ (75 + 6 * p + s) v) := by
  unfold aD
  rw [mkF_up (by omega)]
  refine mkF_congr (fun i hi => ?_)
  unfold up
  by_cases e : i = p * 6 + s
  · rw [if_pos e, if_pos (by omega)]
  · rw [if_neg e, if_neg (by omega)]
theorem c_erasePage {σ : Nat → Nat} {dt sd us : Nat → Int32} {fu p : Nat} (w : WF σ) (hp : p < 6) (hfu : 100 < fu) : f_X7_erasePage fu (nI p) (aD dt σ) (aS sd σ) (aU us σ) = some (nI (sPr σ p), aD dt (sErase σ p), aS sd (sErase σ p), aU us (sErase σ p)) := by
  have h1 := w.c1
  unfold f_X7_erasePage
  simp (disch := omega) only [gi_n, nI_cl, aU_in, lt_]
  obtain ⟨n, e⟩ : ∃ n, fu = n + 7 := ⟨fu - 7, by omega⟩
  rw [show f_X7_erasePage_9 fu fu = f_X7_erasePage_9 fu (n + 7) from by rw [← e]]
  simp (disch := omega) only [f_X7_erasePage_9, nI_le', if_neg, if_pos, pk_mul, nI_add, gi_n, nI_cl, lt_, aD_step hp]
  rw [sErase_up]
  congr 4
  · unfold aS
    rw [mkF_up hp]
    refine mkF_congr (fun q hq => ?_)
    by_cases e : q = p
    · subst e
      rw [up_s]
      apply Nat.eq_of_testBit_eq
      intro i
      rw [Nat.zero_testBit, b_stg]
      by_cases hi : i < σ 1
      · have := w.le1 (s := i) (by omega) hi
        have e2 : sSt (sErase σ q) q i = false := by
          unfold sSt
          rw [sErase_D (by omega), if_pos rfl, sErase_lo (by omega), decide_eq_false_iff_not]
          omega
        rw [e2, Bool.and_false]
      · rw [sErase_lo (by omega), decide_eq_false hi]; rfl
    · rw [up_n _ _ e]
      refine (sStg_same (sErase_lo (by omega)) (fun t ht => ?_)).symm
      unfold sSt
      rw [sErase_D (by omega), if_neg e, sErase_lo (by omega)]
  · unfold aU
    rw [mkF_up hp]
    refine mkF_congr (fun q hq => ?_)
    rw [sErase_Pr]
    rfl
theorem wf_ord {σ σ' : Nat → Nat} (w : WF σ) (h : ∀ i, ¬ (67 ≤ i ∧ i < 67 + σ 3) → σ' i = σ i) (h1 : ∀ i, i < σ 3 → σ' (67 + i) < σ 0) (h2 : ∀ i j, i < σ 3 → j < σ 3 → σ' (67 + i) = σ' (67 + j) → i = j) : WF σ' := by
  have h3 := w.c3
  obtain ⟨⟨a0, a1, a2, a3, a4, a5, a6⟩, b, c, d, e, f, g, k, l⟩ := w
  have hD : ∀ p s, sD σ' p s = sD σ p s := fun p s => h _ (by omega)
  have hP : ∀ p, sPr σ' p = sPr σ p := fun p => by unfold sPr; simp only [hD]
  refine ⟨⟨?_, ?_, ?_, ?_, ?_, ?_, ?_⟩, fun k hk => ?_, fun k hk h0 => ?_, fun s hs => ?_, fun p hp => ?_, fun j hj => ?_, fun j j2 hj hj2 he => ?_, fun p s hp hs => ?_, fun p hp => ?_⟩
  · rw [h _ (by omega)]; exact a0
  · rw [h _ (by omega)]; exact a1
  · rw [h _ (by omega)]; exact a2
  · rw [h _ (by omega)]; exact a3
  · rw [h _ (by omega)]; exact a4
  · rw [h _ (by omega)]; exact a5
  · rw [h _ (by omega), h _ (by omega)]; exact a6
  · rw [h _ (by omega), h _ (by omega), h _ (by omega), h _ (by omega)]; exact b k hk
  · rw [h _ (by omega)] at h0
    rw [h _ (by omega)]; exact c k hk h0
  · rw [h _ (by omega), h _ (by omega)]; exact d s hs
  · rw [h _ (by omega), h _ (by omega)]; exact e p hp
  · rw [h _ (by omega)] at hj
    rw [h 0 (by omega)]; exact h1 j hj
  · rw [h _ (by omega)] at hj hj2
    exact h2 j j2 hj hj2 he
  · rw [hD, h _ (by omega), h _ (by omega), h _ (by omega)]; exact k p s hp hs
  · rw [hP, h _ (by omega)]; exact l p hp
/-- two CELLS change their places -/
def sSwap (σ : Nat → Nat) (a b i j : Nat) : Nat → Nat := up (up σ (67 + i) b) (67 + j) a
theorem wf_swap {σ : Nat → Nat} (w : WF σ) {a b i j : Nat} (hi : sPlace σ a = some i) (hj : sPlace σ b = some j) : WF (sSwap σ a b i j) := by
  obtain ⟨hi1, hi2⟩ := sPlace_some hi
  obtain ⟨hj1, hj2⟩ := sPlace_some hj
  have v : ∀ q, q < σ 3 → sSwap σ a b i j (67 + q) = if q = j then a else if q = i then b else σ (67 + q) := by
    intro q hq
    unfold sSwap up
    by_cases e1 : q = j
    · rw [if_pos e1, if_pos (by omega)]
    · rw [if_neg e1, if_neg (by omega)]
      by_cases e2 : q = i
      · rw [if_pos e2, if_pos (by omega)]
      · rw [if_neg e2, if_neg (by omega)]
  refine wf_ord w (fun q hq => ?_) (fun q hq => ?_) (fun q r hq hr e => ?_)
  · unfold sSwap
    rw [up_n _ _ (by omega), up_n _ _ (by omega)]
  · rw [v q hq]
    have h1 := w.or hi1
    have h2 := w.or hj1
    have h3 := w.or hq
    rw [hi2] at h1
    rw [hj2] at h2
    split
    · exact h1
    · split
      · exact h2
      · exact h3
  · rw [v q hq, v r hr] at e
    have key : ∀ x y, x < σ 3 → y < σ 3 → σ (67 + x) = σ (67 + y) → x = y := fun x y hx hy h => w.inj hx hy h
    have ij : a = b → i = j := fun h => key i j hi1 hj1 (by rw [hi2, hj2, h])
    have nq : ∀ z, z < σ 3 → σ (67 + z) = a → z = i := fun z hz h => key z i hz hi1 (by rw [h, hi2])
    have nr : ∀ z, z < σ 3 → σ (67 + z) = b → z = j := fun z hz h => key z j hz hj1 (by rw [h, hj2])
    by_cases q1 : q = j
    · rw [if_pos q1] at e
      by_cases r1 : r = j
      · omega
      · rw [if_neg r1] at e
        by_cases r2 : r = i
        · rw [if_pos r2] at e; have := ij e; omega
        · rw [if_neg r2] at e; exact absurd (nq r hr e.symm) r2
    · rw [if_neg q1] at e
      by_cases q2 : q = i
      · rw [if_pos q2] at e
        by_cases r1 : r = j
        · rw [if_pos r1] at e; have := ij e.symm; omega
        · rw [if_neg r1] at e
          by_cases r2 : r = i
          · omega
          · rw [if_neg r2] at e; exact absurd (nr r hr e.symm) r1
      · rw [if_neg q2] at e
        by_cases r1 : r = j
        · rw [if_pos r1] at e; exact absurd (nq q hq e) q2
        · rw [if_neg r1] at e
          by_cases r2 : r = i
          · rw [if_pos r2] at e; exact absurd (nr q hq e) q1
          · rw [if_neg r2] at e; exact key q r hq hr e
/-- what a MOVE comes to: whether it can be, and the row then -/
def sMove (σ : Nat → Nat) (a b : Nat) : Bool × (Nat → Nat) :=
  match sPlace σ a, sPlace σ b with
  | some i, some j => if a = b then (false, σ) else (true, sSwap σ a b i j)
  | _, _ => (false, σ)
theorem wf_move {σ : Nat → Nat} (w : WF σ) {a b : Nat} : WF (sMove σ a b).2 ∧ (∀ i, ¬ (67 ≤ i ∧ i < 67 + σ 3) → (sMove σ a b).2 i = σ i) := by
  unfold sMove
  cases hi : sPlace σ a with
  | none => exact ⟨w, fun _ _ => rfl⟩
  | some i =>
    cases hj : sPlace σ b with
    | none => exact ⟨w, fun _ _ => rfl⟩
    | some j =>
      obtain ⟨hi1, hi2⟩ := sPlace_some hi
      obtain ⟨hj1, hj2⟩ := sPlace_some hj
      simp only
      split
      · exact ⟨w, fun _ _ => rfl⟩
      · exact ⟨wf_swap w hi hj, fun q hq => by show sSwap σ a b i j q = σ q; unfold sSwap; rw [up_n _ _ (by omega), up_n _ _ (by omega)]⟩
theorem m_moves {c : Nat → Int32} {σ : Nat → Nat} {fu a b : Nat} (w : WF σ) (ha : a < 8) (hb : b < 8) (hfu : 100 < fu) : f_X12_moves fu (nI a) (nI b) (mk c σ) = some (bI (sMove σ a b).1, mk c (sMove σ a b).2) := by
  have h3 := w.c3
  unfold f_X12_moves sMove
  simp (disch := omega) only [m_placeOf w, bd_s]
  cases hi : sPlace σ a with
  | none => simp only [oI_nlt0, if_true]; rfl
  | some i =>
    obtain ⟨hi1, hi2⟩ := sPlace_some hi
    cases hj : sPlace σ b with
    | none => simp (disch := omega) only [oI_s, nI_lt0, if_false, oI_nlt0, if_true]; rfl
    | some j =>
      obtain ⟨hj1, hj2⟩ := sPlace_some hj
      simp (disch := omega) only [oI_s, nI_lt0, if_false, nI_eq']
      by_cases e : a = b
      · rw [if_pos e, if_pos e]; rfl
      · rw [if_neg e, if_neg e]
        simp (disch := omega) only [gi_n, nI_cl, nI_add, mk_up]
        rfl
theorem c_swapPlaces {σ : Nat → Nat} {od : Nat → Int32} {fu a b : Nat} (w : WF σ) (ha : a < 8) (hb : b < 8) (hfu : 100 < fu) : f_X7_swapPlaces fu (nI a) (nI b) (nI (σ 3)) (aO od σ) = some (bI (sMove σ a b).1, aO od (sMove σ a b).2) := by
  have h3 := w.c3
  unfold f_X7_swapPlaces sMove
  simp (disch := omega) only [c_placeOf w, bd_s]
  cases hi : sPlace σ a with
  | none =>
    cases hj : sPlace σ b with
    | none => rw [if_pos rfl]; rfl
    | some j =>
      obtain ⟨hj1, hj2⟩ := sPlace_some hj
      rw [if_neg (by rw [oI_n, oI_s, m1_ne_nI (by omega)]; exact id), if_pos (show oI none = (-1 : Int32) from rfl)]; rfl
  | some i =>
    obtain ⟨hi1, hi2⟩ := sPlace_some hi
    cases hj : sPlace σ b with
    | none =>
      rw [if_neg (by rw [oI_n, oI_s, nI_ne_m1 (by omega)]; exact id), if_neg (by rw [oI_s, nI_ne_m1 (by omega)]; exact id), if_pos (show oI none = (-1 : Int32) from rfl)]; rfl
    | some j =>
      obtain ⟨hj1, hj2⟩ := sPlace_some hj
      simp (disch := omega) only [oI_s, nI_eq', nI_ne_m1, if_false]
      by_cases e : a = b
      · have : i = j := w.inj hi1 hj1 (by rw [hi2, hj2, e])
        rw [if_pos this, if_pos e]; rfl
      · have : ¬ i = j := fun q => e (by rw [← hi2, ← hj2, q])
        rw [if_neg this, if_neg e]
        simp (disch := omega) only [gi_n, nI_cl]
        congr 2
        unfold aO
        rw [mkF_up (by omega), mkF_up (by omega)]
        have e3 : sSwap σ a b i j 3 = σ 3 := by unfold sSwap; rw [up_n _ _ (by omega), up_n _ _ (by omega)]
        rw [e3]
        refine mkF_congr (fun q hq => ?_)
        unfold sSwap up
        by_cases q1 : q = j
        · rw [if_pos q1, if_pos (show 67 + q = 67 + j by omega)]
        · rw [if_neg q1, if_neg (show ¬ 67 + q = 67 + j by omega)]
          by_cases q2 : q = i
          · rw [if_pos q2, if_pos (show 67 + q = 67 + i by omega)]
          · rw [if_neg q2, if_neg (show ¬ 67 + q = 67 + i by omega)]
section DO2
variable {c : Nat → Int32} {σ : Nat → Nat} {x1 x2 st st2 th : Int32} {fu : Nat} {dt kn md od xx sd us lt rm sp : Nat → Int32}
theorem r_rub (w : WF σ) (hfu : 100 < fu) : ∃ r s σ', f_X11_rub fu x1 st (nI (σ 2)) (aD dt σ) (aS sd σ) (aU us σ) = some (r, s, aD dt σ', aS sd σ', aU us σ') ∧ f_X12_rub fu x1 st2 th (mk c σ) = some (r, s, nI 0, mk c σ') ∧ WF σ' ∧ (∀ i, i < 75 → σ' i = σ i) := by
  have h2 := w.c2
  unfold f_X11_rub f_X12_rub
  simp (disch := omega) only [c_hasPage, m_isPageAt w, bd_s, bI_0, ref11, ref12]
  cases h : inR x1 0 (σ 2)
  · exact ⟨_, _, σ, rfl, rfl, w, fun _ _ => rfl⟩
  · obtain ⟨p, hp, rfl⟩ := inR_of h
    have hr := w.ro (p := p) (by omega)
    have hu := w.us (p := p) (by omega)
    rw [if_neg (show ¬ (true = false) by decide), if_neg (show ¬ (true = false) by decide)]
    simp (disch := omega) only [c_erasePage w, m_pricksOn, m_clears, bd_s, nI_eq0, ans11]
    by_cases e : sPr σ p = 0
    · rw [if_pos e, if_pos e, sErase_0 e]
      exact ⟨_, _, σ, rfl, rfl, w, fun _ _ => rfl⟩
    · rw [if_neg e, if_neg e]
      exact ⟨_, _, sErase σ p, rfl, rfl, wf_erase w, fun i hi => sErase_lo hi⟩
theorem r_move (w : WF σ) (hfu : 100 < fu) : ∃ r s σ', f_X11_move fu x1 x2 st (nI (σ 0)) (nI (σ 3)) (aO od σ) = some (r, s, aO od σ') ∧ f_X12_move fu x1 x2 st2 th (mk c σ) = some (r, s, nI 0, mk c σ') ∧ WF σ' ∧ (∀ i, ¬ (67 ≤ i ∧ i < 67 + σ 3) → σ' i = σ i) := by
  have h0 := w.c0
  unfold f_X11_move f_X12_move
  simp (disch := omega) only [c_hasCell, m_isCellAt w, bd_s, bI_0, den11, no12, gd_0]
  cases h : inR x1 0 (σ 0)
  · exact ⟨_, _, σ, rfl, rfl, w, fun _ _ => rfl⟩
  · obtain ⟨a, ha, rfl⟩ := inR_of h
    rw [if_neg (show ¬ (true = false) by decide), if_neg (show ¬ (true = false) by decide)]
    cases h : inR x2 0 (σ 0)
    · exact ⟨_, _, σ, rfl, rfl, w, fun _ _ => rfl⟩
    · obtain ⟨b, hb, rfl⟩ := inR_of h
      rw [if_neg (show ¬ (true = false) by decide), if_neg (show ¬ (true = false) by decide)]
      obtain ⟨w', hs⟩ := wf_move w (a := a) (b := b)
      simp (disch := omega) only [c_swapPlaces w, m_moves w, bd_s, bI_0, agr11, gd_1]
      cases hm : (sMove σ a b).1
      · exact ⟨_, _, (sMove σ a b).2, rfl, rfl, w', hs⟩
      · exact ⟨_, _, (sMove σ a b).2, rfl, rfl, w', hs⟩
theorem m_turns {a b : Int32} (w : WF σ) {m : Nat} (hm : m < 100000) (hfu : 100 + m < fu) : f_X12_turn_51 fu fu (nI m) (nI 0) a b (mk c σ) = some (nI (sIt m σ 4), a, b, mk c (sIt m σ)) := by
  refine loop_p (fun n j => f_X12_turn_51 fu n (nI m) (nI j) a b (mk c (sIt j σ))) m _ ?_ ?_ m 0 fu (by omega) (by omega)
  · intro n j hj
    simp (disch := omega) only [f_X12_turn_51, nI_le', if_neg, m_goesTurn (sIt_ok w j).1, bd_s, lt_, nI_add, sIt_s]
  · intro n
    simp (disch := omega) only [f_X12_turn_51, nI_le', if_pos, gi_n, nI_cl, mk_in]
theorem r_turn (w : WF σ) (h4 : σ 4 ≤ 9999) (hfu : 1000 < fu) : ∃ r s σ', f_X11_turn fu x1 st (nI (σ 1)) (nI (σ 2)) (nI (sB σ)) (nI (sR σ)) (aL lt σ) (nI (σ 3)) (nI (σ 8)) (nI (σ 6)) (nI (σ 7)) (nI (σ 4)) (nI (σ 5)) (aD dt σ) (aK kn σ) (aM md σ) (aO od σ) (aS sd σ) (aU us σ) (aR rm σ) (aP sp σ)
      = some (r, s, nI (σ' 8), nI (σ' 4), nI (σ' 5), aD dt σ', aK kn σ', aM md σ', aS sd σ', aU us σ') ∧ f_X12_turn fu x1 st2 th (mk c σ) = some (r, s, nI 0, mk c σ') ∧ WF σ' ∧ sameB σ σ' ∧ σ' 4 ≤ 9999 := by
  unfold f_X11_turn f_X12_turn
  simp (disch := omega) only [m_in, bd_s, bI_0, ref11, ref12, x_lt, x_le]
  cases h : inR x1 (1 : Nat) ((99 : Nat) + 1)
  · have h3 := inR_f h
    by_cases a : x1.toInt < (1 : Nat)
    · rw [if_pos a]; exact ⟨_, _, σ, rfl, rfl, w, sameB.rf, h4⟩
    · rw [if_neg a, if_neg (by omega)]; exact ⟨_, _, σ, rfl, rfl, w, sameB.rf, h4⟩
  · obtain ⟨a, b⟩ := inR_t h
    obtain ⟨m, h5, rfl, h6⟩ := nI_of0 (x := x1) (by omega)
    rw [if_neg (by omega), if_pos (by omega), if_neg (show ¬ (true = false) by decide)]
    simp (disch := omega) only [gi_n, nI_cl, mk_in, nI_add, nI_le']
    simp only [nI_toInt (show σ 4 + m < 2 ^ 31 by omega)]
    by_cases e : ((σ 4 + m : Nat) : Int) ≤ ((9999 : Nat) : Int)
    · rw [if_pos e, if_pos e]
      have hP := c_passMany (dt := dt) (kn := kn) (md := md) (sd := sd) (us := us) (lt := lt) (rm := rm) (sp := sp) (od := od) (fu := fu) w (m := m) (by omega) (by omega)
      obtain ⟨w', hB, h7⟩ := sIt_ok w m
      rw [hP, bd_s, m_turns w (by omega) (by omega)]
      simp only [ans11, bd_s]
      exact ⟨_, _, sIt m σ, rfl, rfl, w', hB, by omega⟩
    · rw [if_neg e, if_neg e]
      exact ⟨_, _, σ, rfl, rfl, w, sameB.rf, h4⟩
end DO2
