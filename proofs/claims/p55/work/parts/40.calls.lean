/-! calls that look at a BOOK -/
theorem lgc_lt (x y : Int32) : (lg_cmp x.toInt64 y.toInt64 < 0) = (x.toInt < y.toInt) := by
  unfold lg_cmp
  have h1 : x.toInt64 > y.toInt64 ↔ y.toInt < x.toInt := by
    show y.toInt64 < x.toInt64 ↔ _
    rw [Int64.lt_iff_toInt_lt, Int32.toInt_toInt64, Int32.toInt_toInt64]
  have h2 : x.toInt64 = y.toInt64 ↔ x.toInt = y.toInt := by
    rw [← Int64.toInt_inj, Int32.toInt_toInt64, Int32.toInt_toInt64]
  by_cases a : y.toInt < x.toInt
  · rw [if_pos (h1.mpr a)]; exact propext ⟨fun h => absurd h (by decide), fun h => by omega⟩
  · rw [if_neg (fun h => a (h1.mp h))]
    by_cases b : x.toInt = y.toInt
    · rw [if_pos (h2.mpr b)]; exact propext ⟨fun h => absurd h (by decide), fun h => by omega⟩
    · rw [if_neg (fun h => b (h2.mp h))]; exact propext ⟨fun _ => by omega, fun _ => by decide⟩
theorem lgc_gt (x y : Int32) : (0 < lg_cmp x.toInt64 y.toInt64) = (y.toInt < x.toInt) := by
  unfold lg_cmp
  have h1 : x.toInt64 > y.toInt64 ↔ y.toInt < x.toInt := by
    show y.toInt64 < x.toInt64 ↔ _
    rw [Int64.lt_iff_toInt_lt, Int32.toInt_toInt64, Int32.toInt_toInt64]
  have h2 : x.toInt64 = y.toInt64 ↔ x.toInt = y.toInt := by
    rw [← Int64.toInt_inj, Int32.toInt_toInt64, Int32.toInt_toInt64]
  by_cases a : y.toInt < x.toInt
  · rw [if_pos (h1.mpr a)]; exact propext ⟨fun _ => a, fun _ => by decide⟩
  · rw [if_neg (fun h => a (h1.mp h))]
    by_cases b : x.toInt = y.toInt
    · rw [if_pos (h2.mpr b)]; exact propext ⟨fun h => absurd h (by decide), fun h => by omega⟩
    · rw [if_neg (fun h => b (h2.mp h))]; exact propext ⟨fun h => absurd h (by decide), fun h => by omega⟩
theorem m_isIn (x lo hi : Int32) : f_X12_isIn x.toInt64 lo.toInt64 hi.toInt64 = some (bI (decide (lo.toInt ≤ x.toInt ∧ x.toInt ≤ hi.toInt))) := by
  unfold f_X12_isIn
  simp only [lgc_lt, lgc_gt]
  by_cases a : x.toInt < lo.toInt
  · rw [if_pos a, decide_eq_false (by omega)]; rfl
  · rw [if_neg a]
    by_cases b : hi.toInt < x.toInt
    · rw [if_pos b, decide_eq_false (by omega)]; rfl
    · rw [if_neg b, decide_eq_true (by omega)]; rfl
/-- a number of the script within bounds -/
def inR (x : Int32) (a b : Int) : Bool := decide (a ≤ x.toInt ∧ x.toInt < b)
theorem m_in {x : Int32} {a b : Nat} (ha : a < 2147483648) (hb : b < 2147483648) : f_X12_isIn x.toInt64 (lN a) (lN b) = some (bI (inR x a (b + 1))) := by
  rw [← nI_l ha, ← nI_l hb, m_isIn, nI_toInt ha, nI_toInt hb]
  congr 2
  unfold inR
  rw [decide_eq_decide]
  omega
theorem m_inN {x : Int32} {n : Nat} (hn : n < 1073741824) : f_X12_isIn x.toInt64 (lN 0) (nI n - nI 1).toInt64 = some (bI (inR x 0 n)) := by
  rw [← nI_l (show 0 < 2 ^ 31 by decide), m_isIn, pk_sub_toInt hn (by decide), nI_toInt (by decide)]
  congr 2
  unfold inR
  rw [decide_eq_decide]
  omega
theorem inR_t {x : Int32} {a b : Int} (h : inR x a b = true) : a ≤ x.toInt ∧ x.toInt < b := of_decide_eq_true h
theorem inR_f {x : Int32} {a b : Int} (h : inR x a b = false) : ¬ (a ≤ x.toInt ∧ x.toInt < b) := of_decide_eq_false h
theorem nI_of0 {x : Int32} (h : 0 ≤ x.toInt) : ∃ j : Nat, j < 2147483648 ∧ x = nI j ∧ x.toInt = j := by
  obtain ⟨j, h1, h2⟩ := nI_of (x := x) (by rw [Int32.lt_iff_toInt_lt, show (0 : Int32).toInt = 0 from by decide]; omega)
  exact ⟨j, h1, h2, by rw [h2, nI_toInt h1]⟩
theorem inR_of {x : Int32} {n : Nat} (h : inR x 0 n = true) : ∃ j : Nat, j < n ∧ x = nI j := by
  obtain ⟨h1, h2⟩ := inR_t h
  obtain ⟨j, a, b, c⟩ := nI_of0 h1
  exact ⟨j, by omega, b⟩
theorem x_lt0 (x : Int32) : (x < 0) = (x.toInt < 0) := propext (by rw [Int32.lt_iff_toInt_lt, show (0 : Int32).toInt = 0 from by decide])
theorem x_0le (x : Int32) : (0 ≤ x) = (0 ≤ x.toInt) := propext (by rw [Int32.le_iff_toInt_le, show (0 : Int32).toInt = 0 from by decide])
theorem x_lt {x : Int32} {a : Nat} (ha : a < 2147483648) : (x < nI a) = (x.toInt < a) := propext (by rw [Int32.lt_iff_toInt_lt, nI_toInt ha])
theorem x_gt {x : Int32} {a : Nat} (ha : a < 2147483648) : (nI a < x) = ((a : Int) < x.toInt) := propext (by rw [Int32.lt_iff_toInt_lt, nI_toInt ha])
theorem x_le {x : Int32} {a : Nat} (ha : a < 2147483648) : (x ≤ nI a) = (x.toInt ≤ a) := propext (by rw [Int32.le_iff_toInt_le, nI_toInt ha])
theorem x_ge {x : Int32} {a : Nat} (ha : a < 2147483648) : (nI a ≤ x) = ((a : Int) ≤ x.toInt) := propext (by rw [Int32.le_iff_toInt_le, nI_toInt ha])
theorem x_eq {x : Int32} {a : Nat} (ha : a < 2147483648) : (x = nI a) = (x.toInt = a) := propext (by rw [← Int32.toInt_inj, nI_toInt ha])
theorem c_hasCell {x : Int32} {n : Nat} (hn : n < 2147483648) : f_X1_hasCell x (nI n) = some (bI (inR x 0 n)) := by
  unfold f_X1_hasCell inR
  simp only [x_lt0, x_ge hn]
  by_cases a : x.toInt < 0
  · rw [if_pos a, decide_eq_false (by omega)]; rfl
  · rw [if_neg a]
    by_cases b : (n : Int) ≤ x.toInt
    · rw [if_pos b, decide_eq_false (by omega)]; rfl
    · rw [if_neg b, decide_eq_true (by omega)]; rfl
theorem c_hasSecret {x : Int32} {n : Nat} (hn : n < 2147483648) : f_X1_hasSecret x (nI n) = some (bI (inR x 0 n)) := c_hasCell hn
theorem c_hasPage {x : Int32} {n : Nat} (hn : n < 2147483648) : f_X1_hasPage x (nI n) = some (bI (inR x 0 n)) := c_hasCell hn
section IA
variable {c : Nat → Int32} {σ : Nat → Nat} {x : Int32}
theorem m_isCellAt (w : WF σ) : f_X12_isCellAt x (mk c σ) = some (bI (inR x 0 (σ 0))) := by
  have := w.c0
  unfold f_X12_isCellAt
  simp (disch := omega) only [gi_n, nI_cl, mk_in, m_inN, bd_s, gd_bI]
theorem m_isSecretAt (w : WF σ) : f_X12_isSecretAt x (mk c σ) = some (bI (inR x 0 (σ 1))) := by
  have := w.c1
  unfold f_X12_isSecretAt
  simp (disch := omega) only [gi_n, nI_cl, mk_in, m_inN, bd_s, gd_bI]
theorem m_isPageAt (w : WF σ) : f_X12_isPageAt x (mk c σ) = some (bI (inR x 0 (σ 2))) := by
  have := w.c2
  unfold f_X12_isPageAt
  simp (disch := omega) only [gi_n, nI_cl, mk_in, m_inN, bd_s, gd_bI]
end IA
theorem ref11 (a st : Int32) : f_X11_refuse a st = some ((-1 : Int32), a) := rfl
theorem ref12 (a st : Int32) : f_X12_refuse a st = some ((-1 : Int32), a) := rfl
theorem ans11 (a st : Int32) : f_X11_answer a st = some (a, nI 0) := rfl
theorem den11 (a st : Int32) : f_X11_deny a st = some (nI 0, a) := rfl
theorem no12 (a st : Int32) : f_X12_no a st = some (nI 0, a) := rfl
theorem agr11 (st : Int32) : f_X11_agree st = some (nI 1, nI 0) := rfl
theorem gd_0 {α : Type} (x : Option α) : gd_ (nI 0 = 0 ∨ nI 0 = 1) x = x := gd_pos (Or.inl rfl)
theorem gd_1 {α : Type} (x : Option α) : gd_ (nI 1 = 0 ∨ nI 1 = 1) x = x := gd_pos (Or.inr rfl)
theorem ansAny (o : Option Nat) (st : Int32) (h : ∀ j, o = some j → j < 2147483648) : f_X11_answerIfAny (oI o) st = some (oI o, nI (if o = none then 8 else 0)) := by
  cases o with
  | none => rfl
  | some j =>
    have hj := h j rfl
    unfold f_X11_answerIfAny
    simp (disch := omega) only [oI_s, nI_ne_m1, if_false, ans11, bd_s]
    rfl
/-! what a place of the ORDER is -/
def sPlaceN (σ : Nat → Nat) (k : Nat) : Nat → Nat → Option Nat
  | 0, _ => none
  | n + 1, j => if σ (67 + j) = k then some j else sPlaceN σ k n (j + 1)
def sPlace (σ : Nat → Nat) (k : Nat) : Option Nat := sPlaceN σ k (σ 3) 0
theorem sPlaceN_some {σ : Nat → Nat} {k : Nat} : ∀ {n j r : Nat}, sPlaceN σ k n j = some r → j ≤ r ∧ r < j + n ∧ σ (67 + r) = k
  | 0, _, _, h => by cases h
  | n + 1, j, r, h => by
    unfold sPlaceN at h
    split at h
    · cases h; exact ⟨Nat.le_refl _, by omega, by assumption⟩
    · obtain ⟨a, b, c⟩ := sPlaceN_some h
      exact ⟨by omega, by omega, c⟩
theorem sPlace_some {σ : Nat → Nat} {k r : Nat} (h : sPlace σ k = some r) : r < σ 3 ∧ σ (67 + r) = k := by
  obtain ⟨-, b, c⟩ := sPlaceN_some h
  exact ⟨by omega, c⟩
theorem m_placeOf {c : Nat → Int32} {σ : Nat → Nat} {fu k : Nat} (w : WF σ) (hk : k < 8) (hfu : 100 < fu) : f_X12_placeOf fu (nI k) (mk c σ) = some (oI (sPlace σ k)) := by
  have h3 := w.c3
  unfold f_X12_placeOf sPlace
  refine loop_q (fun n j => f_X12_placeOf_2 fu (mk c σ) n (nI k) (nI j)) (σ 3) (fun n j => some (oI (sPlaceN σ k n j))) ?_ ?_ (σ 3) 0 fu (by omega) (by omega)
  · intro n q j hj ih
    have ho := w.or' (i := j) (by omega)
    simp (disch := omega) only [f_X12_placeOf_2, gi_n, nI_cl, mk_in, nI_le', if_neg, nI_add, nI_eq', lt_, sPlaceN]
    by_cases e : σ (67 + j) = k
    · rw [if_pos e, if_pos e]; rfl
    · rw [if_neg e, if_neg e]; exact ih
  · intro n
    simp (disch := omega) only [f_X12_placeOf_2, gi_n, nI_cl, mk_in, nI_le', if_pos]
    rfl
theorem c_placeOf {σ : Nat → Nat} {od : Nat → Int32} {fu k : Nat} (w : WF σ) (hk : k < 8) (hfu : 100 < fu) : f_X7_placeOf fu (nI k) (nI (σ 3)) (aO od σ) = some (oI (sPlace σ k)) := by
  have h3 := w.c3
  unfold f_X7_placeOf sPlace
  refine loop_q (fun n j => f_X7_placeOf_2 fu (nI (σ 3)) (aO od σ) n (nI k) (nI j)) (σ 3) (fun n j => some (oI (sPlaceN σ k n j))) ?_ ?_ (σ 3) 0 fu (by omega) (by omega)
  · intro n q j hj ih
    have ho := w.or' (i := j) (by omega)
    simp (disch := omega) only [f_X7_placeOf_2, gi_n, nI_cl, aO_in, nI_le', if_neg, nI_add, nI_eq', lt_, sPlaceN]
    by_cases e : σ (67 + j) = k
    · rw [if_pos e, if_pos e]; rfl
    · rw [if_neg e, if_neg e]; exact ih
  · intro n
    simp (disch := omega) only [f_X7_placeOf_2, nI_le', if_pos]
    rfl
section GET
variable {c : Nat → Int32} {σ : Nat → Nat} {x1 x2 st st2 th : Int32} {fu : Nat} {dt kn md od xx sd us lt rm sp : Nat → Int32}
theorem r_secret (w : WF σ) : ∃ r s, f_X11_secret x1 st (nI (σ 1)) (aL lt σ) = some (r, s) ∧ f_X12_secret x1 st2 th (mk c σ) = some (r, s, nI 0) := by
  have h1 := w.c1
  unfold f_X11_secret f_X12_secret
  simp (disch := omega) only [c_hasSecret, m_isSecretAt w, bd_s, bI_0, ref11, ref12]
  cases h : inR x1 0 (σ 1)
  · exact ⟨_, _, rfl, rfl⟩
  · obtain ⟨j, hj, rfl⟩ := inR_of h
    simp (disch := omega) only [if_false, Bool.true_eq_false, gi_n, nI_cl, nI_add, aL_in, mk_in, ans11, bd_s]
    exact ⟨_, _, rfl, rfl⟩
theorem r_pricks (w : WF σ) : ∃ r s, f_X11_pricks x1 x2 st (nI (σ 1)) (nI (σ 2)) (aD dt σ) = some (r, s) ∧ f_X12_pricks x1 x2 st2 th (mk c σ) = some (r, s, nI 0) := by
  have h1 := w.c1
  have h2 := w.c2
  unfold f_X11_pricks f_X12_pricks
  simp (disch := omega) only [c_hasSecret, m_isSecretAt w, c_hasPage, m_isPageAt w, bd_s, bI_0, ref11, ref12]
  cases h : inR x1 0 (σ 2)
  · exact ⟨_, _, rfl, rfl⟩
  · obtain ⟨p, hp, rfl⟩ := inR_of h
    simp only [if_false, Bool.true_eq_false]
    cases h : inR x2 0 (σ 1)
    · exact ⟨_, _, rfl, rfl⟩
    · obtain ⟨j, hj, rfl⟩ := inR_of h
      have ix : 75 + (p * 6 + j) = 75 + 6 * p + j := by omega
      simp (disch := omega) only [if_false, Bool.true_eq_false, gi_n, nI_cl, nI_add, pk_mul, aD_in, mk_in, ans11, bd_s, ix]
      exact ⟨_, _, rfl, rfl⟩
theorem r_orderAt (w : WF σ) : ∃ r s, f_X11_orderAt x1 st (nI (σ 3)) (aO od σ) = some (r, s) ∧ f_X12_orderAt x1 st2 th (mk c σ) = some (r, s, nI 0) := by
  have h1 := w.c3
  unfold f_X11_orderAt f_X12_orderAt
  simp (disch := omega) only [gi_n, nI_cl, mk_in, m_inN, bd_s, bI_0, ref11, ref12, x_lt0, x_lt]
  cases h : inR x1 0 (σ 3)
  · have h2 := inR_f h
    by_cases a : x1.toInt < 0
    · rw [if_pos a]; exact ⟨_, _, rfl, rfl⟩
    · rw [if_neg a, if_neg (by omega)]; exact ⟨_, _, rfl, rfl⟩
  · have h2 := inR_t h
    obtain ⟨j, hj, rfl⟩ := inR_of h
    rw [if_neg (by omega), if_pos (by omega)]
    simp (disch := omega) only [if_false, Bool.true_eq_false, gi_n, nI_cl, nI_add, aO_in, mk_in, ans11, bd_s]
    exact ⟨_, _, rfl, rfl⟩
theorem r_next (w : WF σ) (hfu : 100 < fu) : ∃ r s, f_X11_next fu st (nI (σ 3)) (nI (σ 8)) (nI (σ 6)) (aO od σ) = some (r, s) ∧ f_X12_next fu st2 th (mk c σ) = some (r, s, nI 0) := by
  have h3 := w.c3
  unfold f_X11_next f_X12_next
  simp (disch := omega) only [c_nextPlace w, m_nextPlace w, bd_s]
  cases h : sNext σ with
  | none =>
    simp only [oI_nm1, if_true, oI_n0le, if_false, ref11, ref12, bd_s]
    exact ⟨_, _, rfl, rfl⟩
  | some p =>
    have hp := sNext_lt h
    simp (disch := omega) only [oI_s, nI_ne_m1, if_false, nI_0le, if_true, gi_n, nI_cl, nI_add, aO_in, mk_in, ans11, bd_s]
    exact ⟨_, _, rfl, rfl⟩
theorem r_page (w : WF σ) (hfu : 100 < fu) : ∃ r s, f_X11_page x1 x2 st (nI (σ 2)) (aX xx σ) (aS sd σ) (aU us σ) (aR rm σ) = some (r, s) ∧ f_X12_page fu x1 x2 st2 th (mk c σ) = some (r, s, nI 0) := by
  have h2 := w.c2
  unfold f_X11_page f_X12_page
  simp (disch := omega) only [c_hasPage, m_isPageAt w, bd_s, bI_0, ref11, ref12]
  cases h : inR x1 0 (σ 2)
  · exact ⟨_, _, rfl, rfl⟩
  · obtain ⟨p, hp, rfl⟩ := inR_of h
    simp (disch := omega) only [if_false, Bool.true_eq_false, m_in, bd_s, bI_0]
    cases h : inR x2 (0 : Nat) ((3 : Nat) + 1)
    · have h3 := inR_f h
      simp (disch := omega) only [x_eq]
      rw [if_neg (by omega), if_neg (by omega), if_neg (by omega), if_neg (by omega)]
      exact ⟨_, _, rfl, rfl⟩
    · obtain ⟨q, hq, rfl, -⟩ : ∃ q : Nat, q < 4 ∧ x2 = nI q ∧ True := by
        obtain ⟨a, b⟩ := inR_t h
        obtain ⟨j, h4, h5, h6⟩ := nI_of0 (x := x2) (by omega)
        exact ⟨j, by omega, h5, trivial⟩
      have hq' : q = 0 ∨ q = 1 ∨ q = 2 ∨ q = 3 := by omega
      rcases hq' with rfl | rfl | rfl | rfl
      · simp (disch := omega) only [if_false, Bool.true_eq_false, nI_eq', nI_eq0, if_true, gi_n, nI_cl, nI_add, aR_in, mk_in, ans11, bd_s]
        exact ⟨_, _, rfl, rfl⟩
      · simp (disch := omega) only [if_false, Bool.true_eq_false, nI_eq', nI_eq0, if_true, gi_n, nI_cl, nI_add, aX_in, mk_in, ans11, bd_s, Nat.one_ne_zero]
        exact ⟨_, _, rfl, rfl⟩
      · simp (disch := omega) only [if_false, Bool.true_eq_false, nI_eq', nI_eq0, if_true, c_freeOf w, m_freeOf w, ans11, bd_s, show (2 = 0) = False from by decide, show (2 = 1) = False from by decide]
        exact ⟨_, _, rfl, rfl⟩
      · simp (disch := omega) only [if_false, Bool.true_eq_false, nI_eq', nI_eq0, if_true, gi_n, nI_cl, aS_in, m_standing w, ans11, bd_s, show (3 = 0) = False from by decide, show (3 = 1) = False from by decide, show (3 = 2) = False from by decide]
        exact ⟨_, _, rfl, rfl⟩
end GET
