/-! TRAYS -/
/-- the rows of both sides are alike -/
def TrRel (R : Nat → Nat → Int64) (so le : Nat → Int32) (nu : Nat → Int64) (tm ts : Nat → Int32) : Prop :=
  ∀ t, t < 4 → (le t = (-1 : Int32) ∧ tm t = (-1 : Int32)) ∨ (∃ m s : Nat, m ≤ 60 ∧ s < 4 ∧ le t = nI m ∧ tm t = nI m ∧ so t = nI s ∧ ts t = nI s ∧ ∀ k, k < m → R t k = nu (60 * t + k))
theorem upd_s {f : Nat → Int32} {k : Nat} {x : Int32} : upd f k x k = x := if_pos rfl
theorem upd_n {f : Nat → Int32} {k j : Nat} {x : Int32} (h : j ≠ k) : upd f k x j = f j := if_neg h
theorem updL_s {f : Nat → Int64} {k : Nat} {x : Int64} : vp_updL f k x k = x := if_pos rfl
theorem updL_n {f : Nat → Int64} {k j : Nat} {x : Int64} (h : j ≠ k) : vp_updL f k x j = f j := if_neg h
theorem c_isKnown {x : Int32} : f_X9_isKnown x = some (bI (inR x 0 4)) := c_hasCell (n := 4) (by decide)
/-- numbers, 0 from one place on -/
def clr (N : Nat → Int64) (a m : Nat) : Nat → Int64 := fun i => if a ≤ i ∧ i < a + m then lN 0 else N i
theorem clr_step {N : Nat → Int64} {a m : Nat} : vp_updL (clr N a m) (a + m) (lN 0) = clr N a (m + 1) := by
  funext i
  unfold vp_updL clr
  by_cases h : i = a + m
  · rw [if_pos h, if_pos (by omega)]
  · rw [if_neg h]
    by_cases h2 : a ≤ i ∧ i < a + m
    · rw [if_pos h2, if_pos (by omega)]
    · rw [if_neg h2, if_neg (by omega)]
theorem clr_0 {N : Nat → Int64} {a : Nat} : clr N a 0 = N := by
  funext i
  unfold clr
  rw [if_neg (by omega)]
theorem m_clr {nu : Nat → Int64} {tm ts : Nat → Int32} {a b : Int32} {fu t m : Nat} (ht : t < 4) (hm : m ≤ 60) (hfu : 100 < fu) : f_X12_tray_74 fu fu (nI t) (nI m) (nI 0) a b nu tm ts = some (nI 1, a, b, clr nu (60 * t) m, tm, ts) := by
  refine Eq.trans (congrArg (fun z => f_X12_tray_74 fu fu (nI t) (nI m) (nI 0) a b z tm ts) (clr_0 (a := 60 * t)).symm) ?_
  refine loop_p (fun n j => f_X12_tray_74 fu n (nI t) (nI m) (nI j) a b (clr nu (60 * t) j) tm ts) m _ ?_ ?_ m 0 fu (by omega) (by omega)
  · intro n j hj
    simp (disch := omega) only [f_X12_tray_74, nI_le', if_neg, pk_mul, nI_add, gi_n, nI_cl, lt_, clr_step]
  · intro n
    simp (disch := omega) only [f_X12_tray_74, nI_le', if_pos]
theorem c_fillL {f : Nat → Int64} {fu : Nat} (hfu : 100 < fu) : f_J7_fill_d0a16 fu 60 (lN 0) f = some (clr f 0 60) := by
  unfold f_J7_fill_d0a16
  simp only [lt_]
  refine Eq.trans (congrArg (fun z => f_J7_fill_d0a16_6 fu 60 fu (lN 0) (nI 0) (Int32.ofNat 60) z) (clr_0 (a := 0)).symm) ?_
  refine loop_p (fun n j => f_J7_fill_d0a16_6 fu 60 n (lN 0) (nI j) (nI 60) (clr f 0 j)) 60 _ ?_ ?_ 60 0 fu (by omega) (by omega)
  · intro n j hj
    have e : vp_updL (clr f 0 j) j (lN 0) = clr f 0 (j + 1) := by have := clr_step (N := f) (a := 0) (m := j); rw [Nat.zero_add] at this; exact this
    simp (disch := omega) only [f_J7_fill_d0a16_6, nI_le', if_neg, nI_add, gi_n, nI_cl, lt_, e]
  · intro n
    simp (disch := omega) only [f_J7_fill_d0a16_6, nI_le', if_pos]
theorem c_make {R : Nat → Nat → Int64} {so le : Nat → Int32} {x2 x3 : Int32} {fu t : Nat} (ht : t < 4) (hfu : 100 < fu) :
    f_X9_make fu (nI t) x2 x3 le (R 0) (R 1) (R 2) (R 3) so = some (upd le t x3, up R t (clr (R t) 0 60) 0, up R t (clr (R t) 0 60) 1, up R t (clr (R t) 0 60) 2, up R t (clr (R t) 0 60) 3, upd so t x2) := by
  unfold f_X9_make
  simp (disch := omega) only [gi_n, nI_cl, nI_eq', c_fillL, bd_s]
  have : t = 0 ∨ t = 1 ∨ t = 2 ∨ t = 3 := by omega
  rcases this with rfl | rfl | rfl | rfl <;> rfl
theorem r_cut {s : Nat} (hs : s < 4) (v : Int64) : ∃ v', f_X9_cut (nI s) v = some v' ∧ f_X12_cut (nI s) v = some v' := by
  unfold f_X9_cut f_X12_cut
  simp (disch := omega) only [nI_eq', nI_eq0]
  have : s = 0 ∨ s = 1 ∨ s = 2 ∨ s = 3 := by omega
  rcases this with rfl | rfl | rfl | rfl
  · exact ⟨_, rfl, rfl⟩
  · exact ⟨_, rfl, rfl⟩
  · exact ⟨_, rfl, rfl⟩
  · exact ⟨_, rfl, rfl⟩
theorem c_put {R : Nat → Nat → Int64} {so : Nat → Int32} {v v' : Int64} {t k s : Nat} (ht : t < 4) (hk : k < 60) (hs : so t = nI s) (hv : f_X9_cut (nI s) v = some v') :
    f_X9_put (nI t) (nI k) v (R 0) (R 1) (R 2) (R 3) so = some (up R t (vp_updL (R t) k v') 0, up R t (vp_updL (R t) k v') 1, up R t (vp_updL (R t) k v') 2, up R t (vp_updL (R t) k v') 3) := by
  unfold f_X9_put
  simp (disch := omega) only [gi_n, nI_cl, nI_eq', hs, hv, bd_s]
  have : t = 0 ∨ t = 1 ∨ t = 2 ∨ t = 3 := by omega
  rcases this with rfl | rfl | rfl | rfl <;> rfl
section TR
variable {R : Nat → Nat → Int64} {so le : Nat → Int32} {nu : Nat → Int64} {tm ts : Nat → Int32} {x1 x2 x3 x4 x5 st st2 th : Int32} {v : Int64} {fu : Nat}
theorem r_tray (h : TrRel R so le nu tm ts) (hfu : 100 < fu) : ∃ r s R' so' le' nu' tm' ts', f_X11_tray fu x1 x2 x3 st le (R 0) (R 1) (R 2) (R 3) so = some (r, s, le', R' 0, R' 1, R' 2, R' 3, so') ∧ f_X12_tray fu x1 x2 x3 st2 th nu tm ts = some (r, s, nI 0, nu', tm', ts') ∧ TrRel R' so' le' nu' tm' ts' := by
  unfold f_X11_tray f_X12_tray
  simp (disch := omega) only [c_isKnown, bd_s, bI_0, den11, no12, gd_0, x_lt0, x_lt, x_le, x_ge, x_0le]
  cases hx : inR x1 0 4
  · have h1 := inR_f hx
    by_cases a : x1.toInt < 0
    · rw [if_pos rfl, if_pos a]; exact ⟨_, _, R, _, _, _, _, _, rfl, rfl, h⟩
    · rw [if_pos rfl, if_neg a, if_pos (by omega)]; exact ⟨_, _, R, _, _, _, _, _, rfl, rfl, h⟩
  · have h1 := inR_t hx
    obtain ⟨t, ht, rfl⟩ := inR_of (n := 4) hx
    rw [if_neg (show ¬ (true = false) by decide), if_neg (show ¬ (nI t).toInt < 0 by omega), if_neg (show ¬ ((4 : Nat) : Int) ≤ (nI t).toInt by omega)]
    by_cases b : x2.toInt < 0
    · rw [if_pos b, if_pos b]; exact ⟨_, _, R, _, _, _, _, _, rfl, rfl, h⟩
    · rw [if_neg b, if_neg b]
      by_cases c : x2.toInt < ((4 : Nat) : Int)
      · rw [if_pos c, if_pos (show x2.toInt ≤ ((3 : Nat) : Int) by omega)]
        obtain ⟨s, hs, rfl, hs2⟩ := nI_of0 (x := x2) (by omega)
        by_cases d : x3.toInt ≤ ((60 : Nat) : Int)
        · rw [if_pos d, if_pos d]
          by_cases e : 0 ≤ x3.toInt
          · rw [if_pos e, if_pos e]
            obtain ⟨m, hm, rfl, hm2⟩ := nI_of0 (x := x3) e
            simp (disch := omega) only [c_make ht, bd_s, agr11, gd_1, gi_n, nI_cl, m_clr]
            refine ⟨_, _, up R t (clr (R t) 0 60), _, _, _, _, _, rfl, rfl, ?_⟩
            intro q hq
            by_cases eq : q = t
            · subst eq
              refine Or.inr ⟨m, s, by omega, by omega, upd_s, upd_s, upd_s, upd_s, fun k hk => ?_⟩
              rw [up_s]
              unfold clr
              rw [if_pos (by omega), if_pos (by omega)]
            · rw [upd_n eq, upd_n eq, upd_n eq, upd_n eq, up_n _ _ eq]
              rcases h q hq with h2 | ⟨m', s', a1, a2, a3, a4, a5, a6, a7⟩
              · exact Or.inl h2
              · refine Or.inr ⟨m', s', a1, a2, a3, a4, a5, a6, fun k hk => ?_⟩
                rw [a7 k hk]
                unfold clr
                rw [if_neg (by omega)]
          · rw [if_neg e, if_neg e]; exact ⟨_, _, R, _, _, _, _, _, rfl, rfl, h⟩
        · rw [if_neg d, if_neg d]; exact ⟨_, _, R, _, _, _, _, _, rfl, rfl, h⟩
      · rw [if_neg c, if_neg (show ¬ x2.toInt ≤ ((3 : Nat) : Int) by omega)]; exact ⟨_, _, R, _, _, _, _, _, rfl, rfl, h⟩
/-- the STATUS of a place -/
theorem r_place (h : TrRel R so le nu tm ts) : (∃ s : Nat, 0 < s ∧ s < 100 ∧ f_X9_placeStatus x1 x2 le = some (nI s) ∧ f_X12_placed x1 x2 tm = some (nI s)) ∨ (f_X9_placeStatus x1 x2 le = some (nI 0) ∧ f_X12_placed x1 x2 tm = some (nI 0) ∧ ∃ t m k s : Nat, t < 4 ∧ m ≤ 60 ∧ k < m ∧ s < 4 ∧ x1 = nI t ∧ x2 = nI k ∧ le t = nI m ∧ tm t = nI m ∧ so t = nI s ∧ ts t = nI s ∧ ∀ k, k < m → R t k = nu (60 * t + k)) := by
  unfold f_X9_placeStatus f_X12_placed f_X12_trayed
  simp (disch := omega) only [c_isKnown, bd_s, bI_0, x_lt0, x_lt]
  cases hx : inR x1 0 4
  · have h1 := inR_f hx
    refine Or.inl ⟨1, by omega, by omega, by rw [if_pos rfl], ?_⟩
    by_cases a : x1.toInt < 0
    · rw [if_pos a, bd_s, if_neg (by decide)]
    · rw [if_neg a, if_neg (by omega), bd_s, if_neg (by decide)]
  · have h1 := inR_t hx
    obtain ⟨t, ht, rfl⟩ := inR_of (n := 4) hx
    rw [if_neg (show ¬ (true = false) by decide), if_neg (show ¬ (nI t).toInt < 0 by omega), if_pos (show (nI t).toInt < ((4 : Nat) : Int) by omega)]
    unfold f_X9_isMissing
    simp (disch := omega) only [gi_n, nI_cl, bd_s]
    rcases h t ht with ⟨e1, e2⟩ | ⟨m, s, a1, a2, a3, a4, a5, a6, a7⟩
    · refine Or.inl ⟨3, by omega, by omega, ?_, ?_⟩
      · rw [e1, if_pos rfl, bd_s, if_neg (by decide)]
      · rw [e2, if_neg (by decide), bd_s, if_neg (by decide)]
    · simp (disch := omega) only [a3, a4, nI_ne_m1, if_false, nI_0le, if_true, bd_s, nI_eq0, nI_le0]
      by_cases b : x2.toInt < 0
      · rw [if_pos b, if_pos b]; exact Or.inl ⟨4, by omega, by omega, rfl, rfl⟩
      · rw [if_neg b, if_neg b]
        obtain ⟨k, hk, rfl, hk2⟩ := nI_of0 (x := x2) (by omega)
        simp (disch := omega) only [nI_le', nI_lt']
        by_cases d : m ≤ k
        · rw [if_pos d, if_neg (show ¬ k < m by omega)]; exact Or.inl ⟨4, by omega, by omega, rfl, rfl⟩
        · rw [if_neg d, if_pos (show k < m by omega)]
          exact Or.inr ⟨rfl, rfl, t, m, k, s, ht, a1, by omega, a2, rfl, rfl, a3, a4, a5, a6, a7⟩
theorem r_write (h : TrRel R so le nu tm ts) : ∃ r s R' nu', f_X11_write x1 x2 v st le (R 0) (R 1) (R 2) (R 3) so = some (r, s, R' 0, R' 1, R' 2, R' 3) ∧ f_X12_write x1 x2 v st2 th nu tm ts = some (r, s, nI 0, nu') ∧ TrRel R' so le nu' tm ts := by
  unfold f_X11_write f_X12_write
  rcases r_place (x1 := x1) (x2 := x2) h with ⟨s, hs, hs2, e1, e2⟩ | ⟨e1, e2, t, m, k, s, ht, hm, hk, hs, rfl, rfl, a3, a4, a5, a6, a7⟩
  · rw [e1, e2, bd_s, bd_s]
    simp (disch := omega) only [nI_eq0, nI_le0]
    rw [if_neg (by omega), if_neg (by omega)]
    exact ⟨_, _, R, _, rfl, rfl, h⟩
  · obtain ⟨v', hv, hv2⟩ := r_cut hs v
    rw [e1, e2, bd_s, bd_s]
    simp (disch := omega) only [nI_eq0, nI_le0, if_true, c_put ht (show k < 60 by omega) a5 hv, bd_s, agr11, gd_1, gi_n, nI_cl, a6, hv2, pk_mul, nI_add]
    refine ⟨_, _, up R t (vp_updL (R t) k v'), _, rfl, rfl, ?_⟩
    intro q hq
    by_cases eq : q = t
    · subst eq
      refine Or.inr ⟨m, s, hm, hs, a3, a4, a5, a6, fun j hj => ?_⟩
      rw [up_s]
      by_cases ej : j = k
      · subst ej; rw [updL_s, updL_s]
      · rw [updL_n ej, updL_n (by omega)]; exact a7 j hj
    · rw [up_n _ _ eq]
      rcases h q hq with h2 | ⟨m', s', b1, b2, b3, b4, b5, b6, b7⟩
      · exact Or.inl h2
      · refine Or.inr ⟨m', s', b1, b2, b3, b4, b5, b6, fun j hj => ?_⟩
        rw [updL_n (by omega)]; exact b7 j hj
theorem r_read (h : TrRel R so le nu tm ts) : ∃ r s, f_X11_read x1 x2 st le (R 0) (R 1) (R 2) (R 3) = some (r, s) ∧ f_X12_read x1 x2 st2 th nu tm = some (r, s, nI 0) := by
  unfold f_X11_read f_X12_read
  rcases r_place (x1 := x1) (x2 := x2) h with ⟨s, hs, hs2, e1, e2⟩ | ⟨e1, e2, t, m, k, s, ht, hm, hk, hs, rfl, rfl, a3, a4, a5, a6, a7⟩
  · rw [e1, e2, bd_s, bd_s]
    simp (disch := omega) only [nI_eq0, nI_le0]
    rw [if_neg (by omega), if_neg (by omega)]
    exact ⟨_, _, rfl, rfl⟩
  · rw [e1, e2, bd_s, bd_s]
    simp (disch := omega) only [nI_eq0, nI_le0, if_true, gi_n, nI_cl, pk_mul, nI_add, nI_eq']
    have h7 := a7 k hk
    refine ⟨nu (60 * t + k), nI 0, ?_, rfl⟩
    rw [← h7]
    have : t = 0 ∨ t = 1 ∨ t = 2 ∨ t = 3 := by omega
    rcases this with rfl | rfl | rfl | rfl <;> rfl
end TR
