/-! POUR -/
theorem lsum {x y : Int32} : (x.toInt64 + y.toInt64).toInt = x.toInt + y.toInt := by
  rw [Int64.toInt_add, Int32.toInt_toInt64, Int32.toInt_toInt64]
  have h1 := Int32.toInt_lt x
  have h2 := Int32.toInt_lt y
  have h3 := Int32.le_toInt x
  have h4 := Int32.le_toInt y
  exact Int.bmod_eq_of_le (by omega) (by omega)
theorem lgc_sum (x y z : Int32) : (0 < lg_cmp (x.toInt64 + y.toInt64) z.toInt64) = (z.toInt < x.toInt + y.toInt) := by
  unfold lg_cmp
  have h1 : x.toInt64 + y.toInt64 > z.toInt64 ↔ z.toInt < x.toInt + y.toInt := by
    show z.toInt64 < x.toInt64 + y.toInt64 ↔ _
    rw [Int64.lt_iff_toInt_lt, lsum, Int32.toInt_toInt64]
  by_cases a : z.toInt < x.toInt + y.toInt
  · rw [if_pos (h1.mpr a)]; exact propext ⟨fun _ => a, fun _ => by decide⟩
  · rw [if_neg (fun h => a (h1.mp h))]
    split
    · exact propext ⟨fun h => absurd h (by decide), fun h => absurd h a⟩
    · exact propext ⟨fun h => absurd h (by decide), fun h => absurd h a⟩
theorem lgc_sumle (x y z : Int32) : (lg_cmp (x.toInt64 + y.toInt64) z.toInt64 ≤ 0) = (x.toInt + y.toInt ≤ z.toInt) := by
  have h := lgc_sum x y z
  refine propext ⟨fun q => ?_, fun q => ?_⟩
  · rcases Int.lt_or_le z.toInt (x.toInt + y.toInt) with g | g
    · rw [← h] at g; exact absurd q (Int32.not_le.mpr g)
    · exact g
  · rcases Int32.lt_or_le 0 (lg_cmp (x.toInt64 + y.toInt64) z.toInt64) with g | g
    · rw [h] at g; omega
    · exact g
theorem gc_n {α : Type} {i j m a b : Nat} {x : Option α} (hi : i < 2147483648) (hj : j < 2147483648) (hm : m < 2147483648) (ha : i + m ≤ a) (hb : j + m ≤ b) : gc_ (nI i) (nI j) (nI m) a b x = x := by
  unfold gc_
  refine if_pos ⟨nI_pos hi, nI_pos hj, nI_pos hm, ?_, ?_⟩
  · rw [nI_cl hi, nI_cl hm]; exact ha
  · rw [nI_cl hj, nI_cl hm]; exact hb
/-- numbers as they are behind a pour -/
def cpN (N : Nat → Int64) (a b m : Nat) : Nat → Int64 := fun x => if b ≤ x ∧ x < b + m then N (a + (x - b)) else N x
/-- as they are when those from k on are there -/
def cpD (N : Nat → Int64) (a b m k : Nat) : Nat → Int64 := fun x => if b + (m - k) ≤ x ∧ x < b + m then N (a + (x - b)) else N x
theorem cpN_0 {N : Nat → Int64} {a b : Nat} : cpN N a b 0 = N := by funext x; unfold cpN; rw [if_neg (by omega)]
theorem cpD_0 {N : Nat → Int64} {a b m : Nat} : cpD N a b m 0 = N := by funext x; unfold cpD; rw [if_neg (by omega)]
theorem cpD_m {N : Nat → Int64} {a b m : Nat} : cpD N a b m m = cpN N a b m := by funext x; unfold cpD cpN; rw [Nat.sub_self, Nat.add_zero]
theorem cpN_step {N : Nat → Int64} {a b k : Nat} (h : ¬ (b ≤ a + k ∧ a + k < b + k)) : vp_updL (cpN N a b k) (b + k) (cpN N a b k (a + k)) = cpN N a b (k + 1) := by
  funext x
  unfold vp_updL
  by_cases e : x = b + k
  · rw [if_pos e]
    unfold cpN
    rw [if_neg h, if_pos (by omega), e, show b + k - b = k by omega]
  · rw [if_neg e]
    unfold cpN
    by_cases g : b ≤ x ∧ x < b + k
    · rw [if_pos g, if_pos (by omega)]
    · rw [if_neg g, if_neg (by omega)]
theorem cpD_step {N : Nat → Int64} {a b m k : Nat} (hk : k < m) (h : ¬ (b + (m - k) ≤ a + (m - 1 - k) ∧ a + (m - 1 - k) < b + m)) : vp_updL (cpD N a b m k) (b + (m - 1 - k)) (cpD N a b m k (a + (m - 1 - k))) = cpD N a b m (k + 1) := by
  funext x
  unfold vp_updL
  by_cases e : x = b + (m - 1 - k)
  · rw [if_pos e]
    unfold cpD
    rw [if_neg h, if_pos (by omega), e, show b + (m - 1 - k) - b = m - 1 - k by omega]
  · rw [if_neg e]
    unfold cpD
    by_cases g : b + (m - k) ≤ x ∧ x < b + m
    · rw [if_pos g, if_pos (by omega)]
    · rw [if_neg g, if_neg (by omega)]
theorem m_pourUp {nu : Nat → Int64} {tm ts : Nat → Int32} {a b : Int32} {fu t u i j m : Nat} (ht : t < 4) (hu : u < 4) (hi : i + m ≤ 60) (hj : j + m ≤ 60) (hij : j ≤ i ∨ t ≠ u) (hfu : 100 < fu) :
    f_X12_pour_158 fu tm ts fu (nI t) (nI i) (nI u) (nI j) (nI m) (nI 0) (nI 0) a b nu = some (nI 1, a, b, cpN nu (60 * t + i) (60 * u + j) m) := by
  refine Eq.trans (congrArg (fun z => f_X12_pour_158 fu tm ts fu (nI t) (nI i) (nI u) (nI j) (nI m) (nI 0) (nI 0) a b z) (cpN_0 (a := 60 * t + i) (b := 60 * u + j)).symm) ?_
  refine loop_p (fun n k => f_X12_pour_158 fu tm ts n (nI t) (nI i) (nI u) (nI j) (nI m) (nI 0) (nI k) a b (cpN nu (60 * t + i) (60 * u + j) k)) m _ ?_ ?_ m 0 fu (by omega) (by omega)
  · intro n k hk
    have hs := cpN_step (N := nu) (a := 60 * t + i) (b := 60 * u + j) (k := k) (by omega)
    simp (disch := omega) only [f_X12_pour_158, f_X12_pour_182, nI_le', if_neg, nI_eq0, if_true, pk_mul, nI_add, gi_n, nI_cl, lt_, hs]
  · intro n
    simp (disch := omega) only [f_X12_pour_158, nI_le', if_pos]
theorem m_pourDown {nu : Nat → Int64} {tm ts : Nat → Int32} {a b : Int32} {fu t u i j m : Nat} (ht : t < 4) (hu : u < 4) (hi : i + m ≤ 60) (hj : j + m ≤ 60) (hij : i < j) (hfu : 100 < fu) :
    f_X12_pour_158 fu tm ts fu (nI t) (nI i) (nI u) (nI j) (nI m) (nI 1) (nI 0) a b nu = some (nI 1, a, b, cpN nu (60 * t + i) (60 * u + j) m) := by
  rw [← cpD_m]
  refine Eq.trans (congrArg (fun z => f_X12_pour_158 fu tm ts fu (nI t) (nI i) (nI u) (nI j) (nI m) (nI 1) (nI 0) a b z) (cpD_0 (a := 60 * t + i) (b := 60 * u + j) (m := m)).symm) ?_
  refine loop_p (fun n k => f_X12_pour_158 fu tm ts n (nI t) (nI i) (nI u) (nI j) (nI m) (nI 1) (nI k) a b (cpD nu (60 * t + i) (60 * u + j) m k)) m _ ?_ ?_ m 0 fu (by omega) (by omega)
  · intro n k hk
    have hs := cpD_step (N := nu) (a := 60 * t + i) (b := 60 * u + j) (m := m) (k := k) hk (by omega)
    have h1 : ¬ (1 = 0) := by omega
    simp (disch := omega) only [f_X12_pour_158, f_X12_pour_182, nI_le', if_neg, nI_eq0, pk_sub, pk_mul, nI_add, gi_n, nI_cl, lt_, hs]
  · intro n
    simp (disch := omega) only [f_X12_pour_158, nI_le', if_pos]
theorem c_hasRun {le : Nat → Int32} {x y : Int32} {t l : Nat} (ht : t < 4) (hl : l ≤ 60) (he : le t = nI l) (hy : 0 ≤ y.toInt) : f_X9_hasRun (nI t) x y le = some (bI (decide (0 ≤ x.toInt ∧ x.toInt + y.toInt ≤ l))) := by
  unfold f_X9_hasRun
  simp (disch := omega) only [gi_n, nI_cl, he, x_lt0, x_gt]
  by_cases a : x.toInt < 0
  · rw [if_pos a, decide_eq_false (by omega)]; rfl
  · rw [if_neg a]
    by_cases b : (l : Int) < x.toInt
    · rw [if_pos b, decide_eq_false (by omega)]; rfl
    · rw [if_neg b]
      obtain ⟨i, hi, rfl, hi2⟩ := nI_of0 (x := x) (by omega)
      rw [pk_sub (by omega)]
      simp (disch := omega) only [x_gt]
      by_cases c : ((l - i : Nat) : Int) < y.toInt
      · rw [if_pos c, decide_eq_false (by omega)]; rfl
      · rw [if_neg c, decide_eq_true (by omega)]; rfl
theorem c_pourRow {R : Nat → Nat → Int64} {st : Int32} {so le : Nat → Int32} {t u i j m : Nat} (ht : t < 4) (hu : u < 4) (hi : i + m ≤ 60) (hj : j + m ≤ 60) (hs : f_X9_pourStatus (nI t) (nI i) (nI u) (nI j) (nI m) le so = some (nI 0)) :
    f_X11_pour (nI t) (nI i) (nI u) (nI j) (nI m) st le (R 0) (R 1) (R 2) (R 3) so = some (nI 1, nI 0, up R u (va_cpy (R t) (R u) i j m) 0, up R u (va_cpy (R t) (R u) i j m) 1, up R u (va_cpy (R t) (R u) i j m) 2, up R u (va_cpy (R t) (R u) i j m) 3) := by
  unfold f_X11_pour
  rw [hs, bd_s]
  simp (disch := omega) only [nI_eq0, if_true, gi_n, nI_cl, nI_eq', gc_n, agr11, bd_s, gd_1]
  have h1 : t = 0 ∨ t = 1 ∨ t = 2 ∨ t = 3 := by omega
  have h2 : u = 0 ∨ u = 1 ∨ u = 2 ∨ u = 3 := by omega
  rcases h1 with rfl | rfl | rfl | rfl <;> rcases h2 with rfl | rfl | rfl | rfl <;> rfl
section PR
variable {R : Nat → Nat → Int64} {so le : Nat → Int32} {nu : Nat → Int64} {tm ts : Nat → Int32} {x1 x2 x3 x4 x5 st st2 th : Int32} {v : Int64} {fu : Nat}
theorem c_deny {s : Nat} (hs0 : 0 < s) (hs : s < 100) (h : f_X9_pourStatus x1 x2 x3 x4 x5 le so = some (nI s)) : f_X11_pour x1 x2 x3 x4 x5 st le (R 0) (R 1) (R 2) (R 3) so = some (nI 0, nI s, R 0, R 1, R 2, R 3) := by
  unfold f_X11_pour
  rw [h, bd_s]
  rw [if_neg (by rw [nI_eq0 (by omega)]; omega)]
  rw [den11, bd_s]
  exact gd_0 _
theorem r_pour (h : TrRel R so le nu tm ts) (hfu : 100 < fu) : ∃ r s R' nu', f_X11_pour x1 x2 x3 x4 x5 st le (R 0) (R 1) (R 2) (R 3) so = some (r, s, R' 0, R' 1, R' 2, R' 3) ∧ f_X12_pour fu x1 x2 x3 x4 x5 st2 th nu tm ts = some (r, s, nI 0, nu') ∧ TrRel R' so le nu' tm ts := by
  -- a refusal: the STATUS of both
  have no : ∀ s : Nat, 0 < s → s < 100 → f_X9_pourStatus x1 x2 x3 x4 x5 le so = some (nI s) → f_X12_pour fu x1 x2 x3 x4 x5 st2 th nu tm ts = some (nI 0, nI s, nI 0, nu) → ∃ r s R' nu', f_X11_pour x1 x2 x3 x4 x5 st le (R 0) (R 1) (R 2) (R 3) so = some (r, s, R' 0, R' 1, R' 2, R' 3) ∧ f_X12_pour fu x1 x2 x3 x4 x5 st2 th nu tm ts = some (r, s, nI 0, nu') ∧ TrRel R' so le nu' tm ts := fun s h1 h2 h3 h4 => ⟨_, _, R, nu, c_deny h1 h2 h3, h4, h⟩
  cases hx : inR x1 0 4
  · have h1 := inR_f hx
    refine no 1 (by omega) (by omega) ?_ ?_
    · unfold f_X9_pourStatus f_X9_pairStatus
      rw [c_isKnown, bd_s, hx]
      rfl
    · unfold f_X12_pour
      by_cases a : x1.toInt < 0
      · rw [if_pos (show x1 < 0 by rw [x_lt0]; exact a), no12, bd_s]; exact gd_0 _
      · rw [if_neg (show ¬ x1 < 0 by rw [x_lt0]; exact a), if_pos (show nI 4 ≤ x1 by rw [x_ge (by omega)]; omega), no12, bd_s]; exact gd_0 _
  · have h1 := inR_t hx
    obtain ⟨t, ht, rfl⟩ := inR_of (n := 4) hx
    cases hy : inR x3 0 4
    · have h3 := inR_f hy
      refine no 1 (by omega) (by omega) ?_ ?_
      · unfold f_X9_pourStatus f_X9_pairStatus
        rw [c_isKnown, bd_s, hx, c_isKnown, bd_s, hy]
        rfl
      · unfold f_X12_pour
        rw [if_neg (show ¬ nI t < 0 by rw [x_lt0]; omega), if_neg (show ¬ nI 4 ≤ nI t by rw [x_ge (by omega)]; omega)]
        by_cases a : x3.toInt < 0
        · rw [if_pos (show x3 < 0 by rw [x_lt0]; exact a), no12, bd_s]; exact gd_0 _
        · rw [if_neg (show ¬ x3 < 0 by rw [x_lt0]; exact a), if_neg (show ¬ x3 < nI 4 by rw [x_lt (by omega)]; omega), no12, bd_s]; exact gd_0 _
    · have h3 := inR_t hy
      obtain ⟨u, hu, rfl⟩ := inR_of (n := 4) hy
      have eM : f_X12_pour fu (nI t) x2 (nI u) x4 x5 st2 th nu tm ts = (if (tm t) < 0 then some (nI 0, nI 3, nI 0, nu) else (if 0 ≤ (tm u) then (if ts t = ts u then (if 0 ≤ x5.toInt then (if x2.toInt < 0 then some (nI 0, nI 4, nI 0, nu) else (if x4.toInt < 0 then some (nI 0, nI 4, nI 0, nu) else (if (tm t).toInt < x2.toInt + x5.toInt then some (nI 0, nI 4, nI 0, nu) else (if x4.toInt + x5.toInt ≤ (tm u).toInt then (if x4 ≤ x2 then f_X12_pour_158 fu tm ts fu (nI t) x2 (nI u) x4 x5 (nI 0) (nI 0) (nI 0) (nI 0) nu else f_X12_pour_158 fu tm ts fu (nI t) x2 (nI u) x4 x5 (nI 1) (nI 0) (nI 0) (nI 0) nu) else some (nI 0, nI 4, nI 0, nu))))) else some (nI 0, nI 6, nI 0, nu)) else some (nI 0, nI 11, nI 0, nu)) else some (nI 0, nI 3, nI 0, nu))) := by
        unfold f_X12_pour
        rw [if_neg (show ¬ nI t < 0 by rw [x_lt0]; omega), if_neg (show ¬ nI 4 ≤ nI t by rw [x_ge (by omega)]; omega), if_neg (show ¬ nI u < 0 by rw [x_lt0]; omega), if_pos (show nI u < nI 4 by rw [x_lt (by omega)]; omega)]
        clear no
        simp (maxSteps := 4000000) (disch := omega) only [x_lt0, x_0le, no12, bd_s, gd_0, gi_n, nI_cl, lgc_sum, lgc_sumle]
      have eC : f_X9_pourStatus (nI t) x2 (nI u) x4 x5 le so = bd_ (f_X9_pairStatus (nI t) (nI u) le) (fun r1 => if r1 = 0 then (if so t = so u then (if 0 ≤ x5.toInt then bd_ (f_X9_hasRun (nI t) x2 x5 le) (fun r8 => if r8 = 0 then some (nI 4) else bd_ (f_X9_hasRun (nI u) x4 x5 le) (fun r11 => if r11 = 0 then some (nI 4) else some (nI 0))) else some (nI 6)) else some (nI 11)) else some r1) := by
        unfold f_X9_pourStatus
        simp (disch := omega) only [gi_n, nI_cl, x_0le]
      have eP : f_X9_pairStatus (nI t) (nI u) le = (if le t = (-1 : Int32) then some (nI 3) else if le u = (-1 : Int32) then some (nI 3) else some (nI 0)) := by
        unfold f_X9_pairStatus f_X9_isMissing
        rw [c_isKnown, bd_s, hx, c_isKnown, bd_s, hy]
        rw [if_neg (show ¬ bI true = 0 by decide), if_neg (show ¬ bI true = 0 by decide)]
        simp (disch := omega) only [gi_n, nI_cl]
        by_cases a : le t = (-1 : Int32)
        · rw [if_pos a, if_pos a]; rfl
        · rw [if_neg a, if_neg a, bd_s, if_pos (show nI 0 = 0 from rfl)]
          by_cases b : le u = (-1 : Int32)
          · rw [if_pos b, if_pos b]; rfl
          · rw [if_neg b, if_neg b]; rfl
      rw [eP] at eC
      rcases h t ht with ⟨e1, e2⟩ | ⟨m1, s1, a1, a2, a3, a4, a5, a6, a7⟩
      · refine no 3 (by omega) (by omega) ?_ ?_
        · rw [eC, if_pos e1]; rfl
        · rw [eM, if_pos (by rw [e2]; decide)]
      · have g1 : ¬ le t = (-1 : Int32) := by rw [a3, nI_ne_m1 (by omega)]; exact id
        have g2 : ¬ tm t < 0 := by rw [a4, nI_lt0 (by omega)]; exact id
        rcases h u hu with ⟨e1, e2⟩ | ⟨m2, s2, b1, b2, b3, b4, b5, b6, b7⟩
        · refine no 3 (by omega) (by omega) ?_ ?_
          · rw [eC, if_neg g1, if_pos e1]; rfl
          · rw [eM, if_neg g2, if_neg (by rw [e2]; decide)]
        · have g3 : ¬ le u = (-1 : Int32) := by rw [b3, nI_ne_m1 (by omega)]; exact id
          have g4 : 0 ≤ tm u := by rw [b4, nI_0le (by omega)]; trivial
          rw [if_neg g1, if_neg g3, bd_s, if_pos (show nI 0 = 0 from rfl)] at eC
          rw [if_neg g2, if_pos g4] at eM
          have hso : (so t = so u) = (s1 = s2) := by rw [a5, b5, nI_eq' (by omega) (by omega)]
          have hts : (ts t = ts u) = (s1 = s2) := by rw [a6, b6, nI_eq' (by omega) (by omega)]
          by_cases es : s1 = s2
          · rw [if_pos (by rw [hso]; exact es)] at eC
            rw [if_pos (by rw [hts]; exact es)] at eM
            by_cases e5 : 0 ≤ x5.toInt
            · rw [if_pos e5, c_hasRun ht a1 a3 e5, c_hasRun hu b1 b3 e5] at eC
              rw [if_pos e5, a4, b4, nI_toInt (by omega), nI_toInt (by omega)] at eM
              simp only [bd_s, bI_0, decide_eq_false_iff_not] at eC
              by_cases o1 : 0 ≤ x2.toInt ∧ x2.toInt + x5.toInt ≤ m1
              · rw [if_neg (fun q => q o1)] at eC
                by_cases o2 : 0 ≤ x4.toInt ∧ x4.toInt + x5.toInt ≤ m2
                · rw [if_neg (fun q => q o2)] at eC
                  rw [if_neg (by omega), if_neg (by omega), if_neg (by omega), if_pos o2.2] at eM
                  obtain ⟨i, hi, rfl, hi2⟩ := nI_of0 (x := x2) o1.1
                  obtain ⟨j, hj, rfl, hj2⟩ := nI_of0 (x := x4) o2.1
                  obtain ⟨m, hm, rfl, hm2⟩ := nI_of0 (x := x5) e5
                  have eN : f_X12_pour fu (nI t) (nI i) (nI u) (nI j) (nI m) st2 th nu tm ts = some (nI 1, nI 0, nI 0, cpN nu (60 * t + i) (60 * u + j) m) := by
                    rw [eM]
                    by_cases hij : j ≤ i
                    · rw [if_pos (by rw [nI_le' hj hi]; exact hij)]
                      exact m_pourUp ht hu (by omega) (by omega) (Or.inl hij) hfu
                    · rw [if_neg (by rw [nI_le' hj hi]; exact hij)]
                      exact m_pourDown ht hu (by omega) (by omega) (by omega) hfu
                  refine ⟨_, _, up R u (va_cpy (R t) (R u) i j m), _, c_pourRow ht hu (by omega) (by omega) eC, eN, ?_⟩
                  intro q hq
                  by_cases eq : q = u
                  · subst eq
                    refine Or.inr ⟨m2, s2, b1, b2, b3, b4, b5, b6, fun k hk => ?_⟩
                    rw [up_s]
                    unfold va_cpy cpN
                    by_cases hk2 : j ≤ k ∧ k < j + m
                    · rw [if_pos hk2, if_pos (by omega), show 60 * t + i + (60 * q + k - (60 * q + j)) = 60 * t + (i + (k - j)) by omega]
                      exact a7 _ (by omega)
                    · rw [if_neg hk2, if_neg (by omega)]
                      exact b7 k hk
                  · rw [up_n _ _ eq]
                    rcases h q hq with h2 | ⟨m', s', d1, d2, d3, d4, d5, d6, d7⟩
                    · exact Or.inl h2
                    · refine Or.inr ⟨m', s', d1, d2, d3, d4, d5, d6, fun k hk => ?_⟩
                      unfold cpN
                      rw [if_neg (by omega)]
                      exact d7 k hk
                · rw [if_pos o2] at eC
                  refine no 4 (by omega) (by omega) eC ?_
                  rw [eM, if_neg (by omega)]
                  by_cases o3 : x4.toInt < 0
                  · rw [if_pos o3]
                  · rw [if_neg o3, if_neg (by omega), if_neg (by omega)]
              · rw [if_pos o1] at eC
                refine no 4 (by omega) (by omega) eC ?_
                rw [eM]
                by_cases o3 : x2.toInt < 0
                · rw [if_pos o3]
                · rw [if_neg o3]
                  by_cases o4 : x4.toInt < 0
                  · rw [if_pos o4]
                  · rw [if_neg o4, if_pos (by omega)]
            · rw [if_neg e5] at eC
              rw [if_neg e5] at eM
              exact no 6 (by omega) (by omega) eC eM
          · rw [if_neg (by rw [hso]; exact es)] at eC
            rw [if_neg (by rw [hts]; exact es)] at eM
            exact no 11 (by omega) (by omega) eC eM
end PR
