theorem c_pairK {le : Nat → Int32} {t u : Nat} (ht : t < 4) (hu : u < 4) : f_X9_pairStatus (nI t) (nI u) le = (if le t = (-1 : Int32) then some (nI 3) else if le u = (-1 : Int32) then some (nI 3) else some (nI 0)) := by
  have hx : inR (nI t) 0 4 = true := decide_eq_true (by rw [nI_toInt (by omega)]; omega)
  have hy : inR (nI u) 0 4 = true := decide_eq_true (by rw [nI_toInt (by omega)]; omega)
  unfold f_X9_pairStatus f_X9_isMissing
  rw [c_isKnown, bd_s, hx, c_isKnown, bd_s, hy]
  rw [if_neg (show ¬ bI true = 0 by decide), if_neg (show ¬ bI true = 0 by decide)]
  simp (disch := omega) only [gi_n, nI_cl]
  by_cases a : le t = (-1 : Int32)
  · rw [if_pos a, if_pos a]; rfl
  · rw [if_neg a, if_neg a, bd_s, if_pos (show nI 0 = 0 from rfl)]
    by_cases b : le u = (-1 : Int32)
    · rw [if_pos b, if_pos b]; rfl
    · rw [if_neg b, if_neg b]; rfl
theorem c_loadRow {R : Nat → Nat → Int64} {le : Nat → Int32} {fu t u n m l1 l2 : Nat} {a b : Int32} {c d : Nat → Int32} (ht : t < 4) (hu : u < 4) (h1 : le t = nI l1) (h2 : le u = nI l2) (hl1 : l1 ≤ 60) (hl2 : l2 ≤ 60) (hn : n ≤ l1) (hm : m ≤ l2) (n1 : 1 ≤ n) (n10 : n ≤ 10) (m1 : 1 ≤ m) :
    f_X10_load fu (nI t) (nI n) (nI u) (nI m) a b c d le (R 0) (R 1) (R 2) (R 3) = bd_ (f_X10_takeLetters fu 60 10 (nI n) (R t) d) (fun (z : Int32 × (Nat → Int32)) => match z with | (r14, u15) => if r14 = 0 then some (nI 5, nI n, nI m, c, u15) else bd_ (f_X10_takeLetters fu 60 60 (nI m) (R u) c) (fun (z : Int32 × (Nat → Int32)) => match z with | (r21, u22) => if r21 = 0 then some (nI 5, nI n, nI m, u22, u15) else some (nI 0, nI n, nI m, u22, u15))) := by
  have z0 : (nI 0 : Int32) = 0 := rfl
  have z1 : ¬ (nI 1 : Int32) = 0 := by decide
  unfold f_X10_load
  rw [c_pairK ht hu, if_neg (by rw [h1, nI_ne_m1 (by omega)]; exact id), if_neg (by rw [h2, nI_ne_m1 (by omega)]; exact id), bd_s, if_pos z0]
  rw [gi_n ht (by omega), nI_cl (by omega), h1, if_neg (show ¬ nI l1 < nI n by rw [nI_lt' (by omega) (by omega)]; omega), gi_n hu (by omega), nI_cl (by omega), h2, if_pos (show nI m ≤ nI l2 by rw [nI_le' (by omega) (by omega)]; omega), if_neg (show ¬ nI n < nI 1 by rw [nI_lt' (by omega) (by omega)]; omega), if_neg (show ¬ nI 10 < nI n by rw [nI_lt' (by omega) (by omega)]; omega), if_neg (show ¬ nI m < nI 1 by rw [nI_lt' (by omega) (by omega)]; omega), if_pos (show nI m ≤ nI 60 by rw [nI_le' (by omega) (by omega)]; omega), gi_n ht (by omega)]
  have e1 : t = 0 ∨ t = 1 ∨ t = 2 ∨ t = 3 := by omega
  have e2 : u = 0 ∨ u = 1 ∨ u = 2 ∨ u = 3 := by omega
  rcases e1 with rfl | rfl | rfl | rfl <;> rcases e2 with rfl | rfl | rfl | rfl <;> rfl
section LD
variable {R : Nat → Nat → Int64} {so le : Nat → Int32} {nu : Nat → Int64} {tm ts : Nat → Int32} {x1 x2 x3 x4 x5 st st2 th : Int32} {fu : Nat} {wl rl : Int32} {rw0 wd pls mpl : Nat → Int32} {wy mwy : Nat → Int64}
/-- both take the letters, or both tell why not -/
theorem r_load (h : TrRel R so le nu tm ts) (hfu : 100 < fu) :
    (∃ (s : Nat) (o : Int32 × Int32 × (Nat → Int32) × (Nat → Int32)), 0 < s ∧ s < 100 ∧ f_X10_load fu x1 x2 x3 x4 wl rl rw0 wd le (R 0) (R 1) (R 2) (R 3) = some (nI s, o) ∧ f_X12_whyNoWord fu x1 x2 x3 x4 nu tm = some (nI s)) ∨
    (∃ (t u n m : Nat) (row word : Nat → Int32) (A B : Nat → Nat), t < 4 ∧ u < 4 ∧ 1 ≤ n ∧ n ≤ 10 ∧ 1 ≤ m ∧ m ≤ 60 ∧ x1 = nI t ∧ x2 = nI n ∧ x3 = nI u ∧ x4 = nI m ∧ f_X10_load fu x1 x2 x3 x4 wl rl rw0 wd le (R 0) (R 1) (R 2) (R 3) = some (nI 0, nI n, nI m, row, word) ∧ f_X12_whyNoWord fu x1 x2 x3 x4 nu tm = some (nI 0) ∧
      (∀ k, k < n → A k ≤ 26 ∧ word k = nI (A k) ∧ nu (60 * t + k) = lN (A k)) ∧ (∀ i, i < m → B i ≤ 26 ∧ row i = nI (B i) ∧ nu (60 * u + i) = lN (B i))) := by
  cases hx : inR x1 0 4
  · refine Or.inl ⟨1, (wl, rl, rw0, wd), by omega, by omega, ?_, ?_⟩
    · unfold f_X10_load f_X9_pairStatus
      rw [c_isKnown, bd_s, hx]; rfl
    · unfold f_X12_whyNoWord
      rw [m_isTray, bd_s, hx]; rfl
  · obtain ⟨t, ht, rfl⟩ := inR_of (n := 4) hx
    cases hy : inR x3 0 4
    · refine Or.inl ⟨1, (wl, rl, rw0, wd), by omega, by omega, ?_, ?_⟩
      · unfold f_X10_load f_X9_pairStatus
        rw [c_isKnown, bd_s, hx, c_isKnown, bd_s, hy]; rfl
      · unfold f_X12_whyNoWord
        rw [m_isTray, bd_s, hx, m_isTray, bd_s, hy]; rfl
    · obtain ⟨u, hu, rfl⟩ := inR_of (n := 4) hy
      have eM : f_X12_whyNoWord fu (nI t) x2 (nI u) x4 nu tm = (if tm t < 0 then some (nI 3) else (if 0 ≤ tm u then (if tm t < x2 then some (nI 4) else (if x4 ≤ tm u then (if bI (inR x2 (1 : Nat) ((10 : Nat) + 1)) = 0 then some (nI 5) else (if bI (inR x4 (1 : Nat) ((60 : Nat) + 1)) = 0 then some (nI 5) else f_X12_whyNoWord_91 fu nu tm fu (nI t) x2 (nI u) x4 (nI 0))) else some (nI 4))) else some (nI 3))) := by
        unfold f_X12_whyNoWord
        rw [m_isTray, bd_s, hx, m_isTray, bd_s, hy]
        rw [if_neg (show ¬ bI true = 0 by decide), if_neg (show ¬ bI true = 0 by decide)]
        simp (disch := omega) only [gi_n, nI_cl, m_in, bd_s]
      have eC : f_X10_load fu (nI t) x2 (nI u) x4 wl rl rw0 wd le (R 0) (R 1) (R 2) (R 3) = bd_ (f_X9_pairStatus (nI t) (nI u) le) (fun r1 => if r1 = 0 then gi_ (nI t) 4 (if (le (nI t).toNatClampNeg) < x2 then some (nI 4, wl, rl, rw0, wd) else gi_ (nI u) 4 (if x4 ≤ (le (nI u).toNatClampNeg) then (if x2 < nI 1 then some (nI 5, wl, rl, rw0, wd) else (if nI 10 < x2 then some (nI 5, wl, rl, rw0, wd) else (if x4 < nI 1 then some (nI 5, wl, rl, rw0, wd) else (if x4 ≤ nI 60 then f_X10_load fu (nI t) x2 (nI u) x4 wl rl rw0 wd le (R 0) (R 1) (R 2) (R 3) else some (nI 5, wl, rl, rw0, wd))))) else some (nI 4, wl, rl, rw0, wd))) else some (r1, wl, rl, rw0, wd)) := by
        unfold f_X10_load
        cases f_X9_pairStatus (nI t) (nI u) le with
        | none => rfl
        | some r1 =>
          rw [bd_s, bd_s]
          by_cases c1 : r1 = 0
          · rw [if_pos c1, if_pos c1]
            have gt : ∀ {α : Type} (x : Option α), gi_ (nI t) 4 x = x := fun x => gi_n ht (by omega)
            have gu : ∀ {α : Type} (x : Option α), gi_ (nI u) 4 x = x := fun x => gi_n hu (by omega)
            rw [gt]
            conv => rhs; rw [gt]
            by_cases c2 : le (nI t).toNatClampNeg < x2
            · rw [if_pos c2, if_pos c2]
            · rw [if_neg c2, if_neg c2, gu]
              conv => rhs; rw [gu]
              by_cases c3 : x4 ≤ le (nI u).toNatClampNeg
              · rw [if_pos c3, if_pos c3]
                by_cases c4 : x2 < nI 1
                · rw [if_pos c4, if_pos c4]
                · rw [if_neg c4, if_neg c4]
                  by_cases c5 : nI 10 < x2
                  · rw [if_pos c5, if_pos c5]
                  · rw [if_neg c5, if_neg c5]
                    by_cases c6 : x4 < nI 1
                    · rw [if_pos c6, if_pos c6]
                    · rw [if_neg c6, if_neg c6]
                      by_cases c7 : x4 ≤ nI 60
                      · rw [if_pos c7, if_pos c7]
                      · rw [if_neg c7, if_neg c7]
              · rw [if_neg c3, if_neg c3]
          · rw [if_neg c1, if_neg c1]
      rw [c_pairK ht hu] at eC
      rcases h t ht with ⟨e1, e2⟩ | ⟨l1, s1, a1, a2, a3, a4, a5, a6, a7⟩
      · refine Or.inl ⟨3, (wl, rl, rw0, wd), by omega, by omega, ?_, ?_⟩
        · rw [eC, if_pos e1]; rfl
        · rw [eM, if_pos (by rw [e2]; decide)]
      · have g1 : ¬ le t = (-1 : Int32) := by rw [a3, nI_ne_m1 (by omega)]; exact id
        have g2 : ¬ tm t < 0 := by rw [a4, nI_lt0 (by omega)]; exact id
        rcases h u hu with ⟨e1, e2⟩ | ⟨l2, s2, b1, b2, b3, b4, b5, b6, b7⟩
        · refine Or.inl ⟨3, (wl, rl, rw0, wd), by omega, by omega, ?_, ?_⟩
          · rw [eC, if_neg g1, if_pos e1]; rfl
          · rw [eM, if_neg g2, if_neg (by rw [e2]; decide)]
        · have g3 : ¬ le u = (-1 : Int32) := by rw [b3, nI_ne_m1 (by omega)]; exact id
          have g4 : 0 ≤ tm u := by rw [b4, nI_0le (by omega)]; trivial
          rw [if_neg g1, if_neg g3, bd_s, if_pos (show nI 0 = 0 from rfl), gi_n ht (by omega), nI_cl (by omega), gi_n hu (by omega), nI_cl (by omega), a3, b3] at eC
          rw [if_neg g2, if_pos g4, a4, b4] at eM
          by_cases c2 : nI l1 < x2
          · rw [if_pos c2] at eC eM
            exact Or.inl ⟨4, _, by omega, by omega, eC, eM⟩
          · rw [if_neg c2] at eC eM
            by_cases c3 : x4 ≤ nI l2
            · rw [if_pos c3] at eC eM
              by_cases c4 : inR x2 (1 : Nat) ((10 : Nat) + 1) = true
              · have c4' := inR_t c4
                rw [c4, if_neg (show ¬ bI true = 0 by decide)] at eM
                rw [if_neg (show ¬ x2 < nI 1 by rw [x_lt (by omega)]; omega), if_neg (show ¬ nI 10 < x2 by rw [x_gt (by omega)]; omega)] at eC
                by_cases c5 : inR x4 (1 : Nat) ((60 : Nat) + 1) = true
                · have c5' := inR_t c5
                  rw [c5, if_neg (show ¬ bI true = 0 by decide)] at eM
                  obtain ⟨n, hn, rfl, hn2⟩ := nI_of0 (x := x2) (by omega)
                  obtain ⟨m, hm, rfl, hm2⟩ := nI_of0 (x := x4) (by omega)
                  rw [nI_lt' (by omega) (by omega)] at c2
                  rw [nI_le' (by omega) (by omega)] at c3
                  have eR := c_loadRow (R := R) (le := le) (fu := fu) (n := n) (m := m) (a := wl) (b := rl) (c := rw0) (d := wd) ht hu a3 b3 a1 b1 (by omega) (by omega) (by omega) (by omega) (by omega)
                  obtain ⟨bb, q, t1, t2, t3⟩ := c_take (f := R t) (n2 := 10) (fu := fu) (m := n) (by omega) (by omega) (by omega) hfu wd
                  obtain ⟨bb2, q2, v1, v2, v3⟩ := c_take (f := R u) (n2 := 60) (fu := fu) (m := m) (by omega) (by omega) (by omega) hfu rw0
                  obtain ⟨ml1, ml2⟩ := m_lett (nu := nu) (tm := tm) (fu := fu) (n := n) (m := m) ht hu (by omega) (by omega) hfu
                  have ok1 : ∀ j, j < n → (okL (R t) j ↔ okL (fun k => nu (60 * t + k)) j) := fun j hj => by unfold okL; rw [a7 j (by omega)]
                  have ok2 : ∀ j, j < m → (okL (R u) j ↔ okL (fun k => nu (60 * u + k)) j) := fun j hj => by unfold okL; rw [b7 j (by omega)]
                  rw [t1, bd_s] at eR
                  simp only [bI_0] at eR
                  cases bb with
                  | false =>
                    rw [if_pos rfl] at eR
                    refine Or.inl ⟨5, _, by omega, by omega, eR, ?_⟩
                    rw [eM]
                    exact ml2 (fun g => Bool.false_ne_true (t2.mpr (fun j hj => (ok1 j hj).mpr (g.1 j hj))))
                  | true =>
                    rw [if_neg (show ¬ (true = false) by decide), v1, bd_s] at eR
                    simp only [bI_0] at eR
                    cases bb2 with
                    | false =>
                      rw [if_pos rfl] at eR
                      refine Or.inl ⟨5, _, by omega, by omega, eR, ?_⟩
                      rw [eM]
                      exact ml2 (fun g => Bool.false_ne_true (v2.mpr (fun j hj => (ok2 j hj).mpr (g.2 j hj))))
                    | true =>
                      rw [if_neg (show ¬ (true = false) by decide)] at eR
                      refine Or.inr ⟨t, u, n, m, q2, q, ltr (R t), ltr (R u), ht, hu, by omega, by omega, by omega, by omega, rfl, rfl, rfl, rfl, eR, ?_, fun k hk => ?_, fun i hi => ?_⟩
                      · rw [eM]
                        exact ml1 ⟨fun j hj => (ok1 j hj).mp (t2.mp rfl j hj), fun j hj => (ok2 j hj).mp (v2.mp rfl j hj)⟩
                      · have hl := ltr_l (t2.mp rfl k hk)
                        exact ⟨hl.2, t3 rfl k hk, by rw [← a7 k (by omega)]; exact hl.1⟩
                      · have hl := ltr_l (v2.mp rfl i hi)
                        exact ⟨hl.2, v3 rfl i hi, by rw [← b7 i (by omega)]; exact hl.1⟩
                · have c5f : inR x4 (1 : Nat) ((60 : Nat) + 1) = false := Bool.eq_false_iff.mpr c5
                  have c5' := inR_f c5f
                  rw [c5f, if_pos (show bI false = 0 from rfl)] at eM
                  refine Or.inl ⟨5, (wl, rl, rw0, wd), by omega, by omega, ?_, eM⟩
                  rw [eC]
                  by_cases d1 : x4 < nI 1
                  · rw [if_pos d1]
                  · rw [if_neg d1, if_neg (show ¬ x4 ≤ nI 60 by rw [x_lt (by omega)] at d1; rw [x_le (by omega)]; omega)]
              · have c4f : inR x2 (1 : Nat) ((10 : Nat) + 1) = false := Bool.eq_false_iff.mpr c4
                have c4' := inR_f c4f
                rw [c4f, if_pos (show bI false = 0 from rfl)] at eM
                refine Or.inl ⟨5, (wl, rl, rw0, wd), by omega, by omega, ?_, eM⟩
                rw [eC]
                by_cases d1 : x2 < nI 1
                · rw [if_pos d1]
                · rw [if_neg d1, if_pos (show nI 10 < x2 by rw [x_lt (by omega)] at d1; rw [x_gt (by omega)]; omega)]
            · rw [if_neg c3] at eC eM
              exact Or.inl ⟨4, _, by omega, by omega, eC, eM⟩
end LD
