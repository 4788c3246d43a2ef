/-! an ORDER that is told -/
theorem php : ∀ (n : Nat) (f : Nat → Nat), (∀ i, i < n + 1 → f i < n) → (∀ i j, i < n + 1 → j < n + 1 → f i = f j → i = j) → False
  | 0, f, h, _ => absurd (h 0 (by omega)) (Nat.not_lt_zero _)
  | n + 1, f, h, hi => by
    have hne : ∀ i, i < n + 1 → f i ≠ f (n + 1) := fun i h1 h2 => by have := hi i (n + 1) (by omega) (by omega) h2; omega
    have hl := h (n + 1) (by omega)
    refine php n (fun i => if f (n + 1) < f i then f i - 1 else f i) (fun i h1 => ?_) (fun i j h1 h2 h3 => ?_)
    · have a := h i (by omega)
      have b := hne i h1
      show (if f (n + 1) < f i then f i - 1 else f i) < n
      split <;> omega
    · have a := hne i h1
      have b := hne j h2
      have h3' : (if f (n + 1) < f i then f i - 1 else f i) = (if f (n + 1) < f j then f j - 1 else f j) := h3
      refine hi i j (by omega) (by omega) ?_
      split at h3' <;> split at h3' <;> omega
section OR
variable {B : Nat → Nat} {E fu : Nat} {tp tq : Nat → Int32} {K : Nat → Int64} {pl nx kd kk : Nat} {wd wd2 : Int64} {nu nu2 le fk fp ba : Int32} {c : Nat → Int32} {σ ρ : Nat → Nat} {wds cn sn pn : Nat → Int64} {od : Nat → Int32}
theorem wd_3 (h : WD σ) : WD (up σ 3 0) := by
  obtain ⟨⟨h0, h1, h2, h3⟩, hk, hl, hp, ho, hi, hz⟩ := h
  refine ⟨⟨?_, ?_, ?_, ?_⟩, fun k hk1 => ?_, fun s hs => ?_, fun p hp1 => ?_, fun i hi1 => ?_, fun i j hi1 hj1 he => ?_, fun i hi1 => ?_⟩
  · rw [up_n _ _ (by omega)]; exact h0
  · rw [up_n _ _ (by omega)]; exact h1
  · rw [up_n _ _ (by omega)]; exact h2
  · rw [up_s]; omega
  · simp (disch := omega) only [up_n]
    exact hk k hk1
  · simp (disch := omega) only [up_n]
    exact hl s hs
  · simp (disch := omega) only [up_n]
    exact hp p hp1
  · rw [up_s] at hi1; omega
  · rw [up_s] at hi1; omega
  · rw [up_n _ _ (by omega)]
    exact hz i hi1
def sPut (ρ : Nat → Nat) (k : Nat) : Nat → Nat := up (up ρ (67 + ρ 3) k) 3 (ρ 3 + 1)
theorem sPut_3 {k : Nat} : sPut ρ k 3 = ρ 3 + 1 := up_s _ _ _
theorem sPut_n {k i : Nat} (h : i ≠ 3) (h2 : i ≠ 67 + ρ 3) : sPut ρ k i = ρ i := by unfold sPut; rw [up_n _ _ h, up_n _ _ h2]
theorem sPut_k {k : Nat} : sPut ρ k (67 + ρ 3) = k := by unfold sPut; rw [up_n _ _ (by omega), up_s]
theorem wd_put (h : WD ρ) {k : Nat} (hk : k < ρ 0) (h8 : ρ 3 < 8) (hn : ∀ i, i < ρ 3 → ρ (67 + i) ≠ k) : WD (sPut ρ k) := by
  obtain ⟨⟨h0, h1, h2, h3⟩, hkk, hl, hp, ho, hi, hz⟩ := h
  refine ⟨⟨?_, ?_, ?_, ?_⟩, fun k hk1 => ?_, fun s hs => ?_, fun p hp1 => ?_, fun i hi1 => ?_, fun i j hi1 hj1 he => ?_, fun i hi1 => ?_⟩
  · rw [sPut_n (by omega) (by omega)]; exact h0
  · rw [sPut_n (by omega) (by omega)]; exact h1
  · rw [sPut_n (by omega) (by omega)]; exact h2
  · rw [sPut_3]; omega
  · simp (disch := omega) only [sPut_n]
    exact hkk _ hk1
  · simp (disch := omega) only [sPut_n]
    exact hl s hs
  · simp (disch := omega) only [sPut_n]
    exact hp p hp1
  · rw [sPut_3] at hi1
    rw [sPut_n (i := 0) (by omega) (by omega)]
    by_cases e : i = ρ 3
    · rw [e, sPut_k]; exact hk
    · rw [sPut_n (by omega) (by omega)]; exact ho i (by omega)
  · rw [sPut_3] at hi1 hj1
    by_cases e : i = ρ 3
    · by_cases e2 : j = ρ 3
      · omega
      · rw [e, sPut_k, sPut_n (by omega) (by omega)] at he
        exact absurd he.symm (hn j (by omega))
    · by_cases e2 : j = ρ 3
      · rw [e2, sPut_k, sPut_n (by omega) (by omega)] at he
        exact absurd he (hn i (by omega))
      · rw [sPut_n (by omega) (by omega), sPut_n (by omega) (by omega)] at he
        exact hi i j (by omega) (by omega) he
  · rw [sPut_n (by omega) (by omega)]; exact hz i hi1
theorem aO_put {k : Nat} : upd (aO od ρ) (ρ 3) (nI k) = aO od (sPut ρ k) := by
  unfold aO
  rw [sPut_3]
  have := mkF_step (b := od) (f := fun i => sPut ρ k (67 + i)) (j := ρ 3)
  rw [show sPut ρ k (67 + ρ 3) = k from sPut_k] at this
  rw [← this]
  congr 1
  exact mkF_congr (fun i hi => by rw [sPut_n (by omega) (by omega)])
theorem up3_put {k m : Nat} : up (up ρ 3 m) (67 + ρ 3) k = up (sPut ρ k) 3 m := by
  funext i
  unfold sPut up
  by_cases e : i = 3
  · rw [if_neg (by omega), if_pos e, if_pos e]
  · rw [if_neg e, if_neg e, if_neg e]
theorem up3_end {m : Nat} : up (up ρ 3 m) 3 (ρ 3) = ρ := by
  funext i
  unfold up
  by_cases e : i = 3
  · rw [if_pos e, e]
  · rw [if_neg e, if_neg e]
theorem sPlace_no {k : Nat} (h : sPlace ρ k = none) : ∀ i, i < ρ 3 → ρ (67 + i) ≠ k := by
  have g : ∀ {n j : Nat}, sPlaceN ρ k n j = none → ∀ i, j ≤ i → i < j + n → ρ (67 + i) ≠ k := by
    intro n
    induction n with
    | zero => intro j _ i h1 h2; omega
    | succ n ih =>
      intro j h i h1 h2
      unfold sPlaceN at h
      split at h
      · cases h
      · rename_i hne
        by_cases e : i = j
        · subst e; exact hne
        · exact ih h i (by omega) (by omega)
  intro i hi
  exact g h i (Nat.zero_le _) (by omega)
theorem order_G (h : TX B E tp tq) (hK : ∀ k, k < 24 → K k = lN (KEY k)) (hfu : 2000 < fu) {m : Nat} :
    ∀ (r : Nat) (ρ : Nat → Nat) (S : Nat) (N N2 pl nx kd kk : Nat) (wd wd2 : Int64) (nu nu2 le : Int32), ρ 3 + r = 9 → r < N → r < N2 → WD ρ → (∀ k, k < ρ 0 → cn k = wds (20 * 4 + fr 0 + k)) → S < 256 → (∀ k, k < 8 → (S.testBit k = true ↔ ∃ i, i < ρ 3 ∧ ρ (67 + i) = k)) → TOK B E pl nx kd kk wd nu nu2 le wd2 →
    (∃ (ρ' : Nat → Nat), ∃ y1 y2 y3 y4 y5 y6 r pl' nx' kd' kk' wd' nu' nu2' le' wd2', pl ≤ pl' ∧ TOK B E pl' nx' kd' kk' wd' nu' nu2' le' wd2' ∧
      f_X2_takeOrder_25 fu (nI E) K tp (nI (ρ 0)) cn N (nI 1) (nI (ρ 3)) (nI 1) (nI nx) (nI kd) (nI pl) wd (kI kk) nu fk fp (nI (ρ 3)) (aO od ρ) = some (nI 1, nI 1, nI nx', nI kd', nI pl', wd', kI kk', nu', fk, fp, nI (ρ' 3), aO od ρ') ∧
      (∀ ot : Int32, f_X12_readOrder_10 fu (nI E) tq wds N2 (nI (ρ 3)) (nI S) (nI 1) (nI 0) ba (nI kd) (nI pl) (nI nx) nu2 le wd2 ot (mk4 c (up ρ 3 m)) = some (nI 0, ba, y1, y2, y3, y4, y5, y6, nI 1, mk4 c ρ')) ∧
      f_X12_isSign (nI 59) y1 y4 = some r ∧ f_X12_must fu r (nI E) (nI 0) ba y1 y2 y3 y4 y5 y6 tq = some (nI 0, ba, nI kd', nI pl', nI nx', nu2', le', wd2') ∧
      WD ρ' ∧ (∀ i, i ≠ 3 → ¬ (67 ≤ i ∧ i < 75) → ρ' i = ρ i)) ∨
    (∃ k p, 1 ≤ k ∧ k ≤ 7 ∧ ∃ u0 u1 u2 u3 : Int32, ∃ u4 : Int64, ∃ u5 u6 o1 : Int32, ∃ (o2 : Nat → Int32), ∃ y1 y2 y3 y4 y5 y6 y7 : Int32, ∃ y8 : Int64, ∃ (c' : Nat → Int32), ∃ r z1 z2 z3 z4 z5 : Int32, ∃ z6 : Int64,
      f_X2_takeOrder_25 fu (nI E) K tp (nI (ρ 0)) cn N (nI 1) (nI (ρ 3)) (nI 1) (nI nx) (nI kd) (nI pl) wd (kI kk) nu fk fp (nI (ρ 3)) (aO od ρ) = some (nI 0, u0, u1, u2, u3, u4, u5, u6, nI k, nI p, o1, o2) ∧
      (∀ ot : Int32, ∃ ot', f_X12_readOrder_10 fu (nI E) tq wds N2 (nI (ρ 3)) (nI S) (nI 1) (nI 0) ba (nI kd) (nI pl) (nI nx) nu2 le wd2 ot (mk4 c (up ρ 3 m)) = some (y1, y2, y3, y4, y5, y6, y7, y8, ot', c')) ∧
      (∀ i, i < 1560 → c' i = c i) ∧
      f_X12_isSign (nI 59) y3 y6 = some r ∧ f_X12_must fu r (nI E) y1 y2 y3 y4 y5 y6 y7 y8 tq = some (nI k, nI p, z1, z2, z3, z4, z5, z6)) := by
  intro r
  induction r with
  | zero =>
    intro ρ S N N2 pl nx kd kk wd wd2 nu nu2 le hr hN hN2 w
    have := w.1.2.2.2
    omega
  | succ r ih =>
    intro ρ S N N2 pl nx kd kk wd wd2 nu nu2 le hr hN hN2 w hcn hS hSb T
    obtain ⟨N, rfl⟩ : ∃ q, N = q + 1 := ⟨N - 1, by omega⟩
    obtain ⟨N2, rfl⟩ : ∃ q, N2 = q + 1 := ⟨N2 - 1, by omega⟩
    obtain ⟨⟨h0, h1, h2, h3⟩, hkk, -⟩ := id w
    have hT := T.1
    have q0 : mk4 c (up ρ 3 m) (390 * 4 + 0) = nI (ρ 0) := by
      rw [show 390 * 4 + 0 = 1560 + 0 from rfl, mk4_in (by omega), up_n _ _ (by omega)]
    have hmk : ∀ {τ : Nat → Nat} (i : Nat), i < 1560 → mk4 c τ i = c i := fun i hi => mk4_lo hi
    unfold f_X2_takeOrder_25 f_X12_readOrder_10
    rw [if_neg (show ¬ nI 8 < nI (ρ 3) by rw [nI_lt' (by omega) (by omega)]; omega), if_neg (show ¬ nI 1 = 0 by decide)]
    simp only [if_pos (show nI 0 = 0 from rfl), if_neg (show ¬ nI 1 = 0 by decide)]
    rcases r_old (fu := fu) (ba := ba) (fk := fk) (fp := fp) (wds := wds) (c := mk4 c (up ρ 3 m)) (b := 4) (s := 0) (n := ρ 0) (n1 := 8) (row := cn) h hK T (by omega) (by omega) (by rw [if_pos rfl]; omega) h0 (by omega) q0 hcn hfu with ⟨j, pl2, nx2, kd2, kk2, wd2', nu2', nu22, le2, wd22, b1, b2, b3, b3', T2, b5, b6, b7, b8⟩ | ⟨k, b1, b2, b3, b4, b5⟩
    · have t2 := T2.1
      have hh := has12 (a := S) (k := j) (by omega) (by omega)
      simp only [b5, b6, bd_s, if_pos (show nI 0 = 0 from rfl), hh]
      rw [if_neg (show ¬ nI j = (-1 : Int32) by rw [nI_ne_m1 (by omega)]; exact id), c_placeOf w.wf (by omega) (by omega), bd_s]
      cases hp : sPlace ρ j with
      | some i =>
        obtain ⟨i1, i2⟩ := sPlace_some hp
        have hb : S.testBit j = true := (hSb j (by omega)).mpr ⟨i, i1, i2⟩
        rw [if_neg (show ¬ oI (some i) = (-1 : Int32) by rw [oI_s, nI_ne_m1 (by omega)]; exact id)]
        simp only [hb, if_neg (show ¬ bI true = 0 by decide), m_fail0, bd_s]
        obtain ⟨r2, hr2⟩ := is_some (nI kd) nu2
        refine Or.inr ⟨5, pl, by omega, by omega, _, _, _, _, _, _, _, _, _, nI 5, nI pl, nI kd, nI pl, nI nx, nu2, le, wd2, mk4 c (up ρ 3 m), r2, _, _, _, _, _, _, gd_0 _, fun ot => ⟨ot, ?_⟩, hmk, hr2, b_must (by omega) (by omega)⟩
        unfold f_X12_readOrder_54
        rw [b_must (by omega) (by omega), bd_s]
        simp only
        rw [if_neg (b_le (k := 5) (by omega) (by omega))]
      | none =>
        have hno := sPlace_no hp
        have hb : S.testBit j = false := by
          cases hq : S.testBit j
          · rfl
          · obtain ⟨i, i1, i2⟩ := (hSb j (by omega)).mp hq
            exact absurd i2 (hno i i1)
        have h38 : ρ 3 < 8 := by
          rcases Nat.lt_or_ge (ρ 3) 8 with q | q
          · exact q
          · exfalso
            refine php 8 (fun i => if i < 8 then ρ (67 + i) else j) (fun i hi => ?_) (fun i i' hi hi' he => ?_)
            · show (if i < 8 then ρ (67 + i) else j) < 8
              split
              · have := w.2.2.2.2.1 i (by omega); omega
              · omega
            · have he' : (if i < 8 then ρ (67 + i) else j) = (if i' < 8 then ρ (67 + i') else j) := he
              by_cases e1 : i < 8
              · by_cases e2 : i' < 8
                · rw [if_pos e1, if_pos e2] at he'
                  exact w.2.2.2.2.2.1 i i' (by omega) (by omega) he'
                · rw [if_pos e1, if_neg e2] at he'
                  exact absurd he' (hno i (by omega))
              · by_cases e2 : i' < 8
                · rw [if_neg e1, if_pos e2] at he'
                  exact absurd he'.symm (hno i' (by omega))
                · omega
        have hpw : 2 ^ j < 2 ^ 8 := pw_lt (by omega)
        have w' := wd_put w b1 h38 hno
        have hm2 := m_isSign T2
        have e54 : ∀ ot : Int32, f_X12_readOrder_54 fu (nI E) tq wds (f_X12_readOrder_10 fu (nI E) tq wds N2) (nI (ρ 3)) (nI S) (nI j) (nI 0) ba (nI kd) (nI pl) (nI nx) nu2 le wd2 ot (mk4 c (up ρ 3 m)) = if kd2 = 1 then f_X12_readOrder_10 fu (nI E) tq wds N2 (nI (sPut ρ j 3)) (nI (S ||| 2 ^ j)) (nI 1) (nI 0) ba (nI kd2) (nI pl2) (nI nx2) nu22 le2 wd22 ot (mk4 c (up (sPut ρ j) 3 m)) else f_X12_readOrder_10 fu (nI E) tq wds N2 (nI (sPut ρ j 3)) (nI (S ||| 2 ^ j)) (nI 0) (nI 0) ba (nI kd2) (nI pl2) (nI nx2) nu22 le2 wd22 ot (mk4 c (up (sPut ρ j) 3 m)) := by
          intro ot
          unfold f_X12_readOrder_54
          rw [b7, bd_s]
          simp only
          rw [if_pos (show nI 0 ≤ 0 by decide), nI_add, gi_n (by omega) (by omega), nI_cl (by omega)]
          simp (disch := omega) only [nI_1shl, nI_or, lt_, nI_add, mk4_up]
          rw [show 1627 + ρ 3 - 1560 = 67 + ρ 3 by omega, up3_put, sPut_3]
          by_cases e : kd2 = 1
          · rw [if_pos (show nI kd2 = nI 1 by rw [e]), if_pos e]
          · rw [if_neg (show ¬ nI kd2 = nI 1 by rw [nI_eq' (by omega) (by omega)]; exact e), if_neg e]
        have eend : ∀ ot : Int32, f_X12_readOrder_10 fu (nI E) tq wds N2 (nI (sPut ρ j 3)) (nI (S ||| 2 ^ j)) (nI 0) (nI 0) ba (nI kd2) (nI pl2) (nI nx2) nu22 le2 wd22 ot (mk4 c (up (sPut ρ j) 3 m)) = some (nI 0, ba, nI kd2, nI pl2, nI nx2, nu22, le2, wd22, nI 1, mk4 c (sPut ρ j)) := by
          intro ot
          obtain ⟨N3, e3⟩ : ∃ q, N2 = q + 1 := ⟨N2 - 1, by omega⟩
          rw [e3]
          unfold f_X12_readOrder_10
          rw [if_pos (show nI 0 = 0 from rfl), if_pos (show nI 0 = 0 from rfl)]
          unfold f_X12_readOrder_106
          rw [gi_n (by omega) (by omega), nI_cl (by omega), mk4_up (by omega) (by omega), show 1563 - 1560 = 3 from rfl, up3_end]
        rw [if_pos (show oI none = (-1 : Int32) from rfl), if_pos (show nI (ρ 3) < nI 8 by rw [nI_lt' (by omega) (by omega)]; exact h38), gi_n (by omega) (by omega), c_atSemi h T2]
        simp (disch := omega) only [nI_add, lt_, bd_s, nI_cl, aO_put]
        simp only [hb, if_pos (show bI false = 0 from rfl), e54]
        rw [show ρ 3 + 1 = sPut ρ j 3 from sPut_3.symm]
        have e0 : sPut ρ j 0 = ρ 0 := sPut_n (by omega) (by omega)
        by_cases hs : kd2 = 3 ∧ B pl2 = 59
        · -- the end
          have hsm : smB B pl2 kd2 = true := decide_eq_true hs
          rw [hsm, if_neg (show ¬ bI true = 0 by decide)]
          simp only [if_neg (show ¬ kd2 = 1 by omega), eend]
          obtain ⟨N3, e3⟩ : ∃ q, N = q + 1 := ⟨N - 1, by omega⟩
          have hcl : f_X2_takeOrder_25 fu (nI E) K tp (nI (ρ 0)) cn N (nI 0) (nI (sPut ρ j 3)) (nI 1) (nI nx2) (nI kd2) (nI pl2) wd2' (kI kk2) nu2' fk fp (nI (sPut ρ j 3)) (aO od (sPut ρ j)) = bd_ (f_X8_closes fu (nI E) (nI nx2) (nI kd2) (nI pl2) wd2' (kI kk2) nu2' fk fp K tp) (fun z => match z with | (r14, u15, u16, u17, u18, u19, u20, u21, u22) => gd_ (r14 = 0 ∨ r14 = 1) (some (r14, nI 1, u15, u16, u17, u18, u19, u20, u21, u22, nI (sPut ρ j 3), aO od (sPut ρ j)))) := by
            rw [e3]
            conv => lhs; unfold f_X2_takeOrder_25
            rw [if_neg (show ¬ nI 8 < nI (sPut ρ j 3) by rw [sPut_3, nI_lt' (by omega) (by omega)]; omega), if_pos (show nI 0 = 0 from rfl)]
          rw [hcl]
          rcases r_semi (fu := fu) (ba := ba) (fk := fk) (fp := fp) h hK T2 hfu with ⟨pl4, nx4, kd4, kk4, wd4, nu4, nu24, le4, wd24, e1, T4, e3, e4, e5, e6⟩ | ⟨e1, e2, e3⟩
          · have t4 := T4.1
            rw [e5, bd_s]
            exact Or.inl ⟨sPut ρ j, _, _, _, _, _, _, _, pl4, nx4, kd4, kk4, wd4, nu4, nu24, le4, wd24, by omega, T4, gd_1 _, fun _ => rfl, hm2, e6, w', fun i hi1 hi2 => sPut_n hi1 (by omega)⟩
          · exact absurd hs e1
        · have hsm : smB B pl2 kd2 = false := decide_eq_false hs
          rw [hsm, if_pos (show bI false = 0 from rfl)]
          by_cases hk1 : kd2 = 1
          · -- one more
            simp only [if_pos hk1]
            have hSb' : ∀ k, k < 8 → ((S ||| 2 ^ j).testBit k = true ↔ ∃ i, i < sPut ρ j 3 ∧ sPut ρ j (67 + i) = k) := by
              intro k hk
              rw [Nat.testBit_or, Nat.testBit_two_pow, sPut_3]
              constructor
              · intro hq
                by_cases ek : j = k
                · exact ⟨ρ 3, by omega, by rw [sPut_k]; exact ek⟩
                · rw [decide_eq_false ek, Bool.or_false] at hq
                  obtain ⟨i, i1, i2⟩ := (hSb k hk).mp hq
                  exact ⟨i, by omega, by rw [sPut_n (by omega) (by omega)]; exact i2⟩
              · rintro ⟨i, i1, i2⟩
                by_cases ei : i = ρ 3
                · rw [ei, sPut_k] at i2
                  rw [decide_eq_true i2, Bool.or_true]
                · rw [sPut_n (by omega) (by omega)] at i2
                  rw [(hSb k hk).mpr ⟨i, by omega, i2⟩]; rfl
            have hI := ih (sPut ρ j) (S ||| 2 ^ j) N N2 pl2 nx2 kd2 kk2 wd2' wd22 nu2' nu22 le2 (by rw [sPut_3]; omega) (by omega) (by omega) w' (by rw [e0]; exact hcn) (or_lt (n := 8) hS hpw) hSb' T2
            rw [e0] at hI
            rcases hI with ⟨ρ', y1, y2, y3, y4, y5, y6, r', pl', nx', kd', kk', wd', nu', nu2'', le', wd2'', a1, a2, a3, a4, a5, a6, a7, a8⟩ | hbad
            · exact Or.inl ⟨ρ', y1, y2, y3, y4, y5, y6, r', pl', nx', kd', kk', wd', nu', nu2'', le', wd2'', by omega, a2, a3, a4, a5, a6, a7, fun i hi1 hi2 => by rw [a8 i hi1 hi2, sPut_n hi1 (by omega)]⟩
            · exact Or.inr hbad
          · -- what cannot stand there
            simp only [if_neg hk1, eend]
            have hb2 := fK_b (kd := kd2) (x := 2) (by omega) (by omega)
            have hnm : nmB pl2 nx2 kd2 kk2 = false := decide_eq_false (fun q => hk1 q.1)
            obtain ⟨N3, e3⟩ : ∃ q, N = q + 1 := ⟨N - 1, by omega⟩
            have hcl : f_X2_takeOrder_25 fu (nI E) K tp (nI (ρ 0)) cn N (nI 1) (nI (sPut ρ j 3)) (nI 1) (nI nx2) (nI kd2) (nI pl2) wd2' (kI kk2) nu2' fk fp (nI (sPut ρ j 3)) (aO od (sPut ρ j)) = some (nI 0, nI 1, nI nx2, nI kd2, nI pl2, wd2', kI kk2, nu2', nI (fK kd2 2), nI pl2, nI (sPut ρ j 3), aO od (sPut ρ j)) := by
              rw [e3]
              unfold f_X2_takeOrder_25
              rw [if_neg (show ¬ nI 8 < nI (sPut ρ j 3) by rw [sPut_3, nI_lt' (by omega) (by omega)]; omega), if_neg (show ¬ nI 1 = 0 by decide)]
              unfold f_X8_oneOf
              rw [c_nameHere T2 h.1, hnm, if_neg (show ¬ (false = true) by decide), bd_s]
              simp only
              rw [if_pos (show lg_cmp (-1 : Int64) (-1 : Int64) = 0 by decide), bd_s]
              simp only
              rw [if_pos trivial]
            rw [hcl]
            have hmu : f_X12_must fu (bI (smB B pl2 kd2)) (nI E) (nI 0) ba (nI kd2) (nI pl2) (nI nx2) nu22 le2 wd22 tq = some (nI (fK kd2 2), nI pl2, nI kd2, nI pl2, nI nx2, nu22, le2, wd22) := by
              unfold f_X12_must
              rw [hsm, if_pos (show nI 0 ≤ 0 by decide), if_pos (show bI false = 0 from rfl), m_amiss (by omega), bd_s, fK_nI]
            exact Or.inr ⟨fK kd2 2, pl2, hb2.1, hb2.2, _, _, _, _, _, _, _, _, _, _, _, _, _, _, _, _, _, mk4 c (sPut ρ j), _, _, _, _, _, _, _, rfl, fun _ => ⟨_, rfl⟩, hmk, hm2, hmu⟩
    · obtain ⟨r2, hr2⟩ := is_some (nI kd) nu2
      simp only [b3, b4, bd_s]
      rw [if_pos trivial]
      refine Or.inr ⟨k, pl, b1, b2, _, _, _, _, _, _, _, _, _, nI k, nI pl, nI kd, nI pl, nI nx, nu2, le, wd2, mk4 c (up ρ 3 m), r2, _, _, _, _, _, _, rfl, fun ot => ⟨ot, ?_⟩, hmk, hr2, b_must b1 b2⟩
      rw [if_neg (b_eq b1 b2)]
      unfold f_X12_readOrder_54
      rw [b_must b1 b2, bd_s]
      simp only
      rw [if_neg (b_le b1 b2)]
end OR
