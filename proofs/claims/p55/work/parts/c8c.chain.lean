/-! a BOOK whose text is known, part by part to its end -/
def PP (fu E : Nat) (K : Nat → Int64) (tp : Nat → Int32) (B : Nat → Nat) (fk fp : Int32) (Q : Nat → Nat → Int32) (oF : Nat) (σF : Nat → Nat) (R : List Nat) (o : Nat) (σ : Nat → Nat) : Prop := ∀ (cn sn pn : Nat → Int64) (od : Nat → Int32), NV cn sn pn (σ 0) (σ 1) (σ 2) → ∀ a, Txt B E a R → FR fu E K tp a (fun nx kd pl wd kk nu => ∀ N i, R.length < N → i + R.length < 900 → ∃ (cn' sn' pn' : Nat → Int64) (od' : Nat → Int32), ∃ y1 y2 y3 : Int32, ∃ y4 : Int64, ∃ y5 y6 : Int32, t14 fu E K tp N (nI 1) (nI i) (nI o) (nI nx) (nI kd) (nI pl) wd (kI kk) nu fk fp σ cn sn pn od Q = t163 fu E K tp (nI 1) (nI oF) y1 y2 y3 y4 y5 y6 fk fp σF cn' sn' pn' od' Q)
section CH
variable {B : Nat → Nat} {E fu : Nat} {tp : Nat → Int32} {K : Nat → Int64} {fk fp : Int32} {Q : Nat → Nat → Int32} {oF o : Nat} {σF σ : Nat → Nat} {R : List Nat}
theorem pp_nil (h : TX B E tp tp) (hfu : 2000 < fu) : PP fu E K tp B fk fp Q oF σF [] oF σF := by
  intro cn sn pn od hN a hT x1 x2 x3 x4 x5
  refine ⟨E, 0, E, x3, 24, x5, fw_end h hT hfu x1 x2 x3 x4 x5, fun N i hNl hi => ?_⟩
  obtain ⟨N, rfl⟩ : ∃ q, N = q + 1 := ⟨N - 1, by omega⟩
  refine ⟨cn, sn, pn, od, nI E, nI 0, nI E, x3, kI 24, x5, ?_⟩
  unfold t14 t163
  conv => lhs; unfold f_X2_take_14
  rw [if_neg (show ¬ nI 1 = 0 by decide), if_pos (show nI 0 = 0 from rfl)]
  split <;> rfl
theorem kI_no {k j : Nat} (hk : k < 12) (hj : j < 12) (h : k ≠ j) : ¬ kI k = nI j := by rw [kI_eq (by omega) (by omega)]; exact h
theorem pp_cell (h : TX B E tp tp) (hK : ∀ k, k < 24 → K k = lN (KEY k)) (hfu : 2000 < fu) (w : WD σ) (h8 : σ 0 < 8) {v : Nat} {b r : Bool} (hv : v ≤ 20) (hP : PP fu E K tp B fk fp Q oF σF R o (sCl σ v b r)) : PP fu E K tp B fk fp Q oF σF (sb 1 ++ cT (σ 0) v b r R) o σ := by
  intro cn sn pn od hN a hT x1 x2 x3 x4 x5
  obtain ⟨⟨h0, h1, h2, h3⟩, -⟩ := id w
  obtain ⟨a1, p1, f1, T1, -⟩ := fw_kw (a := a) h hK (s := []) (k := 0) (R := cT (σ 0) v b r R) (Or.inl rfl) (by omega) rfl hT hfu
  refine ⟨a1, 1, p1, lN (KEY 0), 0, x5, f1 x1 x2 x3 x4 x5, fun N i hNl hi => ?_⟩
  have hlen : (sb 1 ++ cT (σ 0) v b r R).length ≥ R.length + 2 := by
    unfold cT
    simp only [List.length_append, show (sb 1).length = 4 from rfl]
    omega
  obtain ⟨N, rfl⟩ : ∃ q, N = q + 1 := ⟨N - 1, by omega⟩
  have hs : ∀ i, i ≠ 0 → ¬ (9 ≤ i ∧ i < 33) → sCl σ v b r i = σ i := fun i hi1 hi2 => sCl_ne hi1 (by omega) (by omega) (by omega)
  have hN2 : NV (vp_updL cn (σ 0) (lN (nmv 99 (σ 0)))) sn pn (sCl σ v b r 0) (sCl σ v b r 1) (sCl σ v b r 2) := by
    rw [sCl_0, hs 1 (by omega) (by omega), hs 2 (by omega) (by omega)]
    refine ⟨fun k hk => ?_, hN.2.1, hN.2.2⟩
    by_cases e : k = σ 0
    · rw [e]; exact if_pos rfl
    · exact (if_neg e).trans (hN.1 k (by omega))
  obtain ⟨nx', kd', pl', wd', kk', nu', e1, g⟩ := st_cell (fk := fk) (fp := fp) (sp := Q 5) h hK (fun a hT => hP _ sn pn od hN2 a hT) w h8 hv hN T1 hfu (nI 1) (nI p1) (kI 0) x5 (lN (KEY 0))
  obtain ⟨cn', sn', pn', od', y1, y2, y3, y4, y5, y6, e2⟩ := g N (i + 1) (by omega) (by omega)
  refine ⟨cn', sn', pn', od', y1, y2, y3, y4, y5, y6, e2 ▸ ?_⟩
  unfold t14
  conv => lhs; unfold f_X2_take_14
  rw [if_neg (show ¬ nI 900 ≤ nI i by rw [nI_le' (by omega) (by omega)]; omega), if_neg (show ¬ nI 1 = 0 by decide), if_neg (show ¬ nI 1 = 0 by decide), if_pos (show kI 0 = nI 0 from rfl)]
  rw [e1, bd_s]
  simp only [lt_, nI_add]
  rw [hs 1 (by omega) (by omega), hs 2 (by omega) (by omega), hs 3 (by omega) (by omega), aLq (b := Q 0) (hs 1 (by omega) (by omega)) h1 (fun j _ _ => hs j (by omega) (by omega)), aK_c (b := Q 1) (σ := sCl σ v b r) (τ := σ) (fun j _ _ => hs j (by omega) (by omega)), aOq (b := od) (hs 3 (by omega) (by omega)) h3 (fun j _ _ => hs j (by omega) (by omega)), aXq (b := Q 3) (fun j _ _ => hs j (by omega) (by omega)), aRq (b := Q 4) (hs 2 (by omega) (by omega)) h2 (fun j _ _ => hs j (by omega) (by omega))]
theorem pp_secret (h : TX B E tp tp) (hK : ∀ k, k < 24 → K k = lN (KEY k)) (hfu : 2000 < fu) (w : WD σ) (h6 : σ 1 < 6) {v : Nat} (hv1 : 1 ≤ v) (hv : v ≤ 20) (hP : PP fu E K tp B fk fp Q oF σF R o (up (up σ (49 + σ 1) v) 1 (σ 1 + 1))) : PP fu E K tp B fk fp Q oF σF (sb 6 ++ (tN 115 (σ 1) ++ (sb 7 ++ (tV v ++ (59 :: R))))) o σ := by
  intro cn sn pn od hN a hT x1 x2 x3 x4 x5
  obtain ⟨⟨h0, h1, h2, h3⟩, -⟩ := id w
  obtain ⟨a1, p1, f1, T1, -⟩ := fw_kw (a := a) h hK (s := []) (k := 4) (R := tN 115 (σ 1) ++ (sb 7 ++ (tV v ++ (59 :: R)))) (Or.inl rfl) (by omega) rfl hT hfu
  refine ⟨a1, 1, p1, lN (KEY 4), 4, x5, f1 x1 x2 x3 x4 x5, fun N i hNl hi => ?_⟩
  have hlen : (sb 6 ++ (tN 115 (σ 1) ++ (sb 7 ++ (tV v ++ (59 :: R))))).length ≥ R.length + 2 := by
    simp only [List.length_append, List.length_cons, show (sb 6).length = 6 from rfl]
    omega
  obtain ⟨N, rfl⟩ : ∃ q, N = q + 1 := ⟨N - 1, by omega⟩
  generalize hσ : up (up σ (49 + σ 1) v) 1 (σ 1 + 1) = τ at hP
  have hs : ∀ i, i ≠ 1 → ¬ (49 ≤ i ∧ i < 55) → τ i = σ i := fun i hi1 hi2 => by rw [← hσ, up_n _ _ hi1, up_n _ _ (by omega)]
  have hs1 : τ 1 = σ 1 + 1 := by rw [← hσ, up_s]
  have hN2 : NV cn (vp_updL sn (σ 1) (lN (nmv 115 (σ 1)))) pn (τ 0) (τ 1) (τ 2) := by
    rw [hs1, hs 0 (by omega) (by omega), hs 2 (by omega) (by omega)]
    refine ⟨hN.1, fun k hk => ?_, hN.2.2⟩
    by_cases e : k = σ 1
    · rw [e]; exact if_pos rfl
    · exact (if_neg e).trans (hN.2.1 k (by omega))
  obtain ⟨nx', kd', pl', wd', kk', nu', e1, g⟩ := st_secret (fk := fk) (fp := fp) (lt := Q 0) h hK (fun a hT => hP cn _ pn od hN2 a hT) w h6 hv1 hv hN T1 hfu (nI 1) (nI p1) (kI 4) x5 (lN (KEY 4))
  rw [hσ] at e1
  obtain ⟨cn', sn', pn', od', y1, y2, y3, y4, y5, y6, e2⟩ := g N (i + 1) (by omega) (by omega)
  refine ⟨cn', sn', pn', od', y1, y2, y3, y4, y5, y6, e2 ▸ ?_⟩
  unfold t14
  conv => lhs; unfold f_X2_take_14
  rw [if_neg (show ¬ nI 900 ≤ nI i by rw [nI_le' (by omega) (by omega)]; omega), if_neg (show ¬ nI 1 = 0 by decide), if_neg (show ¬ nI 1 = 0 by decide), if_neg (kI_no (by omega) (by omega) (by omega)), if_neg (kI_no (by omega) (by omega) (by omega)), if_neg (kI_no (by omega) (by omega) (by omega)), if_neg (kI_no (by omega) (by omega) (by omega)), if_pos (show kI 4 = nI 4 from rfl)]
  rw [e1, bd_s]
  simp only [lt_, nI_add]
  rw [hs 0 (by omega) (by omega), hs 2 (by omega) (by omega), hs 3 (by omega) (by omega), sBq (fun j _ _ => hs j (by omega) (by omega)), sRq (fun j _ _ => hs j (by omega) (by omega)), aK_c (b := Q 1) (σ := τ) (τ := σ) (fun j _ _ => hs j (by omega) (by omega)), aOq (b := od) (hs 3 (by omega) (by omega)) h3 (fun j _ _ => hs j (by omega) (by omega)), aXq (b := Q 3) (fun j _ _ => hs j (by omega) (by omega)), aRq (b := Q 4) (hs 2 (by omega) (by omega)) h2 (fun j _ _ => hs j (by omega) (by omega)), aPq (b := Q 5) (hs 0 (by omega) (by omega)) h0 (fun j _ _ => hs j (by omega) (by omega))]
theorem pp_page (h : TX B E tp tp) (hK : ∀ k, k < 24 → K k = lN (KEY k)) (hfu : 2000 < fu) (w : WD σ) (h6 : σ 2 < 6) {v : Nat} (hv : v ≤ 60) (hP : PP fu E K tp B fk fp Q oF σF R o (up (up σ (55 + σ 2) v) 2 (σ 2 + 1))) : PP fu E K tp B fk fp Q oF σF (sb 8 ++ (tN 112 (σ 2) ++ (sb 9 ++ (tV v ++ (59 :: R))))) o σ := by
  intro cn sn pn od hN a hT x1 x2 x3 x4 x5
  obtain ⟨⟨h0, h1, h2, h3⟩, -⟩ := id w
  obtain ⟨a1, p1, f1, T1, -⟩ := fw_kw (a := a) h hK (s := []) (k := 6) (R := tN 112 (σ 2) ++ (sb 9 ++ (tV v ++ (59 :: R)))) (Or.inl rfl) (by omega) rfl hT hfu
  refine ⟨a1, 1, p1, lN (KEY 6), 6, x5, f1 x1 x2 x3 x4 x5, fun N i hNl hi => ?_⟩
  have hlen : (sb 8 ++ (tN 112 (σ 2) ++ (sb 9 ++ (tV v ++ (59 :: R))))).length ≥ R.length + 2 := by
    simp only [List.length_append, List.length_cons, show (sb 8).length = 4 from rfl]
    omega
  obtain ⟨N, rfl⟩ : ∃ q, N = q + 1 := ⟨N - 1, by omega⟩
  generalize hσ : up (up σ (55 + σ 2) v) 2 (σ 2 + 1) = τ at hP
  have hs : ∀ i, i ≠ 2 → ¬ (55 ≤ i ∧ i < 61) → τ i = σ i := fun i hi1 hi2 => by rw [← hσ, up_n _ _ hi1, up_n _ _ (by omega)]
  have hs1 : τ 2 = σ 2 + 1 := by rw [← hσ, up_s]
  have hN2 : NV cn sn (vp_updL pn (σ 2) (lN (nmv 112 (σ 2)))) (τ 0) (τ 1) (τ 2) := by
    rw [hs1, hs 0 (by omega) (by omega), hs 1 (by omega) (by omega)]
    refine ⟨hN.1, hN.2.1, fun k hk => ?_⟩
    by_cases e : k = σ 2
    · rw [e]; exact if_pos rfl
    · exact (if_neg e).trans (hN.2.2 k (by omega))
  obtain ⟨nx', kd', pl', wd', kk', nu', e1, g⟩ := st_page (fk := fk) (fp := fp) (rm := Q 4) h hK (fun a hT => hP cn sn _ od hN2 a hT) w h6 hv hN T1 hfu (nI 1) (nI p1) (kI 6) x5 (lN (KEY 6))
  rw [hσ] at e1
  obtain ⟨cn', sn', pn', od', y1, y2, y3, y4, y5, y6, e2⟩ := g N (i + 1) (by omega) (by omega)
  refine ⟨cn', sn', pn', od', y1, y2, y3, y4, y5, y6, e2 ▸ ?_⟩
  unfold t14
  conv => lhs; unfold f_X2_take_14
  rw [if_neg (show ¬ nI 900 ≤ nI i by rw [nI_le' (by omega) (by omega)]; omega), if_neg (show ¬ nI 1 = 0 by decide), if_neg (show ¬ nI 1 = 0 by decide), if_neg (kI_no (by omega) (by omega) (by omega)), if_neg (kI_no (by omega) (by omega) (by omega)), if_neg (kI_no (by omega) (by omega) (by omega)), if_neg (kI_no (by omega) (by omega) (by omega)), if_neg (kI_no (by omega) (by omega) (by omega)), if_neg (kI_no (by omega) (by omega) (by omega)), if_pos (show kI 6 = nI 6 from rfl)]
  rw [e1, bd_s]
  simp only [lt_, nI_add]
  rw [hs 0 (by omega) (by omega), hs 1 (by omega) (by omega), hs 3 (by omega) (by omega), sBq (fun j _ _ => hs j (by omega) (by omega)), sRq (fun j _ _ => hs j (by omega) (by omega)), aLq (b := Q 0) (hs 1 (by omega) (by omega)) h1 (fun j _ _ => hs j (by omega) (by omega)), aK_c (b := Q 1) (σ := τ) (τ := σ) (fun j _ _ => hs j (by omega) (by omega)), aOq (b := od) (hs 3 (by omega) (by omega)) h3 (fun j _ _ => hs j (by omega) (by omega)), aXq (b := Q 3) (fun j _ _ => hs j (by omega) (by omega)), aPq (b := Q 5) (hs 0 (by omega) (by omega)) h0 (fun j _ _ => hs j (by omega) (by omega))]
theorem pp_read (h : TX B E tp tp) (hK : ∀ k, k < 24 → K k = lN (KEY k)) (hfu : 2000 < fu) (w : WD σ) {p v : Nat} (hp : p < σ 2) (hv : v ≤ 16) (hP : PP fu E K tp B fk fp Q oF σF R o (up σ (61 + p) v)) : PP fu E K tp B fk fp Q oF σF (kwB 10 ++ (tN 112 p ++ (sb 11 ++ (tV v ++ (59 :: R))))) o σ := by
  intro cn sn pn od hN a hT x1 x2 x3 x4 x5
  obtain ⟨⟨h0, h1, h2, h3⟩, -⟩ := id w
  obtain ⟨a1, p1, f1, T1, -⟩ := fw_kw (a := a) h hK (s := []) (k := 10) (R := tN 112 p ++ (sb 11 ++ (tV v ++ (59 :: R)))) (Or.inl rfl) (by omega) rfl hT hfu
  refine ⟨a1, 1, p1, lN (KEY 10), 10, x5, f1 x1 x2 x3 x4 x5, fun N i hNl hi => ?_⟩
  have hlen : (kwB 10 ++ (tN 112 p ++ (sb 11 ++ (tV v ++ (59 :: R))))).length ≥ R.length + 2 := by
    simp only [List.length_append, List.length_cons, show (kwB 10).length = 4 from rfl]
    omega
  obtain ⟨N, rfl⟩ : ∃ q, N = q + 1 := ⟨N - 1, by omega⟩
  have hs : ∀ i, i ≠ 61 + p → up σ (61 + p) v i = σ i := fun i hi => up_n _ _ hi
  have hN2 : NV cn sn pn (up σ (61 + p) v 0) (up σ (61 + p) v 1) (up σ (61 + p) v 2) := by
    rw [hs 0 (by omega), hs 1 (by omega), hs 2 (by omega)]; exact hN
  obtain ⟨nx', kd', pl', wd', kk', nu', e1, g⟩ := st_read (fk := fk) (fp := fp) (xx := Q 3) h hK (fun a hT => hP cn sn pn od hN2 a hT) w hp hv hN T1 hfu (nI 1) (nI p1) (kI 10) x5 (lN (KEY 10))
  obtain ⟨cn', sn', pn', od', y1, y2, y3, y4, y5, y6, e2⟩ := g N (i + 1) (by omega) (by omega)
  refine ⟨cn', sn', pn', od', y1, y2, y3, y4, y5, y6, e2 ▸ ?_⟩
  unfold t14
  conv => lhs; unfold f_X2_take_14
  rw [if_neg (show ¬ nI 900 ≤ nI i by rw [nI_le' (by omega) (by omega)]; omega), if_neg (show ¬ nI 1 = 0 by decide), if_neg (show ¬ nI 1 = 0 by decide), if_neg (kI_no (by omega) (by omega) (by omega)), if_neg (kI_no (by omega) (by omega) (by omega)), if_neg (kI_no (by omega) (by omega) (by omega)), if_neg (kI_no (by omega) (by omega) (by omega)), if_neg (kI_no (by omega) (by omega) (by omega)), if_neg (kI_no (by omega) (by omega) (by omega)), if_neg (kI_no (by omega) (by omega) (by omega)), if_neg (kI_no (by omega) (by omega) (by omega)), if_neg (kI_no (by omega) (by omega) (by omega)), if_neg (kI_no (by omega) (by omega) (by omega)), if_pos (show kI 10 = nI 10 from rfl)]
  rw [e1, bd_s]
  simp only [lt_, nI_add]
  rw [hs 0 (by omega), hs 1 (by omega), hs 2 (by omega), hs 3 (by omega), sBq (fun j _ _ => hs j (by omega)), sRq (fun j _ _ => hs j (by omega)), aLq (b := Q 0) (hs 1 (by omega)) h1 (fun j _ _ => hs j (by omega)), aK_c (b := Q 1) (σ := up σ (61 + p) v) (τ := σ) (fun j _ _ => hs j (by omega)), aOq (b := od) (hs 3 (by omega)) h3 (fun j _ _ => hs j (by omega)), aRq (b := Q 4) (hs 2 (by omega)) h2 (fun j _ _ => hs j (by omega)), aPq (b := Q 5) (hs 0 (by omega)) h0 (fun j _ _ => hs j (by omega))]
theorem pp_knows (h : TX B E tp tp) (hK : ∀ k, k < 24 → K k = lN (KEY k)) (hfu : 2000 < fu) (w : WD σ) {c e : Nat} (hc : c < σ 0) (he : e < σ 1) (hP : PP fu E K tp B fk fp Q oF σF R o (up σ (33 + c) (σ (33 + c) ||| 2 ^ e))) : PP fu E K tp B fk fp Q oF σF (sb 12 ++ (tN 99 c ++ (tN 115 e ++ (59 :: R)))) o σ := by
  intro cn sn pn od hN a hT x1 x2 x3 x4 x5
  obtain ⟨⟨h0, h1, h2, h3⟩, -⟩ := id w
  obtain ⟨a1, p1, f1, T1, -⟩ := fw_kw (a := a) h hK (s := []) (k := 8) (R := tN 99 c ++ (tN 115 e ++ (59 :: R))) (Or.inl rfl) (by omega) rfl hT hfu
  refine ⟨a1, 1, p1, lN (KEY 8), 8, x5, f1 x1 x2 x3 x4 x5, fun N i hNl hi => ?_⟩
  have hlen : (sb 12 ++ (tN 99 c ++ (tN 115 e ++ (59 :: R)))).length ≥ R.length + 2 := by
    simp only [List.length_append, List.length_cons, show (sb 12).length = 5 from rfl]
    omega
  obtain ⟨N, rfl⟩ : ∃ q, N = q + 1 := ⟨N - 1, by omega⟩
  generalize hv : σ (33 + c) ||| 2 ^ e = v at hP
  have hs : ∀ i, i ≠ 33 + c → up σ (33 + c) v i = σ i := fun i hi => up_n _ _ hi
  have hN2 : NV cn sn pn (up σ (33 + c) v 0) (up σ (33 + c) v 1) (up σ (33 + c) v 2) := by
    rw [hs 0 (by omega), hs 1 (by omega), hs 2 (by omega)]; exact hN
  obtain ⟨nx', kd', pl', wd', kk', nu', e1, g⟩ := st_knows (fk := fk) (fp := fp) (kn := Q 1) h hK (fun a hT => hP cn sn pn od hN2 a hT) w hc he hN T1 hfu (nI 1) (nI p1) (kI 8) x5 (lN (KEY 8))
  rw [hv] at e1
  obtain ⟨cn', sn', pn', od', y1, y2, y3, y4, y5, y6, e2⟩ := g N (i + 1) (by omega) (by omega)
  refine ⟨cn', sn', pn', od', y1, y2, y3, y4, y5, y6, e2 ▸ ?_⟩
  unfold t14
  conv => lhs; unfold f_X2_take_14
  rw [if_neg (show ¬ nI 900 ≤ nI i by rw [nI_le' (by omega) (by omega)]; omega), if_neg (show ¬ nI 1 = 0 by decide), if_neg (show ¬ nI 1 = 0 by decide), if_neg (kI_no (by omega) (by omega) (by omega)), if_neg (kI_no (by omega) (by omega) (by omega)), if_neg (kI_no (by omega) (by omega) (by omega)), if_neg (kI_no (by omega) (by omega) (by omega)), if_neg (kI_no (by omega) (by omega) (by omega)), if_neg (kI_no (by omega) (by omega) (by omega)), if_neg (kI_no (by omega) (by omega) (by omega)), if_neg (kI_no (by omega) (by omega) (by omega)), if_pos (show kI 8 = nI 8 from rfl)]
  rw [e1, bd_s]
  simp only [lt_, nI_add]
  rw [hs 0 (by omega), hs 1 (by omega), hs 2 (by omega), hs 3 (by omega), sBq (fun j _ _ => hs j (by omega)), sRq (fun j _ _ => hs j (by omega)), aLq (b := Q 0) (hs 1 (by omega)) h1 (fun j _ _ => hs j (by omega)), aOq (b := od) (hs 3 (by omega)) h3 (fun j _ _ => hs j (by omega)), aXq (b := Q 3) (fun j _ _ => hs j (by omega)), aRq (b := Q 4) (hs 2 (by omega)) h2 (fun j _ _ => hs j (by omega)), aPq (b := Q 5) (hs 0 (by omega)) h0 (fun j _ _ => hs j (by omega))]
theorem pp_order (h : TX B E tp tp) (hK : ∀ k, k < 24 → K k = lN (KEY k)) (hfu : 2000 < fu) (w : WD σ) (hz3 : σ 3 = 0) {f : Nat → Nat} {n : Nat} (hn0 : 0 < n) (hn : n ≤ 8) (hf : ∀ i, i < n → f i < σ 0) (hu : ∀ i j, i < n → j < n → f i = f j → i = j) (hP : PP fu E K tp B fk fp Q oF σF R 1 (sOt σ f n)) : PP fu E K tp B fk fp Q oF σF (sb 13 ++ oTx f n 0 R) o σ := by
  intro cn sn pn od hN a hT x1 x2 x3 x4 x5
  obtain ⟨⟨h0, h1, h2, h3⟩, -⟩ := id w
  obtain ⟨a1, p1, f1, T1, -⟩ := fw_kw (a := a) h hK (s := []) (k := 9) (R := oTx f n 0 R) (Or.inl rfl) (by omega) BL_oTx hT hfu
  refine ⟨a1, 1, p1, lN (KEY 9), 9, x5, f1 x1 x2 x3 x4 x5, fun N i hNl hi => ?_⟩
  have hlo : ∀ n j, R.length ≤ (oTx f n j R).length := by
    intro n
    induction n with
    | zero => intro j; show R.length ≤ (59 :: R).length; rw [List.length_cons]; omega
    | succ n ih => intro j; show R.length ≤ (tN 99 (f j) ++ oTx f n (j + 1) R).length; rw [List.length_append]; have := ih (j + 1); omega
  have hlen : (sb 13 ++ oTx f n 0 R).length ≥ R.length + 2 := by
    have := hlo n 0
    simp only [List.length_append, show (sb 13).length = 5 from rfl]
    omega
  obtain ⟨N, rfl⟩ : ∃ q, N = q + 1 := ⟨N - 1, by omega⟩
  obtain ⟨qa, qb, qc⟩ := sOt_is (σ := σ) (f := f) hz3 n
  have hs : ∀ i, i ≠ 3 → ¬ (67 ≤ i ∧ i < 75) → sOt σ f n i = σ i := fun i hi1 hi2 => qc i hi1 (by omega)
  have hN2 : NV cn sn pn (sOt σ f n 0) (sOt σ f n 1) (sOt σ f n 2) := by
    rw [hs 0 (by omega) (by omega), hs 1 (by omega) (by omega), hs 2 (by omega) (by omega)]; exact hN
  obtain ⟨nx', kd', pl', wd', kk', nu', e1, g⟩ := st_order (fk := fk) (fp := fp) (od := od) h hK (fun a hT => hP cn sn pn od hN2 a hT) w hz3 hn0 hn hf hu hN hfu T1 (nI 1) (nI p1) (kI 9) x5 (nI o) (lN (KEY 9))
  obtain ⟨cn', sn', pn', od', y1, y2, y3, y4, y5, y6, e2⟩ := g N (i + 1) (by omega) (by omega)
  refine ⟨cn', sn', pn', od', y1, y2, y3, y4, y5, y6, e2 ▸ ?_⟩
  unfold t14
  conv => lhs; unfold f_X2_take_14
  rw [if_neg (show ¬ nI 900 ≤ nI i by rw [nI_le' (by omega) (by omega)]; omega), if_neg (show ¬ nI 1 = 0 by decide), if_neg (show ¬ nI 1 = 0 by decide), if_neg (kI_no (by omega) (by omega) (by omega)), if_neg (kI_no (by omega) (by omega) (by omega)), if_neg (kI_no (by omega) (by omega) (by omega)), if_neg (kI_no (by omega) (by omega) (by omega)), if_neg (kI_no (by omega) (by omega) (by omega)), if_neg (kI_no (by omega) (by omega) (by omega)), if_neg (kI_no (by omega) (by omega) (by omega)), if_neg (kI_no (by omega) (by omega) (by omega)), if_neg (kI_no (by omega) (by omega) (by omega)), if_pos (show kI 9 = nI 9 from rfl)]
  rw [e1, bd_s]
  simp only [lt_, nI_add]
  rw [qa, hs 0 (by omega) (by omega), hs 1 (by omega) (by omega), hs 2 (by omega) (by omega), sBq (fun j _ _ => hs j (by omega) (by omega)), sRq (fun j _ _ => hs j (by omega) (by omega)), aLq (b := Q 0) (hs 1 (by omega) (by omega)) h1 (fun j _ _ => hs j (by omega) (by omega)), aK_c (b := Q 1) (σ := sOt σ f n) (τ := σ) (fun j _ _ => hs j (by omega) (by omega)), aXq (b := Q 3) (fun j _ _ => hs j (by omega) (by omega)), aRq (b := Q 4) (hs 2 (by omega) (by omega)) h2 (fun j _ _ => hs j (by omega) (by omega)), aPq (b := Q 5) (hs 0 (by omega) (by omega)) h0 (fun j _ _ => hs j (by omega) (by omega))]
end CH
