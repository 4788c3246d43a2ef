/-! the law's text, whole; what it comes to -/
def catL (f : Nat → List Nat) : Nat → Nat → List Nat
  | 0, _ => []
  | n + 1, j => f j ++ catL f n (j + 1)
def cellP (vh : Nat → Int32) (k : Nat) : List Nat := sb 1 ++ (tN 99 k ++ (sb 2 ++ (tV (hN vh (4 + k)) ++ ((if decide (hN vh (12 + k) = 1) = true then sb 3 else []) ++ (if decide (hN vh (20 + k) = 1) = true then sb 4 else sb 5)))))
def secP (vh : Nat → Int32) (e : Nat) : List Nat := sb 6 ++ (tN 115 e ++ (sb 7 ++ (tV (hN vh (36 + e)) ++ sb 5)))
def pageP (vh : Nat → Int32) (p : Nat) : List Nat := sb 8 ++ (tN 112 p ++ (sb 9 ++ (tV (hN vh (42 + p)) ++ (sb 10 ++ (tN 112 p ++ (sb 11 ++ (tV (hN vh (48 + p)) ++ sb 5)))))))
def knP (vh : Nat → Int32) (c e : Nat) : List Nat := if (hN vh (28 + c)).testBit e = true then sb 12 ++ (tN 99 c ++ (tN 115 e ++ sb 5)) else []
def ordP (vh : Nat → Int32) : List Nat := if hN vh 3 = 0 then [] else sb 13 ++ (catL (fun j => tN 99 (hN vh (54 + j))) (hN vh 3) 0 ++ sb 5)
def txt (vh : Nat → Int32) : List Nat := catL (cellP vh) (hN vh 0) 0 ++ (catL (secP vh) (hN vh 1) 0 ++ (catL (pageP vh) (hN vh 2) 0 ++ (catL (fun c => catL (knP vh c) (hN vh 1) 0) (hN vh 0) 0 ++ ordP vh)))
section TXS
variable {B : Nat → Nat} {E fu : Nat} {tp : Nat → Int32} {K : Nat → Int64} {fk fp : Int32} {Q : Nat → Nat → Int32} {oF o : Nat} {σF : Nat → Nat} {vh : Nat → Int32}
theorem bN_d {x : Nat} (h : x ≤ 1) : bN (decide (x = 1)) = x := by
  unfold bN
  by_cases e : x = 1
  · rw [decide_eq_true e, if_pos rfl, e]
  · rw [decide_eq_false e, if_neg (by decide)]; omega
theorem ch_cells (h : TX B E tp tp) (hK : ∀ k, k < 24 → K k = lN (KEY k)) (hfu : 2000 < fu) (H : HV vh) {R : List Nat} : ∀ n k, k + n = hN vh 0 → PP fu E K tp B fk fp Q oF σF R o (sgS vh (hN vh 0) 0 0 0 (fun _ => 0) 0 (fun _ => 0)) → PP fu E K tp B fk fp Q oF σF (catL (cellP vh) n k ++ R) o (sgS vh k 0 0 0 (fun _ => 0) 0 (fun _ => 0))
  | 0, k, hk, hP => by
    obtain rfl : k = hN vh 0 := by omega
    exact hP
  | n + 1, k, hk, hP => by
    have h0 := H.2.1.1
    have hb := H.2.2.1 k (by omega)
    have ih := ch_cells h hK hfu H (R := R) n (k + 1) (by omega) hP
    have hw := wd_sgS (c := k) (s := 0) (p := 0) (x := 0) (kn := fun _ => 0) (q := 0) (orf := fun _ => 0) H (by omega) (by omega) (by omega) (by omega) (fun k _ => ⟨Nat.zero_lt_succ 63, fun _ => rfl⟩) (by omega) (fun i hi => absurd hi (Nat.not_lt_zero i)) (fun i j hi => absurd hi (Nat.not_lt_zero i))
    rw [← sgS_cell (c := k) (b := decide (hN vh (12 + k) = 1)) (r := decide (hN vh (20 + k) = 1)) (by omega) (bN_d hb.2.1) (bN_d hb.2.2.1)] at ih
    have e : catL (cellP vh) (n + 1) k ++ R = sb 1 ++ cT k (hN vh (4 + k)) (decide (hN vh (12 + k) = 1)) (decide (hN vh (20 + k) = 1)) (catL (cellP vh) n (k + 1) ++ R) := by
      show (cellP vh k ++ catL (cellP vh) n (k + 1)) ++ R = _
      unfold cellP cT
      simp only [List.append_assoc]
    rw [e]
    exact pp_cell h hK hfu hw (show k < 8 by omega) (by omega) ih
theorem ch_secs (h : TX B E tp tp) (hK : ∀ k, k < 24 → K k = lN (KEY k)) (hfu : 2000 < fu) (H : HV vh) {R : List Nat} : ∀ n k, k + n = hN vh 1 → PP fu E K tp B fk fp Q oF σF R o (sgS vh (hN vh 0) (hN vh 1) 0 0 (fun _ => 0) 0 (fun _ => 0)) → PP fu E K tp B fk fp Q oF σF (catL (secP vh) n k ++ R) o (sgS vh (hN vh 0) k 0 0 (fun _ => 0) 0 (fun _ => 0))
  | 0, k, hk, hP => by
    obtain rfl : k = hN vh 1 := by omega
    exact hP
  | n + 1, k, hk, hP => by
    have h0 := H.2.1.1
    have h1 := H.2.1.2.1
    have hb := H.2.2.2.1 k (by omega)
    have ih := ch_secs h hK hfu H (R := R) n (k + 1) (by omega) hP
    have hw := wd_sgS (c := hN vh 0) (s := k) (p := 0) (x := 0) (kn := fun _ => 0) (q := 0) (orf := fun _ => 0) H (by omega) (by omega) (by omega) (by omega) (fun k _ => ⟨Nat.zero_lt_succ 63, fun _ => rfl⟩) (by omega) (fun i hi => absurd hi (Nat.not_lt_zero i)) (fun i j hi => absurd hi (Nat.not_lt_zero i))
    rw [← sgS_secret (s := k) (by omega)] at ih
    have e : catL (secP vh) (n + 1) k ++ R = sb 6 ++ (tN 115 k ++ (sb 7 ++ (tV (hN vh (36 + k)) ++ (59 :: (catL (secP vh) n (k + 1) ++ R))))) := by
      show (secP vh k ++ catL (secP vh) n (k + 1)) ++ R = _
      unfold secP
      simp only [List.append_assoc]
      rfl
    rw [e]
    exact pp_secret h hK hfu hw (show k < 6 by omega) hb.1.1 (by omega) ih
theorem ch_pages (h : TX B E tp tp) (hK : ∀ k, k < 24 → K k = lN (KEY k)) (hfu : 2000 < fu) (H : HV vh) {R : List Nat} : ∀ n k, k + n = hN vh 2 → PP fu E K tp B fk fp Q oF σF R o (sgS vh (hN vh 0) (hN vh 1) (hN vh 2) (hN vh 2) (fun _ => 0) 0 (fun _ => 0)) → PP fu E K tp B fk fp Q oF σF (catL (pageP vh) n k ++ R) o (sgS vh (hN vh 0) (hN vh 1) k k (fun _ => 0) 0 (fun _ => 0))
  | 0, k, hk, hP => by
    obtain rfl : k = hN vh 2 := by omega
    exact hP
  | n + 1, k, hk, hP => by
    have h0 := H.2.1.1
    have h1 := H.2.1.2.1
    have h2 := H.2.1.2.2.1
    have hb := H.2.2.2.1 k (by omega)
    have ih := ch_pages h hK hfu H (R := R) n (k + 1) (by omega) hP
    have hw := wd_sgS (c := hN vh 0) (s := hN vh 1) (p := k) (x := k) (kn := fun _ => 0) (q := 0) (orf := fun _ => 0) H (by omega) (by omega) (by omega) (by omega) (fun k _ => ⟨Nat.zero_lt_succ 63, fun _ => rfl⟩) (by omega) (fun i hi => absurd hi (Nat.not_lt_zero i)) (fun i j hi => absurd hi (Nat.not_lt_zero i))
    have hw2 := wd_sgS (c := hN vh 0) (s := hN vh 1) (p := k + 1) (x := k) (kn := fun _ => 0) (q := 0) (orf := fun _ => 0) H (by omega) (by omega) (by omega) (by omega) (fun k _ => ⟨Nat.zero_lt_succ 63, fun _ => rfl⟩) (by omega) (fun i hi => absurd hi (Nat.not_lt_zero i)) (fun i j hi => absurd hi (Nat.not_lt_zero i))
    rw [← sgS_read (x := k) (by omega)] at ih
    have q := pp_read (p := k) h hK hfu hw2 (show k < k + 1 by omega) hb.2.2 ih
    rw [← sgS_page (p := k) (by omega)] at q
    have e : catL (pageP vh) (n + 1) k ++ R = sb 8 ++ (tN 112 k ++ (sb 9 ++ (tV (hN vh (42 + k)) ++ (59 :: (kwB 10 ++ (tN 112 k ++ (sb 11 ++ (tV (hN vh (48 + k)) ++ (59 :: (catL (pageP vh) n (k + 1) ++ R)))))))))) := by
      show (pageP vh k ++ catL (pageP vh) n (k + 1)) ++ R = _
      unfold pageP
      simp only [List.append_assoc]
      rfl
    rw [e]
    exact pp_page h hK hfu hw (show k < 6 by omega) (by omega) q
theorem ch_kn1 (h : TX B E tp tp) (hK : ∀ k, k < 24 → K k = lN (KEY k)) (hfu : 2000 < fu) (H : HV vh) {R : List Nat} {c : Nat} (hc : c < hN vh 0) : ∀ n e, e + n = hN vh 1 → PP fu E K tp B fk fp Q oF σF R o (sgS vh (hN vh 0) (hN vh 1) (hN vh 2) (hN vh 2) (knS vh (hN vh 1) c (hN vh 1)) 0 (fun _ => 0)) → PP fu E K tp B fk fp Q oF σF (catL (knP vh c) n e ++ R) o (sgS vh (hN vh 0) (hN vh 1) (hN vh 2) (hN vh 2) (knS vh (hN vh 1) c e) 0 (fun _ => 0))
  | 0, e, he, hP => by
    obtain rfl : e = hN vh 1 := by omega
    exact hP
  | n + 1, e, he, hP => by
    have h0 := H.2.1.1
    have h1 := H.2.1.2.1
    have h2 := H.2.1.2.2.1
    have ih := ch_kn1 h hK hfu H (R := R) hc n (e + 1) (by omega) hP
    have ea : catL (knP vh c) (n + 1) e ++ R = knP vh c e ++ (catL (knP vh c) n (e + 1) ++ R) := by
      show (knP vh c e ++ catL (knP vh c) n (e + 1)) ++ R = _
      rw [List.append_assoc]
    rw [ea]
    by_cases hb : (hN vh (28 + c)).testBit e = true
    · have hw := wd_sgS (c := hN vh 0) (s := hN vh 1) (p := hN vh 2) (x := hN vh 2) (kn := knS vh (hN vh 1) c e) (q := 0) (orf := fun _ => 0) H (by omega) (by omega) (by omega) (by omega) (fun k hk => ⟨(knS_lt H hk (by omega) (m := hN vh 0) (Or.inl hc)).1, fun h => (knS_lt H hk (by omega) (m := hN vh 0) (Or.inl hc)).2 h (by omega)⟩) (by omega) (fun i hi => absurd hi (Nat.not_lt_zero i)) (fun i j hi => absurd hi (Nat.not_lt_zero i))
      rw [← knS_t hb, ← sgS_kn (by omega)] at ih
      have e33 : sgS vh (hN vh 0) (hN vh 1) (hN vh 2) (hN vh 2) (knS vh (hN vh 1) c e) 0 (fun _ => 0) (33 + c) = knS vh (hN vh 1) c e c := sgS_33 (by omega)
      rw [← e33] at ih
      have q := pp_knows (c := c) (e := e) h hK hfu hw (show c < hN vh 0 from hc) (show e < hN vh 1 by omega) ih
      have e2 : knP vh c e ++ (catL (knP vh c) n (e + 1) ++ R) = sb 12 ++ (tN 99 c ++ (tN 115 e ++ (59 :: (catL (knP vh c) n (e + 1) ++ R)))) := by
        unfold knP
        rw [if_pos hb]
        simp only [List.append_assoc]
        rfl
      rw [e2]
      exact q
    · have e2 : knP vh c e = [] := if_neg hb
      rw [e2, knS_f hb]
      exact ih
theorem ch_kn (h : TX B E tp tp) (hK : ∀ k, k < 24 → K k = lN (KEY k)) (hfu : 2000 < fu) (H : HV vh) {R : List Nat} : ∀ n c, c + n = hN vh 0 → PP fu E K tp B fk fp Q oF σF R o (sgS vh (hN vh 0) (hN vh 1) (hN vh 2) (hN vh 2) (knS vh (hN vh 1) (hN vh 0) 0) 0 (fun _ => 0)) → PP fu E K tp B fk fp Q oF σF (catL (fun c => catL (knP vh c) (hN vh 1) 0) n c ++ R) o (sgS vh (hN vh 0) (hN vh 1) (hN vh 2) (hN vh 2) (knS vh (hN vh 1) c 0) 0 (fun _ => 0))
  | 0, c, hk, hP => by
    obtain rfl : c = hN vh 0 := by omega
    exact hP
  | n + 1, c, hk, hP => by
    have ih := ch_kn h hK hfu H (R := R) n (c + 1) (by omega) hP
    rw [← knS_0] at ih
    have q := ch_kn1 h hK hfu H (c := c) (by omega) (hN vh 1) 0 (by omega) ih
    have e : catL (fun c => catL (knP vh c) (hN vh 1) 0) (n + 1) c ++ R = catL (knP vh c) (hN vh 1) 0 ++ (catL (fun c => catL (knP vh c) (hN vh 1) 0) n (c + 1) ++ R) := by
      show (catL (knP vh c) (hN vh 1) 0 ++ catL (fun c => catL (knP vh c) (hN vh 1) 0) n (c + 1)) ++ R = _
      rw [List.append_assoc]
    rw [e]
    exact q
theorem catL_oTx {f : Nat → Nat} : ∀ n j, catL (fun j => tN 99 (f j)) n j ++ sb 5 = oTx f n j []
  | 0, j => rfl
  | n + 1, j => by
    show (tN 99 (f j) ++ catL (fun j => tN 99 (f j)) n (j + 1)) ++ sb 5 = tN 99 (f j) ++ oTx f n (j + 1) []
    rw [List.append_assoc, catL_oTx n (j + 1)]
theorem knS_full {h1 h0 : Nat} : knS vh h1 h0 0 = fun j => if j < h0 then hN vh (28 + j) % 2 ^ h1 else 0 := by
  funext j
  unfold knS
  by_cases a : j < h0
  · rw [if_pos a, if_pos a]
  · rw [if_neg a, if_neg a]
    split
    · rw [Nat.pow_zero, Nat.mod_one]
    · rfl
theorem knS_none {h1 : Nat} : knS vh h1 0 0 = fun _ => 0 := by
  rw [knS_full]
  funext j
  exact if_neg (Nat.not_lt_zero j)
/-- the row before the ORDER that is told -/
def sgO (vh : Nat → Int32) : Nat → Nat := sgS vh (hN vh 0) (hN vh 1) (hN vh 2) (hN vh 2) (knS vh (hN vh 1) (hN vh 0) 0) 0 (fun _ => 0)
theorem wd_sgO (H : HV vh) : WD (sgO vh) := by
  have h0 := H.2.1.1
  have h1 := H.2.1.2.1
  have h2 := H.2.1.2.2.1
  exact wd_sgS H (by omega) (by omega) (by omega) (by omega) (fun k hk => ⟨(knS_lt H hk (by omega) (m := hN vh 0) (Or.inr rfl)).1, fun h => (knS_lt H hk (by omega) (m := hN vh 0) (Or.inr rfl)).2 h (by omega)⟩) (by omega) (fun i hi => absurd hi (Nat.not_lt_zero i)) (fun i j hi => absurd hi (Nat.not_lt_zero i))
/-- the row behind all parts; whether an ORDER was told -/
def sgF (vh : Nat → Int32) : Nat → Nat := if hN vh 3 = 0 then sgO vh else sOt (sgO vh) (fun j => hN vh (54 + j)) (hN vh 3)
def oFv (vh : Nat → Int32) : Nat := if hN vh 3 = 0 then 0 else 1
theorem wd_sgF (H : HV vh) : WD (sgF vh) := by
  have h0 := H.2.1.1
  have h3 := H.2.1.2.2.2
  unfold sgF
  split
  · exact wd_sgO H
  · exact wd_ot (wd_sgO H) rfl (n := hN vh 3) (by omega) (fun i hi => H.2.2.2.2.1 i hi) H.2.2.2.2.2 _ (Nat.le_refl _)
theorem sgF_is (H : HV vh) : sFin (sgF vh) (oFv vh) = sg vh := by
  have h0 := H.2.1.1
  have h3 := H.2.1.2.2.2
  have e : sg vh = sgS vh (hN vh 0) (hN vh 1) (hN vh 2) (hN vh 2) (fun j => if j < hN vh 0 then hN vh (28 + j) % 2 ^ hN vh 1 else 0) (if hN vh 3 = 0 then hN vh 0 else hN vh 3) (fun j => if hN vh 3 = 0 then (if j < hN vh 0 then j else 0) else if j < hN vh 3 then hN vh (54 + j) else 0) := rfl
  rw [e]
  unfold sFin sgF oFv sgO
  by_cases c : hN vh 3 = 0
  · rw [if_pos c, if_pos c, if_pos rfl, if_pos c, sgS_id (by omega), knS_full]
    congr 1
    funext j
    rw [if_pos c]
  · rw [if_neg c, if_neg c, if_neg (by decide), if_neg c, sgS_order (by omega), knS_full]
    congr 1
    funext j
    rw [if_neg c]
theorem pp_all (h : TX B E tp tp) (hK : ∀ k, k < 24 → K k = lN (KEY k)) (hfu : 2000 < fu) (H : HV vh) : PP fu E K tp B fk fp Q (oFv vh) (sgF vh) (txt vh) 0 (fun _ => 0) := by
  have h0 := H.2.1.1
  have h3 := H.2.1.2.2.2
  have po : PP fu E K tp B fk fp Q (oFv vh) (sgF vh) (ordP vh) 0 (sgO vh) := by
    unfold ordP oFv sgF
    by_cases c : hN vh 3 = 0
    · rw [if_pos c, if_pos c, if_pos c]
      exact pp_nil h hfu
    · rw [if_neg c, if_neg c, if_neg c, catL_oTx (f := fun j => hN vh (54 + j))]
      exact pp_order h hK hfu (wd_sgO H) rfl (by omega) (by omega) (fun i hi => H.2.2.2.2.1 i hi) H.2.2.2.2.2 (pp_nil h hfu)
  have p1 := ch_kn h hK hfu H (hN vh 0) 0 (by omega) po
  rw [knS_none] at p1
  have p2 := ch_pages h hK hfu H (hN vh 2) 0 (by omega) p1
  have p3 := ch_secs h hK hfu H (hN vh 1) 0 (by omega) p2
  have p4 := ch_cells h hK hfu H (hN vh 0) 0 (by omega) p3
  rw [sgS_start] at p4
  exact p4
end TXS
