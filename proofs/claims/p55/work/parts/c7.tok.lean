/-! TOKENS of a text that is known -/
theorem BL_0 {c : Nat} {R : List Nat} : BL (c :: R) 0 = c := rfl
theorem BL_s {c : Nat} {R : List Nat} {i : Nat} : BL (c :: R) (i + 1) = BL R i := by
  unfold BL
  rw [List.getD_cons_succ]
def Txt (B : Nat → Nat) (E a : Nat) (L : List Nat) : Prop := a + L.length ≤ E ∧ (∀ i, i < L.length → B (a + i) = BL L i) ∧ ∀ i, a + L.length ≤ i → i < E → B i = 32
def pkA : Nat → List Nat → Nat
  | acc, [] => acc
  | acc, c :: r => pkA (acc * 32 + (c - 96)) r
def dgA : Nat → List Nat → Nat
  | acc, [] => acc
  | acc, c :: r => dgA (acc * 10 + (c - 48)) r
def kwB : Nat → List Nat
  | 0 => [99, 101, 108, 108]
  | 1 => [112, 114, 105, 99, 107, 115]
  | 2 => [98, 108, 105, 110, 100]
  | 3 => [114, 117, 98, 115]
  | 4 => [115, 101, 99, 114, 101, 116]
  | 5 => [108, 101, 116, 116, 101, 114, 115]
  | 6 => [112, 97, 103, 101]
  | 7 => [114, 111, 111, 109]
  | 8 => [107, 110, 111, 119, 115]
  | 9 => [111, 114, 100, 101, 114]
  | 10 => [114, 101, 97, 100]
  | _ => [111, 100, 100, 115]
theorem kw_ok : ∀ k, k < 12 → ((kwB k).all isLt = true ∧ 1 ≤ (kwB k).length ∧ (kwB k).length ≤ 8 ∧ pkA 0 (kwB k) = KEY k) := by decide +kernel
theorem KEY_big : ∀ k, k < 24 → 1056 ≤ KEY k ∧ KEY k < 2 ^ 40 := by decide +kernel
def nmv (c k : Nat) : Nat := (c - 96) * 32 + (k + 1)
theorem lkw_nm {x : Nat} (h : x < 1056) : lkw (lN x) 24 = 24 := by
  rcases Nat.lt_or_ge (lkw (lN x) 24) 24 with h2 | h2
  · have h3 := lkw_is (w := lN x) (j := 24) rfl h2
    have h4 := KEY_big _ h2
    have h5 := (pk_lEQ (a := x) (b := KEY (lkw (lN x) 24)) (by omega) (by omega)).mp h3
    omega
  · have := lkw_24 (lN x)
    omega
section TK
variable {B : Nat → Nat} {E fu a pl : Nat} {tp : Nat → Int32} {K : Nat → Int64} {x1 x2 x4 x5 : Int32} {x3 : Int64} {R : List Nat}
theorem Txt.cons {c : Nat} (h : Txt B E a (c :: R)) : B a = c ∧ a < E ∧ Txt B E (a + 1) R := by
  obtain ⟨h1, h2, h3⟩ := h
  rw [List.length_cons] at h1 h2 h3
  refine ⟨h2 0 (by omega), by omega, by omega, fun i hi => ?_, fun i h4 h5 => h3 i (by omega) h5⟩
  have := h2 (i + 1) (by omega)
  rw [BL_s] at this
  rw [← this]
  congr 1
  omega
theorem Txt.app : ∀ {X : List Nat} {a : Nat}, Txt B E a (X ++ R) → Txt B E (a + X.length) R
  | [], _, h => h
  | c :: X, a, h => by
    have h2 := Txt.app (X := X) (Txt.cons h).2.2
    rw [List.length_cons, show a + (X.length + 1) = a + 1 + X.length by omega]
    exact h2
theorem Txt.hd (h : Txt B E a R) (ha : a < E) (f : Nat → Bool) (h1 : f (BL R 0) = false) (h2 : f 32 = false) : f (B a) = false := by
  cases R with
  | nil => rw [h.2.2 a (Nat.le_refl _) ha]; exact h2
  | cons c R => rw [h.cons.1]; exact h1
theorem fw_blank (h : TX B E tp tp) (ha : a < E) (hb : B a = 32) (n : Nat) : f_X8_forward_0 fu (nI E) K tp (n + 1) (nI a) x1 x2 x3 x4 x5 = f_X8_forward_0 fu (nI E) K tp n (nI (a + 1)) x1 x2 x3 x4 x5 := by
  have hE := h.1
  simp (disch := omega) only [f_X8_forward_0, nI_le', if_neg, gi_n, nI_cl, t_10 h, t_32 h, lt_, nI_add]
  rw [if_pos hb]
theorem fw_stop (h : TX B E tp tp) (ha : a < E) (hb : B a ≠ 32) (hb2 : B a ≠ 10) (n : Nat) : f_X8_forward_0 fu (nI E) K tp (n + 1) (nI a) x1 x2 x3 x4 x5 = f_X8_forward_52 fu (nI E) K tp (nI a) x1 x2 x3 x4 x5 := by
  have hE := h.1
  simp (disch := omega) only [f_X8_forward_0, nI_le', if_neg, gi_n, nI_cl, t_10 h, t_32 h]
theorem fw_over (h : TX B E tp tp) : ∀ k a n, a + k = E → (∀ i, a ≤ i → i < E → B i = 32) → k < n → f_X8_forward_0 fu (nI E) K tp n (nI a) x1 x2 x3 x4 x5 = some (nI E, nI 0, nI E, x3, kI 24, x5)
  | 0, a, n, ha, hb, hn => by
    have hE := h.1
    obtain ⟨n, rfl⟩ : ∃ q, n = q + 1 := ⟨n - 1, by omega⟩
    obtain rfl : a = E := by omega
    unfold f_X8_forward_0
    rw [if_pos (Int32.le_refl _)]
    unfold f_X8_forward_52
    rw [if_neg Int32.lt_irrefl]
    rfl
  | k + 1, a, n, ha, hb, hn => by
    obtain ⟨n, rfl⟩ : ∃ q, n = q + 1 := ⟨n - 1, by omega⟩
    rw [fw_blank h (by omega) (hb a (Nat.le_refl _) (by omega))]
    exact fw_over h k (a + 1) n (by omega) (fun i h1 h2 => hb i (by omega) h2) (by omega)
theorem fw_sp (h : TX B E tp tp) {s : List Nat} (hs : s = [] ∨ s = [32]) {c : Nat} (hc : c ≠ 32 ∧ c ≠ 10) (hT : Txt B E a (s ++ (c :: R))) (hfu : 2000 < fu) : f_X8_forward fu (nI E) (nI a) x1 x2 x3 x4 x5 K tp = f_X8_forward_52 fu (nI E) K tp (nI (a + s.length)) x1 x2 x3 x4 x5 := by
  obtain ⟨n, e⟩ : ∃ n, fu = n + 2 := ⟨fu - 2, by omega⟩
  unfold f_X8_forward
  rw [show f_X8_forward_0 fu (nI E) K tp fu (nI a) x1 x2 x3 x4 x5 = f_X8_forward_0 fu (nI E) K tp (n + 2) (nI a) x1 x2 x3 x4 x5 from by rw [← e]]
  have hT2 := hT.app.cons
  rcases hs with rfl | rfl
  · rw [show a + ([] : List Nat).length = a from rfl] at hT2 ⊢
    exact fw_stop h hT2.2.1 (by rw [hT2.1]; exact hc.1) (by rw [hT2.1]; exact hc.2) _
  · rw [show a + [32].length = a + 1 from rfl] at hT2 ⊢
    rw [fw_blank h hT.cons.2.1 hT.cons.1]
    exact fw_stop h hT2.2.1 (by rw [hT2.1]; exact hc.1) (by rw [hT2.1]; exact hc.2) _
theorem fw_letters (h : TX B E tp tp) : ∀ (w : List Nat) (a acc n : Nat), Txt B E a (w ++ R) → w.all isLt = true → isLt (BL R 0) = false → w.length < n → f_X8_takeWord_2 fu (nI E) (nI pl) K tp n (lN acc) (nI a) x1 x3 x2 = f_X8_takeWord_55 fu (nI E) (nI pl) K tp (lN (pkA acc w)) (nI (a + w.length)) x1 x3 x2
  | [], a, acc, n, hT, _, hr, hn => by
    have hE := h.1
    obtain ⟨n, rfl⟩ : ∃ q, n = q + 1 := ⟨n - 1, by omega⟩
    have hTa := hT.1
    rcases Nat.lt_or_ge a E with ha | ha
    · have hl := Txt.hd (R := R) hT ha isLt hr (by decide)
      simp (disch := omega) only [f_X8_takeWord_2, nI_le', if_neg, gi_n, nI_cl, t_letter h, hl, bd_s, bI_0, if_true]
      rfl
    · have : a ≤ E := Nat.le_trans (Nat.le_add_right a _) hTa
      obtain rfl : a = E := by omega
      simp (disch := omega) only [f_X8_takeWord_2, nI_le', if_pos]
      rfl
  | c :: w, a, acc, n, hT, hw, hr, hn => by
    have hE := h.1
    obtain ⟨n, rfl⟩ : ∃ q, n = q + 1 := ⟨n - 1, by omega⟩
    obtain ⟨h1, h2, h3⟩ := Txt.cons (R := w ++ R) hT
    rw [List.all_cons, Bool.and_eq_true] at hw
    obtain ⟨hB, htp, -⟩ := h.2 a h2
    have hc : isLt (B a) = true := by rw [h1]; exact hw.1
    have ih := fw_letters h w (a + 1) (acc * 32 + (c - 96)) n h3 hw.2 hr (by rw [List.length_cons] at hn; omega)
    rw [List.length_cons, show a + (w.length + 1) = a + 1 + w.length by omega]
    show _ = f_X8_takeWord_55 fu (nI E) (nI pl) K tp (lN (pkA (acc * 32 + (c - 96)) w)) (nI (a + 1 + w.length)) x1 x3 x2
    rw [← ih, ← h1]
    simp (disch := omega) only [f_X8_takeWord_2, nI_le', if_neg, gi_n, nI_cl, c_letter _ hB, hc, bd_s, bI_0, Bool.true_eq_false, if_false, f_X8_withLetter, htp, c_let96 _ hB hc, lN_mul, lN_add, lt_, nI_add]
theorem fw_word (h : TX B E tp tp) (hK : ∀ k, k < 24 → K k = lN (KEY k)) {s w : List Nat} (hs : s = [] ∨ s = [32]) (hw : w.all isLt = true) (h1 : 1 ≤ w.length) (h8 : w.length ≤ 8) (hr : isLt (BL R 0) = false) (hT : Txt B E a (s ++ (w ++ R))) (hfu : 2000 < fu) : f_X8_forward fu (nI E) (nI a) x1 x2 x3 x4 x5 K tp = some (nI (a + s.length + w.length), nI 1, nI (a + s.length), lN (pkA 0 w), kI (lkw (lN (pkA 0 w)) 24), x5) ∧ Txt B E (a + s.length + w.length) R := by
  have hT1 : Txt B E (a + s.length) (w ++ R) := hT.app
  refine ⟨?_, hT1.app⟩
  cases w with
  | nil => exact absurd h1 (by decide)
  | cons c w =>
    have hE := h.1
    obtain ⟨q1, q2, q3⟩ := Txt.cons (R := w ++ R) hT1
    have hc : isLt c = true := by rw [List.all_cons, Bool.and_eq_true] at hw; exact hw.1
    have hc2 := isLt_iff.mp hc
    rw [fw_sp h hs (by omega) (R := w ++ R) hT hfu]
    unfold f_X8_forward_52
    have hcB : isLt (B (a + s.length)) = true := by rw [q1]; exact hc
    rw [if_pos (by rw [nI_lt' (by omega) (by omega)]; exact q2), gi_n (by omega) (by omega), nI_cl (by omega), t_letter h q2, hcB, bd_s, if_neg (show ¬ bI true = 0 by decide)]
    unfold f_X8_takeWord
    rw [show f_X8_takeWord_2 fu (nI E) (nI (a + s.length)) K tp fu (lN 0) (nI (a + s.length)) x1 x3 (-1 : Int32) = _ from fw_letters (R := R) h (c :: w) (a + s.length) 0 fu hT1 hw hr (by omega)]
    unfold f_X8_takeWord_55
    rw [pk_sub (by omega), Nat.add_sub_cancel_left, if_pos (by rw [nI_le' (by omega) (by omega)]; exact h8), tk_key hK (by omega), bd_s]
theorem fw_kw (h : TX B E tp tp) (hK : ∀ k, k < 24 → K k = lN (KEY k)) {s : List Nat} (hs : s = [] ∨ s = [32]) {k : Nat} (hk : k < 12) (hr : isLt (BL R 0) = false) (hT : Txt B E a (s ++ (kwB k ++ R))) (hfu : 2000 < fu) : ∃ nx pl, (∀ (x1 x2 : Int32) (x3 : Int64) (x4 x5 : Int32), f_X8_forward fu (nI E) (nI a) x1 x2 x3 x4 x5 K tp = some (nI nx, nI 1, nI pl, lN (KEY k), kI k, x5)) ∧ Txt B E nx R ∧ nx ≤ E := by
  obtain ⟨k1, k2, k3, k4⟩ := kw_ok k hk
  refine ⟨a + s.length + (kwB k).length, a + s.length, fun x1 x2 x3 x4 x5 => ?_, (fw_word (x1 := 0) (x2 := 0) (x3 := 0) (x4 := 0) (x5 := 0) h hK hs k1 k2 k3 hr hT hfu).2, ?_⟩
  · rw [(fw_word h hK hs k1 k2 k3 hr hT hfu).1, k4, lkw_of (k := k) (by omega) rfl 24 (by omega) (by omega)]
  · have := (fw_word (x1 := 0) (x2 := 0) (x3 := 0) (x4 := 0) (x5 := 0) h hK hs k1 k2 k3 hr hT hfu).2.1
    omega
theorem fw_nm (h : TX B E tp tp) (hK : ∀ k, k < 24 → K k = lN (KEY k)) {c k : Nat} (hc : 97 ≤ c ∧ c ≤ 122) (hk : k < 20) (hr : isLt (BL R 0) = false) (hT : Txt B E a (tN c k ++ R)) (hfu : 2000 < fu) : ∃ nx pl, (∀ (x1 x2 : Int32) (x3 : Int64) (x4 x5 : Int32), f_X8_forward fu (nI E) (nI a) x1 x2 x3 x4 x5 K tp = some (nI nx, nI 1, nI pl, lN (nmv c k), kI 24, x5)) ∧ Txt B E nx R ∧ nx ≤ E := by
  have hw : ([c, 97 + k] : List Nat).all isLt = true := by
    rw [List.all_cons, List.all_cons, List.all_nil, isLt_iff.mpr hc, isLt_iff.mpr (by omega)]
    rfl
  have hp : pkA 0 [c, 97 + k] = nmv c k := by
    unfold nmv
    show (0 * 32 + (c - 96)) * 32 + (97 + k - 96) = _
    omega
  have hT' : Txt B E a ([32] ++ ([c, 97 + k] ++ R)) := hT
  have key := fun (x1 x2 : Int32) (x3 : Int64) (x4 x5 : Int32) => fw_word (fu := fu) (x1 := x1) (x2 := x2) (x3 := x3) (x4 := x4) (x5 := x5) h hK (s := [32]) (w := [c, 97 + k]) (Or.inr rfl) hw (Nat.succ_le_succ (Nat.zero_le 1)) (Nat.le_of_ble_eq_true rfl) hr hT' hfu
  rw [hp] at key
  refine ⟨a + [32].length + [c, 97 + k].length, a + [32].length, fun x1 x2 x3 x4 x5 => ?_, (key 0 0 0 0 0).2, ?_⟩
  · rw [(key x1 x2 x3 x4 x5).1, lkw_nm (by unfold nmv; omega)]
  · have := (key 0 0 0 0 0).2.1
    omega
theorem fw_digits (h : TX B E tp tp) : ∀ (w : List Nat) (a acc n : Nat), Txt B E a (w ++ R) → w.all isDg = true → isDg (BL R 0) = false → w.length < n → f_X8_takeNumber_5 fu (nI E) (nI pl) tp n (nI a) x1 (nI acc) = f_X8_takeNumber_68 fu (nI E) (nI pl) tp (nI (a + w.length)) x1 (nI (dgA acc w))
  | [], a, acc, n, hT, _, hr, hn => by
    have hE := h.1
    obtain ⟨n, rfl⟩ : ∃ q, n = q + 1 := ⟨n - 1, by omega⟩
    have hTa := hT.1
    rcases Nat.lt_or_ge a E with ha | ha
    · have hl := Txt.hd (R := R) hT ha isDg hr (by decide)
      simp (disch := omega) only [f_X8_takeNumber_5, nI_le', if_neg, gi_n, nI_cl, t_digit h, hl, bd_s, bI_0, if_true]
      rfl
    · have : a ≤ E := Nat.le_trans (Nat.le_add_right a _) hTa
      obtain rfl : a = E := by omega
      simp (disch := omega) only [f_X8_takeNumber_5, nI_le', if_pos]
      rfl
  | c :: w, a, acc, n, hT, hw, hr, hn => by
    have hE := h.1
    obtain ⟨n, rfl⟩ : ∃ q, n = q + 1 := ⟨n - 1, by omega⟩
    obtain ⟨h1, h2, h3⟩ := Txt.cons (R := w ++ R) hT
    rw [List.all_cons, Bool.and_eq_true] at hw
    obtain ⟨hB, htp, -⟩ := h.2 a h2
    have hc : isDg (B a) = true := by rw [h1]; exact hw.1
    have ih := fw_digits h w (a + 1) (acc * 10 + (c - 48)) n h3 hw.2 hr (by rw [List.length_cons] at hn; omega)
    rw [List.length_cons, show a + (w.length + 1) = a + 1 + w.length by omega]
    show _ = f_X8_takeNumber_68 fu (nI E) (nI pl) tp (nI (a + 1 + w.length)) x1 (nI (dgA (acc * 10 + (c - 48)) w))
    rw [← ih, ← h1]
    simp (disch := omega) only [f_X8_takeNumber_5, nI_le', if_neg, gi_n, nI_cl, c_digit _ hB, hc, bd_s, bI_0, Bool.true_eq_false, if_false, htp, c_dig48 _ hB hc, pk_mul, lt_, nI_add]
theorem fw_nu (h : TX B E tp tp) {v : Nat} (hv : v < 100) (hr : isDg (BL R 0) = false) (hT : Txt B E a (tV v ++ R)) (hfu : 2000 < fu) : ∃ nx pl, (∀ (x1 x2 : Int32) (x3 : Int64) (x4 x5 : Int32), f_X8_forward fu (nI E) (nI a) x1 x2 x3 x4 x5 K tp = some (nI nx, nI 2, nI pl, x3, kI 24, nI v)) ∧ Txt B E nx R ∧ nx ≤ E := by
  have hE := h.1
  obtain ⟨c, w, e, hc, hw, hl, hd⟩ : ∃ c w, tV v = [32] ++ (c :: w) ∧ isDg c = true ∧ (c :: w).all isDg = true ∧ (c :: w).length ≤ 4 ∧ dgA 0 (c :: w) = v := by
    unfold tV
    by_cases e9 : v ≤ 9
    · rw [if_pos e9]
      have := isDg_iff.mpr (show 48 ≤ 48 + v ∧ 48 + v ≤ 57 by omega)
      refine ⟨48 + v, [], rfl, this, by rw [List.all_cons, this]; rfl, Nat.le_of_ble_eq_true rfl, ?_⟩
      show 0 * 10 + (48 + v - 48) = v
      omega
    · rw [if_neg e9]
      have t1 := isDg_iff.mpr (show 48 ≤ 48 + v / 10 ∧ 48 + v / 10 ≤ 57 by omega)
      have t2 := isDg_iff.mpr (show 48 ≤ 48 + v % 10 ∧ 48 + v % 10 ≤ 57 by omega)
      refine ⟨48 + v / 10, [48 + v % 10], rfl, t1, by rw [List.all_cons, List.all_cons, t1, t2]; rfl, Nat.le_of_ble_eq_true rfl, ?_⟩
      show (0 * 10 + (48 + v / 10 - 48)) * 10 + (48 + v % 10 - 48) = v
      omega
  rw [e, List.append_assoc] at hT
  have hT1 : Txt B E (a + [32].length) ((c :: w) ++ R) := hT.app
  have hT2 : Txt B E (a + [32].length + (c :: w).length) R := hT1.app
  refine ⟨a + [32].length + (c :: w).length, a + [32].length, fun x1 x2 x3 x4 x5 => ?_, hT2, by have := hT2.1; omega⟩
  obtain ⟨q1, q2, q3⟩ := Txt.cons (R := w ++ R) hT1
  have hc2 := isDg_iff.mp hc
  rw [fw_sp h (Or.inr rfl) (by omega) (R := w ++ R) hT hfu]
  unfold f_X8_forward_52
  have hcL : isLt (B (a + [32].length)) = false := by
    rw [q1]
    unfold isLt
    exact decide_eq_false (by omega)
  have hcD : isDg (B (a + [32].length)) = true := by rw [q1]; exact hc
  rw [if_pos (by rw [nI_lt' (by omega) (by omega)]; exact q2), gi_n (by omega) (by omega), nI_cl (by omega), t_letter h q2, hcL, bd_s, if_pos (show bI false = 0 from rfl), gi_n (by omega) (by omega), t_digit h q2, hcD, bd_s, if_neg (show ¬ bI true = 0 by decide)]
  unfold f_X8_takeNumber
  rw [fw_digits (R := R) h (c :: w) (a + [32].length) 0 fu hT1 hw hr (by omega)]
  unfold f_X8_takeNumber_68
  rw [pk_sub (by omega), Nat.add_sub_cancel_left, if_pos (by rw [nI_le' (by omega) (by omega)]; exact hl), bd_s, hd]
  rfl
theorem fw_sm (h : TX B E tp tp) (hT : Txt B E a (59 :: R)) (hfu : 2000 < fu) : (∀ (x1 x2 : Int32) (x3 : Int64) (x4 x5 : Int32), f_X8_forward fu (nI E) (nI a) x1 x2 x3 x4 x5 K tp = some (nI (a + 1), nI 3, nI a, x3, kI 24, x5)) ∧ Txt B E (a + 1) R ∧ a < E ∧ B a = 59 := by
  have hE := h.1
  obtain ⟨q1, q2, q3⟩ := hT.cons
  refine ⟨fun x1 x2 x3 x4 x5 => ?_, q3, q2, q1⟩
  rw [fw_sp h (s := []) (Or.inl rfl) (c := 59) (by decide) hT hfu, show a + ([] : List Nat).length = a from rfl]
  unfold f_X8_forward_52
  rw [if_pos (by rw [nI_lt' (by omega) (by omega)]; exact q2), gi_n (by omega) (by omega), nI_cl (by omega), t_letter h q2, q1, show isLt 59 = false from rfl, bd_s, if_pos (show bI false = 0 from rfl), gi_n (by omega) (by omega), t_digit h q2, q1, show isDg 59 = false from rfl, bd_s, if_pos (show bI false = 0 from rfl), gi_n (by omega) (by omega), t_sign h q2, q1, show isSg 59 = true from rfl, bd_s, if_neg (show ¬ bI true = 0 by decide), nI_add]
  rfl
theorem fw_end (h : TX B E tp tp) (hT : Txt B E a []) (hfu : 2000 < fu) : ∀ (x1 x2 : Int32) (x3 : Int64) (x4 x5 : Int32), f_X8_forward fu (nI E) (nI a) x1 x2 x3 x4 x5 K tp = some (nI E, nI 0, nI E, x3, kI 24, x5) := fun x1 x2 x3 x4 x5 => by
  have hE := h.1
  have := hT.1
  rw [List.length_nil] at this
  exact fw_over h (E - a) a fu (by omega) (fun i h1 h2 => hT.2.2 i (by rw [List.length_nil]; omega) h2) (by omega)
end TK
