/-! what is drawn -/
section DR
variable {fu n1 : Nat} {xs : Nat → Int32} {vh : Nat → Int32} {z3 : Int32}
theorem hN_s {i q : Nat} (hq : q < 2147483648) : hN (upd vh i (nI q)) i = q := by
  unfold hN upd
  rw [if_pos rfl, nI_cl hq]
theorem hN_n {i j : Nat} {x : Int32} (h : j ≠ i) : hN (upd vh i x) j = hN vh j := by
  unfold hN upd
  rw [if_neg h]
def Dv (vh : Nat → Int32) : Prop := ∀ k, vh k = nI (hN vh k)
theorem Dv.up (h : Dv vh) {i q : Nat} (hq : q < 2147483648) : Dv (upd vh i (nI q)) := fun k => by
  by_cases e : k = i
  · subst e; rw [hN_s hq]; exact if_pos rfl
  · rw [hN_n e, ← h k]; exact if_neg e
def DS (vh : Nat → Int32) (n m : Nat) : Prop := Dv vh ∧ ((1 ≤ hN vh 0 ∧ hN vh 0 ≤ 4) ∧ (1 ≤ hN vh 1 ∧ hN vh 1 ≤ 4) ∧ (1 ≤ hN vh 2 ∧ hN vh 2 ≤ 4)) ∧ (∀ k, k < n → hN vh (4 + k) ≤ 10 ∧ hN vh (12 + k) ≤ 1 ∧ hN vh (20 + k) ≤ 1 ∧ hN vh (28 + k) < 16) ∧ ∀ s, s < m → (1 ≤ hN vh (36 + s) ∧ hN vh (36 + s) ≤ 12) ∧ hN vh (42 + s) ≤ 31 ∧ hN vh (48 + s) ≤ 16
theorem ord_inj : ∀ h, h < 5 → ∀ s, s < 8 → ∀ i, i < h → ∀ j, j < h → (s + i) % h = (s + j) % h → i = j := by decide +kernel
theorem D316 {s : Nat} (hs : s < 8) : ∀ k j n (vh : Nat → Int32), j + k = hN vh 3 → k < n → DS vh 8 6 → hN vh 3 ≤ hN vh 0 → (∀ i, i < j → hN vh (54 + i) = (s + i) % hN vh 0) → ∃ v, f_L_draw_316 fu n1 xs n z3 (nI s) (nI j) vh = some v ∧ HV v := by
  intro k
  induction k with
  | zero =>
    intro j n vh hj hn hD h3 ho
    obtain ⟨n, rfl⟩ : ∃ m, n = m + 1 := ⟨n - 1, by omega⟩
    obtain rfl : j = hN vh 3 := by omega
    obtain ⟨dv, ⟨a0, a1, a2⟩, hc, hs2⟩ := hD
    have inj := ord_inj (hN vh 0) (by omega) s hs
    have base : HV vh := ⟨fun k _ => dv k, ⟨a0, a1, a2, h3⟩, hc, hs2, fun j hj => by rw [ho j hj]; exact Nat.mod_lt _ (by omega), fun i j hi hj he => by
      rw [ho i hi, ho j hj] at he
      exact inj i (by omega) j (by omega) he⟩
    unfold f_L_draw_316
    rw [gi_n (by decide) (by decide), nI_cl (n := 3) (by decide), dv 3, if_pos (by rw [nI_le' (by omega) (by omega)]; omega), gi_n (by decide) (by decide)]
    split
    · exact ⟨vh, rfl, base⟩
    · rename_i h31
      rw [nI_le' (by omega) (by omega)] at h31
      split
      · rw [gi_n (by decide) (by decide), nI_cl (n := 54) (by decide), nI_cl (n := 55) (by decide)]
        unfold lt_
        dsimp only
        rw [gi_n (by decide) (by decide), gi_n (by decide) (by decide), gi_n (by decide) (by decide)]
        refine ⟨_, rfl, ?_⟩
        have e54 := ho 0 (by omega)
        have e55 := ho 1 (by omega)
        rw [Nat.add_zero] at e54
        rw [dv 54, dv 55]
        have l4 : hN vh 54 < hN vh 0 := by rw [e54]; exact Nat.mod_lt _ (by omega)
        have l5 : hN vh 55 < hN vh 0 := by rw [e55]; exact Nat.mod_lt _ (by omega)
        have dv2 := (dv.up (i := 54) (q := hN vh 55) (by omega)).up (i := 55) (q := hN vh 54) (by omega)
        have en : ∀ k, k ≠ 54 → k ≠ 55 → hN (upd (upd vh 54 (nI (hN vh 55))) 55 (nI (hN vh 54))) k = hN vh k := fun k k1 k2 => by rw [hN_n k2, hN_n k1]
        have e5 : hN (upd (upd vh 54 (nI (hN vh 55))) 55 (nI (hN vh 54))) 55 = hN vh 54 := hN_s (by omega)
        have e4 : hN (upd (upd vh 54 (nI (hN vh 55))) 55 (nI (hN vh 54))) 54 = hN vh 55 := by rw [hN_n (by omega), hN_s (by omega)]
        generalize upd (upd vh 54 (nI (hN vh 55))) 55 (nI (hN vh 54)) = v at *
        have ev : ∀ i, i < hN vh 3 → hN v (54 + i) = (s + (if i = 0 then 1 else if i = 1 then 0 else i)) % hN vh 0 := fun i hi => by
          by_cases i0 : i = 0
          · subst i0; rw [if_pos rfl, ← e55]; exact e4
          · by_cases i1 : i = 1
            · subst i1; rw [if_neg i0, if_pos rfl, Nat.add_zero, ← e54]; exact e5
            · rw [if_neg i0, if_neg i1, en _ (by omega) (by omega), ho i hi]
        refine ⟨fun k _ => dv2 k, ⟨?_, ?_, ?_, ?_⟩, fun k hk => ?_, fun s hs => ?_, fun j hj => ?_, fun i j hi hj he => ?_⟩
        · rw [en 0 (by omega) (by omega)]; exact a0
        · rw [en 1 (by omega) (by omega)]; exact a1
        · rw [en 2 (by omega) (by omega)]; exact a2
        · rw [en 3 (by omega) (by omega), en 0 (by omega) (by omega)]; exact h3
        · rw [en _ (by omega) (by omega), en _ (by omega) (by omega), en _ (by omega) (by omega), en _ (by omega) (by omega)]; exact hc k hk
        · rw [en _ (by omega) (by omega), en _ (by omega) (by omega), en _ (by omega) (by omega)]; exact hs2 s hs
        · rw [en 3 (by omega) (by omega)] at hj
          rw [ev j hj, en 0 (by omega) (by omega)]
          exact Nat.mod_lt _ (by omega)
        · rw [en 3 (by omega) (by omega)] at hi hj
          rw [ev i hi, ev j hj] at he
          have := inj _ (by split <;> first | omega | (split <;> omega)) _ (by split <;> first | omega | (split <;> omega)) he
          by_cases i0 : i = 0
          · by_cases j0 : j = 0
            · omega
            · rw [if_pos i0, if_neg j0] at this
              split at this <;> omega
          · by_cases j0 : j = 0
            · rw [if_neg i0, if_pos j0] at this
              split at this <;> omega
            · rw [if_neg i0, if_neg j0] at this
              split at this <;> split at this <;> omega
      · exact ⟨vh, rfl, base⟩
  | succ k ih =>
    intro j n vh hj hn hD h3 ho
    obtain ⟨n, rfl⟩ : ∃ m, n = m + 1 := ⟨n - 1, by omega⟩
    obtain ⟨dv, ⟨a0, a1, a2⟩, hc, hs2⟩ := hD
    have hm : (s + j) % hN vh 0 < hN vh 0 := Nat.mod_lt _ (by omega)
    unfold f_L_draw_316
    rw [gi_n (by decide) (by decide), nI_cl (n := 3) (by decide), dv 3, if_neg (by rw [nI_le' (by omega) (by omega)]; omega), gi_n (by decide) (by decide), nI_cl (n := 0) (by decide), dv 0, gd_nI (by omega) (by omega), nI_add s j, pk_rem (by omega) (by omega) (by omega), nI_add 54 j, nI_cl (n := 54 + j) (by omega)]
    unfold lt_
    dsimp only
    rw [gi_n (by omega) (by decide), nI_add]
    refine ih (j + 1) n _ (by rw [hN_n (by omega)]; omega) (by omega) ⟨dv.up (by omega), ⟨?_, ?_, ?_⟩, fun k hk => ?_, fun t ht => ?_⟩ ?_ (fun i hi => ?_)
    · rw [hN_n (by omega)]; exact a0
    · rw [hN_n (by omega)]; exact a1
    · rw [hN_n (by omega)]; exact a2
    · rw [hN_n (by omega), hN_n (by omega), hN_n (by omega), hN_n (by omega)]; exact hc k hk
    · rw [hN_n (by omega), hN_n (by omega), hN_n (by omega)]; exact hs2 t ht
    · rw [hN_n (by omega), hN_n (by omega)]; exact h3
    · rw [hN_n (j := 0) (by omega)]
      by_cases e : i = j
      · subst e; exact hN_s (by omega)
      · rw [hN_n (by omega)]; exact ho i (by omega)
theorem D300 (hD : DS vh 8 6) (hfu : 1000 < fu) {q : Nat} (hq : q ≤ hN vh 0) : ∃ v, f_L_draw_300 fu n1 xs z3 (nI 3) (nI q) vh = some v ∧ HV v := by
  obtain ⟨dv, ⟨a0, a1, a2⟩, hc, hs2⟩ := hD
  obtain ⟨r, hr, er⟩ := and7 (z3 >>> (nI 2 &&& (31 : Int32)))
  have hm : r % hN vh 0 < hN vh 0 := Nat.mod_lt _ (by omega)
  unfold f_L_draw_300
  rw [gi_n (by decide) (by decide), nI_cl (n := 3) (by decide), er]
  unfold lt_
  dsimp only
  have e0 : hN (upd vh 3 (nI q)) 0 = hN vh 0 := hN_n (by decide)
  have e3 : hN (upd vh 3 (nI q)) 3 = q := hN_s (by omega)
  have dv2 := dv.up (i := 3) (q := q) (by omega)
  rw [gi_n (by decide) (by decide), nI_cl (n := 0) (by decide), dv2 0, e0, gd_nI (by omega) (by omega), pk_rem (by omega) (by omega) (by omega)]
  refine D316 (by omega) q 0 fu _ (by rw [e3]; omega) (by omega) ⟨dv2, ⟨?_, ?_, ?_⟩, fun k hk => ?_, fun t ht => ?_⟩ (by rw [e3, e0]; exact hq) (fun i hi => absurd hi (Nat.not_lt_zero i))
  · rw [hN_n (by omega)]; exact a0
  · rw [hN_n (by omega)]; exact a1
  · rw [hN_n (by omega)]; exact a2
  · rw [hN_n (by omega), hN_n (by omega), hN_n (by omega), hN_n (by omega)]; exact hc k hk
  · rw [hN_n (by omega), hN_n (by omega), hN_n (by omega)]; exact hs2 t ht
theorem D216 {K : Int32 → Int32 → (Nat → Int32) → Option (Nat → Int32)} {m : Nat} {w0 : Int32} (hD : DS vh 8 m) (hm : m < 6) (hK : ∀ v, DS v 8 (m + 1) → ∃ r, K z3 (nI m + nI 1) v = some r ∧ HV r) : ∃ r, f_L_draw_216 fu n1 xs K z3 (nI m) w0 vh = some r ∧ HV r := by
  obtain ⟨dv, ⟨a0, a1, a2⟩, hc, hs2⟩ := hD
  obtain ⟨q1, h1, e1⟩ := and15 w0
  obtain ⟨q2, h2, e2⟩ := and31 (w0 >>> (nI 3 &&& (31 : Int32)))
  obtain ⟨q3, h3, e3⟩ := and31 (w0 >>> (nI 4 &&& (31 : Int32)))
  have m1 : q1 % 12 < 12 := Nat.mod_lt _ (by omega)
  have m3 : q3 % 17 < 17 := Nat.mod_lt _ (by omega)
  unfold f_L_draw_216
  rw [e1, e2, e3, pk_rem (by omega) (by omega) (by omega), pk_rem (by omega) (by omega) (by omega), nI_add 1 (q1 % 12), nI_add 36 m, nI_add 42 m, nI_add 48 m]
  unfold lt_
  dsimp only
  rw [gi_n (by omega) (by decide), gi_n (by omega) (by decide), gi_n (by omega) (by decide), nI_cl (n := 36 + m) (by omega), nI_cl (n := 42 + m) (by omega), nI_cl (n := 48 + m) (by omega)]
  refine hK _ ⟨((dv.up (by omega)).up (by omega)).up (by omega), ⟨?_, ?_, ?_⟩, fun k hk => ?_, fun t ht => ?_⟩
  · rw [hN_n (by omega), hN_n (by omega), hN_n (by omega)]; exact a0
  · rw [hN_n (by omega), hN_n (by omega), hN_n (by omega)]; exact a1
  · rw [hN_n (by omega), hN_n (by omega), hN_n (by omega)]; exact a2
  · simp (disch := omega) only [hN_n]; exact hc k hk
  · by_cases e : t = m
    · subst e
      simp (disch := omega) only [hN_n, hN_s]
      omega
    · simp (disch := omega) only [hN_n]
      exact hs2 t (by omega)
theorem D181 (hfu : 1000 < fu) (hn1 : n1 ≤ 300) : ∀ k m n (vh : Nat → Int32), m + k = 6 → k < n → DS vh 8 m → ∃ r, f_L_draw_181 fu n1 xs n z3 (nI m) vh = some r ∧ HV r := by
  intro k
  induction k with
  | zero =>
    intro m n vh hm hn hD
    obtain ⟨n, rfl⟩ : ∃ m, n = m + 1 := ⟨n - 1, by omega⟩
    obtain rfl : m = 6 := by omega
    have dv := hD.1
    have a0 := hD.2.1.1
    unfold f_L_draw_181
    rw [if_pos (by decide)]
    split
    · exact D300 hD hfu (Nat.zero_le _)
    · obtain ⟨q, hq, eq⟩ := and7 (z3 >>> (nI 8 &&& (31 : Int32)))
      have : q % hN vh 0 < hN vh 0 := Nat.mod_lt _ (by omega)
      rw [gi_n (by decide) (by decide), nI_cl (n := 0) (by decide), dv 0, gd_nI (by omega) (by omega), eq, pk_rem (by omega) (by omega) (by omega), nI_add]
      exact D300 hD hfu (by omega)
  | succ k ih =>
    intro m n vh hm hn hD
    obtain ⟨n, rfl⟩ : ∃ m, n = m + 1 := ⟨n - 1, by omega⟩
    have hK : ∀ v, DS v 8 (m + 1) → ∃ r, f_L_draw_181 fu n1 xs n z3 (nI m + nI 1) v = some r ∧ HV r := fun v hv => by
      rw [nI_add]
      exact ih (m + 1) n v (by omega) (by omega) hv
    unfold f_L_draw_181
    rw [if_neg (by rw [nI_le' (by omega) (by omega)]; omega)]
    split
    · exact D216 hD (by omega) hK
    · rename_i hx
      have hx2 : m + 1 < n1 := by
        rcases Nat.lt_or_ge (m + 1) n1 with h2 | h2
        · exact h2
        · exact absurd (show nI n1 ≤ nI m + nI 1 by rw [nI_add, nI_le' (by omega) (by omega)]; exact h2) hx
      rw [nI_add m 1, gi_n hx2 (by omega)]
      exact D216 hD (by omega) hK
theorem D148 {K : Int32 → Int32 → (Nat → Int32) → Option (Nat → Int32)} {n : Nat} {z5 : Int32} {w q : Nat} (hw : w < 62) (hn : n < 8) : ∃ d, d < 16 ∧ f_L_draw_148 fu n1 xs K z3 (nI n) z5 (nI w) (nI q) vh = K z3 (nI n + nI 1) (upd (upd vh w (nI q)) (28 + n) (nI d)) := by
  obtain ⟨q1, h1, e1⟩ := and15 (z5 >>> (nI 3 &&& (31 : Int32)))
  obtain ⟨q2, h2, e2⟩ := and15 (z5 >>> (nI 6 &&& (31 : Int32)))
  refine ⟨q1 &&& q2, Nat.lt_of_le_of_lt Nat.and_le_left h1, ?_⟩
  unfold f_L_draw_148
  rw [gi_n hw (by decide), nI_cl (n := w) (by omega), e1, e2, nI_and, nI_add 28 n, nI_cl (n := 28 + n) (by omega)]
  unfold lt_
  dsimp only
  rw [gi_n (by omega) (by decide)]
theorem D125 {K : Int32 → Int32 → (Nat → Int32) → Option (Nat → Int32)} {n : Nat} {z5 : Int32} {w q : Nat} (hw : w < 62) (hn : n < 8) : ∃ d q2, d < 16 ∧ q2 ≤ 1 ∧ f_L_draw_125 fu n1 xs K z3 (nI n) z5 (nI w) (nI q) vh = K z3 (nI n + nI 1) (upd (upd (upd vh w (nI q)) (20 + n) (nI q2)) (28 + n) (nI d)) := by
  unfold f_L_draw_125
  rw [gi_n hw (by decide), nI_cl (n := w) (by omega), nI_add 20 n]
  unfold lt_
  dsimp only
  split
  · obtain ⟨d, hd, e⟩ := D148 (K := K) (fu := fu) (n1 := n1) (xs := xs) (z3 := z3) (z5 := z5) (w := 20 + n) (q := 1) (vh := upd vh w (nI q)) (show 20 + n < 62 by omega) hn
    exact ⟨d, 1, hd, Nat.le_refl _, e⟩
  · obtain ⟨d, hd, e⟩ := D148 (K := K) (fu := fu) (n1 := n1) (xs := xs) (z3 := z3) (z5 := z5) (w := 20 + n) (q := 0) (vh := upd vh w (nI q)) (show 20 + n < 62 by omega) hn
    exact ⟨d, 0, hd, by omega, e⟩
theorem D88 {K : Int32 → Int32 → (Nat → Int32) → Option (Nat → Int32)} {n : Nat} {w0 : Int32} (hD : DS vh n 0) (hn : n < 8) (hK : ∀ v, DS v (n + 1) 0 → ∃ r, K z3 (nI n + nI 1) v = some r ∧ HV r) : ∃ r, f_L_draw_88 fu n1 xs K z3 (nI n) w0 vh = some r ∧ HV r := by
  obtain ⟨dv, ⟨a0, a1, a2⟩, hc, hs2⟩ := hD
  obtain ⟨q1, h1, e1⟩ := and15 w0
  have m1 : q1 % 11 < 11 := Nat.mod_lt _ (by omega)
  have fin : ∀ b c d, b ≤ 1 → c ≤ 1 → d < 16 → DS (upd (upd (upd (upd vh (4 + n) (nI (q1 % 11))) (12 + n) (nI b)) (20 + n) (nI c)) (28 + n) (nI d)) (n + 1) 0 := fun b c d hb hcc hd => by
    refine ⟨(((dv.up (by omega)).up (by omega)).up (by omega)).up (by omega), ⟨?_, ?_, ?_⟩, fun k hk => ?_, fun t ht => absurd ht (Nat.not_lt_zero t)⟩
    · simp (disch := omega) only [hN_n]; exact a0
    · simp (disch := omega) only [hN_n]; exact a1
    · simp (disch := omega) only [hN_n]; exact a2
    · by_cases e : k = n
      · subst e
        simp (disch := omega) only [hN_n, hN_s]
        omega
      · simp (disch := omega) only [hN_n]
        exact hc k (by omega)
  unfold f_L_draw_88
  rw [e1, pk_rem (by omega) (by omega) (by omega), nI_add 4 n, nI_add 12 n, nI_cl (n := 4 + n) (by omega)]
  unfold lt_
  dsimp only
  rw [gi_n (by omega) (by decide)]
  split
  · obtain ⟨d, c, hd, hc2, e⟩ := D125 (K := K) (fu := fu) (n1 := n1) (xs := xs) (z3 := z3) (z5 := w0) (w := 12 + n) (q := 1) (vh := upd vh (4 + n) (nI (q1 % 11))) (show 12 + n < 62 by omega) hn
    rw [e]
    exact hK _ (fin 1 c d (Nat.le_refl _) hc2 hd)
  · obtain ⟨d, c, hd, hc2, e⟩ := D125 (K := K) (fu := fu) (n1 := n1) (xs := xs) (z3 := z3) (z5 := w0) (w := 12 + n) (q := 0) (vh := upd vh (4 + n) (nI (q1 % 11))) (show 12 + n < 62 by omega) hn
    rw [e]
    exact hK _ (fin 0 c d (by omega) hc2 hd)
theorem D49 (hfu : 1000 < fu) (hn1 : n1 ≤ 300) : ∀ k m n (vh : Nat → Int32), m + k = 8 → k < n → DS vh m 0 → ∃ r, f_L_draw_49 fu n1 xs n z3 (nI m) vh = some r ∧ HV r := by
  intro k
  induction k with
  | zero =>
    intro m n vh hm hn hD
    obtain ⟨n, rfl⟩ : ∃ m, n = m + 1 := ⟨n - 1, by omega⟩
    obtain rfl : m = 8 := by omega
    unfold f_L_draw_49
    rw [if_pos (by decide)]
    exact D181 hfu hn1 6 0 fu vh (by omega) (by omega) hD
  | succ k ih =>
    intro m n vh hm hn hD
    obtain ⟨n, rfl⟩ : ∃ m, n = m + 1 := ⟨n - 1, by omega⟩
    have hK : ∀ v, DS v (m + 1) 0 → ∃ r, f_L_draw_49 fu n1 xs n z3 (nI m + nI 1) v = some r ∧ HV r := fun v hv => by
      rw [nI_add]
      exact ih (m + 1) n v (by omega) (by omega) hv
    have : m % 6 < 6 := Nat.mod_lt _ (by omega)
    unfold f_L_draw_49
    rw [if_neg (by rw [nI_le' (by omega) (by omega)]; omega), pk_rem (by omega) (by omega) (by omega), nI_add (m % 6) 1]
    split
    · exact D88 hD (by omega) hK
    · rename_i hx
      have hx2 : m % 6 + 1 < n1 := by
        rcases Nat.lt_or_ge (m % 6 + 1) n1 with h2 | h2
        · exact h2
        · exact absurd (show nI n1 ≤ nI (m % 6 + 1) by rw [nI_le' (by omega) (by omega)]; exact h2) hx
      rw [gi_n hx2 (by omega)]
      exact D88 hD (by omega) hK
theorem D14 (hfu : 1000 < fu) (hn1 : n1 ≤ 300) {w0 : Int32} (dv : Dv vh) : ∃ r, f_L_draw_14 fu n1 xs (nI 4) w0 vh = some r ∧ HV r := by
  obtain ⟨q1, h1, e1⟩ := and7 w0
  obtain ⟨q2, h2, e2⟩ := and3 (w0 >>> (nI 3 &&& (31 : Int32)))
  obtain ⟨q3, h3, e3⟩ := and3 (w0 >>> (nI 5 &&& (31 : Int32)))
  have m1 : q1 % 4 < 4 := Nat.mod_lt _ (by omega)
  unfold f_L_draw_14
  rw [gd_nI (by omega) (by omega), e1, e2, e3, pk_rem (by omega) (by omega) (by omega), nI_add 1 (q1 % 4), nI_add 1 q2, nI_add 1 q3, nI_cl (n := 0) (by omega), nI_cl (n := 1) (by omega), nI_cl (n := 2) (by omega)]
  unfold lt_
  dsimp only
  rw [gi_n (by omega) (by decide), gi_n (by omega) (by decide), gi_n (by omega) (by decide)]
  refine D49 hfu hn1 8 0 fu _ (by omega) (by omega) ⟨((dv.up (by omega)).up (by omega)).up (by omega), ⟨?_, ?_, ?_⟩, fun k hk => absurd hk (Nat.not_lt_zero k), fun k hk => absurd hk (Nat.not_lt_zero k)⟩
  · simp (disch := omega) only [hN_n, hN_s]; omega
  · simp (disch := omega) only [hN_n, hN_s]; omega
  · simp (disch := omega) only [hN_n, hN_s]; omega
theorem D0 (hfu : 1000 < fu) (hn1 : n1 ≤ 300) : ∃ r, f_L_draw_0 fu n1 xs (nI 4) (fun _ => nI 0) = some r ∧ HV r := by
  have dv : Dv (fun _ => nI 0) := fun k => rfl
  unfold f_L_draw_0
  split
  · exact D14 hfu hn1 dv
  · rename_i hx
    have hx2 : 0 < n1 := by
      rcases Nat.eq_zero_or_pos n1 with h2 | h2
      · subst h2; exact absurd rfl hx
      · exact h2
    rw [gi_n hx2 (by omega)]
    exact D14 hfu hn1 dv
end DR
