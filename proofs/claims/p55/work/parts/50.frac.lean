/-! FRACTIONS -/
theorem lgN_0 {a : Nat} (ha : a < 9223372036854775808) : (lg_cmp (lN a) (lN 0) = 0) = (a = 0) := by
  unfold lg_cmp
  have h1 : lN a > lN 0 ↔ 0 < a := pk_lLT (by decide) ha
  have h2 : lN a = lN 0 ↔ a = 0 := pk_lEQ ha (by decide)
  by_cases e : 0 < a
  · rw [if_pos (h1.mpr e)]; exact propext ⟨fun h => absurd h (by decide), fun h => by omega⟩
  · rw [if_neg (fun h => e (h1.mp h)), if_pos (h2.mpr (by omega))]; exact propext ⟨fun _ => by omega, fun _ => rfl⟩
theorem lgN_le {a : Nat} (ha : a < 9223372036854775808) (h0 : 0 < a) : ¬ lg_cmp (lN a) (lN 0) ≤ 0 := by
  unfold lg_cmp
  have h1 : lN a > lN 0 ↔ 0 < a := pk_lLT (by decide) ha
  rw [if_pos (h1.mpr h0)]; decide
theorem lN_ne0 {a : Nat} (ha : a < 9223372036854775808) (h0 : 0 < a) : ¬ lN a = 0 := fun h => by
  have h2 : lN a = lN 0 ↔ a = 0 := pk_lEQ ha (by decide)
  have := h2.mp h
  omega
theorem gcd_st (a b : Nat) : Nat.gcd b a = Nat.gcd (a % b) b := Nat.gcd_rec b a
theorem half_lt {b r k : Nat} (hr : r < b) (hr0 : 0 < r) (hb : b < 2 ^ (k + 1)) : b % r < 2 ^ k := by
  have h1 : b % r < r := Nat.mod_lt _ hr0
  have h2 := Nat.div_add_mod b r
  have h3 : 1 ≤ b / r := Nat.div_pos (by omega) hr0
  have h4 : r ≤ r * (b / r) := Nat.le_mul_of_pos_right r h3
  rw [Nat.pow_succ] at hb
  omega
theorem c_gcd {fu : Nat} : ∀ (k a b i n : Nat), a < 9223372036854775808 → b < 9223372036854775808 → b < 2 ^ k → i + 2 * k + 1 ≤ 199 → 2 * k + 1 < n → f_X4_commonDivisor_9 fu n (lN a) (lN b) (nI i) = some (lN (Nat.gcd b a))
  | 0, a, b, i, n, ha, hb, hk, hi, hn => by
    obtain ⟨n, rfl⟩ : ∃ q, n = q + 1 := ⟨n - 1, by omega⟩
    obtain rfl : b = 0 := by rw [Nat.pow_zero] at hk; omega
    simp (disch := omega) only [f_X4_commonDivisor_9, nI_le', if_neg, lgN_0, if_pos, if_true, Nat.gcd_zero_left]
  | k + 1, a, b, i, n, ha, hb, hk, hi, hn => by
    obtain ⟨n, rfl⟩ : ∃ q, n = q + 2 := ⟨n - 2, by omega⟩
    rcases Nat.eq_zero_or_pos b with rfl | h0
    · simp (disch := omega) only [f_X4_commonDivisor_9, nI_le', if_neg, lgN_0, if_pos, if_true, Nat.gcd_zero_left]
    · have hr : a % b < b := Nat.mod_lt _ h0
      have s1 : f_X4_commonDivisor_9 fu (n + 2) (lN a) (lN b) (nI i) = f_X4_commonDivisor_9 fu (n + 1) (lN b) (lN (a % b)) (nI (i + 1)) := by
        have hz := lN_ne0 hb h0
        rw [show n + 2 = (n + 1) + 1 from rfl]
        show (if nI 200 ≤ nI i then _ else _) = _
        rw [if_neg (by rw [nI_le' (by omega) (by omega)]; omega), if_neg (by rw [lgN_0 hb]; omega), gd_pos hz, pk_lRem ha h0 hb]
        simp only [lt_, nI_add]
      rw [s1, gcd_st a b]
      rcases Nat.eq_zero_or_pos (a % b) with h1 | h1
      · rw [h1]
        simp (disch := omega) only [f_X4_commonDivisor_9, nI_le', if_neg, lgN_0, if_pos, if_true, Nat.gcd_zero_left]
      · have s2 : f_X4_commonDivisor_9 fu (n + 1) (lN b) (lN (a % b)) (nI (i + 1)) = f_X4_commonDivisor_9 fu n (lN (a % b)) (lN (b % (a % b))) (nI (i + 2)) := by
          have hz := lN_ne0 (show a % b < 9223372036854775808 by omega) h1
          show (if nI 200 ≤ nI (i + 1) then _ else _) = _
          rw [if_neg (by rw [nI_le' (by omega) (by omega)]; omega), if_neg (by rw [lgN_0 (by omega)]; omega), gd_pos hz, pk_lRem hb h1 (by omega)]
          simp only [lt_, nI_add]
        have h2 : b % (a % b) < a % b := Nat.mod_lt _ h1
        rw [s2, c_gcd k (a % b) (b % (a % b)) (i + 2) n (by omega) (by omega) (half_lt hr h1 hk) (by omega) (by omega), gcd_st b (a % b)]
theorem m_gcd {fu : Nat} {u v : Int64} {t d : Nat} (ht : t < 9223372036854775808) (hd : d < 9223372036854775808) : ∀ (k a b n : Nat), a < 9223372036854775808 → b < 9223372036854775808 → b < 2 ^ k → 0 < a + b → 2 * k + 1 < n →
    f_X12_fraction_9 fu n (lN t) (lN d) (lN a) (lN b) u v = some (nI 1, lN (t / Nat.gcd b a), lN (d / Nat.gcd b a))
  | 0, a, b, n, ha, hb, hk, h0, hn => by
    obtain ⟨n, rfl⟩ : ∃ q, n = q + 1 := ⟨n - 1, by omega⟩
    obtain rfl : b = 0 := by rw [Nat.pow_zero] at hk; omega
    have hz := lN_ne0 ha (by omega)
    simp (disch := omega) only [f_X12_fraction_9, lgN_0, if_pos, if_true, Nat.gcd_zero_left, gd_pos hz, lt_, pk_lDiv]
  | k + 1, a, b, n, ha, hb, hk, h0, hn => by
    obtain ⟨n, rfl⟩ : ∃ q, n = q + 2 := ⟨n - 2, by omega⟩
    rcases Nat.eq_zero_or_pos b with rfl | hb0
    · have hz := lN_ne0 ha (by omega)
      simp (disch := omega) only [f_X12_fraction_9, lgN_0, if_pos, if_true, Nat.gcd_zero_left, gd_pos hz, lt_, pk_lDiv]
    · have hr : a % b < b := Nat.mod_lt _ hb0
      have s1 : f_X12_fraction_9 fu (n + 2) (lN t) (lN d) (lN a) (lN b) u v = f_X12_fraction_9 fu (n + 1) (lN t) (lN d) (lN b) (lN (a % b)) u v := by
        have hz := lN_ne0 hb hb0
        rw [show n + 2 = (n + 1) + 1 from rfl]
        show (if lg_cmp (lN b) (lN 0) = 0 then _ else _) = _
        rw [if_neg (by rw [lgN_0 hb]; omega), gd_pos hz, pk_lRem ha hb0 hb]
        simp only [lt_]
      rw [s1, gcd_st a b]
      rcases Nat.eq_zero_or_pos (a % b) with h1 | h1
      · rw [h1]
        have hz := lN_ne0 hb hb0
        simp (disch := omega) only [f_X12_fraction_9, lgN_0, if_pos, if_true, Nat.gcd_zero_left, gd_pos hz, lt_, pk_lDiv]
      · have s2 : f_X12_fraction_9 fu (n + 1) (lN t) (lN d) (lN b) (lN (a % b)) u v = f_X12_fraction_9 fu n (lN t) (lN d) (lN (a % b)) (lN (b % (a % b))) u v := by
          have hz := lN_ne0 (show a % b < 9223372036854775808 by omega) h1
          show (if lg_cmp (lN (a % b)) (lN 0) = 0 then _ else _) = _
          rw [if_neg (by rw [lgN_0 (by omega)]; omega), gd_pos hz, pk_lRem hb h1 (by omega)]
          simp only [lt_]
        have h2 : b % (a % b) < a % b := Nat.mod_lt _ h1
        rw [s2, m_gcd ht hd k (a % b) (b % (a % b)) n (by omega) (by omega) (half_lt hr h1 hk) (by omega) (by omega), gcd_st b (a % b)]
theorem c_keep {fu t d : Nat} {u v : Int64} (ht : t < 4611686018427387904) (hd : d < 4611686018427387904) (h0 : 0 < d) (hfu : 200 < fu) : f_X4_keep fu (lN t) (lN d) u v = some (lN (t / Nat.gcd t d), lN (d / Nat.gcd t d)) := by
  have hg : 0 < Nat.gcd t d := Nat.gcd_pos_of_pos_right _ h0
  have hg2 : Nat.gcd t d ≤ d := Nat.gcd_le_right _ h0
  unfold f_X4_keep f_X4_commonDivisor
  rw [c_gcd 62 d t 0 fu (by omega) (by omega) (by omega) (by omega) (by omega), bd_s, if_neg (lgN_le (by omega) hg)]
  have hz := lN_ne0 (show Nat.gcd t d < 9223372036854775808 by omega) hg
  simp (disch := omega) only [gd_pos hz, lt_, pk_lDiv]
theorem m_frac {fu t d : Nat} {u v : Int64} (ht : t < 4611686018427387904) (hd : d < 4611686018427387904) (h0 : 0 < d) (hfu : 200 < fu) : f_X12_fraction fu (lN t) (lN d) u v = some (nI 1, lN (t / Nat.gcd t d), lN (d / Nat.gcd t d)) := by
  have e : (if 0 < lN t then lN t else -lN t) = lN t := by
    by_cases h : 0 < t
    · rw [if_pos (show (0 : Int64) < lN t from (pk_lLT (a := 0) (by decide) (by omega)).mpr h)]
    · obtain rfl : t = 0 := by omega
      rw [if_neg (by decide)]
      decide
  unfold f_X12_fraction
  rw [e]
  show f_X12_fraction_9 fu fu (lN t) (lN d) (lN t) (lN d) u v = _
  rw [m_gcd (by omega) (by omega) 62 t d fu (by omega) (by omega) (by omega) (by omega) (by omega), Nat.gcd_comm d t]
/-- alike fractions come to the same -/
theorem frac_same {t1 d1 t2 d2 : Nat} (h1 : 0 < d1) (h2 : 0 < d2) (h : t1 * d2 = t2 * d1) : t1 / Nat.gcd t1 d1 = t2 / Nat.gcd t2 d2 ∧ d1 / Nat.gcd t1 d1 = d2 / Nat.gcd t2 d2 := by
  have g1 : 0 < Nat.gcd t1 d1 := Nat.gcd_pos_of_pos_right _ h1
  have g2 : 0 < Nat.gcd t2 d2 := Nat.gcd_pos_of_pos_right _ h2
  have c1 := Nat.coprime_div_gcd_div_gcd g1
  have c2 := Nat.coprime_div_gcd_div_gcd g2
  have a1 : Nat.gcd t1 d1 * (t1 / Nat.gcd t1 d1) = t1 := Nat.mul_div_cancel' (Nat.gcd_dvd_left _ _)
  have b1 : Nat.gcd t1 d1 * (d1 / Nat.gcd t1 d1) = d1 := Nat.mul_div_cancel' (Nat.gcd_dvd_right _ _)
  have a2 : Nat.gcd t2 d2 * (t2 / Nat.gcd t2 d2) = t2 := Nat.mul_div_cancel' (Nat.gcd_dvd_left _ _)
  have b2 : Nat.gcd t2 d2 * (d2 / Nat.gcd t2 d2) = d2 := Nat.mul_div_cancel' (Nat.gcd_dvd_right _ _)
  generalize t1 / Nat.gcd t1 d1 = x1 at a1 c1 ⊢
  generalize d1 / Nat.gcd t1 d1 = y1 at b1 c1 ⊢
  generalize t2 / Nat.gcd t2 d2 = x2 at a2 c2 ⊢
  generalize d2 / Nat.gcd t2 d2 = y2 at b2 c2 ⊢
  generalize Nat.gcd t1 d1 = G1 at g1 a1 b1
  generalize Nat.gcd t2 d2 = G2 at g2 a2 b2
  subst a1 b1 a2 b2
  have hy1 : 0 < y1 := Nat.pos_of_ne_zero (fun e => by rw [e] at h1; omega)
  have hy2 : 0 < y2 := Nat.pos_of_ne_zero (fun e => by rw [e] at h2; omega)
  have e : x1 * y2 = x2 * y1 := by
    have e1 : G1 * G2 * (x1 * y2) = G1 * G2 * (x2 * y1) := by
      calc G1 * G2 * (x1 * y2) = (G1 * x1) * (G2 * y2) := by ac_rfl
        _ = (G2 * x2) * (G1 * y1) := h
        _ = G1 * G2 * (x2 * y1) := by ac_rfl
    exact Nat.eq_of_mul_eq_mul_left (Nat.mul_pos g1 g2) e1
  have d12 : y1 ∣ y2 := c1.symm.dvd_of_dvd_mul_left (show y1 ∣ x1 * y2 by rw [e]; exact Nat.dvd_mul_left _ _)
  have d21 : y2 ∣ y1 := c2.symm.dvd_of_dvd_mul_left (show y2 ∣ x2 * y1 by rw [← e]; exact Nat.dvd_mul_left _ _)
  have ey : y1 = y2 := Nat.dvd_antisymm d12 d21
  subst ey
  exact ⟨Nat.eq_of_mul_eq_mul_right hy1 e, rfl⟩
