/-! the law's round: the turn, the mix, what to hide -/
theorem lgN_c {a b : Nat} (ha : a < 9223372036854775808) (hb : b < 9223372036854775808) : ((lg_cmp (lN a) (lN b) = 0) = (a = b)) ∧ ((lg_cmp (lN a) (lN b) ≤ 0) = (a ≤ b)) ∧ ((0 ≤ lg_cmp (lN a) (lN b)) = (b ≤ a)) := by
  unfold lg_cmp
  have h1 : lN a > lN b ↔ b < a := pk_lLT hb ha
  have h2 : lN a = lN b ↔ a = b := pk_lEQ ha hb
  by_cases e : b < a
  · rw [if_pos (h1.mpr e)]
    exact ⟨propext ⟨fun h => absurd h (by decide), fun h => by omega⟩, propext ⟨fun h => absurd h (by decide), fun h => by omega⟩, propext ⟨fun _ => by omega, fun _ => by decide⟩⟩
  · rw [if_neg (fun h => e (h1.mp h))]
    by_cases e2 : a = b
    · rw [if_pos (h2.mpr e2)]
      exact ⟨propext ⟨fun _ => e2, fun _ => rfl⟩, propext ⟨fun _ => by omega, fun _ => by decide⟩, propext ⟨fun _ => by omega, fun _ => by decide⟩⟩
    · rw [if_neg (fun h => e2 (h2.mp h))]
      exact ⟨propext ⟨fun h => absurd h (by decide), fun h => by omega⟩, propext ⟨fun _ => by omega, fun _ => by decide⟩, propext ⟨fun h => absurd h (by decide), fun h => by omega⟩⟩
section LAW2
variable {fu n1 : Nat} {xs : Nat → Int32} {vh : Nat → Int32} {K : Int32 → Int32 → (Nat → Nat) → Option (Nat → Nat) → Nat → (Nat → Nat) → Int64 → Int64 → Option (Int32)} {z4 z5 z6 z8 : Int32} {σ ρ : Nat → Nat} {bm : Nat} {bo : Nat → Nat} {fa fb : Int64} {B c e : Nat} {va : Nat → Int32}
theorem T970 (H : HV vh) (hK : HK vh K z4 z5 (σ 4 + 4)) (h : RI vh σ) (hB : σ 4 ≤ 9000) (hc : c < σ 0) (hfu : 100 < fu) (hz8 : z8 = nI (σ 5)) : ∀ k j n (va : Nat → Int32), j + k = hN vh 0 → k < n → (∀ i, i < j → va i = nI (σ (33 + i))) → f_L_law_970 fu n1 xs vh K n z4 z5 z6 z8 (nI c) (nI (σ 4)) (nI j) σ none bm bo fa fb va = some (nI 1) := by
  have w := h.1
  have h0 := H.2.1.1
  have e0 := h.2.1.1
  intro k
  induction k with
  | zero =>
    intro j n va hj hn hva
    obtain ⟨n, rfl⟩ : ∃ m, n = m + 1 := ⟨n - 1, by omega⟩
    unfold f_L_law_970
    obtain ⟨q, hq, eq⟩ := and3 (z6 >>> (nI 4 &&& (31 : Int32)))
    obtain ⟨-, hB2, h4⟩ := sIt_ok w (1 + q)
    rw [gi_n (by decide) (by decide), H.at 0 (by decide), if_pos (by rw [nI_le' (by omega) (by omega)]; omega), eq, nI_add 1 q]
    show bd_ (s_next σ) _ = _
    unfold s_next
    rw [bd_s, sc_turn (by omega) (by omega) (by omega), bd_s]
    show (if nI (sIt (1 + q) σ 4) = nI (σ 4) + nI (1 + q) then _ else _) = _
    rw [if_pos (by rw [nI_add, h4])]
    refine T1031 (ρ := σ) (B := σ 4 + 4) H hK (h.it H _ (by omega)) (by rw [h4]; omega) (by rw [hB2.e0]; exact hc) (fun k hk => hva k (by omega)) (km_it w _) h.2.2.1 ?_ (hN vh 0) 0 fu (by omega) (by omega)
    cases hn : sNext σ with
    | none => exact Or.inr (by rw [(no_next hn _).1, hz8])
    | some p =>
      refine Or.inl ?_
      have := w.or' (sNext_lt hn)
      show (0 : Int32) ≤ nI (σ (67 + p))
      rw [nI_0le (by omega)]
      trivial
  | succ k ih =>
    intro j n va hj hn hva
    obtain ⟨n, rfl⟩ : ∃ m, n = m + 1 := ⟨n - 1, by omega⟩
    unfold f_L_law_970
    rw [gi_n (by decide) (by decide), H.at 0 (by decide), if_neg (by rw [nI_le' (by omega) (by omega)]; omega), sc_cell3 w (by omega), bd_s, gi_n (by omega) (by omega), nI_cl (by omega), nI_add]
    refine ih (j + 1) n _ (by omega) (by omega) (fun i hi => ?_)
    unfold upd
    by_cases e : i = j
    · subst e; exact if_pos rfl
    · rw [if_neg e]; exact hva i (by omega)
/-! MIX: the sum of all is one -/
def sSx (σ : Nat → Nat) : Nat → Nat
  | 0 => 0
  | k + 1 => if sShut σ k = true then sSx σ k else sSx σ k + sMixT σ k
theorem sSx_le {k d : Nat} : sSx σ k ≤ sSx σ (k + d) := by
  induction d with
  | zero => exact Nat.le_refl _
  | succ d ih =>
    show _ ≤ (if sShut σ (k + d) = true then sSx σ (k + d) else sSx σ (k + d) + sMixT σ (k + d))
    split
    · exact ih
    · omega
theorem sSx_none (h : sSafe σ = none) : ∀ k, sSx σ k = sShare σ 720720 k
  | 0 => rfl
  | k + 1 => by
    unfold sSx sShare
    rw [sSx_none h k]
    unfold sMixT
    rw [h]
theorem safeN_some : ∀ {k j p : Nat}, sSafeN σ k j = some p → j ≤ p ∧ p < j + k ∧ sShut σ p = false
  | 0, _, _, h => by cases h
  | k + 1, j, p, h => by
    unfold sSafeN at h
    split at h
    · obtain ⟨a, b, c⟩ := safeN_some h
      exact ⟨by omega, by omega, c⟩
    · rename_i hs
      split at h
      · cases h
        exact ⟨by omega, by omega, Bool.eq_false_iff.mpr hs⟩
      · obtain ⟨a, b, c⟩ := safeN_some h
        exact ⟨by omega, by omega, c⟩
theorem sSx_some {q : Nat} (h : sSafe σ = some q) (hq : sShut σ q = false) : ∀ k, sSx σ k = if q < k then 1 else 0
  | 0 => rfl
  | k + 1 => by
    unfold sSx
    rw [sSx_some h hq k]
    unfold sMixT
    rw [h]
    by_cases e : k = q
    · subst e
      rw [if_neg (by rw [hq]; decide), if_neg (Nat.lt_irrefl _), if_pos (Nat.lt_succ_self _)]
      show 0 + (if k = k then 1 else 0) = 1
      rw [if_pos rfl]
    · show (if _ then _ else _ + (if k = q then 1 else 0)) = _
      rw [if_neg e]
      by_cases e2 : q < k
      · rw [if_pos e2, if_pos (show q < k + 1 by omega)]; split <;> rfl
      · rw [if_neg e2, if_neg (show ¬ q < k + 1 by omega)]; split <;> rfl
theorem sSx_all : sSx σ (σ 2) = sMixB σ := by
  unfold sMixB
  cases h : sSafe σ with
  | none => exact sSx_none h _
  | some q =>
    obtain ⟨-, b, c⟩ := safeN_some h
    rw [sSx_some h c, if_pos (by omega)]
theorem sShare_le (X : Nat) : ∀ k, sShare σ X k ≤ k * X
  | 0 => by rw [Nat.zero_mul]; exact Nat.le_refl _
  | k + 1 => by
    have ih := sShare_le X k
    have := Nat.div_le_self X (σ (61 + k))
    unfold sShare
    rw [Nat.succ_mul]
    split <;> omega
theorem mixB_le (w : WF σ) : sMixB σ ≤ 4324320 := by
  have h2 := w.c2
  unfold sMixB
  cases h : sSafe σ with
  | none =>
    have := sShare_le (σ := σ) 720720 (σ 2)
    have h3 := Nat.mul_le_mul_right 720720 h2
    show sShare σ 720720 (σ 2) ≤ _
    omega
  | some q => show 1 ≤ _; omega
/-- how the loop of the greatest common divisor ends -/
theorem T879 {K8 : Int32 → Int32 → Int32 → Int32 → Int32 → Int32 → Int64 → Int64 → Int32 → (Nat → Nat) → Option (Nat → Nat) → Nat → (Nat → Nat) → Int64 → Int64 → Option (Int32)} {z10 z16 z22 : Int32} {v18 v20 : Int64} {M : Option (Nat → Nat)} : ∀ (k x y n : Nat), x < 9223372036854775808 → y < 9223372036854775808 → y < 2 ^ k → 2 * k + 1 < n → f_L_law_879 fu n1 xs vh K K8 n z4 z5 z6 z8 z10 z16 v18 v20 z22 (lN x) (lN y) σ M bm bo fa fb = f_L_law_879 fu n1 xs vh K K8 1 z4 z5 z6 z8 z10 z16 v18 v20 z22 (lN (Nat.gcd y x)) (lN 0) σ M bm bo fa fb
  | 0, x, y, n, hx, hy, hk, hn => by
    obtain ⟨n, rfl⟩ : ∃ q, n = q + 1 := ⟨n - 1, by omega⟩
    obtain rfl : y = 0 := by rw [Nat.pow_zero] at hk; omega
    rw [Nat.gcd_zero_left]
    have hz : lg_cmp (lN 0) (lN 0) = 0 := by decide
    unfold f_L_law_879
    rw [if_pos hz, if_pos hz]
  | k + 1, x, y, n, hx, hy, hk, hn => by
    have e0 : ∀ m x2, f_L_law_879 fu n1 xs vh K K8 (m + 1) z4 z5 z6 z8 z10 z16 v18 v20 z22 (lN x2) (lN 0) σ M bm bo fa fb = f_L_law_879 fu n1 xs vh K K8 1 z4 z5 z6 z8 z10 z16 v18 v20 z22 (lN x2) (lN 0) σ M bm bo fa fb := fun m x2 => by
      have hz : lg_cmp (lN 0) (lN 0) = 0 := by decide
      unfold f_L_law_879
      rw [if_pos hz, if_pos hz]
    have es : ∀ m x2 y2, x2 < 9223372036854775808 → y2 < 9223372036854775808 → 0 < y2 → f_L_law_879 fu n1 xs vh K K8 (m + 1) z4 z5 z6 z8 z10 z16 v18 v20 z22 (lN x2) (lN y2) σ M bm bo fa fb = f_L_law_879 fu n1 xs vh K K8 m z4 z5 z6 z8 z10 z16 v18 v20 z22 (lN y2) (lN (x2 % y2)) σ M bm bo fa fb := fun m x2 y2 q1 q2 q3 => by
      conv => lhs; unfold f_L_law_879
      rw [if_neg (by rw [lgN_0 q2]; omega), gd_pos (lN_ne0 q2 q3), pk_lRem q1 q3 q2]
      rfl
    obtain ⟨n, rfl⟩ : ∃ q, n = q + 2 := ⟨n - 2, by omega⟩
    rcases Nat.eq_zero_or_pos y with rfl | h0
    · rw [e0, Nat.gcd_zero_left]
    · have hr : x % y < y := Nat.mod_lt _ h0
      rw [es _ _ _ hx hy h0, gcd_st x y]
      rcases Nat.eq_zero_or_pos (x % y) with h1 | h1
      · rw [h1, e0, Nat.gcd_zero_left]
      · have h2 : y % (x % y) < x % y := Nat.mod_lt _ h1
        rw [es _ _ _ hy (by omega) h1, T879 k (x % y) (y % (x % y)) n (by omega) (by omega) (half_lt hr h1 hk) (by omega), gcd_st y (x % y)]
theorem T879e {K8 : Int32 → Int32 → Int32 → Int32 → Int32 → Int32 → Int64 → Int64 → Int32 → (Nat → Nat) → Option (Nat → Nat) → Nat → (Nat → Nat) → Int64 → Int64 → Option (Int32)} {z10 z16 z22 : Int32} {a b : Nat} {M : Option (Nat → Nat)} (ha : a < 4611686018427387904) (hb : b < 4611686018427387904) (hb0 : 0 < b) (hn : 1000 < fu) (ha0 : 0 < a) : f_L_law_879 fu n1 xs vh K K8 fu z4 z5 z6 z8 z10 z16 (lN a) (lN b) z22 (lN a) (lN b) σ M bm bo fa fb = K8 z4 z5 z6 z8 z10 z16 (lN (a / Nat.gcd a b)) (lN (b / Nat.gcd a b)) (z22 + nI 1) σ M bm bo fa fb := by
  have hg : 0 < Nat.gcd b a := Nat.gcd_pos_of_pos_right _ ha0
  have hgl : Nat.gcd b a ≤ a := Nat.gcd_le_right _ ha0
  rw [T879 62 a b fu (by omega) (by omega) (by omega) (by omega), Nat.gcd_comm a b]
  have hd : 0 < a / Nat.gcd b a := Nat.div_pos hgl hg
  have hd2 := Nat.div_le_self a (Nat.gcd b a)
  have c1 := (lgN_c (a := Nat.gcd b a) (b := 1) (by omega) (by omega)).2.1
  unfold f_L_law_879
  rw [if_pos (by rw [lgN_0 (by omega)])]
  by_cases g1 : Nat.gcd b a ≤ 1
  · rw [if_pos (by rw [c1]; exact g1)]
    unfold f_L_law_925
    rw [if_pos (by rw [c1]; exact g1)]
    have g2 : Nat.gcd b a = 1 := by omega
    rw [g2, Nat.div_one, Nat.div_one]
    rfl
  · rw [if_neg (by rw [c1]; exact g1), if_neg (lgN_le (by omega) ha0), gd_pos (lN_ne0 (by omega) hg), pk_lDiv (by omega) hg (by omega)]
    show f_L_law_925 fu n1 xs vh K K8 z4 z5 z6 z8 z10 z16 (lN (a / Nat.gcd b a)) (lN b) z22 (lN (Nat.gcd b a)) σ M bm bo fa fb = _
    unfold f_L_law_925
    rw [if_neg (by rw [c1]; exact g1), if_neg (lgN_le (by omega) hd), gd_pos (lN_ne0 (by omega) hg), pk_lDiv (by omega) hg (by omega)]
    rfl
theorem T879z {K8 : Int32 → Int32 → Int32 → Int32 → Int32 → Int32 → Int64 → Int64 → Int32 → (Nat → Nat) → Option (Nat → Nat) → Nat → (Nat → Nat) → Int64 → Int64 → Option (Int32)} {z10 z16 z22 : Int32} {b : Nat} {v18 v20 : Int64} {M : Option (Nat → Nat)} (hb : b < 4611686018427387904) (hn : 1000 < fu) : f_L_law_879 fu n1 xs vh K K8 fu z4 z5 z6 z8 z10 z16 v18 v20 z22 (lN 1) (lN b) σ M bm bo fa fb = K8 z4 z5 z6 z8 z10 z16 v18 v20 (z22 + nI 1) σ M bm bo fa fb := by
  rw [T879 62 1 b fu (by omega) (by omega) (by omega) (by omega), Nat.gcd_one_right]
  unfold f_L_law_879
  rw [if_pos (by rw [lgN_0 (by omega)]), if_pos (by decide)]
  unfold f_L_law_925
  rw [if_pos (by decide)]
  rfl
theorem T814 (H : HV vh) (hK : HK vh K z4 z5 (σ 4 + 4)) (h : RI vh σ) (hB : σ 4 ≤ 9000) (hc : c < σ 0) (hfu : 1000 < fu) (hz8 : z8 = nI (σ 5)) (hb0 : 0 < sMixB σ) : ∀ k p n (fa fb : Int64), p + k = hN vh 2 → k < n → f_L_law_814 fu n1 xs vh K n z4 z5 z6 z8 (nI c) (nI (σ 4)) (lN (sSx σ p / Nat.gcd (sSx σ p) (sMixB σ))) (lN (sMixB σ / Nat.gcd (sSx σ p) (sMixB σ))) (nI p) σ none bm bo fa fb = some (nI 1) := by
  have w := h.1
  have h2 := H.2.1.2.2.1
  have e2 := h.2.1.2.2.1
  have hBl := mixB_le w
  intro k
  induction k with
  | zero =>
    intro p n fa fb hp hn
    obtain ⟨n, rfl⟩ : ∃ m, n = m + 1 := ⟨n - 1, by omega⟩
    obtain rfl : p = σ 2 := by omega
    unfold f_L_law_814
    rw [gi_n (by decide) (by decide), H.at 2 (by decide), if_pos (by rw [nI_le' (by omega) (by omega)]; omega), sSx_all, if_pos (by rw [(lgN_c (a := sMixB σ / Nat.gcd (sMixB σ) (sMixB σ)) (b := sMixB σ / Nat.gcd (sMixB σ) (sMixB σ)) (by have := Nat.div_le_self (sMixB σ) (Nat.gcd (sMixB σ) (sMixB σ)); omega) (by have := Nat.div_le_self (sMixB σ) (Nat.gcd (sMixB σ) (sMixB σ)); omega)).1])]
    exact T970 H hK h hB hc (by omega) hz8 (hN vh 0) 0 fu _ (by omega) (by have := H.2.1.1; omega) (fun i hi => absurd hi (Nat.not_lt_zero i))
  | succ k ih =>
    intro p n fa fb hp hn
    obtain ⟨n, rfl⟩ : ∃ m, n = m + 1 := ⟨n - 1, by omega⟩
    unfold f_L_law_814
    rw [gi_n (by decide) (by decide), H.at 2 (by decide), if_neg (by rw [nI_le' (by omega) (by omega)]; omega)]
    cases hs : sShut σ p with
    | true =>
      rw [sc_mix1 w (by omega) hs, bd_s]
      show (if nI 0 = 0 then _ else _) = _
      rw [if_pos (by decide)]
      have ih' := ih (p + 1) n fa fb (by omega) (by omega)
      have e : sSx σ (p + 1) = sSx σ p := by
        show (if sShut σ p = true then _ else _) = _
        rw [if_pos hs]
      rw [e, ← nI_add] at ih'
      exact ih'
    | false =>
      rw [sc_mix0 w (by omega) hs, bd_s]
      show (if nI 1 = 0 then _ else _) = _
      rw [if_neg (by decide)]
      have e : sSx σ (p + 1) = sSx σ p + sMixT σ p := by
        show (if sShut σ p = true then _ else _) = _
        rw [if_neg (by rw [hs]; decide)]
      have hle : sSx σ (p + 1) ≤ sMixB σ := by
        rw [← sSx_all]
        have := sSx_le (σ := σ) (k := p + 1) (d := σ 2 - (p + 1))
        rw [show p + 1 + (σ 2 - (p + 1)) = σ 2 by omega] at this
        exact this
      have gT : 0 < Nat.gcd (sMixT σ p) (sMixB σ) := Nat.gcd_pos_of_pos_right _ hb0
      have gA : 0 < Nat.gcd (sSx σ p) (sMixB σ) := Nat.gcd_pos_of_pos_right _ hb0
      have ih' := fun fa fb => ih (p + 1) n fa fb (by omega) (by omega)
      rw [e] at ih' hle
      have a1 : Nat.gcd (sMixT σ p) (sMixB σ) * (sMixT σ p / Nat.gcd (sMixT σ p) (sMixB σ)) = sMixT σ p := Nat.mul_div_cancel' (Nat.gcd_dvd_left _ _)
      have b1 : Nat.gcd (sMixT σ p) (sMixB σ) * (sMixB σ / Nat.gcd (sMixT σ p) (sMixB σ)) = sMixB σ := Nat.mul_div_cancel' (Nat.gcd_dvd_right _ _)
      have a2 : Nat.gcd (sSx σ p) (sMixB σ) * (sSx σ p / Nat.gcd (sSx σ p) (sMixB σ)) = sSx σ p := Nat.mul_div_cancel' (Nat.gcd_dvd_left _ _)
      have b2 : Nat.gcd (sSx σ p) (sMixB σ) * (sMixB σ / Nat.gcd (sSx σ p) (sMixB σ)) = sMixB σ := Nat.mul_div_cancel' (Nat.gcd_dvd_right _ _)
      have lt1 := Nat.div_le_self (sMixT σ p) (Nat.gcd (sMixT σ p) (sMixB σ))
      have ld1 := Nat.div_le_self (sMixB σ) (Nat.gcd (sMixT σ p) (sMixB σ))
      have lt2 := Nat.div_le_self (sSx σ p) (Nat.gcd (sSx σ p) (sMixB σ))
      have ld2 := Nat.div_le_self (sMixB σ) (Nat.gcd (sSx σ p) (sMixB σ))
      generalize sMixT σ p / Nat.gcd (sMixT σ p) (sMixB σ) = t at *
      generalize sMixB σ / Nat.gcd (sMixT σ p) (sMixB σ) = d at *
      generalize sSx σ p / Nat.gcd (sSx σ p) (sMixB σ) = a at *
      generalize sMixB σ / Nat.gcd (sSx σ p) (sMixB σ) = b at *
      have hd0 : 0 < d := Nat.pos_of_ne_zero (fun h => by rw [h, Nat.mul_zero] at b1; omega)
      have hbb : 0 < b := Nat.pos_of_ne_zero (fun h => by rw [h, Nat.mul_zero] at b2; omega)
      have hD0 : 0 < b * d := Nat.mul_pos hbb hd0
      have m1 : a * d ≤ 4324320 * 4324320 := Nat.mul_le_mul (by omega) (by omega)
      have m2 : t * b ≤ 4324320 * 4324320 := Nat.mul_le_mul (by omega) (by omega)
      have m3 : b * d ≤ 4324320 * 4324320 := Nat.mul_le_mul (by omega) (by omega)
      have hx : (a * d + t * b) * sMixB σ = (sSx σ p + sMixT σ p) * (b * d) := by
        have x1 : a * sMixB σ = sSx σ p * b := by
          calc a * sMixB σ = a * (Nat.gcd (sSx σ p) (sMixB σ) * b) := by rw [b2]
            _ = (Nat.gcd (sSx σ p) (sMixB σ) * a) * b := by ac_rfl
            _ = sSx σ p * b := by rw [a2]
        have x2 : t * sMixB σ = sMixT σ p * d := by
          calc t * sMixB σ = t * (Nat.gcd (sMixT σ p) (sMixB σ) * d) := by rw [b1]
            _ = (Nat.gcd (sMixT σ p) (sMixB σ) * t) * d := by ac_rfl
            _ = sMixT σ p * d := by rw [a1]
        calc (a * d + t * b) * sMixB σ = (a * sMixB σ) * d + (t * sMixB σ) * b := by rw [Nat.add_mul]; ac_rfl
          _ = (sSx σ p * b) * d + (sMixT σ p * d) * b := by rw [x1, x2]
          _ = (sSx σ p + sMixT σ p) * (b * d) := by rw [Nat.add_mul]; ac_rfl
      show bd_ (s_bottom (lN d)) _ = _
      unfold s_bottom s_top
      simp only [bd_s]
      show (if 0 ≤ lg_cmp (lN a * lN d + lN t * lN b) (lN 1) then f_L_law_879 _ _ _ _ _ _ _ _ _ _ _ _ _ (lN a * lN d + lN t * lN b) (lN b * lN d) _ (lN a * lN d + lN t * lN b) (lN b * lN d) _ _ _ _ _ _ else f_L_law_879 _ _ _ _ _ _ _ _ _ _ _ _ _ (lN a * lN d + lN t * lN b) (lN b * lN d) _ (lN 1) (lN b * lN d) _ _ _ _ _ _) = _
      rw [lN_mul, lN_mul, lN_mul, lN_add]
      have c3 := (lgN_c (a := a * d + t * b) (b := 1) (by omega) (by omega)).2.2
      by_cases hn0 : 1 ≤ a * d + t * b
      · rw [if_pos (by rw [c3]; exact hn0), T879e (by omega) (by omega) hD0 hfu (by omega)]
        obtain ⟨f1, f2⟩ := frac_same hD0 hb0 hx
        rw [f1, f2, nI_add]
        exact ih' _ _
      · rw [if_neg (by rw [c3]; exact hn0), T879z (by omega) hfu]
        have z0 : a * d + t * b = 0 := by omega
        have zA : sSx σ p + sMixT σ p = 0 := by
          rw [z0, Nat.zero_mul] at hx
          rcases Nat.mul_eq_zero.mp hx.symm with h | h
          · exact h
          · omega
        have zb : b = 1 := by
          have : sSx σ p = 0 := by omega
          rw [this, Nat.gcd_zero_left] at b2
          exact Nat.eq_of_mul_eq_mul_left hb0 (by rw [b2, Nat.mul_one])
        have zd : d = 1 := by
          have : sMixT σ p = 0 := by omega
          rw [this, Nat.gcd_zero_left] at b1
          exact Nat.eq_of_mul_eq_mul_left hb0 (by rw [b1, Nat.mul_one])
        have q := ih' (lN t) (lN d)
        rw [zA, Nat.gcd_zero_left, Nat.zero_div, Nat.div_self hb0, ← nI_add] at q
        rw [z0, zb, zd]
        rw [zd] at q
        exact q
theorem T798 (H : HV vh) (hK : HK vh K z4 z5 (σ 4 + 4)) (h : RI vh σ) (hB : σ 4 ≤ 9000) (hc : c < σ 0) (hfu : 1000 < fu) (hz8 : z8 = nI (σ 5)) : f_L_law_798 fu n1 xs vh K z4 z5 z6 z8 (nI c) (nI (σ 4)) σ none bm bo fa fb = some (nI 1) := by
  unfold f_L_law_798 s_kept
  rw [bd_s]
  cases hk : sKp σ (σ 2) with
  | none =>
    rw [if_pos (by rw [oI_nlt0]; trivial)]
    exact T970 H hK h hB hc (by omega) hz8 (hN vh 0) 0 fu _ (by omega) (by have := H.2.1.1; omega) (fun i hi => absurd hi (Nat.not_lt_zero i))
  | some p =>
    obtain ⟨k1, k2⟩ := kp_some hk
    have h2 := h.1.c2
    have hb0 := mixB_pos h.1 k1 k2
    rw [if_neg (by rw [oI_s, nI_lt0 (by omega)]; exact id)]
    have q := T814 (n1 := n1) (xs := xs) (z6 := z6) (bm := bm) (bo := bo) (c := c) H hK h hB hc hfu hz8 hb0 (hN vh 2) 0 fu fa fb (by omega) (by have := H.2.1.2.2.1; omega)
    have e : sSx σ 0 = 0 := rfl
    rw [e, Nat.gcd_zero_left, Nat.zero_div, Nat.div_self hb0] at q
    exact q
theorem T751 (H : HV vh) (hK : HK vh K z4 z5 (σ 4 + 4)) (h : RI vh σ) (hB : σ 4 ≤ 9000) (hc : c < σ 0) (he : e < σ 1) (hfu : 1000 < fu) (hz8 : z8 = nI (σ 5)) : f_L_law_751 fu n1 xs vh K z4 z5 z6 z8 (nI e) (nI c) (nI (σ 4)) σ none bm bo fa fb = some (nI 1) := by
  have w := h.1
  have h1 := w.c1
  have h2 := w.c2
  have q := T798 (n1 := n1) (xs := xs) (z6 := z6) (bm := bm) (bo := bo) (fa := fa) (fb := fb) H hK h hB hc hfu hz8
  unfold f_L_law_751
  rw [sc_hide w he, bd_s]
  cases hh : sHd σ e (σ 2) with
  | none => rw [if_pos (by rw [oI_nlt0]; trivial)]; exact q
  | some p =>
    obtain ⟨k1, k2, k3⟩ := hd_some hh
    have hf := sFree_le w (p := p) (by omega)
    have el : σ (49 + e) = hN vh (36 + e) := h.2.2.2.1 e (by have := h.2.1.2.1; omega)
    rw [oI_s, if_neg (by rw [nI_lt0 (by omega)]; exact id), sc_page2 w k1, bd_s, nI_add 36 e, gi_n (by omega) (by omega), H.at _ (by omega), if_neg (by rw [nI_lt' (by omega) (by omega)]; omega), sc_many8, bd_s, bit_0 (by have := w.c7; omega) (by omega) k2, if_neg (by decide)]
    exact q
end LAW2
