theorem up_upb {f : Nat → Nat} {i v : Nat} : up f i v = upb f i v := by
  funext j
  rw [upb_if, up_if]
theorem pm1 : ∀ i, i < 9 → nI i + (-1 : Int32) = nI i - nI 1 := by decide +kernel
theorem pm2 : ∀ i, i < 9 → nI (i + 1) + (-1 : Int32) = nI i := by decide +kernel
theorem pm3 : ∀ i, i < 9 → 0 < i → nI i - nI 2 = nI (i - 1) - nI 1 := by decide +kernel
section PM
variable {b : Nat → Int32} {n fu : Nat}
theorem c_swap {p : Nat → Nat} {i j : Nat} (hn : n ≤ 8) (hi : i < n) (hj : j < n) : f_X0_swap (nI i) (nI j) (mkF b n p) = some (mkF b n (swp p i j)) := by
  unfold f_X0_swap swp
  simp (disch := omega) only [gi_n, nI_cl, lt_, mkF_in, mkF_up, up_upb]
theorem c_rev (hn : n ≤ 8) : ∀ (f q a e : Nat) (p : Nat → Nat), e ≤ a + 2 * f → e < n → a ≤ n → f < q → f_X0_permute_85 fu q (nI a) (nI e) (mkF b n p) = some (nI 1, mkF b n (rv f p a e)) := by
  intro f
  induction f with
  | zero =>
    intro q a e p h1 h2 h3 hq
    obtain ⟨q, rfl⟩ : ∃ z, q = z + 1 := ⟨q - 1, by omega⟩
    simp (disch := omega) only [f_X0_permute_85, nI_le', if_pos]
    rfl
  | succ f ih =>
    intro q a e p h1 h2 h3 hq
    obtain ⟨q, rfl⟩ : ∃ z, q = z + 1 := ⟨q - 1, by omega⟩
    have e2 : rv (f + 1) p a e = cond (Nat.ble e a) p (rv f (swp p a e) (a + 1) (e - 1)) := rfl
    rw [e2]
    by_cases c : e ≤ a
    · rw [Nat.ble_eq_true_of_le c]
      simp (disch := omega) only [f_X0_permute_85, nI_le', if_pos]
      rfl
    · rw [show Nat.ble e a = false from Bool.eq_false_iff.mpr (fun h => c (Nat.le_of_ble_eq_true h))]
      obtain ⟨e, rfl⟩ : ∃ z, e = z + 1 := ⟨e - 1, by omega⟩
      simp (disch := omega) only [f_X0_permute_85, nI_le', if_neg, c_swap hn, bd_s, lt_, nI_add]
      rw [pm2 e (by omega), ih q (a + 1) e (swp p a (e + 1)) (by omega) (by omega) (by omega) (by omega)]
      rfl
theorem jv_lt {p : Nat → Nat} {i : Nat} : ∀ {k : Nat}, i < jv p i k ∧ jv p i k ≤ i + 1 + k
  | 0 => ⟨Nat.lt_succ_self i, Nat.le_refl _⟩
  | k + 1 => by
    have e : jv p i (k + 1) = cond (Nat.ble (p i) (p (i + 1 + (k + 1)))) (i + 1 + (k + 1)) (jv p i k) := rfl
    have h := jv_lt (p := p) (i := i) (k := k)
    rw [e]
    cases Nat.ble (p i) (p (i + 1 + (k + 1)))
    · exact ⟨h.1, by have := h.2; show jv p i k ≤ _; omega⟩
    · exact ⟨by show i < i + 1 + (k + 1); omega, Nat.le_refl _⟩
theorem piv_lt {p : Nat → Nat} : ∀ {m i : Nat}, piv p m = some i → i < m
  | 0, i, h => by cases h
  | m + 1, i, h => by
    have e2 : piv p (m + 1) = cond (Nat.ble (p m) (p (m + 1))) (some m) (piv p m) := rfl
    rw [e2] at h
    cases hb : Nat.ble (p m) (p (m + 1))
    · rw [hb] at h
      exact Nat.lt_succ_of_lt (piv_lt h)
    · rw [hb] at h
      cases h
      exact Nat.lt_succ_self _
theorem ble_le {x y : Nat} : Nat.ble x y = decide (x ≤ y) := by
  by_cases h : x ≤ y
  · rw [decide_eq_true h, Nat.ble_eq_true_of_le h]
  · rw [decide_eq_false h]; exact Bool.eq_false_iff.mpr (fun g => h (Nat.le_of_ble_eq_true g))
theorem c_69 {p : Nat → Nat} {i j : Nat} (hn : n ≤ 8) (hi : i < n) (hj : j < n) (hfu : 100 < fu) : f_X0_permute_69 fu (nI n) (nI i) (nI j) (mkF b n p) = some (nI 1, mkF b n (rv 8 (swp p i j) (i + 1) (n - 1))) := by
  unfold f_X0_permute_69
  simp (disch := omega) only [c_swap hn hi hj, bd_s, lt_, nI_add, pk_sub]
  exact c_rev hn 8 fu (i + 1) (n - 1) _ (by omega) (by omega) (by omega) (by omega)
theorem c_41 {p : Nat → Nat} {i : Nat} (hn : n ≤ 8) (hp : ∀ i, i < n → p i < 8) (hfu : 100 < fu) : ∀ (k q : Nat), i + 1 + k < n → k < q → f_X0_permute_41 fu q (nI n) (nI i) (nI (i + 1 + k)) (mkF b n p) = some (nI 1, mkF b n (rv 8 (swp p i (jv p i k)) (i + 1) (n - 1))) := by
  intro k
  induction k with
  | zero =>
    intro q hk hq
    obtain ⟨q, rfl⟩ : ∃ z, q = z + 1 := ⟨q - 1, by omega⟩
    simp (disch := omega) only [f_X0_permute_41, nI_add, nI_le', if_pos]
    exact c_69 hn (by omega) (by omega) hfu
  | succ k ih =>
    intro q hk hq
    obtain ⟨q, rfl⟩ : ∃ z, q = z + 1 := ⟨q - 1, by omega⟩
    have h1 := hp i (by omega)
    have h2 := hp (i + 1 + (k + 1)) hk
    have e : jv p i (k + 1) = cond (Nat.ble (p i) (p (i + 1 + (k + 1)))) (i + 1 + (k + 1)) (jv p i k) := rfl
    simp (disch := omega) only [f_X0_permute_41, nI_add, nI_le', if_neg, gi_n, nI_cl, mkF_in]
    rw [e, ble_le]
    by_cases c : p i ≤ p (i + 1 + (k + 1))
    · rw [if_pos c, decide_eq_true c]
      exact c_69 hn (by omega) (by omega) hfu
    · rw [if_neg c, decide_eq_false c]
      simp only [lt_]
      rw [show i + 1 + (k + 1) = (i + 1 + k) + 1 by omega, pm2 _ (by omega)]
      exact ih q (by omega) (by omega)
theorem c_permute {p : Nat → Nat} (hn : n ≤ 8) (hp : ∀ i, i < n → p i < 8) (hfu : 100 < fu) : f_X0_permute fu (nI n) (mkF b n p) = match nxt n p with
    | none => some (nI 0, mkF b n p)
    | some q => some (nI 1, mkF b n q) := by
  unfold f_X0_permute
  simp only [lt_]
  rcases Nat.eq_zero_or_pos n with rfl | h0
  · obtain ⟨q, rfl⟩ : ∃ z, fu = z + 1 := ⟨fu - 1, by omega⟩
    have e1 : ((nI 0 - nI 2 < 0) = True) := by decide
    have e2 : ((0 ≤ nI 0 - nI 2) = False) := by decide
    simp only [f_X0_permute_4, e1, e2, if_true, if_false]
    rfl
  · rw [pm3 n (by omega) h0]
    have G : ∀ i q, i + 1 ≤ n → i < q → f_X0_permute_4 fu q (nI n) (nI i - nI 1) (mkF b n p) = match piv p i with
        | none => some (nI 0, mkF b n p)
        | some a => some (nI 1, mkF b n (rv 8 (swp p a (jv p a (n - 1 - (a + 1)))) (a + 1) (n - 1))) := by
      intro i
      induction i with
      | zero =>
        intro q hi hq
        obtain ⟨q, rfl⟩ : ∃ z, q = z + 1 := ⟨q - 1, by omega⟩
        have e1 : ((nI 0 - nI 1 < 0) = True) := by decide
        have e2 : ((0 ≤ nI 0 - nI 1) = False) := by decide
        simp only [f_X0_permute_4, e1, e2, if_true, if_false]
        rfl
      | succ i ih =>
        intro q hi hq
        obtain ⟨q, rfl⟩ : ∃ z, q = z + 1 := ⟨q - 1, by omega⟩
        have h1 := hp i (by omega)
        have h2 := hp (i + 1) (by omega)
        have e2 : piv p (i + 1) = cond (Nat.ble (p i) (p (i + 1))) (some i) (piv p i) := rfl
        rw [pk_sub (show 1 ≤ i + 1 by omega), Nat.add_sub_cancel, e2, ble_le]
        simp (disch := omega) only [f_X0_permute_4, nI_lt0, if_false, nI_0le, if_true, nI_add, gi_n, nI_cl, mkF_in, nI_le', lt_, pk_sub]
        by_cases c : p i ≤ p (i + 1)
        · rw [if_pos c, decide_eq_true c]
          have := c_41 (b := b) (p := p) (i := i) hn hp hfu (n - 1 - (i + 1)) fu (by omega) (by omega)
          rw [show i + 1 + (n - 1 - (i + 1)) = n - 1 by omega] at this
          exact this
        · rw [if_neg c, decide_eq_false c, pm1 i (by omega)]
          exact ih q (by omega) (by omega)
    rw [G (n - 1) fu (by omega) (by omega)]
    unfold nxt
    cases piv p (n - 1) <;> rfl
end PM
