/-! in how many ways -/
def dpS (A : Nat → Nat) (b : Nat) : Nat → (Nat → Int64) → (Nat → Int64)
  | 0, G => G
  | k + 1, G => dpS A b k (if A k = b then vp_updL G (k + 1) (G (k + 1) + G k) else G)
def dpA (A B : Nat → Nat) (n : Nat) : Nat → (Nat → Int64) → (Nat → Int64)
  | 0, G => G
  | i + 1, G => dpS A (B i) n (dpA A B n i G)
theorem dpS_c {A : Nat → Nat} {b n : Nat} : ∀ (r : Nat) {G G' : Nat → Int64}, r ≤ n → (∀ k, k ≤ n → G k = G' k) → ∀ k, k ≤ n → dpS A b r G k = dpS A b r G' k
  | 0, _, _, _, h => h
  | r + 1, G, G', hr, h => by
    unfold dpS
    refine dpS_c r (by omega) ?_
    intro k hk
    split
    · by_cases e : k = r + 1
      · subst e; rw [updL_s, updL_s, h _ hk, h _ (by omega)]
      · rw [updL_n e, updL_n e]; exact h k hk
    · exact h k hk
theorem dpA_c {A B : Nat → Nat} {n : Nat} {G G' : Nat → Int64} (h : ∀ k, k ≤ n → G k = G' k) : ∀ i k, k ≤ n → dpA A B n i G k = dpA A B n i G' k
  | 0, k, hk => h k hk
  | i + 1, k, hk => dpS_c n (Nat.le_refl n) (dpA_c h i) k hk
section WW
variable {nu : Nat → Int64} {tm : Nat → Int32} {row word : Nat → Int32} {A B : Nat → Nat} {fu t u n m : Nat}
theorem c_ways1 (hA : ∀ k, k < n → A k ≤ 26 ∧ word k = nI (A k) ∧ nu (60 * t + k) = lN (A k)) (hB : ∀ i, i < m → B i ≤ 26 ∧ row i = nI (B i) ∧ nu (60 * u + i) = lN (B i)) (hn : n ≤ 10) (hm : m ≤ 60) {i : Nat} (hi : i < m) (K : Int32 → (Nat → Int64) → Option (Int64 × (Nat → Int64))) : ∀ (r q : Nat) (W : Nat → Int64), r ≤ n → r < q →
    f_X10_countWays_32 fu (nI n) (nI m) row word K q (nI i) (nI r - nI 1) W = K (nI (i + 1)) (dpS A (B i) r W)
  | 0, q, W, hr, hq => by
    obtain ⟨q, rfl⟩ : ∃ z, q = z + 1 := ⟨q - 1, by omega⟩
    have e : nI 0 - nI 1 < 0 := by decide
    simp only [f_X10_countWays_32, if_pos e, lt_, nI_add, dpS]
  | r + 1, q, W, hr, hq => by
    obtain ⟨q, rfl⟩ : ∃ z, q = z + 1 := ⟨q - 1, by omega⟩
    obtain ⟨a1, a2, -⟩ := hA r (by omega)
    obtain ⟨b1, b2, -⟩ := hB i hi
    have e1 : nI r + (-1 : Int32) = nI r - nI 1 := (Int32.sub_eq_add_neg (nI r) (nI 1)).symm
    rw [pk_sub (by omega), Nat.add_sub_cancel]
    simp (disch := omega) only [f_X10_countWays_32, nI_lt0, if_false, gi_n, nI_cl, a2, b2, nI_eq', lt_, nI_add, e1, dpS]
    by_cases e : A r = B i
    · rw [if_pos e, if_pos e]
      exact c_ways1 hA hB hn hm hi K r q _ (by omega) (by omega)
    · rw [if_neg e, if_neg e]
      exact c_ways1 hA hB hn hm hi K r q _ (by omega) (by omega)
theorem m_ways1 (ht : t < 4) (hu : u < 4) (hA : ∀ k, k < n → A k ≤ 26 ∧ word k = nI (A k) ∧ nu (60 * t + k) = lN (A k)) (hB : ∀ i, i < m → B i ≤ 26 ∧ row i = nI (B i) ∧ nu (60 * u + i) = lN (B i)) (hn : n ≤ 10) (hm : m ≤ 60) {i : Nat} (hi : i < m) {a b : Int32} (K : Int32 → Int32 → Int32 → Int32 → Int32 → Int32 → Int32 → (Nat → Int64) → Option (Int64 × Int32 × Int32 × (Nat → Int64))) : ∀ (r q : Nat) (W : Nat → Int64), r ≤ n → r < q →
    f_X12_pricked_74 fu nu tm K q (nI t) (nI n) (nI u) (nI m) (nI i) (nI r) a b W = K (nI t) (nI n) (nI u) (nI m) (nI (i + 1)) a b (dpS A (B i) r W)
  | 0, q, W, hr, hq => by
    obtain ⟨q, rfl⟩ : ∃ z, q = z + 1 := ⟨q - 1, by omega⟩
    simp (disch := omega) only [f_X12_pricked_74, nI_le0, if_pos, if_true, lt_, nI_add, dpS]
  | r + 1, q, W, hr, hq => by
    obtain ⟨q, rfl⟩ : ∃ z, q = z + 1 := ⟨q - 1, by omega⟩
    obtain ⟨a1, -, a2⟩ := hA r (by omega)
    obtain ⟨b1, -, b2⟩ := hB i hi
    have h0 : ¬ (r + 1 = 0) := by omega
    simp (disch := omega) only [f_X12_pricked_74, nI_le0, if_neg h0, pk_sub, Nat.add_sub_cancel, m_numberOf ht, m_numberOf hu, bd_s, a2, b2, lgNN, gi_n, nI_cl, lt_, pk_m1, dpS]
    by_cases e : A r = B i
    · rw [if_pos e, if_pos e]
      exact m_ways1 ht hu hA hB hn hm hi K r q _ (by omega) (by omega)
    · rw [if_neg e, if_neg e]
      exact m_ways1 ht hu hA hB hn hm hi K r q _ (by omega) (by omega)
def ini (G : Nat → Int64) (j : Nat) : Nat → Int64 := fun k => if k < j then (if k = 0 then lN 1 else lN 0) else G k
theorem ini_step {G : Nat → Int64} {j : Nat} : vp_updL (ini G j) j (if j = 0 then lN 1 else lN 0) = ini G (j + 1) := by
  funext k
  unfold vp_updL ini
  by_cases e : k = j
  · subst e; rw [if_pos rfl, if_pos (show k < k + 1 by omega)]
  · rw [if_neg e]
    by_cases g : k < j
    · rw [if_pos g, if_pos (show k < j + 1 by omega)]
    · rw [if_neg g, if_neg (show ¬ k < j + 1 by omega)]
theorem m_ini {a b : Int32} {W : Nat → Int64} (hn : n ≤ 10) (hfu : 100 < fu) : f_X12_pricked_32 fu nu tm fu (nI t) (nI n) (nI u) (nI m) (nI 0) a b W = f_X12_pricked_64 fu nu tm fu (nI t) (nI n) (nI u) (nI m) (nI 0) a b (ini W (n + 1)) := by
  have e0 : ini W 0 = W := by funext k; unfold ini; rw [if_neg (by omega)]
  refine Eq.trans (congrArg (fun Z => f_X12_pricked_32 fu nu tm fu (nI t) (nI n) (nI u) (nI m) (nI 0) a b Z) e0.symm) ?_
  refine loop_p (fun q j => f_X12_pricked_32 fu nu tm q (nI t) (nI n) (nI u) (nI m) (nI j) a b (ini W j)) (n + 1) _ ?_ ?_ (n + 1) 0 fu (by omega) (by omega)
  · intro q j hj
    have hs := ini_step (G := W) (j := j)
    simp (disch := omega) only [f_X12_pricked_32, nI_lt', if_neg, nI_eq0, gi_n, nI_cl, lt_, nI_add]
    by_cases e : j = 0
    · rw [if_pos e]
      rw [if_pos e] at hs
      rw [hs]
    · rw [if_neg e]
      rw [if_neg e] at hs
      rw [hs]
  · intro q
    simp (disch := omega) only [f_X12_pricked_32, nI_lt', if_pos]
/-! the first of these ways -/
def gp (A B : Nat → Nat) (m fr : Nat) : Nat → Option Nat
  | 0 => fnd (fun x => decide (B x = A 0)) (m - fr) fr
  | d + 1 => match gp A B m fr d with
    | none => none
    | some p => fnd (fun x => decide (B x = A (d + 1))) (m - (p + 1)) (p + 1)
theorem gp_none {A B : Nat → Nat} {m fr d : Nat} (h : gp A B m fr d = none) : ∀ e, d ≤ e → gp A B m fr e = none
  | 0, he => by
    obtain rfl : d = 0 := by omega
    exact h
  | e + 1, he => by
    by_cases g : d = e + 1
    · subst g; exact h
    · unfold gp
      rw [gp_none h e (by omega)]
theorem gp_lt {A B : Nat → Nat} {m fr : Nat} : ∀ {d p : Nat}, gp A B m fr d = some p → fr ≤ p ∧ p < m
  | 0, p, h => by
    have := fnd_some h
    omega
  | d + 1, p, h => by
    unfold gp at h
    split at h
    · cases h
    · rename_i q hq
      have h1 := gp_lt hq
      have h2 := fnd_some h
      omega
theorem m_scan (ht : t < 4) (hu : u < 4) (hA : ∀ k, k < n → A k ≤ 26 ∧ word k = nI (A k) ∧ nu (60 * t + k) = lN (A k)) (hB : ∀ i, i < m → B i ≤ 26 ∧ row i = nI (B i) ∧ nu (60 * u + i) = lN (B i)) (hn : n ≤ 10) (hm : m ≤ 60) {d : Nat} (hd : d < n) {pl : Nat → Int32} (K : Int32 → Int32 → Int32 → Int32 → Int32 → Int32 → (Nat → Int32) → Option (Int32 × (Nat → Int32))) : ∀ (k i q : Nat), i + k = m → k < q →
    f_X12_laysFrom_13 fu nu K q (nI t) (nI n) (nI u) (nI m) (nI i) (nI d) pl = (match fnd (fun x => decide (B x = A d)) k i with | none => some (nI 0, pl) | some p => K (nI t) (nI n) (nI u) (nI m) (nI (p + 1)) (nI (d + 1)) (upd pl d (nI p)))
  | 0, i, q, hi, hq => by
    obtain ⟨q, rfl⟩ : ∃ z, q = z + 1 := ⟨q - 1, by omega⟩
    obtain rfl : i = m := by omega
    simp (disch := omega) only [f_X12_laysFrom_13, f_X12_laysFrom_44, nI_le', if_pos, if_true]
    rfl
  | k + 1, i, q, hi, hq => by
    obtain ⟨q, rfl⟩ : ∃ z, q = z + 1 := ⟨q - 1, by omega⟩
    obtain ⟨a1, -, a2⟩ := hA d hd
    obtain ⟨b1, -, b2⟩ := hB i (by omega)
    have hne : ¬ (i = m) := by omega
    simp (disch := omega) only [f_X12_laysFrom_13, f_X12_laysFrom_44, nI_le', if_neg, m_numberOf ht, m_numberOf hu, bd_s, a2, b2, lgNN, nI_eq', gi_n, nI_cl, lt_, nI_add]
    unfold fnd
    by_cases e : B i = A d
    · rw [if_pos e, if_pos (decide_eq_true e)]
    · rw [if_neg e, if_neg (by simp [e])]
      exact m_scan ht hu hA hB hn hm hd K k (i + 1) q (by omega) (by omega)
theorem m_laysFrom (ht : t < 4) (hu : u < 4) (hA : ∀ k, k < n → A k ≤ 26 ∧ word k = nI (A k) ∧ nu (60 * t + k) = lN (A k)) (hB : ∀ i, i < m → B i ≤ 26 ∧ row i = nI (B i) ∧ nu (60 * u + i) = lN (B i)) (n1 : 1 ≤ n) (hn : n ≤ 10) (hm : m ≤ 60) {fr : Nat} (hfr : fr ≤ m) (hfu : 100 < fu) (pl : Nat → Int32) :
    ∃ pl', f_X12_laysFrom fu (nI t) (nI n) (nI u) (nI m) (nI fr) nu pl = some (bI (gp A B m fr (n - 1)).isSome, pl') ∧ ((gp A B m fr (n - 1)).isSome = true → ∀ e, e < n → ∃ p, gp A B m fr e = some p ∧ pl' e = nI p) := by
  unfold f_X12_laysFrom
  have G : ∀ k d q i (pl : Nat → Int32), d + k = n → k < q → i ≤ m → (∀ e, e < d → ∃ p, gp A B m fr e = some p ∧ pl e = nI p) → (d < n → gp A B m fr d = fnd (fun x => decide (B x = A d)) (m - i) i) → ∃ pl', f_X12_laysFrom_7 fu nu q (nI t) (nI n) (nI u) (nI m) (nI i) (nI d) pl = some (bI (gp A B m fr (n - 1)).isSome, pl') ∧ ((gp A B m fr (n - 1)).isSome = true → ∀ e, e < n → ∃ p, gp A B m fr e = some p ∧ pl' e = nI p) := by
    intro k
    induction k with
    | zero =>
      intro d q i pl hd hq hi hp hg
      obtain ⟨q, rfl⟩ : ∃ z, q = z + 1 := ⟨q - 1, by omega⟩
      obtain rfl : d = n := by omega
      obtain ⟨p, hp1, -⟩ := hp (d - 1) (by omega)
      simp (disch := omega) only [f_X12_laysFrom_7, nI_le', if_pos]
      rw [hp1]
      exact ⟨pl, rfl, fun _ => hp⟩
    | succ k ih =>
      intro d q i pl hd hq hi hp hg
      obtain ⟨q, rfl⟩ : ∃ z, q = z + 1 := ⟨q - 1, by omega⟩
      have hg := hg (by omega)
      simp (disch := omega) only [f_X12_laysFrom_7, nI_le', if_neg]
      rw [m_scan ht hu hA hB hn hm (show d < n by omega) _ (m - i) i fu (by omega) (by omega), ← hg]
      cases hgd : gp A B m fr d with
      | none =>
        rw [gp_none hgd (n - 1) (by omega)]
        exact ⟨pl, rfl, fun h => by cases h⟩
      | some p =>
        have hl := gp_lt hgd
        refine ih (d + 1) q (p + 1) (upd pl d (nI p)) (by omega) (by omega) (by omega) (fun e he => ?_) (fun _ => ?_)
        · by_cases e1 : e = d
          · subst e1; exact ⟨p, hgd, upd_s⟩
          · obtain ⟨p', h1, h2⟩ := hp e (by omega)
            exact ⟨p', h1, by rw [upd_n e1]; exact h2⟩
        · show (match gp A B m fr d with | none => none | some p => fnd (fun x => decide (B x = A (d + 1))) (m - (p + 1)) (p + 1)) = _
          rw [hgd]
  exact G n 0 fu fr pl (by omega) (by omega) hfr (fun e he => absurd he (Nat.not_lt_zero e)) (fun _ => rfl)
theorem c_follow (hA : ∀ k, k < n → A k ≤ 26 ∧ word k = nI (A k) ∧ nu (60 * t + k) = lN (A k)) (hB : ∀ i, i < m → B i ≤ 26 ∧ row i = nI (B i) ∧ nu (60 * u + i) = lN (B i)) (n1 : 1 ≤ n) (hn : n ≤ 10) (hm : m ≤ 60) {fr : Nat} (hfr : fr ≤ m) (hfu : 100 < fu) (pl : Nat → Int32) :
    ∃ pl', f_X10_follow fu (nI fr) (nI n) (nI m) pl row word = some (oI (gp A B m fr (n - 1)), pl') ∧ ((gp A B m fr (n - 1)).isSome = true → ∀ e, e < n → ∃ p, gp A B m fr e = some p ∧ pl' e = nI p) := by
  unfold f_X10_follow
  have G : ∀ k d q i (last : Int32) (pl : Nat → Int32), i + k = m → k < q → d ≤ n → (∀ e, e < d → ∃ p, gp A B m fr e = some p ∧ pl e = nI p) → (∀ e, d = e + 1 → ∃ p, gp A B m fr e = some p ∧ last = nI p) → (d < n → gp A B m fr d = fnd (fun x => decide (B x = A d)) k i) → ∃ pl', f_X10_follow_7 fu (nI n) (nI m) row word q (nI d) last (nI i) pl = some (oI (gp A B m fr (n - 1)), pl') ∧ ((gp A B m fr (n - 1)).isSome = true → ∀ e, e < n → ∃ p, gp A B m fr e = some p ∧ pl' e = nI p) := by
    intro k
    induction k with
    | zero =>
      intro d q i last pl hi hq hd hp hl hg
      obtain ⟨q, rfl⟩ : ∃ z, q = z + 1 := ⟨q - 1, by omega⟩
      simp (disch := omega) only [f_X10_follow_7, nI_le', if_pos, nI_eq']
      by_cases e : d = n
      · obtain ⟨p, h1, h2⟩ := hl (n - 1) (by omega)
        rw [if_pos e, h1, h2]
        subst e
        exact ⟨pl, rfl, fun _ => hp⟩
      · rw [if_neg e, gp_none (hg (by omega)) (n - 1) (by omega)]
        exact ⟨pl, rfl, fun h => by cases h⟩
    | succ k ih =>
      intro d q i last pl hi hq hd hp hl hg
      obtain ⟨q, rfl⟩ : ∃ z, q = z + 1 := ⟨q - 1, by omega⟩
      simp (disch := omega) only [f_X10_follow_7, nI_le', if_neg, nI_eq']
      by_cases e : d = n
      · obtain ⟨p, h1, h2⟩ := hl (n - 1) (by omega)
        rw [if_pos (show n ≤ d by omega), if_pos e, h1, h2]
        subst e
        exact ⟨pl, rfl, fun _ => hp⟩
      · obtain ⟨a1, a2, -⟩ := hA d (by omega)
        obtain ⟨b1, b2, -⟩ := hB i (by omega)
        rw [if_neg (show ¬ n ≤ d by omega)]
        simp (disch := omega) only [gi_n, nI_cl, a2, b2, nI_eq', lt_, nI_add]
        have hg := hg (by omega)
        unfold fnd at hg
        by_cases e2 : B i = A d
        · rw [if_pos e2]
          rw [if_pos (decide_eq_true e2)] at hg
          refine ih (d + 1) q (i + 1) (nI i) (upd pl d (nI i)) (by omega) (by omega) (by omega) (fun x hx => ?_) (fun x hx => ?_) (fun _ => ?_)
          · by_cases e1 : x = d
            · subst e1; exact ⟨i, hg, upd_s⟩
            · obtain ⟨p', h1, h2⟩ := hp x (by omega)
              exact ⟨p', h1, by rw [upd_n e1]; exact h2⟩
          · obtain rfl : x = d := by omega
            exact ⟨i, hg, rfl⟩
          · show (match gp A B m fr d with | none => none | some p => fnd (fun x => decide (B x = A (d + 1))) (m - (p + 1)) (p + 1)) = _
            rw [hg]
            simp only
            rw [show m - (i + 1) = k by omega]
        · rw [if_neg e2]
          rw [if_neg (by simp [e2])] at hg
          exact ih d q (i + 1) last pl (by omega) (by omega) hd hp hl (fun _ => hg)
  exact G (m - fr) 0 fu fr (-1 : Int32) pl (by omega) (by omega) (Nat.zero_le _) (fun e he => absurd he (Nat.not_lt_zero e)) (fun e he => by omega) (fun _ => rfl)
end WW
