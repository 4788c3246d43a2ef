/-! lay: what is said is the law's text -/
section LY
variable {vh : Nat → Int32} {fu : Nat} {L R : List Nat}
theorem cat_len {f : Nat → List Nat} {m : Nat} : ∀ {n j : Nat}, (∀ i, j ≤ i → i < j + n → (f i).length ≤ m) → (catL f n j).length ≤ n * m
  | 0, j, _ => by rw [Nat.zero_mul]; exact Nat.le_refl _
  | n + 1, j, h => by
    show (f j ++ catL f n (j + 1)).length ≤ _
    rw [List.length_append, Nat.succ_mul]
    have h1 := h j (Nat.le_refl _) (by omega)
    have h2 := cat_len (f := f) (m := m) (n := n) (j := j + 1) (fun i a b => h i (by omega) (by omega))
    omega
theorem tV_len {v : Nat} : (tV v).length ≤ 3 := by
  unfold tV
  split
  · exact Nat.le_of_ble_eq_true rfl
  · exact Nat.le_of_ble_eq_true rfl
theorem txt_len (H : HV vh) : (txt vh).length ≤ 800 := by
  obtain ⟨-, ⟨⟨-, h0⟩, ⟨-, h1⟩, ⟨-, h2⟩, h3⟩, -⟩ := H
  have a1 : (catL (cellP vh) (hN vh 0) 0).length ≤ hN vh 0 * 29 := cat_len (fun i _ _ => by
    unfold cellP
    have q := tV_len (v := hN vh (4 + i))
    have q2 : (if decide (hN vh (12 + i) = 1) = true then sb 3 else []).length ≤ 6 := by split <;> exact Nat.le_of_ble_eq_true rfl
    have q3 : (if decide (hN vh (20 + i) = 1) = true then sb 4 else sb 5).length ≤ 6 := by split <;> exact Nat.le_of_ble_eq_true rfl
    simp only [List.length_append, show (sb 1).length = 4 from rfl, show (sb 2).length = 7 from rfl, show (tN 99 i).length = 3 from rfl]
    omega)
  have a2 : (catL (secP vh) (hN vh 1) 0).length ≤ hN vh 1 * 21 := cat_len (fun i _ _ => by
    unfold secP
    have q := tV_len (v := hN vh (36 + i))
    simp only [List.length_append, show (sb 6).length = 6 from rfl, show (sb 7).length = 8 from rfl, show (sb 5).length = 1 from rfl, show (tN 115 i).length = 3 from rfl]
    omega)
  have a3 : (catL (pageP vh) (hN vh 2) 0).length ≤ hN vh 2 * 32 := cat_len (fun i _ _ => by
    unfold pageP
    have q := tV_len (v := hN vh (42 + i))
    have q2 := tV_len (v := hN vh (48 + i))
    simp only [List.length_append, show (sb 8).length = 4 from rfl, show (sb 9).length = 5 from rfl, show (sb 10).length = 5 from rfl, show (sb 11).length = 5 from rfl, show (sb 5).length = 1 from rfl, show (tN 112 i).length = 3 from rfl]
    omega)
  have a4 : (catL (fun c => catL (knP vh c) (hN vh 1) 0) (hN vh 0) 0).length ≤ hN vh 0 * 48 := cat_len (fun i _ _ => by
    have q : (catL (knP vh i) (hN vh 1) 0).length ≤ hN vh 1 * 12 := cat_len (fun e _ _ => by
      unfold knP
      split
      · simp only [List.length_append, show (sb 12).length = 5 from rfl, show (sb 5).length = 1 from rfl, show (tN 99 i).length = 3 from rfl, show (tN 115 e).length = 3 from rfl]
        omega
      · exact Nat.zero_le _)
    have q2 : hN vh 1 * 12 ≤ 4 * 12 := Nat.mul_le_mul_right 12 h1
    show (catL (knP vh i) (hN vh 1) 0).length ≤ 48
    omega)
  have a5 : (ordP vh).length ≤ 18 := by
    unfold ordP
    split
    · exact Nat.zero_le _
    · have q : (catL (fun j => tN 99 (hN vh (54 + j))) (hN vh 3) 0).length ≤ hN vh 3 * 3 := cat_len (fun i _ _ => Nat.le_refl 3)
      simp only [List.length_append, show (sb 13).length = 5 from rfl, show (sb 5).length = 1 from rfl]
      omega
  unfold txt
  simp only [List.length_append]
  omega
theorem sy_len (HT : (txt vh).length ≤ 800) {X : List Nat} (h : L ++ (X ++ R) = txt vh) : L.length + X.length ≤ 800 := by
  rw [← h, List.length_append, List.length_append] at HT
  omega
theorem sy_say (HT : (txt vh).length ≤ 800) {t : Nat} (ht : t < 14) (h : L ++ (sb t ++ R) = txt vh) : s_say t L = some (L ++ sb t) ∧ (L ++ sb t) ++ R = txt vh := by
  have q := sy_len HT h
  rw [sb_len t ht] at q
  unfold s_say
  exact ⟨if_pos (by omega), by rw [List.append_assoc]; exact h⟩
theorem sy_name (HT : (txt vh).length ≤ 800) {c k : Nat} (hc : c < 128) (hk : k < 20) (h : L ++ (tN c k ++ R) = txt vh) : s_name (nI c) (nI k) L = some (L ++ tN c k) ∧ (L ++ tN c k) ++ R = txt vh := by
  have q := sy_len HT h
  unfold s_name
  rw [gi_n hc (by decide), gi_n hk (by decide), nI_cl (by omega), nI_cl (by omega)]
  exact ⟨if_pos (by omega), by rw [List.append_assoc]; exact h⟩
theorem sy_num (HT : (txt vh).length ≤ 800) {v : Nat} (hv : v < 100) (h : L ++ (tV v ++ R) = txt vh) : s_number (nI v) L = some (L ++ tV v) ∧ (L ++ tV v) ++ R = txt vh := by
  have q := sy_len HT h
  unfold s_number
  rw [gi_n hv (by decide), nI_cl (by omega)]
  exact ⟨if_pos (by omega), by rw [List.append_assoc]; exact h⟩
theorem L368 (H : HV vh) (h : L = txt vh) : f_L_lay_368 fu vh L = some (nI 1, sg vh) := by
  subst h
  unfold f_L_lay_368
  have e : s_load vh (txt vh) = some (nI (sg vh 0), sg vh) := by
    unfold s_load
    exact @if_pos _ (Classical.propDecidable _) (bok H) _ _ _
  rw [e, bd_s]
  dsimp only
  rw [gi_n (by decide) (by decide), H.at 0 (by decide), if_pos (show nI (sg vh 0) = nI (hN vh 0) from rfl)]
theorem L329 (H : HV vh) (HT : (txt vh).length ≤ 800) : ∀ k j n L, j + k = hN vh 3 → k < n → L ++ (catL (fun j => tN 99 (hN vh (54 + j))) k j ++ (if hN vh 3 = 0 then [] else sb 5)) = txt vh → f_L_lay_329 fu vh n (nI j) L = some (nI 1, sg vh) := by
  have h0 := H.2.1.1
  have h3 := H.2.1.2.2.2
  intro k
  induction k with
  | zero =>
    intro j n L hj hn hL
    obtain ⟨n, rfl⟩ : ∃ m, n = m + 1 := ⟨n - 1, by omega⟩
    replace hL : L ++ (if hN vh 3 = 0 then [] else sb 5) = txt vh := hL
    unfold f_L_lay_329
    rw [gi_n (by decide) (by decide), H.at 3 (by decide), if_pos (by rw [nI_le' (by omega) (by omega)]; omega), gi_n (by decide) (by decide)]
    by_cases c : hN vh 3 = 0
    · rw [if_pos c, List.append_nil] at hL
      rw [if_pos (by rw [nI_le0 (by omega)]; exact c)]
      exact L368 H hL
    · rw [if_neg c] at hL
      rw [if_neg (by rw [nI_le0 (by omega)]; exact c), (sy_say (R := []) HT (by omega) (by rw [List.append_nil]; exact hL)).1, bd_s]
      exact L368 H hL
  | succ k ih =>
    intro j n L hj hn hL
    obtain ⟨n, rfl⟩ : ∃ m, n = m + 1 := ⟨n - 1, by omega⟩
    replace hL : L ++ ((tN 99 (hN vh (54 + j)) ++ catL (fun j => tN 99 (hN vh (54 + j))) k (j + 1)) ++ (if hN vh 3 = 0 then [] else sb 5)) = txt vh := hL
    rw [List.append_assoc] at hL
    have ho := H.2.2.2.2.1 j (by omega)
    obtain ⟨s1, t1⟩ := sy_name HT (by omega) (by omega) hL
    unfold f_L_lay_329
    rw [gi_n (by decide) (by decide), H.at 3 (by decide), if_neg (by rw [nI_le' (by omega) (by omega)]; omega), nI_add 54 j, gi_n (by omega) (by decide), H.at _ (by omega), s1, bd_s, nI_add]
    exact ih (j + 1) n _ (by omega) (by omega) t1
theorem L246 (H : HV vh) (HT : (txt vh).length ≤ 800) {KK : Int32 → List Nat → Option (Int32 × (Nat → Nat))} {c : Nat} (hc : c < hN vh 0) (hKK : ∀ L, L ++ R = txt vh → KK (nI c + nI 1) L = some (nI 1, sg vh)) : ∀ k e n L, e + k = hN vh 1 → k < n → L ++ (catL (knP vh c) k e ++ R) = txt vh → f_L_lay_246 fu vh KK n (nI c) (nI e) L = some (nI 1, sg vh) := by
  have h0 := H.2.1.1
  have h1 := H.2.1.2.1
  intro k
  induction k with
  | zero =>
    intro e n L he hn hL
    obtain ⟨n, rfl⟩ : ∃ m, n = m + 1 := ⟨n - 1, by omega⟩
    unfold f_L_lay_246
    rw [gi_n (by decide) (by decide), H.at 1 (by decide), if_pos (by rw [nI_le' (by omega) (by omega)]; omega)]
    exact hKK L hL
  | succ k ih =>
    intro e n L he hn hL
    obtain ⟨n, rfl⟩ : ∃ m, n = m + 1 := ⟨n - 1, by omega⟩
    replace hL : L ++ ((knP vh c e ++ catL (knP vh c) k (e + 1)) ++ R) = txt vh := hL
    rw [List.append_assoc] at hL
    have ih' := ih (e + 1) n
    rw [← nI_add] at ih'
    have h16 := (H.2.2.1 c (by omega)).2.2.2
    unfold f_L_lay_246
    rw [gi_n (by decide) (by decide), H.at 1 (by decide), if_neg (by rw [nI_le' (by omega) (by omega)]; omega), nI_add 28 c, gi_n (by omega) (by decide), H.at _ (by omega)]
    cases hb : (hN vh (28 + c)).testBit e with
    | true =>
      have ek : knP vh c e = sb 12 ++ (tN 99 c ++ (tN 115 e ++ sb 5)) := if_pos hb
      rw [ek] at hL
      simp only [List.append_assoc] at hL
      obtain ⟨s1, t1⟩ := sy_say HT (by omega) hL
      obtain ⟨s2, t2⟩ := sy_name HT (by omega) (by omega) t1
      obtain ⟨s3, t3⟩ := sy_name HT (by omega) (by omega) t2
      obtain ⟨s4, t4⟩ := sy_say (t := 5) HT (by omega) t3
      rw [bit_1 (by omega) (by omega) hb, if_neg (by decide), s1, bd_s, s2, bd_s, s3, bd_s, s4, bd_s]
      exact ih' _ (by omega) (by omega) t4
    | false =>
      have ek : knP vh c e = [] := if_neg (by rw [hb]; decide)
      rw [ek] at hL
      rw [bit_0 (by omega) (by omega) hb, if_pos (by decide)]
      exact ih' _ (by omega) (by omega) hL
theorem L236 (H : HV vh) (HT : (txt vh).length ≤ 800) (hfu : 1000 < fu) : ∀ k c n L, c + k = hN vh 0 → k < n → L ++ (catL (fun c => catL (knP vh c) (hN vh 1) 0) k c ++ ordP vh) = txt vh → f_L_lay_236 fu vh n (nI c) L = some (nI 1, sg vh) := by
  have h0 := H.2.1.1
  have h1 := H.2.1.2.1
  have h3 := H.2.1.2.2.2
  intro k
  induction k with
  | zero =>
    intro c n L he hn hL
    obtain ⟨n, rfl⟩ : ∃ m, n = m + 1 := ⟨n - 1, by omega⟩
    replace hL : L ++ ordP vh = txt vh := hL
    unfold f_L_lay_236
    rw [gi_n (by decide) (by decide), H.at 0 (by decide), if_pos (by rw [nI_le' (by omega) (by omega)]; omega), gi_n (by decide) (by decide), H.at 3 (by decide)]
    unfold ordP at hL
    by_cases c3 : hN vh 3 = 0
    · rw [if_pos c3] at hL
      rw [if_pos (by rw [nI_le0 (by omega)]; exact c3)]
      refine L329 H HT (hN vh 3) 0 fu L (by omega) (by omega) ?_
      rw [if_pos c3, c3]
      exact hL
    · rw [if_neg c3] at hL
      obtain ⟨s1, t1⟩ := sy_say HT (by omega) hL
      rw [if_neg (by rw [nI_le0 (by omega)]; exact c3), s1, bd_s]
      refine L329 H HT (hN vh 3) 0 fu _ (by omega) (by omega) ?_
      rw [if_neg c3]
      exact t1
  | succ k ih =>
    intro c n L he hn hL
    obtain ⟨n, rfl⟩ : ∃ m, n = m + 1 := ⟨n - 1, by omega⟩
    replace hL : L ++ ((catL (knP vh c) (hN vh 1) 0 ++ catL (fun c => catL (knP vh c) (hN vh 1) 0) k (c + 1)) ++ ordP vh) = txt vh := hL
    rw [List.append_assoc] at hL
    unfold f_L_lay_236
    rw [gi_n (by decide) (by decide), H.at 0 (by decide), if_neg (by rw [nI_le' (by omega) (by omega)]; omega)]
    refine L246 H HT (c := c) (by omega) (fun L hL => ?_) (hN vh 1) 0 fu L (by omega) (by omega) hL
    rw [nI_add]
    exact ih (c + 1) n L (by omega) (by omega) hL
theorem L148 (H : HV vh) (HT : (txt vh).length ≤ 800) (hfu : 1000 < fu) : ∀ k p n L, p + k = hN vh 2 → k < n → L ++ (catL (pageP vh) k p ++ (catL (fun c => catL (knP vh c) (hN vh 1) 0) (hN vh 0) 0 ++ ordP vh)) = txt vh → f_L_lay_148 fu vh n (nI p) L = some (nI 1, sg vh) := by
  have h0 := H.2.1.1
  have h2 := H.2.1.2.2.1
  intro k
  induction k with
  | zero =>
    intro p n L he hn hL
    obtain ⟨n, rfl⟩ : ∃ m, n = m + 1 := ⟨n - 1, by omega⟩
    unfold f_L_lay_148
    rw [gi_n (by decide) (by decide), H.at 2 (by decide), if_pos (by rw [nI_le' (by omega) (by omega)]; omega)]
    have e0 : catL (pageP vh) 0 p = [] := rfl
    rw [e0, List.nil_append] at hL
    exact L236 H HT hfu (hN vh 0) 0 fu L (by omega) (by omega) hL
  | succ k ih =>
    intro p n L he hn hL
    obtain ⟨n, rfl⟩ : ∃ m, n = m + 1 := ⟨n - 1, by omega⟩
    replace hL : L ++ ((pageP vh p ++ catL (pageP vh) k (p + 1)) ++ (catL (fun c => catL (knP vh c) (hN vh 1) 0) (hN vh 0) 0 ++ ordP vh)) = txt vh := hL
    rw [List.append_assoc] at hL
    unfold pageP at hL
    simp only [List.append_assoc] at hL
    have hb := H.2.2.2.1 p (by omega)
    obtain ⟨s1, t1⟩ := sy_say HT (by omega) hL
    obtain ⟨s2, t2⟩ := sy_name HT (by omega) (by omega) t1
    obtain ⟨s3, t3⟩ := sy_say HT (by omega) t2
    obtain ⟨s4, t4⟩ := sy_num HT (by omega) t3
    obtain ⟨s5, t5⟩ := sy_say HT (by omega) t4
    obtain ⟨s6, t6⟩ := sy_name HT (by omega) (by omega) t5
    obtain ⟨s7, t7⟩ := sy_say HT (by omega) t6
    obtain ⟨s8, t8⟩ := sy_num HT (by omega) t7
    obtain ⟨s9, t9⟩ := sy_say HT (by omega) t8
    have ih' := ih (p + 1) n
    rw [← nI_add] at ih'
    unfold f_L_lay_148
    rw [gi_n (by decide) (by decide), H.at 2 (by decide), if_neg (by rw [nI_le' (by omega) (by omega)]; omega), s1, bd_s, s2, bd_s, s3, bd_s, nI_add 42 p, gi_n (by omega) (by decide), H.at _ (by omega), s4, bd_s, s5, bd_s, s6, bd_s, s7, bd_s, nI_add 48 p, gi_n (by omega) (by decide), H.at _ (by omega), s8, bd_s, s9, bd_s]
    exact ih' _ (by omega) (by omega) t9
theorem L93 (H : HV vh) (HT : (txt vh).length ≤ 800) (hfu : 1000 < fu) : ∀ k e n L, e + k = hN vh 1 → k < n → L ++ (catL (secP vh) k e ++ (catL (pageP vh) (hN vh 2) 0 ++ (catL (fun c => catL (knP vh c) (hN vh 1) 0) (hN vh 0) 0 ++ ordP vh))) = txt vh → f_L_lay_93 fu vh n (nI e) L = some (nI 1, sg vh) := by
  have h1 := H.2.1.2.1
  have h2 := H.2.1.2.2.1
  intro k
  induction k with
  | zero =>
    intro e n L he hn hL
    obtain ⟨n, rfl⟩ : ∃ m, n = m + 1 := ⟨n - 1, by omega⟩
    unfold f_L_lay_93
    rw [gi_n (by decide) (by decide), H.at 1 (by decide), if_pos (by rw [nI_le' (by omega) (by omega)]; omega)]
    have e0 : catL (secP vh) 0 e = [] := rfl
    rw [e0, List.nil_append] at hL
    exact L148 H HT hfu (hN vh 2) 0 fu L (by omega) (by omega) hL
  | succ k ih =>
    intro e n L he hn hL
    obtain ⟨n, rfl⟩ : ∃ m, n = m + 1 := ⟨n - 1, by omega⟩
    replace hL : L ++ ((secP vh e ++ catL (secP vh) k (e + 1)) ++ (catL (pageP vh) (hN vh 2) 0 ++ (catL (fun c => catL (knP vh c) (hN vh 1) 0) (hN vh 0) 0 ++ ordP vh))) = txt vh := hL
    rw [List.append_assoc] at hL
    unfold secP at hL
    simp only [List.append_assoc] at hL
    have hb := H.2.2.2.1 e (by omega)
    obtain ⟨s1, t1⟩ := sy_say HT (by omega) hL
    obtain ⟨s2, t2⟩ := sy_name HT (by omega) (by omega) t1
    obtain ⟨s3, t3⟩ := sy_say HT (by omega) t2
    obtain ⟨s4, t4⟩ := sy_num HT (by omega) t3
    obtain ⟨s5, t5⟩ := sy_say HT (by omega) t4
    have ih' := ih (e + 1) n
    rw [← nI_add] at ih'
    unfold f_L_lay_93
    rw [gi_n (by decide) (by decide), H.at 1 (by decide), if_neg (by rw [nI_le' (by omega) (by omega)]; omega), s1, bd_s, s2, bd_s, s3, bd_s, nI_add 36 e, gi_n (by omega) (by decide), H.at _ (by omega), s4, bd_s, s5, bd_s]
    exact ih' _ (by omega) (by omega) t5
theorem L63 (H : HV vh) (HT : (txt vh).length ≤ 800) {KK : Int32 → List Nat → Option (Int32 × (Nat → Nat))} {c : Nat} (hc : c < hN vh 0) (hKK : ∀ L, L ++ R = txt vh → KK (nI c + nI 1) L = some (nI 1, sg vh)) (hL : L ++ ((if decide (hN vh (20 + c) = 1) = true then sb 4 else sb 5) ++ R) = txt vh) : f_L_lay_63 fu vh KK (nI c) L = some (nI 1, sg vh) := by
  have h0 := H.2.1.1
  have hb := (H.2.2.1 c (by omega)).2.2.1
  unfold f_L_lay_63
  rw [nI_add 20 c, gi_n (by omega) (by decide), H.at _ (by omega)]
  by_cases e : hN vh (20 + c) = 1
  · rw [decide_eq_true e, if_pos rfl] at hL
    obtain ⟨s1, t1⟩ := sy_say HT (by omega) hL
    rw [if_pos (by rw [e]), s1, bd_s]
    exact hKK _ t1
  · rw [decide_eq_false e, if_neg (by decide)] at hL
    obtain ⟨s1, t1⟩ := sy_say HT (by omega) hL
    rw [if_neg (by rw [nI_eq' (by omega) (by omega)]; exact e), s1, bd_s]
    exact hKK _ t1
theorem L7 (H : HV vh) (HT : (txt vh).length ≤ 800) (hfu : 1000 < fu) : ∀ k c n L, c + k = hN vh 0 → k < n → L ++ (catL (cellP vh) k c ++ (catL (secP vh) (hN vh 1) 0 ++ (catL (pageP vh) (hN vh 2) 0 ++ (catL (fun c => catL (knP vh c) (hN vh 1) 0) (hN vh 0) 0 ++ ordP vh)))) = txt vh → f_L_lay_7 fu vh n (nI c) L = some (nI 1, sg vh) := by
  have h0 := H.2.1.1
  have h1 := H.2.1.2.1
  intro k
  induction k with
  | zero =>
    intro c n L he hn hL
    obtain ⟨n, rfl⟩ : ∃ m, n = m + 1 := ⟨n - 1, by omega⟩
    unfold f_L_lay_7
    rw [gi_n (by decide) (by decide), H.at 0 (by decide), if_pos (by rw [nI_le' (by omega) (by omega)]; omega)]
    have e0 : catL (cellP vh) 0 c = [] := rfl
    rw [e0, List.nil_append] at hL
    exact L93 H HT hfu (hN vh 1) 0 fu L (by omega) (by omega) hL
  | succ k ih =>
    intro c n L he hn hL
    obtain ⟨n, rfl⟩ : ∃ m, n = m + 1 := ⟨n - 1, by omega⟩
    replace hL : L ++ ((cellP vh c ++ catL (cellP vh) k (c + 1)) ++ (catL (secP vh) (hN vh 1) 0 ++ (catL (pageP vh) (hN vh 2) 0 ++ (catL (fun c => catL (knP vh c) (hN vh 1) 0) (hN vh 0) 0 ++ ordP vh)))) = txt vh := hL
    rw [List.append_assoc] at hL
    unfold cellP at hL
    simp only [List.append_assoc] at hL
    have hb := H.2.2.1 c (by omega)
    obtain ⟨s1, t1⟩ := sy_say HT (by omega) hL
    obtain ⟨s2, t2⟩ := sy_name HT (by omega) (by omega) t1
    obtain ⟨s3, t3⟩ := sy_say HT (by omega) t2
    obtain ⟨s4, t4⟩ := sy_num HT (by omega) t3
    have hKK : ∀ L, L ++ (catL (cellP vh) k (c + 1) ++ (catL (secP vh) (hN vh 1) 0 ++ (catL (pageP vh) (hN vh 2) 0 ++ (catL (fun c => catL (knP vh c) (hN vh 1) 0) (hN vh 0) 0 ++ ordP vh)))) = txt vh → f_L_lay_7 fu vh n (nI c + nI 1) L = some (nI 1, sg vh) := fun L hL => by
      rw [nI_add]
      exact ih (c + 1) n L (by omega) (by omega) hL
    unfold f_L_lay_7
    rw [gi_n (by decide) (by decide), H.at 0 (by decide), if_neg (by rw [nI_le' (by omega) (by omega)]; omega), s1, bd_s, s2, bd_s, s3, bd_s, nI_add 4 c, gi_n (by omega) (by decide), H.at _ (by omega), s4, bd_s, nI_add 12 c, gi_n (by omega) (by decide), H.at _ (by omega)]
    by_cases e : hN vh (12 + c) = 1
    · rw [decide_eq_true e, if_pos rfl] at t4
      obtain ⟨s5, t5⟩ := sy_say HT (by omega) t4
      rw [if_pos (by rw [e]), s5, bd_s]
      exact L63 H HT (by omega) hKK t5
    · rw [decide_eq_false e, if_neg (by decide), List.nil_append] at t4
      rw [if_neg (by rw [nI_eq' (by omega) (by omega)]; exact e)]
      exact L63 H HT (by omega) hKK t4
theorem L0 (H : HV vh) (hfu : 1000 < fu) : f_L_lay_0 fu vh [] = some (nI 1, sg vh) := by
  unfold f_L_lay_0
  exact L7 H (txt_len H) hfu (hN vh 0) 0 fu [] (by omega) (by have := H.2.1.1; omega) (List.nil_append _)
end LY
