def adjB (n M : Nat) : List Nat → Bool
  | [] => true
  | k :: r => match r with
    | [] => true
    | k' :: _ => cond (lk n (k :: (asc (dif M (2 ^ k))).reverse) (k' :: asc (dif M (2 ^ k')))) (adjB n M r) false
def eqB : List Nat → List Nat → Bool
  | [], [] => true
  | x :: r, y :: s => cond (Nat.beq x y) (eqB r s) false
  | [], _ :: _ => false
  | _ :: _, [] => false
theorem eqB_eq : ∀ {r s : List Nat}, eqB r s = true → r = s
  | [], [], _ => rfl
  | x :: r, y :: s, h => by
    unfold eqB at h
    cases hb : Nat.beq x y
    · rw [hb] at h; cases h
    · rw [hb] at h
      rw [Nat.eq_of_beq_eq_true hb, eqB_eq (r := r) (s := s) h]
  | [], _ :: _, h => by cases h
  | _ :: _, [], h => by cases h
def lastOf : Nat → List Nat → Nat
  | k, [] => k
  | _, k' :: ks => lastOf k' ks
def endsB (M : Nat) : List Nat → Bool
  | [] => false
  | k :: ks => cond (eqB (k :: asc (dif M (2 ^ k))) (asc M)) (eqB (lastOf k ks :: (asc (dif M (2 ^ lastOf k ks))).reverse) (asc M).reverse) false
def ck2 (M : Nat) : Bool := cond (Nat.ble 7 (sz M)) true (cond (Nat.beq (sz M) 0) true (cond (adjB (sz M) M (asc M)) (endsB M (asc M)) false))
set_option maxRecDepth 100000 in
theorem ck2_all : ∀ M, M < 256 → ck2 M = true := by decide +kernel
theorem asc_len : ∀ M, M < 256 → (asc M).length = sz M := by decide +kernel
theorem sz_dif : ∀ M, M < 256 → ∀ k, k < 8 → M.testBit k = true → sz (dif M (2 ^ k)) + 1 = sz M := by decide +kernel
theorem sz_0 : ∀ M, M < 256 → sz M = 0 → M = 0 := by decide +kernel
theorem asc_in {M x : Nat} (h : x ∈ asc M) : x < 8 ∧ M.testBit x = true := by
  unfold asc at h
  rw [List.mem_filter, List.mem_range] at h
  exact h
theorem same_el : ∀ {L : List Nat} {q : Nat → Nat} {j : Nat}, same q j L = true → ∀ i, i < L.length → q (j + i) = el L i
  | [], _, _, _, i, hi => absurd hi (Nat.not_lt_zero i)
  | x :: r, q, j, h, i, hi => by
    unfold same at h
    cases hb : Nat.beq (q j) x
    · rw [hb] at h; cases h
    · rw [hb] at h
      cases i with
      | zero => exact Nat.eq_of_beq_eq_true hb
      | succ i =>
        have := same_el (L := r) (q := q) (j := j + 1) h i (Nat.lt_of_succ_lt_succ hi)
        rw [show j + (i + 1) = j + 1 + i by omega]
        exact this
theorem lk_nx {n : Nat} {L L' : List Nat} (h : lk n L L' = true) (hl : L'.length = n) : nx n L L' := by
  unfold lk at h
  split at h
  · cases h
  · rename_i q hq
    exact ⟨q, hq, fun i hi => by
      have := same_el h i (by omega)
      rw [Nat.zero_add] at this
      exact this⟩
theorem flat_if {α : Type} {b : Nat → Bool} {g : Nat → List α} : ∀ {l : List Nat}, l.flatMap (fun k => cond (b k) (g k) []) = (l.filter b).flatMap g
  | [] => rfl
  | x :: l => by
    rw [List.flatMap_cons, flat_if (l := l), List.filter_cons]
    cases hb : b x
    · rfl
    · rw [if_pos rfl, List.flatMap_cons]; rfl
theorem lvs_asc {n M : Nat} : lvs 8 (n + 1) M = (asc M).flatMap (fun k => (lvs 8 n (dif M (2 ^ k))).map (fun L => k :: L)) := flat_if
theorem dif_256 {M k : Nat} (h : M < 256) : dif M (2 ^ k) < 256 := dif_lt (n := 8) h
theorem lvs_run : ∀ {n M : Nat}, M < 256 → sz M = n → n ≤ 6 → ∃ r, lvs 8 n M = asc M :: r ∧ Run n (asc M) r (asc M).reverse
  | 0, M, hM, hn, _ => by
    obtain rfl := sz_0 M hM hn
    exact ⟨[], rfl, rfl⟩
  | n + 1, M, hM, hn, h6 => by
    have hck := ck2_all M hM
    unfold ck2 at hck
    rw [show Nat.ble 7 (sz M) = false from Bool.eq_false_iff.mpr (fun h => by have := Nat.le_of_ble_eq_true h; omega), show Nat.beq (sz M) 0 = false from Bool.eq_false_iff.mpr (fun h => by have := Nat.eq_of_beq_eq_true h; omega)] at hck
    have h1 : adjB (sz M) M (asc M) = true := by
      cases h : adjB (sz M) M (asc M)
      · rw [h] at hck; cases hck
      · rfl
    have h2 : endsB M (asc M) = true := by rw [h1] at hck; exact hck
    rw [hn] at h1
    have key : ∀ (ks : List Nat) (k : Nat), (∀ x, x ∈ k :: ks → x < 8 ∧ M.testBit x = true) → adjB (n + 1) M (k :: ks) = true →
        ∃ r, (k :: ks).flatMap (fun k => (lvs 8 n (dif M (2 ^ k))).map (fun L => k :: L)) = (k :: asc (dif M (2 ^ k))) :: r ∧ Run (n + 1) (k :: asc (dif M (2 ^ k))) r (lastOf k ks :: (asc (dif M (2 ^ lastOf k ks))).reverse) := by
      intro ks
      induction ks with
      | nil =>
        intro k hx _
        obtain ⟨hk, hb⟩ := hx k (List.mem_cons_self ..)
        have hs := sz_dif M hM k hk hb
        obtain ⟨r, e, hr⟩ := lvs_run (n := n) (dif_256 (k := k) hM) (by omega) (by omega)
        refine ⟨r.map (fun L => k :: L), ?_, run_shf hr⟩
        rw [List.flatMap_cons, List.flatMap_nil, List.append_nil, e]
        rfl
      | cons k' ks ih =>
        intro k hx ha
        obtain ⟨hk, hb⟩ := hx k (List.mem_cons_self ..)
        obtain ⟨hk', hb'⟩ := hx k' (List.mem_cons_of_mem _ (List.mem_cons_self ..))
        have hs := sz_dif M hM k hk hb
        have hs' := sz_dif M hM k' hk' hb'
        obtain ⟨r, e, hr⟩ := lvs_run (n := n) (dif_256 (k := k) hM) (by omega) (by omega)
        unfold adjB at ha
        simp only at ha
        cases hl : lk (n + 1) (k :: (asc (dif M (2 ^ k))).reverse) (k' :: asc (dif M (2 ^ k')))
        · rw [hl] at ha; cases ha
        · rw [hl] at ha
          obtain ⟨r', e', hr'⟩ := ih k' (fun x hm => hx x (List.mem_cons_of_mem _ hm)) ha
          refine ⟨r.map (fun L => k :: L) ++ (k' :: asc (dif M (2 ^ k'))) :: r', ?_, run_app (run_shf hr) (lk_nx hl ?_) hr'⟩
          · rw [List.flatMap_cons, e', e]
            rfl
          · rw [List.length_cons, asc_len _ (dif_256 hM)]; omega
    rw [lvs_asc]
    cases ha : asc M with
    | nil => rw [ha] at h2; cases h2
    | cons k ks =>
      rw [ha] at h1 h2
      obtain ⟨r, e, hr⟩ := key ks k (fun x hm => asc_in (by rw [ha]; exact hm)) h1
      unfold endsB at h2
      simp only at h2
      cases hq : eqB (k :: asc (dif M (2 ^ k))) (asc M)
      · rw [hq] at h2; cases h2
      · rw [hq] at h2
        have q1 := eqB_eq hq
        have q2 : lastOf k ks :: (asc (dif M (2 ^ lastOf k ks))).reverse = (asc M).reverse := eqB_eq h2
        rw [q1, q2, ha] at hr
        rw [q1, ha] at e
        exact ⟨r, e, hr⟩
def fct : Nat → Nat
  | 0 => 1
  | n + 1 => (n + 1) * fct n
theorem len_flat {α : Type} {g : Nat → List α} {c : Nat} : ∀ {l : List Nat}, (∀ x, x ∈ l → (g x).length = c) → (l.flatMap g).length = l.length * c
  | [], _ => by rw [List.flatMap_nil, List.length_nil, List.length_nil, Nat.zero_mul]
  | x :: l, h => by
    rw [List.flatMap_cons, List.length_append, h x (List.mem_cons_self ..), len_flat (l := l) (fun y hy => h y (List.mem_cons_of_mem _ hy)), List.length_cons, Nat.succ_mul, Nat.add_comm]
theorem lvs_len : ∀ {n M : Nat}, M < 256 → sz M = n → (lvs 8 n M).length = fct n
  | 0, M, hM, hn => rfl
  | n + 1, M, hM, hn => by
    rw [lvs_asc, len_flat (c := fct n) (fun x hx => ?_), asc_len M hM, hn]
    · rfl
    · obtain ⟨hk, hb⟩ := asc_in hx
      have hs := sz_dif M hM x hk hb
      rw [List.length_map]
      exact lvs_len (dif_256 hM) (by omega)
theorem fct_720 : ∀ n, n < 7 → fct n ≤ 720 := by decide
set_option maxRecDepth 100000 in
theorem lst_all : ∀ M, M < 256 → lst (sz M) (asc M).reverse = true := by decide +kernel
theorem asc_rev {M : Nat} (hM : M < 256) : nxt (sz M) (el (asc M).reverse) = none := by
  have h := lst_all M hM
  unfold lst at h
  split at h
  · assumption
  · cases h
/-- what is in each of them -/
theorem lvs_in : ∀ {n M : Nat} {L : List Nat}, L ∈ lvs 8 n M → L.length = n ∧ (∀ i, i < n → M.testBit (el L i) = true ∧ el L i < 8) ∧ ∀ i j, i < n → j < n → el L i = el L j → i = j
  | 0, M, L, h => by
    have : L = [] := by
      rcases List.mem_cons.mp h with h | h
      · exact h
      · cases h
    subst this
    exact ⟨rfl, fun i hi => absurd hi (Nat.not_lt_zero i), fun i j hi => absurd hi (Nat.not_lt_zero i)⟩
  | n + 1, M, L, h => by
    rw [lvs_asc, List.mem_flatMap] at h
    obtain ⟨k, hk, hL⟩ := h
    obtain ⟨hk8, hkb⟩ := asc_in hk
    rw [List.mem_map] at hL
    obtain ⟨L', hL', rfl⟩ := hL
    obtain ⟨h1, h2, h3⟩ := lvs_in hL'
    have hd : ∀ p, (dif M (2 ^ k)).testBit p = (M.testBit p && !decide (k = p)) := fun p => by rw [dif_bit, Nat.testBit_two_pow]
    have h4 : ∀ i, i < n → M.testBit (el L' i) = true ∧ k ≠ el L' i := fun i hi => by
      have := (h2 i hi).1
      rw [hd] at this
      simpa using this
    refine ⟨by rw [List.length_cons, h1], fun i hi => ?_, fun i j hi hj he => ?_⟩
    · cases i with
      | zero => exact ⟨hkb, hk8⟩
      | succ i => exact ⟨(h4 i (by omega)).1, (h2 i (by omega)).2⟩
    · cases i with
      | zero =>
        cases j with
        | zero => rfl
        | succ j => exact absurd he (h4 j (by omega)).2
      | succ i =>
        cases j with
        | zero => exact absurd he.symm (h4 i (by omega)).2
        | succ j => rw [h3 i j (by omega) (by omega) he]
