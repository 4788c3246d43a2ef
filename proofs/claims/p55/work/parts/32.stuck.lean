/-! the places to which the book goes, by which of the ORDER are well -/
def sW (σ : Nat → Nat) : Nat := bset (fun i => !(σ 6).testBit (σ (67 + i))) (σ 3)
def nxW (W N b : Nat) : Nat → Nat → Option Nat
  | 0, _ => none
  | k + 1, j => if W.testBit ((b + j) % N) then some ((b + j) % N) else nxW W N b k (j + 1)
/-- the place behind the next one -/
def npW (W N b : Nat) : Nat := match nxW W N b N 0 with
  | none => b
  | some p => (p + 1) % N
def itW (W N : Nat) : Nat → Nat → Nat
  | 0, b => b
  | n + 1, b => itW W N n (npW W N b)
def ctW (W : Nat) : Nat → Nat
  | 0 => 0
  | n + 1 => ctW W n + (if W.testBit n then 1 else 0)
def okW (N W b : Nat) : Bool := ctW W N == 0 || itW W N (ctW W N) (npW W N b) == npW W N b
theorem okW_all : (List.range 9).all (fun N => (List.range (2 ^ N)).all (fun W => (List.range N).all (fun b => okW N W b))) = true := by decide +kernel
theorem okW_of {N W b : Nat} (hN : N < 9) (hW : W < 2 ^ N) (hb : b < N) (hc : ctW W N ≠ 0) : itW W N (ctW W N) (npW W N b) = npW W N b := by
  have h := okW_all
  rw [List.all_eq_true] at h
  have h1 := h N (List.mem_range.mpr hN)
  rw [List.all_eq_true] at h1
  have h2 := h1 W (List.mem_range.mpr hW)
  rw [List.all_eq_true] at h2
  have h3 := h2 b (List.mem_range.mpr hb)
  unfold okW at h3
  rw [Bool.or_eq_true] at h3
  rcases h3 with h3 | h3
  · exact absurd (by simpa using h3) hc
  · simpa using h3
theorem itW_add (W N : Nat) : ∀ m n b, itW W N (m + n) b = itW W N n (itW W N m b)
  | 0, n, b => by rw [Nat.zero_add]; rfl
  | m + 1, n, b => by rw [show m + 1 + n = (m + n) + 1 by omega]; exact itW_add W N m n (npW W N b)
theorem itW_mod {W N c b : Nat} (hc : 0 < c) (h : itW W N c b = b) : ∀ m, itW W N m b = itW W N (m % c) b := by
  intro m
  induction m using Nat.strongRecOn with
  | ind m ih =>
    by_cases hm : m < c
    · rw [Nat.mod_eq_of_lt hm]
    · have e : m = c + (m - c) := by omega
      rw [e, itW_add, h, ih (m - c) (by omega), ← e]
      congr 1
      exact (Nat.mod_eq_sub_mod (by omega)).symm
theorem nxW_none {W N b : Nat} : ∀ {k j : Nat}, (∀ i, i < N → W.testBit i = false) → 0 < N → nxW W N b k j = none
  | 0, _, _, _ => rfl
  | k + 1, j, h, hN => by
    unfold nxW
    rw [h _ (Nat.mod_lt _ hN), if_neg (by decide)]
    exact nxW_none h hN
theorem ctW_0 {W : Nat} : ∀ {N : Nat}, ctW W N = 0 → ∀ i, i < N → W.testBit i = false
  | 0, _, i, hi => absurd hi (Nat.not_lt_zero i)
  | N + 1, h, i, hi => by
    unfold ctW at h
    by_cases e : i = N
    · subst e
      cases hb : W.testBit i
      · rfl
      · rw [hb, if_pos rfl] at h; omega
    · exact ctW_0 (N := N) (by omega) i (by omega)
theorem itW_stay {W N b : Nat} (h : npW W N b = b) : ∀ n, itW W N n b = b
  | 0 => rfl
  | n + 1 => by
    show itW W N n (npW W N b) = b
    rw [h]
    exact itW_stay h n
/-- so many turns of the book, shortened -/
theorem itW_rest {W N b m : Nat} (hN : N < 9) (hW : W < 2 ^ N) (hb : b < N ∨ b = 0) : itW W N m b = itW W N (if 0 < m ∧ 0 < ctW W N then (m - 1) % ctW W N + 1 else 0) b := by
  by_cases hm : 0 < m
  · by_cases hc : 0 < ctW W N
    · rw [if_pos ⟨hm, hc⟩]
      have hbN : b < N := by
        rcases hb with h | h
        · exact h
        · rcases Nat.eq_zero_or_pos N with h0 | h0
          · subst h0; exact absurd hc (by unfold ctW; decide)
          · omega
      obtain ⟨m, rfl⟩ : ∃ k, m = k + 1 := ⟨m - 1, by omega⟩
      show itW W N m (npW W N b) = itW W N ((m + 1 - 1) % ctW W N) (npW W N b)
      rw [Nat.add_sub_cancel]
      exact itW_mod hc (okW_of hN hW hbN (by omega)) m
    · rw [if_neg (fun h => hc h.2)]
      have h0 := ctW_0 (W := W) (N := N) (by omega)
      refine itW_stay ?_ m
      unfold npW
      rcases Nat.eq_zero_or_pos N with h2 | h2
      · subst h2; rfl
      · rw [nxW_none h0 h2]
  · rw [if_neg (fun h => hm h.1)]
    obtain rfl : m = 0 := by omega
    rfl
theorem sW_lt {σ : Nat → Nat} : sW σ < 2 ^ σ 3 := bset_lt _ _
theorem sW_bit {σ : Nat → Nat} {i : Nat} (hi : i < σ 3) : (sW σ).testBit i = !(σ 6).testBit (σ (67 + i)) := by unfold sW; rw [bset_bit, decide_eq_true hi]; rfl
theorem sNext_W {σ : Nat → Nat} : sNext σ = nxW (sW σ) (σ 3) (σ 8) (σ 3) 0 := by
  have : ∀ k j, k ≤ σ 3 → sNextN σ k j = nxW (sW σ) (σ 3) (σ 8) k j := by
    intro k
    induction k with
    | zero => intro j _; rfl
    | succ k ih =>
      intro j hk
      unfold sNextN nxW
      rw [sW_bit (Nat.mod_lt _ (by omega)), ih (j + 1) (by omega)]
      cases (σ 6).testBit (σ (67 + (σ 8 + j) % σ 3)) <;> rfl
  exact this _ _ (Nat.le_refl _)
theorem sPl_W {σ : Nat → Nat} : sPl σ = npW (sW σ) (σ 3) (σ 8) := by
  unfold sPl npW
  rw [sNext_W]
  cases nxW (sW σ) (σ 3) (σ 8) (σ 3) 0 <;> rfl
theorem sW_Q {σ τ : Nat → Nat} (h : sameQ σ τ) : sW τ = sW σ := by
  unfold sW
  rw [h 3 (by omega) (by omega)]
  exact bset_congr (fun i _ => by rw [h 6 (by omega) (by omega), h _ (by omega) (by omega)])
/-- nothing comes of any later TURN -/
def stuck (σ : Nat → Nat) : Prop := ∀ i, i < σ 3 → (σ 6).testBit (σ (67 + i)) = false → quiet σ (σ (67 + i))
theorem sNext_wl {σ : Nat → Nat} {pl : Nat} (h : sNext σ = some pl) : (σ 6).testBit (σ (67 + pl)) = false := sNextN_well h
theorem stuck_turn {σ : Nat → Nat} (w : WF σ) (h : stuck σ) : sTurn σ = adv σ ∧ sFlag σ = false ∧ stuck (sTurn σ) := by
  have h1 : ∀ pl, sNext σ = some pl → quiet σ (σ (67 + pl)) := fun pl hp => h pl (sNext_lt hp) (sNext_wl hp)
  have e := quiet_turn (fun pl hp => ⟨w.or' (sNext_lt hp), h1 pl hp⟩)
  refine ⟨e, quiet_flag w h1, ?_⟩
  rw [e]
  intro i hi hb
  have hQ := adv_Q σ
  rw [hQ 3 (by omega) (by omega)] at hi
  rw [hQ 6 (by omega) (by omega), hQ _ (by omega) (by omega)] at hb
  rw [hQ (67 + i) (by omega) (by omega)]
  exact hQ.quiet (w.or' hi) (h i hi hb)
theorem stuck_it {σ : Nat → Nat} (w : WF σ) (h : stuck σ) : ∀ n, stuck (sIt n σ) ∧ sameQ σ (sIt n σ) ∧ sIt n σ 8 = itW (sW σ) (σ 3) n (σ 8) ∧ sIt n σ 4 = σ 4 + n := by
  intro n
  induction n generalizing σ with
  | zero => exact ⟨h, fun _ _ _ => rfl, rfl, rfl⟩
  | succ n ih =>
    obtain ⟨e, -, h2⟩ := stuck_turn w h
    obtain ⟨a, b, c, d⟩ := ih (wf_turn w).1 h2
    show stuck (sIt n (sTurn σ)) ∧ sameQ σ (sIt n (sTurn σ)) ∧ sIt n (sTurn σ) 8 = itW (sW σ) (σ 3) n (npW (sW σ) (σ 3) (σ 8)) ∧ sIt n (sTurn σ) 4 = σ 4 + (n + 1)
    rw [e] at a b c d ⊢
    refine ⟨a, (adv_Q σ).tr b, ?_, ?_⟩
    · rw [c, sW_Q (adv_Q σ), adv_Q σ 3 (by omega) (by omega), adv_8, sPl_W]
    · rw [d, adv_4]; omega
/-- how far on a place is -/
def dst (N b i : Nat) : Nat := (i + N - b) % N
theorem nxW_some {W N b p : Nat} : ∀ {k j : Nat}, nxW W N b k j = some p → ∃ d, j ≤ d ∧ d < j + k ∧ p = (b + d) % N ∧ W.testBit p = true ∧ ∀ e, j ≤ e → e < d → W.testBit ((b + e) % N) = false
  | 0, _, h => by cases h
  | k + 1, j, h => by
    unfold nxW at h
    by_cases hb : W.testBit ((b + j) % N) = true
    · rw [if_pos hb] at h
      cases h
      exact ⟨j, Nat.le_refl _, by omega, rfl, hb, fun e h1 h2 => by omega⟩
    · rw [if_neg hb] at h
      obtain ⟨d, h1, h2, h3, h4, h5⟩ := nxW_some h
      refine ⟨d, by omega, by omega, h3, h4, fun e h6 h7 => ?_⟩
      by_cases e1 : e = j
      · subst e1; exact Bool.eq_false_iff.mpr hb
      · exact h5 e (by omega) h7
theorem nxW_is {W N b i : Nat} (hb : b < N) (hi : i < N) (hw : W.testBit i = true) : ∃ d, d ≤ dst N b i ∧ nxW W N b N 0 = some ((b + d) % N) ∧ W.testBit ((b + d) % N) = true := by
  cases h : nxW W N b N 0 with
  | none =>
    exfalso
    have G : ∀ k j, nxW W N b k j = none → ∀ e, j ≤ e → e < j + k → W.testBit ((b + e) % N) = false := by
      intro k
      induction k with
      | zero => intro j _ e h1 h2; omega
      | succ k ih =>
        intro j h e h1 h2
        unfold nxW at h
        by_cases hb : W.testBit ((b + j) % N) = true
        · rw [if_pos hb] at h; cases h
        · rw [if_neg hb] at h
          by_cases e1 : e = j
          · subst e1; exact Bool.eq_false_iff.mpr hb
          · exact ih (j + 1) h e (by omega) (by omega)
    have := G N 0 h (dst N b i) (Nat.zero_le _) (by unfold dst; have := Nat.mod_lt (i + N - b) (show 0 < N by omega); omega)
    rw [show (b + dst N b i) % N = i by unfold dst; rw [Nat.add_mod_mod, show b + (i + N - b) = i + N by omega, Nat.add_mod_right, Nat.mod_eq_of_lt hi], hw] at this
    cases this
  | some p =>
    obtain ⟨d, -, h2, h3, h4, h5⟩ := nxW_some h
    refine ⟨d, ?_, by rw [h3], by rw [← h3]; exact h4⟩
    apply Classical.byContradiction
    intro hn
    have := h5 (dst N b i) (Nat.zero_le _) (by omega)
    rw [show (b + dst N b i) % N = i by unfold dst; rw [Nat.add_mod_mod, show b + (i + N - b) = i + N by omega, Nat.add_mod_right, Nat.mod_eq_of_lt hi], hw] at this
    cases this
theorem dst_next {N b i d : Nat} (hb : b < N) (hi : i < N) (hd : d ≤ dst N b i) (hne : (b + d) % N ≠ i) : dst N (((b + d) % N + 1) % N) i < dst N b i := by
  have hdm : dst N b i < N := Nat.mod_lt _ (by omega)
  have hlt : d < dst N b i := by
    rcases Nat.lt_or_ge d (dst N b i) with h | h
    · exact h
    · exfalso
      apply hne
      rw [show d = dst N b i by omega]
      unfold dst
      rw [Nat.add_mod_mod, show b + (i + N - b) = i + N by omega, Nat.add_mod_right, Nat.mod_eq_of_lt hi]
  have e1 : ((b + d) % N + 1) % N = (b + (d + 1)) % N := by rw [Nat.mod_add_mod, Nat.add_assoc]
  rw [e1]
  have hD : dst N b i = if b ≤ i then i - b else i + N - b := by
    unfold dst
    split
    · rw [show i + N - b = (i - b) + N by omega, Nat.add_mod_right, Nat.mod_eq_of_lt (by omega)]
    · rw [Nat.mod_eq_of_lt (by omega)]
  have hb2 : (b + (d + 1)) % N = if b + (d + 1) < N then b + (d + 1) else b + (d + 1) - N := by
    split
    · rw [Nat.mod_eq_of_lt (by omega)]
    · rw [Nat.mod_eq_sub_mod (by omega), Nat.mod_eq_of_lt (by omega)]
  have hD2 : ∀ b', b' < N → dst N b' i = if b' ≤ i then i - b' else i + N - b' := by
    intro b' hb'
    unfold dst
    split
    · rw [show i + N - b' = (i - b') + N by omega, Nat.add_mod_right, Nat.mod_eq_of_lt (by omega)]
    · rw [Nat.mod_eq_of_lt (by omega)]
  rw [hD2 _ (Nat.mod_lt _ (by omega)), hb2]
  rw [hD] at hlt ⊢
  split at hlt <;> split <;> split <;> omega
/-- so many TURNS of which nothing came: each well CELL so near had the book -/
theorem still_quiet : ∀ (m : Nat) (σ : Nat → Nat), WF σ → (∀ j, j < m → sFlag (sIt j σ) = false) → ∀ i, i < σ 3 → (σ 6).testBit (σ (67 + i)) = false → dst (σ 3) (σ 8) i < m → quiet σ (σ (67 + i))
  | 0, _, _, _, _, _, _, h => absurd h (Nat.not_lt_zero _)
  | m + 1, σ, w, hf, i, hi, hw, hd => by
    have h8 : σ 8 < σ 3 := by have := w.c8; omega
    have hq := flag_quiet w (hf 0 (Nat.succ_pos m))
    obtain ⟨d, h1, h2, -⟩ := nxW_is (W := sW σ) h8 hi (by rw [sW_bit hi, hw]; rfl)
    rw [← sNext_W] at h2
    by_cases e : (σ 8 + d) % σ 3 = i
    · rw [e] at h2
      exact hq i h2
    · have ht := quiet_turn (fun pl hp => ⟨w.or' (sNext_lt hp), hq pl hp⟩)
      have hQ := adv_Q σ
      have hQ' : sameQ (adv σ) σ := fun i a b => (hQ i a b).symm
      have e8 : adv σ 8 = ((σ 8 + d) % σ 3 + 1) % σ 3 := by rw [adv_8]; unfold sPl; rw [h2]
      have wa : WF (adv σ) := by rw [← ht]; exact (wf_turn w).1
      have := still_quiet m (adv σ) wa (fun j hj => by rw [← ht]; exact hf (j + 1) (by omega)) i (by rw [hQ 3 (by omega) (by omega)]; exact hi) (by rw [hQ 6 (by omega) (by omega), hQ _ (by omega) (by omega)]; exact hw) (by
        rw [hQ 3 (by omega) (by omega), e8]
        have := dst_next h8 hi h1 e
        omega)
      rw [hQ (67 + i) (by omega) (by omega)] at this
      exact hQ'.quiet (w.or' hi) this
theorem still_stuck {σ : Nat → Nat} (w : WF σ) {m : Nat} (hm : σ 3 ≤ m) (hf : ∀ j, j < m → sFlag (sIt j σ) = false) : stuck σ := fun i hi hw =>
  still_quiet m σ w hf i hi hw (Nat.lt_of_lt_of_le (Nat.mod_lt _ (by omega)) hm)
