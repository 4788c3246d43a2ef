/-! BEST ORDER: what an order is worth, the first of the best -/
theorem till_A {C S d : Nat} : ∀ {k t r : Nat} {τ : Nat → Nat}, sTillN C S k t τ = some r → sTillN C S (k + d) t τ = some r
  | 0, _, _, _, h => by cases h
  | k + 1, t, r, τ, h => by
    rw [show k + 1 + d = (k + d) + 1 by omega]
    unfold sTillN at h ⊢
    split at h
    · rename_i c; rw [if_pos c]; exact h
    · rename_i c; rw [if_neg c]; exact till_A h
theorem till_B {C S d : Nat} : ∀ {k t r : Nat} {τ : Nat → Nat}, sTillN C S (k + d) t τ = some r → r < t + k → sTillN C S k t τ = some r
  | 0, t, r, τ, h, hr => by
    have := (sTillN_lt h).1
    omega
  | k + 1, t, r, τ, h, hr => by
    rw [show k + 1 + d = (k + d) + 1 by omega] at h
    unfold sTillN at h ⊢
    split at h
    · rename_i c; rw [if_pos c]; exact h
    · rename_i c; rw [if_neg c]; exact till_B h (by omega)
def sV (σ : Nat → Nat) (L : List Nat) : Option Nat := sTill (sO σ L) (sSee σ) (2 ^ σ 1 - 1) 99
def bs (σ : Nat → Nat) (b : Option (Nat × List Nat)) (L : List Nat) : Option (Nat × List Nat) := match sV σ L with
  | none => b
  | some v => match b with
    | none => some (v, L)
    | some (u, L0) => if v < u then some (v, L) else some (u, L0)
def cb (b : Option (Nat × List Nat)) : Nat := match b with
  | none => 100
  | some (u, _) => u
theorem sV_le {σ : Nat → Nat} {L : List Nat} {v : Nat} (h : sV σ L = some v) : v ≤ 99 := sTill_le h
theorem bs_c {σ : Nat → Nat} {L : List Nat} {b : Option (Nat × List Nat)} (h0 : 0 < cb b) (h1 : cb b ≤ 100) :
    (sTill (sO σ L) (sSee σ) (2 ^ σ 1 - 1) (cb b - 1) = none ∧ bs σ b L = b) ∨ ∃ v, sTill (sO σ L) (sSee σ) (2 ^ σ 1 - 1) (cb b - 1) = some v ∧ v < cb b ∧ v ≤ 99 ∧ bs σ b L = some (v, L) := by
  have hk : 99 + 1 = (cb b - 1 + 1) + (100 - cb b) := by omega
  cases ht : sTill (sO σ L) (sSee σ) (2 ^ σ 1 - 1) (cb b - 1) with
  | some v =>
    refine Or.inr ⟨v, rfl, ?_, ?_, ?_⟩
    · have := sTill_le ht; omega
    · have := sTill_le ht; omega
    · have hv : sV σ L = some v := by
        unfold sV sTill
        rw [hk]
        exact till_A ht
      have hlt := sTill_le ht
      unfold bs
      rw [hv]
      cases b with
      | none => rfl
      | some q =>
        obtain ⟨u, L0⟩ := q
        exact if_pos (show v < u from (by have h2 : cb (some (u, L0)) = u := rfl; rw [h2] at hlt h0; omega))
  | none =>
    refine Or.inl ⟨rfl, ?_⟩
    unfold bs
    cases hv : sV σ L with
    | none => rfl
    | some v =>
      have hge : cb b ≤ v := by
        rcases Nat.lt_or_ge v (cb b) with h | h
        · have h2 := hv
          unfold sV sTill at h2
          rw [hk] at h2
          have h3 := till_B h2 (by omega)
          have h4 : sTill (sO σ L) (sSee σ) (2 ^ σ 1 - 1) (cb b - 1) = some v := h3
          rw [h4] at ht; cases ht
        · exact h
      cases b with
      | none =>
        have := sV_le hv
        have h2 : cb (none : Option (Nat × List Nat)) = 100 := rfl
        omega
      | some q =>
        obtain ⟨u, L0⟩ := q
        exact if_neg (show ¬ v < u from (by have h2 : cb (some (u, L0)) = u := rfl; rw [h2] at hge; omega))
theorem bs_0 {σ : Nat → Nat} {L : List Nat} {b : Option (Nat × List Nat)} (h0 : cb b = 0) : bs σ b L = b := by
  unfold bs
  cases b with
  | none => cases h0
  | some q =>
    obtain ⟨u, L0⟩ := q
    have h2 : u = 0 := h0
    subst h2
    cases sV σ L with
    | none => rfl
    | some v => rfl
def bf (σ : Nat → Nat) (b : Option (Nat × List Nat)) : List (List Nat) → Option (Nat × List Nat)
  | [] => b
  | L :: r => bf σ (bs σ b L) r
theorem bf_0 {σ : Nat → Nat} {b : Option (Nat × List Nat)} (h0 : cb b = 0) : ∀ {r : List (List Nat)}, bf σ b r = b
  | [] => rfl
  | L :: r => by
    unfold bf
    rw [bs_0 h0]
    exact bf_0 h0
/-- the latest best, in rows -/
def BR (n : Nat) (bm0 : Int32) (be0 : Nat → Int32) (b : Option (Nat × List Nat)) (bm : Int32) (be : Nat → Int32) : Prop := match b with
  | none => bm = bm0 ∧ be = be0
  | some (_, L) => bm = nI n ∧ ∀ k, k < n → be k = nI (el L k)
section SOF
variable {σ : Nat → Nat} {L : List Nat}
theorem sO_sB : sB (sO σ L) = sB σ := bset_congr (fun k hk => by rw [sO_o (by omega) (by omega)])
theorem sO_sR : sR (sO σ L) = sR σ := bset_congr (fun k hk => by rw [sO_o (by omega) (by omega)])
theorem sO_sSee : sSee (sO σ L) = sSee σ := by
  unfold sSee
  rw [sO_sB, sO_o (by omega) (by omega)]
theorem sO_sD {p s : Nat} (h3 : σ 3 ≤ 8) : sD (sO σ L) p s = sD σ p s := sO_o (by omega) (by omega)
theorem sO_stg {p : Nat} (w : WF σ) : sStg (sO σ L) p = sStg σ p := by
  have h3 := w.c3
  have h1 := w.c1
  unfold sStg
  rw [sO_o (i := 1) (by omega) (by omega)]
  refine bset_congr (fun s hs => ?_)
  unfold sSt
  rw [sO_sD h3, sO_o (by omega) (by omega)]
theorem sO_pr {p : Nat} (h3 : σ 3 ≤ 8) : sPr (sO σ L) p = sPr σ p := by
  unfold sPr
  simp only [sO_sD h3]
end SOF
