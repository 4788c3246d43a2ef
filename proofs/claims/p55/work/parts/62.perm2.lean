def nx (n : Nat) (L L' : List Nat) : Prop := ∃ q, nxt n (el L) = some q ∧ ∀ i, i < n → q i = el L' i
/-- r goes on behind A, one step each, up to Z -/
def Run (n : Nat) : List Nat → List (List Nat) → List Nat → Prop
  | A, [], Z => A = Z
  | A, B :: r, Z => nx n A B ∧ Run n B r Z
theorem run_app {n : Nat} : ∀ {A B Z Y : List Nat} {r s : List (List Nat)}, Run n A r Z → nx n Z B → Run n B s Y → Run n A (r ++ B :: s) Y
  | A, B, Z, Y, [], s, h1, h2, h3 => by
    have : A = Z := h1
    subst this
    exact ⟨h2, h3⟩
  | A, B, Z, Y, C :: r, s, h1, h2, h3 => ⟨h1.1, run_app h1.2 h2 h3⟩
/-- p, one place on, behind k -/
def shf (k : Nat) (p : Nat → Nat) : Nat → Nat
  | 0 => k
  | i + 1 => p i
theorem el_shf {k : Nat} {L : List Nat} : el (k :: L) = shf k (el L) := by
  funext i
  cases i <;> rfl
theorem piv_shf {k : Nat} {p : Nat → Nat} : ∀ {m i : Nat}, piv p m = some i → piv (shf k p) (m + 1) = some (i + 1)
  | 0, i, h => by cases h
  | m + 1, i, h => by
    have e : piv (shf k p) (m + 1 + 1) = cond (Nat.ble (p m) (p (m + 1))) (some (m + 1)) (piv (shf k p) (m + 1)) := rfl
    have e2 : piv p (m + 1) = cond (Nat.ble (p m) (p (m + 1))) (some m) (piv p m) := rfl
    rw [e2] at h
    rw [e]
    cases hb : Nat.ble (p m) (p (m + 1))
    · rw [hb] at h
      exact piv_shf h
    · rw [hb] at h
      cases h
      rfl
theorem jv_shf {k : Nat} {p : Nat → Nat} {i : Nat} : ∀ {m : Nat}, jv (shf k p) (i + 1) m = jv p i m + 1
  | 0 => rfl
  | m + 1 => by
    have e : jv (shf k p) (i + 1) (m + 1) = cond (Nat.ble (shf k p (i + 1)) (shf k p (i + 1 + 1 + (m + 1)))) (i + 1 + 1 + (m + 1)) (jv (shf k p) (i + 1) m) := rfl
    have e2 : jv p i (m + 1) = cond (Nat.ble (p i) (p (i + 1 + (m + 1)))) (i + 1 + (m + 1)) (jv p i m) := rfl
    rw [e, e2, jv_shf, show i + 1 + 1 + (m + 1) = (i + 1 + (m + 1)) + 1 by omega]
    show cond (Nat.ble (p i) (p (i + 1 + (m + 1)))) _ _ = _
    cases Nat.ble (p i) (p (i + 1 + (m + 1))) <;> rfl
theorem upb_if {f : Nat → Nat} {i v j : Nat} : upb f i v j = if j = i then v else f j := by
  unfold upb
  by_cases e : j = i
  · subst e; rw [if_pos rfl, Nat.beq_refl]; rfl
  · rw [if_neg e, show Nat.beq j i = false from Bool.eq_false_iff.mpr (fun h => e (Nat.eq_of_beq_eq_true h))]; rfl
theorem upb_shf {k : Nat} {p : Nat → Nat} {i v : Nat} : upb (shf k p) (i + 1) v = shf k (upb p i v) := by
  funext j
  rw [upb_if]
  cases j with
  | zero => rfl
  | succ j =>
    show _ = upb p i v j
    rw [upb_if]
    by_cases e : j = i
    · rw [if_pos (by omega), if_pos e]
    · rw [if_neg (by omega), if_neg e]; rfl
theorem swp_shf {k : Nat} {p : Nat → Nat} {i j : Nat} : swp (shf k p) (i + 1) (j + 1) = shf k (swp p i j) := by
  unfold swp
  rw [upb_shf, upb_shf]
  rfl
theorem rv_shf {k : Nat} : ∀ {f : Nat} {p : Nat → Nat} {a b : Nat}, rv f (shf k p) (a + 1) (b + 1) = shf k (rv f p a b)
  | 0, p, a, b => rfl
  | f + 1, p, a, b => by
    have e : rv (f + 1) (shf k p) (a + 1) (b + 1) = cond (Nat.ble (b + 1) (a + 1)) (shf k p) (rv f (swp (shf k p) (a + 1) (b + 1)) (a + 1 + 1) (b + 1 - 1)) := rfl
    have e2 : rv (f + 1) p a b = cond (Nat.ble b a) p (rv f (swp p a b) (a + 1) (b - 1)) := rfl
    rw [e, e2, show Nat.ble (b + 1) (a + 1) = Nat.ble b a from rfl]
    cases hb : Nat.ble b a
    · have hlt : ¬ b ≤ a := fun h => by rw [Nat.ble_eq_true_of_le h] at hb; cases hb
      show rv f (swp (shf k p) (a + 1) (b + 1)) (a + 1 + 1) (b + 1 - 1) = shf k (rv f (swp p a b) (a + 1) (b - 1))
      rw [swp_shf, show b + 1 - 1 = (b - 1) + 1 by omega, rv_shf]
    · rfl
theorem nx_shf {k n : Nat} {L L' : List Nat} (h : nx n L L') : nx (n + 1) (k :: L) (k :: L') := by
  obtain ⟨q, h1, h2⟩ := h
  have hn : 0 < n := by
    cases n with
    | zero => cases h1
    | succ n => exact Nat.succ_pos n
  refine ⟨shf k q, ?_, fun i hi => ?_⟩
  · unfold nxt at h1 ⊢
    split at h1
    · cases h1
    · rename_i i hp
      cases h1
      rw [el_shf, show n + 1 - 1 = (n - 1) + 1 by omega, piv_shf hp]
      simp only
      rw [show n - 1 + 1 - (i + 1 + 1) = n - 1 - (i + 1) by omega, jv_shf, swp_shf, rv_shf]
  · rw [el_shf]
    cases i with
    | zero => rfl
    | succ i => exact h2 i (by omega)
theorem run_shf {k n : Nat} : ∀ {A Z : List Nat} {r : List (List Nat)}, Run n A r Z → Run (n + 1) (k :: A) (r.map (fun L => k :: L)) (k :: Z)
  | A, Z, [], h => by
    have : A = Z := h
    subst this
    exact rfl
  | A, Z, B :: r, h => ⟨nx_shf h.1, run_shf h.2⟩
