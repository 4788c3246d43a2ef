/-! the start: a book of zeros -/
theorem mkZ {n : Nat} {f : Nat → Nat} (h : ∀ i, f i = 0) : (fun _ => nI 0) = mkF (fun _ => nI 0) n f := by
  funext i
  unfold mkF
  by_cases e : i < n
  · rw [if_pos e, h]
  · rw [if_neg e]
theorem bk_start {W : Nat → Int64} : BKb (nI 0) (nI 0) (nI 0) (nI 0) (nI 0) (fun _ => lN 0) (fun _ => nI 0) (nI 0) (nI 0) (nI 0) (nI 0) (nI 0) (nI 0) (fun _ => nI 0) (fun _ => nI 0) (fun _ => nI 0) (fun _ => nI 0) (fun _ => nI 0) (fun _ => nI 0) (fun _ => nI 0) (fun _ => lN 0) (fun _ => nI 0) (nI 0) (nI 0) (nI 0) (fun _ => nI 0) (fun _ => nI 0) (fun _ => nI 0) (fun _ => nI 0) (fun _ => lN 0) (fun _ => nI 0) 0 (fun _ => nI 0) W := by
  refine ⟨fun _ => 0, ⟨wd_0.wf, Nat.zero_le _, ⟨rfl, rfl, rfl, rfl, rfl⟩, ⟨rfl, rfl, rfl, rfl, rfl, rfl⟩, ⟨⟨_, mkZ fun _ => rfl⟩, ⟨_, mkZ fun _ => rfl⟩, ⟨_, mkZ fun _ => rfl⟩, ⟨_, mkZ fun _ => rfl⟩, ⟨_, mkZ fun _ => rfl⟩, ⟨_, mkZ fun _ => rfl⟩, ⟨_, mkZ fun _ => rfl⟩, ⟨_, mkZ fun _ => rfl⟩, ⟨_, mkZ fun _ => rfl⟩, ⟨_, mkZ fun _ => rfl⟩⟩, ⟨fun k hk => absurd hk (Nat.not_lt_zero k), fun k hk => absurd hk (Nat.not_lt_zero k), fun k hk => absurd hk (Nat.not_lt_zero k)⟩, 0, 0, by omega, by omega, rfl, rfl, Or.inl ⟨rfl, rfl⟩⟩, fun i hi => rfl⟩
theorem tp_start {tp tq : Nat → Int32} : TpRel 0 tp tq := ⟨by omega, fun i hi => absurd hi (Nat.not_lt_zero i)⟩
theorem k_start {k : Nat} (h : k < 24) : KROW k = lN (KEY k) := if_pos h
def M4 : Nat → Int32 := upd (upd (upd (upd (fun _ => nI 0) 0 (-1 : Int32)) 1 (-1 : Int32)) 2 (-1 : Int32)) 3 (-1 : Int32)
theorem M4_at {t : Nat} (h : t < 4) : M4 t = (-1 : Int32) := by
  rcases (show t = 0 ∨ t = 1 ∨ t = 2 ∨ t = 3 by omega) with rfl | rfl | rfl | rfl <;> rfl
theorem tr_start {R : Nat → Nat → Int64} {so ts : Nat → Int32} {nu : Nat → Int64} : TrRel R so M4 nu M4 ts := fun t ht => Or.inl ⟨M4_at ht, M4_at ht⟩
theorem bo_start {be oe : Nat → Int32} : BoRel (nI 0) be (-1 : Int32) oe := ⟨0, by omega, rfl, Or.inr ⟨rfl, rfl⟩, fun k hk => absurd hk (Nat.not_lt_zero k)⟩
