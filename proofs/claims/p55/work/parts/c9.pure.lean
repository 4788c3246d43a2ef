/-! the law answers 1 -/
theorem ri_start {vh : Nat → Int32} (H : HV vh) : RI vh (sg vh) := by
  have hw := wd_fin (o := oFv vh) (wd_sgF H)
  rw [sgF_is H] at hw
  have w := hw.wf
  have hz := hw.2.2.2.2.2.2
  have h0 := H.2.1.1
  have h1 := H.2.1.2.1
  have h2 := H.2.1.2.2.1
  have h3 := H.2.1.2.2.2
  have e : sg vh = sgS vh (hN vh 0) (hN vh 1) (hN vh 2) (hN vh 2) (fun j => if j < hN vh 0 then hN vh (28 + j) % 2 ^ hN vh 1 else 0) (if hN vh 3 = 0 then hN vh 0 else hN vh 3) (fun j => if hN vh 3 = 0 then (if j < hN vh 0 then j else 0) else if j < hN vh 3 then hN vh (54 + j) else 0) := rfl
  have hD : ∀ p s, sD (sg vh) p s = 0 := fun p s => hz _ (by omega)
  have hP : ∀ p, sPr (sg vh) p = 0 := fun p => by unfold sPr; simp only [hD]
  have z5 := hz 5 (by omega)
  refine ⟨w, ⟨rfl, rfl, rfl, ?_⟩, fun k hk => ?_, fun s hs => ?_, fun p hp => ?_, ⟨⟨?_, ?_⟩, fun k _ h8 => hz _ (by omega), by rw [z5]; exact Nat.zero_le _⟩, fun _ => hz 8 (by omega)⟩
  · show (if hN vh 3 = 0 then hN vh 0 else hN vh 3) ≤ 4
    split <;> omega
  · rw [e, sgS_17 (by omega), if_pos hk]
  · rw [e, sgS_49 (by omega), if_pos hs]
  · rw [e, sgS_55 (by omega), if_pos hp]
  · unfold Mo
    rw [hz 41 (by omega), hz 42 (by omega), hz 43 (by omega), hz 44 (by omega), hz 45 (by omega), hz 46 (by omega), hz 47 (by omega), hz 48 (by omega), z5]
  · unfold sAll6
    rw [hP, hP, hP, hP, hP, hP, z5]
    exact Nat.le_refl _
theorem p55_pure (L : Nat) (xs : Nat → Int32) (hL : L ≤ 260) : f_law L xs = some (nI 1) := by
  obtain ⟨vh, e1, H⟩ := D0 (fu := 100000) (n1 := L) (xs := xs) (by decide) (by omega)
  unfold f_law
  rw [e1, bd_s, L0 H (by decide), bd_s]
  show (if nI 1 = 0 then _ else _) = _
  rw [if_neg (by decide)]
  have R := ri_start H
  have hz := (wd_fin (o := oFv vh) (wd_sgF H)).2.2.2.2.2.2
  rw [sgF_is H] at hz
  exact T55 H (by decide) (by omega) 8 0 100000 (sg vh) 0 _ _ _ (by omega) (by decide) R (by rw [hz 4 (by omega)]; exact Nat.zero_le _)
