/-! new rows of rows; new references; Arrays.fill with -1 -/
theorem mp_ol4 {r : Nat → Nat} : (fun i => if i < 4 then some (r i) else none) = mp_ol [r 0, r 1, r 2, r 3] := by
  funext i
  unfold mp_ol
  by_cases h : i < 4
  · rw [if_pos h]
    rcases (show i = 0 ∨ i = 1 ∨ i = 2 ∨ i = 3 by omega) with rfl | rfl | rfl | rfl <;> rfl
  · rw [if_neg h]
    exact (List.getElem?_eq_none (by show 4 ≤ i; omega)).symm
theorem mp_pl4 {r : Nat → Nat} {f : Nat → va_E} {v : va_E} : va_pl ([] ++ (List.range 4).map r) (vr_up f ((List.range 4).map r) v) = [(r 0, v), (r 1, v), (r 2, v), (r 3, v)] := by
  have h : ∀ i, i < 4 → vr_up f ((List.range 4).map r) v (r i) = v := fun i hi => vr_up_in (List.mem_map.mpr ⟨i, List.mem_range.mpr hi, rfl⟩)
  show [(r 0, vr_up f ((List.range 4).map r) v (r 0)), (r 1, vr_up f ((List.range 4).map r) v (r 1)), (r 2, vr_up f ((List.range 4).map r) v (r 2)), (r 3, vr_up f ((List.range 4).map r) v (r 3))] = _
  rw [h 0 (by omega), h 1 (by omega), h 2 (by omega), h 3 (by omega)]
theorem mp_ol3 {a b d : Nat} : va_up (va_up (va_up (fun _ => none) 0 (some a)) 1 (some b)) 2 (some d) = mp_ol [a, b, d] := by
  funext i
  unfold mp_ol va_up
  by_cases h : i < 3
  · rcases (show i = 0 ∨ i = 1 ∨ i = 2 by omega) with rfl | rfl | rfl <;> rfl
  · rw [if_neg (by omega), if_neg (by omega), if_neg (by omega)]
    exact (List.getElem?_eq_none (by show 3 ≤ i; omega)).symm
theorem c_fill4 : f_J7_fill_53178 100 4 (-1 : Int32) (fun _ => nI 0) = some (upd (upd (upd (upd (fun _ => nI 0) 0 (-1 : Int32)) 1 (-1 : Int32)) 2 (-1 : Int32)) 3 (-1 : Int32)) := rfl
section NR
variable {p : Program} {l : Launch} {e : Env} {R : Room} {s : State} {m : MethodId} {args : Array Value} {below : List Frame} {meth : Method} {c : Code} {H : Heap} {locs : List Loc} {cells slots : Nat} {Q : State → Prop}
variable {pc : Nat} {ls : Array Slot} {rest st As : List Value} {D : va_G} {T : Nat → ClassId} {A : Nat → Prop} {ws wc w1 : va_W} {own nm : String} {cc b : ByteArray} {nL n idx k : Nat} {ret yret : Option FieldType} {a : Nat}
theorem mp_newR (X : mp_X p s m meth c args own nm cc nL ret) (hZ : mp_Z s) (hcl : Cond.classLink own idx "[[J" ∈ mp_B) (hK : va_K D mp_cl (mp_ty T) s) (hP : va_P D mp_cl ws H) (hD : va_D A ws) (hS : va_S A s.heap H locs) (hA : ∀ q, s.heap.size ≤ q → A q) (hc : cells + (1 + 4) ≤ R.cells) (hs : slots + (4 + 4 * 60) ≤ R.slots) (hdg : decode cc pc = .ok (.multianewarray idx 2, 4))
    (kk : ∀ (q r0 r1 r2 r3 : Nat) (H1 : Heap), va_P D mp_cl (ws ++ [(q, mp_aR T 3 4 [r0, r1, r2, r3]), (r0, mp_aJ T 60 (fun _ => lN 0)), (r1, mp_aJ T 60 (fun _ => lN 0)), (r2, mp_aJ T 60 (fun _ => lN 0)), (r3, mp_aJ T 60 (fun _ => lN 0))]) H1 → va_D A (ws ++ [(q, mp_aR T 3 4 [r0, r1, r2, r3]), (r0, mp_aJ T 60 (fun _ => lN 0)), (r1, mp_aJ T 60 (fun _ => lN 0)), (r2, mp_aJ T 60 (fun _ => lN 0)), (r3, mp_aJ T 60 (fun _ => lN 0))]) → va_S A s.heap H1 locs → W p l e R s m args below meth c H1 locs (cells + 1 + 4) (slots + 4 + 4 * 60) Q (F0 m (pc + 4) ls (.ref q :: rest))) : W p l e R s m args below meth c H locs cells slots Q (F0 m pc ls (.int (nI 60) :: .int (nI 4) :: rest)) := by
  have hP0 : va_P D mp_cl (ws ++ va_pl [] (fun _ => mp_aJ T 60 (fun _ => lN 0))) H := by
    rw [show ws ++ va_pl [] (fun _ => mp_aJ T 60 (fun _ => lN 0)) = ws from List.append_nil ws]; exact hP
  have hD0 : va_D A (ws ++ va_pl [] (fun _ => mp_aJ T 60 (fun _ => lN 0))) := by
    rw [show ws ++ va_pl [] (fun _ => mp_aJ T 60 (fun _ => lN 0)) = ws from List.append_nil ws]; exact hD
  refine va_mna (ty := .long) (cy := T 1) (N' := 4) (K' := 60) (z := (60, .inr (.inl (fun _ => lN 0)))) X.1 X.2.1 X.2.2.2.2.1 (X.2.2.2.2.2.1 _ hcl) hZ.2.2 (X.2.2.2.2.2.1 _ ar_J) (hK.2 1 (T 1, .long) rfl).2 hK hP0 hD0 hS hA (by decide) (by decide) (by decide) (by decide) (by decide) (by decide) (by decide) rfl rfl hc hs (fun c => ?_) hdg (fun q r cA H1 _ _ hK2 hP2 hD2 hS2 => ?_)
  · show ({ cls := c, slots := Array.replicate 60 (defaultValue .long), vm := .none } : Cell) = _
    rw [arrV_new]; rfl
  · have h1 := (hK2.2 5 (cA, .array .long) rfl).2
    have h2 := (hK.2 3 (T 3, .array .long) rfl).2
    have h3 : cA = T 3 := Option.some.inj (h1.symm.trans h2)
    subst h3
    rw [mp_pl4, mp_ol4, List.append_assoc] at hP2 hD2
    exact kk q (r 0) (r 1) (r 2) (r 3) H1 hP2 hD2 hS2
theorem mp_newQ (X : mp_X p s m meth c args own nm cc nL ret) (hZ : mp_Z s) (hcl : Cond.classLink own idx "MarginPlan$Book" ∈ mp_B) (hK : va_K D mp_cl (mp_ty T) s) (hP : va_P D mp_cl ws H) (hD : va_D A ws) (hS : va_S A s.heap H locs) (hA : ∀ q, s.heap.size ≤ q → A q) (hc : cells + 1 ≤ R.cells) (hs : slots + 3 ≤ R.slots) (hdg : decode cc pc = .ok (.anewarray idx, 3))
    (kk : ∀ (q : Nat) (H1 : Heap), va_P D mp_cl (ws ++ [(q, .inl (T 4, 3, .inr (.inr (.inr (.inr (fun _ => none))))))]) H1 → va_D A (ws ++ [(q, .inl (T 4, 3, .inr (.inr (.inr (.inr (fun _ => none))))))]) → va_S A s.heap H1 locs → W p l e R s m args below meth c H1 locs (cells + 1) (slots + 3) Q (F0 m (pc + 3) ls (.ref q :: rest))) : W p l e R s m args below meth c H locs cells slots Q (F0 m pc ls (.int (nI 3) :: rest)) := by
  refine va_newq (C := "MarginPlan$Book") (N' := 3) X.1 X.2.1 X.2.2.2.2.1 (X.2.2.2.2.2.1 _ hcl) hZ.2.1 hK hP hD hS hA (by decide) (by decide) (by decide) hc hs hdg (fun q cA H1 hK2 hP2 hD2 hS2 => ?_)
  obtain ⟨k1, c1, a1, b1, d1, e1⟩ := (hK2.2 5 (cA, .object "MarginPlan$Book") rfl).2
  obtain ⟨k2, c2, a2, b2, d2, e2⟩ := (hK.2 4 (T 4, .object "MarginPlan$Book") rfl).2
  have h3 : cA = T 4 := Option.some.inj (e1.symm.trans e2)
  subst h3
  exact kk q H1 hP2 hD2 hS2
end NR
