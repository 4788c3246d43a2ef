/-! a call that writes the first cell, too -/
theorem law_joinedZ {A0 : Nat → Prop} {T : Nat → ClassId} {a : Nat → Nat} {i i' : Nat → Int32} {j j' : Nat → Int64} {f f' : Nat → Nat → Int32} {g g' : Nat → Nat → Int64} {D : va_G} {Y wc w1 : va_W} {x0 x1 : Nat × va_E} {H H1 : Heap} {isC uI uJ uF uG : List Nat} (hP : va_P D mp_cl (x0 :: (Y ++ aW T a i j f g)) H) (hD : va_D A0 (x0 :: (Y ++ aW T a i j f g))) (hC : isC.map (fun k => (aW T a i j f g)[k]?) = wc.map some)
    (h1 : isC.map (fun k => (aW T a i' j' f' g')[k]?) = w1.map some) (hi : ∀ n, n ∉ uI → i' n = i n) (hj : ∀ n, n ∉ uJ → j' n = j n) (hf : ∀ n, n ∉ uF → f' n = f n) (hg : ∀ n, n ∉ uG → g' n = g n) (hoff : law_off isC uI uJ uF uG = true)
    (hk : ∀ q : Nat, q < H.size → ¬ va_A (wc ++ [x0]) H.size q → H1[q]? = H[q]?) (hP1 : va_P D mp_cl (w1 ++ [x1]) H1) (hx : x1.1 = x0.1) : va_P D mp_cl (x1 :: (Y ++ aW T a i' j' f' g')) H1 ∧ va_D A0 (x1 :: (Y ++ aW T a i' j' f' g')) := by
  have hnot : ∀ (K : Nat) (q : Nat × va_E), (x0 :: (Y ++ aW T a i j f g))[K]? = some q → K ≠ 0 → (∀ t, t ∈ isC → K ≠ Y.length + t + 1) → q.1 < H.size → ¬ va_A (wc ++ [x0]) H.size q.1 := by
    intro K q hq h0 ht hl h
    rcases h with ⟨k2, e, h⟩ | h
    · by_cases hk2 : k2 < wc.length
      · rw [List.getElem?_append_left hk2] at h
        have h3 : (isC.map (fun k => (aW T a i j f g)[k]?))[k2]? = some (some (q.1, e)) := by rw [hC, List.getElem?_map, h]; rfl
        rw [List.getElem?_map] at h3
        cases hi : isC[k2]? with
        | none => rw [hi] at h3; cases h3
        | some t =>
          rw [hi] at h3
          have h4 : (aW T a i j f g)[t]? = some (q.1, e) := Option.some.inj h3
          have h6 : (x0 :: (Y ++ aW T a i j f g))[Y.length + t + 1]? = some (q.1, e) := by
            rw [List.getElem?_cons_succ, List.getElem?_append_right (Nat.le_add_right _ _), Nat.add_sub_cancel_left]
            exact h4
          exact ht t (List.mem_of_getElem? hi) (hD.1 K _ q (q.1, e) hq h6 rfl)
      · rw [List.getElem?_append_right (Nat.not_lt.mp hk2)] at h
        have h7 : x0 = (q.1, e) := by
          cases hz : k2 - wc.length with
          | zero => rw [hz] at h; exact Option.some.inj h
          | succ z => rw [hz] at h; cases h
        exact h0 (hD.1 K 0 q x0 hq rfl (by rw [h7]))
    · exact absurd hl (Nat.not_lt.mpr h)
  refine ⟨fun K q hq => ?_, mp_D_of hD (by rw [List.map_cons, List.map_cons, List.map_append, List.map_append, aW_adr, aW_adr, hx])⟩
  cases K with
  | zero =>
    have hq2 : x1 = q := Option.some.inj hq
    subst hq2
    exact hP1 w1.length x1 (by rw [List.getElem?_append_right (Nat.le_refl _), Nat.sub_self]; rfl)
  | succ K =>
    rw [List.getElem?_cons_succ] at hq
    by_cases hK : K < Y.length
    · rw [List.getElem?_append_left hK] at hq
      have hq2 : (x0 :: (Y ++ aW T a i j f g))[K + 1]? = some q := by
        rw [List.getElem?_cons_succ, List.getElem?_append_left hK]; exact hq
      have hl := (hP _ q hq2).lt
      exact (hP _ q hq2).kept (hk q.1 hl (hnot _ q hq2 (Nat.succ_ne_zero _) (fun t _ e => by omega) hl))
    · rw [List.getElem?_append_right (Nat.not_lt.mp hK)] at hq
      obtain ⟨t, rfl⟩ : ∃ t, K = Y.length + t := ⟨K - Y.length, by omega⟩
      rw [Nat.add_sub_cancel_left] at hq
      have htn : t < 146 := by
        rw [← aW_len (T := T) (a := a) (i := i') (j := j') (f := f') (g := g')]
        exact (List.getElem?_eq_some_iff.mp hq).1
      by_cases hin : t ∈ isC
      · obtain ⟨u, hu⟩ := List.getElem?_of_mem hin
        have e : (isC.map (fun k => (aW T a i' j' f' g')[k]?))[u]? = some (some q) := by rw [List.getElem?_map, hu]; exact congrArg some hq
        rw [h1, List.getElem?_map] at e
        cases hw : w1[u]? with
        | none => rw [hw] at e; cases e
        | some q' =>
          rw [hw] at e
          have e2 : q' = q := Option.some.inj (Option.some.inj e)
          subst e2
          exact hP1 u q' (by rw [List.getElem?_append_left (List.getElem?_eq_some_iff.mp hw).1]; exact hw)
      · have h2 : (aW T a i j f g)[t]? = some q := by
          rw [← hq]
          exact (law_ok_ag (List.all_eq_true.mp hoff t (List.mem_range.mpr htn)) hin hi hj hf hg htn).symm
        have hq2 : (x0 :: (Y ++ aW T a i j f g))[Y.length + t + 1]? = some q := by
          rw [List.getElem?_cons_succ, List.getElem?_append_right (Nat.le_add_right _ _), Nat.add_sub_cancel_left]
          exact h2
        have hl := (hP _ q hq2).lt
        refine (hP _ q hq2).kept (hk q.1 hl (hnot _ q hq2 (Nat.succ_ne_zero _) (fun u hu e => ?_) hl))
        exact hin (by rw [show t = u by omega]; exact hu)
section LCZ
variable {p : Program} {l : Launch} {e : Env} {R : Room} {s : State} {m : MethodId} {args : Array Value} {below : List Frame} {meth : Method} {c : Code} {H : Heap} {locs : List Loc} {cells slots : Nat} {Q : State → Prop}
variable {pc : Nat} {ls : Array Slot} {rest st : List Value} {D : va_G} {T : Nat → ClassId} {a : Nat → Nat} {i i' : Nat → Int32} {j j' : Nat → Int64} {f f' : Nat → Nat → Int32} {g g' : Nat → Nat → Int64} {Y wc w1 : va_W} {x0 x1 : Nat × va_E} {isC uI uJ uF uG : List Nat} {arr : Array Value} {A : Nat → Prop}
theorem law_subZ (hP : va_P D mp_cl (x0 :: (Y ++ aW T a i j f g)) H) (hC : isC.map (fun k => (aW T a i j f g)[k]?) = wc.map some) : va_P D mp_cl (wc ++ [x0]) H :=
  law_app (law_sub (law_right (Y := x0 :: Y) hP) hC) (law_left (Y := [x0]) hP)
theorem law_callZ {r : Int32} (hP : va_P D mp_cl (x0 :: (Y ++ aW T a i j f g)) H) (hD : va_D A (x0 :: (Y ++ aW T a i j f g))) (hS : va_S A s.heap H locs) (hA : ∀ q, s.heap.size ≤ q → A q) (hC : isC.map (fun k => (aW T a i j f g)[k]?) = wc.map some) (hnd : va_nd isC = true) (h1 : isC.map (fun k => (aW T a i' j' f' g')[k]?) = w1.map some)
    (hi : ∀ n, n ∉ uI → i' n = i n) (hj : ∀ n, n ∉ uJ → j' n = j n) (hf : ∀ n, n ∉ uF → f' n = f n) (hg : ∀ n, n ∉ uG → g' n = g n) (hoff : law_off isC uI uJ uF uG = true) (hx : x1.1 = x0.1)
    (hr : va_P D mp_cl (wc ++ [x0]) H → va_D A (wc ++ [x0]) → va_Run p l e R s m args below meth c H locs cells slots 0 0 (F0 m pc ls st) rest (mp_Qi D r (w1 ++ [x1]) (va_A (wc ++ [x0]) H.size) arr) (va_A (wc ++ [x0]) H.size))
    (kk : ∀ (H1 : Heap) (locs1 : List Loc), va_P D mp_cl (x1 :: (Y ++ aW T a i' j' f' g')) H1 → va_D A (x1 :: (Y ++ aW T a i' j' f' g')) → va_S A s.heap H1 locs1 → W p l e R s m args below meth c H1 locs1 cells slots Q (F0 m (pc + 3) ls (.int r :: rest))) : W p l e R s m args below meth c H locs cells slots Q (F0 m pc ls st) := by
  have hC2 : (isC.map (fun k => Y.length + k + 1) ++ [0]).map (fun k => (x0 :: (Y ++ aW T a i j f g))[k]?) = (wc ++ [x0]).map some := by
    rw [List.map_append, List.map_append, List.map_map, ← hC]
    congr 1
    refine List.map_congr_left (fun k _ => ?_)
    show (x0 :: (Y ++ aW T a i j f g))[Y.length + k + 1]? = _
    rw [List.getElem?_cons_succ, List.getElem?_append_right (Nat.le_add_right _ _), Nat.add_sub_cancel_left]
  have hF := va_free hD hS hA _ hC2
  have hDc : va_D A (wc ++ [x0]) := by
    have hDa := (law_rightD (Y := x0 :: Y) hD).sub isC hnd hC
    refine ⟨fun u v p q hp hq e => ?_, fun k q hq => ?_⟩
    · have key : ∀ (u : Nat) (p : Nat × va_E), (wc ++ [x0])[u]? = some p → (u < wc.length ∧ wc[u]? = some p ∧ ∃ t, t ∈ isC ∧ (x0 :: (Y ++ aW T a i j f g))[Y.length + t + 1]? = some p) ∨ (u = wc.length ∧ p = x0) := by
        intro u p hp
        by_cases hu : u < wc.length
        · rw [List.getElem?_append_left hu] at hp
          have h3 : (isC.map (fun k => (aW T a i j f g)[k]?))[u]? = some (some p) := by rw [hC, List.getElem?_map, hp]; rfl
          rw [List.getElem?_map] at h3
          cases hi : isC[u]? with
          | none => rw [hi] at h3; cases h3
          | some t =>
            rw [hi] at h3
            refine Or.inl ⟨hu, hp, t, List.mem_of_getElem? hi, ?_⟩
            rw [List.getElem?_cons_succ, List.getElem?_append_right (Nat.le_add_right _ _), Nat.add_sub_cancel_left]
            exact Option.some.inj h3
        · rw [List.getElem?_append_right (Nat.not_lt.mp hu)] at hp
          cases hz : u - wc.length with
          | zero => rw [hz] at hp; exact Or.inr ⟨by omega, (Option.some.inj hp).symm⟩
          | succ z => rw [hz] at hp; cases hp
      rcases key u p hp with ⟨u1, u2, t, -, u3⟩ | ⟨u1, rfl⟩ <;> rcases key v q hq with ⟨v1, v2, t', -, v3⟩ | ⟨v1, rfl⟩
      · exact hDa.1 u v p q u2 v2 e
      · have := hD.1 _ 0 p _ u3 rfl e; omega
      · have := hD.1 _ 0 q _ v3 rfl e.symm; omega
      · omega
    · by_cases hu : k < wc.length
      · rw [List.getElem?_append_left hu] at hq
        exact hDa.2 k q hq
      · rw [List.getElem?_append_right (Nat.not_lt.mp hu)] at hq
        cases hz : k - wc.length with
        | zero => rw [hz] at hq; rw [← Option.some.inj hq]; exact hD.2 0 x0 rfl
        | succ z => rw [hz] at hq; cases hq
  refine va_calli (hr (law_subZ hP hC) hDc) hS (fun q _ h => hF q h) hF (fun r' u t H1 locs1 ht hvm hw hB hz1 hk1 hS1 => ?_)
  subst hw; subst ht
  obtain ⟨x, y⟩ := law_joinedZ hP hD hC h1 hi hj hf hg hoff hk1 hB hx
  exact kk _ _ x y hS1
end LCZ
