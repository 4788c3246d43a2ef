/-! behind a call: what came back, told as a world of its own -/
theorem mp_joined2 {A0 : Nat → Prop} {D : va_G} {ws wc w1 w2 wo : va_W} {H H1 : Heap} {n : Nat} (hP : va_P D mp_cl ws H) (hD : va_D A0 ws) (isC isO : List Nat) (hC : isC.map (fun i => ws[i]?) = wc.map some) (hadr : w2.map Prod.fst = ws.map Prod.fst)
    (h1 : isC.map (fun i => w2[i]?) = w1.map some) (h2 : isO.map (fun i => w2[i]?) = wo.map some) (h2' : isO.map (fun i => ws[i]?) = wo.map some) (hn : w2.length = n) (hcov : (List.range n).all (fun k => isC.contains k || isO.contains k) = true)
    (hk : ∀ q : Nat, q < H.size → ¬ va_A wc H.size q → H1[q]? = H[q]?) (hP1 : va_P D mp_cl w1 H1) : va_P D mp_cl w2 H1 ∧ va_D A0 w2 := by
  refine ⟨fun k q hq => ?_, mp_D_of hD hadr⟩
  have hkn : k < n := by
    rw [← hn]
    exact (List.getElem?_eq_some_iff.mp hq).1
  have hc := List.all_eq_true.mp hcov k (List.mem_range.mpr hkn)
  by_cases hin : k ∈ isC
  · obtain ⟨j, hj⟩ := List.getElem?_of_mem hin
    have e : (isC.map (fun i => w2[i]?))[j]? = some (some q) := by rw [List.getElem?_map, hj]; exact congrArg some hq
    rw [h1, List.getElem?_map] at e
    cases hw : w1[j]? with
    | none => rw [hw] at e; cases e
    | some q' =>
      rw [hw] at e
      have e2 : q' = q := Option.some.inj (Option.some.inj e)
      subst e2
      exact hP1 j q' hw
  · have hino : k ∈ isO := by
      rw [Bool.or_eq_true] at hc
      rcases hc with hc | hc
      · exact absurd (List.contains_iff_mem.mp hc) hin
      · exact List.contains_iff_mem.mp hc
    obtain ⟨j, hj⟩ := List.getElem?_of_mem hino
    have e : (isO.map (fun i => w2[i]?))[j]? = some (some q) := by rw [List.getElem?_map, hj]; exact congrArg some hq
    rw [h2, ← h2', List.getElem?_map, hj] at e
    have h2 : ws[k]? = some q := Option.some.inj e
    have hl := (hP k q h2).lt
    refine (hP k q h2).kept (hk q.1 hl (fun h => ?_))
    rcases h with ⟨k2, e, h⟩ | h
    · have h3 : (isC.map (fun i => ws[i]?))[k2]? = some (some (q.1, e)) := by rw [hC, List.getElem?_map, h]; rfl
      rw [List.getElem?_map] at h3
      cases hi : isC[k2]? with
      | none => rw [hi] at h3; cases h3
      | some i =>
        rw [hi] at h3
        have h4 : ws[i]? = some (q.1, e) := Option.some.inj h3
        have h5 := hD.1 k i q (q.1, e) h2 h4 rfl
        subst h5
        exact hin (List.mem_of_getElem? hi)
    · exact absurd hl (Nat.not_lt.mpr h)
section MPC2
variable {p : Program} {l : Launch} {e : Env} {R : Room} {s : State} {m : MethodId} {args : Array Value} {below : List Frame} {meth : Method} {c : Code} {H : Heap} {locs : List Loc} {cells slots : Nat} {Q : State → Prop}
variable {pc : Nat} {ls : Array Slot} {rest st : List Value} {D : va_G} {A : Nat → Prop} {ws wc w1 : va_W} {mc ms n : Nat}
theorem mp_calli2 {r : Int32} {wc : va_W} {isC isO : List Nat} {w2 wo : va_W} {arr : Array Value} (hP : va_P D mp_cl ws H) (hD : va_D A ws) (hS : va_S A s.heap H locs) (hA : ∀ q, s.heap.size ≤ q → A q) (hC : isC.map (fun i => ws[i]?) = wc.map some) (hadr : w2.map Prod.fst = ws.map Prod.fst)
    (h1 : isC.map (fun i => w2[i]?) = w1.map some) (h2 : isO.map (fun i => w2[i]?) = wo.map some) (h2' : isO.map (fun i => ws[i]?) = wo.map some) (hn : w2.length = n) (hcov : (List.range n).all (fun k => isC.contains k || isO.contains k) = true)
    (hr : va_Run p l e R s m args below meth c H locs cells slots mc ms (F0 m pc ls st) rest (mp_Qi D r w1 (va_A wc H.size) arr) (va_A wc H.size))
    (kk : ∀ (H1 : Heap) (locs1 : List Loc), va_P D mp_cl w2 H1 → va_D A w2 → va_S A s.heap H1 locs1 → W p l e R s m args below meth c H1 locs1 (cells + mc) (slots + ms) Q (F0 m (pc + 3) ls (.int r :: rest))) : W p l e R s m args below meth c H locs cells slots Q (F0 m pc ls st) := by
  have hF := va_free hD hS hA isC hC
  refine va_calli hr hS (fun q _ h => hF q h) hF (fun r' u t H1 locs1 ht hvm hw hB hz1 hk1 hS1 => ?_)
  subst hw; subst ht
  obtain ⟨a, b⟩ := mp_joined2 hP hD isC isO hC hadr h1 h2 h2' hn hcov hk1 hB
  exact kk _ _ a b hS1
theorem mp_calll2 {r : Int64} {wc : va_W} {isC isO : List Nat} {w2 wo : va_W} {arr : Array Value} (hP : va_P D mp_cl ws H) (hD : va_D A ws) (hS : va_S A s.heap H locs) (hA : ∀ q, s.heap.size ≤ q → A q) (hC : isC.map (fun i => ws[i]?) = wc.map some) (hadr : w2.map Prod.fst = ws.map Prod.fst)
    (h1 : isC.map (fun i => w2[i]?) = w1.map some) (h2 : isO.map (fun i => w2[i]?) = wo.map some) (h2' : isO.map (fun i => ws[i]?) = wo.map some) (hn : w2.length = n) (hcov : (List.range n).all (fun k => isC.contains k || isO.contains k) = true)
    (hr : va_Run p l e R s m args below meth c H locs cells slots mc ms (F0 m pc ls st) rest (mp_Ql D r w1 (va_A wc H.size) arr) (va_A wc H.size))
    (kk : ∀ (H1 : Heap) (locs1 : List Loc), va_P D mp_cl w2 H1 → va_D A w2 → va_S A s.heap H1 locs1 → W p l e R s m args below meth c H1 locs1 (cells + mc) (slots + ms) Q (F0 m (pc + 3) ls (.long r :: rest))) : W p l e R s m args below meth c H locs cells slots Q (F0 m pc ls st) := by
  have hF := va_free hD hS hA isC hC
  refine va_calll hr hS (fun q _ h => hF q h) hF (fun r' u t H1 locs1 ht hvm hw hB hz1 hk1 hS1 => ?_)
  subst hw; subst ht
  obtain ⟨a, b⟩ := mp_joined2 hP hD isC isO hC hadr h1 h2 h2' hn hcov hk1 hB
  exact kk _ _ a b hS1
theorem mp_callv2 {wc : va_W} {isC isO : List Nat} {w2 wo : va_W} {arr : Array Value} (hP : va_P D mp_cl ws H) (hD : va_D A ws) (hS : va_S A s.heap H locs) (hA : ∀ q, s.heap.size ≤ q → A q) (hC : isC.map (fun i => ws[i]?) = wc.map some) (hadr : w2.map Prod.fst = ws.map Prod.fst)
    (h1 : isC.map (fun i => w2[i]?) = w1.map some) (h2 : isO.map (fun i => w2[i]?) = wo.map some) (h2' : isO.map (fun i => ws[i]?) = wo.map some) (hn : w2.length = n) (hcov : (List.range n).all (fun k => isC.contains k || isO.contains k) = true)
    (hr : va_Run p l e R s m args below meth c H locs cells slots mc ms (F0 m pc ls st) rest (mp_Qv D w1 (va_A wc H.size) arr) (va_A wc H.size))
    (kk : ∀ (H1 : Heap) (locs1 : List Loc), va_P D mp_cl w2 H1 → va_D A w2 → va_S A s.heap H1 locs1 → W p l e R s m args below meth c H1 locs1 (cells + mc) (slots + ms) Q (F0 m (pc + 3) ls rest)) : W p l e R s m args below meth c H locs cells slots Q (F0 m pc ls st) := by
  have hF := va_free hD hS hA isC hC
  refine va_callv hr hS (fun q _ h => hF q h) hF (fun u t H1 locs1 ht hvm hw hB hz1 hk1 hS1 => ?_)
  subst ht
  obtain ⟨a, b⟩ := mp_joined2 hP hD isC isO hC hadr h1 h2 h2' hn hcov hk1 hB
  exact kk _ _ a b hS1
theorem mp_callr2 {r : Nat} {wc : va_W} {isC isO : List Nat} {w2 wo : va_W} {arr : Array Value} (hP : va_P D mp_cl ws H) (hD : va_D A ws) (hS : va_S A s.heap H locs) (hA : ∀ q, s.heap.size ≤ q → A q) (hC : isC.map (fun i => ws[i]?) = wc.map some) (hadr : w2.map Prod.fst = ws.map Prod.fst)
    (h1 : isC.map (fun i => w2[i]?) = w1.map some) (h2 : isO.map (fun i => w2[i]?) = wo.map some) (h2' : isO.map (fun i => ws[i]?) = wo.map some) (hn : w2.length = n) (hcov : (List.range n).all (fun k => isC.contains k || isO.contains k) = true)
    (hr : va_Run p l e R s m args below meth c H locs cells slots mc ms (F0 m pc ls st) rest (mp_Qr D r w1 (va_A wc H.size) arr) (va_A wc H.size))
    (kk : ∀ (H1 : Heap) (locs1 : List Loc), va_P D mp_cl w2 H1 → va_D A w2 → va_S A s.heap H1 locs1 → W p l e R s m args below meth c H1 locs1 (cells + mc) (slots + ms) Q (F0 m (pc + 3) ls (.ref r :: rest))) : W p l e R s m args below meth c H locs cells slots Q (F0 m pc ls st) := by
  have hF := va_free hD hS hA isC hC
  refine va_callr hr hS (fun q _ h => hF q h) hF (fun u r' t H1 locs1 ht hvm hw hB hz1 hk1 hS1 => ?_)
  obtain ⟨hr', hB⟩ := hB
  subst hr'; subst ht
  obtain ⟨a, b⟩ := mp_joined2 hP hD isC isO hC hadr h1 h2 h2' hn hcov hk1 hB
  exact kk _ _ a b hS1
end MPC2
