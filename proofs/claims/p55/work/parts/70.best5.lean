def rg : Nat → Nat → List Nat
  | _, 0 => []
  | j, m + 1 => j :: rg (j + 1) m
theorem rg_s : ∀ {m j : Nat}, rg j (m + 1) = rg j m ++ [j + m]
  | 0, j => rfl
  | m + 1, j => by
    show j :: rg (j + 1) (m + 1) = j :: rg (j + 1) m ++ [j + (m + 1)]
    rw [rg_s, show j + 1 + m = j + (m + 1) by omega]
    rfl
theorem rg_range : ∀ {m : Nat}, rg 0 m = List.range m
  | 0 => rfl
  | m + 1 => by rw [rg_s, rg_range, List.range_succ, Nat.zero_add]
theorem asc_seg {M n : Nat} (hM : M < 2 ^ n) : ∀ {j : Nat}, seg M (n + j) = seg M n
  | 0 => rfl
  | j + 1 => by
    rw [← Nat.add_assoc, seg_s, bit_of_lt hM (show n ≤ n + j by omega), if_neg (by decide), asc_seg hM]
theorem bf_app {σ : Nat → Nat} : ∀ {x y : List (List Nat)} {b : Option (Nat × List Nat)}, bf σ b (x ++ y) = bf σ (bf σ b x) y
  | [], _, _ => rfl
  | L :: x, y, b => bf_app (x := x)
section BN
variable {c : Nat → Int32} {σ : Nat → Nat} {fu : Nat} {om0 : Int32} {oe0 : Nat → Int32}
theorem m_orders (w : WF σ) (h6 : σ 3 ≤ 6) (hfu : 2000 < fu) : ∀ (k d M dep : Nat) (pre : List Nat) (b : Option (Nat × List Nat)) (τ : Nat → Nat) (om : Int32) (oe kp row : Nat → Int32), d + k = σ 3 → pre.length = d → M < 256 → sz M = k → M < 2 ^ σ 0 → k < dep → (∀ L, L ∈ lvs 8 k M → pre ++ L ∈ lvs 8 (σ 3) (sMk σ)) → Sim σ τ → (∀ i, i < d → row i = nI (el pre i)) → BO b → BR (σ 3) om0 oe0 b om oe →
    ∃ om' oe' kp' row' τ', f_X12_orders fu dep (nI M) (nI d) om (obI b) (mk c τ) kp oe row = some (om', obI (bf σ b ((lvs 8 k M).map (fun L => pre ++ L))), mk c τ', kp', oe', row') ∧ Sim σ τ' ∧ (∀ i, i < d → row' i = row i) ∧ BO (bf σ b ((lvs 8 k M).map (fun L => pre ++ L))) ∧ BR (σ 3) om0 oe0 (bf σ b ((lvs 8 k M).map (fun L => pre ++ L))) om' oe' := by
  have h0 := w.c0
  intro k
  induction k with
  | zero =>
    intro d M dep pre b τ om oe kp row hd hp hM hsz hM2 hdep hmem hs hrow hb hB
    obtain ⟨dep, rfl⟩ : ∃ z, dep = z + 1 := ⟨dep - 1, by omega⟩
    obtain rfl := sz_0 M hM hsz
    obtain rfl : d = σ 3 := by omega
    have hL : pre ∈ lvs 8 (σ 3) (sMk σ) := by
      have := hmem [] (List.mem_cons_self ..)
      rw [List.append_nil] at this
      exact this
    obtain ⟨om', oe', kp', e, h1, h2⟩ := m_leaf (c := c) (kp := kp) (REC := f_X12_orders fu dep) w hs hL hrow hb hB hfu
    have el1 : (lvs 8 0 0).map (fun L => pre ++ L) = [pre] := by
      show [pre ++ []] = [pre]
      rw [List.append_nil]
    rw [el1]
    refine ⟨om', oe', kp', row, sO σ pre, ?_, sim_O, fun _ _ => rfl, h2, h1⟩
    show f_X12_ordersB fu (f_X12_orders fu dep) (nI 0) (nI (σ 3)) om (obI b) (mk c τ) kp oe row = _
    unfold f_X12_ordersB
    rw [if_pos (show nI 0 = 0 from rfl)]
    exact e
  | succ k ih =>
    intro d M dep pre b τ om oe kp row hd hp hM hsz hM2 hdep hmem hs hrow hb hB
    obtain ⟨dep, rfl⟩ : ∃ z, dep = z + 1 := ⟨dep - 1, by omega⟩
    have hM0 : M ≠ 0 := fun h => by
      subst h
      have : sz 0 = 0 := by decide
      omega
    have hloop : ∀ (m j q : Nat) (b : Option (Nat × List Nat)) (τ : Nat → Nat) (om : Int32) (oe kp row : Nat → Int32), j + m = σ 0 → m < q → Sim σ τ → (∀ i, i < d → row i = nI (el pre i)) → BO b → BR (σ 3) om0 oe0 b om oe →
        ∃ om' oe' kp' row' τ', f_X12_orders_114 fu (f_X12_orders fu dep) q (nI M) (nI d) (nI j) om (obI b) (mk c τ) kp oe row = some (om', obI (bf σ b (((rg j m).flatMap (fun x => cond (M.testBit x) ((lvs 8 k (dif M (2 ^ x))).map (fun L => x :: L)) [])).map (fun L => pre ++ L))), mk c τ', kp', oe', row') ∧ Sim σ τ' ∧ (∀ i, i < d → row' i = row i) ∧ BO (bf σ b (((rg j m).flatMap (fun x => cond (M.testBit x) ((lvs 8 k (dif M (2 ^ x))).map (fun L => x :: L)) [])).map (fun L => pre ++ L))) ∧ BR (σ 3) om0 oe0 (bf σ b (((rg j m).flatMap (fun x => cond (M.testBit x) ((lvs 8 k (dif M (2 ^ x))).map (fun L => x :: L)) [])).map (fun L => pre ++ L))) om' oe' := by
      intro m
      induction m with
      | zero =>
        intro j q b τ om oe kp row hj hq hs hrow hb hB
        obtain ⟨q, rfl⟩ : ∃ z, q = z + 1 := ⟨q - 1, by omega⟩
        have e0 : τ 0 = σ 0 := hs 0 (by omega) (by omega)
        simp (disch := omega) only [f_X12_orders_114, gi_n, nI_cl, mk_in, e0, nI_le', if_pos]
        exact ⟨om, oe, kp, row, τ, rfl, hs, fun _ _ => rfl, hb, hB⟩
      | succ m ihm =>
        intro j q b τ om oe kp row hj hq hs hrow hb hB
        obtain ⟨q, rfl⟩ : ∃ z, q = z + 1 := ⟨q - 1, by omega⟩
        have e0 : τ 0 = σ 0 := hs 0 (by omega) (by omega)
        have er : rg j (m + 1) = j :: rg (j + 1) m := rfl
        rw [er, List.flatMap_cons, List.map_append, bf_app]
        simp (disch := omega) only [f_X12_orders_114, gi_n, nI_cl, mk_in, e0, nI_le', if_neg, has12, bd_s, bI_0, lt_, nI_add]
        cases hbit : M.testBit j
        · rw [if_pos rfl]
          exact ihm (j + 1) q b τ om oe kp row (by omega) (by omega) hs hrow hb hB
        · rw [if_neg (by decide)]
          have hsd := sz_dif M hM j (by omega) hbit
          have hjm : j ∈ asc M := by
            unfold asc
            rw [List.mem_filter, List.mem_range]
            exact ⟨by omega, hbit⟩
          obtain ⟨om1, oe1, kp1, row1, τ1, e1, s1, r1, b1, B1⟩ := ih (d + 1) (dif M (2 ^ j)) dep (pre ++ [j]) b τ om oe kp (upd row d (nI j)) (by omega) (by rw [List.length_append, hp]; rfl) (dif_256 hM) (by omega) (dif_lt hM2) (by omega)
            (fun L hL => by
              rw [List.append_assoc]
              refine hmem ([j] ++ L) ?_
              rw [lvs_asc, List.mem_flatMap]
              exact ⟨j, hjm, List.mem_map.mpr ⟨L, hL, rfl⟩⟩) hs
            (fun i hi => by
              by_cases e : i = d
              · subst e
                rw [upd_s, ← hp, el_app2]
              · rw [upd_n e, hrow i (by omega), el_app1 (by omega)]) hb hB
          have em : (lvs 8 k (dif M (2 ^ j))).map (fun L => (pre ++ [j]) ++ L) = ((lvs 8 k (dif M (2 ^ j))).map (fun L => j :: L)).map (fun L => pre ++ L) := by
            rw [List.map_map]
            refine List.map_congr_left (fun L _ => ?_)
            show (pre ++ [j]) ++ L = pre ++ (j :: L)
            rw [List.append_assoc]
            rfl
          rw [em] at e1 b1 B1
          simp (disch := omega) only [nI_1shl, nI_andn]
          rw [e1, bd_s]
          simp only
          obtain ⟨om2, oe2, kp2, row2, τ2, e2, s2, r2, b2, B2⟩ := ihm (j + 1) q _ τ1 om1 oe1 kp1 row1 (by omega) (by omega) s1 (fun i hi => by rw [r1 i (by omega), upd_n (by omega), hrow i hi]) b1 B1
          exact ⟨om2, oe2, kp2, row2, τ2, e2, s2, fun i hi => by rw [r2 i hi, r1 i (by omega), upd_n (by omega)], b2, B2⟩
    have ef : lvs 8 (k + 1) M = (rg 0 (σ 0)).flatMap (fun x => cond (M.testBit x) ((lvs 8 k (dif M (2 ^ x))).map (fun L => x :: L)) []) := by
      rw [lvs_asc, flat_if, rg_range]
      have e8 : asc M = seg M (σ 0) := by
        have := asc_seg hM2 (j := 8 - σ 0)
        rw [show σ 0 + (8 - σ 0) = 8 by omega] at this
        exact this
      rw [e8]
      rfl
    rw [ef]
    obtain ⟨om', oe', kp', row', τ', e, r⟩ := hloop (σ 0) 0 fu b τ om oe kp row (by omega) (by omega) hs hrow hb hB
    refine ⟨om', oe', kp', row', τ', ?_, r⟩
    show f_X12_ordersB fu (f_X12_orders fu dep) (nI M) (nI d) om (obI b) (mk c τ) kp oe row = _
    unfold f_X12_ordersB
    rw [if_neg (show ¬ nI M = 0 from (by rw [nI_eq0 (by omega)]; exact hM0))]
    exact e
end BN
