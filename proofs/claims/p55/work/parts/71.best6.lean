section BF
variable {c kp : Nat → Int32} {σ : Nat → Nat} {fu : Nat} {st st2 th om ob : Int32} {dt kn md od xx sd us lt rm sp oe ow row : Nat → Int32} {q1 q2 q3 q4 q5 q6 : Int32} {q7 q8 q9 q10 q11 q12 q13 : Nat → Int32} {bm : Int32} {be tr : Nat → Int32}
theorem m_bestOrder (w : WF σ) (h6 : σ 3 ≤ 6) (hfu : 2000 < fu) : ∃ om' oe' kp' ow' row', f_X12_bestOrder fu st2 th om ob (mk c σ) kp ow oe row = some (obI (bf σ none (lvs 8 (σ 3) (sMk σ))), nI (if bf σ none (lvs 8 (σ 3) (sMk σ)) = none then 8 else 0), nI 0, om', obI (bf σ none (lvs 8 (σ 3) (sMk σ))), mk c σ, kp', ow', oe', row') ∧ BR (σ 3) om oe (bf σ none (lvs 8 (σ 3) (sMk σ))) om' oe' ∧ BO (bf σ none (lvs 8 (σ 3) (sMk σ))) := by
  have h3 := w.c3
  have h8 := w.c8'
  obtain ⟨om', oe', kp', row', τ, e, hs, -, hb, hB⟩ := m_orders (c := c) (om0 := om) (oe0 := oe) w h6 hfu (σ 3) 0 (sMk σ) 10 [] none σ om oe kp row (by omega) rfl (sMk_lt w) (sMk_sz w) (lt_of_bits (fun i hi => by
    cases hc : (sMk σ).testBit i
    · rfl
    · have := sMk_0 w hc; omega)) (by omega) (fun L hL => hL) (fun _ _ _ => rfl) (fun i hi => absurd hi (Nat.not_lt_zero i)) (fun u L h => by cases h) ⟨rfl, rfl⟩
  have el0 : (lvs 8 (σ 3) (sMk σ)).map (fun L => [] ++ L) = lvs 8 (σ 3) (sMk σ) := List.map_id _
  rw [el0] at e hb hB
  refine ⟨om', oe', kp', mkF ow (σ 3) (fun i => σ (67 + i)), row', ?_, hB, hb⟩
  -- what it was is laid back
  have hback : ∀ (m j q : Nat) (ρ : Nat → Nat), j + m = σ 3 → m < q → Sim σ ρ → (∀ i, i < j → ρ (67 + i) = σ (67 + i)) → f_X12_bestOrder_95 fu q (nI (σ 8)) (nI j) (nI 0) (nI 0) om' (obI (bf σ none (lvs 8 (σ 3) (sMk σ)))) (mk c ρ) kp' (mkF ow (σ 3) (fun i => σ (67 + i))) oe' row' = some (obI (bf σ none (lvs 8 (σ 3) (sMk σ))), nI (if bf σ none (lvs 8 (σ 3) (sMk σ)) = none then 8 else 0), nI 0, om', obI (bf σ none (lvs 8 (σ 3) (sMk σ))), mk c σ, kp', mkF ow (σ 3) (fun i => σ (67 + i)), oe', row') := by
    intro m
    induction m with
    | zero =>
      intro j q ρ hj hq hr hk
      obtain ⟨q, rfl⟩ : ∃ z, q = z + 1 := ⟨q - 1, by omega⟩
      have e3 : ρ 3 = σ 3 := hr 3 (by omega) (by omega)
      have emk : upd (mk c ρ) 8 (nI (σ 8)) = mk c σ := by
        rw [mk_up (by omega)]
        refine mkF_congr (fun i hi => ?_)
        by_cases e : i = 8
        · subst e; rw [up_s]
        · rw [up_n _ _ e]
          by_cases h : 67 ≤ i ∧ i < 67 + σ 3
          · have := hk (i - 67) (by omega)
            rw [show 67 + (i - 67) = i by omega] at this
            exact this
          · exact hr i e h
      simp (disch := omega) only [f_X12_bestOrder_95, gi_n, nI_cl, mk_in, e3, nI_le', if_pos, emk]
      cases hbf : bf σ none (lvs 8 (σ 3) (sMk σ)) with
      | none =>
        rw [if_neg (show ¬ 0 ≤ obI none by decide), if_pos rfl]
        rfl
      | some z =>
        obtain ⟨u, L⟩ := z
        have hu := hb u L hbf
        rw [if_pos (show 0 ≤ obI (some (u, L)) from (by rw [show obI (some (u, L)) = nI u from rfl, nI_0le (by omega)]; trivial)), if_neg (fun h => by cases h)]
    | succ m ih =>
      intro j q ρ hj hq hr hk
      obtain ⟨q, rfl⟩ : ∃ z, q = z + 1 := ⟨q - 1, by omega⟩
      have e3 : ρ 3 = σ 3 := hr 3 (by omega) (by omega)
      simp (disch := omega) only [f_X12_bestOrder_95, gi_n, nI_cl, mk_in, e3, nI_le', if_neg, lt_, nI_add, mkF_in, mk_up]
      refine ih (j + 1) q _ (by omega) (by omega) (fun i h8 hi => ?_) (fun i hi => ?_)
      · rw [up_n _ _ (by omega)]; exact hr i h8 hi
      · by_cases e : i = j
        · subst e; rw [up_s]
        · rw [up_n _ _ (by omega)]; exact hk i (by omega)
  unfold f_X12_bestOrder
  rw [gi_n (by omega) (by omega), nI_cl (by omega), mk_in (by omega), if_pos (by rw [nI_le' (by omega) (by omega)]; exact h6), gi_n (by omega) (by omega), nI_cl (by omega), mk_in (by omega)]
  simp only [lt_]
  refine Eq.trans (congrArg (fun z => f_X12_bestOrder_40 fu fu (nI 0) (nI (σ 8)) (nI 0) (nI 0) (nI 0) om ob (mk c σ) kp z oe row) (mkF_n0 (f := fun i => σ (67 + i))).symm) ?_
  refine loop_p (fun q j => f_X12_bestOrder_40 fu q (nI (msk σ j)) (nI (σ 8)) (nI j) (nI 0) (nI 0) om ob (mk c σ) kp (mkF ow j (fun i => σ (67 + i))) oe row) (σ 3) _ ?_ ?_ (σ 3) 0 fu (by omega) (by omega)
  · intro q j hj
    have ho := w.or' hj
    have eg : upd (mkF ow j (fun i => σ (67 + i))) j (nI (σ (67 + j))) = mkF ow (j + 1) (fun i => σ (67 + i)) := mkF_grow
    simp (disch := omega) only [f_X12_bestOrder_40, gi_n, nI_cl, mk_in, nI_le', if_neg, lt_, nI_add, eg, mkF_in, nI_1shl, nI_or]
    rfl
  · intro q
    simp (disch := omega) only [f_X12_bestOrder_40, gi_n, nI_cl, mk_in, nI_le', if_pos]
    have e' : f_X12_orders fu 10 (nI (msk σ (σ 3))) (nI 0) om (-1 : Int32) (mk c σ) kp oe row = _ := e
    rw [e', bd_s]
    exact hback (σ 3) 0 fu τ (by omega) (by omega) hs (fun i hi => absurd hi (Nat.not_lt_zero i))
theorem r_bestOrder (w : WF σ) (hB : BoRel bm be om oe) (hfu : 2000 < fu) : ∃ r s bm' be' o om' ob' kp' ow' oe' row', f_X11_bestOrder fu st bm be q1 q2 q3 q4 q5 q6 q7 q8 q9 q10 q11 q12 q13 tr (nI (σ 0)) (nI (σ 1)) (nI (σ 2)) (nI (sB σ)) (nI (sR σ)) (aL lt σ) (nI (σ 3)) (nI (σ 8)) (nI (σ 6)) (nI (σ 7)) (nI (σ 4)) (nI (σ 5)) (aD dt σ) (aK kn σ) (aM md σ) (aO od σ) (aX xx σ) (aS sd σ) (aU us σ) (aR rm σ) (aP sp σ) = some (r, s, bm', be', o)
    ∧ f_X12_bestOrder fu st2 th om ob (mk c σ) kp ow oe row = some (r, s, nI 0, om', ob', mk c σ, kp', ow', oe', row') ∧ BoRel bm' be' om' oe' := by
  have h3 := w.c3
  by_cases h6 : σ 3 ≤ 6
  · obtain ⟨om', oe', kp', ow', row', em, Bm, hb⟩ := m_bestOrder (c := c) (kp := kp) (st2 := st2) (th := th) (om := om) (ob := ob) (oe := oe) (ow := ow) (row := row) w h6 hfu
    obtain ⟨bm', be', o, ec, Bc⟩ := c_seekBest (dt := dt) (kn := kn) (md := md) (od := od) (xx := xx) (sd := sd) (us := us) (lt := lt) (rm := rm) (sp := sp) (q1 := q1) (q2 := q2) (q3 := q3) (q4 := q4) (q5 := q5) (q6 := q6) (q7 := q7) (q8 := q8) (q9 := q9) (q10 := q10) (q11 := q11) (q12 := q12) (q13 := q13) (bm0 := bm) (be0 := be) (tr := tr) w h6 hfu
    obtain ⟨o1, o2, o3, o4, o5, o6, o7, o8, o9, o10, o11, o12, o13, o14⟩ := o
    have hbd : ∀ j, (bf σ none (lvs 8 (σ 3) (sMk σ))).map Prod.fst = some j → j < 2147483648 := fun j hj => by
      cases hbf : bf σ none (lvs 8 (σ 3) (sMk σ)) with
      | none => rw [hbf] at hj; cases hj
      | some z =>
        obtain ⟨u, L⟩ := z
        have hu := hb u L hbf
        rw [hbf] at hj
        cases hj
        show u < 2147483648
        omega
    unfold f_X11_bestOrder
    rw [if_pos (by rw [nI_le' (by omega) (by omega)]; exact h6), ec, bd_s]
    simp only
    have ea : f_X11_answerIfAny (rtB (bf σ none (lvs 8 (σ 3) (sMk σ)))) st = some (obI (bf σ none (lvs 8 (σ 3) (sMk σ))), nI (if bf σ none (lvs 8 (σ 3) (sMk σ)) = none then 8 else 0)) := by
      have := ansAny ((bf σ none (lvs 8 (σ 3) (sMk σ))).map Prod.fst) st hbd
      refine Eq.trans this ?_
      cases bf σ none (lvs 8 (σ 3) (sMk σ)) with
      | none => rfl
      | some z => rfl
    rw [ea, bd_s]
    refine ⟨_, _, _, _, _, _, _, _, _, _, _, rfl, em, ?_⟩
    cases hbf : bf σ none (lvs 8 (σ 3) (sMk σ)) with
    | none =>
      rw [hbf] at Bm Bc
      obtain ⟨rfl, rfl⟩ := Bm
      obtain ⟨rfl, rfl⟩ := Bc
      exact hB
    | some z =>
      obtain ⟨u, L⟩ := z
      rw [hbf] at Bm Bc
      obtain ⟨a1, a2⟩ := Bm
      obtain ⟨a3, a4⟩ := Bc
      exact ⟨σ 3, h6, a3, Or.inl a1, fun k hk => by rw [a4 k hk, a2 k hk]⟩
  · unfold f_X11_bestOrder f_X12_bestOrder
    rw [if_neg (by rw [nI_le' (by omega) (by omega)]; exact h6), gi_n (by omega) (by omega), nI_cl (by omega), mk_in (by omega), if_neg (by rw [nI_le' (by omega) (by omega)]; exact h6), ref11, ref12, bd_s, bd_s]
    exact ⟨_, _, _, _, _, _, _, _, _, _, _, rfl, rfl, hB⟩
end BF
