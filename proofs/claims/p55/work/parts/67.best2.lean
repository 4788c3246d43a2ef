section BC
variable {σ : Nat → Nat} {fu : Nat} {dt kn md od xx sd us lt rm sp : Nat → Int32}
theorem c_probeO {A : List Nat} {d k0 m0 g s0 u0 : Nat → Int32} {C S most : Nat} (w : WF σ) (wA : WF (sO σ A)) (hC : C < 2147483648) (hS : S < 1073741824) (hm : most < 100000) (hfu : 200 + most < fu) :
    ∃ o, f_X0_probeTill fu (nI C) (nI S) (nI most) (nI (σ 3)) (nI 0) (nI (σ 6)) (nI (σ 7)) (nI (σ 4)) (nI (σ 5)) (aD d σ) (aK k0 σ) (aM m0 σ) (mkF g (σ 3) (el A)) (aS s0 σ) (aU u0 σ) (nI (σ 1)) (nI (σ 2)) (nI (sB σ)) (nI (sR σ)) (aL lt σ) (aR rm σ) (aP sp σ)
      = some (oI (sTill (sO σ A) C S most), o) := by
  have h3 := w.c3
  obtain ⟨o, h⟩ := c_probeTill (dt := d) (kn := k0) (md := m0) (od := g) (sd := s0) (us := u0) (lt := lt) (rm := rm) (sp := sp) (fu := fu) wA hC hS hm hfu
  refine ⟨o, ?_⟩
  rw [← h]
  have f1 : ∀ i, i < 67 → i ≠ 8 → sO σ A i = σ i := fun i hi h8 => sO_o (by omega) h8
  rw [f1 3 (by omega) (by omega), f1 6 (by omega) (by omega), f1 7 (by omega) (by omega), f1 4 (by omega) (by omega), f1 5 (by omega) (by omega), f1 1 (by omega) (by omega), f1 2 (by omega) (by omega), sO_8, sO_sB, sO_sR]
  have e1 : aD d (sO σ A) = aD d σ := mkF_congr (fun i hi => sO_o (by omega) (by omega))
  have e2 : aK k0 (sO σ A) = aK k0 σ := mkF_congr (fun i hi => sO_o (by omega) (by omega))
  have e3 : aM m0 (sO σ A) = aM m0 σ := mkF_congr (fun i hi => sO_o (by omega) (by omega))
  have e4 : aS s0 (sO σ A) = aS s0 σ := mkF_congr (fun i hi => sO_stg w)
  have e5 : aU u0 (sO σ A) = aU u0 σ := mkF_congr (fun i hi => sO_pr h3)
  have e6 : aL lt (sO σ A) = aL lt σ := by
    have h1 := w.c1
    unfold aL
    rw [f1 1 (by omega) (by omega)]
    exact mkF_congr (fun i hi => f1 _ (by omega) (by omega))
  have e7 : aR rm (sO σ A) = aR rm σ := by
    have h2 := w.c2
    unfold aR
    rw [f1 2 (by omega) (by omega)]
    exact mkF_congr (fun i hi => f1 _ (by omega) (by omega))
  have e8 : aP sp (sO σ A) = aP sp σ := by
    have h0 := w.c0
    unfold aP
    rw [f1 0 (by omega) (by omega)]
    exact mkF_congr (fun i hi => f1 _ (by omega) (by omega))
  have e9 : aO g (sO σ A) = mkF g (σ 3) (el A) := by
    unfold aO
    rw [f1 3 (by omega) (by omega)]
    exact mkF_congr (fun i hi => sO_i hi)
  rw [e1, e2, e3, e4, e5, e6, e7, e8, e9]
def rtB (b : Option (Nat × List Nat)) : Int32 := oI (b.map Prod.fst)
def BO (b : Option (Nat × List Nat)) : Prop := ∀ u L, b = some (u, L) → u ≤ 99
theorem bo_cb {b : Option (Nat × List Nat)} (h : BO b) : cb b ≤ 100 := by
  cases b with
  | none => exact Nat.le_refl 100
  | some q => obtain ⟨u, L⟩ := q; exact Nat.le_succ_of_le (h u L rfl)
theorem c_bestEnd {q1 q2 q3 q4 q5 q6 : Int32} {q7 q8 q9 q10 q11 q12 q13 : Nat → Int32} {t : Nat → Int32} {q j : Nat} {b : Option (Nat × List Nat)} {z4 bm : Int32} {be : Nat → Int32} (hb : BO b) (hz : z4 = 0 ∨ cb b = 0) (hj : j ≤ 720) :
    ∃ o, f_X0_seekBest_33 fu (nI (σ 0)) (nI (σ 1)) (nI (σ 2)) (nI (sB σ)) (nI (sR σ)) (aL lt σ) (nI (σ 3)) (nI (σ 8)) (nI (σ 6)) (nI (σ 7)) (nI (σ 4)) (nI (σ 5)) (aD dt σ) (aK kn σ) (aM md σ) (aO od σ) (aX xx σ) (aS sd σ) (aU us σ) (aR rm σ) (aP sp σ) (q + 1) (nI (σ 3)) (nI (cb b)) z4 (nI j) bm be q1 q2 q3 q4 q5 q6 q7 q8 q9 q10 q11 q12 q13 t = some (rtB b, bm, be, o) := by
  have hc := bo_cb hb
  have hret : ∀ {α : Type} (o : α), (if nI (cb b) ≤ nI 99 then some (nI (cb b), bm, be, o) else some ((-1 : Int32), bm, be, o)) = some (rtB b, bm, be, o) := by
    intro α o
    cases b with
    | none =>
      rw [if_neg (show ¬ nI (cb none) ≤ nI 99 by decide)]
      rfl
    | some q =>
      obtain ⟨u, L⟩ := q
      have hu := hb u L rfl
      rw [if_pos (show nI (cb (some (u, L))) ≤ nI 99 from (by rw [show cb (some (u, L)) = u from rfl, nI_le' (by omega) (by omega)]; exact hu))]
      rfl
  refine ⟨(q1, q2, q3, q4, q5, q6, q7, q8, q9, q10, q11, q12, q13, t), ?_⟩
  simp only [f_X0_seekBest_33]
  by_cases c1 : nI 720 ≤ nI j
  · rw [if_pos c1]; exact hret _
  · rw [if_neg c1]
    by_cases c2 : z4 = 0
    · rw [if_pos c2]; exact hret _
    · rw [if_neg c2]
      rcases hz with e | e
      · exact absurd e c2
      · rw [if_pos (show nI (cb b) ≤ 0 from (by rw [e]; decide))]; exact hret _
theorem c_bestStep (w : WF σ) (h6 : σ 3 ≤ 6) (hfu : 2000 < fu) {bm0 : Int32} {be0 tr : Nat → Int32} {q1 q2 q3 q4 q5 q6 : Int32} {q7 q8 q9 q10 q11 q12 q13 : Nat → Int32} {A : List Nat} {q j : Nat} {b : Option (Nat × List Nat)} {bm : Int32} {be : Nat → Int32} (wA : WF (sO σ A)) (hb : BO b) (h0 : 0 < cb b) (hj : j < 720) (hB : BR (σ 3) bm0 be0 b bm be) {r44 : Int32} {t' : Nat → Int32} (hp : f_X0_permute fu (nI (σ 3)) (mkF tr (σ 3) (el A)) = some (r44, t')) :
    ∃ bm1 be1 p1 p2 p3 p4 p5 p6 p7 p8 p9 p10 p11 p12 p13, f_X0_seekBest_33 fu (nI (σ 0)) (nI (σ 1)) (nI (σ 2)) (nI (sB σ)) (nI (sR σ)) (aL lt σ) (nI (σ 3)) (nI (σ 8)) (nI (σ 6)) (nI (σ 7)) (nI (σ 4)) (nI (σ 5)) (aD dt σ) (aK kn σ) (aM md σ) (aO od σ) (aX xx σ) (aS sd σ) (aU us σ) (aR rm σ) (aP sp σ) (q + 1) (nI (σ 3)) (nI (cb b)) (nI 1) (nI j) bm be q1 q2 q3 q4 q5 q6 q7 q8 q9 q10 q11 q12 q13 (mkF tr (σ 3) (el A))
      = f_X0_seekBest_33 fu (nI (σ 0)) (nI (σ 1)) (nI (σ 2)) (nI (sB σ)) (nI (sR σ)) (aL lt σ) (nI (σ 3)) (nI (σ 8)) (nI (σ 6)) (nI (σ 7)) (nI (σ 4)) (nI (σ 5)) (aD dt σ) (aK kn σ) (aM md σ) (aO od σ) (aX xx σ) (aS sd σ) (aU us σ) (aR rm σ) (aP sp σ) q (nI (σ 3)) (nI (cb (bs σ b A))) r44 (nI (j + 1)) bm1 be1 p1 p2 p3 p4 p5 p6 p7 p8 p9 p10 p11 p12 p13 t' ∧ BR (σ 3) bm0 be0 (bs σ b A) bm1 be1 ∧ BO (bs σ b A) := by
  have h1 := w.c1
  have h3 := w.c3
  have hA : 2 ^ σ 1 ≤ 64 := pw64 h1
  have hcb := bo_cb hb
  have hsee := sSee_lt w
  have hoa : ∀ (g : Nat → Int32) (x : Int32), f_X7_orderAnew 8 (nI (σ 3)) x (aO g σ) (mkF tr (σ 3) (el A)) = some (nI 0, mkF g (σ 3) (el A)) := by
    intro g x
    unfold f_X7_orderAnew
    rw [gc_0 (by omega) (by omega) (by omega), show (nI (σ 3)).toNatClampNeg = σ 3 from nI_cl (by omega), show (nI 0).toNatClampNeg = 0 from rfl, cpy_mk]
    unfold aO
    rw [mkF_mkF]
  obtain ⟨o, hpr⟩ := c_probeO (lt := lt) (rm := rm) (sp := sp) (fu := fu) (A := A) (d := q7) (k0 := q8) (m0 := q9) (g := va_cpy od q10 0 0 8) (s0 := q12) (u0 := q13) (C := sSee σ) (S := 2 ^ σ 1 - 1) (most := cb b - 1) w wA (by omega) (by omega) (by omega) (by omega)
  obtain ⟨o1, o2, o3, o4, o5, o6, o7, o8⟩ := o
  simp only [f_X0_seekBest_33]
  rw [if_neg (by rw [nI_le' (by omega) (by omega)]; omega), if_neg (show ¬ nI 1 = 0 by decide), if_neg (by rw [nI_le0 (by omega)]; omega), c_copyState w, bd_s]
  simp only
  rw [hoa, bd_s]
  simp only
  rw [c_seeing w, bd_s, c_allSecrets w, bd_s, pk_sub (by omega), hpr, bd_s]
  simp only
  rcases bs_c (σ := σ) (L := A) h0 hcb with ⟨e, eb⟩ | ⟨v, e, hv, hv9, eb⟩
  · rw [e, if_pos (show oI none = (-1 : Int32) from rfl), hp, bd_s, eb]
    simp only [lt_, nI_add]
    exact ⟨_, _, _, _, _, _, _, _, _, _, _, _, _, _, _, rfl, hB, hb⟩
  · rw [e, if_neg (by rw [oI_s, nI_ne_m1 (by omega)]; exact id), gc_0 (by omega) (by omega) (by omega), hp, bd_s, eb]
    simp only [lt_, nI_add]
    refine ⟨_, _, _, _, _, _, _, _, _, _, _, _, _, _, _, rfl, ⟨rfl, fun k hk => ?_⟩, fun u L h => by cases h; exact hv9⟩
    rw [show (nI (σ 3)).toNatClampNeg = σ 3 from nI_cl (by omega), show (nI 0).toNatClampNeg = 0 from rfl, cpy_mk, mkF_in hk]
theorem c_best (w : WF σ) (h6 : σ 3 ≤ 6) (hfu : 2000 < fu) {bm0 : Int32} {be0 tr : Nat → Int32} : ∀ (r : List (List Nat)) (A Z : List Nat) (j q : Nat) (b : Option (Nat × List Nat)) (bm : Int32) (be : Nat → Int32) (q1 q2 q3 q4 q5 q6 : Int32) (q7 q8 q9 q10 q11 q12 q13 : Nat → Int32),
    Run (σ 3) A r Z → nxt (σ 3) (el Z) = none → (∀ L, L ∈ A :: r → WF (sO σ L) ∧ ∀ i, i < σ 3 → el L i < 8) → j + r.length + 1 ≤ 720 → r.length + 1 < q → BO b → BR (σ 3) bm0 be0 b bm be →
    ∃ bm' be' o, f_X0_seekBest_33 fu (nI (σ 0)) (nI (σ 1)) (nI (σ 2)) (nI (sB σ)) (nI (sR σ)) (aL lt σ) (nI (σ 3)) (nI (σ 8)) (nI (σ 6)) (nI (σ 7)) (nI (σ 4)) (nI (σ 5)) (aD dt σ) (aK kn σ) (aM md σ) (aO od σ) (aX xx σ) (aS sd σ) (aU us σ) (aR rm σ) (aP sp σ) q (nI (σ 3)) (nI (cb b)) (nI 1) (nI j) bm be q1 q2 q3 q4 q5 q6 q7 q8 q9 q10 q11 q12 q13 (mkF tr (σ 3) (el A))
      = some (rtB (bf σ b (A :: r)), bm', be', o) ∧ BR (σ 3) bm0 be0 (bf σ b (A :: r)) bm' be' := by
  have h3 := w.c3
  intro r
  induction r with
  | nil =>
    intro A Z j q b bm be q1 q2 q3 q4 q5 q6 q7 q8 q9 q10 q11 q12 q13 hr hz hL hj hq hb hB
    obtain ⟨q, rfl⟩ : ∃ z, q = z + 2 := ⟨q - 2, by rw [List.length_nil] at hq; omega⟩
    rw [List.length_nil] at hj
    have hAZ : A = Z := hr
    subst hAZ
    obtain ⟨wA, h8⟩ := hL A (List.mem_cons_self ..)
    by_cases h0 : cb b = 0
    · rw [bf_0 h0]
      obtain ⟨o, e⟩ := c_bestEnd (σ := σ) (fu := fu) (q := q + 1) (z4 := nI 1) (j := j) (bm := bm) (be := be) (t := mkF tr (σ 3) (el A)) hb (Or.inr h0) (by omega)
      exact ⟨bm, be, o, e, hB⟩
    · have hp := c_permute (b := tr) (fu := fu) (n := σ 3) (p := el A) h3 h8 (by omega)
      rw [hz] at hp
      obtain ⟨bm1, be1, p1, p2, p3, p4, p5, p6, p7, p8, p9, p10, p11, p12, p13, e, hB1, hb1⟩ := c_bestStep (q := q + 1) (j := j) w h6 hfu wA hb (by omega) (by omega) hB hp
      obtain ⟨o, e2⟩ := c_bestEnd (σ := σ) (fu := fu) (q := q) (z4 := nI 0) (j := j + 1) (bm := bm1) (be := be1) hb1 (Or.inl rfl) (by omega)
      exact ⟨bm1, be1, o, e.trans e2, hB1⟩
  | cons B r ih =>
    intro A Z j q b bm be q1 q2 q3 q4 q5 q6 q7 q8 q9 q10 q11 q12 q13 hr hz hL hj hq hb hB
    obtain ⟨q, rfl⟩ : ∃ z, q = z + 1 := ⟨q - 1, by omega⟩
    rw [List.length_cons] at hj hq
    obtain ⟨hnx, hr2⟩ := hr
    obtain ⟨wA, h8⟩ := hL A (List.mem_cons_self ..)
    by_cases h0 : cb b = 0
    · rw [bf_0 h0]
      obtain ⟨o, e⟩ := c_bestEnd (σ := σ) (fu := fu) (q := q) (z4 := nI 1) (j := j) (bm := bm) (be := be) (t := mkF tr (σ 3) (el A)) hb (Or.inr h0) (by omega)
      exact ⟨bm, be, o, e, hB⟩
    · have hp := c_permute (b := tr) (fu := fu) (n := σ 3) (p := el A) h3 h8 (by omega)
      obtain ⟨g, hg, hge⟩ := hnx
      rw [hg] at hp
      simp only at hp
      rw [mkF_congr hge] at hp
      obtain ⟨bm1, be1, p1, p2, p3, p4, p5, p6, p7, p8, p9, p10, p11, p12, p13, e, hB1, hb1⟩ := c_bestStep (q := q) (j := j) w h6 hfu wA hb (by omega) (by omega) hB hp
      obtain ⟨bm', be', o, e2, hB2⟩ := ih B Z (j + 1) q (bs σ b A) bm1 be1 p1 p2 p3 p4 p5 p6 p7 p8 p9 p10 p11 p12 p13 hr2 hz (fun L hm => hL L (List.mem_cons_of_mem _ hm)) (by omega) (by omega) hb1 hB1
      exact ⟨bm', be', o, e.trans e2, hB2⟩
end BC
