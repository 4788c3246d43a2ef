section BM
variable {c kp : Nat → Int32} {σ τ : Nat → Nat} {fu : Nat} {oe row : Nat → Int32} {om : Int32}
/-- all but the order and the place is alike -/
def Sim (σ τ : Nat → Nat) : Prop := ∀ i, i ≠ 8 → ¬ (67 ≤ i ∧ i < 67 + σ 3) → τ i = σ i
theorem sim_O {L : List Nat} : Sim σ (sO σ L) := fun i h8 h => sO_o h h8
/-- the order written so far -/
def sOj (τ : Nat → Nat) (L : List Nat) (j : Nat) : Nat → Nat := fun i => if 67 ≤ i ∧ i < 67 + j then el L (i - 67) else τ i
theorem sOj_s {L : List Nat} {j : Nat} : up (sOj τ L j) (67 + j) (el L j) = sOj τ L (j + 1) := by
  funext i
  rw [up_if]
  unfold sOj
  by_cases e : i = 67 + j
  · subst e
    rw [if_pos rfl, if_pos (by omega), show 67 + j - 67 = j by omega]
  · rw [if_neg e]
    by_cases h : 67 ≤ i ∧ i < 67 + j
    · rw [if_pos h, if_pos (by omega)]
    · rw [if_neg h, if_neg (by omega)]
theorem sOj_0 {L : List Nat} : sOj τ L 0 = τ := by
  funext i
  exact if_neg (by omega)
theorem sOj_O {L : List Nat} (h : Sim σ τ) (h3 : σ 3 ≤ 8) : up (sOj τ L (σ 3)) 8 0 = sO σ L := by
  funext i
  rw [up_if]
  unfold sOj sO
  by_cases e : i = 8
  · subst e; rw [if_pos rfl, if_neg (by omega), if_pos rfl]
  · rw [if_neg e, if_neg e]
    by_cases h2 : 67 ≤ i ∧ i < 67 + σ 3
    · rw [if_pos h2, if_pos h2]
    · rw [if_neg h2, if_neg h2, h i e h2]
def obI (b : Option (Nat × List Nat)) : Int32 := oI (b.map Prod.fst)
theorem m_leaf {L : List Nat} {b : Option (Nat × List Nat)} {om0 : Int32} {oe0 : Nat → Int32} {REC : Int32 → Int32 → Int32 → Int32 → (Nat → Int32) → (Nat → Int32) → (Nat → Int32) → (Nat → Int32) → Option (Int32 × Int32 × (Nat → Int32) × (Nat → Int32) × (Nat → Int32) × (Nat → Int32))} (w : WF σ) (hs : Sim σ τ) (hL : L ∈ lvs 8 (σ 3) (sMk σ)) (hrow : ∀ i, i < σ 3 → row i = nI (el L i)) (hb : BO b) (hB : BR (σ 3) om0 oe0 b om oe) (hfu : 2000 < fu) :
    ∃ om' oe' kp', f_X12_orders_6 fu REC fu (nI (σ 3)) (nI 0) om (obI b) (mk c τ) kp oe row = some (om', obI (bs σ b L), mk c (sO σ L), kp', oe', row) ∧ BR (σ 3) om0 oe0 (bs σ b L) om' oe' ∧ BO (bs σ b L) := by
  have h3 := w.c3
  have h1 := w.c1
  have wL := sMk_wf w hL
  have h8 := (lvs_in hL).2.1
  have hp := Nat.pow_pos (n := σ 1) (show 0 < 2 by decide)
  have e1 : sO σ L 1 = σ 1 := sO_o (by omega) (by omega)
  have hall : f_X12_allSecrets (mk c (sO σ L)) = some (nI (2 ^ σ 1 - 1)) := by
    have := m_allSecrets (c := c) wL
    rw [e1] at this
    exact this
  have htw : f_X12_turnWith fu (-1 : Int32) (nI (2 ^ σ 1 - 1)) (nI 99) (mk c (sO σ L)) kp = some (oI (sV σ L), mk c (sO σ L), mk kp (sO σ L)) := by
    have := m_turnWithA (c := c) (kp := kp) (fu := fu) (S := 2 ^ σ 1 - 1) (most := 99) wL (by rw [e1]; omega) (by omega) (by omega)
    rw [sO_sSee] at this
    exact this
  have hcopy : ∀ (v : Int32) (u6 u7 : Nat → Int32), ∃ oe', f_X12_orders_85 fu REC fu (nI (σ 3)) (nI 0) (nI (σ 3)) v u6 u7 oe row = some (nI (σ 3), v, u6, u7, oe', row) ∧ ∀ k, k < σ 3 → oe' k = nI (el L k) := by
    intro v u6 u7
    refine ⟨mkF oe (σ 3) (el L), ?_, fun k hk => mkF_in hk⟩
    refine Eq.trans (congrArg (fun z => f_X12_orders_85 fu REC fu (nI (σ 3)) (nI 0) (nI (σ 3)) v u6 u7 z row) (mkF_n0 (f := el L)).symm) ?_
    refine loop_p (fun q j => f_X12_orders_85 fu REC q (nI (σ 3)) (nI j) (nI (σ 3)) v u6 u7 (mkF oe j (el L)) row) (σ 3) _ ?_ ?_ (σ 3) 0 fu (by omega) (by omega)
    · intro q j hj
      have := hrow j hj
      simp (disch := omega) only [f_X12_orders_85, nI_le', if_neg, gi_n, nI_cl, lt_, nI_add, this, mkF_grow]
    · intro q
      simp (disch := omega) only [f_X12_orders_85, nI_le', if_pos]
  have hloop : ∀ X, (∀ q, f_X12_orders_6 fu REC (q + 1) (nI (σ 3)) (nI (σ 3)) om (obI b) (mk c (sOj τ L (σ 3))) kp oe row = X) → f_X12_orders_6 fu REC fu (nI (σ 3)) (nI 0) om (obI b) (mk c τ) kp oe row = X := by
    intro X hX
    refine Eq.trans (congrArg (fun z => f_X12_orders_6 fu REC fu (nI (σ 3)) (nI 0) om (obI b) (mk c z) kp oe row) (sOj_0 (L := L)).symm) ?_
    refine loop_p (fun q j => f_X12_orders_6 fu REC q (nI (σ 3)) (nI j) om (obI b) (mk c (sOj τ L j)) kp oe row) (σ 3) _ ?_ hX (σ 3) 0 fu (by omega) (by omega)
    intro q j hj
    have := hrow j hj
    simp (disch := omega) only [f_X12_orders_6, nI_le', if_neg, gi_n, nI_cl, lt_, nI_add, this, mk_up, sOj_s]
  have hmk : upd (mk c (sOj τ L (σ 3))) 8 (nI 0) = mk c (sO σ L) := by
    rw [mk_up (by omega), sOj_O hs h3]
  cases hv : sV σ L with
  | none =>
    have eb : bs σ b L = b := by unfold bs; rw [hv]
    rw [eb]
    refine ⟨om, oe, mk kp (sO σ L), hloop _ (fun q => ?_), hB, hb⟩
    simp (disch := omega) only [f_X12_orders_6, nI_le', if_pos, gi_n, nI_cl, hmk, hall, bd_s, htw, hv]
    rw [if_pos (by rw [oI_nlt0]; trivial)]
  | some v =>
    have hv9 := sV_le hv
    obtain ⟨oe', hc, hce⟩ := hcopy (nI v) (mk c (sO σ L)) (mk kp (sO σ L))
    have h0 : ¬ oI (some v) < 0 := by rw [oI_s, nI_lt0 (by omega)]; exact id
    cases b with
    | none =>
      have eb : bs σ none L = some (v, L) := by unfold bs; rw [hv]
      rw [eb]
      refine ⟨nI (σ 3), oe', mk kp (sO σ L), hloop _ (fun q => ?_), ⟨rfl, hce⟩, fun u L h => by cases h; exact hv9⟩
      simp (disch := omega) only [f_X12_orders_6, nI_le', if_pos, gi_n, nI_cl, hmk, hall, bd_s, htw, hv]
      rw [if_neg h0, if_pos (show obI none < 0 by decide)]
      exact hc
    | some q =>
      obtain ⟨u, L0⟩ := q
      have hu := hb u L0 rfl
      have hou : obI (some (u, L0)) = nI u := rfl
      have hn : ¬ obI (some (u, L0)) < 0 := by rw [hou, nI_lt0 (by omega)]; exact id
      by_cases cvu : v < u
      · have eb : bs σ (some (u, L0)) L = some (v, L) := by unfold bs; rw [hv]; exact if_pos cvu
        rw [eb]
        refine ⟨nI (σ 3), oe', mk kp (sO σ L), hloop _ (fun q => ?_), ⟨rfl, hce⟩, fun u L h => by cases h; exact hv9⟩
        simp (disch := omega) only [f_X12_orders_6, nI_le', if_pos, gi_n, nI_cl, hmk, hall, bd_s, htw, hv]
        rw [if_neg h0, if_neg hn, if_pos (show oI (some v) < obI (some (u, L0)) from (by rw [hou, oI_s, nI_lt' (by omega) (by omega)]; exact cvu))]
        exact hc
      · have eb : bs σ (some (u, L0)) L = some (u, L0) := by unfold bs; rw [hv]; exact if_neg cvu
        rw [eb]
        refine ⟨om, oe, mk kp (sO σ L), hloop _ (fun q => ?_), hB, hb⟩
        simp (disch := omega) only [f_X12_orders_6, nI_le', if_pos, gi_n, nI_cl, hmk, hall, bd_s, htw, hv]
        rw [if_neg h0, if_neg hn, if_neg (show ¬ oI (some v) < obI (some (u, L0)) from (by rw [hou, oI_s, nI_lt' (by omega) (by omega)]; exact cvu))]
end BM
