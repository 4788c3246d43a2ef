section BD
variable {σ : Nat → Nat} {fu : Nat} {dt kn md od xx sd us lt rm sp : Nat → Int32} {q1 q2 q3 q4 q5 q6 : Int32} {q7 q8 q9 q10 q11 q12 q13 : Nat → Int32} {bm0 : Int32} {be0 tr : Nat → Int32}
theorem c_seekBest (w : WF σ) (h6 : σ 3 ≤ 6) (hfu : 2000 < fu) : ∃ bm' be' o, f_X0_seekBest fu bm0 be0 q1 q2 q3 q4 q5 q6 q7 q8 q9 q10 q11 q12 q13 tr (nI (σ 0)) (nI (σ 1)) (nI (σ 2)) (nI (sB σ)) (nI (sR σ)) (aL lt σ) (nI (σ 3)) (nI (σ 8)) (nI (σ 6)) (nI (σ 7)) (nI (σ 4)) (nI (σ 5)) (aD dt σ) (aK kn σ) (aM md σ) (aO od σ) (aX xx σ) (aS sd σ) (aU us σ) (aR rm σ) (aP sp σ)
      = some (rtB (bf σ none (lvs 8 (σ 3) (sMk σ))), bm', be', o) ∧ BR (σ 3) bm0 be0 (bf σ none (lvs 8 (σ 3) (sMk σ))) bm' be' := by
  have h3 := w.c3
  obtain ⟨r, e, hr⟩ := lvs_run (sMk_lt w) (sMk_sz w) h6
  have hlen := lvs_len (sMk_lt w) (sMk_sz w)
  have hf := fct_720 (σ 3) (by omega)
  have hz := asc_rev (sMk_lt w)
  rw [sMk_sz w] at hz
  have hL : ∀ L, L ∈ asc (sMk σ) :: r → WF (sO σ L) ∧ ∀ i, i < σ 3 → el L i < 8 := fun L hm => by
    rw [← e] at hm
    exact ⟨sMk_wf w hm, fun i hi => ((lvs_in hm).2.1 i hi).2⟩
  rw [e, List.length_cons] at hlen
  unfold f_X0_seekBest
  rw [if_pos (by rw [nI_le' (by omega) (by omega)]; exact h6), c_sortInto w (by omega), bd_s, e]
  exact c_best w h6 hfu r (asc (sMk σ)) _ 0 fu none bm0 be0 q1 q2 q3 q4 q5 q6 q7 q8 q9 q10 q11 q12 q13 hr hz hL (by omega) (by omega) (fun u L h => by cases h) ⟨rfl, rfl⟩
end BD
