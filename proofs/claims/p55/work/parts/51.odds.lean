/-! the WARDER: CAUGHT, RISK, GAME, MIX -/
def sSkip (σ : Nat → Nat) (p : Nat) : Prop := sShut σ p = true ∨ sPr σ p = 0
def sU (σ : Nat → Nat) : Nat → Nat
  | 0 => 1
  | k + 1 => if sShut σ k = true then sU σ k else if sPr σ k = 0 then sU σ k else sU σ k * (16 - σ (61 + k))
def sA (σ : Nat → Nat) : Nat → Nat
  | 0 => 1
  | k + 1 => if sShut σ k = true then sA σ k else if sPr σ k = 0 then sA σ k else sA σ k * 16
theorem sA_pos {σ : Nat → Nat} : ∀ k, 0 < sA σ k
  | 0 => Nat.one_pos
  | k + 1 => by
    have := sA_pos (σ := σ) k
    unfold sA
    split
    · exact this
    · split
      · exact this
      · omega
theorem sA_le {σ : Nat → Nat} : ∀ k, sA σ k ≤ 16 ^ k
  | 0 => Nat.le_refl _
  | k + 1 => by
    have h := sA_le (σ := σ) k
    rw [Nat.pow_succ]
    unfold sA
    split
    · omega
    · split
      · omega
      · omega
theorem sU_le {σ : Nat → Nat} : ∀ k, sU σ k ≤ sA σ k
  | 0 => Nat.le_refl _
  | k + 1 => by
    have h := sU_le (σ := σ) k
    unfold sU sA
    split
    · exact h
    · split
      · exact h
      · exact Nat.mul_le_mul h (Nat.sub_le _ _)
theorem nI_l' {a : Nat} (h : a < 2147483648) : (nI a).toInt64 = lN a := nI_l h
theorem sA_b {σ : Nat → Nat} {k : Nat} (hk : k ≤ 6) : sA σ k ≤ 16777216 := by
  have h := sA_le (σ := σ) k
  have h2 : 16 ^ k ≤ 16 ^ 6 := Nat.pow_le_pow_right (by decide) hk
  have h3 : 16 ^ 6 = 16777216 := by decide
  omega
section OD
variable {c : Nat → Int32} {σ : Nat → Nat} {x1 x2 st st2 th : Int32} {fu : Nat} {xx us : Nat → Int32} {ab be ma mu al : Int64}
theorem m_unread (w : WF σ) (hfu : 100 < fu) : f_X12_unread fu al (mk c σ) = some (lN (sU σ (σ 2)), lN (sA σ (σ 2))) := by
  have h2 := w.c2
  unfold f_X12_unread
  refine loop_p (fun n j => f_X12_unread_9 fu (mk c σ) n (lN (sU σ j)) (nI j) (lN (sA σ j))) (σ 2) _ ?_ ?_ (σ 2) 0 fu (by omega) (by omega)
  · intro n j hj
    have hr := w.ro (p := j) (by omega)
    have hu := w.us (p := j) (by omega)
    have ho := w.od (p := j) (by omega)
    simp (disch := omega) only [f_X12_unread_9, gi_n, nI_cl, mk_in, nI_le', if_neg, m_isShut w, bd_s, bI_0, lt_, nI_add, m_pricksOn, nI_eq0, pk_sub, nI_l', lN_mul, sU, sA]
    cases hs : sShut σ j
    · rw [if_pos rfl]
      by_cases e : sPr σ j = 0
      · simp only [if_pos e, if_neg (show ¬ (false = true) by decide)]
      · simp only [if_neg e, if_neg (show ¬ (false = true) by decide)]
    · rw [if_neg (show ¬ (true = false) by decide)]
      simp only [if_true]
  · intro n
    simp (disch := omega) only [f_X12_unread_9, gi_n, nI_cl, mk_in, nI_le', if_pos]
theorem c_riskDay (w : WF σ) (hfu : 100 < fu) (K : Int32 → Int64 → Int64 → Int32 → Int64 → Int64 → Option (Int64 × Int64)) (z2 z7 : Int32) (A B : Nat) :
    f_X4_tellRisk_17 fu (nI (σ 2)) (nI (σ 7)) (aX xx σ) (aU us σ) K fu z2 (lN A) (lN B) z7 (nI 0) ab be = K z2 (lN (A * sU σ (σ 2))) (lN (B * sA σ (σ 2))) (z7 + nI 1) ab be := by
  have h2 := w.c2
  have e0 : f_X4_tellRisk_17 fu (nI (σ 2)) (nI (σ 7)) (aX xx σ) (aU us σ) K fu z2 (lN A) (lN B) z7 (nI 0) ab be = f_X4_tellRisk_17 fu (nI (σ 2)) (nI (σ 7)) (aX xx σ) (aU us σ) K fu z2 (lN (A * sU σ 0)) (lN (B * sA σ 0)) z7 (nI 0) ab be := by
    unfold sU sA
    rw [Nat.mul_one, Nat.mul_one]
  rw [e0]
  refine loop_p (fun n j => f_X4_tellRisk_17 fu (nI (σ 2)) (nI (σ 7)) (aX xx σ) (aU us σ) K n z2 (lN (A * sU σ j)) (lN (B * sA σ j)) z7 (nI j) ab be) (σ 2) _ ?_ ?_ (σ 2) 0 fu (by omega) (by omega)
  · intro n j hj
    have hr := w.ro (p := j) (by omega)
    have hu := w.us (p := j) (by omega)
    have ho := w.od (p := j) (by omega)
    simp (disch := omega) only [f_X4_tellRisk_17, gi_n, nI_cl, aU_in, aX_in, nI_le', if_neg, c_shut w, bd_s, bI_0, lt_, nI_add, nI_le0, pk_sub, nI_l', lN_mul, sU, sA]
    cases hs : sShut σ j
    · rw [if_pos rfl]
      by_cases e : sPr σ j = 0
      · simp only [if_pos e, if_neg (show ¬ (false = true) by decide)]
      · simp only [if_neg e, if_neg (show ¬ (false = true) by decide), Nat.mul_assoc]
    · rw [if_neg (show ¬ (true = false) by decide)]
      simp only [if_true]
  · intro n
    simp (disch := omega) only [f_X4_tellRisk_17, nI_le', if_pos, lt_]
/-- by so many days: none, all -/
def sDU (σ : Nat → Nat) : Nat → Nat
  | 0 => 1
  | d + 1 => sDU σ d * sU σ (σ 2)
def sDA (σ : Nat → Nat) : Nat → Nat
  | 0 => 1
  | d + 1 => sDA σ d * sA σ (σ 2)
theorem sD_ok (w : WF σ) {d : Nat} (hd : d ≤ 2) : sDU σ d ≤ sDA σ d ∧ 0 < sDA σ d ∧ sDA σ d ≤ 281474976710656 := by
  have h1 := sU_le (σ := σ) (σ 2)
  have h2 := sA_pos (σ := σ) (σ 2)
  have h3 := sA_b (σ := σ) w.c2
  have : d = 0 ∨ d = 1 ∨ d = 2 := by omega
  rcases this with rfl | rfl | rfl
  · exact ⟨Nat.le_refl _, Nat.one_pos, by show 1 ≤ 281474976710656; decide⟩
  · unfold sDU sDA sDU sDA
    rw [Nat.one_mul, Nat.one_mul]
    exact ⟨h1, h2, by omega⟩
  · unfold sDU sDA sDU sDA sDU sDA
    rw [Nat.one_mul, Nat.one_mul]
    refine ⟨Nat.mul_le_mul h1 h1, Nat.mul_pos h2 h2, ?_⟩
    have := Nat.mul_le_mul h3 h3
    omega
theorem c_tellRisk (w : WF σ) {d : Nat} (hd : d ≤ 2) (hfu : 300 < fu) : f_X4_tellRisk fu (nI d) ab be (nI (σ 2)) (nI (σ 7)) (aX xx σ) (aU us σ) = some (lN ((sDA σ d - sDU σ d) / Nat.gcd (sDA σ d - sDU σ d) (sDA σ d)), lN (sDA σ d / Nat.gcd (sDA σ d - sDU σ d) (sDA σ d))) := by
  obtain ⟨h1, h2, h3⟩ := sD_ok w hd
  unfold f_X4_tellRisk
  refine loop_p (fun n j => f_X4_tellRisk_8 fu (nI (σ 2)) (nI (σ 7)) (aX xx σ) (aU us σ) n (nI d) (lN (sDU σ j)) (lN (sDA σ j)) (nI j) ab be) d _ ?_ ?_ d 0 fu (by omega) (by omega)
  · intro n j hj
    simp (disch := omega) only [f_X4_tellRisk_8, nI_le', if_neg, c_riskDay w, nI_add, sDU, sDA]
  · intro n
    simp (disch := omega) only [f_X4_tellRisk_8, nI_le', if_pos, lN_sub, c_keep, bd_s]
theorem r_risk (w : WF σ) (hfu : 300 < fu) : ∃ r s a b al', f_X11_risk fu x1 st (nI (σ 2)) (nI (σ 7)) (aX xx σ) (aU us σ) ab be = some (r, s, a, b) ∧ f_X12_risk fu x1 st2 th ab be al (mk c σ) = some (r, s, nI 0, a, b, al') := by
  unfold f_X11_risk f_X12_risk
  rw [m_in (by omega) (by omega), bd_s]
  simp (disch := omega) only [bI_0, den11, no12, bd_s, gd_0, x_lt0, x_le]
  cases hx : inR x1 (0 : Nat) ((2 : Nat) + 1)
  · have h2 := inR_f hx
    rw [if_pos rfl]
    by_cases a : x1.toInt < 0
    · rw [if_pos a]; exact ⟨_, _, _, _, _, rfl, rfl⟩
    · rw [if_neg a, if_neg (by omega)]; exact ⟨_, _, _, _, _, rfl, rfl⟩
  · have h2 := inR_t hx
    obtain ⟨d, hd, rfl, hd2⟩ := nI_of0 (x := x1) (by omega)
    obtain ⟨h1, h2, h3⟩ := sD_ok w (d := d) (by omega)
    rw [if_neg (by omega), if_pos (by omega), if_neg (show ¬ (true = false) by decide)]
    rw [c_tellRisk w (by omega) hfu, bd_s]
    simp only [agr11, bd_s, gd_1]
    have hm : ∃ al', f_X12_risk_36 fu (mk c σ) fu (nI d) (lN 1) (lN 1) (nI 0) (nI 0) (nI 0) ab be al = some (nI 1, nI 0, nI 0, lN ((sDA σ d - sDU σ d) / Nat.gcd (sDA σ d - sDU σ d) (sDA σ d)), lN (sDA σ d / Nat.gcd (sDA σ d - sDU σ d) (sDA σ d)), al') := by
      have G : ∀ k j n (al : Int64), j + k = d → k < n → ∃ al', f_X12_risk_36 fu (mk c σ) n (nI d) (lN (sDU σ j)) (lN (sDA σ j)) (nI j) (nI 0) (nI 0) ab be al = some (nI 1, nI 0, nI 0, lN ((sDA σ d - sDU σ d) / Nat.gcd (sDA σ d - sDU σ d) (sDA σ d)), lN (sDA σ d / Nat.gcd (sDA σ d - sDU σ d) (sDA σ d)), al') := by
        intro k
        induction k with
        | zero =>
          intro j n al hj hn
          obtain ⟨n, rfl⟩ : ∃ q, n = q + 1 := ⟨n - 1, by omega⟩
          obtain rfl : j = d := by omega
          simp (disch := omega) only [f_X12_risk_36, nI_le', if_pos, lN_sub, m_frac, bd_s, gd_1]
          exact ⟨_, rfl⟩
        | succ k ih =>
          intro j n al hj hn
          obtain ⟨n, rfl⟩ : ∃ q, n = q + 1 := ⟨n - 1, by omega⟩
          simp (disch := omega) only [f_X12_risk_36, nI_le', if_neg, m_unread w, bd_s, lt_, lN_mul, nI_add]
          exact ih (j + 1) n _ (by omega) (by omega)
      exact G d 0 fu al (by omega) (by omega)
    obtain ⟨al', hm⟩ := hm
    exact ⟨_, _, _, _, al', rfl, hm⟩
theorem r_caught (w : WF σ) (hfu : 300 < fu) : ∃ r s a b al', f_X11_caught fu st (nI (σ 2)) (nI (σ 7)) (aX xx σ) (aU us σ) ab be = some (r, s, a, b) ∧ f_X12_caught fu st2 th ab be al (mk c σ) = some (r, s, nI 0, a, b, al') := by
  have h1 := sU_le (σ := σ) (σ 2)
  have h2 := sA_pos (σ := σ) (σ 2)
  have h3 := sA_b (σ := σ) w.c2
  have e1 : sDU σ 1 = sU σ (σ 2) := by unfold sDU sDU; rw [Nat.one_mul]
  have e2 : sDA σ 1 = sA σ (σ 2) := by unfold sDA sDA; rw [Nat.one_mul]
  unfold f_X11_caught f_X12_caught
  rw [c_tellRisk w (by omega) hfu, bd_s, m_unread w (by omega), bd_s, e1, e2]
  simp (disch := omega) only [agr11, bd_s, gd_1, lN_sub, m_frac]
  exact ⟨_, _, _, _, _, rfl, rfl⟩
end OD
