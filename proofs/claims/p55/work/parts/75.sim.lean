/-! ROUNDS: both sides go alike through what is laid out alike -/
abbrev MF : Type := Int32 → Int32 → Int32 → Int32 → Int32 → Int32 → Int32 → (Nat → Int32) → Option (Int32 × Int32 × Int32 × Int32 × Int32 × Int32 × Int32 × (Nat → Int32))
/-- from place p to place q: the reference's part M and the class's way -/
def SimP (fu : Nat) (Z : Nat → Int32) (sz : Nat) (R : Nat → Nat → Int32) (c : Nat → Int32) (T0 : Nat) (ρ : Nat → Nat) (M : MF) (p q : Nat) : Prop :=
  ∀ (σ : Nat → Nat) (v : Int32) (d m : Nat) (f : Int32) (ll : Nat → Int32) (i : Nat), WF σ → sameC ρ σ → σ 4 ≤ 9999 → T0 ≤ σ 4 → d ≤ 300 → m ≤ d → i ≤ 100 * d →
    ∃ (ov lo d' m' at' I : Nat) (f' v' : Int32) (ll' : Nat → Int32) (σ' : Nat → Nat),
      M (nI 0) v (nI d) (nI m) (nI (σ 4 - T0)) f (nI 0) (mk c σ) = some (nI ov, v', nI d', nI m', nI (σ' 4 - T0), f', nI lo, mk c σ') ∧
      (WF σ' ∧ sameC ρ σ' ∧ σ' 4 ≤ 9999 ∧ T0 ≤ σ' 4) ∧ (d ≤ d' ∧ d' ≤ 300 ∧ m' ≤ d' ∧ I + 100 * d ≤ 100 * d' + ov ∧ ov ≤ 1 ∧ lo ≤ 1) ∧ (ov = 0 → lo = 0 ∧ at' = q) ∧ (ov = 1 → at' = sz) ∧ (∀ j, j < p → ll' j = ll j) ∧
      ∀ N, cL fu Z sz R (N + I) p i d m f (nI 0) v ll σ = cL fu Z sz R N at' (i + I) d' m' f' (nI lo) v' ll' σ'
section SIM
variable {fu sz p q s T0 : Nat} {Z : Nat → Int32} {R : Nat → Nat → Int32} {c : Nat → Int32} {ρ : Nat → Nat} {REC : Int32 → Int32 → MF}
def mOne (fu : Nat) (REC : Int32 → Int32 → MF) (s : Nat) : MF := fun ov v d m t f lo c => f_X12_doOne fu REC (nI s) ov v d m t f lo c
/-- the 300 are done -/
theorem sim_300 {σ : Nat → Nat} {v f : Int32} {m i : Nat} {ll : Nat → Int32} (w : WF σ) (hC : sameC ρ σ) (h4 : σ 4 ≤ 9999) (hT : T0 ≤ σ 4) (hm : m ≤ 300) (hi : i ≤ 30000) (hp : p < sz) (hz : sz ≤ 60) (hc : R 0 p ≠ nI 22) :
    ∃ (ov lo d' m' at' I : Nat) (f' v' : Int32) (ll' : Nat → Int32) (σ' : Nat → Nat),
      mOne fu REC s (nI 0) v (nI 300) (nI m) (nI (σ 4 - T0)) f (nI 0) (mk c σ) = some (nI ov, v', nI d', nI m', nI (σ' 4 - T0), f', nI lo, mk c σ') ∧
      (WF σ' ∧ sameC ρ σ' ∧ σ' 4 ≤ 9999 ∧ T0 ≤ σ' 4) ∧ (300 ≤ d' ∧ d' ≤ 300 ∧ m' ≤ d' ∧ I + 100 * 300 ≤ 100 * d' + ov ∧ ov ≤ 1 ∧ lo ≤ 1) ∧ (ov = 0 → lo = 0 ∧ at' = q) ∧ (ov = 1 → at' = sz) ∧ (∀ j, j < p → ll' j = ll j) ∧
      ∀ N, cL fu Z sz R (N + I) p i 300 m f (nI 0) v ll σ = cL fu Z sz R N at' (i + I) d' m' f' (nI lo) v' ll' σ' := by
  refine ⟨1, 1, 300, m, sz, 1, f, v, ll, σ, ?_, ⟨w, hC, h4, hT⟩, ⟨by omega, by omega, hm, by omega, by omega, by omega⟩, fun h => (by omega), fun _ => rfl, fun _ _ => rfl, fun N => cL_over (by omega) hp hz hc⟩
  unfold mOne f_X12_doOne
  rw [if_pos rfl]
theorem stS_22 {co on ot : Nat → Int32} {n0 n2 : Nat} (h : stS c co on ot n0 n2 s p) : co p ≠ nI 22 := by
  rcases h with ⟨-, h, -⟩ | ⟨-, h, -⟩ | ⟨-, h, -⟩ | ⟨-, h, -⟩ | ⟨-, h, -⟩ | ⟨-, h⟩ <;> (rw [h]; decide)
theorem stS_kind {co on ot : Nat → Int32} {n0 n2 : Nat} (h : stS c co on ot n0 n2 s p) : ∃ k, k < 6 ∧ c (113 + 9 * s) = nI k := by
  rcases h with ⟨h, -⟩ | ⟨h, -⟩ | ⟨h, -⟩ | ⟨h, -⟩ | ⟨h, -⟩ | ⟨h, -⟩
  · exact ⟨0, by omega, h⟩
  · exact ⟨1, by omega, h⟩
  · exact ⟨2, by omega, h⟩
  · exact ⟨3, by omega, h⟩
  · exact ⟨4, by omega, h⟩
  · exact ⟨5, by omega, h⟩
theorem sim_S (hs : s < 30) (hp : p < sz) (hz : sz ≤ 60) (h : stS c (R 0) (R 2) (R 3) (ρ 0) (ρ 2) s p) (hfu : 1000 < fu) : SimP fu Z sz R c T0 ρ (mOne fu REC s) p (p + 1) := by
  intro σ v d m f ll i w hC h4 hT hd hm hi
  by_cases e : d = 300
  · subst e
    exact sim_300 w hC h4 hT hm hi hp hz (stS_22 h)
  · obtain ⟨k, hk, hck⟩ := stS_kind h
    have h' := h
    rw [← hC.e0, ← hC.e2] at h'
    obtain ⟨dn, f', v', σ', h1, w', hC', h5, h6, h7⟩ := st_do (c := c) (T0 := T0) (f := f) (v := v) (ll := ll) (sz := sz) (m := m) (ma := R 1) (lt := R 4) (rm := R 5) (sp := R 6) (xx := R 7) (dt := R 8) (kn := R 9) (md := R 10) (od := R 11) (sd := R 12) (us := R 13) w h4 hT hs (by omega) (by omega) h' hfu
    refine ⟨0, 0, d + 1, m + (if dn = true then 0 else 1), p + 1, 1, f', v', ll, σ', ?_, ⟨w', hC.tr hC', h6, by omega⟩, ⟨by omega, by omega, by split <;> omega, by omega, by omega, by omega⟩, fun _ => ⟨rfl, rfl⟩, fun h => (by omega), fun _ _ => rfl, fun N => cL_step w hC' (by omega) hp hz (by omega) (stS_22 h) h7⟩
    unfold mOne f_X12_doOne
    simp (disch := omega) only [nI_eq', if_true, if_false, if_neg, lt_, pk_mul, nI_add, gi_n, nI_cl, mk_hi, hck, nI_le', h1, bd_s, bI_0]
    cases dn
    · rw [if_pos rfl]; rfl
    · rw [if_neg (by decide)]; rfl
theorem sim_X (hs : s < 30) (hp : p < sz) (hz : sz ≤ 60) (h : stX c (R 0) s p) : SimP fu Z sz R c T0 ρ (mOne fu REC s) p (p + 1) := by
  intro σ v d m f ll i w hC h4 hT hd hm hi
  obtain ⟨hk, hc⟩ := h
  have h22 : R 0 p ≠ nI 22 := by rw [hc]; decide
  by_cases e : d = 300
  · subst e
    exact sim_300 w hC h4 hT hm hi hp hz h22
  · refine ⟨1, 0, d + 1, m, sz, 1, f, v, ll, σ, ?_, ⟨w, hC, h4, hT⟩, ⟨by omega, by omega, by omega, by omega, by omega, by omega⟩, fun h => (by omega), fun _ => rfl, fun _ _ => rfl, fun N => cL_step w sameC.rf (by omega) hp hz (by omega) h22 (t_stop (by omega) (by omega) hc)⟩
    unfold mOne f_X12_doOne
    simp (disch := omega) only [nI_eq', if_true, if_false, if_neg, if_pos, lt_, pk_mul, nI_add, gi_n, nI_cl, mk_hi, hk, nI_le']
    unfold f_X12_doOne_110
    simp (disch := omega) only [nI_eq', if_neg, nI_le']
theorem sim_W {mm e : Nat} (hs : s < 30) (hp : p < mm) (hmm : mm < sz) (hz : sz ≤ 60) (h : stW c (R 0) (R 2) (R 3) (ρ 0) (ρ 1) (ρ 2) s p) (he : c (113 + 9 * s + 8) = nI e) (hm1 : R 0 mm = nI 22) (hm2 : R 1 mm = nI p) (hm3 : R 1 p = nI mm) (hb : SimP fu Z sz R c T0 ρ (REC (nI (s + 1)) (nI e)) (p + 1) mm) (hfu : 1000 < fu) :
    SimP fu Z sz R c T0 ρ (mOne fu REC s) p (mm + 1) := by
  intro σ v d m f ll i w hC h4 hT hd hm hi
  obtain ⟨hk, T, a, b, hcT, hca, hoa, hcase⟩ := h
  have h22 : R 0 p ≠ nI 22 := by rcases hcase with ⟨-, h, -⟩ | ⟨-, h, -⟩ | ⟨-, h, -⟩ <;> (rw [h]; decide)
  have h21 : R 0 p ≠ nI 21 := by rcases hcase with ⟨-, h, -⟩ | ⟨-, h, -⟩ | ⟨-, h, -⟩ <;> (rw [h]; decide)
  by_cases e3 : d = 300
  · subst e3
    exact sim_300 w hC h4 hT hm hi (by omega) hz h22
  · rw [← hC.e0, ← hC.e1, ← hC.e2] at hcase
    have hso := m_isSo (c := c) (b' := b) (fu := fu) w hs hca hcT (by
      rcases hcase with ⟨a1, a2, a3, a4, a5, a6⟩ | ⟨a1, a2, a3⟩ | ⟨a1, a2, a3⟩
      · exact Or.inl ⟨a1, a3, a4, a5⟩
      · exact Or.inr (Or.inl ⟨a1, a3⟩)
      · exact Or.inr (Or.inr ⟨a1, a3⟩)) hfu
    have htw := t_when (m := m) (f := f) (v := v) (ll := ll) (sz := sz) (b' := b) (fu := fu) w (by omega : p < 60) (by omega) (by omega : mm < 60) hm3 hoa (by
      rcases hcase with ⟨a1, a2, a3, a4, a5, a6⟩ | ⟨a1, a2, a3⟩ | ⟨a1, a2, a3⟩
      · exact Or.inl ⟨a1, a2, a3, a4, a6⟩
      · exact Or.inr (Or.inl ⟨a1, a2, a3⟩)
      · exact Or.inr (Or.inr ⟨a1, a2, a3⟩)) hfu
    have key : ∀ x, sTest σ T a b = x → mOne fu REC s (nI 0) v (nI d) (nI m) (nI (σ 4 - T0)) f (nI 0) (mk c σ) = (if x = true then REC (nI (s + 1)) (nI e) (nI 0) v (nI (d + 1)) (nI m) (nI (σ 4 - T0)) f (nI 0) (mk c σ) else some (nI 0, v, nI (d + 1), nI m, nI (σ 4 - T0), f, nI 0, mk c σ)) := by
      intro x hx
      unfold mOne f_X12_doOne
      simp (disch := omega) only [nI_eq', if_true, if_false, if_neg, if_pos, lt_, pk_mul, nI_add, gi_n, nI_cl, mk_hi, hk, nI_le', hso, hx, bd_s, bI_0, he]
      cases x
      · rw [if_pos rfl, if_neg (by decide)]
        unfold f_X12_doOne_110
        simp (disch := omega) only [nI_eq', if_neg, nI_le', if_pos]
      · rw [if_neg (show ¬ (true = false) by decide), if_pos rfl]
        unfold bd_
        cases REC (nI (s + 1)) (nI e) (nI 0) v (nI (d + 1)) (nI m) (nI (σ 4 - T0)) f (nI 0) (mk c σ) <;> rfl
    cases hx : sTest σ T a b
    · rw [hx, if_neg (by decide)] at htw
      have := key _ hx
      rw [if_neg (by decide)] at this
      exact ⟨0, 0, d + 1, m, mm + 1, 1, f, v, ll, σ, this, ⟨w, hC, h4, hT⟩, ⟨by omega, by omega, by omega, by omega, by omega, by omega⟩, fun _ => ⟨rfl, rfl⟩, fun h => (by omega), fun _ _ => rfl, fun N => cL_step w sameC.rf (by omega) (by omega) hz (by omega) h22 htw⟩
    · rw [hx, if_pos rfl] at htw
      have hk2 := key _ hx
      rw [if_pos rfl] at hk2
      obtain ⟨ov, lo, d', m', at', I, f', v', ll', σ', h1, ⟨h2, h3, h5, h6⟩, ⟨h7, h8, h9, h10, h11, h12⟩, h13, h14, h15, h16⟩ := hb σ v (d + 1) m f ll (i + 1) w hC h4 hT (by omega) (by omega) (by omega)
      rw [h1] at hk2
      have st : ∀ N, cL fu Z sz R (N + 1) p i d m f (nI 0) v ll σ = cL fu Z sz R N (p + 1) (i + 1) (d + 1) m f (nI 0) v ll σ := fun N => cL_step w sameC.rf (by omega) (by omega) hz (by omega) h22 htw
      by_cases e0 : ov = 0
      · subst e0
        obtain ⟨rfl, rfl⟩ := h13 rfl
        refine ⟨0, 0, d', m', at' + 1, I + 2, f', v', ll', σ', hk2, ⟨h2, h3, h5, h6⟩, ⟨by omega, h8, h9, by omega, by omega, by omega⟩, fun _ => ⟨rfl, rfl⟩, fun h => (by omega), fun j hj => h15 j (by omega), fun N => ?_⟩
        rw [show N + (I + 2) = (N + 1 + I) + 1 by omega, st, h16, cL_endW (by omega) hmm hz (by omega : p < 60) hm1 hm2 h21]
        congr 1; omega
      · have e1 : ov = 1 := by omega
        subst e1
        have := h14 rfl
        subst this
        refine ⟨1, lo, d', m', at', I + 1, f', v', ll', σ', hk2, ⟨h2, h3, h5, h6⟩, ⟨by omega, h8, h9, by omega, by omega, h12⟩, fun h => (by omega), fun _ => rfl, fun j hj => h15 j (by omega), fun N => ?_⟩
        rw [show N + (I + 1) = (N + I) + 1 by omega, st, h16]
        congr 1; omega
end SIM
