/-! ROUNDS: the class's way through them, place by place -/
def cL (fu : Nat) (Z : Nat → Int32) (sz : Nat) (R : Nat → Nat → Int32) (N q i d m : Nat) (f lo v : Int32) (ll : Nat → Int32) (σ : Nat → Nat) :=
  f_X3_run_49 fu (nI (σ 0)) (nI (σ 1)) (nI (σ 2)) (nI (sB σ)) (nI (sR σ)) (aL (R 4) σ) (aR (R 5) σ) (nI sz) (R 0) (R 1) (R 2) (R 3) (aP (R 6) σ) (nI (σ 3)) (aX (R 7) σ) N (Z 0) (Z 1) (nI q) (nI i) (nI d) (nI m) (Z 2) (Z 3) f lo v ll (nI (σ 8)) (nI (σ 6)) (nI (σ 7)) (nI (σ 4)) (nI (σ 5)) (aD (R 8) σ) (aK (R 9) σ) (aM (R 10) σ) (aO (R 11) σ) (aS (R 12) σ) (aU (R 13) σ)
def tR (fu p m : Nat) (f v : Int32) (ll : Nat → Int32) (sz : Nat) (R : Nat → Nat → Int32) (σ : Nat → Nat) := tS fu p m f v ll sz (R 0) (R 1) (R 2) (R 3) (R 4) (R 5) (R 6) (R 7) (R 8) (R 9) (R 10) (R 11) (R 12) (R 13) σ
def oR (q m : Nat) (f v : Int32) (ll : Nat → Int32) (R : Nat → Nat → Int32) (σ : Nat → Nat) := oS q m f v ll (R 8) (R 9) (R 10) (R 11) (R 12) (R 13) σ
section CL
variable {fu sz q p i d m m' N b k : Nat} {Z : Nat → Int32} {R : Nat → Nat → Int32} {f lo v f' v' : Int32} {ll ll' c : Nat → Int32} {σ σ' : Nat → Nat}
theorem cL_step (w : WF σ) (hC : sameC σ σ') (hi : i < 1000000) (hq : p < sz) (hz : sz ≤ 60) (hd : d < 300) (hc : R 0 p ≠ nI 22) (h : tR fu p m f v ll sz R σ = some (oR q m' f' v' ll' R σ')) : cL fu Z sz R (N + 1) p i d m f lo v ll σ = cL fu Z sz R N q (i + 1) (d + 1) m' f' lo v' ll' σ' := by
  unfold tR tS at h
  unfold cL
  simp (disch := omega) only [f_X3_run_49, nI_le', nI_lt', if_neg, if_pos, gi_n, nI_cl, lt_, nI_add]
  rw [h, bd_s]
  unfold oR oS
  simp only
  rw [hC.e0, hC.e1, hC.e2, hC.e3, sB_C hC, sR_C hC, aL_C hC w, aR_C hC w, aP_C hC w, aX_C hC]
theorem cL_over (hi : i < 1000000) (hq : p < sz) (hz : sz ≤ 60) (hc : R 0 p ≠ nI 22) : cL fu Z sz R (N + 1) p i 300 m f lo v ll σ = cL fu Z sz R N sz (i + 1) 300 m f (nI 1) v ll σ := by
  unfold cL
  simp (disch := omega) only [f_X3_run_49, nI_le', nI_lt', if_neg, gi_n, nI_cl, lt_, nI_add]
theorem cL_endW (hi : i < 1000000) (hq : p < sz) (hz : sz ≤ 60) (hb : b < 60) (hc : R 0 p = nI 22) (hm : R 1 p = nI b) (hl : R 0 b ≠ nI 21) : cL fu Z sz R (N + 1) p i d m f lo v ll σ = cL fu Z sz R N (p + 1) (i + 1) d m f lo v ll σ := by
  unfold cL
  simp (disch := omega) only [f_X3_run_49, nI_le', if_neg, gi_n, nI_cl, lt_, nI_add]
  rw [if_pos hc]
  unfold f_X3_behindEnd
  simp (disch := omega) only [gi_n, nI_cl, lt_, hm, nI_lt0, if_false, nI_add]
  rw [if_neg hl, bd_s]
theorem cL_endL (hi : i < 1000000) (hq : p < sz) (hz : sz ≤ 60) (hb : b < 60) (hc : R 0 p = nI 22) (hm : R 1 p = nI b) (hl : R 0 b = nI 21) (hk : k < 1000) (hll : ll b = nI (k + 1)) : cL fu Z sz R (N + 1) p i d m f lo v ll σ = cL fu Z sz R N (if k = 0 then p + 1 else b + 1) (i + 1) d m f lo v (upd ll b (nI k)) σ := by
  have hu : upd ll b (nI k) b = nI k := if_pos rfl
  unfold cL
  simp (disch := omega) only [f_X3_run_49, nI_le', if_neg, gi_n, nI_cl, lt_, nI_add]
  rw [if_pos hc]
  unfold f_X3_behindEnd
  simp (disch := omega) only [gi_n, nI_cl, lt_, hm, nI_lt0, if_false, nI_add]
  rw [if_pos hl]
  simp (disch := omega) only [gi_n, nI_cl, lt_, hll, pk_sub, Nat.add_sub_cancel, hu, nI_le0, nI_add]
  by_cases e : k = 0
  · rw [if_pos e, if_pos e, bd_s]
  · rw [if_neg e, if_neg e, bd_s]
theorem cL_fin (hz : sz ≤ 60) : cL fu Z sz R (N + 1) sz i d m f lo v ll σ = some (nI d, nI m, nI (σ 4) - Z 0, nI (σ 5) - Z 1, f, lo, v, ll, nI (σ 8), nI (σ 6), nI (σ 7), nI (σ 4), nI (σ 5), aD (R 8) σ, aK (R 9) σ, aM (R 10) σ, aO (R 11) σ, aS (R 12) σ, aU (R 13) σ) := by
  unfold cL
  simp (disch := omega) only [f_X3_run_49, nI_le', if_pos]
  unfold f_X3_run_143
  simp only [lt_]
  split <;> rfl
/-! a test, a loop, the stop: the class -/
theorem m_isSo {s T a b' : Nat} (w : WF σ) (hs : s < 30) (ha0 : c (113 + 9 * s + 1) = nI a) (hT : c (113 + 9 * s + 6) = nI T) (h : (T = 0 ∧ a < σ 0 ∧ b' < σ 1 ∧ c (113 + 9 * s + 2) = nI b') ∨ (T = 1 ∧ a < σ 2) ∨ (T = 2 ∧ a < σ 1)) (hfu : 1000 < fu) :
    f_X12_isSo fu (nI (113 + 9 * s)) (mk c σ) = some (bI (sTest σ T a b')) := by
  have h0 := w.c0
  have h1 := w.c1
  have h2 := w.c2
  unfold f_X12_isSo sTest
  rcases h with ⟨rfl, ha, hb, hcb⟩ | ⟨rfl, ha⟩ | ⟨rfl, ha⟩
  · have hk := w.kn (k := a) (by omega)
    simp (disch := omega) only [gi_n, nI_cl, mk_hi, mk_in, nI_add, lt_, hT, ha0, hcb, nI_eq0, if_true, has12, bd_s, gd_bI]
  · have hr := w.ro (p := a) (by omega)
    have hf : sFree σ a ≤ 60 := by unfold sFree; omega
    simp (disch := omega) only [gi_n, nI_cl, mk_hi, nI_add, lt_, hT, ha0, nI_eq0, nI_eq', if_true, if_false, if_neg, if_pos, m_freeOf w, bd_s]
    by_cases e : sFree σ a = 0
    · rw [if_pos e, decide_eq_true e]; rfl
    · rw [if_neg e, decide_eq_false e]; rfl
  · have hk : sAllK σ < 64 := sAllKn_lt w _
    simp (disch := omega) only [gi_n, nI_cl, mk_hi, nI_add, lt_, hT, ha0, nI_eq0, nI_eq', if_neg, m_knownToAll w, bd_s, has12, gd_bI]
theorem c_holds {T a b' : Nat} {co on ot kn us rm : Nat → Int32} (w : WF σ) (hp : p < 60) (ha0 : on p = nI a) (h : (T = 0 ∧ co p = nI 8 ∧ a < σ 0 ∧ b' < σ 1 ∧ ot p = nI b') ∨ (T = 1 ∧ co p = nI 19 ∧ a < σ 2) ∨ (T = 2 ∧ co p = nI 20 ∧ a < σ 1)) (hfu : 1000 < fu) :
    f_X3_holds fu (nI p) (nI (σ 0)) (nI (sB σ)) (aR rm σ) co on ot (aK kn σ) (aU us σ) = some (bI (sTest σ T a b')) := by
  have h0 := w.c0
  have h1 := w.c1
  have h2 := w.c2
  unfold f_X3_holds sTest
  rcases h with ⟨rfl, hc, ha, hb, hcb⟩ | ⟨rfl, hc, ha⟩ | ⟨rfl, hc, ha⟩
  · have hk := w.kn (k := a) (by omega)
    simp (disch := omega) only [gi_n, nI_cl, aK_in, lt_, hc, ha0, hcb, nI_eq', if_true, if_pos, has7, bd_s, gd_bI]
  · have hr := w.ro (p := a) (by omega)
    have hf : sFree σ a ≤ 60 := by unfold sFree; omega
    simp (disch := omega) only [gi_n, nI_cl, lt_, hc, ha0, nI_eq0, nI_eq', if_true, if_false, if_neg, if_pos, c_freeOf w, bd_s]
    by_cases e : sFree σ a = 0
    · rw [if_pos e, decide_eq_true e]; rfl
    · rw [if_neg e, decide_eq_false e]; rfl
  · have hs := sSee_lt w
    have hpw : 2 ^ a < 2 ^ 6 := pw_lt (by omega)
    simp (disch := omega) only [gi_n, nI_cl, lt_, hc, ha0, nI_eq', if_neg, c_seeing w, nI_1shl, bd_s, c_isReached w, gd_bI, all_see w ha]
theorem t_when {T a b' mm : Nat} (w : WF σ) (hp : p < 60) (hm : m < 1000) (hmm : mm < 60) (hmp : R 1 p = nI mm) (ha0 : R 2 p = nI a) (h : (T = 0 ∧ R 0 p = nI 8 ∧ a < σ 0 ∧ b' < σ 1 ∧ R 3 p = nI b') ∨ (T = 1 ∧ R 0 p = nI 19 ∧ a < σ 2) ∨ (T = 2 ∧ R 0 p = nI 20 ∧ a < σ 1)) (hfu : 1000 < fu) :
    tR fu p m f v ll sz R σ = some (oR (if sTest σ T a b' = true then p + 1 else mm + 1) m f v ll R σ) := by
  have hh := c_holds (p := p) (co := R 0) (on := R 2) (ot := R 3) (kn := R 9) (us := R 13) (rm := R 5) w hp ha0 h hfu
  have ht : ∀ x, sTest σ T a b' = x → f_X3_holds fu (nI p) (nI (σ 0)) (nI (sB σ)) (aR (R 5) σ) (R 0) (R 2) (R 3) (aK (R 9) σ) (aU (R 13) σ) = some (bI x) := fun x hx => by rw [hh, hx]
  unfold tR tS f_X3_takeStep
  cases hb : sTest σ T a b'
  · rcases h with ⟨-, hc, -, -, -⟩ | ⟨-, hc, -⟩ | ⟨-, hc, -⟩ <;>
    · simp (disch := omega) only [gi_n, nI_cl, lt_, hc, nI_eq', if_true, if_false, if_neg, if_pos, ht _ hb, bd_s, bI_0, hmp, nI_add]
      unfold f_X3_takeStep_153
      exact ts_274 (dn := true) hm
  · rcases h with ⟨-, hc, -, -, -⟩ | ⟨-, hc, -⟩ | ⟨-, hc, -⟩ <;>
    · simp (disch := omega) only [gi_n, nI_cl, lt_, hc, nI_eq', if_true, if_false, if_neg, if_pos, ht _ hb, bd_s, bI_0, Bool.true_eq_false, if_false, hmp, nI_add]
      unfold f_X3_takeStep_153
      exact ts_274 (dn := true) hm
theorem t_loop {a : Nat} (hp : p < 60) (hm : m < 1000) (ha0 : R 2 p = nI a) (hc : R 0 p = nI 21) : tR fu p m f v ll sz R σ = some (oR (p + 1) m f v (upd ll p (nI a)) R σ) := by
  unfold tR tS f_X3_takeStep
  simp (disch := omega) only [gi_n, nI_cl, lt_, hc, ha0, nI_eq', if_true, if_false, if_neg, if_pos, nI_add]
  exact ts_274 (dn := true) hm
theorem t_stop (hp : p < 60) (hm : m < 1000) (hc : R 0 p = nI 23) : tR fu p m f v ll sz R σ = some (oR sz m f v ll R σ) := by
  unfold tR tS f_X3_takeStep
  simp (disch := omega) only [gi_n, nI_cl, lt_, hc, nI_eq', if_true, if_false, if_neg, if_pos, nI_add]
  exact ts_274 (dn := true) hm
end CL
