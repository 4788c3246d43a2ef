/-! ROUNDS: a loop; STEPS one behind the other; what is laid out alike -/
section SIM2
variable {fu sz p q s T0 : Nat} {Z : Nat → Int32} {R : Nat → Nat → Int32} {c : Nat → Int32} {ρ : Nat → Nat} {REC : Int32 → Int32 → MF}
theorem sim_L1 {mm e a : Nat} (hs : s < 30) (hp : p < mm) (hmm : mm < sz) (hz : sz ≤ 60) (hca : c (113 + 9 * s + 1) = nI a) (ha : a ≤ 99) (hc : R 0 p = nI 21) (he : c (113 + 9 * s + 8) = nI e) (hm1 : R 0 mm = nI 22) (hm2 : R 1 mm = nI p) (hb : SimP fu Z sz R c T0 ρ (REC (nI (s + 1)) (nI e)) (p + 1) mm) :
    ∀ (r k n : Nat) (σ : Nat → Nat) (v : Int32) (d m : Nat) (f : Int32) (ll : Nat → Int32) (i : Nat), k + (r + 1) = a → r + 1 < n → WF σ → sameC ρ σ → σ 4 ≤ 9999 → T0 ≤ σ 4 → d ≤ 300 → m ≤ d → i + 99 ≤ 100 * d + k → ll p = nI (r + 1) →
      ∃ (ov lo d' m' at' I : Nat) (f' v' : Int32) (ll' : Nat → Int32) (σ' : Nat → Nat),
        f_X12_doOne_119 fu REC n (nI s) (nI (113 + 9 * s)) (nI k) (nI 0) v (nI d) (nI m) (nI (σ 4 - T0)) f (nI 0) (mk c σ) = some (nI ov, v', nI d', nI m', nI (σ' 4 - T0), f', nI lo, mk c σ') ∧
        (WF σ' ∧ sameC ρ σ' ∧ σ' 4 ≤ 9999 ∧ T0 ≤ σ' 4) ∧ (d ≤ d' ∧ d' ≤ 300 ∧ m' ≤ d' ∧ I + 100 * d ≤ 100 * d' + ov + (r + 1) ∧ ov ≤ 1 ∧ lo ≤ 1) ∧ (ov = 0 → lo = 0 ∧ at' = mm + 1) ∧ (ov = 1 → at' = sz) ∧ (∀ j, j < p → ll' j = ll j) ∧
        ∀ N, cL fu Z sz R (N + I) (p + 1) i d m f (nI 0) v ll σ = cL fu Z sz R N at' (i + I) d' m' f' (nI lo) v' ll' σ' := by
  intro r
  induction r with
  | zero =>
    intro k n σ v d m f ll i hk hn w hC h4 hT hd hm hi hll
    obtain ⟨n, rfl⟩ : ∃ x, n = x + 2 := ⟨n - 2, by omega⟩
    obtain ⟨ov, lo, d', m', at', I, f', v', ll', σ', h1, ⟨h2, h3, h5, h6⟩, ⟨h7, h8, h9, h10, h11, h12⟩, h13, h14, h15, h16⟩ := hb σ v d m f ll i w hC h4 hT hd hm (by omega)
    have hM : f_X12_doOne_119 fu REC (n + 2) (nI s) (nI (113 + 9 * s)) (nI k) (nI 0) v (nI d) (nI m) (nI (σ 4 - T0)) f (nI 0) (mk c σ) = some (nI ov, v', nI d', nI m', nI (σ' 4 - T0), f', nI lo, mk c σ') := by
      unfold f_X12_doOne_119
      simp (disch := omega) only [gi_n, nI_cl, nI_add, mk_hi, hca, he, nI_le', if_neg, nI_eq0, if_true, if_pos, h1, bd_s, lt_]
      unfold f_X12_doOne_119
      simp (disch := omega) only [gi_n, nI_cl, nI_add, mk_hi, hca, nI_le', if_pos]
    by_cases e0 : ov = 0
    · subst e0
      obtain ⟨rfl, rfl⟩ := h13 rfl
      have hl : ll' p = nI (0 + 1) := by rw [h15 p (by omega)]; exact hll
      refine ⟨0, 0, d', m', at' + 1, I + 1, f', v', upd ll' p (nI 0), σ', hM, ⟨h2, h3, h5, h6⟩, ⟨h7, h8, h9, by omega, by omega, by omega⟩, fun _ => ⟨rfl, rfl⟩, fun h => (by omega), fun j hj => ?_, fun N => ?_⟩
      · rw [show upd ll' p (nI 0) j = ll' j from if_neg (by omega)]
        exact h15 j (by omega)
      · rw [show N + (I + 1) = (N + 1) + I by omega, h16, cL_endL (by omega) hmm hz (by omega : p < 60) hm1 hm2 hc (by omega) hl, if_pos rfl]
        congr 1
    · have e1 : ov = 1 := by omega
      subst e1
      have := h14 rfl
      subst this
      exact ⟨1, lo, d', m', at', I, f', v', ll', σ', hM, ⟨h2, h3, h5, h6⟩, ⟨h7, h8, h9, by omega, by omega, h12⟩, fun h => (by omega), fun _ => rfl, fun j hj => h15 j (by omega), h16⟩
  | succ r ih =>
    intro k n σ v d m f ll i hk hn w hC h4 hT hd hm hi hll
    obtain ⟨n, rfl⟩ : ∃ x, n = x + 1 := ⟨n - 1, by omega⟩
    obtain ⟨ov, lo, d', m', at', I, f', v', ll', σ', h1, ⟨h2, h3, h5, h6⟩, ⟨h7, h8, h9, h10, h11, h12⟩, h13, h14, h15, h16⟩ := hb σ v d m f ll i w hC h4 hT hd hm (by omega)
    have hM : f_X12_doOne_119 fu REC (n + 1) (nI s) (nI (113 + 9 * s)) (nI k) (nI 0) v (nI d) (nI m) (nI (σ 4 - T0)) f (nI 0) (mk c σ) = f_X12_doOne_119 fu REC n (nI s) (nI (113 + 9 * s)) (nI (k + 1)) (nI ov) v' (nI d') (nI m') (nI (σ' 4 - T0)) f' (nI lo) (mk c σ') := by
      conv => lhs; unfold f_X12_doOne_119
      simp (disch := omega) only [gi_n, nI_cl, nI_add, mk_hi, hca, he, nI_le', if_neg, nI_eq0, if_true, if_pos, h1, bd_s, lt_]
    rw [hM]
    by_cases e0 : ov = 0
    · subst e0
      obtain ⟨rfl, rfl⟩ := h13 rfl
      have hl : ll' p = nI (r + 1 + 1) := by rw [h15 p (by omega)]; exact hll
      obtain ⟨ov2, lo2, d2, m2, at2, I2, f2, v2, ll2, σ2, g1, ⟨g2, g3, g5, g6⟩, ⟨g7, g8, g9, g10, g11, g12⟩, g13, g14, g15, g16⟩ := ih (k + 1) n σ' v' d' m' f' (upd ll' p (nI (r + 1))) (i + I + 1) (by omega) (by omega) h2 h3 h5 h6 h8 h9 (by omega) (if_pos rfl)
      refine ⟨ov2, lo2, d2, m2, at2, I + (1 + I2), f2, v2, ll2, σ2, g1, ⟨g2, g3, g5, g6⟩, ⟨by omega, g8, g9, by omega, g11, g12⟩, g13, g14, fun j hj => ?_, fun N => ?_⟩
      · rw [g15 j hj, show upd ll' p (nI (r + 1)) j = ll' j from if_neg (by omega)]
        exact h15 j (by omega)
      · rw [show N + (I + (1 + I2)) = (N + I2 + 1) + I by omega, h16, cL_endL (by omega) hmm hz (by omega : p < 60) hm1 hm2 hc (by omega) hl, if_neg (by omega), g16]
        congr 1; omega
    · have e1 : ov = 1 := by omega
      subst e1
      have := h14 rfl
      subst this
      refine ⟨1, lo, d', m', at', I, f', v', ll', σ', ?_, ⟨h2, h3, h5, h6⟩, ⟨h7, h8, h9, by omega, by omega, h12⟩, fun h => (by omega), fun _ => rfl, fun j hj => h15 j (by omega), h16⟩
      obtain ⟨n, rfl⟩ : ∃ x, n = x + 1 := ⟨n - 1, by omega⟩
      unfold f_X12_doOne_119
      simp (disch := omega) only [gi_n, nI_cl, nI_add, mk_hi, hca, nI_le', nI_eq0, if_true, if_false, if_neg]
theorem sim_L {mm e : Nat} (hs : s < 30) (hp : p < mm) (hmm : mm < sz) (hz : sz ≤ 60) (h : stL c (R 0) (R 2) s p) (he : c (113 + 9 * s + 8) = nI e) (hm1 : R 0 mm = nI 22) (hm2 : R 1 mm = nI p) (hb : SimP fu Z sz R c T0 ρ (REC (nI (s + 1)) (nI e)) (p + 1) mm) (hfu : 1000 < fu) :
    SimP fu Z sz R c T0 ρ (mOne fu REC s) p (mm + 1) := by
  intro σ v d m f ll i w hC h4 hT hd hm hi
  obtain ⟨hk, hc, a, ha1, ha2, hca, hoa⟩ := h
  have h22 : R 0 p ≠ nI 22 := by rw [hc]; decide
  by_cases e3 : d = 300
  · subst e3
    exact sim_300 w hC h4 hT hm hi (by omega) hz h22
  · obtain ⟨ov, lo, d', m', at', I, f', v', ll', σ', h1, h2, ⟨h7, h8, h9, h10, h11, h12⟩, h13, h14, h15, h16⟩ := sim_L1 hs hp hmm hz hca ha2 hc he hm1 hm2 hb (a - 1) 0 fu σ v (d + 1) m f (upd ll p (nI a)) (i + 1) (by omega) (by omega) w hC h4 hT (by omega) (by omega) (by omega) (by rw [show a - 1 + 1 = a by omega]; exact if_pos rfl)
    refine ⟨ov, lo, d', m', at', I + 1, f', v', ll', σ', ?_, h2, ⟨by omega, h8, h9, by omega, h11, h12⟩, h13, h14, fun j hj => by rw [h15 j hj]; exact if_neg (by omega), fun N => ?_⟩
    · unfold mOne f_X12_doOne
      simp (disch := omega) only [nI_eq', if_true, if_false, if_neg, if_pos, lt_, pk_mul, nI_add, gi_n, nI_cl, mk_hi, hk, nI_le']
      unfold f_X12_doOne_110
      rw [if_pos rfl]
      exact h1
    · rw [show N + (I + 1) = (N + I) + 1 by omega, cL_step w sameC.rf (by omega) (by omega) hz (by omega) h22 (t_loop (by omega) (by omega) hoa hc), h16]
      congr 1; omega
def mAll (fu : Nat) (REC : Int32 → Int32 → MF) (n s e : Nat) : MF := fun ov v d m t f lo c => f_X12_doAll_2 fu REC n (nI e) (nI s) ov v d m t f lo c
theorem sim_nil {n : Nat} : SimP fu Z sz R c T0 ρ (mAll fu REC (n + 1) s s) p p := by
  intro σ v d m f ll i w hC h4 hT hd hm hi
  refine ⟨0, 0, d, m, p, 0, f, v, ll, σ, ?_, ⟨w, hC, h4, hT⟩, ⟨by omega, by omega, by omega, by omega, by omega, by omega⟩, fun _ => ⟨rfl, rfl⟩, fun h => (by omega), fun _ _ => rfl, fun N => rfl⟩
  unfold mAll f_X12_doAll_2
  rw [if_pos (Int32.le_refl _)]
theorem sim_cons {n s' e p' : Nat} (hs : s < e) (he : e ≤ 30) (hpp : p ≤ p') (hc : c (113 + 9 * s + 8) = nI s') (h1 : SimP fu Z sz R c T0 ρ (mOne fu REC s) p p') (h2 : SimP fu Z sz R c T0 ρ (mAll fu REC (n + 1) s' e) p' q) : SimP fu Z sz R c T0 ρ (mAll fu REC (n + 2) s e) p q := by
  intro σ v d m f ll i w hC h4 hT hd hm hi
  obtain ⟨ov, lo, d', m', at', I, f', v', ll', σ', g1, ⟨g2, g3, g5, g6⟩, ⟨g7, g8, g9, g10, g11, g12⟩, g13, g14, g15, g16⟩ := h1 σ v d m f ll i w hC h4 hT hd hm hi
  have hM : mAll fu REC (n + 2) s e (nI 0) v (nI d) (nI m) (nI (σ 4 - T0)) f (nI 0) (mk c σ) = mAll fu REC (n + 1) s' e (nI ov) v' (nI d') (nI m') (nI (σ' 4 - T0)) f' (nI lo) (mk c σ') := by
    unfold mOne at g1
    unfold mAll
    conv => lhs; unfold f_X12_doAll_2
    simp (disch := omega) only [nI_le', if_neg, nI_eq0, if_true, if_pos, g1, bd_s, pk_mul, nI_add, gi_n, nI_cl, mk_hi, hc, lt_]
  rw [hM]
  by_cases e0 : ov = 0
  · subst e0
    obtain ⟨rfl, rfl⟩ := g13 rfl
    obtain ⟨ov2, lo2, d2, m2, at2, I2, f2, v2, ll2, σ2, k1, k2, ⟨k7, k8, k9, k10, k11, k12⟩, k13, k14, k15, k16⟩ := h2 σ' v' d' m' f' ll' (i + I) g2 g3 g5 g6 g8 g9 (by omega)
    refine ⟨ov2, lo2, d2, m2, at2, I + I2, f2, v2, ll2, σ2, k1, k2, ⟨by omega, k8, k9, by omega, k11, k12⟩, k13, k14, fun j hj => by rw [k15 j (by omega)]; exact g15 j hj, fun N => ?_⟩
    rw [show N + (I + I2) = (N + I2) + I by omega, g16, k16]
    congr 1; omega
  · have e1 : ov = 1 := by omega
    subst e1
    have := g14 rfl
    subst this
    refine ⟨1, lo, d', m', at', I, f', v', ll', σ', ?_, ⟨g2, g3, g5, g6⟩, ⟨g7, g8, g9, g10, g11, g12⟩, fun h => (by omega), fun _ => rfl, g15, g16⟩
    unfold mAll f_X12_doAll_2
    simp (disch := omega) only [nI_eq0, if_neg]
    split <;> rfl
end SIM2
/-! what is laid out alike: the reference's STEPS from s to e, the class's places from p to q -/
abbrev LF : Type := Nat → Nat → Nat → Nat → Prop
def LayL (R : Nat → Nat → Int32) (c : Nat → Int32) (n0 n1 n2 : Nat) (In : LF) : Nat → LF
  | 0 => fun s e p q => s = e ∧ p = q
  | n + 1 => fun s e p q => s < e ∧
    ((c (113 + 9 * s + 8) = nI (s + 1) ∧ (stS c (R 0) (R 2) (R 3) n0 n2 s p ∨ stX c (R 0) s p) ∧ LayL R c n0 n1 n2 In n (s + 1) e (p + 1) q) ∨
     ∃ e' mm, c (113 + 9 * s + 8) = nI e' ∧ (stW c (R 0) (R 2) (R 3) n0 n1 n2 s p ∨ stL c (R 0) (R 2) s p) ∧ R 0 mm = nI 22 ∧ R 1 mm = nI p ∧ R 1 p = nI mm ∧ In (s + 1) e' (p + 1) mm ∧ LayL R c n0 n1 n2 In n e' e (mm + 1) q)
def Lay (R : Nat → Nat → Int32) (c : Nat → Int32) (n0 n1 n2 : Nat) : Nat → Nat → LF
  | 0, n => LayL R c n0 n1 n2 (fun _ _ _ _ => False) n
  | D + 1, n => LayL R c n0 n1 n2 (fun s e p q => ∃ k, Lay R c n0 n1 n2 D k s e p q) n
section LAY
variable {R : Nat → Nat → Int32} {c : Nat → Int32} {n0 n1 n2 : Nat}
theorem LayL_le {In : LF} (hI : ∀ s e p q, In s e p q → s ≤ e ∧ p ≤ q) : ∀ {n s e p q : Nat}, LayL R c n0 n1 n2 In n s e p q → s + n ≤ e ∧ p + n ≤ q
  | 0, s, e, p, q, h => by obtain ⟨rfl, rfl⟩ := h; omega
  | n + 1, s, e, p, q, h => by
    obtain ⟨h1, h | h⟩ := h
    · obtain ⟨-, -, h2⟩ := h
      have := LayL_le hI h2
      omega
    · obtain ⟨e', mm, -, -, -, -, -, h2, h3⟩ := h
      have := LayL_le hI h3
      have := hI _ _ _ _ h2
      omega
theorem Lay_le : ∀ {D n s e p q : Nat}, Lay R c n0 n1 n2 D n s e p q → s + n ≤ e ∧ p + n ≤ q
  | 0, n, s, e, p, q, h => LayL_le (fun _ _ _ _ h => h.elim) h
  | D + 1, n, s, e, p, q, h => LayL_le (fun _ _ _ _ h => by obtain ⟨k, h⟩ := h; have := Lay_le h; omega) h
theorem sim_LayL {fu sz T0 : Nat} {Z : Nat → Int32} {ρ : Nat → Nat} {REC : Int32 → Int32 → MF} {In : LF} (hz : sz ≤ 60) (hfu : 1000 < fu) (hIl : ∀ s e p q, In s e p q → s ≤ e ∧ p ≤ q)
    (hI : ∀ s e p q, In s e p q → e ≤ 30 → q < sz → SimP fu Z sz R c T0 ρ (REC (nI s) (nI e)) p q) : ∀ {n s e p q : Nat}, LayL R c (ρ 0) (ρ 1) (ρ 2) In n s e p q → e ≤ 30 → q ≤ sz → SimP fu Z sz R c T0 ρ (mAll fu REC (n + 1) s e) p q
  | 0, s, e, p, q, h, he, hq => by obtain ⟨rfl, rfl⟩ := h; exact sim_nil
  | n + 1, s, e, p, q, h, he, hq => by
    obtain ⟨h1, h | h⟩ := h
    · obtain ⟨hc, h2, h3⟩ := h
      have hl := LayL_le hIl h3
      refine sim_cons h1 he (by omega) hc ?_ (sim_LayL hz hfu hIl hI h3 he hq)
      rcases h2 with h2 | h2
      · exact sim_S (by omega) (by omega) hz h2 hfu
      · exact sim_X (by omega) (by omega) hz h2
    · obtain ⟨e', mm, hc, h2, m1, m2, m3, h3, h4⟩ := h
      have hl := LayL_le hIl h4
      have hl2 := hIl _ _ _ _ h3
      have hb := hI _ _ _ _ h3 (by omega) (by omega)
      refine sim_cons h1 he (by omega) hc ?_ (sim_LayL hz hfu hIl hI h4 he hq)
      rcases h2 with h2 | h2
      · exact sim_W (by omega) (by omega) (by omega) hz h2 hc m1 m2 m3 hb hfu
      · exact sim_L (by omega) (by omega) (by omega) hz h2 hc m1 m2 hb hfu
theorem mAll_more {fu : Nat} {REC : Int32 → Int32 → MF} {s e n k : Nat} {a1 a2 a3 a4 a5 a6 a7 : Int32} {c1 : Nat → Int32} {o : Int32 × Int32 × Int32 × Int32 × Int32 × Int32 × Int32 × (Nat → Int32)} : ∀ {x y : Int32}, f_X12_doAll_2 fu REC n x y a1 a2 a3 a4 a5 a6 a7 c1 = some o → n ≤ k → f_X12_doAll_2 fu REC k x y a1 a2 a3 a4 a5 a6 a7 c1 = some o := by
  intro x y h hk
  induction n generalizing k y a1 a2 a3 a4 a5 a6 a7 c1 with
  | zero => cases h
  | succ n ih =>
    obtain ⟨k, rfl⟩ : ∃ j, k = j + 1 := ⟨k - 1, by omega⟩
    unfold f_X12_doAll_2 at h
    unfold f_X12_doAll_2
    split
    · rename_i h1; rw [if_pos h1] at h; exact h
    · rename_i h1
      rw [if_neg h1] at h
      split
      · rename_i h2
        rw [if_pos h2] at h
        obtain ⟨⟨b1, b2, b3, b4, b5, b6, b7, b8⟩, h3, h4⟩ := bd_of h
        rw [h3, bd_s]
        obtain ⟨h5, h6⟩ := gi_of h4
        show gi_ _ _ _ = _
        rw [gi_pos h5]
        exact ih h6 (by omega)
      · rename_i h2; rw [if_neg h2] at h; exact h
theorem SimP_all {fu sz T0 p q n s e : Nat} {Z : Nat → Int32} {ρ : Nat → Nat} {REC : Int32 → Int32 → MF} (hn : n ≤ fu) (h : SimP fu Z sz R c T0 ρ (mAll fu REC n s e) p q) : SimP fu Z sz R c T0 ρ (mAll fu REC fu s e) p q := by
  intro σ v d m f ll i w hC h4 hT hd hm hi
  obtain ⟨ov, lo, d', m', at', I, f', v', ll', σ', g1, g2⟩ := h σ v d m f ll i w hC h4 hT hd hm hi
  exact ⟨ov, lo, d', m', at', I, f', v', ll', σ', mAll_more (s := s) (e := e) g1 hn, g2⟩
theorem sim_Lay {fu sz T0 : Nat} {Z : Nat → Int32} {ρ : Nat → Nat} (hz : sz ≤ 60) (hfu : 1000 < fu) : ∀ {D n s e p q : Nat}, Lay R c (ρ 0) (ρ 1) (ρ 2) D n s e p q → e ≤ 30 → q ≤ sz → SimP fu Z sz R c T0 ρ (fun a1 a2 a3 a4 a5 a6 a7 => f_X12_doAll fu (D + 1) (nI s) (nI e) a1 a2 a3 a4 a5 a6 a7) p q
  | 0, n, s, e, p, q, h, he, hq => by
    have hl := Lay_le h
    exact SimP_all (REC := f_X12_doAll fu 0) (n := n + 1) (by omega) (sim_LayL hz hfu (fun _ _ _ _ h => h.elim) (fun _ _ _ _ h => h.elim) h he hq)
  | D + 1, n, s, e, p, q, h, he, hq => by
    have hl := Lay_le h
    refine SimP_all (REC := f_X12_doAll fu (D + 1)) (n := n + 1) (by omega) (sim_LayL hz hfu (fun _ _ _ _ h => by obtain ⟨k, h⟩ := h; have := Lay_le h; omega) (fun s' e' p' q' h he' hq' => ?_) h he hq)
    obtain ⟨k, h⟩ := h
    exact sim_Lay hz hfu h he' (by omega)
end LAY
