/-! ROUNDS: what both sides hold of them; live, mean -/
def row4 (co ma on ot : Nat → Int32) : Nat → Nat → Int32 := fun i => if i = 0 then co else if i = 1 then ma else if i = 2 then on else ot
def RoRel (c : Nat → Int32) (n0 n1 n2 : Nat) (pr st sz : Int32) (co ma on ot : Nat → Int32) : Prop :=
  ∃ z ns : Nat, z ≤ 60 ∧ ns ≤ 30 ∧ sz = nI z ∧ st = nI ns ∧ ((pr = nI 0 ∧ c 111 = nI 0) ∨ (pr = nI 1 ∧ c 111 = nI 1 ∧ c 112 = nI ns ∧ ∃ n, Lay (row4 co ma on ot) c n0 n1 n2 7 n 0 ns 0 z))
theorem LayL_congr {R R' : Nat → Nat → Int32} {c c' : Nat → Int32} {n0 n1 n2 : Nat} {In In' : LF} (hIl : ∀ s e p q, In s e p q → s ≤ e ∧ p ≤ q) (hI : ∀ s e p q, In s e p q → (∀ j, p ≤ j → j < q → ∀ i, i < 4 → R' i j = R i j) → (∀ i, 113 + 9 * s ≤ i → i < 113 + 9 * e → c' i = c i) → In' s e p q) :
    ∀ {n s e p q : Nat}, LayL R c n0 n1 n2 In n s e p q → (∀ j, p ≤ j → j < q → ∀ i, i < 4 → R' i j = R i j) → (∀ i, 113 + 9 * s ≤ i → i < 113 + 9 * e → c' i = c i) → LayL R' c' n0 n1 n2 In' n s e p q
  | 0, _, _, _, _, h, _, _ => h
  | n + 1, s, e, p, q, ⟨h1, h⟩, hR, hc => by
    refine ⟨h1, ?_⟩
    rcases h with ⟨a, b, d⟩ | ⟨e', mm, a, b, m1, m2, m3, d, g⟩
    · have hl := LayL_le hIl d
      have r0 := hR p (by omega) (by omega) 0 (by omega)
      have r2 := hR p (by omega) (by omega) 2 (by omega)
      have r3 := hR p (by omega) (by omega) 3 (by omega)
      refine Or.inl ⟨by rw [hc _ (by omega) (by omega)]; exact a, ?_, LayL_congr hIl hI d (fun j h1 h2 => hR j (by omega) h2) (fun i h1 h2 => hc i (by omega) h2)⟩
      unfold stS stX
      rw [hc _ (by omega) (by omega), hc _ (by omega) (by omega), hc _ (by omega) (by omega), r0, r2, r3]
      exact b
    · have hl := LayL_le hIl g
      have hl2 := hIl _ _ _ _ d
      have r0 := hR p (by omega) (by omega) 0 (by omega)
      have r2 := hR p (by omega) (by omega) 2 (by omega)
      have r3 := hR p (by omega) (by omega) 3 (by omega)
      refine Or.inr ⟨e', mm, by rw [hc _ (by omega) (by omega)]; exact a, ?_, by rw [hR mm (by omega) (by omega) 0 (by omega)]; exact m1, by rw [hR mm (by omega) (by omega) 1 (by omega)]; exact m2, by rw [hR p (by omega) (by omega) 1 (by omega)]; exact m3, hI _ _ _ _ d (fun j h1 h2 => hR j (by omega) (by omega)) (fun i h1 h2 => hc i (by omega) (by omega)), LayL_congr hIl hI g (fun j h1 h2 => hR j (by omega) h2) (fun i h1 h2 => hc i (by omega) h2)⟩
      unfold stW stL
      rw [hc _ (by omega) (by omega), hc _ (by omega) (by omega), hc _ (by omega) (by omega), hc _ (by omega) (by omega), r0, r2, r3]
      exact b
theorem Lay_congr {R R' : Nat → Nat → Int32} {c c' : Nat → Int32} {n0 n1 n2 : Nat} : ∀ {D n s e p q : Nat}, Lay R c n0 n1 n2 D n s e p q → (∀ j, p ≤ j → j < q → ∀ i, i < 4 → R' i j = R i j) → (∀ i, 113 + 9 * s ≤ i → i < 113 + 9 * e → c' i = c i) → Lay R' c' n0 n1 n2 D n s e p q
  | 0, _, _, _, _, _, h, hR, hc => LayL_congr (fun _ _ _ _ h => h.elim) (fun _ _ _ _ h _ _ => h.elim) h hR hc
  | D + 1, _, _, _, _, _, h, hR, hc => LayL_congr (In := fun s e p q => ∃ k, Lay R c n0 n1 n2 D k s e p q) (fun _ _ _ _ h => by obtain ⟨k, h⟩ := h; have := Lay_le h; omega) (fun _ _ _ _ h hR hc => by obtain ⟨k, h⟩ := h; exact ⟨k, Lay_congr h hR hc⟩) h hR hc
def row14 (co ma on ot lt rm sp xx dt kn md od sd us : Nat → Int32) : Nat → Nat → Int32 := fun i => match i with
  | 0 => co | 1 => ma | 2 => on | 3 => ot | 4 => lt | 5 => rm | 6 => sp | 7 => xx | 8 => dt | 9 => kn | 10 => md | 11 => od | 12 => sd | _ => us
section LV
variable {c : Nat → Int32} {σ : Nat → Nat} {x1 x2 x3 st st2 th hl : Int32} {fu z ns n : Nat} {co ma on ot lt rm sp xx dt kn md od sd us ll la lb be : Nat → Int32} {l1 l2 l3 l4 l5 l6 l7 i1 i2 i3 i4 i5 i6 i7 pr sp1 rs rz : Int32}
theorem r_run (w : WF σ) (h4 : σ 4 ≤ 9999) (hz : z ≤ 60) (hn : ns ≤ 30) (hc : c 112 = nI ns) (h : Lay (row4 co ma on ot) c (σ 0) (σ 1) (σ 2) 7 n 0 ns 0 z) (hfu : 40000 < fu) :
    ∃ (ov d m : Nat) (f v lo : Int32) (ll' : Nat → Int32) (σ' : Nat → Nat),
      f_X3_run fu x1 l1 l2 l3 l4 l5 l6 l7 ll (nI (σ 0)) (nI (σ 1)) (nI (σ 2)) (nI (sB σ)) (nI (sR σ)) (aL lt σ) (aR rm σ) (nI z) co ma on ot (aP sp σ) (nI (σ 3)) (nI (σ 8)) (nI (σ 6)) (nI (σ 7)) (nI (σ 4)) (nI (σ 5)) (aD dt σ) (aK kn σ) (aM md σ) (aO od σ) (aX xx σ) (aS sd σ) (aU us σ)
        = some (nI d, nI m, nI (σ' 4 - σ 4), nI (σ' 5) - nI (σ 5), f, lo, v, ll', nI (σ' 8), nI (σ' 6), nI (σ' 7), nI (σ' 4), nI (σ' 5), aD dt σ', aK kn σ', aM md σ', aO od σ', aS sd σ', aU us σ') ∧
      (∀ i1 i2 i3 i4 i5 i6 i7 : Int32, f_X12_runsRounds fu x1 i1 i2 i3 i4 i5 i6 i7 (mk c σ) = some (nI ov, v, nI d, nI m, nI (σ' 4 - σ 4), f, lo, mk c σ')) ∧ WF σ' ∧ sameC σ σ' ∧ σ' 4 ≤ 9999 := by
  have hL : Lay (row14 co ma on ot lt rm sp xx dt kn md od sd us) c (σ 0) (σ 1) (σ 2) 7 n 0 ns 0 z := Lay_congr h (fun j _ _ i hi => by
    have : i = 0 ∨ i = 1 ∨ i = 2 ∨ i = 3 := by omega
    rcases this with rfl | rfl | rfl | rfl <;> rfl) (fun _ _ _ => rfl)
  obtain ⟨ov, lo, d', m', at', I, f', v', ll', σ', g1, ⟨g2, g3, g4, g5⟩, ⟨g7, g8, g9, g10, g11, g12⟩, g13, g14, g15, g16⟩ :=
    sim_Lay (fu := fu) (Z := fun i => if i = 0 then nI (σ 4) else if i = 1 then nI (σ 5) else if i = 2 then l3 else l4) (ρ := σ) (T0 := σ 4) hz (by omega) hL hn (Nat.le_refl _) σ x1 0 0 (nI 0) ll 0 w sameC.rf h4 (Nat.le_refl _) (by omega) (Nat.le_refl _) (by omega)
  refine ⟨ov, d', m', f', v', nI lo, ll', σ', ?_, ?_, g2, g3, g4⟩
  · have hat : at' = z := by
      by_cases e : ov = 0
      · exact (g13 e).2
      · exact g14 (by omega)
    have hN := g16 (fu - I - 1 + 1)
    rw [show fu - I - 1 + 1 + I = fu by omega, hat, cL_fin hz] at hN
    rw [← pk_sub g5]
    exact hN
  · intro i1 i2 i3 i4 i5 i6 i7
    unfold f_X12_runsRounds
    simp (disch := omega) only [gi_n, nI_cl, mk_hi, hc]
    rw [Nat.sub_self] at g1
    rw [show f_X12_doAll fu 8 (nI 0) (nI ns) (nI 0) x1 (nI 0) (nI 0) (nI 0) (nI 0) (nI 0) (mk c σ) = _ from g1, bd_s]
theorem c_tellTo {a b d e g : Int32} {r : Nat → Int32} : f_X3_tellTo 5 a b d e g r = some (upd (upd (upd (upd (upd r 0 a) 1 b) 2 d) 3 e) 4 g) := by
  unfold f_X3_tellTo
  simp (disch := omega) only [gi_n, nI_cl]
theorem upd5 {a b d e g : Int32} {r r' : Nat → Int32} {k : Nat} (hk : k < 5) : upd (upd (upd (upd (upd r 0 a) 1 b) 2 d) 3 e) 4 g k = upd (upd (upd (upd (upd r' 0 a) 1 b) 2 d) 3 e) 4 g k := by
  have : k = 0 ∨ k = 1 ∨ k = 2 ∨ k = 3 ∨ k = 4 := by omega
  rcases this with rfl | rfl | rfl | rfl | rfl <;> rfl
theorem r_live (w : WF σ) (h4 : σ 4 ≤ 9999) (hR : RoRel c (σ 0) (σ 1) (σ 2) pr sp1 rz co ma on ot) (hL : hl = 0 ∨ ∀ k, k < 5 → la k = lb k) (hfu : 40000 < fu) :
    ∃ r s hl' o1 o2 o3 o4 o5 o6 o7 ll' la' i1' i2' i3' i4' i5' i6' i7' lb' σ',
      f_X11_live fu x1 st hl (nI (σ 0)) (nI (σ 1)) (nI (σ 2)) (nI (sB σ)) (nI (sR σ)) (aL lt σ) (nI (σ 3)) (nI (σ 8)) (nI (σ 6)) (nI (σ 7)) (nI (σ 4)) (nI (σ 5)) (aD dt σ) (aK kn σ) (aM md σ) (aO od σ) (aX xx σ) (aS sd σ) (aU us σ) (aR rm σ) pr rz co ma on ot (aP sp σ) l1 l2 l3 l4 l5 l6 l7 ll la
        = some (r, s, hl', nI (σ' 8), nI (σ' 6), nI (σ' 7), nI (σ' 4), nI (σ' 5), aD dt σ', aK kn σ', aM md σ', aO od σ', aS sd σ', aU us σ', o1, o2, o3, o4, o5, o6, o7, ll', la') ∧
      f_X12_live fu x1 st2 th hl i1 i2 i3 i4 i5 i6 i7 (mk c σ) lb = some (r, s, nI 0, hl', i1', i2', i3', i4', i5', i6', i7', mk c σ', lb') ∧ WF σ' ∧ sameC σ σ' ∧ σ' 4 ≤ 9999 ∧ (hl' = 0 ∨ ∀ k, k < 5 → la' k = lb' k) := by
  obtain ⟨z, ns, hz, hn, rfl, hst, hpr⟩ := hR
  unfold f_X11_live f_X12_live
  rw [m_in (by omega) (by omega), bd_s]
  simp (disch := omega) only [bI_0, ref11, ref12, bd_s, x_lt0, x_le, gi_n, nI_cl, mk_hi]
  cases hx : inR x1 (0 : Nat) ((9999 : Nat) + 1)
  · have h2 := inR_f hx
    rw [if_pos rfl]
    by_cases a : x1.toInt < 0
    · rw [if_pos a]; exact ⟨_, _, _, _, _, _, _, _, _, _, _, _, _, _, _, _, _, _, _, _, σ, rfl, rfl, w, sameC.rf, h4, hL⟩
    · rw [if_neg a, if_neg (by omega)]; exact ⟨_, _, _, _, _, _, _, _, _, _, _, _, _, _, _, _, _, _, _, _, σ, rfl, rfl, w, sameC.rf, h4, hL⟩
  · have h2 := inR_t hx
    rw [if_neg (by omega), if_pos (by omega), if_neg (show ¬ (true = false) by decide)]
    rcases hpr with ⟨hp, hc⟩ | ⟨hp, hc, hc2, n, hLay⟩
    · rw [hp, hc, if_pos (show nI 0 = 0 from rfl), if_pos (show nI 0 = 0 from rfl)]
      exact ⟨_, _, _, _, _, _, _, _, _, _, _, _, _, _, _, _, _, _, _, _, σ, rfl, rfl, w, sameC.rf, h4, hL⟩
    · rw [hp, hc, if_neg (show ¬ nI 1 = 0 by decide), if_neg (show ¬ nI 1 = 0 by decide)]
      obtain ⟨ov, d, m, f, v, lo, ll', σ', g1, g2, w', hC, h5⟩ := r_run (x1 := x1) (l1 := l1) (l2 := l2) (l3 := l3) (l4 := l4) (l5 := l5) (l6 := l6) (l7 := l7) (ll := ll) (lt := lt) (rm := rm) (sp := sp) (xx := xx) (dt := dt) (kn := kn) (md := md) (od := od) (sd := sd) (us := us) w h4 hz hn hc2 hLay hfu
      rw [g1, bd_s]
      simp (disch := omega) only [c_tellTo, bd_s, ans11, g2, mk_in, lt_]
      exact ⟨_, _, _, _, _, _, _, _, _, _, _, _, _, _, _, _, _, _, _, _, σ', rfl, rfl, w', hC, h5, Or.inr (fun k hk => upd5 hk)⟩
theorem m_restore {K : Int32 → Int32 → Int32 → Int64 → Int32 → Int32 → Int32 → Int64 → Int64 → Int32 → Int32 → Int32 → Int32 → Int32 → Int32 → Int32 → (Nat → Int32) → (Nat → Int32) → Option (Int32 × Int32 × Int32 × Int64 × Int64 × Int32 × Int32 × Int32 × Int32 × Int32 × Int32 × Int32 × (Nat → Int32) × (Nat → Int32))} {a1 a2 a3 b1 b2 : Int32} {a4 b3 b4 : Int64} {j : Nat} {τ : Nat → Nat} (hfu : 1000 < fu) :
    f_X12_mean_145 fu K fu a1 a2 a3 a4 (nI j) (nI 0) b1 b2 b3 b4 i1 i2 i3 i4 i5 i6 i7 (mk be σ) (mk c τ) = K a1 a2 a3 a4 (nI (j + 1)) b1 b2 b3 b4 i1 i2 i3 i4 i5 i6 i7 (mk be σ) (mk c σ) := by
  rw [show mk c σ = mkF (mk c τ) 111 σ from mkF_mkF.symm]
  refine loop_p (fun n k => f_X12_mean_145 fu K n a1 a2 a3 a4 (nI j) (nI k) b1 b2 b3 b4 i1 i2 i3 i4 i5 i6 i7 (mk be σ) (mkF (mk c τ) k σ)) 111 _ ?_ ?_ 111 0 fu (by omega) (by omega)
  · intro n k hk
    simp (disch := omega) only [f_X12_mean_145, nI_le', if_neg, gi_n, nI_cl, lt_, mk_in, nI_add, mkF_step]
  · intro n
    simp (disch := omega) only [f_X12_mean_145, nI_le', if_pos, lt_, nI_add]
theorem m_save {a1 a2 a3 b1 b2 : Int32} {b3 b4 : Int64} (hfu : 1000 < fu) :
    f_X12_mean_77 fu fu a1 a2 a3 (nI 0) b1 b2 b3 b4 i1 i2 i3 i4 i5 i6 i7 be (mk c σ) = f_X12_mean_110 fu fu a1 a2 a3 (lN 0) (nI 0) b1 b2 b3 b4 i1 i2 i3 i4 i5 i6 i7 (mk be σ) (mk c σ) := by
  refine loop_p (fun n k => f_X12_mean_77 fu n a1 a2 a3 (nI k) b1 b2 b3 b4 i1 i2 i3 i4 i5 i6 i7 (mkF be k σ) (mk c σ)) 111 _ ?_ ?_ 111 0 fu (by omega) (by omega)
  · intro n k hk
    simp (disch := omega) only [f_X12_mean_77, nI_le', if_neg, gi_n, nI_cl, lt_, mk_in, nI_add, mkF_step]
  · intro n
    simp (disch := omega) only [f_X12_mean_77, nI_le', if_pos]
    rfl
end LV
