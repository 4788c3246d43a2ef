/-! ROUNDS that are told: one STEP with all that is within it, on both sides -/
abbrev MT : Type := Int32 × Int32 × Int32 × Int32 × Int32 × Int32 × Int32 × Int64 × Int32 × (Nat → Int32)
abbrev CT : Type := Int32 × Int32 × (Nat → Int32) × Int32 × Int32 × Int32 × Int64 × Int32 × Int32 × Int32 × Int32 × Int32 × Int32 × Int32 × (Nat → Int32) × (Nat → Int32) × (Nat → Int32) × (Nat → Int32)
def badT (X : Option CT) (k q : Nat) : Prop := ∃ oo, X = some oo ∧ oo.1 = nI 0 ∧ oo.2.2.2.2.2.2.2.2.2.1 = nI k ∧ oo.2.2.2.2.2.2.2.2.2.2.1 = nI q
def badM (X : Option MT) (k q : Nat) (c : Nat → Int32) : Prop := ∃ (z1 z2 z3 z4 z5 : Int32) (z6 : Int64) (x : Int32) (c1 : Nat → Int32), X = some (nI k, nI q, z1, z2, z3, z4, z5, z6, x, c1) ∧ ∀ i, i < 1673 → c1 i = c i
def T15 (fu E : Nat) (K : Nat → Int64) (tp : Nat → Int32) (n0 n1 n2 : Nat) (cn pn sn : Nat → Int64) (fk fp pr : Int32) (N i w : Nat) (op : Nat → Int32) (nx kd pl : Nat) (wd : Int64) (kk : Nat) (nu : Int32) (s p : Nat) (co ma on ot : Nat → Int32) : Option CT :=
  f_X6_take_15 fu (nI E) K tp (nI n0) (nI n1) (nI n2) cn pn sn N (nI 1) (nI i) (nI w) op (nI nx) (nI kd) (nI pl) wd (kI kk) nu fk fp pr (nI s) (nI p) co ma on ot
/-- the way from one state of both sides to another, n STEPS further -/
def AR (B : Nat → Nat) (fu E : Nat) (K : Nat → Int64) (tp : Nat → Int32) (n0 n1 n2 : Nat) (cn pn sn : Nat → Int64) (fk fp pr : Int32) (D n I w i : Nat) (op : Nat → Int32) (nx kd pl : Nat) (wd : Int64) (kk : Nat) (nu : Int32) (s p : Nat) (co ma on ot c : Nat → Int32)
    (op' : Nat → Int32) (nx' kd' pl' : Nat) (wd' : Int64) (kk' : Nat) (nu' : Int32) (s' p' : Nat) (co' ma' on' ot' c' : Nat → Int32) (nu2' le' : Int32) (wd2' : Int64) : Prop :=
  (∀ N, T15 fu E K tp n0 n1 n2 cn pn sn fk fp pr (N + I) i w op nx kd pl wd kk nu s p co ma on ot = T15 fu E K tp n0 n1 n2 cn pn sn fk fp pr N (i + I) w op' nx' kd' pl' wd' kk' nu' s' p' co' ma' on' ot') ∧
  TOK B E pl' nx' kd' kk' wd' nu' nu2' le' wd2' ∧ (i + I ≤ pl' ∧ pl + n ≤ pl' ∧ s ≤ s' ∧ s' ≤ 30 ∧ p' + w ≤ 2 * s') ∧ (∀ j, j < w → op' j = op j) ∧ (∀ j, j < p → co' j = co j ∧ ma' j = ma j ∧ on' j = on j ∧ ot' j = ot j) ∧ (∀ j, j < 1673 + 9 * s → c' j = c j) ∧
  Lay (row4 co' ma' on' ot') (fun i => c' (1560 + i)) n0 n1 n2 D n s s' p p'
theorem row4_at {co ma on ot co' ma' on' ot' : Nat → Int32} {j i : Nat} (h : co' j = co j ∧ ma' j = ma j ∧ on' j = on j ∧ ot' j = ot j) : row4 co' ma' on' ot' i j = row4 co ma on ot i j := by
  obtain ⟨h0, h1, h2, h3⟩ := h
  unfold row4
  by_cases e0 : i = 0
  · rw [if_pos e0, if_pos e0]; exact h0
  · by_cases e1 : i = 1
    · rw [if_neg e0, if_neg e0, if_pos e1, if_pos e1]; exact h1
    · by_cases e2 : i = 2
      · rw [if_neg e0, if_neg e0, if_neg e1, if_neg e1, if_pos e2, if_pos e2]; exact h2
      · rw [if_neg e0, if_neg e0, if_neg e1, if_neg e1, if_neg e2, if_neg e2]; exact h3
section AR
variable {B : Nat → Nat} {E fu : Nat} {tp tq : Nat → Int32} {K : Nat → Int64} {W cn sn pn : Nat → Int64} {n0 n1 n2 : Nat} {fk fp pr ba : Int32}
theorem AR_nil {D w i : Nat} {op : Nat → Int32} {nx kd pl : Nat} {wd : Int64} {kk : Nat} {nu nu2 le : Int32} {wd2 : Int64} {s p : Nat} {co ma on ot c : Nat → Int32} (T : TOK B E pl nx kd kk wd nu nu2 le wd2) (hi : i ≤ pl) (hs : s ≤ 30) (hp : p + w ≤ 2 * s) : AR B fu E K tp n0 n1 n2 cn pn sn fk fp pr D 0 0 w i op nx kd pl wd kk nu s p co ma on ot c op nx kd pl wd kk nu s p co ma on ot c nu2 le wd2 :=
  ⟨fun _ => rfl, T, ⟨hi, Nat.le_refl _, Nat.le_refl _, hs, hp⟩, fun _ _ => rfl, fun _ _ => ⟨rfl, rfl, rfl, rfl⟩, fun _ _ => rfl, by cases D <;> exact ⟨rfl, rfl⟩⟩
theorem AR_app {D n m I I2 w i : Nat} {op : Nat → Int32} {nx kd pl : Nat} {wd : Int64} {kk : Nat} {nu : Int32} {s p : Nat} {co ma on ot c : Nat → Int32} {op' : Nat → Int32} {nx' kd' pl' : Nat} {wd' : Int64} {kk' : Nat} {nu' : Int32} {s' p' : Nat} {co' ma' on' ot' c' : Nat → Int32} {nu2' le' : Int32} {wd2' : Int64} {op'' : Nat → Int32} {nx'' kd'' pl'' : Nat} {wd'' : Int64} {kk'' : Nat} {nu'' : Int32} {s'' p'' : Nat} {co'' ma'' on'' ot'' c'' : Nat → Int32} {nu2'' le'' : Int32} {wd2'' : Int64}
    (h : AR B fu E K tp n0 n1 n2 cn pn sn fk fp pr D n I w i op nx kd pl wd kk nu s p co ma on ot c op' nx' kd' pl' wd' kk' nu' s' p' co' ma' on' ot' c' nu2' le' wd2')
    (g : AR B fu E K tp n0 n1 n2 cn pn sn fk fp pr D m I2 w (i + I) op' nx' kd' pl' wd' kk' nu' s' p' co' ma' on' ot' c' op'' nx'' kd'' pl'' wd'' kk'' nu'' s'' p'' co'' ma'' on'' ot'' c'' nu2'' le'' wd2'') :
    AR B fu E K tp n0 n1 n2 cn pn sn fk fp pr D (n + m) (I + I2) w i op nx kd pl wd kk nu s p co ma on ot c op'' nx'' kd'' pl'' wd'' kk'' nu'' s'' p'' co'' ma'' on'' ot'' c'' nu2'' le'' wd2'' := by
  obtain ⟨h1, h2, h3, h4, h5, h6, h7⟩ := h
  obtain ⟨g1, g2, g3, g4, g5, g6, g7⟩ := g
  have hl := Lay_le h7
  refine ⟨fun N => ?_, g2, by omega, fun j hj => by rw [g4 j hj, h4 j hj], fun j hj => ?_, fun j hj => by rw [g6 j (by omega), h6 j hj], Lay_app (Lay_congr h7 (fun j _ hj i _ => row4_at (g5 j hj)) (fun j _ hj => g6 (1560 + j) (by omega))) g7⟩
  · rw [show N + (I + I2) = (N + I2) + I by omega, h1, g1, show i + I + I2 = i + (I + I2) by omega]
  · obtain ⟨a1, a2, a3, a4⟩ := g5 j (by omega)
    obtain ⟨b1, b2, b3, b4⟩ := h5 j hj
    exact ⟨a1.trans b1, a2.trans b2, a3.trans b3, a4.trans b4⟩
theorem c_close {p0 p : Nat} {co ma on ot : Nat → Int32} (h : p0 < p) (hp : p < 60) : f_X5_close (nI p0) (nI p) co ma on ot = some (nI (p + 1), upd co p (nI 22), upd (upd (upd ma p (-1 : Int32)) p (nI p0)) p0 (nI p), upd on p (nI 0), upd ot p (nI 0)) := by
  unfold f_X5_close f_X5_add
  have l0 : ∀ {α β : Type} (x : β) (k : β → Option α), lt_ x k = k x := fun _ _ => rfl
  rw [if_pos (show nI p < nI 60 by rw [nI_lt' (by omega) (by omega)]; exact hp), gi_n (by omega) (by omega), gi_n (by omega) (by omega), gi_n (by omega) (by omega), gi_n (by omega) (by omega), nI_cl (by omega), nI_add, l0, pk_sub (show 1 ≤ p + 1 by omega), Nat.add_sub_cancel, bd_s]
  simp only
  rw [if_neg (show ¬ nI p = (-1 : Int32) by rw [nI_ne_m1 (by omega)]; exact id), if_neg (show ¬ nI p0 < 0 by rw [nI_lt0 (by omega)]; exact id), if_neg (show ¬ nI p ≤ nI p0 by rw [nI_le' (by omega) (by omega)]; omega), gi_n (by omega) (by omega), gi_n (by omega) (by omega), nI_cl (by omega), nI_cl (by omega)]
/-- where no STEP begins -/
theorem m_over {dep w : Nat} {x : Int32} {pl nx kd kk : Nat} {wd wd2 : Int64} {nu nu2 le : Int32} {c : Nat → Int32} (T : TOK B E pl nx kd kk wd nu nu2 le wd2) (hk : sKd kk = (-1 : Int32)) : badM (f_X12_readStep fu (dep + 1) (nI w) (nI E) (nI 0) ba (nI kd) (nI pl) (nI nx) nu2 le wd2 x c tq W) (fK kd 2) pl c := by
  have hT := T.1
  have hb := fK_b (kd := kd) (x := 2) (by omega) (by omega)
  refine ⟨nI kd, nI pl, nI nx, nu2, le, wd2, x, c, ?_, fun _ _ => rfl⟩
  show f_X12_readStepB fu (f_X12_readStep fu dep) (nI w) (nI E) (nI 0) ba (nI kd) (nI pl) (nI nx) nu2 le wd2 x c tq W = _
  unfold f_X12_readStepB
  rw [m_stepWord T, bd_s, hk, if_neg (show ¬ (-1 : Int32) = nI 6 by decide), if_neg (show ¬ (-1 : Int32) = nI 7 by decide)]
  unfold f_X12_readStep_22
  rw [if_neg (show ¬ 0 ≤ (-1 : Int32) by decide), m_amiss (by omega), fK_nI, bd_s]
  simp only
  unfold f_X12_readStep_31
  rw [if_neg (b_eq hb.1 hb.2)]
  unfold f_X12_readStep_57
  rw [if_neg (b_eq hb.1 hb.2)]
  unfold f_X12_readStep_83
  rw [if_neg (b_le hb.1 hb.2)]
theorem T15_step {N i w : Nat} {op : Nat → Int32} {nx kd pl : Nat} {wd wd2 : Int64} {kk : Nat} {nu nu2 le : Int32} {s p : Nat} {co ma on ot : Nat → Int32} {k q : Nat} {u1 u2 u3 : Int32} {u4 : Int64} {u5 u6 : Int32} (hE : E ≤ 300) (T : TOK B E pl nx kd kk wd nu nu2 le wd2) (hi : i ≤ pl) (hkd : kd ≠ 0) (hk : kk ≠ 22) (hN : 0 < N)
    (h : f_X6_takeStep fu (nI w) op (nI E) (nI nx) (nI kd) (nI pl) wd (kI kk) nu fk fp K tp (nI n0) (nI n1) (nI n2) cn pn sn (nI s) (nI p) co ma on ot = some (nI 0, nI w, op, u1, u2, u3, u4, u5, u6, nI k, nI q, nI s, nI p, co, ma, on, ot)) :
    badT (T15 fu E K tp n0 n1 n2 cn pn sn fk fp pr (N + 1) i w op nx kd pl wd kk nu s p co ma on ot) k q := by
  unfold T15
  rw [rd_step hE T hi hkd hk, h, bd_s]
  simp only
  obtain ⟨N, rfl⟩ : ∃ q, N = q + 1 := ⟨N - 1, by omega⟩
  exact rd_bad
end AR
