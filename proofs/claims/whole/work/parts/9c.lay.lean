/-! what is laid out alike: one behind the other; the class's way through the text of ROUNDS -/
section LA
variable {R : Nat → Nat → Int32} {C : Nat → Int32} {n0 n1 n2 : Nat}
theorem LayL_app {In : LF} : ∀ {n m s e f p q r : Nat}, LayL R C n0 n1 n2 In n s e p q → LayL R C n0 n1 n2 In m e f q r → e ≤ f → LayL R C n0 n1 n2 In (n + m) s f p r
  | 0, m, s, e, f, p, q, r, h, h2, _ => by
    obtain ⟨rfl, rfl⟩ := h
    rw [Nat.zero_add]; exact h2
  | n + 1, m, s, e, f, p, q, r, ⟨h1, h⟩, h2, he => by
    rw [Nat.add_right_comm]
    refine ⟨by omega, ?_⟩
    rcases h with ⟨a, b, d⟩ | ⟨e', mm, a, b, m1, m2, m3, d, g⟩
    · exact Or.inl ⟨a, b, LayL_app d h2 he⟩
    · exact Or.inr ⟨e', mm, a, b, m1, m2, m3, d, LayL_app g h2 he⟩
theorem Lay_app {D n m s e f p q r : Nat} (h : Lay R C n0 n1 n2 D n s e p q) (h2 : Lay R C n0 n1 n2 D m e f q r) : Lay R C n0 n1 n2 D (n + m) s f p r := by
  have he := (Lay_le h2).1
  cases D with
  | zero => exact LayL_app h h2 (by omega)
  | succ D => exact LayL_app h h2 (by omega)
theorem Lay_mono : ∀ {D n s e p q : Nat}, Lay R C n0 n1 n2 D n s e p q → Lay R C n0 n1 n2 (D + 1) n s e p q
  | 0, _, _, _, _, _, h => LayL_congr (fun _ _ _ _ h => h.elim) (fun _ _ _ _ h _ _ => h.elim) h (fun _ _ _ _ _ => rfl) (fun _ _ _ => rfl)
  | D + 1, _, _, _, _, _, h => LayL_congr (fun _ _ _ _ h => by obtain ⟨k, h⟩ := h; have := Lay_le h; omega) (fun _ _ _ _ h _ _ => by obtain ⟨k, h⟩ := h; exact ⟨k, Lay_mono h⟩) h (fun _ _ _ _ _ => rfl) (fun _ _ _ => rfl)
theorem lay_one {D s p : Nat} (hc : C (113 + 9 * s + 8) = nI (s + 1)) (h : stS C (R 0) (R 2) (R 3) n0 n2 s p ∨ stX C (R 0) s p) : Lay R C n0 n1 n2 D 1 s (s + 1) p (p + 1) := by
  cases D with
  | zero => exact ⟨by omega, Or.inl ⟨hc, h, rfl, rfl⟩⟩
  | succ D => exact ⟨by omega, Or.inl ⟨hc, h, rfl, rfl⟩⟩
theorem lay_blk {D n s e p q : Nat} (hc : C (113 + 9 * s + 8) = nI e) (h : stW C (R 0) (R 2) (R 3) n0 n1 n2 s p ∨ stL C (R 0) (R 2) s p) (h1 : R 0 q = nI 22) (h2 : R 1 q = nI p) (h3 : R 1 p = nI q) (hi : Lay R C n0 n1 n2 D n (s + 1) e (p + 1) q) : Lay R C n0 n1 n2 (D + 1) 1 s e p (q + 1) := by
  have := (Lay_le hi).1
  exact ⟨by omega, Or.inr ⟨e, q, hc, h, h1, h2, h3, ⟨n, hi⟩, rfl, rfl⟩⟩
end LA
section RD
variable {B : Nat → Nat} {E fu N : Nat} {tp tq : Nat → Int32} {K : Nat → Int64} {pl nx kd kk i s p w : Nat} {wd wd2 : Int64} {nu nu2 le fk fp ba pr : Int32} {c : Nat → Int32} {W cn sn pn : Nat → Int64} {n0 n1 n2 : Nat} {op co ma on ot : Nat → Int32}
theorem rd_bad {x0 x1 x2 x3 x4 x6 x7 x8 x9 x10 x11 x12 : Int32} {x5 : Int64} : ∃ oo, f_X6_take_15 fu (nI E) K tp (nI n0) (nI n1) (nI n2) cn pn sn (N + 1) (nI 0) x0 x1 op x2 x3 x4 x5 x6 x7 x8 x9 x10 x11 x12 co ma on ot = some oo ∧ oo.1 = nI 0 ∧ oo.2.2.2.2.2.2.2.2.2.1 = x8 ∧ oo.2.2.2.2.2.2.2.2.2.2.1 = x9 := by
  refine ⟨(nI 0, x1, op, x2, x3, x4, x5, x6, x7, x8, x9, nI 0, x11, x12, co, ma, on, ot), ?_, rfl, rfl, rfl⟩
  unfold f_X6_take_15
  rw [if_pos (show nI 0 = 0 from rfl)]
  unfold f_X6_take_68
  rw [if_pos (show nI 0 = 0 from rfl), gd_0, gd_0]
  split <;> rfl
theorem rd_step (hE : E ≤ 300) (T : TOK B E pl nx kd kk wd nu nu2 le wd2) (hi : i ≤ pl) (hkd : kd ≠ 0) (hk : kk ≠ 22) :
    f_X6_take_15 fu (nI E) K tp (nI n0) (nI n1) (nI n2) cn pn sn (N + 1) (nI 1) (nI i) (nI w) op (nI nx) (nI kd) (nI pl) wd (kI kk) nu fk fp pr (nI s) (nI p) co ma on ot
    = bd_ (f_X6_takeStep fu (nI w) op (nI E) (nI nx) (nI kd) (nI pl) wd (kI kk) nu fk fp K tp (nI n0) (nI n1) (nI n2) cn pn sn (nI s) (nI p) co ma on ot) (fun (z : Int32 × Int32 × (Nat → Int32) × Int32 × Int32 × Int32 × Int64 × Int32 × Int32 × Int32 × Int32 × Int32 × Int32 × (Nat → Int32) × (Nat → Int32) × (Nat → Int32) × (Nat → Int32)) => match z with | (r5, u6, u7, u8, u9, u10, u11, u12, u13, u14, u15, u16, u17, u18, u19, u20, u21) => f_X6_take_15 fu (nI E) K tp (nI n0) (nI n1) (nI n2) cn pn sn N r5 (nI (i + 1)) u6 u7 u8 u9 u10 u11 u12 u13 u14 u15 pr u16 u17 u18 u19 u20 u21) := by
  have hT := T.1
  have := hT.2.2.2.2.2 hkd
  conv => lhs; unfold f_X6_take_15
  rw [if_neg (show ¬ nI 300 ≤ nI i by rw [nI_le' (by omega) (by omega)]; omega), if_neg (show ¬ nI 1 = 0 by decide), if_neg (show ¬ nI kd = 0 by rw [nI_eq0 (by omega)]; exact hkd), if_neg (show ¬ kI kk = nI 22 by rw [kI_eq (by omega) (by omega)]; exact hk)]
  simp only [lt_, nI_add]
theorem rd_end (hE : E ≤ 300) (T : TOK B E pl nx kd kk wd nu nu2 le wd2) (hi : i ≤ pl) (hk : kk = 22) :
    f_X6_take_15 fu (nI E) K tp (nI n0) (nI n1) (nI n2) cn pn sn (N + 1) (nI 1) (nI i) (nI w) op (nI nx) (nI kd) (nI pl) wd (kI kk) nu fk fp pr (nI s) (nI p) co ma on ot
    = bd_ (f_X6_takeEnd fu (nI w) op (nI E) (nI nx) (nI kd) (nI pl) wd (kI kk) nu fk fp K tp (nI p) co ma on ot) (fun (z : Int32 × Int32 × Int32 × Int32 × Int32 × Int64 × Int32 × Int32 × Int32 × Int32 × Int32 × (Nat → Int32) × (Nat → Int32) × (Nat → Int32) × (Nat → Int32)) => match z with | (r24, u25, u26, u27, u28, u29, u30, u31, u32, u33, u34, u35, u36, u37, u38) => f_X6_take_15 fu (nI E) K tp (nI n0) (nI n1) (nI n2) cn pn sn N r24 (nI (i + 1)) u25 op u26 u27 u28 u29 u30 u31 u32 u33 pr (nI s) u34 u35 u36 u37 u38) := by
  have hT := T.1
  have hkd : kd = 1 := Classical.byContradiction fun q => absurd (T.2.2.1 q) (by omega)
  have := hT.2.2.2.2.2 (by omega)
  conv => lhs; unfold f_X6_take_15
  rw [if_neg (show ¬ nI 300 ≤ nI i by rw [nI_le' (by omega) (by omega)]; omega), if_neg (show ¬ nI 1 = 0 by decide), if_neg (show ¬ nI kd = 0 by rw [nI_eq0 (by omega)]; omega), if_pos (show kI kk = nI 22 by rw [hk]; rfl)]
  simp only [lt_, nI_add]
/-- the text is over within a when, a loop -/
theorem rd_over (T : TOK B E pl nx kd kk wd nu nu2 le wd2) (hkd : kd = 0) (hw : 1 ≤ w) (hw3 : w ≤ 3) : ∃ oo, f_X6_take_15 fu (nI E) K tp (nI n0) (nI n1) (nI n2) cn pn sn (N + 1) (nI 1) (nI i) (nI w) op (nI nx) (nI kd) (nI pl) wd (kI kk) nu fk fp pr (nI s) (nI p) co ma on ot = some oo ∧ oo.1 = nI 0 ∧ oo.2.2.2.2.2.2.2.2.2.1 = nI 2 ∧ oo.2.2.2.2.2.2.2.2.2.2.1 = nI pl := by
  have e68 : f_X6_take_68 fu (nI E) K tp (nI n0) (nI n1) (nI n2) cn pn sn (nI 1) (nI w) op (nI nx) (nI kd) (nI pl) wd (kI kk) nu fk fp pr (nI s) (nI p) co ma on ot = some (nI 0, nI w, op, nI nx, nI kd, nI pl, wd, kI kk, nu, nI 2, nI pl, nI 0, nI s, nI p, co, ma, on, ot) := by
    unfold f_X6_take_68
    rw [if_neg (show ¬ nI 1 = 0 by decide), if_neg (show ¬ nI w ≤ 0 by rw [nI_le0 (by omega)]; omega), c_fail (by omega), if_neg (show ¬ kd = 4 by omega), bd_s]
    simp only
    rw [gd_0, gd_0]
  refine ⟨(nI 0, nI w, op, nI nx, nI kd, nI pl, wd, kI kk, nu, nI 2, nI pl, nI 0, nI s, nI p, co, ma, on, ot), ?_, rfl, rfl, rfl⟩
  unfold f_X6_take_15
  rw [if_neg (show ¬ nI 1 = 0 by decide), if_pos (show nI kd = 0 by rw [hkd]; rfl), e68]
  split <;> rfl
end RD
