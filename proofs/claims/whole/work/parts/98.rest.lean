/-! ROUNDS that are told: what a STEP is about -/
def isBk (key : Nat) : Bool := decide (key = 21 ∨ key = 8 ∨ key = 19 ∨ key = 20)
theorem c_addStep {key w s p : Nat} {a b : Int32} {op co ma on ot : Nat → Int32} (hk : key < 24) (hp : p < 60) (hw : isBk key = true → w < 3) :
    f_X6_addStep (nI key) a b (nI w) op (nI s) (nI p) co ma on ot = some (nI (if isBk key = true then w + 1 else w), if isBk key = true then upd op w (nI p) else op, nI (s + 1), nI (p + 1), upd co p (nI key), upd ma p (-1 : Int32), upd on p a, upd ot p b) := by
  unfold f_X6_addStep f_X5_add
  rw [if_pos (show nI p < nI 60 by rw [nI_lt' (by omega) (by omega)]; exact hp), gi_n (by omega) (by omega), gi_n (by omega) (by omega), gi_n (by omega) (by omega), gi_n (by omega) (by omega), nI_cl (by omega), nI_add]
  have l0 : ∀ {α β : Type} (x : β) (k : β → Option α), lt_ x k = k x := fun _ _ => rfl
  rw [l0, pk_sub (show 1 ≤ p + 1 by omega), Nat.add_sub_cancel, bd_s]
  simp only
  rw [nI_add, l0]
  have h33 : w < 3 → f_X6_addStep_33 (nI p) (nI w) op (nI (s + 1)) (nI (p + 1)) (upd co p (nI key)) (upd ma p (-1 : Int32)) (upd on p a) (upd ot p b) = some (nI (w + 1), upd op w (nI p), nI (s + 1), nI (p + 1), upd co p (nI key), upd ma p (-1 : Int32), upd on p a, upd ot p b) := by
    intro h
    unfold f_X6_addStep_33
    rw [if_neg (show ¬ nI 3 ≤ nI w by rw [nI_le' (by omega) (by omega)]; omega), gi_n (by omega) (by omega), nI_add, l0, nI_cl (by omega)]
  by_cases e21 : key = 21
  · have hb : isBk key = true := decide_eq_true (Or.inl e21)
    rw [if_pos (show nI key = nI 21 by rw [e21]), hb, if_pos rfl, if_pos rfl, h33 (hw hb)]
  · rw [if_neg (show ¬ nI key = nI 21 by rw [nI_eq' (by omega) (by omega)]; exact e21)]
    unfold f_X5_isTest
    by_cases e8 : key = 8
    · have hb : isBk key = true := decide_eq_true (Or.inr (Or.inl e8))
      rw [if_pos (show nI key = nI 8 by rw [e8]), bd_s, if_neg (show ¬ nI 1 = 0 by decide), hb, if_pos rfl, if_pos rfl, h33 (hw hb)]
    · rw [if_neg (show ¬ nI key = nI 8 by rw [nI_eq' (by omega) (by omega)]; exact e8)]
      by_cases e19 : key = 19
      · have hb : isBk key = true := decide_eq_true (Or.inr (Or.inr (Or.inl e19)))
        rw [if_pos (show nI key = nI 19 by rw [e19]), bd_s, if_neg (show ¬ nI 1 = 0 by decide), hb, if_pos rfl, if_pos rfl, h33 (hw hb)]
      · rw [if_neg (show ¬ nI key = nI 19 by rw [nI_eq' (by omega) (by omega)]; exact e19)]
        by_cases e20 : key = 20
        · have hb : isBk key = true := decide_eq_true (Or.inr (Or.inr (Or.inr e20)))
          rw [if_pos (show nI key = nI 20 by rw [e20]), bd_s, if_neg (show ¬ nI 1 = 0 by decide), hb, if_pos rfl, if_pos rfl, h33 (hw hb)]
        · have hb : isBk key = false := decide_eq_false (by omega)
          rw [if_neg (show ¬ nI key = nI 20 by rw [nI_eq' (by omega) (by omega)]; exact e20), bd_s, if_pos (show nI 0 = 0 from rfl), hb, if_neg (by decide), if_neg (by decide)]
section RE
variable {B : Nat → Nat} {E fu : Nat} {tp tq : Nat → Int32} {K : Nat → Int64} {pl nx kd kk : Nat} {wd wd2 : Int64} {nu nu2 le fk fp ba : Int32} {c : Nat → Int32} {W cn sn pn : Nat → Int64} {n0 n1 n2 w s p key : Nat} {op co ma on ot : Nat → Int32}
/-- the class: the one, the other are there: ; and the STEP is added -/
theorem c_139 (h : TX B E tp tq) (hK : ∀ k, k < 24 → K k = lN (KEY k)) (T : TOK B E pl nx kd kk wd nu nu2 le wd2) {a b : Int32} (hk : key < 24) (hp : p < 60) (hw : isBk key = true → w < 3) (hb : ¬ b = (-1 : Int32)) (hfu : 2000 < fu) :
    (∃ pl' nx' kd' kk' wd' nu' nu2' le' wd2', nx ≤ pl' ∧ TOK B E pl' nx' kd' kk' wd' nu' nu2' le' wd2' ∧
      f_X6_takeStep_139 fu (nI E) K tp (nI n0) (nI n1) (nI n2) cn pn sn (nI key) a b (nI w) op (nI nx) (nI kd) (nI pl) wd (kI kk) nu fk fp (nI s) (nI p) co ma on ot = some (nI 1, nI (if isBk key = true then w + 1 else w), if isBk key = true then upd op w (nI p) else op, nI nx', nI kd', nI pl', wd', kI kk', nu', fk, fp, nI (s + 1), nI (p + 1), upd co p (nI key), upd ma p (-1 : Int32), upd on p a, upd ot p b) ∧
      f_X12_isSign (nI 59) (nI kd) nu2 = some (bI (smB B pl kd)) ∧ f_X12_must fu (bI (smB B pl kd)) (nI E) (nI 0) ba (nI kd) (nI pl) (nI nx) nu2 le wd2 tq = some (nI 0, ba, nI kd', nI pl', nI nx', nu2', le', wd2')) ∨
    (∃ k, 1 ≤ k ∧ k ≤ 7 ∧ f_X6_takeStep_139 fu (nI E) K tp (nI n0) (nI n1) (nI n2) cn pn sn (nI key) a b (nI w) op (nI nx) (nI kd) (nI pl) wd (kI kk) nu fk fp (nI s) (nI p) co ma on ot = some (nI 0, nI w, op, nI nx, nI kd, nI pl, wd, kI kk, nu, nI k, nI pl, nI s, nI p, co, ma, on, ot) ∧
      f_X12_isSign (nI 59) (nI kd) nu2 = some (bI (smB B pl kd)) ∧ f_X12_must fu (bI (smB B pl kd)) (nI E) (nI 0) ba (nI kd) (nI pl) (nI nx) nu2 le wd2 tq = some (nI k, nI pl, nI kd, nI pl, nI nx, nu2, le, wd2)) := by
  have hT := T.1
  have hs := m_isSign T
  unfold f_X6_takeStep_139
  rw [if_neg hb]
  rcases r_semi (fu := fu) (ba := ba) (fk := fk) (fp := fp) h hK T hfu with ⟨pl4, nx4, kd4, kk4, wd4, nu4, nu24, le4, wd24, e1, T4, e3, e4, e5, e6⟩ | ⟨e1, e2, e3⟩
  · rw [e5, bd_s]
    simp only
    rw [if_neg (show ¬ nI 1 = 0 by decide), c_addStep hk hp hw, bd_s]
    exact Or.inl ⟨pl4, nx4, kd4, kk4, wd4, nu4, nu24, le4, wd24, e1, T4, rfl, hs, e6⟩
  · have hb := fK_b (kd := kd) (x := 2) (by omega) (by omega)
    rw [e2, bd_s]
    simp only
    rw [if_pos (show nI 0 = 0 from rfl)]
    exact Or.inr ⟨fK kd 2, hb.1, hb.2, rfl, hs, e3⟩
theorem c_139_bad {a : Int32} {f1 f2 : Int32} : f_X6_takeStep_139 fu (nI E) K tp (nI n0) (nI n1) (nI n2) cn pn sn (nI key) a (-1 : Int32) (nI w) op (nI nx) (nI kd) (nI pl) wd (kI kk) nu f1 f2 (nI s) (nI p) co ma on ot = some (nI 0, nI w, op, nI nx, nI kd, nI pl, wd, kI kk, nu, f1, f2, nI s, nI p, co, ma, on, ot) := by
  unfold f_X6_takeStep_139
  rw [if_pos rfl]
/-- what the reference's 9 cells of a STEP hold -/
def stD (cd : Nat) (blk : Bool) (a b : Int32) (C : Nat → Int32) (n0 n1 n2 s : Nat) : Prop :=
  ∀ (R : Nat → Nat → Int32) (p : Nat), R 0 p = nI cd → R 2 p = a → R 3 p = b →
    if blk = true then stW C (R 0) (R 2) (R 3) n0 n1 n2 s p ∨ stL C (R 0) (R 2) s p else stS C (R 0) (R 2) (R 3) n0 n2 s p ∨ stX C (R 0) s p
end RE
