/-! what stands in a text that is known: names, numbers, words, ; -/
def NV (cn sn pn : Nat → Int64) (n0 n1 n2 : Nat) : Prop := (∀ k, k < n0 → cn k = lN (nmv 99 k)) ∧ (∀ k, k < n1 → sn k = lN (nmv 115 k)) ∧ ∀ k, k < n2 → pn k = lN (nmv 112 k)
def FR (fu E : Nat) (K : Nat → Int64) (tp : Nat → Int32) (a : Nat) (G : Nat → Nat → Nat → Int64 → Nat → Int32 → Prop) : Prop := ∀ (x1 x2 : Int32) (x3 : Int64) (x4 x5 : Int32), ∃ nx kd pl wd kk nu, f_X8_forward fu (nI E) (nI a) x1 x2 x3 x4 x5 K tp = some (nI nx, nI kd, nI pl, wd, kI kk, nu) ∧ G nx kd pl wd kk nu
theorem fnd_no {p : Nat → Bool} {n : Nat} (h : ∀ i, i < n → p i = false) : fnd p n 0 = none := by
  cases e : fnd p n 0 with
  | none => rfl
  | some r =>
    obtain ⟨-, b, c, -⟩ := fnd_some e
    rw [h r (by omega)] at c
    cases c
theorem fnd_at {p : Nat → Bool} {n j : Nat} (hj : j < n) (h : p j = true) (hu : ∀ i, i < n → p i = true → i = j) : fnd p n 0 = some j := by
  cases e : fnd p n 0 with
  | none =>
    rw [fnd_none e j (Nat.zero_le _) (by omega)] at h
    cases h
  | some r =>
    obtain ⟨-, b, c, -⟩ := fnd_some e
    rw [hu r (by omega) c]
theorem lN_inj {a b : Nat} (ha : a < 1056) (hb : b < 1056) : lN a = lN b ↔ a = b := pk_lEQ (by omega) (by omega)
theorem lN_m1 {a : Nat} (ha : a < 1056) : ¬ lN a = (-1 : Int64) := fun q => by
  have q2 := congrArg Int64.toInt q
  rw [show (-1 : Int64).toInt = -1 from by decide] at q2
  have q3 : (lN a).toInt = a := Int64.toInt_ofNat_of_lt (by omega)
  omega
section OPS
variable {B : Nat → Nat} {E fu a pl nx kd kk : Nat} {tp : Nat → Int32} {K : Nat → Int64} {z1 z2 z3 z5 z6 nu fk fp : Int32} {z4 wd : Int64} {R : List Nat} {cn sn pn : Nat → Int64} {n0 n1 n2 : Nat}
theorem op_skY {w : Nat} (hw : w < 24) {x0 x1 x2 : Int32} {x3 : Int64} {x5 : Int32} (hF : f_X8_forward fu (nI E) x0 x1 x2 x3 (kI w) x5 K tp = some (z1, z2, z3, z4, z5, z6)) : f_X8_skips fu (nI w) (nI E) x0 x1 x2 x3 (kI w) x5 K tp = some (nI 1, z1, z2, z3, z4, z5, z6) := by
  unfold f_X8_skips
  rw [if_pos (kI_lt hw)]
  unfold f_X8_skips_13
  rw [if_neg (by decide), hF, bd_s]
  exact gd_1 _
theorem op_skN {w : Nat} (hw : w < 24) (hk : kk ≤ 24) (hne : kk ≠ w) {x0 x1 x2 : Int32} {x3 : Int64} {x5 : Int32} : f_X8_skips fu (nI w) (nI E) x0 x1 x2 x3 (kI kk) x5 K tp = some (nI 0, x0, x1, x2, x3, kI kk, x5) := by
  unfold f_X8_skips
  rw [if_neg (by rw [kI_eq hk hw]; exact hne)]
  unfold f_X8_skips_13
  rw [if_pos (by decide)]
  exact gd_0 _
theorem op_num {v lo hi : Nat} (h1 : lo ≤ v) (h2 : v ≤ hi) (h3 : hi < 10000) {x0 x2 x4 : Int32} {x3 : Int64} (hF : f_X8_forward fu (nI E) x0 (nI 2) x2 x3 x4 (nI v) K tp = some (z1, z2, z3, z4, z5, z6)) : f_X8_numberWithin fu (nI lo) (nI hi) (nI E) x0 (nI 2) x2 x3 x4 (nI v) fk fp K tp = some (nI v, z1, z2, z3, z4, z5, z6, fk, fp) := by
  unfold f_X8_numberWithin
  rw [if_pos rfl, if_neg (by rw [nI_lt' (by omega) (by omega)]; omega), if_pos (by rw [nI_le' (by omega) (by omega)]; exact h2), hF, bd_s]
theorem op_at (h : TX B E tp tp) {p : Nat} (hp : p < E) (hB : B p = 59) : f_X8_atSemicolon (nI 3) (nI p) tp = some (nI 1) := by
  have hE := h.1
  unfold f_X8_atSemicolon
  rw [if_pos rfl, gi_n (by omega) (by omega), nI_cl (by omega), if_pos (by rw [t_59 h hp]; exact hB)]
theorem op_at1 {x : Int32} : f_X8_atSemicolon (nI 1) x tp = some (nI 0) := by
  unfold f_X8_atSemicolon
  rw [if_neg (by decide)]
theorem op_cl (h : TX B E tp tp) {p : Nat} (hp : p < E) (hB : B p = 59) {x0 x4 x5 : Int32} {x3 : Int64} (hF : f_X8_forward fu (nI E) x0 (nI 3) (nI p) x3 x4 x5 K tp = some (z1, z2, z3, z4, z5, z6)) : f_X8_closes fu (nI E) x0 (nI 3) (nI p) x3 x4 x5 fk fp K tp = some (nI 1, z1, z2, z3, z4, z5, z6, fk, fp) := by
  unfold f_X8_closes
  rw [op_at h hp hB, bd_s, if_neg (by decide), hF, bd_s]
theorem op_nm {x : Nat} (hx : x < 1056) {x2 : Int32} : f_X8_nameHere (nI 1) x2 (lN x) (kI 24) fk fp = some (lN x, fk, fp) := by
  unfold f_X8_nameHere
  rw [if_pos rfl, if_neg (by rw [lg_eq0]; exact lN_m1 hx), if_pos kI_24]
theorem op_one {row : Nat → Int64} {n m j c : Nat} (hrow : ∀ k, k < n → row k = lN (nmv c k)) (hj : j < n) (hn : n ≤ m) (hm : m ≤ 8) (hc : 97 ≤ c ∧ c ≤ 122) (hfu : 100 < fu) {x0 x2 x5 : Int32} (hF : f_X8_forward fu (nI E) x0 (nI 1) x2 (lN (nmv c j)) (kI 24) x5 K tp = some (z1, z2, z3, z4, z5, z6)) : f_X8_oneOf fu m (nI n) (nI E) x0 (nI 1) x2 (lN (nmv c j)) (kI 24) x5 fk fp K tp row = some (nI j, z1, z2, z3, z4, z5, z6, fk, fp) := by
  have hx : nmv c j < 1056 := by unfold nmv; omega
  have hf : fnd (fun k => decide (row k = lN (nmv c j))) n 0 = some j := fnd_at hj (decide_eq_true (hrow j hj)) (fun i hi h => by
    have h2 := of_decide_eq_true h
    rw [hrow i hi] at h2
    have h3 := (lN_inj (by unfold nmv; omega) hx).mp h2
    unfold nmv at h3
    omega)
  have hcx : ∀ {α : Type} (x y : α), (if lg_cmp (lN (nmv c j)) (-1 : Int64) = 0 then x else y) = y := fun x y => if_neg (by rw [lg_eq0]; exact lN_m1 hx)
  unfold f_X8_oneOf
  rw [op_nm hx, bd_s]
  simp only [hcx]
  rw [c_indexOf hn hm hfu, bd_s, hf, oI_s, if_neg (by rw [nI_ne_m1 (by omega)]; exact id), hF, bd_s]
theorem op_new (hN : NV cn sn pn n0 n1 n2) (h0 : n0 ≤ 8) (h1 : n1 ≤ 6) (h2 : n2 ≤ 6) {x : Nat} (hx : x < 1056) (q0 : ∀ k, k < n0 → nmv 99 k ≠ x) (q1 : ∀ k, k < n1 → nmv 115 k ≠ x) (q2 : ∀ k, k < n2 → nmv 112 k ≠ x) (hfu : 100 < fu) {x0 x2 x5 : Int32} (hF : f_X8_forward fu (nI E) x0 (nI 1) x2 (lN x) (kI 24) x5 K tp = some (z1, z2, z3, z4, z5, z6)) : f_X2_newName fu (nI E) x0 (nI 1) x2 (lN x) (kI 24) x5 fk fp K tp (nI n0) (nI n1) (nI n2) cn pn sn = some (lN x, z1, z2, z3, z4, z5, z6, fk, fp) := by
  have hcx : ∀ {α : Type} (u v : α), (if lg_cmp (lN x) (-1 : Int64) = 0 then u else v) = v := fun u v => if_neg (by rw [lg_eq0]; exact lN_m1 hx)
  have ht : f_X1_isTaken fu (lN x) (nI n0) (nI n1) (nI n2) cn pn sn = some (nI 0) := by
    unfold f_X1_isTaken
    rw [c_indexOf (by omega) (by omega) hfu, bd_s, fnd_no (fun i hi => decide_eq_false (fun h => q0 i hi ((lN_inj (by unfold nmv; omega) hx).mp (by rw [← hN.1 i hi]; exact h)))), if_pos (show oI none = (-1 : Int32) from rfl)]
    rw [c_indexOf (by omega) (by omega) hfu, bd_s, fnd_no (fun i hi => decide_eq_false (fun h => q1 i hi ((lN_inj (by unfold nmv; omega) hx).mp (by rw [← hN.2.1 i hi]; exact h)))), if_pos (show oI none = (-1 : Int32) from rfl)]
    rw [c_indexOf (by omega) (by omega) hfu, bd_s, fnd_no (fun i hi => decide_eq_false (fun h => q2 i hi ((lN_inj (by unfold nmv; omega) hx).mp (by rw [← hN.2.2 i hi]; exact h)))), if_pos (show oI none = (-1 : Int32) from rfl)]
  unfold f_X2_newName
  rw [op_nm hx, bd_s]
  simp only [hcx]
  rw [ht, bd_s, if_pos (by decide), hF, bd_s]
/-- a word, a number and ; -/
theorem op_last {G : Nat → Nat → Nat → Int64 → Nat → Int32 → Prop} (h : TX B E tp tp) (hR : ∀ a, Txt B E a R → FR fu E K tp a G) {w v lo hi : Nat} (hw : w < 24) (h1 : lo ≤ v) (h2 : v ≤ hi) (h3 : hi < 100) (hT : Txt B E nx (tV v ++ (59 :: R))) (hfu : 2000 < fu) {x1 x2 x5 : Int32} {x3 : Int64} : ∃ nx' kd' pl' wd' kk' nu', f_X2_lastNumber fu (nI w) (nI lo) (nI hi) (nI E) (nI nx) x1 x2 x3 (kI w) x5 fk fp K tp = some (nI v, nI nx', nI kd', nI pl', wd', kI kk', nu', fk, fp) ∧ G nx' kd' pl' wd' kk' nu' := by
  obtain ⟨a1, p1, f1, T1, -⟩ := fw_nu (K := K) (R := 59 :: R) h (by omega) rfl hT hfu
  obtain ⟨f2, T2, l2, b2⟩ := fw_sm (K := K) h T1 hfu
  obtain ⟨nx', kd', pl', wd', kk', nu', f3, g⟩ := hR _ T2 (nI 3) (nI a1) x3 (kI 24) (nI v)
  refine ⟨nx', kd', pl', wd', kk', nu', ?_, g⟩
  unfold f_X2_lastNumber
  rw [op_skY hw (f1 _ _ _ _ _), bd_s]
  dsimp only
  rw [if_neg (by decide), op_num h1 h2 (by omega) (f2 _ _ _ _ _), bd_s]
  dsimp only
  rw [if_neg (by rw [nI_ne_m1 (by omega)]; exact id), op_cl h l2 b2 f3, bd_s]
  dsimp only
  rw [if_neg (by decide)]
end OPS
