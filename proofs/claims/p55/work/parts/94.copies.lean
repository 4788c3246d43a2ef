/-! what a BOOK is on both sides; copies of it -/
def BK (cells secrets pages blind rubs : Int32) (cellNames : Nat → Int64) (letters : Nat → Int32) (inOrder place ill shut turns madeInAll : Int32) (dots knows made order sixteenths stands used : Nat → Int32) (pageNames : Nat → Int64) (room : Nat → Int32) (present steps size : Int32) (code mate one other : Nat → Int32) (secretNames : Nat → Int64) (speed : Nat → Int32) (σ : Nat → Nat) (c : Nat → Int32) (W : Nat → Int64) : Prop :=
  WF σ ∧ σ 4 ≤ 9999 ∧ (cells = nI (σ 0) ∧ secrets = nI (σ 1) ∧ pages = nI (σ 2) ∧ blind = nI (sB σ) ∧ rubs = nI (sR σ)) ∧
  (inOrder = nI (σ 3) ∧ place = nI (σ 8) ∧ ill = nI (σ 6) ∧ shut = nI (σ 7) ∧ turns = nI (σ 4) ∧ madeInAll = nI (σ 5)) ∧
  ((∃ b, letters = aL b σ) ∧ (∃ b, dots = aD b σ) ∧ (∃ b, knows = aK b σ) ∧ (∃ b, made = aM b σ) ∧ (∃ b, order = aO b σ) ∧ (∃ b, sixteenths = aX b σ) ∧ (∃ b, stands = aS b σ) ∧ (∃ b, used = aU b σ) ∧ (∃ b, room = aR b σ) ∧ (∃ b, speed = aP b σ)) ∧
  ((∀ k, k < σ 0 → cellNames k = W (0 + k)) ∧ (∀ k, k < σ 1 → secretNames k = W (8 + k)) ∧ (∀ k, k < σ 2 → pageNames k = W (14 + k))) ∧
  RoRel c (σ 0) (σ 1) (σ 2) present steps size code mate one other
theorem cpy_mkF {b g : Nat → Int32} {f : Nat → Nat} {n N : Nat} (h : n ≤ N) : va_cpy (mkF b n f) g 0 0 N = mkF (va_cpy b g 0 0 N) n f := by
  funext j
  unfold va_cpy mkF
  by_cases h1 : j < N
  · rw [if_pos (by omega), Nat.sub_zero, Nat.zero_add]
    by_cases h2 : j < n
    · rw [if_pos h2, if_pos h2]
    · rw [if_neg h2, if_neg h2]
      show b j = if 0 ≤ j ∧ j < 0 + N then b (0 + (j - 0)) else g j
      rw [if_pos (by omega), Nat.sub_zero, Nat.zero_add]
  · rw [if_neg (by omega), if_neg (by omega)]
    show g j = if 0 ≤ j ∧ j < 0 + N then b (0 + (j - 0)) else g j
    rw [if_neg (by omega)]
theorem cpy_at {α : Type} {b g : Nat → α} {N k : Nat} (h : k < N) : va_cpy b g 0 0 N k = b k := by
  unfold va_cpy
  rw [if_pos (by omega), Nat.sub_zero, Nat.zero_add]
section CO
variable {q1 q2 q3 q4 q5 q8 q9 q10 q11 q12 q13 q23 q24 q25 p1 p2 p3 p4 p5 p8 p9 p10 p11 p12 p13 p23 p24 p25 : Int32} {q6 q21 q30 p6 p21 p30 : Nat → Int64} {q7 q14 q15 q16 q17 q18 q19 q20 q22 q26 q27 q28 q29 q31 p7 p14 p15 p16 p17 p18 p19 p20 p22 p26 p27 p28 p29 p31 : Nat → Int32} {σ : Nat → Nat} {c : Nat → Int32} {W : Nat → Int64}
theorem c_copyRounds {n0 n1 n2 : Nat} (h : RoRel c n0 n1 n2 p23 p24 p25 p26 p27 p28 p29) : ∃ o4 o5 o6 o7, f_X5_copyFrom q23 q24 q25 q26 q27 q28 q29 p23 p24 p25 p26 p27 p28 p29 = some (p23, p24, p25, o4, o5, o6, o7) ∧ RoRel c n0 n1 n2 p23 p24 p25 o4 o5 o6 o7 := by
  obtain ⟨z, ns, hz, hn, rfl, hst, hpr⟩ := h
  have hg : p23 = 0 ∨ p23 = 1 := by
    rcases hpr with ⟨a, -⟩ | ⟨a, -⟩
    · exact Or.inl a
    · exact Or.inr a
  unfold f_X5_copyFrom
  rw [gd_pos hg, gc_0 (by omega) (by omega) (by omega), gc_0 (by omega) (by omega) (by omega), gc_0 (by omega) (by omega) (by omega), gc_0 (by omega) (by omega) (by omega)]
  refine ⟨_, _, _, _, rfl, z, ns, hz, hn, rfl, hst, ?_⟩
  rcases hpr with h | ⟨a, b, d, n, hL⟩
  · exact Or.inl h
  · refine Or.inr ⟨a, b, d, n, Lay_congr hL (fun j _ hj i hi => ?_) (fun _ _ _ => rfl)⟩
    rw [nI_cl (show 0 < 2147483648 by omega), nI_cl (show z < 2147483648 by omega)]
    unfold row4
    by_cases e0 : i = 0
    · rw [if_pos e0, if_pos e0]; exact cpy_at hj
    · by_cases e1 : i = 1
      · rw [if_neg e0, if_neg e0, if_pos e1, if_pos e1]; exact cpy_at hj
      · by_cases e2 : i = 2
        · rw [if_neg e0, if_neg e0, if_neg e1, if_neg e1, if_pos e2, if_pos e2]; exact cpy_at hj
        · rw [if_neg e0, if_neg e0, if_neg e1, if_neg e1, if_neg e2, if_neg e2]; exact cpy_at hj
theorem c_copyBook (h : BK p1 p2 p3 p4 p5 p6 p7 p8 p9 p10 p11 p12 p13 p14 p15 p16 p17 p18 p19 p20 p21 p22 p23 p24 p25 p26 p27 p28 p29 p30 p31 σ c W) :
    ∃ o1 o2 o3 o4 o5 o6 o7 o8 o9 o10 o11 o12 o13 o14 o15 o16 o17 o18 o19 o20 o21 o22 o23 o24 o25 o26 o27 o28 o29 o30 o31,
      f_X1_copyFrom q1 q2 q3 q4 q5 q6 q7 q8 q9 q10 q11 q12 q13 q14 q15 q16 q17 q18 q19 q20 q21 q22 q23 q24 q25 q26 q27 q28 q29 q30 q31 p1 p2 p3 p4 p5 p6 p7 p8 p9 p10 p11 p12 p13 p14 p15 p16 p17 p18 p19 p20 p21 p22 p23 p24 p25 p26 p27 p28 p29 p30 p31
        = some (o1, o2, o3, o4, o5, o6, o7, o8, o9, o10, o11, o12, o13, o14, o15, o16, o17, o18, o19, o20, o21, o22, o23, o24, o25, o26, o27, o28, o29, o30, o31) ∧
      o1 = nI (σ 0) ∧ BK o1 o2 o3 o4 o5 o6 o7 o8 o9 o10 o11 o12 o13 o14 o15 o16 o17 o18 o19 o20 o21 o22 o23 o24 o25 o26 o27 o28 o29 o30 o31 σ c W := by
  obtain ⟨w, h4, ⟨rfl, rfl, rfl, rfl, rfl⟩, ⟨rfl, rfl, rfl, rfl, rfl, rfl⟩, ⟨⟨b7, rfl⟩, ⟨b14, rfl⟩, ⟨b15, rfl⟩, ⟨b16, rfl⟩, ⟨b17, rfl⟩, ⟨b18, rfl⟩, ⟨b19, rfl⟩, ⟨b20, rfl⟩, ⟨b22, rfl⟩, ⟨b31, rfl⟩⟩, ⟨n0, n1, n2⟩, hR⟩ := h
  obtain ⟨r4, r5, r6, r7, hr, hR'⟩ := c_copyRounds (q23 := q23) (q24 := q24) (q25 := q25) (q26 := q26) (q27 := q27) (q28 := q28) (q29 := q29) hR
  have w0 := w.c0
  have w1 := w.c1
  have w2 := w.c2
  unfold f_X1_copyFrom
  rw [gc_0 (by omega) (by omega) (by omega), gc_0 (by omega) (by omega) (by omega), gc_0 (by omega) (by omega) (by omega), gc_0 (by omega) (by omega) (by omega), gc_0 (by omega) (by omega) (by omega), gc_0 (by omega) (by omega) (by omega), c_copyState w, bd_s]
  simp only
  rw [hr, bd_s]
  refine ⟨_, _, _, _, _, _, _, _, _, _, _, _, _, _, _, _, _, _, _, _, _, _, _, _, _, _, _, _, _, _, _, rfl, rfl, w, h4, ⟨rfl, rfl, rfl, rfl, rfl⟩, ⟨rfl, rfl, rfl, rfl, rfl, rfl⟩, ⟨⟨va_cpy b7 q7 0 0 6, ?_⟩, ⟨_, rfl⟩, ⟨_, rfl⟩, ⟨_, rfl⟩, ⟨_, rfl⟩, ⟨_, rfl⟩, ⟨_, rfl⟩, ⟨_, rfl⟩, ⟨va_cpy b22 q22 0 0 6, ?_⟩, ⟨va_cpy b31 q31 0 0 8, ?_⟩⟩, ⟨fun k hk => ?_, fun k hk => ?_, fun k hk => ?_⟩, hR'⟩
  · exact cpy_mkF w1
  · exact cpy_mkF w2
  · exact cpy_mkF w0
  · exact (cpy_at (show k < 8 by omega)).trans (n0 k hk)
  · exact (cpy_at (show k < 6 by omega)).trans (n1 k hk)
  · exact (cpy_at (show k < 6 by omega)).trans (n2 k hk)
/-- only what stands of the reference's row in its block matters -/
theorem BK_congr {c' : Nat → Int32} {W' : Nat → Int64} (h : BK p1 p2 p3 p4 p5 p6 p7 p8 p9 p10 p11 p12 p13 p14 p15 p16 p17 p18 p19 p20 p21 p22 p23 p24 p25 p26 p27 p28 p29 p30 p31 σ c W) (hc : ∀ i, 111 ≤ i → i < 390 → c' i = c i) (hW : ∀ i, i < 20 → W' i = W i) :
    BK p1 p2 p3 p4 p5 p6 p7 p8 p9 p10 p11 p12 p13 p14 p15 p16 p17 p18 p19 p20 p21 p22 p23 p24 p25 p26 p27 p28 p29 p30 p31 σ c' W' := by
  obtain ⟨w, h4, hA, hB, hC, ⟨n0, n1, n2⟩, hR⟩ := h
  have w0 := w.c0
  have w1 := w.c1
  have w2 := w.c2
  refine ⟨w, h4, hA, hB, hC, ⟨fun k hk => by rw [n0 k hk, hW _ (by omega)], fun k hk => by rw [n1 k hk, hW _ (by omega)], fun k hk => by rw [n2 k hk, hW _ (by omega)]⟩, ?_⟩
  obtain ⟨z, ns, hz, hn, hsz, hst, hpr⟩ := hR
  refine ⟨z, ns, hz, hn, hsz, hst, ?_⟩
  rcases hpr with ⟨a, b⟩ | ⟨a, b, d, n, hL⟩
  · exact Or.inl ⟨a, by rw [hc 111 (by omega) (by omega)]; exact b⟩
  · exact Or.inr ⟨a, by rw [hc 111 (by omega) (by omega)]; exact b, by rw [hc 112 (by omega) (by omega)]; exact d, n, Lay_congr hL (fun _ _ _ _ _ => rfl) (fun i h1 h2 => hc i (by omega) (by omega))⟩
end CO
/-- block a of the reference comes to block b -/
def cpC (c : Nat → Int32) (a b n : Nat) : Nat → Int32 := fun i => if 390 * b ≤ i ∧ i < 390 * b + n then c (390 * a + (i - 390 * b)) else c i
def cpW (W : Nat → Int64) (a b n : Nat) : Nat → Int64 := fun i => if 20 * b ≤ i ∧ i < 20 * b + n then W (20 * a + (i - 20 * b)) else W i
theorem cpC_0 {c : Nat → Int32} {a b : Nat} : cpC c a b 0 = c := by
  funext i; exact if_neg (by omega)
theorem cpW_0 {W : Nat → Int64} {a b : Nat} : cpW W a b 0 = W := by
  funext i; exact if_neg (by omega)
theorem cpC_s {c : Nat → Int32} {a b j : Nat} (hab : a ≠ b) (hj : j < 390) : upd (cpC c a b j) (390 * b + j) (cpC c a b j (390 * a + j)) = cpC c a b (j + 1) := by
  have e : cpC c a b j (390 * a + j) = c (390 * a + j) := by
    refine if_neg (fun q => hab ?_)
    omega
  rw [e]
  funext i
  unfold upd cpC
  by_cases h : i = 390 * b + j
  · rw [if_pos h, if_pos (by omega)]
    congr 1; omega
  · rw [if_neg h]
    by_cases h2 : 390 * b ≤ i ∧ i < 390 * b + j
    · rw [if_pos h2, if_pos (by omega)]
    · rw [if_neg h2, if_neg (by omega)]
theorem cpW_s {W : Nat → Int64} {a b j : Nat} (hab : a ≠ b) (hj : j < 20) : vp_updL (cpW W a b j) (20 * b + j) (cpW W a b j (20 * a + j)) = cpW W a b (j + 1) := by
  have e : cpW W a b j (20 * a + j) = W (20 * a + j) := by
    refine if_neg (fun q => hab ?_)
    omega
  rw [e]
  funext i
  unfold vp_updL cpW
  by_cases h : i = 20 * b + j
  · rw [if_pos h, if_pos (by omega)]
    congr 1; omega
  · rw [if_neg h]
    by_cases h2 : 20 * b ≤ i ∧ i < 20 * b + j
    · rw [if_pos h2, if_pos (by omega)]
    · rw [if_neg h2, if_neg (by omega)]
theorem m_copy {c : Nat → Int32} {W : Nat → Int64} {a b fu : Nat} (ha : a ≤ 4) (hb : b ≤ 4) (hab : a ≠ b) (hfu : 1000 < fu) : f_X12_copy fu (nI a) (nI b) c W = some (cpC c a b 390, cpW W a b 20) := by
  have h2 : f_X12_copy_41 fu fu (nI a) (nI b) (nI 0) (cpC c a b 390) W = some (cpC c a b 390, cpW W a b 20) := by
    have := loop_p (fun n j => f_X12_copy_41 fu n (nI a) (nI b) (nI j) (cpC c a b 390) (cpW W a b j)) 20 (some (cpC c a b 390, cpW W a b 20)) (by
      intro n j hj
      simp (disch := omega) only [f_X12_copy_41, nI_le', if_neg, pk_mul, nI_add, gi_n, nI_cl, lt_, cpW_s hab hj]) (by
      intro n
      simp (disch := omega) only [f_X12_copy_41, nI_le', if_pos]) 20 0 fu (by omega) (by omega)
    rw [cpW_0] at this
    exact this
  unfold f_X12_copy
  have := loop_p (fun n j => f_X12_copy_2 fu n (nI a) (nI b) (nI j) (cpC c a b j) W) 390 (some (cpC c a b 390, cpW W a b 20)) (by
    intro n j hj
    simp (disch := omega) only [f_X12_copy_2, nI_le', if_neg, pk_mul, nI_add, gi_n, nI_cl, lt_, cpC_s hab hj]) (by
    intro n
    simp (disch := omega) only [f_X12_copy_2, nI_le', if_pos, h2]) 390 0 fu (by omega) (by omega)
  rw [cpC_0] at this
  exact this
theorem c_fillI {n fu : Nat} {f : Nat → Int32} (hn : n ≤ 60) (hfu : 100 < fu) : f_J7_fill_53178 fu n (nI 0) f = some (mkF f n (fun _ => 0)) := by
  unfold f_J7_fill_53178
  show f_J7_fill_53178_5 fu n fu (nI 0) (nI 0) (nI n) f = _
  refine loop_p (fun m j => f_J7_fill_53178_5 fu n m (nI 0) (nI j) (nI n) (mkF f j (fun _ => 0))) n _ ?_ ?_ n 0 fu (by omega) (by omega)
  · intro m j hj
    have := mkF_step (b := f) (f := fun _ => 0) (j := j)
    simp (disch := omega) only [f_J7_fill_53178_5, nI_le', if_neg, gi_n, nI_cl, lt_, nI_add, this]
  · intro m
    simp (disch := omega) only [f_J7_fill_53178_5, nI_le', if_pos]
