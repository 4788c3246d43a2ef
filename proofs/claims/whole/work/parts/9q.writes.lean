/-! calls that change the book, over a book on both sides -/
section UP
variable {σ τ : Nat → Nat} {b : Nat → Int32}
theorem aSq (e1 : τ 1 = σ 1) (w : σ 1 ≤ 6) (h : ∀ i, 75 ≤ i → τ i = σ i) (h2 : ∀ i, 49 ≤ i → i < 55 → τ i = σ i) : aS b τ = aS b σ := aS_c (fun p _ => sStg_same e1 (fun s hs => by
  unfold sSt sD
  rw [h _ (by omega), h2 _ (by omega) (by omega)]))
end UP
section CH
variable {b1 b2 b3 b4 b5 b8 b9 b10 b11 b12 b13 b23 b24 b25 : Int32} {b6 b21 b30 : Nat → Int64} {b7 b14 b15 b16 b17 b18 b19 b20 b22 b26 b27 b28 b29 b31 : Nat → Int32} {W : Nat → Int64} {c : Nat → Int32} {x1 x2 st st2 th hl l1 l2 l3 l4 l5 l6 l7 i1 i2 i3 i4 i5 i6 i7 : Int32} {la lb ll lt dt kn md od xx sd us rm sp : Nat → Int32} {fu : Nat} {σ σ' : Nat → Nat}
theorem bkb_up (w' : WF σ') (h4' : σ' 4 ≤ 9999) (e0 : σ' 0 = σ 0) (e1 : σ' 1 = σ 1) (e2 : σ' 2 = σ 2) (hn : (∀ k, k < σ 0 → b6 k = (fun i => W (20 * 0 + i)) (0 + k)) ∧ (∀ k, k < σ 1 → b30 k = (fun i => W (20 * 0 + i)) (8 + k)) ∧ (∀ k, k < σ 2 → b21 k = (fun i => W (20 * 0 + i)) (14 + k))) (hR : RoRel (fun i => c (390 * 0 + i)) (σ 0) (σ 1) (σ 2) b23 b24 b25 b26 b27 b28 b29) :
    BKb (nI (σ' 0)) (nI (σ' 1)) (nI (σ' 2)) (nI (sB σ')) (nI (sR σ')) b6 (aL lt σ') (nI (σ' 3)) (nI (σ' 8)) (nI (σ' 6)) (nI (σ' 7)) (nI (σ' 4)) (nI (σ' 5)) (aD dt σ') (aK kn σ') (aM md σ') (aO od σ') (aX xx σ') (aS sd σ') (aU us σ') b21 (aR rm σ') b23 b24 b25 b26 b27 b28 b29 b30 (aP sp σ') 0 (mk c σ') W := by
  refine ⟨σ', ⟨w', h4', ⟨rfl, rfl, rfl, rfl, rfl⟩, ⟨rfl, rfl, rfl, rfl, rfl, rfl⟩, ⟨⟨_, rfl⟩, ⟨_, rfl⟩, ⟨_, rfl⟩, ⟨_, rfl⟩, ⟨_, rfl⟩, ⟨_, rfl⟩, ⟨_, rfl⟩, ⟨_, rfl⟩, ⟨_, rfl⟩, ⟨_, rfl⟩⟩, by rw [e0, e1, e2]; exact hn, ?_⟩, fun i hi => ?_⟩
  · rw [e0, e1, e2]
    obtain ⟨z, ns, hz, hn1, hsz, hst, hpr⟩ := hR
    have hc : ∀ i, 111 ≤ i → mk c σ' (390 * 0 + i) = c (390 * 0 + i) := fun i hi => if_neg (by omega)
    refine ⟨z, ns, hz, hn1, hsz, hst, ?_⟩
    rcases hpr with ⟨a, b⟩ | ⟨a, b, d, n, hL⟩
    · exact Or.inl ⟨a, (hc 111 (by omega)).trans b⟩
    · exact Or.inr ⟨a, (hc 111 (by omega)).trans b, (hc 112 (by omega)).trans d, n, Lay_congr hL (fun _ _ _ _ _ => rfl) (fun i h1 h2 => hc i (by omega))⟩
  · show mk c σ' (390 * 0 + i) = nI (σ' i)
    rw [Nat.mul_zero, Nat.zero_add]
    exact if_pos hi
theorem R_damp (hb : BKb b1 b2 b3 b4 b5 b6 b7 b8 b9 b10 b11 b12 b13 b14 b15 b16 b17 b18 b19 b20 b21 b22 b23 b24 b25 b26 b27 b28 b29 b30 b31 0 c W) : ∃ r s, ∃ d11 c', f_X11_damp x1 x2 st b3 b11 = some (r, s, d11) ∧ f_X12_damp x1 x2 st2 th c = some (r, s, nI 0, c') ∧ BKb b1 b2 b3 b4 b5 b6 b7 b8 b9 b10 d11 b12 b13 b14 b15 b16 b17 b18 b19 b20 b21 b22 b23 b24 b25 b26 b27 b28 b29 b30 b31 0 c' W ∧ (∀ i, 111 ≤ i → c' i = c i) := by
  obtain ⟨σ, ⟨w, h4, ⟨rfl, rfl, rfl, rfl, rfl⟩, ⟨rfl, rfl, rfl, rfl, rfl, rfl⟩, ⟨⟨lt, rfl⟩, ⟨dt, rfl⟩, ⟨kn, rfl⟩, ⟨md, rfl⟩, ⟨od, rfl⟩, ⟨xx, rfl⟩, ⟨sd, rfl⟩, ⟨us, rfl⟩, ⟨rm, rfl⟩, ⟨sp, rfl⟩⟩, hn, hR⟩, hσ⟩ := hb
  have ec := c_mk hσ
  have w0 := w.c0
  have w1 := w.c1
  have w2 := w.c2
  have w3 := w.c3
  obtain ⟨r, s, τ, e1, e2, w', hs⟩ := r_damp (c := c) (st := st) (st2 := st2) (th := th) (x1 := x1) (x2 := x2) w
  rw [← ec] at e2
  have s0 : τ 0 = σ 0 := hs 0 (by omega)
  have s1 : τ 1 = σ 1 := hs 1 (by omega)
  have s2 : τ 2 = σ 2 := hs 2 (by omega)
  have s3 : τ 3 = σ 3 := hs 3 (by omega)
  have s4 : τ 4 = σ 4 := hs 4 (by omega)
  have key := bkb_up (σ := σ) (lt := lt) (dt := dt) (kn := kn) (md := md) (od := od) (xx := xx) (sd := sd) (us := us) (rm := rm) (sp := sp) w' (by rw [s4]; exact h4) s0 s1 s2 hn hR
  rw [s0, s1, s2, s3, s4, (show τ 8 = σ 8 from hs 8 (by omega)), (show τ 6 = σ 6 from hs 6 (by omega)), (show τ 5 = σ 5 from hs 5 (by omega)), sBq (σ := σ) (τ := τ) (fun i _ _ => hs i (by omega)), sRq (σ := σ) (τ := τ) (fun i _ _ => hs i (by omega)), aLq (b := lt) s1 w1 (fun i _ _ => hs i (by omega)), aD_c (b := dt) (σ := τ) (τ := σ) (fun i _ _ => hs i (by omega)), aK_c (b := kn) (σ := τ) (τ := σ) (fun i _ _ => hs i (by omega)), aM_c (b := md) (σ := τ) (τ := σ) (fun i _ _ => hs i (by omega)), aOq (b := od) s3 w3 (fun i _ _ => hs i (by omega)), aXq (b := xx) (fun i _ _ => hs i (by omega)), aSq (b := sd) s1 w1 (fun i _ => hs i (by omega)) (fun i _ _ => hs i (by omega)), aU_hi (b := us) (fun i _ => hs i (by omega)), aRq (b := rm) s2 w2 (fun i _ _ => hs i (by omega)), aPq (b := sp) s0 w0 (fun i _ _ => hs i (by omega))] at key
  exact ⟨r, s, _, mk c τ, e1, e2, key, fun i hi => if_neg (by omega)⟩
theorem R_ill (hb : BKb b1 b2 b3 b4 b5 b6 b7 b8 b9 b10 b11 b12 b13 b14 b15 b16 b17 b18 b19 b20 b21 b22 b23 b24 b25 b26 b27 b28 b29 b30 b31 0 c W) : ∃ r s, ∃ d10 c', f_X11_ill x1 x2 st b1 b10 = some (r, s, d10) ∧ f_X12_ill x1 x2 st2 th c = some (r, s, nI 0, c') ∧ BKb b1 b2 b3 b4 b5 b6 b7 b8 b9 d10 b11 b12 b13 b14 b15 b16 b17 b18 b19 b20 b21 b22 b23 b24 b25 b26 b27 b28 b29 b30 b31 0 c' W ∧ (∀ i, 111 ≤ i → c' i = c i) := by
  obtain ⟨σ, ⟨w, h4, ⟨rfl, rfl, rfl, rfl, rfl⟩, ⟨rfl, rfl, rfl, rfl, rfl, rfl⟩, ⟨⟨lt, rfl⟩, ⟨dt, rfl⟩, ⟨kn, rfl⟩, ⟨md, rfl⟩, ⟨od, rfl⟩, ⟨xx, rfl⟩, ⟨sd, rfl⟩, ⟨us, rfl⟩, ⟨rm, rfl⟩, ⟨sp, rfl⟩⟩, hn, hR⟩, hσ⟩ := hb
  have ec := c_mk hσ
  have w0 := w.c0
  have w1 := w.c1
  have w2 := w.c2
  have w3 := w.c3
  obtain ⟨r, s, τ, e1, e2, w', hs⟩ := r_ill (c := c) (st := st) (st2 := st2) (th := th) (x1 := x1) (x2 := x2) w
  rw [← ec] at e2
  have s0 : τ 0 = σ 0 := hs 0 (by omega)
  have s1 : τ 1 = σ 1 := hs 1 (by omega)
  have s2 : τ 2 = σ 2 := hs 2 (by omega)
  have s3 : τ 3 = σ 3 := hs 3 (by omega)
  have s4 : τ 4 = σ 4 := hs 4 (by omega)
  have key := bkb_up (σ := σ) (lt := lt) (dt := dt) (kn := kn) (md := md) (od := od) (xx := xx) (sd := sd) (us := us) (rm := rm) (sp := sp) w' (by rw [s4]; exact h4) s0 s1 s2 hn hR
  rw [s0, s1, s2, s3, s4, (show τ 8 = σ 8 from hs 8 (by omega)), (show τ 7 = σ 7 from hs 7 (by omega)), (show τ 5 = σ 5 from hs 5 (by omega)), sBq (σ := σ) (τ := τ) (fun i _ _ => hs i (by omega)), sRq (σ := σ) (τ := τ) (fun i _ _ => hs i (by omega)), aLq (b := lt) s1 w1 (fun i _ _ => hs i (by omega)), aD_c (b := dt) (σ := τ) (τ := σ) (fun i _ _ => hs i (by omega)), aK_c (b := kn) (σ := τ) (τ := σ) (fun i _ _ => hs i (by omega)), aM_c (b := md) (σ := τ) (τ := σ) (fun i _ _ => hs i (by omega)), aOq (b := od) s3 w3 (fun i _ _ => hs i (by omega)), aXq (b := xx) (fun i _ _ => hs i (by omega)), aSq (b := sd) s1 w1 (fun i _ => hs i (by omega)) (fun i _ _ => hs i (by omega)), aU_hi (b := us) (fun i _ => hs i (by omega)), aRq (b := rm) s2 w2 (fun i _ _ => hs i (by omega)), aPq (b := sp) s0 w0 (fun i _ _ => hs i (by omega))] at key
  exact ⟨r, s, _, mk c τ, e1, e2, key, fun i hi => if_neg (by omega)⟩
theorem R_tell (hb : BKb b1 b2 b3 b4 b5 b6 b7 b8 b9 b10 b11 b12 b13 b14 b15 b16 b17 b18 b19 b20 b21 b22 b23 b24 b25 b26 b27 b28 b29 b30 b31 0 c W) : ∃ r s, ∃ d15 c', f_X11_tell x1 x2 st b1 b2 b15 = some (r, s, d15) ∧ f_X12_tell x1 x2 st2 th c = some (r, s, nI 0, c') ∧ BKb b1 b2 b3 b4 b5 b6 b7 b8 b9 b10 b11 b12 b13 b14 d15 b16 b17 b18 b19 b20 b21 b22 b23 b24 b25 b26 b27 b28 b29 b30 b31 0 c' W ∧ (∀ i, 111 ≤ i → c' i = c i) := by
  obtain ⟨σ, ⟨w, h4, ⟨rfl, rfl, rfl, rfl, rfl⟩, ⟨rfl, rfl, rfl, rfl, rfl, rfl⟩, ⟨⟨lt, rfl⟩, ⟨dt, rfl⟩, ⟨kn, rfl⟩, ⟨md, rfl⟩, ⟨od, rfl⟩, ⟨xx, rfl⟩, ⟨sd, rfl⟩, ⟨us, rfl⟩, ⟨rm, rfl⟩, ⟨sp, rfl⟩⟩, hn, hR⟩, hσ⟩ := hb
  have ec := c_mk hσ
  have w0 := w.c0
  have w1 := w.c1
  have w2 := w.c2
  have w3 := w.c3
  obtain ⟨r, s, τ, e1, e2, w', hs⟩ := r_tell (c := c) (st := st) (st2 := st2) (th := th) (x1 := x1) (x2 := x2) (kn := kn) w
  rw [← ec] at e2
  have s0 : τ 0 = σ 0 := hs 0 (by omega)
  have s1 : τ 1 = σ 1 := hs 1 (by omega)
  have s2 : τ 2 = σ 2 := hs 2 (by omega)
  have s3 : τ 3 = σ 3 := hs 3 (by omega)
  have s4 : τ 4 = σ 4 := hs 4 (by omega)
  have key := bkb_up (σ := σ) (lt := lt) (dt := dt) (kn := kn) (md := md) (od := od) (xx := xx) (sd := sd) (us := us) (rm := rm) (sp := sp) w' (by rw [s4]; exact h4) s0 s1 s2 hn hR
  rw [s0, s1, s2, s3, s4, (show τ 8 = σ 8 from hs 8 (by omega)), (show τ 6 = σ 6 from hs 6 (by omega)), (show τ 7 = σ 7 from hs 7 (by omega)), (show τ 5 = σ 5 from hs 5 (by omega)), sBq (σ := σ) (τ := τ) (fun i _ _ => hs i (by omega)), sRq (σ := σ) (τ := τ) (fun i _ _ => hs i (by omega)), aLq (b := lt) s1 w1 (fun i _ _ => hs i (by omega)), aD_c (b := dt) (σ := τ) (τ := σ) (fun i _ _ => hs i (by omega)), aM_c (b := md) (σ := τ) (τ := σ) (fun i _ _ => hs i (by omega)), aOq (b := od) s3 w3 (fun i _ _ => hs i (by omega)), aXq (b := xx) (fun i _ _ => hs i (by omega)), aSq (b := sd) s1 w1 (fun i _ => hs i (by omega)) (fun i _ _ => hs i (by omega)), aU_hi (b := us) (fun i _ => hs i (by omega)), aRq (b := rm) s2 w2 (fun i _ _ => hs i (by omega)), aPq (b := sp) s0 w0 (fun i _ _ => hs i (by omega))] at key
  exact ⟨r, s, _, mk c τ, e1, e2, key, fun i hi => if_neg (by omega)⟩
theorem R_watch (hb : BKb b1 b2 b3 b4 b5 b6 b7 b8 b9 b10 b11 b12 b13 b14 b15 b16 b17 b18 b19 b20 b21 b22 b23 b24 b25 b26 b27 b28 b29 b30 b31 0 c W) : ∃ r s, ∃ d18 c', f_X11_watch x1 x2 st b3 b18 = some (r, s, d18) ∧ f_X12_watch x1 x2 st2 th c = some (r, s, nI 0, c') ∧ BKb b1 b2 b3 b4 b5 b6 b7 b8 b9 b10 b11 b12 b13 b14 b15 b16 b17 d18 b19 b20 b21 b22 b23 b24 b25 b26 b27 b28 b29 b30 b31 0 c' W ∧ (∀ i, 111 ≤ i → c' i = c i) := by
  obtain ⟨σ, ⟨w, h4, ⟨rfl, rfl, rfl, rfl, rfl⟩, ⟨rfl, rfl, rfl, rfl, rfl, rfl⟩, ⟨⟨lt, rfl⟩, ⟨dt, rfl⟩, ⟨kn, rfl⟩, ⟨md, rfl⟩, ⟨od, rfl⟩, ⟨xx, rfl⟩, ⟨sd, rfl⟩, ⟨us, rfl⟩, ⟨rm, rfl⟩, ⟨sp, rfl⟩⟩, hn, hR⟩, hσ⟩ := hb
  have ec := c_mk hσ
  have w0 := w.c0
  have w1 := w.c1
  have w2 := w.c2
  have w3 := w.c3
  obtain ⟨r, s, τ, e1, e2, w', hs⟩ := r_watch (c := c) (st := st) (st2 := st2) (th := th) (x1 := x1) (x2 := x2) (xx := xx) w
  rw [← ec] at e2
  have s0 : τ 0 = σ 0 := hs 0 (by omega)
  have s1 : τ 1 = σ 1 := hs 1 (by omega)
  have s2 : τ 2 = σ 2 := hs 2 (by omega)
  have s3 : τ 3 = σ 3 := hs 3 (by omega)
  have s4 : τ 4 = σ 4 := hs 4 (by omega)
  have key := bkb_up (σ := σ) (lt := lt) (dt := dt) (kn := kn) (md := md) (od := od) (xx := xx) (sd := sd) (us := us) (rm := rm) (sp := sp) w' (by rw [s4]; exact h4) s0 s1 s2 hn hR
  rw [s0, s1, s2, s3, s4, (show τ 8 = σ 8 from hs 8 (by omega)), (show τ 6 = σ 6 from hs 6 (by omega)), (show τ 7 = σ 7 from hs 7 (by omega)), (show τ 5 = σ 5 from hs 5 (by omega)), sBq (σ := σ) (τ := τ) (fun i _ _ => hs i (by omega)), sRq (σ := σ) (τ := τ) (fun i _ _ => hs i (by omega)), aLq (b := lt) s1 w1 (fun i _ _ => hs i (by omega)), aD_c (b := dt) (σ := τ) (τ := σ) (fun i _ _ => hs i (by omega)), aK_c (b := kn) (σ := τ) (τ := σ) (fun i _ _ => hs i (by omega)), aM_c (b := md) (σ := τ) (τ := σ) (fun i _ _ => hs i (by omega)), aOq (b := od) s3 w3 (fun i _ _ => hs i (by omega)), aSq (b := sd) s1 w1 (fun i _ => hs i (by omega)) (fun i _ _ => hs i (by omega)), aU_hi (b := us) (fun i _ => hs i (by omega)), aRq (b := rm) s2 w2 (fun i _ _ => hs i (by omega)), aPq (b := sp) s0 w0 (fun i _ _ => hs i (by omega))] at key
  exact ⟨r, s, _, mk c τ, e1, e2, key, fun i hi => if_neg (by omega)⟩
theorem R_move (hb : BKb b1 b2 b3 b4 b5 b6 b7 b8 b9 b10 b11 b12 b13 b14 b15 b16 b17 b18 b19 b20 b21 b22 b23 b24 b25 b26 b27 b28 b29 b30 b31 0 c W) (hfu : 100 < fu) : ∃ r s, ∃ d17 c', f_X11_move fu x1 x2 st b1 b8 b17 = some (r, s, d17) ∧ f_X12_move fu x1 x2 st2 th c = some (r, s, nI 0, c') ∧ BKb b1 b2 b3 b4 b5 b6 b7 b8 b9 b10 b11 b12 b13 b14 b15 b16 d17 b18 b19 b20 b21 b22 b23 b24 b25 b26 b27 b28 b29 b30 b31 0 c' W ∧ (∀ i, 111 ≤ i → c' i = c i) := by
  obtain ⟨σ, ⟨w, h4, ⟨rfl, rfl, rfl, rfl, rfl⟩, ⟨rfl, rfl, rfl, rfl, rfl, rfl⟩, ⟨⟨lt, rfl⟩, ⟨dt, rfl⟩, ⟨kn, rfl⟩, ⟨md, rfl⟩, ⟨od, rfl⟩, ⟨xx, rfl⟩, ⟨sd, rfl⟩, ⟨us, rfl⟩, ⟨rm, rfl⟩, ⟨sp, rfl⟩⟩, hn, hR⟩, hσ⟩ := hb
  have ec := c_mk hσ
  have w0 := w.c0
  have w1 := w.c1
  have w2 := w.c2
  have w3 := w.c3
  obtain ⟨r, s, τ, e1, e2, w', hs⟩ := r_move (c := c) (st := st) (st2 := st2) (th := th) (x1 := x1) (x2 := x2) (od := od) w hfu
  rw [← ec] at e2
  have s0 : τ 0 = σ 0 := hs 0 (by omega)
  have s1 : τ 1 = σ 1 := hs 1 (by omega)
  have s2 : τ 2 = σ 2 := hs 2 (by omega)
  have s3 : τ 3 = σ 3 := hs 3 (by omega)
  have s4 : τ 4 = σ 4 := hs 4 (by omega)
  have key := bkb_up (σ := σ) (lt := lt) (dt := dt) (kn := kn) (md := md) (od := od) (xx := xx) (sd := sd) (us := us) (rm := rm) (sp := sp) w' (by rw [s4]; exact h4) s0 s1 s2 hn hR
  rw [s0, s1, s2, s3, s4, (show τ 8 = σ 8 from hs 8 (by omega)), (show τ 6 = σ 6 from hs 6 (by omega)), (show τ 7 = σ 7 from hs 7 (by omega)), (show τ 5 = σ 5 from hs 5 (by omega)), sBq (σ := σ) (τ := τ) (fun i _ _ => hs i (by omega)), sRq (σ := σ) (τ := τ) (fun i _ _ => hs i (by omega)), aLq (b := lt) s1 w1 (fun i _ _ => hs i (by omega)), aD_c (b := dt) (σ := τ) (τ := σ) (fun i _ _ => hs i (by omega)), aK_c (b := kn) (σ := τ) (τ := σ) (fun i _ _ => hs i (by omega)), aM_c (b := md) (σ := τ) (τ := σ) (fun i _ _ => hs i (by omega)), aXq (b := xx) (fun i _ _ => hs i (by omega)), aSq (b := sd) s1 w1 (fun i _ => hs i (by omega)) (fun i _ _ => hs i (by omega)), aU_hi (b := us) (fun i _ => hs i (by omega)), aRq (b := rm) s2 w2 (fun i _ _ => hs i (by omega)), aPq (b := sp) s0 w0 (fun i _ _ => hs i (by omega))] at key
  exact ⟨r, s, _, mk c τ, e1, e2, key, fun i hi => if_neg (by omega)⟩
theorem R_rub (hb : BKb b1 b2 b3 b4 b5 b6 b7 b8 b9 b10 b11 b12 b13 b14 b15 b16 b17 b18 b19 b20 b21 b22 b23 b24 b25 b26 b27 b28 b29 b30 b31 0 c W) (hfu : 100 < fu) : ∃ r s, ∃ d14 d19 d20 c', f_X11_rub fu x1 st b3 b14 b19 b20 = some (r, s, d14, d19, d20) ∧ f_X12_rub fu x1 st2 th c = some (r, s, nI 0, c') ∧ BKb b1 b2 b3 b4 b5 b6 b7 b8 b9 b10 b11 b12 b13 d14 b15 b16 b17 b18 d19 d20 b21 b22 b23 b24 b25 b26 b27 b28 b29 b30 b31 0 c' W ∧ (∀ i, 111 ≤ i → c' i = c i) := by
  obtain ⟨σ, ⟨w, h4, ⟨rfl, rfl, rfl, rfl, rfl⟩, ⟨rfl, rfl, rfl, rfl, rfl, rfl⟩, ⟨⟨lt, rfl⟩, ⟨dt, rfl⟩, ⟨kn, rfl⟩, ⟨md, rfl⟩, ⟨od, rfl⟩, ⟨xx, rfl⟩, ⟨sd, rfl⟩, ⟨us, rfl⟩, ⟨rm, rfl⟩, ⟨sp, rfl⟩⟩, hn, hR⟩, hσ⟩ := hb
  have ec := c_mk hσ
  have w0 := w.c0
  have w1 := w.c1
  have w2 := w.c2
  have w3 := w.c3
  obtain ⟨r, s, τ, e1, e2, w', hs⟩ := r_rub (c := c) (st := st) (st2 := st2) (th := th) (x1 := x1) (dt := dt) (sd := sd) (us := us) w hfu
  rw [← ec] at e2
  have s0 : τ 0 = σ 0 := hs 0 (by omega)
  have s1 : τ 1 = σ 1 := hs 1 (by omega)
  have s2 : τ 2 = σ 2 := hs 2 (by omega)
  have s3 : τ 3 = σ 3 := hs 3 (by omega)
  have s4 : τ 4 = σ 4 := hs 4 (by omega)
  have key := bkb_up (σ := σ) (lt := lt) (dt := dt) (kn := kn) (md := md) (od := od) (xx := xx) (sd := sd) (us := us) (rm := rm) (sp := sp) w' (by rw [s4]; exact h4) s0 s1 s2 hn hR
  rw [s0, s1, s2, s3, s4, (show τ 8 = σ 8 from hs 8 (by omega)), (show τ 6 = σ 6 from hs 6 (by omega)), (show τ 7 = σ 7 from hs 7 (by omega)), (show τ 5 = σ 5 from hs 5 (by omega)), sBq (σ := σ) (τ := τ) (fun i _ _ => hs i (by omega)), sRq (σ := σ) (τ := τ) (fun i _ _ => hs i (by omega)), aLq (b := lt) s1 w1 (fun i _ _ => hs i (by omega)), aK_c (b := kn) (σ := τ) (τ := σ) (fun i _ _ => hs i (by omega)), aM_c (b := md) (σ := τ) (τ := σ) (fun i _ _ => hs i (by omega)), aOq (b := od) s3 w3 (fun i _ _ => hs i (by omega)), aXq (b := xx) (fun i _ _ => hs i (by omega)), aRq (b := rm) s2 w2 (fun i _ _ => hs i (by omega)), aPq (b := sp) s0 w0 (fun i _ _ => hs i (by omega))] at key
  exact ⟨r, s, _, _, _, mk c τ, e1, e2, key, fun i hi => if_neg (by omega)⟩
theorem R_turn (hb : BKb b1 b2 b3 b4 b5 b6 b7 b8 b9 b10 b11 b12 b13 b14 b15 b16 b17 b18 b19 b20 b21 b22 b23 b24 b25 b26 b27 b28 b29 b30 b31 0 c W) (hfu : 1000 < fu) : ∃ r s, ∃ d9 d12 d13 d14 d15 d16 d19 d20 c', f_X11_turn fu x1 st b2 b3 b4 b5 b7 b8 b9 b10 b11 b12 b13 b14 b15 b16 b17 b19 b20 b22 b31 = some (r, s, d9, d12, d13, d14, d15, d16, d19, d20) ∧ f_X12_turn fu x1 st2 th c = some (r, s, nI 0, c') ∧ BKb b1 b2 b3 b4 b5 b6 b7 b8 d9 b10 b11 d12 d13 d14 d15 d16 b17 b18 d19 d20 b21 b22 b23 b24 b25 b26 b27 b28 b29 b30 b31 0 c' W ∧ (∀ i, 111 ≤ i → c' i = c i) := by
  obtain ⟨σ, ⟨w, h4, ⟨rfl, rfl, rfl, rfl, rfl⟩, ⟨rfl, rfl, rfl, rfl, rfl, rfl⟩, ⟨⟨lt, rfl⟩, ⟨dt, rfl⟩, ⟨kn, rfl⟩, ⟨md, rfl⟩, ⟨od, rfl⟩, ⟨xx, rfl⟩, ⟨sd, rfl⟩, ⟨us, rfl⟩, ⟨rm, rfl⟩, ⟨sp, rfl⟩⟩, hn, hR⟩, hσ⟩ := hb
  have ec := c_mk hσ
  have w0 := w.c0
  have w1 := w.c1
  have w2 := w.c2
  have w3 := w.c3
  obtain ⟨r, s, τ, e1, e2, w', hs, h4'⟩ := r_turn (c := c) (st := st) (st2 := st2) (th := th) (x1 := x1) (lt := lt) (dt := dt) (kn := kn) (md := md) (od := od) (sd := sd) (us := us) (rm := rm) (sp := sp) w h4 hfu
  rw [← ec] at e2
  have s0 : τ 0 = σ 0 := hs 0 (by omega) (by omega) (by omega) (by omega)
  have s1 : τ 1 = σ 1 := hs 1 (by omega) (by omega) (by omega) (by omega)
  have s2 : τ 2 = σ 2 := hs 2 (by omega) (by omega) (by omega) (by omega)
  have s3 : τ 3 = σ 3 := hs 3 (by omega) (by omega) (by omega) (by omega)
  have key := bkb_up (σ := σ) (lt := lt) (dt := dt) (kn := kn) (md := md) (od := od) (xx := xx) (sd := sd) (us := us) (rm := rm) (sp := sp) w' h4' s0 s1 s2 hn hR
  rw [s0, s1, s2, s3, (show τ 6 = σ 6 from hs 6 (by omega) (by omega) (by omega) (by omega)), (show τ 7 = σ 7 from hs 7 (by omega) (by omega) (by omega) (by omega)), sBq (σ := σ) (τ := τ) (fun i _ _ => hs i (by omega) (by omega) (by omega) (by omega)), sRq (σ := σ) (τ := τ) (fun i _ _ => hs i (by omega) (by omega) (by omega) (by omega)), aLq (b := lt) s1 w1 (fun i _ _ => hs i (by omega) (by omega) (by omega) (by omega)), aOq (b := od) s3 w3 (fun i _ _ => hs i (by omega) (by omega) (by omega) (by omega)), aXq (b := xx) (fun i _ _ => hs i (by omega) (by omega) (by omega) (by omega)), aRq (b := rm) s2 w2 (fun i _ _ => hs i (by omega) (by omega) (by omega) (by omega)), aPq (b := sp) s0 w0 (fun i _ _ => hs i (by omega) (by omega) (by omega) (by omega))] at key
  exact ⟨r, s, _, _, _, _, _, _, _, _, mk c τ, e1, e2, key, fun i hi => if_neg (by omega)⟩
end CH
