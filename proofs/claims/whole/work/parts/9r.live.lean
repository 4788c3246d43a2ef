/-! live, over a book on both sides -/
section LI
variable {b1 b2 b3 b4 b5 b8 b9 b10 b11 b12 b13 b23 b24 b25 : Int32} {b6 b21 b30 : Nat → Int64} {b7 b14 b15 b16 b17 b18 b19 b20 b22 b26 b27 b28 b29 b31 : Nat → Int32} {W : Nat → Int64} {c : Nat → Int32} {x1 x2 st st2 th hl l1 l2 l3 l4 l5 l6 l7 i1 i2 i3 i4 i5 i6 i7 : Int32} {la lb ll : Nat → Int32} {fu : Nat}
theorem R_live (hb : BKb b1 b2 b3 b4 b5 b6 b7 b8 b9 b10 b11 b12 b13 b14 b15 b16 b17 b18 b19 b20 b21 b22 b23 b24 b25 b26 b27 b28 b29 b30 b31 0 c W) (hL : hl = 0 ∨ ∀ k, k < 5 → la k = lb k) (hfu : 40000 < fu) :
    ∃ r s hl' o1 o2 o3 o4 o5 o6 o7 ll' la' i1' i2' i3' i4' i5' i6' i7' lb' c', ∃ d9 d10 d11 d12 d13 d14 d15 d16 d17 d19 d20,
      f_X11_live fu x1 st hl b1 b2 b3 b4 b5 b7 b8 b9 b10 b11 b12 b13 b14 b15 b16 b17 b18 b19 b20 b22 b23 b25 b26 b27 b28 b29 b31 l1 l2 l3 l4 l5 l6 l7 ll la = some (r, s, hl', d9, d10, d11, d12, d13, d14, d15, d16, d17, d19, d20, o1, o2, o3, o4, o5, o6, o7, ll', la') ∧
      f_X12_live fu x1 st2 th hl i1 i2 i3 i4 i5 i6 i7 c lb = some (r, s, nI 0, hl', i1', i2', i3', i4', i5', i6', i7', c', lb') ∧ BKb b1 b2 b3 b4 b5 b6 b7 b8 d9 d10 d11 d12 d13 d14 d15 d16 d17 b18 d19 d20 b21 b22 b23 b24 b25 b26 b27 b28 b29 b30 b31 0 c' W ∧ (∀ i, 111 ≤ i → c' i = c i) ∧ (hl' = 0 ∨ ∀ k, k < 5 → la' k = lb' k) := by
  obtain ⟨σ, ⟨w, h4, ⟨rfl, rfl, rfl, rfl, rfl⟩, ⟨rfl, rfl, rfl, rfl, rfl, rfl⟩, ⟨⟨lt, rfl⟩, ⟨dt, rfl⟩, ⟨kn, rfl⟩, ⟨md, rfl⟩, ⟨od, rfl⟩, ⟨xx, rfl⟩, ⟨sd, rfl⟩, ⟨us, rfl⟩, ⟨rm, rfl⟩, ⟨sp, rfl⟩⟩, hn, hR⟩, hσ⟩ := hb
  have ec := c_mk hσ
  have w0 := w.c0
  have w1 := w.c1
  have w2 := w.c2
  have w3 := w.c3
  have hR2 := hR
  rw [c_sh] at hR2
  obtain ⟨r, s, hl', o1, o2, o3, o4, o5, o6, o7, ll', la', i1', i2', i3', i4', i5', i6', i7', lb', τ, e1, e2, w', hs, h4', hl2⟩ := r_live (c := c) (x1 := x1) (st := st) (st2 := st2) (th := th) (i1 := i1) (i2 := i2) (i3 := i3) (i4 := i4) (i5 := i5) (i6 := i6) (i7 := i7) (l1 := l1) (l2 := l2) (l3 := l3) (l4 := l4) (l5 := l5) (l6 := l6) (l7 := l7) (ll := ll) (lt := lt) (dt := dt) (kn := kn) (md := md) (od := od) (xx := xx) (sd := sd) (us := us) (rm := rm) (sp := sp) w h4 hR2 hL hfu
  rw [← ec] at e2
  have s0 : τ 0 = σ 0 := hs 0 (by omega)
  have s1 : τ 1 = σ 1 := hs 1 (by omega)
  have s2 : τ 2 = σ 2 := hs 2 (by omega)
  have s3 : τ 3 = σ 3 := hs 3 (by omega)
  have key := bkb_up (σ := σ) (lt := lt) (dt := dt) (kn := kn) (md := md) (od := od) (xx := xx) (sd := sd) (us := us) (rm := rm) (sp := sp) w' h4' s0 s1 s2 hn hR
  rw [s0, s1, s2, s3, sBq (σ := σ) (τ := τ) (fun i _ _ => hs i (by omega)), sRq (σ := σ) (τ := τ) (fun i _ _ => hs i (by omega)), aLq (b := lt) s1 w1 (fun i _ _ => hs i (by omega)), aXq (b := xx) (fun i _ _ => hs i (by omega)), aRq (b := rm) s2 w2 (fun i _ _ => hs i (by omega)), aPq (b := sp) s0 w0 (fun i _ _ => hs i (by omega))] at key
  exact ⟨r, s, hl', o1, o2, o3, o4, o5, o6, o7, ll', la', i1', i2', i3', i4', i5', i6', i7', lb', mk c τ, _, _, _, _, _, _, _, _, _, _, _, e1, e2, key, fun i hi => if_neg (by omega), hl2⟩
end LI
