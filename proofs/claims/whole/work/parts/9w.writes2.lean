/-! each call keeps what holds: those that change the book -/
section QC
variable {i : Nat → Int32} {j : Nat → Int64} {f : Nat → Nat → Int32} {g : Nat → Nat → Int64}
set_option maxRecDepth 100000 in
set_option maxHeartbeats 4000000 in
theorem Q_damp (h : REL i j f g) (x1 : Int32) (x2 : Int32) : ∃ oc om, f_X11_damp x1 x2 (i 0) (i 18) (i 24) = some oc ∧ f_X12_damp x1 x2 (i 106) (i 107) (f 99) = some om ∧ oc.1 = om.1 ∧ REL (va_up (va_up (va_up (va_up i 0 oc.2.1) 24 oc.2.2) 106 om.2.1) 107 om.2.2.1) j (va_up f 99 om.2.2.2) g := by
  obtain ⟨st, ab, un, tr, ⟨T, tp, tf, tt⟩, ke, fk, fp, bk, ⟨m, hm, ma, mb, m1, m2, m3⟩, bo, hl, li⟩ := h
  obtain ⟨r, s, d11, c', e1, e2, key, hc⟩ := R_damp (x1 := x1) (x2 := x2) (st := (i 0)) (st2 := (i 106)) (th := (i 107)) bk
  exact ⟨_, _, e1, e2, rfl, ⟨rfl, ab, un, tr, ⟨T, tp, tf, tt⟩, ke, fk, fp, key, ⟨m, hm, ma, mb, fun q => bkb_congr (m1 q) (fun i hi => hc _ (by omega)) (fun _ _ => rfl), fun q => bkb_congr (m2 q) (fun i hi => hc _ (by omega)) (fun _ _ => rfl), fun q => bkb_congr (m3 q) (fun i hi => hc _ (by omega)) (fun _ _ => rfl)⟩, bo, hl, li⟩⟩
set_option maxRecDepth 100000 in
set_option maxHeartbeats 4000000 in
theorem Q_ill (h : REL i j f g) (x1 : Int32) (x2 : Int32) : ∃ oc om, f_X11_ill x1 x2 (i 0) (i 16) (i 23) = some oc ∧ f_X12_ill x1 x2 (i 106) (i 107) (f 99) = some om ∧ oc.1 = om.1 ∧ REL (va_up (va_up (va_up (va_up i 0 oc.2.1) 23 oc.2.2) 106 om.2.1) 107 om.2.2.1) j (va_up f 99 om.2.2.2) g := by
  obtain ⟨st, ab, un, tr, ⟨T, tp, tf, tt⟩, ke, fk, fp, bk, ⟨m, hm, ma, mb, m1, m2, m3⟩, bo, hl, li⟩ := h
  obtain ⟨r, s, d10, c', e1, e2, key, hc⟩ := R_ill (x1 := x1) (x2 := x2) (st := (i 0)) (st2 := (i 106)) (th := (i 107)) bk
  exact ⟨_, _, e1, e2, rfl, ⟨rfl, ab, un, tr, ⟨T, tp, tf, tt⟩, ke, fk, fp, key, ⟨m, hm, ma, mb, fun q => bkb_congr (m1 q) (fun i hi => hc _ (by omega)) (fun _ _ => rfl), fun q => bkb_congr (m2 q) (fun i hi => hc _ (by omega)) (fun _ _ => rfl), fun q => bkb_congr (m3 q) (fun i hi => hc _ (by omega)) (fun _ _ => rfl)⟩, bo, hl, li⟩⟩
set_option maxRecDepth 100000 in
set_option maxHeartbeats 4000000 in
theorem Q_tell (h : REL i j f g) (x1 : Int32) (x2 : Int32) : ∃ oc om, f_X11_tell x1 x2 (i 0) (i 16) (i 17) (f 12) = some oc ∧ f_X12_tell x1 x2 (i 106) (i 107) (f 99) = some om ∧ oc.1 = om.1 ∧ REL (va_up (va_up (va_up i 0 oc.2.1) 106 om.2.1) 107 om.2.2.1) j (va_up (va_up f 12 oc.2.2) 99 om.2.2.2) g := by
  obtain ⟨st, ab, un, tr, ⟨T, tp, tf, tt⟩, ke, fk, fp, bk, ⟨m, hm, ma, mb, m1, m2, m3⟩, bo, hl, li⟩ := h
  obtain ⟨r, s, d15, c', e1, e2, key, hc⟩ := R_tell (x1 := x1) (x2 := x2) (st := (i 0)) (st2 := (i 106)) (th := (i 107)) bk
  exact ⟨_, _, e1, e2, rfl, ⟨rfl, ab, un, tr, ⟨T, tp, tf, tt⟩, ke, fk, fp, key, ⟨m, hm, ma, mb, fun q => bkb_congr (m1 q) (fun i hi => hc _ (by omega)) (fun _ _ => rfl), fun q => bkb_congr (m2 q) (fun i hi => hc _ (by omega)) (fun _ _ => rfl), fun q => bkb_congr (m3 q) (fun i hi => hc _ (by omega)) (fun _ _ => rfl)⟩, bo, hl, li⟩⟩
set_option maxRecDepth 100000 in
set_option maxHeartbeats 4000000 in
theorem Q_watch (h : REL i j f g) (x1 : Int32) (x2 : Int32) : ∃ oc om, f_X11_watch x1 x2 (i 0) (i 18) (f 14) = some oc ∧ f_X12_watch x1 x2 (i 106) (i 107) (f 99) = some om ∧ oc.1 = om.1 ∧ REL (va_up (va_up (va_up i 0 oc.2.1) 106 om.2.1) 107 om.2.2.1) j (va_up (va_up f 14 oc.2.2) 99 om.2.2.2) g := by
  obtain ⟨st, ab, un, tr, ⟨T, tp, tf, tt⟩, ke, fk, fp, bk, ⟨m, hm, ma, mb, m1, m2, m3⟩, bo, hl, li⟩ := h
  obtain ⟨r, s, d18, c', e1, e2, key, hc⟩ := R_watch (x1 := x1) (x2 := x2) (st := (i 0)) (st2 := (i 106)) (th := (i 107)) bk
  exact ⟨_, _, e1, e2, rfl, ⟨rfl, ab, un, tr, ⟨T, tp, tf, tt⟩, ke, fk, fp, key, ⟨m, hm, ma, mb, fun q => bkb_congr (m1 q) (fun i hi => hc _ (by omega)) (fun _ _ => rfl), fun q => bkb_congr (m2 q) (fun i hi => hc _ (by omega)) (fun _ _ => rfl), fun q => bkb_congr (m3 q) (fun i hi => hc _ (by omega)) (fun _ _ => rfl)⟩, bo, hl, li⟩⟩
set_option maxRecDepth 100000 in
set_option maxHeartbeats 4000000 in
theorem Q_move (h : REL i j f g) (x1 : Int32) (x2 : Int32) : ∃ oc om, f_X11_move 100000 x1 x2 (i 0) (i 16) (i 21) (f 11) = some oc ∧ f_X12_move 100000 x1 x2 (i 106) (i 107) (f 99) = some om ∧ oc.1 = om.1 ∧ REL (va_up (va_up (va_up i 0 oc.2.1) 106 om.2.1) 107 om.2.2.1) j (va_up (va_up f 11 oc.2.2) 99 om.2.2.2) g := by
  obtain ⟨st, ab, un, tr, ⟨T, tp, tf, tt⟩, ke, fk, fp, bk, ⟨m, hm, ma, mb, m1, m2, m3⟩, bo, hl, li⟩ := h
  obtain ⟨r, s, d17, c', e1, e2, key, hc⟩ := R_move (fu := 100000) (x1 := x1) (x2 := x2) (st := (i 0)) (st2 := (i 106)) (th := (i 107)) bk (by omega)
  exact ⟨_, _, e1, e2, rfl, ⟨rfl, ab, un, tr, ⟨T, tp, tf, tt⟩, ke, fk, fp, key, ⟨m, hm, ma, mb, fun q => bkb_congr (m1 q) (fun i hi => hc _ (by omega)) (fun _ _ => rfl), fun q => bkb_congr (m2 q) (fun i hi => hc _ (by omega)) (fun _ _ => rfl), fun q => bkb_congr (m3 q) (fun i hi => hc _ (by omega)) (fun _ _ => rfl)⟩, bo, hl, li⟩⟩
set_option maxRecDepth 100000 in
set_option maxHeartbeats 4000000 in
theorem Q_rub (h : REL i j f g) (x1 : Int32) : ∃ oc om, f_X11_rub 100000 x1 (i 0) (i 18) (f 15) (f 17) (f 16) = some oc ∧ f_X12_rub 100000 x1 (i 106) (i 107) (f 99) = some om ∧ oc.1 = om.1 ∧ REL (va_up (va_up (va_up i 0 oc.2.1) 106 om.2.1) 107 om.2.2.1) j (va_up (va_up (va_up (va_up f 15 oc.2.2.1) 17 oc.2.2.2.1) 16 oc.2.2.2.2) 99 om.2.2.2) g := by
  obtain ⟨st, ab, un, tr, ⟨T, tp, tf, tt⟩, ke, fk, fp, bk, ⟨m, hm, ma, mb, m1, m2, m3⟩, bo, hl, li⟩ := h
  obtain ⟨r, s, d14, d19, d20, c', e1, e2, key, hc⟩ := R_rub (fu := 100000) (x1 := x1) (st := (i 0)) (st2 := (i 106)) (th := (i 107)) bk (by omega)
  exact ⟨_, _, e1, e2, rfl, ⟨rfl, ab, un, tr, ⟨T, tp, tf, tt⟩, ke, fk, fp, key, ⟨m, hm, ma, mb, fun q => bkb_congr (m1 q) (fun i hi => hc _ (by omega)) (fun _ _ => rfl), fun q => bkb_congr (m2 q) (fun i hi => hc _ (by omega)) (fun _ _ => rfl), fun q => bkb_congr (m3 q) (fun i hi => hc _ (by omega)) (fun _ _ => rfl)⟩, bo, hl, li⟩⟩
set_option maxRecDepth 100000 in
set_option maxHeartbeats 4000000 in
theorem Q_turn (h : REL i j f g) (x1 : Int32) : ∃ oc om, f_X11_turn 100000 x1 (i 0) (i 17) (i 18) (i 19) (i 20) (f 9) (i 21) (i 22) (i 23) (i 24) (i 25) (i 26) (f 15) (f 12) (f 13) (f 11) (f 17) (f 16) (f 10) (f 8) = some oc ∧ f_X12_turn 100000 x1 (i 106) (i 107) (f 99) = some om ∧ oc.1 = om.1 ∧ REL (va_up (va_up (va_up (va_up (va_up (va_up i 0 oc.2.1) 22 oc.2.2.1) 25 oc.2.2.2.1) 26 oc.2.2.2.2.1) 106 om.2.1) 107 om.2.2.1) j (va_up (va_up (va_up (va_up (va_up (va_up f 15 oc.2.2.2.2.2.1) 12 oc.2.2.2.2.2.2.1) 13 oc.2.2.2.2.2.2.2.1) 17 oc.2.2.2.2.2.2.2.2.1) 16 oc.2.2.2.2.2.2.2.2.2) 99 om.2.2.2) g := by
  obtain ⟨st, ab, un, tr, ⟨T, tp, tf, tt⟩, ke, fk, fp, bk, ⟨m, hm, ma, mb, m1, m2, m3⟩, bo, hl, li⟩ := h
  obtain ⟨r, s, d9, d12, d13, d14, d15, d16, d19, d20, c', e1, e2, key, hc⟩ := R_turn (fu := 100000) (x1 := x1) (st := (i 0)) (st2 := (i 106)) (th := (i 107)) bk (by omega)
  exact ⟨_, _, e1, e2, rfl, ⟨rfl, ab, un, tr, ⟨T, tp, tf, tt⟩, ke, fk, fp, key, ⟨m, hm, ma, mb, fun q => bkb_congr (m1 q) (fun i hi => hc _ (by omega)) (fun _ _ => rfl), fun q => bkb_congr (m2 q) (fun i hi => hc _ (by omega)) (fun _ _ => rfl), fun q => bkb_congr (m3 q) (fun i hi => hc _ (by omega)) (fun _ _ => rfl)⟩, bo, hl, li⟩⟩
set_option maxRecDepth 100000 in
set_option maxHeartbeats 4000000 in
theorem Q_live (h : REL i j f g) (x1 : Int32) : ∃ oc om, f_X11_live 100000 x1 (i 0) (i 2) (i 16) (i 17) (i 18) (i 19) (i 20) (f 9) (i 21) (i 22) (i 23) (i 24) (i 25) (i 26) (f 15) (f 12) (f 13) (f 11) (f 14) (f 17) (f 16) (f 10) (i 27) (i 29) (f 18) (f 21) (f 19) (f 20) (f 8) (i 51) (i 52) (i 53) (i 54) (i 55) (i 56) (i 57) (f 45) (f 53) = some oc ∧ f_X12_live 100000 x1 (i 106) (i 107) (i 126) (i 127) (i 128) (i 129) (i 130) (i 131) (i 132) (i 133) (f 99) (f 106) = some om ∧ oc.1 = om.1 ∧ REL (va_up (va_up (va_up (va_up (va_up (va_up (va_up (va_up (va_up (va_up (va_up (va_up (va_up (va_up (va_up (va_up (va_up (va_up (va_up (va_up (va_up (va_up (va_up (va_up i 0 oc.2.1) 2 oc.2.2.1) 22 oc.2.2.2.1) 23 oc.2.2.2.2.1) 24 oc.2.2.2.2.2.1) 25 oc.2.2.2.2.2.2.1) 26 oc.2.2.2.2.2.2.2.1) 51 oc.2.2.2.2.2.2.2.2.2.2.2.2.2.2.1) 52 oc.2.2.2.2.2.2.2.2.2.2.2.2.2.2.2.1) 53 oc.2.2.2.2.2.2.2.2.2.2.2.2.2.2.2.2.1) 54 oc.2.2.2.2.2.2.2.2.2.2.2.2.2.2.2.2.2.1) 55 oc.2.2.2.2.2.2.2.2.2.2.2.2.2.2.2.2.2.2.1) 56 oc.2.2.2.2.2.2.2.2.2.2.2.2.2.2.2.2.2.2.2.1) 57 oc.2.2.2.2.2.2.2.2.2.2.2.2.2.2.2.2.2.2.2.2.1) 106 om.2.1) 107 om.2.2.1) 126 om.2.2.2.1) 127 om.2.2.2.2.1) 128 om.2.2.2.2.2.1) 129 om.2.2.2.2.2.2.1) 130 om.2.2.2.2.2.2.2.1) 131 om.2.2.2.2.2.2.2.2.1) 132 om.2.2.2.2.2.2.2.2.2.1) 133 om.2.2.2.2.2.2.2.2.2.2.1) j (va_up (va_up (va_up (va_up (va_up (va_up (va_up (va_up (va_up (va_up f 15 oc.2.2.2.2.2.2.2.2.1) 12 oc.2.2.2.2.2.2.2.2.2.1) 13 oc.2.2.2.2.2.2.2.2.2.2.1) 11 oc.2.2.2.2.2.2.2.2.2.2.2.1) 17 oc.2.2.2.2.2.2.2.2.2.2.2.2.1) 16 oc.2.2.2.2.2.2.2.2.2.2.2.2.2.1) 45 oc.2.2.2.2.2.2.2.2.2.2.2.2.2.2.2.2.2.2.2.2.2.1) 53 oc.2.2.2.2.2.2.2.2.2.2.2.2.2.2.2.2.2.2.2.2.2.2) 99 om.2.2.2.2.2.2.2.2.2.2.2.1) 106 om.2.2.2.2.2.2.2.2.2.2.2.2) g := by
  obtain ⟨st, ab, un, tr, ⟨T, tp, tf, tt⟩, ke, fk, fp, bk, ⟨m, hm, ma, mb, m1, m2, m3⟩, bo, hl, li⟩ := h
  obtain ⟨r, s, hl', o1, o2, o3, o4, o5, o6, o7, ll', la', i1', i2', i3', i4', i5', i6', i7', lb', c', d9, d10, d11, d12, d13, d14, d15, d16, d17, d19, d20, e1, e2, key, hc, hl2⟩ := R_live (fu := 100000) (x1 := x1) (st := (i 0)) (hl := (i 2)) (l1 := (i 51)) (l2 := (i 52)) (l3 := (i 53)) (l4 := (i 54)) (l5 := (i 55)) (l6 := (i 56)) (l7 := (i 57)) (ll := (f 45)) (la := (f 53)) (st2 := (i 106)) (th := (i 107)) (i1 := (i 127)) (i2 := (i 128)) (i3 := (i 129)) (i4 := (i 130)) (i5 := (i 131)) (i6 := (i 132)) (i7 := (i 133)) (lb := (f 106)) bk li (by omega)
  rw [hl] at e2
  exact ⟨_, _, e1, e2, rfl, ⟨rfl, ab, un, tr, ⟨T, tp, tf, tt⟩, ke, fk, fp, key, ⟨m, hm, ma, mb, fun q => bkb_congr (m1 q) (fun i hi => hc _ (by omega)) (fun _ _ => rfl), fun q => bkb_congr (m2 q) (fun i hi => hc _ (by omega)) (fun _ _ => rfl), fun q => bkb_congr (m3 q) (fun i hi => hc _ (by omega)) (fun _ _ => rfl)⟩, bo, rfl, hl2⟩⟩
end QC
