/-! each call keeps what holds: trays, tape, words, odds -/
section QB
variable {i : Nat → Int32} {j : Nat → Int64} {f : Nat → Nat → Int32} {g : Nat → Nat → Int64}
set_option maxRecDepth 100000 in
theorem Q_status (h : REL i j f g) : ∃ oc om, f_X11_status (i 0) = some oc ∧ f_X12_status (i 106) (i 107) = some om ∧ oc = om.1 ∧ REL (va_up i 107 om.2) j f g := by
  obtain ⟨st, ab, un, tr, ⟨T, tp, tf, tt⟩, ke, fk, fp, bk, ⟨m, hm, ma, mb, m1, m2, m3⟩, bo, hl, li⟩ := h
  exact ⟨_, _, rfl, rfl, st, ⟨st, ab, un, tr, ⟨T, tp, tf, tt⟩, ke, fk, fp, bk, ⟨m, hm, ma, mb, m1, m2, m3⟩, bo, hl, li⟩⟩
set_option maxRecDepth 100000 in
theorem Q_top (h : REL i j f g) : ∃ oc om, f_X11_top (j 0) = some oc ∧ f_X12_top (i 107) (j 3) = some om ∧ oc = om.1 ∧ REL (va_up i 107 om.2) j f g := by
  obtain ⟨st, ab, un, tr, ⟨T, tp, tf, tt⟩, ke, fk, fp, bk, ⟨m, hm, ma, mb, m1, m2, m3⟩, bo, hl, li⟩ := h
  exact ⟨_, _, rfl, rfl, ab, ⟨st, ab, un, tr, ⟨T, tp, tf, tt⟩, ke, fk, fp, bk, ⟨m, hm, ma, mb, m1, m2, m3⟩, bo, hl, li⟩⟩
set_option maxRecDepth 100000 in
theorem Q_bottom (h : REL i j f g) : ∃ oc om, f_X11_bottom (j 1) = some oc ∧ f_X12_bottom (i 107) (j 4) = some om ∧ oc = om.1 ∧ REL (va_up i 107 om.2) j f g := by
  obtain ⟨st, ab, un, tr, ⟨T, tp, tf, tt⟩, ke, fk, fp, bk, ⟨m, hm, ma, mb, m1, m2, m3⟩, bo, hl, li⟩ := h
  exact ⟨_, _, rfl, rfl, un, ⟨st, ab, un, tr, ⟨T, tp, tf, tt⟩, ke, fk, fp, bk, ⟨m, hm, ma, mb, m1, m2, m3⟩, bo, hl, li⟩⟩
set_option maxRecDepth 100000 in
theorem Q_tray (h : REL i j f g) (x1 : Int32) (x2 : Int32) (x3 : Int32) : ∃ oc om, f_X11_tray 100000 x1 x2 x3 (i 0) (f 1) (g 0) (g 1) (g 2) (g 3) (f 0) = some oc ∧ f_X12_tray 100000 x1 x2 x3 (i 106) (i 107) (g 22) (f 97) (f 96) = some om ∧ oc.1 = om.1 ∧ REL (va_up (va_up (va_up i 0 oc.2.1) 106 om.2.1) 107 om.2.2.1) j (va_up (va_up (va_up (va_up f 1 oc.2.2.1) 0 oc.2.2.2.2.2.2.2) 97 om.2.2.2.2.1) 96 om.2.2.2.2.2) (va_up (va_up (va_up (va_up (va_up g 0 oc.2.2.2.1) 1 oc.2.2.2.2.1) 2 oc.2.2.2.2.2.1) 3 oc.2.2.2.2.2.2.1) 22 om.2.2.2.1) := by
  obtain ⟨st, ab, un, tr, ⟨T, tp, tf, tt⟩, ke, fk, fp, bk, ⟨m, hm, ma, mb, m1, m2, m3⟩, bo, hl, li⟩ := h
  obtain ⟨r, s, R', so', le', nu', tm', ts', e1, e2, tr2⟩ := r_tray (fu := 100000) (x1 := x1) (x2 := x2) (x3 := x3) (st := (i 0)) (st2 := (i 106)) (th := (i 107)) tr (by omega)
  exact ⟨_, _, e1, e2, rfl, ⟨rfl, ab, un, tr_cg tr2 rfl rfl rfl rfl, ⟨T, tp, tf, tt⟩, ke, fk, fp, bk, ⟨m, hm, ma, mb, m1, m2, m3⟩, bo, hl, li⟩⟩
set_option maxRecDepth 100000 in
theorem Q_write (h : REL i j f g) (x1 : Int32) (x2 : Int32) (x3 : Int64) : ∃ oc om, f_X11_write x1 x2 x3 (i 0) (f 1) (g 0) (g 1) (g 2) (g 3) (f 0) = some oc ∧ f_X12_write x1 x2 x3 (i 106) (i 107) (g 22) (f 97) (f 96) = some om ∧ oc.1 = om.1 ∧ REL (va_up (va_up (va_up i 0 oc.2.1) 106 om.2.1) 107 om.2.2.1) j f (va_up (va_up (va_up (va_up (va_up g 0 oc.2.2.1) 1 oc.2.2.2.1) 2 oc.2.2.2.2.1) 3 oc.2.2.2.2.2) 22 om.2.2.2) := by
  obtain ⟨st, ab, un, tr, ⟨T, tp, tf, tt⟩, ke, fk, fp, bk, ⟨m, hm, ma, mb, m1, m2, m3⟩, bo, hl, li⟩ := h
  obtain ⟨r, s, R', nu', e1, e2, tr2⟩ := r_write (x1 := x1) (x2 := x2) (v := x3) (st := (i 0)) (st2 := (i 106)) (th := (i 107)) tr
  exact ⟨_, _, e1, e2, rfl, ⟨rfl, ab, un, tr_cg tr2 rfl rfl rfl rfl, ⟨T, tp, tf, tt⟩, ke, fk, fp, bk, ⟨m, hm, ma, mb, m1, m2, m3⟩, bo, hl, li⟩⟩
set_option maxRecDepth 100000 in
theorem Q_read (h : REL i j f g) (x1 : Int32) (x2 : Int32) : ∃ oc om, f_X11_read x1 x2 (i 0) (f 1) (g 0) (g 1) (g 2) (g 3) = some oc ∧ f_X12_read x1 x2 (i 106) (i 107) (g 22) (f 97) = some om ∧ oc.1 = om.1 ∧ REL (va_up (va_up (va_up i 0 oc.2) 106 om.2.1) 107 om.2.2) j f g := by
  obtain ⟨st, ab, un, tr, ⟨T, tp, tf, tt⟩, ke, fk, fp, bk, ⟨m, hm, ma, mb, m1, m2, m3⟩, bo, hl, li⟩ := h
  obtain ⟨r, s, e1, e2⟩ := r_read (x1 := x1) (x2 := x2) (st := (i 0)) (st2 := (i 106)) (th := (i 107)) tr
  exact ⟨_, _, e1, e2, rfl, ⟨rfl, ab, un, tr, ⟨T, tp, tf, tt⟩, ke, fk, fp, bk, ⟨m, hm, ma, mb, m1, m2, m3⟩, bo, hl, li⟩⟩
set_option maxRecDepth 100000 in
theorem Q_pour (h : REL i j f g) (x1 : Int32) (x2 : Int32) (x3 : Int32) (x4 : Int32) (x5 : Int32) : ∃ oc om, f_X11_pour x1 x2 x3 x4 x5 (i 0) (f 1) (g 0) (g 1) (g 2) (g 3) (f 0) = some oc ∧ f_X12_pour 100000 x1 x2 x3 x4 x5 (i 106) (i 107) (g 22) (f 97) (f 96) = some om ∧ oc.1 = om.1 ∧ REL (va_up (va_up (va_up i 0 oc.2.1) 106 om.2.1) 107 om.2.2.1) j f (va_up (va_up (va_up (va_up (va_up g 0 oc.2.2.1) 1 oc.2.2.2.1) 2 oc.2.2.2.2.1) 3 oc.2.2.2.2.2) 22 om.2.2.2) := by
  obtain ⟨st, ab, un, tr, ⟨T, tp, tf, tt⟩, ke, fk, fp, bk, ⟨m, hm, ma, mb, m1, m2, m3⟩, bo, hl, li⟩ := h
  obtain ⟨r, s, R', nu', e1, e2, tr2⟩ := r_pour (x1 := x1) (x2 := x2) (x3 := x3) (x4 := x4) (x5 := x5) (st := (i 0)) (fu := 100000) (st2 := (i 106)) (th := (i 107)) tr (by omega)
  exact ⟨_, _, e1, e2, rfl, ⟨rfl, ab, un, tr_cg tr2 rfl rfl rfl rfl, ⟨T, tp, tf, tt⟩, ke, fk, fp, bk, ⟨m, hm, ma, mb, m1, m2, m3⟩, bo, hl, li⟩⟩
set_option maxRecDepth 100000 in
theorem Q_feed (h : REL i j f g) (x1 : Int32) (x2 : Int32) (x3 : Int32) (x4 : Int32) (x5 : Int32) : ∃ oc om, f_X11_feed 100000 x1 x2 x3 x4 x5 (i 5) (f 6) = some oc ∧ f_X12_feed 100000 x1 x2 x3 x4 x5 (i 107) (i 108) (f 98) = some om ∧ oc.1 = om.1 ∧ REL (va_up (va_up (va_up i 5 oc.2.1) 107 om.2.1) 108 om.2.2.1) j (va_up (va_up f 6 oc.2.2) 98 om.2.2.2) g := by
  obtain ⟨st, ab, un, tr, ⟨T, tp, tf, tt⟩, ke, fk, fp, bk, ⟨m, hm, ma, mb, m1, m2, m3⟩, bo, hl, li⟩ := h
  obtain ⟨r, T', tp', tq', e1, e2, tp2⟩ := r_feed (fu := 100000) (x1 := x1) (x2 := x2) (x3 := x3) (x4 := x4) (x5 := x5) (th := (i 107)) tp (by omega)
  rw [← tf] at e1
  rw [← tt] at e2
  exact ⟨_, _, e1, e2, rfl, ⟨st, ab, un, tr, ⟨T', tp2, rfl, rfl⟩, ke, fk, fp, bk, ⟨m, hm, ma, mb, m1, m2, m3⟩, bo, hl, li⟩⟩
set_option maxRecDepth 100000 in
theorem Q_fault (h : REL i j f g) (x1 : Int32) : ∃ oc om, f_X11_fault x1 (i 12) (i 13) = some oc ∧ f_X12_fault x1 (i 107) (i 110) (i 111) = some om ∧ oc = om.1 ∧ REL (va_up i 107 om.2) j f g := by
  obtain ⟨st, ab, un, tr, ⟨T, tp, tf, tt⟩, ke, fk, fp, bk, ⟨m, hm, ma, mb, m1, m2, m3⟩, bo, hl, li⟩ := h
  obtain ⟨r, e1, e2⟩ := r_fault (x1 := x1) (a := (i 12)) (b := (i 13)) (th := (i 107)) 
  rw [fk, fp] at e2
  exact ⟨_, _, e1, e2, rfl, ⟨st, ab, un, tr, ⟨T, tp, tf, tt⟩, ke, fk, fp, bk, ⟨m, hm, ma, mb, m1, m2, m3⟩, bo, hl, li⟩⟩
set_option maxRecDepth 100000 in
theorem Q_bestAt (h : REL i j f g) (x1 : Int32) : ∃ oc om, f_X11_bestAt x1 (i 0) (i 44) (f 44) = some oc ∧ f_X12_bestAt x1 (i 106) (i 107) (i 122) (f 102) = some om ∧ oc.1 = om.1 ∧ REL (va_up (va_up (va_up i 0 oc.2) 106 om.2.1) 107 om.2.2) j f g := by
  obtain ⟨st, ab, un, tr, ⟨T, tp, tf, tt⟩, ke, fk, fp, bk, ⟨m, hm, ma, mb, m1, m2, m3⟩, bo, hl, li⟩ := h
  obtain ⟨r, s, e1, e2⟩ := r_bestAt (x1 := x1) (st := (i 0)) (st2 := (i 106)) (th := (i 107)) bo
  exact ⟨_, _, e1, e2, rfl, ⟨rfl, ab, un, tr, ⟨T, tp, tf, tt⟩, ke, fk, fp, bk, ⟨m, hm, ma, mb, m1, m2, m3⟩, bo, hl, li⟩⟩
set_option maxRecDepth 100000 in
theorem Q_lived (h : REL i j f g) (x1 : Int32) : ∃ oc om, f_X11_lived x1 (i 0) (i 2) (f 53) = some oc ∧ f_X12_lived x1 (i 106) (i 107) (i 126) (f 106) = some om ∧ oc.1 = om.1 ∧ REL (va_up (va_up (va_up i 0 oc.2) 106 om.2.1) 107 om.2.2) j f g := by
  obtain ⟨st, ab, un, tr, ⟨T, tp, tf, tt⟩, ke, fk, fp, bk, ⟨m, hm, ma, mb, m1, m2, m3⟩, bo, hl, li⟩ := h
  obtain ⟨r, s, e1, e2⟩ := r_lived (x1 := x1) (st := (i 0)) (st2 := (i 106)) (th := (i 107)) li
  rw [hl] at e2
  exact ⟨_, _, e1, e2, rfl, ⟨rfl, ab, un, tr, ⟨T, tp, tf, tt⟩, ke, fk, fp, bk, ⟨m, hm, ma, mb, m1, m2, m3⟩, bo, hl, li⟩⟩
set_option maxRecDepth 100000 in
theorem Q_pricked (h : REL i j f g) (x1 : Int32) (x2 : Int32) (x3 : Int32) (x4 : Int32) : ∃ oc om, f_X11_pricked 100000 x1 x2 x3 x4 (i 0) (f 1) (g 0) (g 1) (g 2) (g 3) (i 3) (i 4) (f 3) (g 4) (f 2) = some oc ∧ f_X12_pricked 100000 x1 x2 x3 x4 (i 106) (i 107) (g 22) (f 97) (g 24) = some om ∧ oc.1 = om.1 ∧ REL (va_up (va_up (va_up (va_up (va_up i 0 oc.2.1) 3 oc.2.2.1) 4 oc.2.2.2.1) 106 om.2.1) 107 om.2.2.1) j (va_up (va_up f 3 oc.2.2.2.2.1) 2 oc.2.2.2.2.2.2) (va_up (va_up g 4 oc.2.2.2.2.2.1) 24 om.2.2.2) := by
  obtain ⟨st, ab, un, tr, ⟨T, tp, tf, tt⟩, ke, fk, fp, bk, ⟨m, hm, ma, mb, m1, m2, m3⟩, bo, hl, li⟩ := h
  obtain ⟨r, s, o, mwy', e1, e2⟩ := r_pricked (fu := 100000) (x1 := x1) (x2 := x2) (x3 := x3) (x4 := x4) (st := (i 0)) (wl := (i 3)) (rl := (i 4)) (rw0 := (f 3)) (wy := (g 4)) (wd := (f 2)) (st2 := (i 106)) (th := (i 107)) (mwy := (g 24)) tr (by omega)
  exact ⟨_, _, e1, e2, rfl, ⟨rfl, ab, un, tr, ⟨T, tp, tf, tt⟩, ke, fk, fp, bk, ⟨m, hm, ma, mb, m1, m2, m3⟩, bo, hl, li⟩⟩
set_option maxRecDepth 100000 in
theorem Q_prickAt (h : REL i j f g) (x1 : Int32) (x2 : Int32) (x3 : Int32) (x4 : Int32) (x5 : Int32) : ∃ oc om, f_X11_prickAt 100000 x1 x2 x3 x4 x5 (i 0) (f 1) (g 0) (g 1) (g 2) (g 3) (i 3) (i 4) (f 4) (f 3) (f 2) = some oc ∧ f_X12_prickAt 100000 x1 x2 x3 x4 x5 (i 106) (i 107) (g 22) (f 105) (f 97) = some om ∧ oc.1 = om.1 ∧ REL (va_up (va_up (va_up (va_up (va_up i 0 oc.2.1) 3 oc.2.2.1) 4 oc.2.2.2.1) 106 om.2.1) 107 om.2.2.1) j (va_up (va_up (va_up (va_up f 4 oc.2.2.2.2.1) 3 oc.2.2.2.2.2.1) 2 oc.2.2.2.2.2.2) 105 om.2.2.2) g := by
  obtain ⟨st, ab, un, tr, ⟨T, tp, tf, tt⟩, ke, fk, fp, bk, ⟨m, hm, ma, mb, m1, m2, m3⟩, bo, hl, li⟩ := h
  obtain ⟨r, s, o, mpl', e1, e2⟩ := r_prickAt (fu := 100000) (x1 := x1) (x2 := x2) (x3 := x3) (x4 := x4) (x5 := x5) (st := (i 0)) (wl := (i 3)) (rl := (i 4)) (pls := (f 4)) (rw0 := (f 3)) (wd := (f 2)) (st2 := (i 106)) (th := (i 107)) (mpl := (f 105)) tr (by omega)
  exact ⟨_, _, e1, e2, rfl, ⟨rfl, ab, un, tr, ⟨T, tp, tf, tt⟩, ke, fk, fp, bk, ⟨m, hm, ma, mb, m1, m2, m3⟩, bo, hl, li⟩⟩
set_option maxRecDepth 100000 in
theorem Q_shortest (h : REL i j f g) (x1 : Int32) (x2 : Int32) (x3 : Int32) (x4 : Int32) : ∃ oc om, f_X11_shortest 100000 x1 x2 x3 x4 (i 0) (f 1) (g 0) (g 1) (g 2) (g 3) (i 3) (i 4) (f 4) (f 3) (f 2) = some oc ∧ f_X12_shortest 100000 x1 x2 x3 x4 (i 106) (i 107) (g 22) (f 105) (f 97) = some om ∧ oc.1 = om.1 ∧ REL (va_up (va_up (va_up (va_up (va_up i 0 oc.2.1) 3 oc.2.2.1) 4 oc.2.2.2.1) 106 om.2.1) 107 om.2.2.1) j (va_up (va_up (va_up (va_up f 4 oc.2.2.2.2.1) 3 oc.2.2.2.2.2.1) 2 oc.2.2.2.2.2.2) 105 om.2.2.2) g := by
  obtain ⟨st, ab, un, tr, ⟨T, tp, tf, tt⟩, ke, fk, fp, bk, ⟨m, hm, ma, mb, m1, m2, m3⟩, bo, hl, li⟩ := h
  obtain ⟨r, s, o, mpl', e1, e2⟩ := r_shortest (fu := 100000) (x1 := x1) (x2 := x2) (x3 := x3) (x4 := x4) (st := (i 0)) (wl := (i 3)) (rl := (i 4)) (pls := (f 4)) (rw0 := (f 3)) (wd := (f 2)) (st2 := (i 106)) (th := (i 107)) (mpl := (f 105)) tr (by omega)
  exact ⟨_, _, e1, e2, rfl, ⟨rfl, ab, un, tr, ⟨T, tp, tf, tt⟩, ke, fk, fp, bk, ⟨m, hm, ma, mb, m1, m2, m3⟩, bo, hl, li⟩⟩
end QB
