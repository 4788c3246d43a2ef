/-! what a constructor stands on: the classes that the start knows; new arrays, new objects, a constructor's call -/
theorem ar_I : Cond.arrayClass .int ∈ mp_B := mp_c1 50 rfl rfl
theorem ar_J : Cond.arrayClass .long ∈ mp_B := mp_c1 49 rfl rfl
theorem ar_B : Cond.arrayClass .byte ∈ mp_B := mp_c1 200 rfl rfl
theorem ob_i : Cond.instanceMethod Lib.objectInit ∈ mp_B := mp_c1 26 rfl rfl
theorem ob_c : Cond.code Lib.objectInit ⟨#[0xb1]⟩ 1 none ∈ mp_B := mp_c1 27 rfl rfl
theorem ins_X0 : Cond.instantiable RX0 4 ∈ mp_B := mp_c2 160 rfl rfl
theorem ins_X1 : Cond.instantiable RX1 13 ∈ mp_B := mp_c1 225 rfl rfl
theorem ins_X2 : Cond.instantiable RX2 1 ∈ mp_B := mp_c1 202 rfl rfl
theorem ins_X3 : Cond.instantiable RX3 9 ∈ mp_B := mp_c2 183 rfl rfl
theorem ins_X4 : Cond.instantiable RX4 4 ∈ mp_B := mp_c1 77 rfl rfl
theorem ins_X5 : Cond.instantiable RX5 7 ∈ mp_B := mp_c2 55 rfl rfl
theorem ins_X6 : Cond.instantiable RX6 2 ∈ mp_B := mp_c1 212 rfl rfl
theorem ins_X7 : Cond.instantiable RX7 13 ∈ mp_B := mp_c1 231 rfl rfl
theorem ins_X8 : Cond.instantiable RX8 12 ∈ mp_B := mp_c1 98 rfl rfl
theorem ins_X9 : Cond.instantiable RX9 3 ∈ mp_B := mp_c1 29 rfl rfl
theorem ins_X10 : Cond.instantiable RX10 6 ∈ mp_B := mp_c1 52 rfl rfl
theorem ins_X11 : Cond.instantiable RX11 15 ∈ mp_B := mp_c1 21 rfl rfl
theorem cl_L_18 : Cond.classLink RL 18 RX11 ∈ mp_B := mp_c1 20 rfl rfl
theorem lo_X11 : Cond.methodLink RX11 1 Lib.objectInit ∈ mp_B := mp_c1 25 rfl rfl
theorem cl_X11_13 : Cond.classLink RX11 13 RX9 ∈ mp_B := mp_c1 28 rfl rfl
theorem lo_X9 : Cond.methodLink RX9 3 Lib.objectInit ∈ mp_B := mp_c1 33 rfl rfl
theorem cl_X9_9 : Cond.classLink RX9 9 "[[J" ∈ mp_B := mp_c1 34 rfl rfl
theorem cl_X11_20 : Cond.classLink RX11 20 RX10 ∈ mp_B := mp_c1 51 rfl rfl
theorem lo_X10 : Cond.methodLink RX10 3 Lib.objectInit ∈ mp_B := mp_c1 56 rfl rfl
theorem cl_X11_27 : Cond.classLink RX11 27 RX4 ∈ mp_B := mp_c1 76 rfl rfl
theorem lo_X4 : Cond.methodLink RX4 3 Lib.objectInit ∈ mp_B := mp_c1 81 rfl rfl
theorem cl_X11_34 : Cond.classLink RX11 34 RX8 ∈ mp_B := mp_c1 97 rfl rfl
theorem lo_X8 : Cond.methodLink RX8 3 Lib.objectInit ∈ mp_B := mp_c1 102 rfl rfl
theorem cl_X11_41 : Cond.classLink RX11 41 RX2 ∈ mp_B := mp_c1 201 rfl rfl
theorem lo_X2 : Cond.methodLink RX2 3 Lib.objectInit ∈ mp_B := mp_c1 206 rfl rfl
theorem cl_X11_48 : Cond.classLink RX11 48 RX6 ∈ mp_B := mp_c1 211 rfl rfl
theorem lo_X6 : Cond.methodLink RX6 3 Lib.objectInit ∈ mp_B := mp_c1 216 rfl rfl
theorem cl_X11_55 : Cond.classLink RX11 55 RX1 ∈ mp_B := mp_c1 224 rfl rfl
theorem lo_X1 : Cond.methodLink RX1 3 Lib.objectInit ∈ mp_B := mp_c1 229 rfl rfl
theorem cl_X1_47 : Cond.classLink RX1 47 RX7 ∈ mp_B := mp_c1 230 rfl rfl
theorem lo_X7 : Cond.methodLink RX7 3 Lib.objectInit ∈ mp_B := mp_c1 235 rfl rfl
theorem cl_X1_54 : Cond.classLink RX1 54 RX5 ∈ mp_B := mp_c2 54 rfl rfl
theorem lo_X5 : Cond.methodLink RX5 3 Lib.objectInit ∈ mp_B := mp_c2 59 rfl rfl
theorem cl_X11_72 : Cond.classLink RX11 72 RX0 ∈ mp_B := mp_c2 159 rfl rfl
theorem lo_X0 : Cond.methodLink RX0 3 Lib.objectInit ∈ mp_B := mp_c2 164 rfl rfl
theorem cl_X0_9 : Cond.classLink RX0 9 RX7 ∈ mp_B := mp_c2 165 rfl rfl
theorem cl_X11_79 : Cond.classLink RX11 79 RX3 ∈ mp_B := mp_c2 182 rfl rfl
theorem lo_X3 : Cond.methodLink RX3 3 Lib.objectInit ∈ mp_B := mp_c2 187 rfl rfl
theorem cl_X3_39 : Cond.classLink RX3 39 RX7 ∈ mp_B := mp_c2 188 rfl rfl
/-- the start knows every class, every array's class -/
theorem mp_known {s : State} {args : Array Value} (hts : ∀ w ∈ mp_B, w.before args s = true) (hR : (Cond.arrayOver (.array .long)).before args s = true) (hQ : (Cond.arrayOver (.object "MarginPlan$Book")).before args s = true) : ∃ (D : va_G) (T : Nat → ClassId), va_K D mp_cl (mp_ty T) s := by
  obtain ⟨c0, i0, k0⟩ := u_known (n := 4) hts win_X0 (hts _ ins_X0)
  obtain ⟨c1, i1, k1⟩ := u_known (n := 13) hts win_X1 (hts _ ins_X1)
  obtain ⟨c2, i2, k2⟩ := u_known (n := 1) hts win_X2 (hts _ ins_X2)
  obtain ⟨c3, i3, k3⟩ := u_known (n := 9) hts win_X3 (hts _ ins_X3)
  obtain ⟨c4, i4, k4⟩ := u_known (n := 4) hts win_X4 (hts _ ins_X4)
  obtain ⟨c5, i5, k5⟩ := u_known (n := 7) hts win_X5 (hts _ ins_X5)
  obtain ⟨c6, i6, k6⟩ := u_known (n := 2) hts win_X6 (hts _ ins_X6)
  obtain ⟨c7, i7, k7⟩ := u_known (n := 13) hts win_X7 (hts _ ins_X7)
  obtain ⟨c8, i8, k8⟩ := u_known (n := 12) hts win_X8 (hts _ ins_X8)
  obtain ⟨c9, i9, k9⟩ := u_known (n := 3) hts win_X9 (hts _ ins_X9)
  obtain ⟨c10, i10, k10⟩ := u_known (n := 6) hts win_X10 (hts _ ins_X10)
  obtain ⟨c11, i11, k11⟩ := u_known (n := 15) hts win_X11 (hts _ ins_X11)
  obtain ⟨t0, x0, y0, a0, b0, d0⟩ := Cond.arrayClass_spec (hts _ ar_I)
  obtain ⟨t1, x1, y1, a1, b1, d1⟩ := Cond.arrayClass_spec (hts _ ar_J)
  obtain ⟨t2, x2, y2, a2, b2, d2⟩ := Cond.arrayClass_spec (hts _ ar_B)
  obtain ⟨t3, x3, y3, a3, b3, d3⟩ : ∃ c k comp, s.vm.findClass ("[" ++ (FieldType.array .long).toString) = some c ∧ s.vm.classes[c]? = some k ∧ k.kind = .array comp (.array .long) := by
    obtain ⟨y3, t3, x3, -, -, b3, d3, a3⟩ := arrayOver_specB hR
    exact ⟨t3, x3, y3, a3, b3, d3⟩
  obtain ⟨y4, t4, x4, e4, -, b4, d4, a4⟩ := Cond.arrayOver_spec hQ
  refine ⟨(fun c => match c with | 0 => c0 | 1 => c1 | 2 => c2 | 3 => c3 | 4 => c4 | 5 => c5 | 6 => c6 | 7 => c7 | 8 => c8 | 9 => c9 | 10 => c10 | 11 => c11 | _ => 0, fun c => match c with | 0 => i0 | 1 => i1 | 2 => i2 | 3 => i3 | 4 => i4 | 5 => i5 | 6 => i6 | 7 => i7 | 8 => i8 | 9 => i9 | 10 => i10 | 11 => i11 | _ => fun _ => 0), fun k => match k with | 0 => t0 | 1 => t1 | 2 => t2 | 3 => t3 | _ => t4, fun c q hq => ?_, fun k q hq => ?_⟩
  · have hc : c < 12 := (List.getElem?_eq_some_iff.mp hq).1
    rcases (show c = 0 ∨ c = 1 ∨ c = 2 ∨ c = 3 ∨ c = 4 ∨ c = 5 ∨ c = 6 ∨ c = 7 ∨ c = 8 ∨ c = 9 ∨ c = 10 ∨ c = 11 by omega) with rfl | rfl | rfl | rfl | rfl | rfl | rfl | rfl | rfl | rfl | rfl | rfl <;> cases hq <;> assumption
  · have hk : k < 5 := (List.getElem?_eq_some_iff.mp hq).1
    rcases (show k = 0 ∨ k = 1 ∨ k = 2 ∨ k = 3 ∨ k = 4 by omega) with rfl | rfl | rfl | rfl | rfl <;> cases hq
    · exact ⟨fun n z => ⟨fun k h => (by cases h), x0, b0, y0, d0⟩, a0⟩
    · exact ⟨fun n z => ⟨fun k h => (by cases h), x1, b1, y1, d1⟩, a1⟩
    · exact ⟨fun n z => ⟨fun k h => (by cases h), x2, b2, y2, d2⟩, a2⟩
    · exact ⟨fun n z => ⟨fun k h => (by cases h), x3, b3, y3, d3⟩, a3⟩
    · exact ⟨fun n z => ⟨fun k h => (by cases h), x4, b4, y4, d4⟩, x4, y4, b4, d4, e4, a4⟩
section NW
variable {p : Program} {l : Launch} {e : Env} {R : Room} {s : State} {m : MethodId} {args : Array Value} {below : List Frame} {meth : Method} {c : Code} {H : Heap} {locs : List Loc} {cells slots : Nat} {Q : State → Prop}
variable {pc : Nat} {ls : Array Slot} {rest st As : List Value} {D : va_G} {T : Nat → ClassId} {A : Nat → Prop} {ws wc w1 : va_W} {own nm : String} {cc b : ByteArray} {nL n idx k : Nat} {ret yret : Option FieldType} {y : MethodName} {rm : Room} {a : Nat} {QQ : (Nat → Prop) → Array Value → State → Outcome → State → Prop} {mc ms : Nat}
theorem mp_obj (X : mp_X p s m meth c args own nm cc nL ret) (hlk : Cond.methodLink own idx Lib.objectInit ∈ mp_B) (hsz : ls.size = nL) (hdg : decode cc pc = .ok (.invokespecial idx, 3)) (hf : 1 ≤ R.frames) (hl : (rest.map fun v => v.category).sum + 12 ≤ R.locals)
    (kk : W p l e R s m args below meth c H locs cells slots Q (F0 m (pc + 3) ls rest)) : W p l e R s m args below meth c H locs cells slots Q (F0 m pc ls (.ref a :: rest)) := by
  refine W.objInit X.1 X.2.1 X.2.2.2.2.1 (X.2.2.2.2.2.1 _ hlk) (X.2.2.2.2.2.1 _ ob_i) (X.2.2.2.2.2.1 _ ob_c) rfl (by rw [X.2.2.1]; exact hsz) rfl hdg hf (by show 2 * 0 + _ + 12 ≤ _; omega) ?_
  exact W.eq (g2 := F0 m (pc + 3) ls rest) rfl kk
theorem mp_newI (X : mp_X p s m meth c args own nm cc nL ret) (hK : va_K D mp_cl (mp_ty T) s) (hP : va_P D mp_cl ws H) (hD : va_D A ws) (hS : va_S A s.heap H locs) (hA : ∀ q, s.heap.size ≤ q → A q) {n : Int32} {N : Nat} (hn : ¬ n < 0) (hN : n.toNatClampNeg = N) (hb : N * componentBytes .int ≤ 536870912) (hc : cells + 1 ≤ R.cells) (hs : slots + N ≤ R.slots) (hdg : decode cc pc = .ok (.newarray .int, 2))
    (kk : ∀ (q : Nat) (H1 : Heap), va_P D mp_cl (ws ++ [(q, mp_aI T N (fun _ => nI 0))]) H1 → va_D A (ws ++ [(q, mp_aI T N (fun _ => nI 0))]) → va_S A s.heap H1 locs → W p l e R s m args below meth c H1 locs (cells + 1) (slots + N) Q (F0 m (pc + 2) ls (.ref q :: rest))) : W p l e R s m args below meth c H locs cells slots Q (F0 m pc ls (.int n :: rest)) := by
  refine va_newa (atype := .int) (a0 := (N, .inl (fun _ => nI 0))) X.1 X.2.1 (X.2.2.2.2.2.1 _ ar_I) rfl hK hP hD hS hA ?_ hn hN hb hc hs hdg (fun q cA H1 hK2 hP2 hD2 hS2 => ?_)
  · intro cA; rfl
  · have h1 := (hK2.2 5 (cA, .int) rfl).2
    have h2 := (hK.2 0 (T 0, .int) rfl).2
    have h3 : cA = T 0 := Option.some.inj (h1.symm.trans h2)
    subst h3
    exact kk q H1 hP2 hD2 hS2
theorem mp_newJ (X : mp_X p s m meth c args own nm cc nL ret) (hK : va_K D mp_cl (mp_ty T) s) (hP : va_P D mp_cl ws H) (hD : va_D A ws) (hS : va_S A s.heap H locs) (hA : ∀ q, s.heap.size ≤ q → A q) {n : Int32} {N : Nat} (hn : ¬ n < 0) (hN : n.toNatClampNeg = N) (hb : N * componentBytes .long ≤ 536870912) (hc : cells + 1 ≤ R.cells) (hs : slots + N ≤ R.slots) (hdg : decode cc pc = .ok (.newarray .long, 2))
    (kk : ∀ (q : Nat) (H1 : Heap), va_P D mp_cl (ws ++ [(q, mp_aJ T N (fun _ => lN 0))]) H1 → va_D A (ws ++ [(q, mp_aJ T N (fun _ => lN 0))]) → va_S A s.heap H1 locs → W p l e R s m args below meth c H1 locs (cells + 1) (slots + N) Q (F0 m (pc + 2) ls (.ref q :: rest))) : W p l e R s m args below meth c H locs cells slots Q (F0 m pc ls (.int n :: rest)) := by
  refine va_newa (atype := .long) (a0 := (N, .inr (.inl (fun _ => lN 0)))) X.1 X.2.1 (X.2.2.2.2.2.1 _ ar_J) rfl hK hP hD hS hA ?_ hn hN hb hc hs hdg (fun q cA H1 hK2 hP2 hD2 hS2 => ?_)
  · intro cA; rfl
  · have h1 := (hK2.2 5 (cA, .long) rfl).2
    have h2 := (hK.2 1 (T 1, .long) rfl).2
    have h3 : cA = T 1 := Option.some.inj (h1.symm.trans h2)
    subst h3
    exact kk q H1 hP2 hD2 hS2
theorem mp_newB (X : mp_X p s m meth c args own nm cc nL ret) (hK : va_K D mp_cl (mp_ty T) s) (hP : va_P D mp_cl ws H) (hD : va_D A ws) (hS : va_S A s.heap H locs) (hA : ∀ q, s.heap.size ≤ q → A q) {n : Int32} {N : Nat} (hn : ¬ n < 0) (hN : n.toNatClampNeg = N) (hb : N * componentBytes .byte ≤ 536870912) (hc : cells + 1 ≤ R.cells) (hs : slots + N ≤ R.slots) (hdg : decode cc pc = .ok (.newarray .byte, 2))
    (kk : ∀ (q : Nat) (H1 : Heap), va_P D mp_cl (ws ++ [(q, mp_aB T N (fun _ => nI 0))]) H1 → va_D A (ws ++ [(q, mp_aB T N (fun _ => nI 0))]) → va_S A s.heap H1 locs → W p l e R s m args below meth c H1 locs (cells + 1) (slots + N) Q (F0 m (pc + 2) ls (.ref q :: rest))) : W p l e R s m args below meth c H locs cells slots Q (F0 m pc ls (.int n :: rest)) := by
  refine va_newa (atype := .byte) (a0 := (N, .inl (fun _ => nI 0))) X.1 X.2.1 (X.2.2.2.2.2.1 _ ar_B) rfl hK hP hD hS hA ?_ hn hN hb hc hs hdg (fun q cA H1 hK2 hP2 hD2 hS2 => ?_)
  · intro cA; rfl
  · have h1 := (hK2.2 5 (cA, .byte) rfl).2
    have h2 := (hK.2 2 (T 2, .byte) rfl).2
    have h3 : cA = T 2 := Option.some.inj (h1.symm.trans h2)
    subst h3
    exact kk q H1 hP2 hD2 hS2
theorem mp_new {ci : Nat} {C : String} {TT : u_T} {N i : Nat} {tt : Nat → FieldType} {fs : List Value} (X : mp_X p s m meth c args own nm cc nL ret) (P : mp_FP C TT N tt) (hw : ∀ w ∈ u_ws C TT N, w ∈ mp_B) (hcl : Cond.classLink own i C ∈ mp_B) (hins : Cond.instantiable C N ∈ mp_B) (hini : Cond.initialized C ∈ mp_B) (hK : va_K D mp_cl (mp_ty T) s) (hP : va_P D mp_cl ws H) (hD : va_D A ws) (hS : va_S A s.heap H locs) (hA : ∀ q, s.heap.size ≤ q → A q) (hc : mp_cl[ci]? = some (C, TT, N)) (hfs : ∀ j, j < N → defaultValue (tt j) = vp_V fs j) (hce : cells + 1 ≤ R.cells) (hsl : slots + N ≤ R.slots) (hdg : decode cc pc = .ok (.new i, 3))
    (kk : ∀ (q : Nat) (H1 : Heap), va_P D mp_cl (ws ++ [(q, .inr (ci, fs))]) H1 → va_D A (ws ++ [(q, .inr (ci, fs))]) → va_S A s.heap H1 locs → W p l e R s m args below meth c H1 locs (cells + 1) (slots + N) Q (F0 m (pc + 3) ls (.ref q :: rest))) : W p l e R s m args below meth c H locs cells slots Q (F0 m pc ls rest) :=
  va_new (ci := ci) (fs := fs) (C := C) (T := TT) (N := N) X.1 X.2.1 X.2.2.2.2.2.1 hw tt P.1 X.2.2.2.2.1 (X.2.2.2.2.2.1 _ hcl) (X.2.2.2.2.2.1 _ hins) (X.2.2.2.2.2.1 _ hini) hK hP hD hS hA hc hfs hce hsl hdg kk
theorem mp_runI (X : mp_X p s m meth c args own nm cc nL ret) (hm : mp_MI y b n k) (hlk : Cond.methodLink own idx y ∈ mp_B) (hM : mp_M l D T y b n none rm mc ms (.ref a :: As) wc QQ) (hrc : rm.cells = mc) (hrs : rm.slots = ms) (hR : mp_R rm R n)
    (hK : va_K D mp_cl (mp_ty T) s) (hPc : va_P D mp_cl wc H) (hDc : va_D A wc)
    (hn : As.length = k) (hsz : ls.size = nL) (hst : st = As.reverse ++ .ref a :: rest) (hW : (rest.map fun v => v.category).sum ≤ 8) (hdg : decode cc pc = .ok (.invokespecial idx, 3)) (hf : cells + mc ≤ R.cells ∧ slots + ms ≤ R.slots) :
    va_Run p l e R s m args below meth c H locs cells slots mc ms (F0 m pc ls st) rest (QQ (va_A wc H.size) (Value.ref a :: As).toArray) (va_A wc H.size) := by
  obtain ⟨hx, hb, hml, hr, hown, hts, hlocks, hnm⟩ := X
  obtain ⟨h1, h3, h4, h2, h5, h6, h7⟩ := hm
  refine va_runI (As := As) (rest := rest) (Ts := mp_B) ⟨hx, hb, hml, hown, hts⟩ (hM H.size) (cwI k hts (mp_GI ?_) rfl hrc hrs (hts _ h3) (hts _ hlk) (hts _ h1) h2 ⟨h5, h6, h7⟩ hR) ⟨mp_blind, fun U hU hW => ⟨rfl, by rw [hU], by rw [hU]; exact hPc, va_K.moved hW.alike hK, hDc.weaken (fun _ _ _ _ => trivial)⟩⟩ rfl hn hsz hst (lv_room hW) hdg hf
  exact mp_ws h4
theorem mp_callc {w1 : (Nat → Nat) → va_W} {wr : va_W} {isC isR : List Nat} {arr : Array Value} (hP : va_P D mp_cl ws H) (hD : va_D A ws) (hS : va_S A s.heap H locs) (hA : ∀ q, s.heap.size ≤ q → A q) (hC : isC.map (fun i => ws[i]?) = wc.map some) (hR : isR.map (fun i => ws[i]?) = wr.map some) (hn : va_nd isR = true) (hdis : ∀ i ∈ isR, i ∉ isC)
    (hr : va_Run p l e R s m args below meth c H locs cells slots mc ms (F0 m pc ls st) rest (mp_Qc D w1 (va_A wc H.size) arr) (va_A wc H.size))
    (kk : ∀ (q : Nat → Nat) (H1 : Heap) (locs1 : List Loc), va_P D mp_cl (wr ++ w1 q) H1 → va_D A (wr ++ w1 q) → va_S A s.heap H1 locs1 → W p l e R s m args below meth c H1 locs1 (cells + mc) (slots + ms) Q (F0 m (pc + 3) ls rest)) : W p l e R s m args below meth c H locs cells slots Q (F0 m pc ls st) := by
  have hF := va_free hD hS hA isC hC
  refine va_callv hr hS (fun q _ h => hF q h) hF (fun u t H1 locs1 ht hvm hw hB hz1 hk1 hS1 => ?_)
  subst ht
  obtain ⟨a, b⟩ := va_join hP hD isC isR hC hR hn hdis hk1 hF hB.1 hB.2
  exact kk _ _ _ a b hS1
end NW
