/-! a nest mate's constructor; arrays over classes: words that hold of the start, and behind every call -/
def va_AOA (ty : FieldType) (U : State) : Prop := (Cond.arrayOver (.array ty)).before #[] U = true
theorem va_AOA.use {ty : FieldType} {A : Array Value} {U : State} (h : va_AOA ty U) : (Cond.arrayOver (.array ty)).before A U = true := h
theorem va_AOA.moved {ty : FieldType} {u U : State} (hvm : u.vm.Alike U.vm) (h : va_AOA ty u) : va_AOA ty U := arrayOver_alikeB hvm h
def mp_nl : List Cond := [.methodLinkNest RX11 22 yX10_init RX11, .methodLinkNest RX11 29 yX4_init RX11, .methodLinkNest RX11 43 yX2_init RX11, .methodLinkNest RX11 50 yX6_init RX11, .methodLinkNest RX11 57 yX1_init RX11, .methodLinkNest RX1 49 yX7_init RX11, .methodLinkNest RX1 56 yX5_init RX11, .methodLinkNest RX11 74 yX0_init RX11, .methodLinkNest RX0 11 yX7_init RX11, .methodLinkNest RX11 81 yX3_init RX11, .methodLinkNest RX3 41 yX7_init RX11]
def mp_Z (U : State) : Prop := (∀ w ∈ mp_nl, va_Nw w U) ∧ va_AO "MarginPlan$Book" U ∧ va_AOA .long U
theorem mp_nl_i {w : Cond} (h : w ∈ mp_nl) : ∃ a i x hh, w = .methodLinkNest a i x hh := by
  have : mp_nl.all (fun w => match w with | .methodLinkNest _ _ _ _ => true | _ => false) = true := rfl
  have h2 := List.all_eq_true.mp this w h
  cases w <;> first | exact ⟨_, _, _, _, rfl⟩ | cases h2
theorem mp_Z.warm {s U : State} (hW : s.WarmedH U.vm) (h : mp_Z s) : mp_Z U := by
  refine ⟨fun w hw => ?_, h.2.1.moved hW.alike, h.2.2.moved hW.alike⟩
  obtain ⟨a, i, x, hh, rfl⟩ := mp_nl_i hw
  exact va_Nw.warmM hW (h.1 _ hw)
theorem mp_Z.same {u U : State} (e : u.vm = U.vm) (h : mp_Z u) : mp_Z U := by
  refine ⟨fun w hw => ?_, va_AO.moved (by rw [e]; exact Vm.Alike.refl _) h.2.1, va_AOA.moved (by rw [e]; exact Vm.Alike.refl _) h.2.2⟩
  obtain ⟨a, i, x, hh, rfl⟩ := mp_nl_i hw
  exact va_Nw.same rfl e (h.1 _ hw)
theorem ln_X11_22 {s : State} (h : mp_Z s) : va_Nw (.methodLinkNest RX11 22 yX10_init RX11) s := h.1 _ (by decide +kernel)
theorem ln_X11_29 {s : State} (h : mp_Z s) : va_Nw (.methodLinkNest RX11 29 yX4_init RX11) s := h.1 _ (by decide +kernel)
theorem ln_X11_43 {s : State} (h : mp_Z s) : va_Nw (.methodLinkNest RX11 43 yX2_init RX11) s := h.1 _ (by decide +kernel)
theorem ln_X11_50 {s : State} (h : mp_Z s) : va_Nw (.methodLinkNest RX11 50 yX6_init RX11) s := h.1 _ (by decide +kernel)
theorem ln_X11_57 {s : State} (h : mp_Z s) : va_Nw (.methodLinkNest RX11 57 yX1_init RX11) s := h.1 _ (by decide +kernel)
theorem ln_X1_49 {s : State} (h : mp_Z s) : va_Nw (.methodLinkNest RX1 49 yX7_init RX11) s := h.1 _ (by decide +kernel)
theorem ln_X1_56 {s : State} (h : mp_Z s) : va_Nw (.methodLinkNest RX1 56 yX5_init RX11) s := h.1 _ (by decide +kernel)
theorem ln_X11_74 {s : State} (h : mp_Z s) : va_Nw (.methodLinkNest RX11 74 yX0_init RX11) s := h.1 _ (by decide +kernel)
theorem ln_X0_11 {s : State} (h : mp_Z s) : va_Nw (.methodLinkNest RX0 11 yX7_init RX11) s := h.1 _ (by decide +kernel)
theorem ln_X11_81 {s : State} (h : mp_Z s) : va_Nw (.methodLinkNest RX11 81 yX3_init RX11) s := h.1 _ (by decide +kernel)
theorem ln_X3_41 {s : State} (h : mp_Z s) : va_Nw (.methodLinkNest RX3 41 yX7_init RX11) s := h.1 _ (by decide +kernel)
theorem mp_blindZ {D : va_G} {T : Nat → ClassId} {sz : Nat} {ws : va_W} {av : List Value} : FrameBlind (va_Pc av (fun U => mp_Pre D T sz ws U ∧ mp_Z U)) := fun a U g mk q => by
  obtain ⟨q0, ⟨q1, qP, qK, qD⟩, qZ⟩ := q
  exact ⟨q0, ⟨q1, qP, va_K.moved (u := U) (U := U.calling g mk a) (Vm.Alike.refl U.vm) qK, qD⟩, mp_Z.same (u := U) rfl qZ⟩
/-- a contract of a method that makes nest mates, arrays over classes -/
def mp_ME (l : Launch) (D : va_G) (T : Nat → ClassId) (y : MethodName) (b : ByteArray) (n : Nat) (ret : Option FieldType) (rm : Room) (mc ms : Nat) (av : List Value) (ws : va_W) (QQ : (Nat → Prop) → Array Value → State → Outcome → State → Prop) : Prop :=
  ∀ sz : Nat, Met l y (.code y b n ret :: mp_B) rm (va_Pc av (fun U => mp_Pre D T sz ws U ∧ mp_Z U)) (QQ (va_A ws sz)) mc ms (va_A ws sz)
theorem mp_ofE {l : Launch} {D : va_G} {T : Nat → ClassId} {y : MethodName} {b : ByteArray} {n : Nat} {ret : Option FieldType} {rm : Room} {mc ms : Nat} {av : List Value} {ws : va_W} {QQ : (Nat → Prop) → Array Value → State → Outcome → State → Prop} {lv : List (Nat × Value)}
    (hy : plainName y.cls = true) (hlen : (lg_sl av).length ≤ n) (hlv : lv_args 0 av = lv)
    (body : ∀ (p : Program) (e : Env) (s : State) (m : MethodId) (args : Array Value) (below : List Frame) (meth : Method) (c : Code) (A : Nat → Prop) (ls : Array Slot), mp_Z s → mp_X p s m meth c args y.cls y.name b n ret → va_K D mp_cl (mp_ty T) s → va_P D mp_cl ws s.heap → va_D A ws → va_S A s.heap s.heap [] → (∀ q, s.heap.size ≤ q → A q) → lv_has ls n lv →
      W p l e rm s m args below meth c s.heap [] 0 0 (MQ below (QQ A) args s mc ms A) (F0 m 0 ls [])) : mp_ME l D T y b n ret rm mc ms av ws QQ := by
  intro sz
  refine Met.ofW (cc := b) (maxL := n) (ret := ret) hy rfl ?_
  intro p e s m args below meth c s₁ B hml hv
  obtain ⟨rfl, ⟨hsz, hP, hK, hD0⟩, hZ⟩ := hv
  have hts : ∀ w ∈ mp_B, w.before av.toArray s = true := fun w hw => atoms_spec (ws := .code y b n ret :: mp_B) B.pre w (List.mem_cons_of_mem _ hw)
  have hown : s.vm.findClass y.cls = some m.cls := findClass_of_methodNamed B.named
  have hin : meth.name = y.name := (name_of_methodNamed B.named B.method).1
  subst hsz
  have hD := hD0.self (sz := s.heap.size)
  have hl := lv_entry av hlen
  rw [lg_entry_eq]
  rw [hlv] at hl
  exact body p e s m av.toArray below meth c (va_A ws s.heap.size) _ hZ ⟨B.exec, B.bytes, hml, B.returns, hown, hts, B.notSynchronized, hin⟩ hK hP hD va_S.rf (fun q h => Or.inr h) hl
section NE
variable {p : Program} {l : Launch} {e : Env} {R : Room} {s : State} {m : MethodId} {args : Array Value} {below : List Frame} {meth : Method} {c : Code} {H : Heap} {locs : List Loc} {cells slots : Nat} {Q : State → Prop}
variable {pc : Nat} {ls : Array Slot} {rest st As : List Value} {D : va_G} {T : Nat → ClassId} {A : Nat → Prop} {ws wc w1 : va_W} {own nm host : String} {cc b : ByteArray} {nL n idx k : Nat} {ret yret : Option FieldType} {y : MethodName} {rm : Room} {a : Nat} {QQ : (Nat → Prop) → Array Value → State → Outcome → State → Prop} {mc ms : Nat}
theorem mp_runIN (X : mp_X p s m meth c args own nm cc nL ret) (hm : mp_MI y b n k) (hlk : va_Nw (.methodLinkNest own idx y host) s) (hM : mp_M l D T y b n none rm mc ms (.ref a :: As) wc QQ) (hrc : rm.cells = mc) (hrs : rm.slots = ms) (hR : mp_R rm R n)
    (hK : va_K D mp_cl (mp_ty T) s) (hPc : va_P D mp_cl wc H) (hDc : va_D A wc)
    (hn : As.length = k) (hsz : ls.size = nL) (hst : st = As.reverse ++ .ref a :: rest) (hW : (rest.map fun v => v.category).sum ≤ 8) (hdg : decode cc pc = .ok (.invokespecial idx, 3)) (hf : cells + mc ≤ R.cells ∧ slots + ms ≤ R.slots) :
    va_Run p l e R s m args below meth c H locs cells slots mc ms (F0 m pc ls st) rest (QQ (va_A wc H.size) (Value.ref a :: As).toArray) (va_A wc H.size) := by
  obtain ⟨hx, hb, hml, hr, hown, hts, hlocks, hnm⟩ := X
  obtain ⟨h1, h3, h4, h2, h5, h6, h7⟩ := hm
  refine va_runIN (As := As) (rest := rest) (Ts := mp_B) ⟨hx, hb, hml, hown, hts⟩ (hM H.size) ⟨va_cnB k hts (mp_GI ?_) rfl hrc hrs hlk (hts _ h3) ⟨h5, h6, h7⟩ hR, h2, hts _ h1⟩ ⟨mp_blind, fun U hU hW => ⟨rfl, by rw [hU], by rw [hU]; exact hPc, va_K.moved hW.alike hK, hDc.weaken (fun _ _ _ _ => trivial)⟩⟩ rfl hn hsz hst (lv_room hW) hdg hf
  exact mp_ws h4
theorem mp_runINZ (hZ : mp_Z s) (X : mp_X p s m meth c args own nm cc nL ret) (hm : mp_MI y b n k) (hlk : va_Nw (.methodLinkNest own idx y host) s) (hM : mp_ME l D T y b n none rm mc ms (.ref a :: As) wc QQ) (hrc : rm.cells = mc) (hrs : rm.slots = ms) (hR : mp_R rm R n)
    (hK : va_K D mp_cl (mp_ty T) s) (hPc : va_P D mp_cl wc H) (hDc : va_D A wc)
    (hn : As.length = k) (hsz : ls.size = nL) (hst : st = As.reverse ++ .ref a :: rest) (hW : (rest.map fun v => v.category).sum ≤ 8) (hdg : decode cc pc = .ok (.invokespecial idx, 3)) (hf : cells + mc ≤ R.cells ∧ slots + ms ≤ R.slots) :
    va_Run p l e R s m args below meth c H locs cells slots mc ms (F0 m pc ls st) rest (QQ (va_A wc H.size) (Value.ref a :: As).toArray) (va_A wc H.size) := by
  obtain ⟨hx, hb, hml, hr, hown, hts, hlocks, hnm⟩ := X
  obtain ⟨h1, h3, h4, h2, h5, h6, h7⟩ := hm
  refine va_runIN (As := As) (rest := rest) (Ts := mp_B) ⟨hx, hb, hml, hown, hts⟩ (hM H.size) ⟨va_cnB k hts (mp_GI ?_) rfl hrc hrs hlk (hts _ h3) ⟨h5, h6, h7⟩ hR, h2, hts _ h1⟩ ⟨mp_blindZ, fun U hU hW => ⟨rfl, ⟨by rw [hU], by rw [hU]; exact hPc, va_K.moved hW.alike hK, hDc.weaken (fun _ _ _ _ => trivial)⟩, hZ.warm hW⟩⟩ rfl hn hsz hst (lv_room hW) hdg hf
  exact mp_ws h4
theorem mp_runIZ (hZ : mp_Z s) (X : mp_X p s m meth c args own nm cc nL ret) (hm : mp_MI y b n k) (hlk : Cond.methodLink own idx y ∈ mp_B) (hM : mp_ME l D T y b n none rm mc ms (.ref a :: As) wc QQ) (hrc : rm.cells = mc) (hrs : rm.slots = ms) (hR : mp_R rm R n)
    (hK : va_K D mp_cl (mp_ty T) s) (hPc : va_P D mp_cl wc H) (hDc : va_D A wc)
    (hn : As.length = k) (hsz : ls.size = nL) (hst : st = As.reverse ++ .ref a :: rest) (hW : (rest.map fun v => v.category).sum ≤ 8) (hdg : decode cc pc = .ok (.invokespecial idx, 3)) (hf : cells + mc ≤ R.cells ∧ slots + ms ≤ R.slots) :
    va_Run p l e R s m args below meth c H locs cells slots mc ms (F0 m pc ls st) rest (QQ (va_A wc H.size) (Value.ref a :: As).toArray) (va_A wc H.size) := by
  obtain ⟨hx, hb, hml, hr, hown, hts, hlocks, hnm⟩ := X
  obtain ⟨h1, h3, h4, h2, h5, h6, h7⟩ := hm
  refine va_runI (As := As) (rest := rest) (Ts := mp_B) ⟨hx, hb, hml, hown, hts⟩ (hM H.size) (cwI k hts (mp_GI ?_) rfl hrc hrs (hts _ h3) (hts _ hlk) (hts _ h1) h2 ⟨h5, h6, h7⟩ hR) ⟨mp_blindZ, fun U hU hW => ⟨rfl, ⟨by rw [hU], by rw [hU]; exact hPc, va_K.moved hW.alike hK, hDc.weaken (fun _ _ _ _ => trivial)⟩, hZ.warm hW⟩⟩ rfl hn hsz hst (lv_room hW) hdg hf
  exact mp_ws h4
end NE
