/-! What the walks of this claim share: the words of the tables, the classes, a method's contract, a call, a return. -/
def mp_B : List Cond := lw_tbl.filter goodWord
theorem mp_good : ∀ w ∈ mp_B, goodWord w = true := fun _ h => (List.mem_filter.mp h).2
theorem mp_t (i : Nat) {w : Cond} (h : (decide (tables_1[i]? = some w) && goodWord w) = true) : w ∈ mp_B := by
  rw [Bool.and_eq_true, decide_eq_true_eq] at h
  exact List.mem_filter.mpr ⟨List.mem_append_right _ (List.mem_of_getElem? h.1), h.2⟩
theorem mp_s (i : Nat) {w : Cond} (h : (decide ((k2_sels lw_privs)[i]? = some w) && goodWord w) = true) : w ∈ mp_B := by
  rw [Bool.and_eq_true, decide_eq_true_eq] at h
  exact List.mem_filter.mpr ⟨List.mem_append_left _ (List.mem_of_getElem? h.1), h.2⟩
theorem mp_GI {ws : List Cond} (h : ∀ w ∈ ws, w ∈ mp_B) : GoodIn mp_B ws := fun w hw => ⟨h w hw, good_of_word (mp_good w (h w hw))⟩
def mp_cl : List vw_C := [(RX0, TX0, 4), (RX1, TX1, 13), (RX2, TX2, 1), (RX3, TX3, 9), (RX4, TX4, 4), (RX5, TX5, 7), (RX6, TX6, 2), (RX7, TX7, 13), (RX8, TX8, 12), (RX9, TX9, 3), (RX10, TX10, 6), (RX11, TX11, 15)]
def mp_ty (T : Nat → ClassId) : List (ClassId × FieldType) := [(T 0, .int), (T 1, .long), (T 2, .byte), (T 3, .array .long), (T 4, .object "MarginPlan$Book")]
def mp_X (p : Program) (s : State) (m : MethodId) (meth : Method) (c : Code) (args : Array Value) (own nm : String) (cc : ByteArray) (n : Nat) (ret : Option FieldType) : Prop :=
  p.tables.exec = Jvm.exec ∧ c.code = cc ∧ c.maxLocals = n ∧ meth.sig.returnType = ret ∧ s.vm.findClass own = some m.cls ∧ (∀ w ∈ mp_B, w.before args s = true) ∧ meth.locks = false ∧ meth.name = nm
def mp_Pre (D : va_G) (T : Nat → ClassId) (sz : Nat) (ws : va_W) : State → Prop := fun U => U.heap.size = sz ∧ va_P D mp_cl ws U.heap ∧ va_K D mp_cl (mp_ty T) U ∧ va_D (fun _ => True) ws
theorem mp_blind {D : va_G} {T : Nat → ClassId} {sz : Nat} {ws : va_W} {av : List Value} : FrameBlind (va_Pc av (mp_Pre D T sz ws)) := fun a U g mk q => by
  obtain ⟨q0, q1, qP, qK, qD⟩ := q
  exact ⟨q0, q1, qP, va_K.moved (u := U) (U := U.calling g mk a) (Vm.Alike.refl U.vm) qK, qD⟩
def mp_Qi (D : va_G) (r : Int32) (w1 : va_W) (A : Nat → Prop) : Array Value → State → Outcome → State → Prop := va_Qi (fun (r' : Int32) (_ : Unit) => r' = r) (fun _ t => va_P D mp_cl w1 t.heap) A
def mp_Ql (D : va_G) (r : Int64) (w1 : va_W) (A : Nat → Prop) : Array Value → State → Outcome → State → Prop := va_Ql (fun (r' : Int64) (_ : Unit) => r' = r) (fun _ t => va_P D mp_cl w1 t.heap) A
def mp_Qv (D : va_G) (w1 : va_W) (A : Nat → Prop) : Array Value → State → Outcome → State → Prop := va_Qv (fun (_ : Unit) => True) (fun _ t => va_P D mp_cl w1 t.heap) A
def mp_Qr (D : va_G) (r : Nat) (w1 : va_W) (A : Nat → Prop) : Array Value → State → Outcome → State → Prop := va_Qr (fun (_ : Unit) => True) (fun _ a t => a = r ∧ va_P D mp_cl w1 t.heap) A
def mp_Qc (D : va_G) (w1 : (Nat → Nat) → va_W) (A : Nat → Prop) : Array Value → State → Outcome → State → Prop := va_Qv (fun (_ : Nat → Nat) => True) (fun q t => va_P D mp_cl (w1 q) t.heap ∧ va_D A (w1 q)) A
/-- a contract: at these arguments, over these cells, the method ends as QQ says, and changes no other cell -/
def mp_M (l : Launch) (D : va_G) (T : Nat → ClassId) (y : MethodName) (b : ByteArray) (n : Nat) (ret : Option FieldType) (rm : Room) (mc ms : Nat) (av : List Value) (ws : va_W) (QQ : (Nat → Prop) → Array Value → State → Outcome → State → Prop) : Prop :=
  ∀ sz : Nat, Met l y (.code y b n ret :: mp_B) rm (va_Pc av (mp_Pre D T sz ws)) (QQ (va_A ws sz)) mc ms (va_A ws sz)
theorem mp_of {l : Launch} {D : va_G} {T : Nat → ClassId} {y : MethodName} {b : ByteArray} {n : Nat} {ret : Option FieldType} {rm : Room} {mc ms : Nat} {av : List Value} {ws : va_W} {QQ : (Nat → Prop) → Array Value → State → Outcome → State → Prop} {lv : List (Nat × Value)}
    (hy : plainName y.cls = true) (hlen : (lg_sl av).length ≤ n) (hlv : lv_args 0 av = lv)
    (body : ∀ (p : Program) (e : Env) (s : State) (m : MethodId) (args : Array Value) (below : List Frame) (meth : Method) (c : Code) (A : Nat → Prop) (ls : Array Slot), mp_X p s m meth c args y.cls y.name b n ret → va_K D mp_cl (mp_ty T) s → va_P D mp_cl ws s.heap → va_D A ws → va_S A s.heap s.heap [] → (∀ q, s.heap.size ≤ q → A q) → lv_has ls n lv →
      W p l e rm s m args below meth c s.heap [] 0 0 (MQ below (QQ A) args s mc ms A) (F0 m 0 ls [])) : mp_M l D T y b n ret rm mc ms av ws QQ := by
  intro sz
  refine Met.ofW (cc := b) (maxL := n) (ret := ret) hy rfl ?_
  intro p e s m args below meth c s₁ B hml hv
  obtain ⟨rfl, hsz, hP, hK, hD0⟩ := hv
  have hts : ∀ w ∈ mp_B, w.before av.toArray s = true := fun w hw => atoms_spec (ws := .code y b n ret :: mp_B) B.pre w (List.mem_cons_of_mem _ hw)
  have hown : s.vm.findClass y.cls = some m.cls := findClass_of_methodNamed B.named
  have hin : meth.name = y.name := (name_of_methodNamed B.named B.method).1
  subst hsz
  have hD := hD0.self (sz := s.heap.size)
  have hl := lv_entry av hlen
  rw [lg_entry_eq]
  rw [hlv] at hl
  exact body p e s m av.toArray below meth c (va_A ws s.heap.size) _ ⟨B.exec, B.bytes, hml, B.returns, hown, hts, B.notSynchronized, hin⟩ hK hP hD va_S.rf (fun q h => Or.inr h) hl
/-! worlds: new contents at places -/
def mp_put (ws : va_W) (is : List Nat) (xs : va_W) : va_W := (is.zip xs).foldl (fun w q => w.set q.1 q.2) ws
theorem mp_put_c (ws : va_W) (i : Nat) (is : List Nat) (x : Nat × va_E) (xs : va_W) : mp_put ws (i :: is) (x :: xs) = mp_put (ws.set i x) is xs := rfl
theorem mp_put_get : ∀ (is : List Nat) (ws xs : va_W) (k : Nat) (q : Nat × va_E), is.length = xs.length → (mp_put ws is xs)[k]? = some q → (∃ j : Nat, is[j]? = some k ∧ xs[j]? = some q) ∨ (k ∉ is ∧ ws[k]? = some q) := by
  intro is
  induction is with
  | nil => intro ws xs k q hl h; exact Or.inr ⟨List.not_mem_nil, h⟩
  | cons i is ih =>
    intro ws xs k q hl h
    cases xs with
    | nil => cases hl
    | cons x xs =>
      rcases ih (ws.set i x) xs k q (Nat.succ.inj hl) h with ⟨j, h1, h2⟩ | ⟨h1, h2⟩
      · exact Or.inl ⟨j + 1, h1, h2⟩
      · by_cases hk : k = i
        · subst hk
          rw [List.getElem?_set] at h2
          rw [if_pos rfl] at h2
          refine Or.inl ⟨0, rfl, ?_⟩
          by_cases hlt : k < ws.length
          · rw [if_pos hlt] at h2; exact h2
          · rw [if_neg hlt] at h2; cases h2
        · rw [List.getElem?_set, if_neg (fun e => hk e.symm)] at h2
          exact Or.inr ⟨fun hm => (List.mem_cons.mp hm).elim hk h1, h2⟩
theorem mp_put_fst : ∀ (is : List Nat) (ws xs : va_W), is.map (fun i => (ws.map Prod.fst)[i]?) = (xs.map Prod.fst).map some → (mp_put ws is xs).map Prod.fst = ws.map Prod.fst := by
  intro is
  induction is with
  | nil => intro ws xs h; rfl
  | cons i is ih =>
    intro ws xs h
    cases xs with
    | nil => cases h
    | cons x xs =>
      have h1 : (ws.map Prod.fst)[i]? = some x.1 := (List.cons.inj h).1
      have h2 := (List.cons.inj h).2
      have e : (ws.set i x).map Prod.fst = ws.map Prod.fst := by
        rw [List.map_set]
        apply List.ext_getElem?
        intro k
        rw [List.getElem?_set]
        by_cases hk : i = k
        · subst hk
          rw [if_pos rfl]
          by_cases hlt : i < (ws.map Prod.fst).length
          · rw [if_pos hlt, h1]
          · rw [if_neg hlt, List.getElem?_eq_none (Nat.not_lt.mp hlt)]
        · rw [if_neg hk]
      rw [mp_put_c, ih (ws.set i x) xs (by rw [e]; exact h2), e]
theorem mp_D_of {A : Nat → Prop} {ws w1 : va_W} (hD : va_D A ws) (h : w1.map Prod.fst = ws.map Prod.fst) : va_D A w1 := by
  have at' : ∀ (k : Nat) (q : Nat × va_E), w1[k]? = some q → ∃ q' : Nat × va_E, ws[k]? = some q' ∧ q'.1 = q.1 := by
    intro k q hq
    have h1 : (w1.map Prod.fst)[k]? = some q.1 := by rw [List.getElem?_map, hq]; rfl
    rw [h, List.getElem?_map] at h1
    cases hw : ws[k]? with
    | none => rw [hw] at h1; cases h1
    | some q' => rw [hw] at h1; exact ⟨q', rfl, Option.some.inj h1⟩
  refine ⟨fun i j p q hp hq e => ?_, fun k q hq => ?_⟩
  · obtain ⟨p', a1, a2⟩ := at' i p hp
    obtain ⟨q', b1, b2⟩ := at' j q hq
    exact hD.1 i j p' q' a1 b1 (by rw [a2, b2]; exact e)
  · obtain ⟨q', b1, b2⟩ := at' k q hq
    rw [← b2]; exact hD.2 k q' b1
theorem mp_fm {ws : va_W} : ∀ (isC : List Nat) (wc : va_W), isC.map (fun i => ws[i]?) = wc.map some → isC.filterMap (fun i => ws[i]?) = wc := by
  intro isC
  induction isC with
  | nil => intro wc h; cases wc with
    | nil => rfl
    | cons _ _ => cases h
  | cons i is ih => intro wc h; cases wc with
    | nil => cases h
    | cons x xs =>
      have h1 : ws[i]? = some x := (List.cons.inj h).1
      simp only [List.filterMap_cons, h1, ih xs (List.cons.inj h).2]
theorem mp_joined {A0 : Nat → Prop} {D : va_G} {ws wc w1 : va_W} {H H1 : Heap} (hP : va_P D mp_cl ws H) (hD : va_D A0 ws) (isC : List Nat) (hC : isC.map (fun i => ws[i]?) = wc.map some) (hadr : w1.map Prod.fst = wc.map Prod.fst)
    (hk : ∀ q : Nat, q < H.size → ¬ va_A wc H.size q → H1[q]? = H[q]?) (hP1 : va_P D mp_cl w1 H1) : va_P D mp_cl (mp_put ws isC w1) H1 ∧ va_D A0 (mp_put ws isC w1) := by
  have hlen : isC.length = w1.length := by
    have a := congrArg List.length hC
    have b := congrArg List.length hadr
    simp only [List.length_map] at a b
    omega
  constructor
  · intro k q hq
    rcases mp_put_get isC ws w1 k q hlen hq with ⟨j, h1, h2⟩ | ⟨h1, h2⟩
    · exact hP1 j q h2
    · have hl := (hP k q h2).lt
      refine (hP k q h2).kept (hk q.1 hl (fun h => ?_))
      rcases h with ⟨k2, e, h⟩ | h
      · have h3 : (isC.map (fun i => ws[i]?))[k2]? = some (some (q.1, e)) := by rw [hC, List.getElem?_map, h]; rfl
        rw [List.getElem?_map] at h3
        cases hi : isC[k2]? with
        | none => rw [hi] at h3; cases h3
        | some i =>
          rw [hi] at h3
          have h4 : ws[i]? = some (q.1, e) := Option.some.inj h3
          have h5 := hD.1 k i q (q.1, e) h2 h4 rfl
          subst h5
          exact h1 (List.mem_of_getElem? hi)
      · omega
  · refine mp_D_of hD (mp_put_fst isC ws w1 ?_)
    rw [hadr]
    have h6 := congrArg (List.map (Option.map Prod.fst)) hC
    rw [List.map_map, List.map_map] at h6
    rw [List.map_map]
    rw [show (fun i => (ws.map Prod.fst)[i]?) = (Option.map Prod.fst ∘ fun i => ws[i]?) from funext fun i => by rw [List.getElem?_map]; rfl, h6]
    rfl
/-! a call -/
def mp_MV (y : MethodName) (b : ByteArray) (n : Nat) (ret : Option FieldType) (k : Nat) : Prop := Cond.instanceMethod y ∈ mp_B ∧ Cond.selects y.cls y y ∈ mp_B ∧ Cond.initialized y.cls ∈ mp_B ∧ Cond.code y b n ret ∈ mp_B ∧ (y.cls ≠ "java/lang/invoke/MethodHandle" ∧ y.cls ≠ "java/lang/invoke/VarHandle" ∧ (parseMethodDescriptor y.desc).map (fun d => d.parameters.length) = some k)
def mp_MS (y : MethodName) (b : ByteArray) (n : Nat) (ret : Option FieldType) (k : Nat) : Prop := Cond.static y ∈ mp_B ∧ Cond.initialized y.cls ∈ mp_B ∧ Cond.code y b n ret ∈ mp_B ∧ (y.cls ≠ "java/lang/invoke/MethodHandle" ∧ y.cls ≠ "java/lang/invoke/VarHandle" ∧ (parseMethodDescriptor y.desc).map (fun d => d.parameters.length) = some k)
def mp_MI (y : MethodName) (b : ByteArray) (n : Nat) (k : Nat) : Prop := Cond.instanceMethod y ∈ mp_B ∧ Cond.initialized y.cls ∈ mp_B ∧ Cond.code y b n none ∈ mp_B ∧ y.name = "<init>" ∧ (y.cls ≠ "java/lang/invoke/MethodHandle" ∧ y.cls ≠ "java/lang/invoke/VarHandle" ∧ (parseMethodDescriptor y.desc).map (fun d => d.parameters.length) = some k)
def mp_R (rm R : Room) (n : Nat) : Prop := rm.frames + 1 ≤ R.frames ∧ 8 + (n + 11) + rm.locals ≤ R.locals
theorem mp_ws {y : MethodName} {b : ByteArray} {n : Nat} {ret : Option FieldType} (h : Cond.code y b n ret ∈ mp_B) : ∀ w ∈ (Cond.code y b n ret :: mp_B), w ∈ mp_B := fun w hw => (List.mem_cons.mp hw).elim (fun e => e ▸ h) id
section MPC
variable {p : Program} {l : Launch} {e : Env} {R : Room} {s : State} {m : MethodId} {args : Array Value} {below : List Frame} {meth : Method} {c : Code} {H : Heap} {locs : List Loc} {cells slots : Nat} {Q : State → Prop}
variable {pc : Nat} {ls : Array Slot} {rest st As : List Value} {D : va_G} {T : Nat → ClassId} {A : Nat → Prop} {ws wc w1 : va_W} {own nm : String} {cc b : ByteArray} {nL n idx k : Nat} {ret yret : Option FieldType} {y : MethodName} {rm : Room} {a : Nat} {lv : List (Nat × Value)} {QQ : (Nat → Prop) → Array Value → State → Outcome → State → Prop} {mc ms : Nat}
theorem mp_runV (X : mp_X p s m meth c args own nm cc nL ret) (hm : mp_MV y b n yret k) (hlk : Cond.methodLink own idx y ∈ mp_B) (hM : mp_M l D T y b n yret rm mc ms (.ref a :: As) wc QQ) (hrc : rm.cells = mc) (hrs : rm.slots = ms) (hR : mp_R rm R n)
    (hK : va_K D mp_cl (mp_ty T) s) (hPc : va_P D mp_cl wc H) (hDc : va_D A wc) {ci : Nat} {fs : List Value} {q : vw_C} (hc : mp_cl[ci]? = some q) (hq : q.1 = y.cls) (he : wc[0]? = some (a, .inr (ci, fs)))
    (hn : As.length = k) (hsz : ls.size = nL) (hst : st = As.reverse ++ .ref a :: rest) (hW : (rest.map fun v => v.category).sum ≤ 8) (hdg : decode cc pc = .ok (.invokevirtual idx, 3)) (hf : cells + mc ≤ R.cells ∧ slots + ms ≤ R.slots) :
    va_Run p l e R s m args below meth c H locs cells slots mc ms (F0 m pc ls st) rest (QQ (va_A wc H.size) (Value.ref a :: As).toArray) (va_A wc H.size) := by
  obtain ⟨hx, hb, hml, hr, hown, hts, hlocks, hnm⟩ := X
  obtain ⟨h1, h2, h3, h4, h5, h6, h7⟩ := hm
  refine va_runV (C := y.cls) (As := As) (rest := rest) (Ts := mp_B) ⟨hx, hb, hml, hown, hts⟩ (hM H.size) (cwV k hts (mp_GI ?_) rfl hrc hrs ⟨rfl, h5, h6, h7⟩ hR) ⟨mp_blind, ?_, fun U hU hW => ⟨rfl, by rw [hU], by rw [hU]; exact hPc, va_K.moved hW.alike hK, hDc.weaken (fun _ _ _ _ => trivial)⟩⟩ rfl hn hsz hst (lv_room hW) hdg hf
  · intro w hw
    rcases List.mem_append.mp hw with hw | hw
    · simp only [List.mem_cons, List.not_mem_nil, or_false] at hw
      rcases hw with rfl | rfl | rfl | rfl <;> assumption
    · exact mp_ws h4 w hw
  · rw [← hq]
    exact va_recv hK hPc (ci := ci) (q0 := 0) hc he
theorem mp_runS (X : mp_X p s m meth c args own nm cc nL ret) (hm : mp_MS y b n yret k) (hlk : Cond.methodLink own idx y ∈ mp_B) (hM : mp_M l D T y b n yret rm mc ms As wc QQ) (hrc : rm.cells = mc) (hrs : rm.slots = ms) (hR : mp_R rm R n)
    (hK : va_K D mp_cl (mp_ty T) s) (hPc : va_P D mp_cl wc H) (hDc : va_D A wc)
    (hn : As.length = k) (hsz : ls.size = nL) (hst : st = As.reverse ++ rest) (hW : (rest.map fun v => v.category).sum ≤ 8) (hdg : decode cc pc = .ok (.invokestatic idx, 3)) (hf : cells + mc ≤ R.cells ∧ slots + ms ≤ R.slots) :
    va_Run p l e R s m args below meth c H locs cells slots mc ms (F0 m pc ls st) rest (QQ (va_A wc H.size) As.toArray) (va_A wc H.size) := by
  obtain ⟨hx, hb, hml, hr, hown, hts, hlocks, hnm⟩ := X
  obtain ⟨h1, h3, h4, h5, h6, h7⟩ := hm
  refine va_runS (As := As) (rest := rest) (Ts := mp_B) ⟨hx, hb, hml, hown, hts⟩ (hM H.size) (va_cwS k hts (mp_GI ?_) rfl hrc hrs ⟨h5, h6, h7⟩ hR) ⟨mp_blind, fun U hU hW => ⟨rfl, by rw [hU], by rw [hU]; exact hPc, va_K.moved hW.alike hK, hDc.weaken (fun _ _ _ _ => trivial)⟩⟩ rfl hn hsz hst (lv_room hW) hdg hf
  intro w hw
  rcases List.mem_append.mp hw with hw | hw
  · simp only [List.mem_cons, List.not_mem_nil, or_false] at hw
    rcases hw with rfl | rfl | rfl <;> assumption
  · exact mp_ws h4 w hw
theorem mp_calli {r : Int32} {wc : va_W} {isC : List Nat} {arr : Array Value} (hP : va_P D mp_cl ws H) (hD : va_D A ws) (hS : va_S A s.heap H locs) (hA : ∀ q, s.heap.size ≤ q → A q) (hC : isC.map (fun i => ws[i]?) = wc.map some) (hadr : w1.map Prod.fst = wc.map Prod.fst)
    (hr : va_Run p l e R s m args below meth c H locs cells slots mc ms (F0 m pc ls st) rest (mp_Qi D r w1 (va_A wc H.size) arr) (va_A wc H.size))
    (kk : ∀ (H1 : Heap) (locs1 : List Loc), va_P D mp_cl (mp_put ws isC w1) H1 → va_D A (mp_put ws isC w1) → va_S A s.heap H1 locs1 → W p l e R s m args below meth c H1 locs1 (cells + mc) (slots + ms) Q (F0 m (pc + 3) ls (.int r :: rest))) : W p l e R s m args below meth c H locs cells slots Q (F0 m pc ls st) := by
  have hF := va_free hD hS hA isC hC
  refine va_calli hr hS (fun q _ h => hF q h) hF (fun r' u t H1 locs1 ht hvm hw hB hz1 hk1 hS1 => ?_)
  subst hw; subst ht
  obtain ⟨a, b⟩ := mp_joined hP hD isC hC hadr hk1 hB
  exact kk _ _ a b hS1
theorem mp_calll {r : Int64} {wc : va_W} {isC : List Nat} {arr : Array Value} (hP : va_P D mp_cl ws H) (hD : va_D A ws) (hS : va_S A s.heap H locs) (hA : ∀ q, s.heap.size ≤ q → A q) (hC : isC.map (fun i => ws[i]?) = wc.map some) (hadr : w1.map Prod.fst = wc.map Prod.fst)
    (hr : va_Run p l e R s m args below meth c H locs cells slots mc ms (F0 m pc ls st) rest (mp_Ql D r w1 (va_A wc H.size) arr) (va_A wc H.size))
    (kk : ∀ (H1 : Heap) (locs1 : List Loc), va_P D mp_cl (mp_put ws isC w1) H1 → va_D A (mp_put ws isC w1) → va_S A s.heap H1 locs1 → W p l e R s m args below meth c H1 locs1 (cells + mc) (slots + ms) Q (F0 m (pc + 3) ls (.long r :: rest))) : W p l e R s m args below meth c H locs cells slots Q (F0 m pc ls st) := by
  have hF := va_free hD hS hA isC hC
  refine va_calll hr hS (fun q _ h => hF q h) hF (fun r' u t H1 locs1 ht hvm hw hB hz1 hk1 hS1 => ?_)
  subst hw; subst ht
  obtain ⟨a, b⟩ := mp_joined hP hD isC hC hadr hk1 hB
  exact kk _ _ a b hS1
theorem mp_callv {wc : va_W} {isC : List Nat} {arr : Array Value} (hP : va_P D mp_cl ws H) (hD : va_D A ws) (hS : va_S A s.heap H locs) (hA : ∀ q, s.heap.size ≤ q → A q) (hC : isC.map (fun i => ws[i]?) = wc.map some) (hadr : w1.map Prod.fst = wc.map Prod.fst)
    (hr : va_Run p l e R s m args below meth c H locs cells slots mc ms (F0 m pc ls st) rest (mp_Qv D w1 (va_A wc H.size) arr) (va_A wc H.size))
    (kk : ∀ (H1 : Heap) (locs1 : List Loc), va_P D mp_cl (mp_put ws isC w1) H1 → va_D A (mp_put ws isC w1) → va_S A s.heap H1 locs1 → W p l e R s m args below meth c H1 locs1 (cells + mc) (slots + ms) Q (F0 m (pc + 3) ls rest)) : W p l e R s m args below meth c H locs cells slots Q (F0 m pc ls st) := by
  have hF := va_free hD hS hA isC hC
  refine va_callv hr hS (fun q _ h => hF q h) hF (fun u t H1 locs1 ht hvm hw hB hz1 hk1 hS1 => ?_)
  subst ht
  obtain ⟨a, b⟩ := mp_joined hP hD isC hC hadr hk1 hB
  exact kk _ _ a b hS1
theorem mp_callr {r : Nat} {wc : va_W} {isC : List Nat} {arr : Array Value} (hP : va_P D mp_cl ws H) (hD : va_D A ws) (hS : va_S A s.heap H locs) (hA : ∀ q, s.heap.size ≤ q → A q) (hC : isC.map (fun i => ws[i]?) = wc.map some) (hadr : w1.map Prod.fst = wc.map Prod.fst)
    (hr : va_Run p l e R s m args below meth c H locs cells slots mc ms (F0 m pc ls st) rest (mp_Qr D r w1 (va_A wc H.size) arr) (va_A wc H.size))
    (kk : ∀ (H1 : Heap) (locs1 : List Loc), va_P D mp_cl (mp_put ws isC w1) H1 → va_D A (mp_put ws isC w1) → va_S A s.heap H1 locs1 → W p l e R s m args below meth c H1 locs1 (cells + mc) (slots + ms) Q (F0 m (pc + 3) ls (.ref r :: rest))) : W p l e R s m args below meth c H locs cells slots Q (F0 m pc ls st) := by
  have hF := va_free hD hS hA isC hC
  refine va_callr hr hS (fun q _ h => hF q h) hF (fun u r' t H1 locs1 ht hvm hw hB hz1 hk1 hS1 => ?_)
  obtain ⟨hr', hB⟩ := hB
  subst hr'; subst ht
  obtain ⟨a, b⟩ := mp_joined hP hD isC hC hadr hk1 hB
  exact kk _ _ a b hS1
/-! returns -/
theorem mp_reti {r v : Int32} (X : mp_X p s m meth c args own nm cc nL (some .int)) (hP : va_P D mp_cl w1 H) (hS : va_S A s.heap H locs) (h : v = r) (hdg : decode cc pc = .ok (.ireturn, 1)) : W p l e R s m args below meth c H locs cells slots (MQ below (mp_Qi D r w1 A) args s cells slots A) (F0 m pc ls [.int v]) :=
  W.iret X.1 X.2.1 X.2.2.2.1 (fun t ht hW => ⟨⟨v, (), rfl, h, by show va_P D mp_cl w1 t.heap; rw [ht]; exact hP⟩, hS.F ht⟩) hS.2.2 hdg X.2.2.2.2.2.2.1
theorem mp_retz {r v : Int32} (X : mp_X p s m meth c args own nm cc nL (some .boolean)) (hP : va_P D mp_cl w1 H) (hS : va_S A s.heap H locs) (h : v = r) (h01 : v = 0 ∨ v = 1) (hdg : decode cc pc = .ok (.ireturn, 1)) : W p l e R s m args below meth c H locs cells slots (MQ below (mp_Qi D r w1 A) args s cells slots A) (F0 m pc ls [.int v]) :=
  W.zret X.1 X.2.1 X.2.2.2.1 (by rcases h01 with rfl | rfl <;> rfl) (fun t ht hW => ⟨⟨v, (), rfl, h, by show va_P D mp_cl w1 t.heap; rw [ht]; exact hP⟩, hS.F ht⟩) hS.2.2 hdg X.2.2.2.2.2.2.1
theorem mp_retl {r v : Int64} (X : mp_X p s m meth c args own nm cc nL (some .long)) (hP : va_P D mp_cl w1 H) (hS : va_S A s.heap H locs) (h : v = r) (hdg : decode cc pc = .ok (.lreturn, 1)) : W p l e R s m args below meth c H locs cells slots (MQ below (mp_Ql D r w1 A) args s cells slots A) (F0 m pc ls [.long v]) :=
  W.lret X.1 X.2.1 X.2.2.2.1 (fun t ht hW => ⟨⟨v, (), rfl, h, by show va_P D mp_cl w1 t.heap; rw [ht]; exact hP⟩, hS.F ht⟩) hS.2.2 hdg X.2.2.2.2.2.2.1
theorem mp_retv (X : mp_X p s m meth c args own nm cc nL none) (hP : va_P D mp_cl w1 H) (hS : va_S A s.heap H locs) (hdg : decode cc pc = .ok (.return_, 1)) : W p l e R s m args below meth c H locs cells slots (MQ below (mp_Qv D w1 A) args s cells slots A) (F0 m pc ls []) :=
  W.vret X.1 X.2.1 X.2.2.2.1 (fun t ht hW => ⟨⟨(), rfl, trivial, by show va_P D mp_cl w1 t.heap; rw [ht]; exact hP⟩, hS.F ht⟩) hS.2.2 hdg X.2.2.2.2.2.2.1
theorem mp_reta {r : Nat} {C : String} (X : mp_X p s m meth c args own nm cc nL (some (.object C))) (hP : va_P D mp_cl w1 H) (hS : va_S A s.heap H locs) (hdg : decode cc pc = .ok (.areturn, 1)) : W p l e R s m args below meth c H locs cells slots (MQ below (mp_Qr D r w1 A) args s cells slots A) (F0 m pc ls [.ref r]) :=
  W.aret X.1 X.2.1 X.2.2.2.1 (Or.inl ⟨_, rfl⟩) (Or.inr ⟨_, rfl⟩) (fun t ht hW => ⟨⟨(), r, rfl, trivial, rfl, by rw [ht]; exact hP⟩, hS.F ht⟩) hS.2.2 hdg X.2.2.2.2.2.2.1
theorem mp_retc {w1 : (Nat → Nat) → va_W} {q : Nat → Nat} (X : mp_X p s m meth c args own nm cc nL none) (hP : va_P D mp_cl (w1 q) H) (hD : va_D A (w1 q)) (hS : va_S A s.heap H locs) (hdg : decode cc pc = .ok (.return_, 1)) : W p l e R s m args below meth c H locs cells slots (MQ below (mp_Qc D w1 A) args s cells slots A) (F0 m pc ls []) :=
  W.vret X.1 X.2.1 X.2.2.2.1 (fun t ht hW => ⟨⟨q, rfl, trivial, by rw [ht]; exact hP, hD⟩, hS.F ht⟩) hS.2.2 hdg X.2.2.2.2.2.2.1
/-! fields -/
def mp_FL (own : String) (i ci k : Nat) (C : String) (TT : u_T) (N : Nat) : Prop := mp_cl[ci]? = some (C, TT, N) ∧ k < N ∧ Cond.fieldLink own i C (TT k).2.1 (TT k).2.2.1 ∈ mp_B ∧ (TT k).1 = C ∧ ∀ w ∈ u_ws C TT N, w ∈ mp_B
def mp_FP (C : String) (TT : u_T) (N : Nat) (tt : Nat → FieldType) : Prop := (∀ k, k < N → parseFieldDescriptor (TT k).2.2.1 = some (tt k)) ∧ ∀ a, a < N → ∀ b, b < N → a ≠ b → (TT a).2.1 ≠ (TT b).2.1
theorem mp_get {ci : Nat} {C : String} {TT : u_T} {N i f : Nat} (X : mp_X p s m meth c args own nm cc nL ret) (F : mp_FL own i ci f C TT N) (hK : va_K D mp_cl (mp_ty T) s) (hP : va_P D mp_cl ws H) (q0 : Nat) {fs : List Value} (he : ws[q0]? = some (a, .inr (ci, fs))) {v : Value} (hv : fs[f]? = some v) (hdg : decode cc pc = .ok (.getfield i, 3))
    (kk : W p l e R s m args below meth c H locs cells slots Q (F0 m (pc + 3) ls (v :: rest))) : W p l e R s m args below meth c H locs cells slots Q (F0 m pc ls (.ref a :: rest)) :=
  va_get (C := C) (T := TT) (N := N) (ref := C) X.1 X.2.1 X.2.2.2.2.2.1 F.2.2.2.2 X.2.2.2.2.1 hK hP q0 he F.1 f F.2.1 (X.2.2.2.2.2.1 _ F.2.2.1) (by rw [F.2.2.2.1]; exact fun _ h => h) hv hdg kk
theorem mp_putf {ci : Nat} {C : String} {TT : u_T} {N i f : Nat} {tt : Nat → FieldType} (X : mp_X p s m meth c args own nm cc nL ret) (F : mp_FL own i ci f C TT N) (P : mp_FP C TT N tt) (hfin : (TT f).2.2.2 = false) (hK : va_K D mp_cl (mp_ty T) s) (hP : va_P D mp_cl ws H) (hD : va_D A ws) (hS : va_S A s.heap H locs) (q0 : Nat) {fs : List Value} (he : ws[q0]? = some (a, .inr (ci, fs))) {v : Value} (hn : narrow (tt f) v = v) (hfit : fits (tt f) v = true) (hl : f < fs.length) (hdg : decode cc pc = .ok (.putfield i, 3))
    (kk : ∀ (H1 : Heap) (locs1 : List Loc), va_P D mp_cl (ws.set q0 (a, .inr (ci, fs.set f v))) H1 → va_D A (ws.set q0 (a, .inr (ci, fs.set f v))) → va_S A s.heap H1 locs1 → W p l e R s m args below meth c H1 locs1 cells slots Q (F0 m (pc + 3) ls rest)) : W p l e R s m args below meth c H locs cells slots Q (F0 m pc ls (v :: .ref a :: rest)) :=
  va_put (C := C) (T := TT) (N := N) (ref := C) X.1 X.2.1 X.2.2.2.2.2.1 F.2.2.2.2 tt P.1 P.2 X.2.2.2.2.1 hK hP hD hS q0 he F.1 f F.2.1 (X.2.2.2.2.2.1 _ F.2.2.1) (by rw [F.2.2.2.1]; exact fun _ h => h) hfin (P.1 f F.2.1) hn hfit hl hdg kk
theorem mp_putF {ci : Nat} {TT : u_T} {N i f : Nat} {tt : Nat → FieldType} (X : mp_X p s m meth c args own "<init>" cc nL ret) (F : mp_FL own i ci f own TT N) (P : mp_FP own TT N tt) (hfin : (TT f).2.2.2 = true) (hK : va_K D mp_cl (mp_ty T) s) (hP : va_P D mp_cl ws H) (hD : va_D A ws) (hS : va_S A s.heap H locs) (q0 : Nat) {fs : List Value} (he : ws[q0]? = some (a, .inr (ci, fs))) {v : Value} (hn : narrow (tt f) v = v) (hfit : fits (tt f) v = true) (hl : f < fs.length) (hdg : decode cc pc = .ok (.putfield i, 3))
    (kk : ∀ (H1 : Heap) (locs1 : List Loc), va_P D mp_cl (ws.set q0 (a, .inr (ci, fs.set f v))) H1 → va_D A (ws.set q0 (a, .inr (ci, fs.set f v))) → va_S A s.heap H1 locs1 → W p l e R s m args below meth c H1 locs1 cells slots Q (F0 m (pc + 3) ls rest)) : W p l e R s m args below meth c H locs cells slots Q (F0 m pc ls (v :: .ref a :: rest)) :=
  va_putF (C := own) (T := TT) (N := N) (ref := own) X.1 X.2.1 X.2.2.2.2.2.1 F.2.2.2.2 tt P.1 P.2 X.2.2.2.2.1 hK hP hD hS q0 he F.1 f F.2.1 (X.2.2.2.2.2.1 _ F.2.2.1) (by rw [F.2.2.2.1]; exact fun _ h => h) hfin X.2.2.2.2.2.2.2 F.2.2.2.1 (P.1 f F.2.1) hn hfit hl hdg kk
end MPC
/-! what the pure pictures are made of: a guard, a call, a name -/
def gd_ {α : Type} (g : Prop) [Decidable g] (x : Option α) : Option α := if g then x else none
theorem gd_of {α : Type} {g : Prop} [Decidable g] {x : Option α} {o : α} (h : gd_ g x = some o) : g ∧ x = some o := by
  unfold gd_ at h
  by_cases hg : g
  · rw [if_pos hg] at h; exact ⟨hg, h⟩
  · rw [if_neg hg] at h; cases h
theorem gd_pos {α : Type} {g : Prop} [Decidable g] {x : Option α} (h : g) : gd_ g x = x := if_pos h
def bd_ {α β : Type} (x : Option β) (k : β → Option α) : Option α := x.bind k
theorem bd_of {α β : Type} {x : Option β} {k : β → Option α} {o : α} (h : bd_ x k = some o) : ∃ v, x = some v ∧ k v = some o := Option.bind_eq_some_iff.mp h
theorem bd_some {α β : Type} {x : Option β} {k : β → Option α} {v : β} (h : x = some v) : bd_ x k = k v := by rw [h]; rfl
def lt_ {α β : Type} (v : β) (k : β → Option α) : Option α := k v
theorem lt_of {α β : Type} {v y : β} {k : β → Option α} {o : Option α} (e : y = v) (h : lt_ v k = o) : k y = o := by subst e; exact h
theorem if_t {α : Type} {g : Prop} [Decidable g] {x y : Option α} {o : Option α} (h : (if g then x else y) = o) (hg : g) : x = o := by rw [if_pos hg] at h; exact h
theorem if_f {α : Type} {g : Prop} [Decidable g] {x y : Option α} {o : Option α} (h : (if g then x else y) = o) (hg : ¬ g) : y = o := by rw [if_neg hg] at h; exact h

def gi_ {α : Type} (i : Int32) (n : Nat) (x : Option α) : Option α := if i < 0 ∨ n ≤ i.toNatClampNeg then none else x
theorem gi_of {α : Type} {i : Int32} {n : Nat} {x : Option α} {o : α} (h : gi_ i n x = some o) : vp_in i n ∧ x = some o := by
  unfold gi_ at h
  by_cases hg : i < 0 ∨ n ≤ i.toNatClampNeg
  · rw [if_pos hg] at h; cases h
  · rw [if_neg hg] at h; exact ⟨hg, h⟩
theorem gi_pos {α : Type} {i : Int32} {n : Nat} {x : Option α} (h : vp_in i n) : gi_ i n x = x := if_neg h
/-- System.arraycopy's guard -/
def gc_ {α : Type} (sp dp n : Int32) (n0 n1 : Nat) (x : Option α) : Option α := if ¬ sp < 0 ∧ ¬ dp < 0 ∧ ¬ n < 0 ∧ sp.toNatClampNeg + n.toNatClampNeg ≤ n0 ∧ dp.toNatClampNeg + n.toNatClampNeg ≤ n1 then x else none
theorem gc_of {α : Type} {sp dp n : Int32} {n0 n1 : Nat} {x : Option α} {o : α} (h : gc_ sp dp n n0 n1 x = some o) : (¬ sp < 0 ∧ ¬ dp < 0 ∧ ¬ n < 0 ∧ sp.toNatClampNeg + n.toNatClampNeg ≤ n0 ∧ dp.toNatClampNeg + n.toNatClampNeg ≤ n1) ∧ x = some o := gd_of (g := ¬ sp < 0 ∧ ¬ dp < 0 ∧ ¬ n < 0 ∧ sp.toNatClampNeg + n.toNatClampNeg ≤ n0 ∧ dp.toNatClampNeg + n.toNatClampNeg ≤ n1) h
/-- a switch over a table: none of its cases -/
theorem sw_out {x : Int32} (lo : Int) (n : Nat) (h : ∀ k : Nat, k < n → x.toInt ≠ lo + k) (hn : 0 < n) : x.toInt < lo ∨ lo + ((n - 1 : Nat) : Int) < x.toInt := by
  rcases Int.lt_or_le x.toInt lo with h1 | h1
  · exact Or.inl h1
  · refine Or.inr (Int.not_le.mp fun h2 => ?_)
    exact h (x.toInt - lo).toNat (by omega) (by omega)
def mp_ol (l : List Nat) : Nat → Option Nat := fun i => l[i]?
