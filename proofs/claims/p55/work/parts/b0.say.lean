/-! what is said: texts, names, numbers, by the law's own methods -/
def SYK (K V : Nat → Nat) (F : Option Nat) (A : Nat → Prop) (s : State) (H : Heap) : Prop := ∀ t, t < 14 → vk_R (so t) (si t) (sx t) (K t) s ∧ sw (sn t) (sr t) (K t) (V t) F A s H
theorem SYK.vm {K V : Nat → Nat} {F : Option Nat} {A : Nat → Prop} {s U : State} {H : Heap} (h : SYK K V F A s H) (hW : s.WarmedH U.vm) : SYK K V F A U H := fun t ht => ⟨(h t ht).1.warm hW, (h t ht).2.moved hW.alike⟩
theorem SYK.same {K V : Nat → Nat} {F : Option Nat} {A : Nat → Prop} {u : State} {H : Heap} (h : SYK K V F A u H) (U : State) (e : U.vm = u.vm) : SYK K V F A U H := fun t ht => ⟨vk_R.same (u := u) e (h t ht).1, sw.moved (u := u) (U := U) (by rw [e]; exact Vm.Alike.refl _) (h t ht).2⟩
theorem SYK.sub {K V : Nat → Nat} {F : Option Nat} {A B : Nat → Prop} {s : State} {H H1 : Heap} (h : SYK K V F A s H) (hq : ∀ a : Nat, a < H.size → ¬ A a → H1[a]? = H[a]?) (hAB : ∀ q, B q → A q) : SYK K V F B s H1 := fun t ht => ⟨(h t ht).1, ((h t ht).2.kept hq).narrow hAB⟩
/-- a contract of a method of the law that reads texts -/
def mp_MH (l : Launch) (D : va_G) (T : Nat → ClassId) (K V : Nat → Nat) (F : Option Nat) (y : MethodName) (b : ByteArray) (n : Nat) (ret : Option FieldType) (rm : Room) (mc ms : Nat) (av : List Value) (ws : va_W) (QQ : (Nat → Prop) → Array Value → State → Outcome → State → Prop) : Prop :=
  ∀ sz : Nat, Met l y (.code y b n ret :: mp_B) rm (va_Pc av (fun U => mp_Pre D T sz ws U ∧ SYK K V F (va_A ws sz) U U.heap)) (QQ (va_A ws sz)) mc ms (va_A ws sz)
theorem mp_blindH {D : va_G} {T : Nat → ClassId} {K V : Nat → Nat} {F : Option Nat} {sz : Nat} {A : Nat → Prop} {ws : va_W} {av : List Value} : FrameBlind (va_Pc av (fun U => mp_Pre D T sz ws U ∧ SYK K V F A U U.heap)) := fun a U g mk q => by
  obtain ⟨q0, ⟨q1, qP, qK, qD⟩, q2⟩ := q
  exact ⟨q0, ⟨q1, qP, va_K.moved (u := U) (U := U.calling g mk a) (Vm.Alike.refl U.vm) qK, qD⟩, q2.same (U.calling g mk a) rfl⟩
theorem mp_ofH {l : Launch} {D : va_G} {T : Nat → ClassId} {K V : Nat → Nat} {F : Option Nat} {y : MethodName} {b : ByteArray} {n : Nat} {ret : Option FieldType} {rm : Room} {mc ms : Nat} {av : List Value} {ws : va_W} {QQ : (Nat → Prop) → Array Value → State → Outcome → State → Prop} {lv : List (Nat × Value)}
    (hy : plainName y.cls = true) (hlen : (lg_sl av).length ≤ n) (hlv : lv_args 0 av = lv)
    (body : ∀ (p : Program) (e : Env) (s : State) (m : MethodId) (args : Array Value) (below : List Frame) (meth : Method) (c : Code) (A : Nat → Prop) (ls : Array Slot), SYK K V F A s s.heap → mp_X p s m meth c args y.cls y.name b n ret → va_K D mp_cl (mp_ty T) s → va_P D mp_cl ws s.heap → va_D A ws → va_S A s.heap s.heap [] → (∀ q, s.heap.size ≤ q → A q) → lv_has ls n lv →
      W p l e rm s m args below meth c s.heap [] 0 0 (MQ below (QQ A) args s mc ms A) (F0 m 0 ls [])) : mp_MH l D T K V F y b n ret rm mc ms av ws QQ := by
  intro sz
  refine Met.ofW (cc := b) (maxL := n) (ret := ret) hy rfl ?_
  intro p e s m args below meth c s₁ B hml hv
  obtain ⟨rfl, ⟨hsz, hP, hK, hD0⟩, hY⟩ := hv
  have hts : ∀ w ∈ mp_B, w.before av.toArray s = true := fun w hw => atoms_spec (ws := .code y b n ret :: mp_B) B.pre w (List.mem_cons_of_mem _ hw)
  have hown : s.vm.findClass y.cls = some m.cls := findClass_of_methodNamed B.named
  have hin : meth.name = y.name := (name_of_methodNamed B.named B.method).1
  subst hsz
  have hD := hD0.self (sz := s.heap.size)
  have hl := lv_entry av hlen
  rw [lg_entry_eq]
  rw [hlv] at hl
  exact body p e s m av.toArray below meth c (va_A ws s.heap.size) _ hY ⟨B.exec, B.bytes, hml, B.returns, hown, hts, B.notSynchronized, hin⟩ hK hP hD va_S.rf (fun q h => Or.inr h) hl
section NH
variable {p : Program} {l : Launch} {e : Env} {R : Room} {s : State} {m : MethodId} {args : Array Value} {below : List Frame} {meth : Method} {c : Code} {H : Heap} {locs : List Loc} {cells slots : Nat} {Q : State → Prop}
variable {pc : Nat} {ls : Array Slot} {rest st As : List Value} {D : va_G} {T : Nat → ClassId} {A : Nat → Prop} {ws wc w1 : va_W} {own nm : String} {cc b : ByteArray} {nL n idx k : Nat} {ret yret : Option FieldType} {y : MethodName} {rm : Room} {QQ : (Nat → Prop) → Array Value → State → Outcome → State → Prop} {mc ms : Nat} {K V : Nat → Nat} {F : Option Nat}
theorem SYK.down (hY : SYK K V F A s s.heap) (hS : va_S A s.heap H locs) (hA : ∀ q, s.heap.size ≤ q → A q) (hDc : va_D A wc) : SYK K V F (va_A wc H.size) s H := by
  refine hY.sub hS.2.1 (fun q h => ?_)
  rcases h with ⟨k, e, h⟩ | h
  · exact hDc.2 k (q, e) h
  · exact hA q (Nat.le_trans hS.1 h)
theorem mp_runSH (hY : SYK K V F A s s.heap) (hS : va_S A s.heap H locs) (hA : ∀ q, s.heap.size ≤ q → A q) (X : mp_X p s m meth c args own nm cc nL ret) (hm : mp_MS y b n yret k) (hlk : Cond.methodLink own idx y ∈ mp_B) (hM : mp_MH l D T K V F y b n yret rm mc ms As wc QQ) (hrc : rm.cells = mc) (hrs : rm.slots = ms) (hR : mp_R rm R n)
    (hK : va_K D mp_cl (mp_ty T) s) (hPc : va_P D mp_cl wc H) (hDc : va_D A wc)
    (hn : As.length = k) (hsz : ls.size = nL) (hst : st = As.reverse ++ rest) (hW : (rest.map fun v => v.category).sum ≤ 8) (hdg : decode cc pc = .ok (.invokestatic idx, 3)) (hf : cells + mc ≤ R.cells ∧ slots + ms ≤ R.slots) :
    va_Run p l e R s m args below meth c H locs cells slots mc ms (F0 m pc ls st) rest (QQ (va_A wc H.size) As.toArray) (va_A wc H.size) := by
  obtain ⟨hx, hb, hml, hr, hown, hts, hlocks, hnm⟩ := X
  obtain ⟨h1, h3, h4, h5, h6, h7⟩ := hm
  refine va_runS (As := As) (rest := rest) (Ts := mp_B) ⟨hx, hb, hml, hown, hts⟩ (hM H.size) (va_cwS k hts (mp_GI ?_) rfl hrc hrs ⟨h5, h6, h7⟩ hR) ⟨mp_blindH, fun U hU hW => ⟨rfl, ⟨by rw [hU], by rw [hU]; exact hPc, va_K.moved hW.alike hK, hDc.weaken (fun _ _ _ _ => trivial)⟩, by rw [hU]; exact (SYK.down hY hS hA hDc).vm hW⟩⟩ rfl hn hsz hst (lv_room hW) hdg hf
  intro w hw
  rcases List.mem_append.mp hw with hw | hw
  · simp only [List.mem_cons, List.not_mem_nil, or_false] at hw
    rcases hw with rfl | rfl | rfl <;> assumption
  · exact mp_ws h4 w hw
end NH
theorem sn_len : ∀ t, t < 14 → (sr t).length = sn t := by decide +kernel
/-- the cells that are said to: of a new object, with the law's row -/
def kS (T : Nat → ClassId) (a : Nat → Nat) (am : Nat) (fl : Int32) (tp vm : Nat → Int32) : va_W := k_L_put T (a 0) (a 1) (a 9) (a 14) (a 17) (a 20) (a 21) (a 23) (a 43) (a 63) (a 64) (a 75) (a 85) (a 18) (a 19) am 24 (i0 0) (i0 1) (i0 2) fl (i0 6) (i0 7) (i0 8) (i0 9) (j0 2) (i0 10) (i0 11) (i0 12) (i0 13) tp vm
set_option maxHeartbeats 4000000 in
set_option maxRecDepth 100000 in
theorem c_L_say (l : Launch) (D : va_G) (T : Nat → ClassId) (K V : Nat → Nat) (F : Option Nat) {t : Nat} (ht : t < 14) (a : Nat → Nat) (am : Nat) (fl : Int32) (tp vm : Nat → Int32) (fl' : Int32) (tp' vm' : Nat → Int32) (hf : f_say 100000 (sr t) fl tp vm = some (fl', tp', vm')) :
    mp_MH l D T K V F yL_say cL_say 4 none ({ frames := 4, cells := 0, slots := 0, locals := 91 }) 0 0 [.ref (a 0), .ref am, .ref (K t)] (kS T a am fl tp vm) (mp_Qv D (kS T a am fl' tp' vm')) := by
  refine mp_ofH (by decide) (Nat.le_of_ble_eq_true rfl) rfl ?_
  intro p e s m args below meth c A ls hY X hK hP hD hS hA hl
  replace X : mp_X p s m meth c args RL "say" cL_say 4 none := X
  have hx := X.1
  have hb := X.2.1
  replace hl : lv_has ls 4 [(0, .ref (a 0)), (1, .ref am), (2, .ref (K t))] := hl
  have hW := (hY t ht).2
  have hn1 := sn_lt t ht
  have hln := sn_len t ht
  refine lv_iconst (v := (nI 0)) hx hb dL_say_0 (by decide) ?_
  refine lv_istore_n (lv' := [(3, .int (nI 0)), (0, .ref (a 0)), (1, .ref am), (2, .ref (K t))]) hx hb dL_say_1 rfl hl (by decide) rfl (fun ls hl => ?_)
  have G : ∀ (k n : Nat), n + k = sn t → ∀ (fl : Int32) (tp vm : Nat → Int32), f_say 100000 ((sr t).drop n) fl tp vm = some (fl', tp', vm') → ∀ (H : Heap) (locs : List Loc) (ls : Array Slot), va_P D mp_cl (kS T a am fl tp vm) H → va_D A (kS T a am fl tp vm) → va_S A s.heap H locs → lv_has ls 4 [(3, .int (nI n)), (0, .ref (a 0)), (1, .ref am), (2, .ref (K t))] →
      W p l e ({ frames := 4, cells := 0, slots := 0, locals := 91 } : Room) s m args below meth c H locs 0 0 (MQ below (mp_Qv D (kS T a am fl' tp' vm') A) args s 0 0 A) (F0 m 2 ls []) := by
    intro k
    induction k with
    | zero =>
      intro n hn fl tp vm hf H locs ls hP hD hS hl
      obtain rfl : n = sn t := by omega
      rw [← hln, List.drop_length] at hf
      cases hf
      refine lv_iload_n hx hb dL_say_2 rfl (lv_at hl 0 rfl) ?_
      refine lv_aload_n hx hb dL_say_3 rfl (lv_at hl 3 rfl) ?_
      refine sw_calli hP hD hS hA (sw_runV (As := []) (rest := [.int (nI (sn t))]) X sm_length rfl lk_L_22 (sc_length l D T (sn t) (sr t) (K t) (V t) F hn1) rfl rfl ⟨(Nat.le_of_ble_eq_true rfl), (Nat.le_of_ble_eq_true rfl)⟩ hK hW hS hA rfl hl.1 rfl (Nat.le_of_ble_eq_true rfl) dL_say_4 ⟨(Nat.le_of_ble_eq_true rfl), (Nat.le_of_ble_eq_true rfl)⟩) (fun H locs hP hD hS => ?_)
      refine lv_icmp_ge (tgt := 26) hx hb dL_say_7 (by decide) (fun _ => ?_) (fun q => absurd (Int32.le_refl _) q)
      exact mp_retv X hP hS dL_say_26
    | succ k ih =>
      intro n hn fl tp vm hf H locs ls hP hD hS hl
      have hlt : n < sn t := by omega
      have hd : (sr t).drop n = (sr t).getD n 0 :: (sr t).drop (n + 1) := by
        rw [List.drop_eq_getElem_cons (by omega), List.getD_eq_getElem?_getD, List.getElem?_eq_getElem (by omega)]
        rfl
      rw [hd] at hf
      obtain ⟨⟨f1, t1, v1⟩, e1, e2⟩ := bd_of (show bd_ (f_L_put 100000 24 ((sr t).getD n 0) fl tp vm) (fun z => f_say 100000 ((sr t).drop (n + 1)) z.1 z.2.1 z.2.2) = some (fl', tp', vm') from hf)
      refine lv_iload_n hx hb dL_say_2 rfl (lv_at hl 0 rfl) ?_
      refine lv_aload_n hx hb dL_say_3 rfl (lv_at hl 3 rfl) ?_
      refine sw_calli hP hD hS hA (sw_runV (As := []) (rest := [.int (nI n)]) X sm_length rfl lk_L_22 (sc_length l D T (sn t) (sr t) (K t) (V t) F hn1) rfl rfl ⟨(Nat.le_of_ble_eq_true rfl), (Nat.le_of_ble_eq_true rfl)⟩ hK hW hS hA rfl hl.1 rfl (Nat.le_of_ble_eq_true rfl) dL_say_4 ⟨(Nat.le_of_ble_eq_true rfl), (Nat.le_of_ble_eq_true rfl)⟩) (fun H locs hP hD hS => ?_)
      refine lv_icmp_ge (tgt := 26) hx hb dL_say_7 (by decide) (fun q => absurd q (Int32.not_le.mpr (nI_lt (a := n) (b := sn t) hlt (by omega)))) (fun _ => ?_)
      refine lv_aload_n hx hb dL_say_10 rfl (lv_at hl 1 rfl) ?_
      refine lv_aload_n hx hb dL_say_11 rfl (lv_at hl 2 rfl) ?_
      refine lv_aload_n hx hb dL_say_12 rfl (lv_at hl 3 rfl) ?_
      refine lv_iload_n hx hb dL_say_13 rfl (lv_at hl 0 rfl) ?_
      refine sw_calli hP hD hS hA (sw_runV (As := [.int (nI n)]) (rest := [.ref am, .ref (a 0)]) X sm_charAt rfl lk_L_28 (sc_charAt l D T (sn t) (sr t) (K t) (V t) F hn1 (sr_ok t ht) hlt) rfl rfl ⟨(Nat.le_of_ble_eq_true rfl), (Nat.le_of_ble_eq_true rfl)⟩ hK hW hS hA rfl hl.1 rfl (Nat.le_of_ble_eq_true rfl) dL_say_14 ⟨(Nat.le_of_ble_eq_true rfl), (Nat.le_of_ble_eq_true rfl)⟩) (fun H locs hP hD hS => ?_)
      have hPc := hP.sub (ws' := kS T a am fl tp vm) [0, 1, 2, 3] rfl
      have hDc := hD.sub (ws' := kS T a am fl tp vm) [0, 1, 2, 3] rfl rfl
      refine mp_callv (isC := [0, 1, 2, 3]) (wc := kS T a am fl tp vm) (w1 := kS T a am f1 t1 v1) hP hD hS hA rfl rfl (mp_runS (As := [.ref (a 0), .ref am, .int ((sr t).getD n 0)]) (rest := []) X me_L_put lk_L_32 (c_L_put l D T 100000 (a 0) (a 1) (a 9) (a 14) (a 17) (a 20) (a 21) (a 23) (a 43) (a 63) (a 64) (a 75) (a 85) (a 18) (a 19) am 24 ((sr t).getD n 0) (i0 0) (i0 1) (i0 2) (i0 6) (i0 7) (i0 8) (i0 9) (j0 2) (i0 10) (i0 11) (i0 12) (i0 13) fl tp vm f1 t1 v1 e1) rfl rfl ⟨(Nat.le_of_ble_eq_true rfl), (Nat.le_of_ble_eq_true rfl)⟩ hK hPc hDc rfl hl.1 rfl (Nat.le_of_ble_eq_true rfl) dL_say_17 ⟨(Nat.le_of_ble_eq_true rfl), (Nat.le_of_ble_eq_true rfl)⟩) (fun H locs hP hD hS => ?_)
      replace hP : va_P D mp_cl (kS T a am f1 t1 v1) H := hP
      replace hD : va_D A (kS T a am f1 t1 v1) := hD
      refine lv_iinc (v := (nI (n + 1))) (lv' := [(3, .int (nI (n + 1))), (0, .ref (a 0)), (1, .ref am), (2, .ref (K t))]) hx hb dL_say_20 hl (k := 0) rfl (nI_succ n).symm (by decide) rfl (fun ls hl => ?_)
      refine lv_goto (tgt := 2) hx hb dL_say_23 (by decide) ?_
      exact ih (n + 1) (by omega) _ _ _ e2 _ _ _ hP hD hS hl
  exact G (sn t) 0 (by omega) fl tp vm hf _ _ _ hP hD hS hl
