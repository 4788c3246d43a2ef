/-! texts: String.length, String.charAt over a constant's cells -/
theorem sw_shr {n : Nat} (h : n < 1000) : nI n >>> ((0 : Int32) &&& 31) = nI n := by
  rw [show (0 : Int32) = nI 0 from rfl, nI_shr (by omega) (by omega), Nat.pow_zero, Nat.div_one]
/-- bytes that are letters as they stand -/
def tw_ok (tn : Nat) (tr : List Int32) : Prop := ∀ k, k < tn → ((tr.getD k 0 &&& 255).toUInt32 % 65536).toInt32 = tr.getD k 0 ∧ narrow .char (.int (tr.getD k 0)) = .int (tr.getD k 0)
theorem tw_of {tn : Nat} {tr : List Int32} (h : (List.range tn).all (fun k => decide (((tr.getD k 0 &&& 255).toUInt32 % 65536).toInt32 = tr.getD k 0) && decide ((tr.getD k 0).toUInt32.toUInt16.toUInt32.toInt32 = tr.getD k 0)) = true) : tw_ok tn tr := fun k hk => by
  have h1 := List.all_eq_true.mp h k (List.mem_range.mpr hk)
  rw [Bool.and_eq_true] at h1
  exact ⟨of_decide_eq_true h1.1, congrArg Value.int (of_decide_eq_true h1.2)⟩
def swv : Option Nat → Value
  | none => .null
  | some t => .ref t
/-- the cells of a text K, of its bytes V; the statics that its methods read -/
def sw (tn : Nat) (tr : List Int32) (K V : Nat) (F : Option Nat) (A : Nat → Prop) (U : State) (H : Heap) : Prop :=
  vk_S 1 [tn] [tr] (fun _ => K) (fun _ => V) A U H ∧ va_Z "java/lang/String" "COMPACT_STRINGS" "Z" (.int 1) A U H ∧ va_Z "jdk/internal/util/Preconditions" "SIOOBE_FORMATTER" "Ljava/util/function/BiFunction;" (swv F) A U H
theorem sw.moved {tn : Nat} {tr : List Int32} {K V : Nat} {F : Option Nat} {A : Nat → Prop} {u U : State} {H : Heap} (hvm : u.vm.Alike U.vm) (h : sw tn tr K V F A u H) : sw tn tr K V F A U H := ⟨h.1.moved hvm, h.2.1.moved hvm, h.2.2.moved hvm⟩
theorem sw.kept {tn : Nat} {tr : List Int32} {K V : Nat} {F : Option Nat} {A : Nat → Prop} {U : State} {H H1 : Heap} (h : sw tn tr K V F A U H) (hq : ∀ a : Nat, a < H.size → ¬ A a → H1[a]? = H[a]?) : sw tn tr K V F A U H1 := ⟨h.1.kept hq, h.2.1.kept hq, h.2.2.kept hq⟩
theorem sw.narrow {tn : Nat} {tr : List Int32} {K V : Nat} {F : Option Nat} {A B : Nat → Prop} {U : State} {H : Heap} (h : sw tn tr K V F A U H) (hAB : ∀ q, B q → A q) : sw tn tr K V F B U H := ⟨h.1.narrow hAB, h.2.1.narrow hAB, h.2.2.narrow hAB⟩
/-- a contract of a method of the text: it writes no cell -/
def sw_M (l : Launch) (D : va_G) (T : Nat → ClassId) (tn : Nat) (tr : List Int32) (K V : Nat) (F : Option Nat) (y : MethodName) (b : ByteArray) (n : Nat) (ret : Option FieldType) (rm : Room) (av : List Value) (QQ : (Nat → Prop) → Array Value → State → Outcome → State → Prop) : Prop :=
  ∀ sz : Nat, Met l y (.code y b n ret :: mp_B) rm (va_Pc av (fun U => mp_Pre D T sz [] U ∧ sw tn tr K V F (va_A [] sz) U U.heap)) (QQ (va_A [] sz)) 0 0 (va_A [] sz)
theorem sw_blind {D : va_G} {T : Nat → ClassId} {tn : Nat} {tr : List Int32} {sz K V : Nat} {F : Option Nat} {A : Nat → Prop} {ws : va_W} {av : List Value} : FrameBlind (va_Pc av (fun U => mp_Pre D T sz ws U ∧ sw tn tr K V F A U U.heap)) := fun a U g mk q => by
  obtain ⟨q0, ⟨q1, qP, qK, qD⟩, qZ⟩ := q
  exact ⟨q0, ⟨q1, qP, va_K.moved (u := U) (U := U.calling g mk a) (Vm.Alike.refl U.vm) qK, qD⟩, sw.moved (u := U) (U := U.calling g mk a) (Vm.Alike.refl U.vm) qZ⟩
theorem sw_of {l : Launch} {D : va_G} {T : Nat → ClassId} {tn : Nat} {tr : List Int32} {K V : Nat} {F : Option Nat} {y : MethodName} {b : ByteArray} {n : Nat} {ret : Option FieldType} {rm : Room} {av : List Value} {QQ : (Nat → Prop) → Array Value → State → Outcome → State → Prop} {lv : List (Nat × Value)}
    (hy : plainName y.cls = true) (hlen : (lg_sl av).length ≤ n) (hlv : lv_args 0 av = lv)
    (body : ∀ (p : Program) (e : Env) (s : State) (m : MethodId) (args : Array Value) (below : List Frame) (meth : Method) (c : Code) (A : Nat → Prop) (ls : Array Slot), mp_X p s m meth c args y.cls y.name b n ret → va_K D mp_cl (mp_ty T) s → va_P D mp_cl [] s.heap → va_D A [] → va_S A s.heap s.heap [] → (∀ q, s.heap.size ≤ q → A q) → sw tn tr K V F A s s.heap → lv_has ls n lv →
      W p l e rm s m args below meth c s.heap [] 0 0 (MQ below (QQ A) args s 0 0 A) (F0 m 0 ls [])) : sw_M l D T tn tr K V F y b n ret rm av QQ := by
  intro sz
  refine Met.ofW (cc := b) (maxL := n) (ret := ret) hy rfl ?_
  intro p e s m args below meth c s₁ B hml hv
  obtain ⟨rfl, ⟨hsz, hP, hK, hD0⟩, hW⟩ := hv
  have hts : ∀ w ∈ mp_B, w.before av.toArray s = true := fun w hw => atoms_spec (ws := .code y b n ret :: mp_B) B.pre w (List.mem_cons_of_mem _ hw)
  have hown : s.vm.findClass y.cls = some m.cls := findClass_of_methodNamed B.named
  have hin : meth.name = y.name := (name_of_methodNamed B.named B.method).1
  subst hsz
  have hD := hD0.self (sz := s.heap.size)
  have hl := lv_entry av hlen
  rw [lg_entry_eq]
  rw [hlv] at hl
  exact body p e s m av.toArray below meth c (va_A [] s.heap.size) _ ⟨B.exec, B.bytes, hml, B.returns, hown, hts, B.notSynchronized, hin⟩ hK hP hD va_S.rf (fun q h => Or.inr h) hW hl
section SW
variable {p : Program} {l : Launch} {e : Env} {R : Room} {s : State} {m : MethodId} {args : Array Value} {below : List Frame} {meth : Method} {c : Code} {H : Heap} {locs : List Loc} {cells slots : Nat} {Q : State → Prop}
variable {pc : Nat} {ls : Array Slot} {rest st As : List Value} {D : va_G} {T : Nat → ClassId} {A : Nat → Prop} {ws : va_W} {own nm : String} {cc b : ByteArray} {nL n idx k tn K V : Nat} {tr : List Int32} {F : Option Nat} {ret yret : Option FieldType} {y : MethodName} {rm : Room} {a : Nat} {QQ : (Nat → Prop) → Array Value → State → Outcome → State → Prop}
theorem sw_down (hW : sw tn tr K V F A s s.heap) (hS : va_S A s.heap H locs) (hA : ∀ q, s.heap.size ≤ q → A q) : sw tn tr K V F (va_A [] H.size) s H := by
  refine (hW.kept hS.2.1).narrow (fun q h => ?_)
  rcases h with ⟨k, e, h⟩ | h
  · cases h
  · exact hA q (Nat.le_trans hS.1 h)
theorem sw_nil (H : Heap) : va_P D mp_cl [] H := fun k q h => by cases h
theorem sw_nilD : va_D A [] := ⟨fun i j p q h => (by cases h), fun k q h => (by cases h)⟩
theorem sw_runV (X : mp_X p s m meth c args own nm cc nL ret) (hm : mp_MV y b n yret k) (hyc : y.cls = "java/lang/String") (hlk : Cond.methodLink own idx y ∈ mp_B) (hM : sw_M l D T tn tr K V F y b n yret rm (.ref K :: As) QQ) (hrc : rm.cells = 0) (hrs : rm.slots = 0) (hR : mp_R rm R n)
    (hK : va_K D mp_cl (mp_ty T) s) (hW : sw tn tr K V F A s s.heap) (hS : va_S A s.heap H locs) (hA : ∀ q, s.heap.size ≤ q → A q)
    (hn : As.length = k) (hsz : ls.size = nL) (hst : st = As.reverse ++ .ref K :: rest) (hWd : (rest.map fun v => v.category).sum ≤ 8) (hdg : decode cc pc = .ok (.invokevirtual idx, 3)) (hf : cells + 0 ≤ R.cells ∧ slots + 0 ≤ R.slots) :
    va_Run p l e R s m args below meth c H locs cells slots 0 0 (F0 m pc ls st) rest (QQ (va_A [] H.size) (Value.ref K :: As).toArray) (va_A [] H.size) := by
  obtain ⟨hx, hb, hml, hr, hown, hts, hlocks, hnm⟩ := X
  obtain ⟨h1, h2, h3, h4, h5, h6, h7⟩ := hm
  refine va_runV (C := y.cls) (As := As) (rest := rest) (Ts := mp_B) ⟨hx, hb, hml, hown, hts⟩ (hM H.size) (cwV k hts (mp_GI ?_) rfl hrc hrs ⟨rfl, h5, h6, h7⟩ hR) ⟨sw_blind, ?_, fun U hU hW' => ⟨rfl, ⟨by rw [hU], sw_nil _, va_K.moved hW'.alike hK, sw_nilD⟩, by rw [hU]; exact (sw_down hW hS hA).moved hW'.alike⟩⟩ rfl hn hsz hst (lv_room hWd) hdg hf
  · intro w hw
    rcases List.mem_append.mp hw with hw | hw
    · simp only [List.mem_cons, List.not_mem_nil, or_false] at hw
      rcases hw with rfl | rfl | rfl | rfl <;> assumption
    · exact mp_ws h4 w hw
  · rw [hyc]
    exact vk_recv hW.1 (Nat.lt_irrefl 0 |> fun _ => Nat.zero_lt_one) hS
theorem sw_runS (X : mp_X p s m meth c args own nm cc nL ret) (hm : mp_MS y b n yret k) (hlk : Cond.methodLink own idx y ∈ mp_B) (hM : sw_M l D T tn tr K V F y b n yret rm As QQ) (hrc : rm.cells = 0) (hrs : rm.slots = 0) (hR : mp_R rm R n)
    (hK : va_K D mp_cl (mp_ty T) s) (hW : sw tn tr K V F A s s.heap) (hS : va_S A s.heap H locs) (hA : ∀ q, s.heap.size ≤ q → A q)
    (hn : As.length = k) (hsz : ls.size = nL) (hst : st = As.reverse ++ rest) (hWd : (rest.map fun v => v.category).sum ≤ 8) (hdg : decode cc pc = .ok (.invokestatic idx, 3)) (hf : cells + 0 ≤ R.cells ∧ slots + 0 ≤ R.slots) :
    va_Run p l e R s m args below meth c H locs cells slots 0 0 (F0 m pc ls st) rest (QQ (va_A [] H.size) As.toArray) (va_A [] H.size) := by
  obtain ⟨hx, hb, hml, hr, hown, hts, hlocks, hnm⟩ := X
  obtain ⟨h1, h3, h4, h5, h6, h7⟩ := hm
  refine va_runS (As := As) (rest := rest) (Ts := mp_B) ⟨hx, hb, hml, hown, hts⟩ (hM H.size) (va_cwS k hts (mp_GI ?_) rfl hrc hrs ⟨h5, h6, h7⟩ hR) ⟨sw_blind, fun U hU hW' => ⟨rfl, ⟨by rw [hU], sw_nil _, va_K.moved hW'.alike hK, sw_nilD⟩, by rw [hU]; exact (sw_down hW hS hA).moved hW'.alike⟩⟩ rfl hn hsz hst (lv_room hWd) hdg hf
  intro w hw
  rcases List.mem_append.mp hw with hw | hw
  · simp only [List.mem_cons, List.not_mem_nil, or_false] at hw
    rcases hw with rfl | rfl | rfl <;> assumption
  · exact mp_ws h4 w hw
/-- a call that writes nothing leaves the world as it was -/
theorem sw_calli {r : Int32} {arr : Array Value} (hP : va_P D mp_cl ws H) (hD : va_D A ws) (hS : va_S A s.heap H locs) (hA : ∀ q, s.heap.size ≤ q → A q)
    (hr : va_Run p l e R s m args below meth c H locs cells slots 0 0 (F0 m pc ls st) rest (mp_Qi D r [] (va_A [] H.size) arr) (va_A [] H.size))
    (kk : ∀ (H1 : Heap) (locs1 : List Loc), va_P D mp_cl ws H1 → va_D A ws → va_S A s.heap H1 locs1 → W p l e R s m args below meth c H1 locs1 (cells + 0) (slots + 0) Q (F0 m (pc + 3) ls (.int r :: rest))) : W p l e R s m args below meth c H locs cells slots Q (F0 m pc ls st) :=
  mp_calli (isC := []) (wc := []) hP hD hS hA rfl rfl hr kk
theorem sw_callv {arr : Array Value} (hP : va_P D mp_cl ws H) (hD : va_D A ws) (hS : va_S A s.heap H locs) (hA : ∀ q, s.heap.size ≤ q → A q)
    (hr : va_Run p l e R s m args below meth c H locs cells slots 0 0 (F0 m pc ls st) rest (mp_Qv D [] (va_A [] H.size) arr) (va_A [] H.size))
    (kk : ∀ (H1 : Heap) (locs1 : List Loc), va_P D mp_cl ws H1 → va_D A ws → va_S A s.heap H1 locs1 → W p l e R s m args below meth c H1 locs1 (cells + 0) (slots + 0) Q (F0 m (pc + 3) ls rest)) : W p l e R s m args below meth c H locs cells slots Q (F0 m pc ls st) :=
  mp_callv (isC := []) (wc := []) hP hD hS hA rfl rfl hr kk
theorem sw_ret {r v : Int32} {ty : FieldType} (X : mp_X p s m meth c args own nm cc nL (some ty)) (hn : narrow ty (.int v) = .int v) (hS : va_S A s.heap H locs) (h : v = r) (hdg : decode cc pc = .ok (.ireturn, 1)) : W p l e R s m args below meth c H locs cells slots (MQ below (mp_Qi D r [] A) args s cells slots A) (F0 m pc ls [.int v]) :=
  W.zret X.1 X.2.1 X.2.2.2.1 hn (fun t ht hW => ⟨⟨v, (), rfl, h, sw_nil _⟩, hS.F ht⟩) hS.2.2 hdg X.2.2.2.2.2.2.1
end SW
theorem sm_coder : mp_MV yJ0_coder_7d493 cJ0_coder_7d493 1 (some .byte) 0 := ⟨mp_c1 110 rfl rfl, mp_c1 111 rfl rfl, mp_c1 7 rfl rfl, mp_c1 112 rfl rfl, by decide +kernel⟩
theorem sm_length : mp_MV yJ0_length_8abf5 cJ0_length_8abf5 1 (some .int) 0 := ⟨mp_c1 106 rfl rfl, mp_c1 107 rfl rfl, mp_c1 7 rfl rfl, mp_c1 108 rfl rfl, by decide +kernel⟩
theorem sm_charAt : mp_MV yJ0_charAt_5068e cJ0_charAt_5068e 2 (some .char) 1 := ⟨mp_c1 116 rfl rfl, mp_c1 117 rfl rfl, mp_c1 7 rfl rfl, mp_c1 118 rfl rfl, by decide +kernel⟩
theorem sm_isLatin1 : mp_MV yJ0_isLatin1_aae02 cJ0_isLatin1_aae02 1 (some .boolean) 0 := ⟨mp_c1 120 rfl rfl, mp_c1 121 rfl rfl, mp_c1 7 rfl rfl, mp_c1 122 rfl rfl, by decide +kernel⟩
theorem sm_charAt1 : mp_MS yJ1_charAt_3b067 cJ1_charAt_3b067 2 (some .char) 2 := ⟨mp_c1 124 rfl rfl, mp_c1 8 rfl rfl, mp_c1 125 rfl rfl, by decide +kernel⟩
theorem sm_check : mp_MS yJ0_checkIndex_df160 cJ0_checkIndex_df160 2 none 2 := ⟨mp_c1 127 rfl rfl, mp_c1 7 rfl rfl, mp_c1 128 rfl rfl, by decide +kernel⟩
theorem sm_check3 : mp_MS yJ3_checkIndex_8e157 cJ3_checkIndex_8e157 3 (some .int) 3 := ⟨mp_c1 132 rfl rfl, mp_c1 9 rfl rfl, mp_c1 133 rfl rfl, by decide +kernel⟩
section SC
variable (l : Launch) (D : va_G) (T : Nat → ClassId) (tn : Nat) (tr : List Int32) (K V : Nat) (F : Option Nat)
set_option maxRecDepth 100000 in
theorem sc_coder : sw_M l D T tn tr K V F yJ0_coder_7d493 cJ0_coder_7d493 1 (some .byte) { frames := 0, cells := 0, slots := 0, locals := 0 } [.ref K] (mp_Qi D 0 []) := by
  refine sw_of (by decide) (Nat.le_of_ble_eq_true rfl) rfl ?_
  intro p e s m args below meth c A ls X hK hP hD hS hA hW hl
  have hx := X.1
  have hb := X.2.1
  have hown := X.2.2.2.2.1
  have hts := X.2.2.2.2.2.1
  replace hl : lv_has ls 1 [(0, .ref K)] := hl
  refine va_gets hx hb hW.2.1 hS hown (hts _ (mp_c1 113 rfl rfl)) (fun x h => h) dJ0_coder_7d493_0 ?_
  refine lv_if_eq (tgt := 13) hx hb dJ0_coder_7d493_3 (by decide) (fun q => absurd q (by decide)) (fun _ => ?_)
  refine lv_aload_n hx hb dJ0_coder_7d493_6 rfl (lv_at hl 0 rfl) ?_
  refine vk_getf hx hb (hW.1.1 0 Nat.zero_lt_one).2.1 hS hown (hts _ (mp_c5 78 rfl rfl)) (fun x h => h) dJ0_coder_7d493_7 ?_
  refine lv_goto (tgt := 14) hx hb dJ0_coder_7d493_10 (by decide) ?_
  exact sw_ret X rfl hS rfl dJ0_coder_7d493_14
set_option maxRecDepth 100000 in
theorem sc_length (hN : tn < 1000) : sw_M l D T tn tr K V F yJ0_length_8abf5 cJ0_length_8abf5 1 (some .int) { frames := 1, cells := 0, slots := 0, locals := 20 } [.ref K] (mp_Qi D (nI tn) []) := by
  refine sw_of (by decide) (Nat.le_of_ble_eq_true rfl) rfl ?_
  intro p e s m args below meth c A ls X hK hP hD hS hA hW hl
  have hx := X.1
  have hb := X.2.1
  have hown := X.2.2.2.2.1
  have hts := X.2.2.2.2.2.1
  replace hl : lv_has ls 1 [(0, .ref K)] := hl
  refine lv_aload_n hx hb dJ0_length_8abf5_0 rfl (lv_at hl 0 rfl) ?_
  refine vk_getf hx hb (hW.1.1 0 Nat.zero_lt_one).2.2.1 hS hown (hts _ (mp_c5 77 rfl rfl)) (fun x h => h) dJ0_length_8abf5_1 ?_
  refine va_tlen hx hb (hW.1.1 0 Nat.zero_lt_one).2.2.2 hS (v := nI tn) rfl dJ0_length_8abf5_4 ?_
  refine lv_aload_n hx hb dJ0_length_8abf5_5 rfl (lv_at hl 0 rfl) ?_
  refine sw_calli hP hD hS hA (sw_runV (As := []) (rest := [.int (nI tn)]) X sm_coder rfl (mp_c1 109 rfl rfl) (sc_coder l D T tn tr K V F) rfl rfl ⟨(Nat.le_of_ble_eq_true rfl), (Nat.le_of_ble_eq_true rfl)⟩ hK hW hS hA rfl hl.1 rfl (Nat.le_of_ble_eq_true rfl) dJ0_length_8abf5_6 ⟨(Nat.le_of_ble_eq_true rfl), (Nat.le_of_ble_eq_true rfl)⟩) (fun H locs hP hD hS => ?_)
  refine lv_ishr hx hb dJ0_length_8abf5_9 ?_
  exact sw_ret X rfl hS (sw_shr hN) dJ0_length_8abf5_10
set_option maxRecDepth 100000 in
theorem sc_isLatin1 : sw_M l D T tn tr K V F yJ0_isLatin1_aae02 cJ0_isLatin1_aae02 1 (some .boolean) { frames := 0, cells := 0, slots := 0, locals := 0 } [.ref K] (mp_Qi D 1 []) := by
  refine sw_of (by decide) (Nat.le_of_ble_eq_true rfl) rfl ?_
  intro p e s m args below meth c A ls X hK hP hD hS hA hW hl
  have hx := X.1
  have hb := X.2.1
  have hown := X.2.2.2.2.1
  have hts := X.2.2.2.2.2.1
  replace hl : lv_has ls 1 [(0, .ref K)] := hl
  refine va_gets hx hb hW.2.1 hS hown (hts _ (mp_c1 113 rfl rfl)) (fun x h => h) dJ0_isLatin1_aae02_0 ?_
  refine lv_if_eq (tgt := 17) hx hb dJ0_isLatin1_aae02_3 (by decide) (fun q => absurd q (by decide)) (fun _ => ?_)
  refine lv_aload_n hx hb dJ0_isLatin1_aae02_6 rfl (lv_at hl 0 rfl) ?_
  refine vk_getf hx hb (hW.1.1 0 Nat.zero_lt_one).2.1 hS hown (hts _ (mp_c5 78 rfl rfl)) (fun x h => h) dJ0_isLatin1_aae02_7 ?_
  refine lv_if_ne (tgt := 17) hx hb dJ0_isLatin1_aae02_10 (by decide) (fun q => absurd rfl q) (fun _ => ?_)
  refine lv_iconst (v := (1 : Int32)) hx hb dJ0_isLatin1_aae02_13 (by decide) ?_
  refine lv_goto (tgt := 18) hx hb dJ0_isLatin1_aae02_14 (by decide) ?_
  exact sw_ret X rfl hS rfl dJ0_isLatin1_aae02_18
set_option maxRecDepth 100000 in
theorem sc_check3 {k : Nat} (hN : tn < 1000) (hk : k < tn) : sw_M l D T tn tr K V F yJ3_checkIndex_8e157 cJ3_checkIndex_8e157 3 (some .int) { frames := 0, cells := 0, slots := 0, locals := 0 } [.int (nI k), .int (nI tn), swv F] (mp_Qi D (nI k) []) := by
  cases F with
  | none =>
    refine sw_of (by decide) (Nat.le_of_ble_eq_true rfl) rfl ?_
    intro p e s m args below meth c A ls X hK hP hD hS hA hW hl
    have hx := X.1
    have hb := X.2.1
    have hown := X.2.2.2.2.1
    have hts := X.2.2.2.2.2.1
    replace hl : lv_has ls 3 [(0, .int (nI k)), (1, .int (nI tn)), (2, _)] := hl
    refine lv_iload_n hx hb dJ3_checkIndex_8e157_0 rfl (lv_at hl 0 rfl) ?_
    refine lv_if_lt (tgt := 9) hx hb dJ3_checkIndex_8e157_1 (by decide) (fun q => absurd q (nI_pos (by omega))) (fun _ => ?_)
    refine lv_iload_n hx hb dJ3_checkIndex_8e157_4 rfl (lv_at hl 0 rfl) ?_
    refine lv_iload_n hx hb dJ3_checkIndex_8e157_5 rfl (lv_at hl 1 rfl) ?_
    refine lv_icmp_lt (tgt := 16) hx hb dJ3_checkIndex_8e157_6 (by decide) (fun _ => ?_) (fun q => absurd ((nI_ltI (a := k) (b := tn) (by omega) (by omega)).mpr hk) q)
    refine lv_iload_n hx hb dJ3_checkIndex_8e157_16 rfl (lv_at hl 0 rfl) ?_
    exact sw_ret X rfl hS rfl dJ3_checkIndex_8e157_17
  | some F =>
    refine sw_of (by decide) (Nat.le_of_ble_eq_true rfl) rfl ?_
    intro p e s m args below meth c A ls X hK hP hD hS hA hW hl
    have hx := X.1
    have hb := X.2.1
    have hown := X.2.2.2.2.1
    have hts := X.2.2.2.2.2.1
    replace hl : lv_has ls 3 [(0, .int (nI k)), (1, .int (nI tn)), (2, _)] := hl
    refine lv_iload_n hx hb dJ3_checkIndex_8e157_0 rfl (lv_at hl 0 rfl) ?_
    refine lv_if_lt (tgt := 9) hx hb dJ3_checkIndex_8e157_1 (by decide) (fun q => absurd q (nI_pos (by omega))) (fun _ => ?_)
    refine lv_iload_n hx hb dJ3_checkIndex_8e157_4 rfl (lv_at hl 0 rfl) ?_
    refine lv_iload_n hx hb dJ3_checkIndex_8e157_5 rfl (lv_at hl 1 rfl) ?_
    refine lv_icmp_lt (tgt := 16) hx hb dJ3_checkIndex_8e157_6 (by decide) (fun _ => ?_) (fun q => absurd ((nI_ltI (a := k) (b := tn) (by omega) (by omega)).mpr hk) q)
    refine lv_iload_n hx hb dJ3_checkIndex_8e157_16 rfl (lv_at hl 0 rfl) ?_
    exact sw_ret X rfl hS rfl dJ3_checkIndex_8e157_17
set_option maxRecDepth 100000 in
theorem sc_check {k : Nat} (hN : tn < 1000) (hk : k < tn) : sw_M l D T tn tr K V F yJ0_checkIndex_df160 cJ0_checkIndex_df160 2 none { frames := 1, cells := 0, slots := 0, locals := 22 } [.int (nI k), .int (nI tn)] (mp_Qv D []) := by
  refine sw_of (by decide) (Nat.le_of_ble_eq_true rfl) rfl ?_
  intro p e s m args below meth c A ls X hK hP hD hS hA hW hl
  have hx := X.1
  have hb := X.2.1
  have hown := X.2.2.2.2.1
  have hts := X.2.2.2.2.2.1
  replace hl : lv_has ls 2 [(0, .int (nI k)), (1, .int (nI tn))] := hl
  refine lv_iload_n hx hb dJ0_checkIndex_df160_0 rfl (lv_at hl 0 rfl) ?_
  refine lv_iload_n hx hb dJ0_checkIndex_df160_1 rfl (lv_at hl 1 rfl) ?_
  refine va_gets hx hb hW.2.2 hS hown (hts _ (mp_c1 129 rfl rfl)) (fun x h => h) dJ0_checkIndex_df160_2 ?_
  refine sw_calli hP hD hS hA (sw_runS (As := [.int (nI k), .int (nI tn), swv F]) (rest := []) X sm_check3 (mp_c1 131 rfl rfl) (sc_check3 l D T tn tr K V F hN hk) rfl rfl ⟨(Nat.le_of_ble_eq_true rfl), (Nat.le_of_ble_eq_true rfl)⟩ hK hW hS hA rfl hl.1 rfl (Nat.le_of_ble_eq_true rfl) dJ0_checkIndex_df160_5 ⟨(Nat.le_of_ble_eq_true rfl), (Nat.le_of_ble_eq_true rfl)⟩) (fun H locs hP hD hS => ?_)
  refine lv_pop hx hb dJ0_checkIndex_df160_8 rfl ?_
  exact mp_retv X hP hS dJ0_checkIndex_df160_9
set_option maxRecDepth 100000 in
theorem sc_charAt1 {k : Nat} (hN : tn < 1000) (hR : tw_ok tn tr) (hk : k < tn) : sw_M l D T tn tr K V F yJ1_charAt_3b067 cJ1_charAt_3b067 2 (some .char) { frames := 2, cells := 0, slots := 0, locals := 43 } [.ref V, .int (nI k)] (mp_Qi D (tr.getD k 0) []) := by
  refine sw_of (by decide) (Nat.le_of_ble_eq_true rfl) rfl ?_
  intro p e s m args below meth c A ls X hK hP hD hS hA hW hl
  have hx := X.1
  have hb := X.2.1
  have hown := X.2.2.2.2.1
  have hts := X.2.2.2.2.2.1
  replace hl : lv_has ls 2 [(0, .ref V), (1, .int (nI k))] := hl
  have hT := (hW.1.1 0 Nat.zero_lt_one).2.2.2
  refine lv_iload_n hx hb dJ1_charAt_3b067_0 rfl (lv_at hl 1 rfl) ?_
  refine lv_aload_n hx hb dJ1_charAt_3b067_1 rfl (lv_at hl 0 rfl) ?_
  refine va_tlen hx hb hT hS (v := nI tn) rfl dJ1_charAt_3b067_2 ?_
  refine sw_callv hP hD hS hA (sw_runS (As := [.int (nI k), .int (nI tn)]) (rest := []) X sm_check (mp_c1 126 rfl rfl) (sc_check l D T tn tr K V F hN hk) rfl rfl ⟨(Nat.le_of_ble_eq_true rfl), (Nat.le_of_ble_eq_true rfl)⟩ hK hW hS hA rfl hl.1 rfl (Nat.le_of_ble_eq_true rfl) dJ1_charAt_3b067_3 ⟨(Nat.le_of_ble_eq_true rfl), (Nat.le_of_ble_eq_true rfl)⟩) (fun H locs hP hD hS => ?_)
  refine lv_aload_n hx hb dJ1_charAt_3b067_6 rfl (lv_at hl 0 rfl) ?_
  refine lv_iload_n hx hb dJ1_charAt_3b067_7 rfl (lv_at hl 1 rfl) ?_
  refine va_tb hx hb hT hS (v := .int (tr.getD k 0)) (show vp_in (nI k) tn from vp_in_nI hk (by omega)) (by rw [nI_clamp (by omega)]; rfl) dJ1_charAt_3b067_8 ?_
  refine lv_sipush (v := (255 : Int32)) hx hb dJ1_charAt_3b067_9 (by decide) ?_
  refine lv_iand hx hb dJ1_charAt_3b067_12 ?_
  refine lv_i2c hx hb dJ1_charAt_3b067_13 (v := tr.getD k 0) ((hR k hk).1) ?_
  exact sw_ret X ((hR k hk).2) hS rfl dJ1_charAt_3b067_14
set_option maxRecDepth 100000 in
theorem sc_charAt {k : Nat} (hN : tn < 1000) (hR : tw_ok tn tr) (hk : k < tn) : sw_M l D T tn tr K V F yJ0_charAt_5068e cJ0_charAt_5068e 2 (some .char) { frames := 3, cells := 0, slots := 0, locals := 64 } [.ref K, .int (nI k)] (mp_Qi D (tr.getD k 0) []) := by
  refine sw_of (by decide) (Nat.le_of_ble_eq_true rfl) rfl ?_
  intro p e s m args below meth c A ls X hK hP hD hS hA hW hl
  have hx := X.1
  have hb := X.2.1
  have hown := X.2.2.2.2.1
  have hts := X.2.2.2.2.2.1
  replace hl : lv_has ls 2 [(0, .ref K), (1, .int (nI k))] := hl
  refine lv_aload_n hx hb dJ0_charAt_5068e_0 rfl (lv_at hl 0 rfl) ?_
  refine sw_calli hP hD hS hA (sw_runV (As := []) (rest := []) X sm_isLatin1 rfl (mp_c1 119 rfl rfl) (sc_isLatin1 l D T tn tr K V F) rfl rfl ⟨(Nat.le_of_ble_eq_true rfl), (Nat.le_of_ble_eq_true rfl)⟩ hK hW hS hA rfl hl.1 rfl (Nat.le_of_ble_eq_true rfl) dJ0_charAt_5068e_1 ⟨(Nat.le_of_ble_eq_true rfl), (Nat.le_of_ble_eq_true rfl)⟩) (fun H locs hP hD hS => ?_)
  refine lv_if_eq (tgt := 16) hx hb dJ0_charAt_5068e_4 (by decide) (fun q => absurd q (by decide)) (fun _ => ?_)
  refine lv_aload_n hx hb dJ0_charAt_5068e_7 rfl (lv_at hl 0 rfl) ?_
  refine vk_getf hx hb (hW.1.1 0 Nat.zero_lt_one).2.2.1 hS hown (hts _ (mp_c5 77 rfl rfl)) (fun x h => h) dJ0_charAt_5068e_8 ?_
  refine lv_iload_n hx hb dJ0_charAt_5068e_11 rfl (lv_at hl 1 rfl) ?_
  refine sw_calli hP hD hS hA (sw_runS (As := [.ref V, .int (nI k)]) (rest := []) X sm_charAt1 (mp_c1 123 rfl rfl) (sc_charAt1 l D T tn tr K V F hN hR hk) rfl rfl ⟨(Nat.le_of_ble_eq_true rfl), (Nat.le_of_ble_eq_true rfl)⟩ hK hW hS hA rfl hl.1 rfl (Nat.le_of_ble_eq_true rfl) dJ0_charAt_5068e_12 ⟨(Nat.le_of_ble_eq_true rfl), (Nat.le_of_ble_eq_true rfl)⟩) (fun H locs hP hD hS => ?_)
  exact sw_ret X ((hR k hk).2) hS rfl dJ0_charAt_5068e_15
end SC
