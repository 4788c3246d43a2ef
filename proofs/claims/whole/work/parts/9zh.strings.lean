/-! the text of the words: String.length, String.charAt over the constant's cells -/
def TXT : String := "cell pricks blind rubs secret letters page room knows order read odds turn ill move rub damp warder when full all loop end stop "
def TXB : List Int32 := [99, 101, 108, 108, 32, 112, 114, 105, 99, 107, 115, 32, 98, 108, 105, 110, 100, 32, 114, 117, 98, 115, 32, 115, 101, 99, 114, 101, 116, 32, 108, 101, 116, 116, 101, 114, 115, 32, 112, 97, 103, 101, 32, 114, 111, 111, 109, 32, 107, 110, 111, 119, 115, 32, 111, 114, 100, 101, 114, 32, 114, 101, 97, 100, 32, 111, 100, 100, 115, 32, 116, 117, 114, 110, 32, 105, 108, 108, 32, 109, 111, 118, 101, 32, 114, 117, 98, 32, 100, 97, 109, 112, 32, 119, 97, 114, 100, 101, 114, 32, 119, 104, 101, 110, 32, 102, 117, 108, 108, 32, 97, 108, 108, 32, 108, 111, 111, 112, 32, 101, 110, 100, 32, 115, 116, 111, 112, 32]
def swv : Option Nat → Value
  | none => .null
  | some t => .ref t
/-- the cells of the text K, of its bytes V; the statics that its methods read -/
def sw (K V : Nat) (F : Option Nat) (A : Nat → Prop) (U : State) (H : Heap) : Prop :=
  vk_S 1 [128] [TXB] (fun _ => K) (fun _ => V) A U H ∧ va_Z "java/lang/String" "COMPACT_STRINGS" "Z" (.int 1) A U H ∧ va_Z "jdk/internal/util/Preconditions" "SIOOBE_FORMATTER" "Ljava/util/function/BiFunction;" (swv F) A U H
theorem sw.moved {K V : Nat} {F : Option Nat} {A : Nat → Prop} {u U : State} {H : Heap} (hvm : u.vm.Alike U.vm) (h : sw K V F A u H) : sw K V F A U H := ⟨h.1.moved hvm, h.2.1.moved hvm, h.2.2.moved hvm⟩
theorem sw.kept {K V : Nat} {F : Option Nat} {A : Nat → Prop} {U : State} {H H1 : Heap} (h : sw K V F A U H) (hq : ∀ a : Nat, a < H.size → ¬ A a → H1[a]? = H[a]?) : sw K V F A U H1 := ⟨h.1.kept hq, h.2.1.kept hq, h.2.2.kept hq⟩
theorem sw.narrow {K V : Nat} {F : Option Nat} {A B : Nat → Prop} {U : State} {H : Heap} (h : sw K V F A U H) (hAB : ∀ q, B q → A q) : sw K V F B U H := ⟨h.1.narrow hAB, h.2.1.narrow hAB, h.2.2.narrow hAB⟩
/-- a contract of a method of the text: it writes no cell -/
def sw_M (l : Launch) (D : va_G) (T : Nat → ClassId) (K V : Nat) (F : Option Nat) (y : MethodName) (b : ByteArray) (n : Nat) (ret : Option FieldType) (rm : Room) (av : List Value) (QQ : (Nat → Prop) → Array Value → State → Outcome → State → Prop) : Prop :=
  ∀ sz : Nat, Met l y (.code y b n ret :: mp_B) rm (va_Pc av (fun U => mp_Pre D T sz [] U ∧ sw K V F (va_A [] sz) U U.heap)) (QQ (va_A [] sz)) 0 0 (va_A [] sz)
theorem sw_blind {D : va_G} {T : Nat → ClassId} {sz K V : Nat} {F : Option Nat} {A : Nat → Prop} {ws : va_W} {av : List Value} : FrameBlind (va_Pc av (fun U => mp_Pre D T sz ws U ∧ sw K V F A U U.heap)) := fun a U g mk q => by
  obtain ⟨q0, ⟨q1, qP, qK, qD⟩, qZ⟩ := q
  exact ⟨q0, ⟨q1, qP, va_K.moved (u := U) (U := U.calling g mk a) (Vm.Alike.refl U.vm) qK, qD⟩, sw.moved (u := U) (U := U.calling g mk a) (Vm.Alike.refl U.vm) qZ⟩
theorem sw_of {l : Launch} {D : va_G} {T : Nat → ClassId} {K V : Nat} {F : Option Nat} {y : MethodName} {b : ByteArray} {n : Nat} {ret : Option FieldType} {rm : Room} {av : List Value} {QQ : (Nat → Prop) → Array Value → State → Outcome → State → Prop} {lv : List (Nat × Value)}
    (hy : plainName y.cls = true) (hlen : (lg_sl av).length ≤ n) (hlv : lv_args 0 av = lv)
    (body : ∀ (p : Program) (e : Env) (s : State) (m : MethodId) (args : Array Value) (below : List Frame) (meth : Method) (c : Code) (A : Nat → Prop) (ls : Array Slot), mp_X p s m meth c args y.cls y.name b n ret → va_K D mp_cl (mp_ty T) s → va_P D mp_cl [] s.heap → va_D A [] → va_S A s.heap s.heap [] → (∀ q, s.heap.size ≤ q → A q) → sw K V F A s s.heap → lv_has ls n lv →
      W p l e rm s m args below meth c s.heap [] 0 0 (MQ below (QQ A) args s 0 0 A) (F0 m 0 ls [])) : sw_M l D T K V F y b n ret rm av QQ := by
  intro sz
  refine Met.ofW (cc := b) (maxL := n) (ret := ret) hy rfl ?_
  intro p e s m args below meth c s₁ B hml hv
  obtain ⟨rfl, ⟨hsz, hP, hK, hD0⟩, hW⟩ := hv
  have hts : ∀ w ∈ mp_B, w.before av.toArray s = true := fun w hw => atoms_spec (ws := .code y b n ret :: mp_B) B.pre w (List.mem_cons_of_mem _ hw)
  have hown : s.vm.findClass y.cls = some m.cls := findClass_of_methodNamed B.named
  have hin : meth.name = y.name := (name_of_methodNamed B.named B.method).1
  subst hsz
  have hD := hD0.self (sz := s.heap.size)
  have hl := lv_entry av hlen
  rw [lg_entry_eq]
  rw [hlv] at hl
  exact body p e s m av.toArray below meth c (va_A [] s.heap.size) _ ⟨B.exec, B.bytes, hml, B.returns, hown, hts, B.notSynchronized, hin⟩ hK hP hD va_S.rf (fun q h => Or.inr h) hW hl
section SW
variable {p : Program} {l : Launch} {e : Env} {R : Room} {s : State} {m : MethodId} {args : Array Value} {below : List Frame} {meth : Method} {c : Code} {H : Heap} {locs : List Loc} {cells slots : Nat} {Q : State → Prop}
variable {pc : Nat} {ls : Array Slot} {rest st As : List Value} {D : va_G} {T : Nat → ClassId} {A : Nat → Prop} {ws : va_W} {own nm : String} {cc b : ByteArray} {nL n idx k K V : Nat} {F : Option Nat} {ret yret : Option FieldType} {y : MethodName} {rm : Room} {a : Nat} {QQ : (Nat → Prop) → Array Value → State → Outcome → State → Prop}
theorem sw_down (hW : sw K V F A s s.heap) (hS : va_S A s.heap H locs) (hA : ∀ q, s.heap.size ≤ q → A q) : sw K V F (va_A [] H.size) s H := by
  refine (hW.kept hS.2.1).narrow (fun q h => ?_)
  rcases h with ⟨k, e, h⟩ | h
  · cases h
  · exact hA q (Nat.le_trans hS.1 h)
theorem sw_nil (H : Heap) : va_P D mp_cl [] H := fun k q h => by cases h
theorem sw_nilD : va_D A [] := ⟨fun i j p q h => (by cases h), fun k q h => (by cases h)⟩
theorem sw_runV (X : mp_X p s m meth c args own nm cc nL ret) (hm : mp_MV y b n yret k) (hyc : y.cls = "java/lang/String") (hlk : Cond.methodLink own idx y ∈ mp_B) (hM : sw_M l D T K V F y b n yret rm (.ref K :: As) QQ) (hrc : rm.cells = 0) (hrs : rm.slots = 0) (hR : mp_R rm R n)
    (hK : va_K D mp_cl (mp_ty T) s) (hW : sw K V F A s s.heap) (hS : va_S A s.heap H locs) (hA : ∀ q, s.heap.size ≤ q → A q)
    (hn : As.length = k) (hsz : ls.size = nL) (hst : st = As.reverse ++ .ref K :: rest) (hWd : (rest.map fun v => v.category).sum ≤ 8) (hdg : decode cc pc = .ok (.invokevirtual idx, 3)) (hf : cells + 0 ≤ R.cells ∧ slots + 0 ≤ R.slots) :
    va_Run p l e R s m args below meth c H locs cells slots 0 0 (F0 m pc ls st) rest (QQ (va_A [] H.size) (Value.ref K :: As).toArray) (va_A [] H.size) := by
  obtain ⟨hx, hb, hml, hr, hown, hts, hlocks, hnm⟩ := X
  obtain ⟨h1, h2, h3, h4, h5, h6, h7⟩ := hm
  refine va_runV (C := y.cls) (As := As) (rest := rest) (Ts := mp_B) ⟨hx, hb, hml, hown, hts⟩ (hM H.size) (cwV k hts (mp_GI ?_) rfl hrc hrs ⟨rfl, h5, h6, h7⟩ hR) ⟨sw_blind, ?_, fun U hU hW' => ⟨rfl, ⟨by rw [hU], sw_nil _, va_K.moved hW'.alike hK, sw_nilD⟩, by rw [hU]; exact (sw_down hW hS hA).moved hW'.alike⟩⟩ rfl hn hsz hst (lv_room hWd) hdg hf
  · intro w hw
    rcases List.mem_append.mp hw with hw | hw
    · simp only [List.mem_cons, List.not_mem_nil, or_false] at hw
      rcases hw with rfl | rfl | rfl | rfl <;> assumption
    · exact mp_ws h4 w hw
  · rw [hyc]
    exact vk_recv hW.1 (Nat.lt_irrefl 0 |> fun _ => Nat.zero_lt_one) hS
theorem sw_runS (X : mp_X p s m meth c args own nm cc nL ret) (hm : mp_MS y b n yret k) (hlk : Cond.methodLink own idx y ∈ mp_B) (hM : sw_M l D T K V F y b n yret rm As QQ) (hrc : rm.cells = 0) (hrs : rm.slots = 0) (hR : mp_R rm R n)
    (hK : va_K D mp_cl (mp_ty T) s) (hW : sw K V F A s s.heap) (hS : va_S A s.heap H locs) (hA : ∀ q, s.heap.size ≤ q → A q)
    (hn : As.length = k) (hsz : ls.size = nL) (hst : st = As.reverse ++ rest) (hWd : (rest.map fun v => v.category).sum ≤ 8) (hdg : decode cc pc = .ok (.invokestatic idx, 3)) (hf : cells + 0 ≤ R.cells ∧ slots + 0 ≤ R.slots) :
    va_Run p l e R s m args below meth c H locs cells slots 0 0 (F0 m pc ls st) rest (QQ (va_A [] H.size) As.toArray) (va_A [] H.size) := by
  obtain ⟨hx, hb, hml, hr, hown, hts, hlocks, hnm⟩ := X
  obtain ⟨h1, h3, h4, h5, h6, h7⟩ := hm
  refine va_runS (As := As) (rest := rest) (Ts := mp_B) ⟨hx, hb, hml, hown, hts⟩ (hM H.size) (va_cwS k hts (mp_GI ?_) rfl hrc hrs ⟨h5, h6, h7⟩ hR) ⟨sw_blind, fun U hU hW' => ⟨rfl, ⟨by rw [hU], sw_nil _, va_K.moved hW'.alike hK, sw_nilD⟩, by rw [hU]; exact (sw_down hW hS hA).moved hW'.alike⟩⟩ rfl hn hsz hst (lv_room hWd) hdg hf
  intro w hw
  rcases List.mem_append.mp hw with hw | hw
  · simp only [List.mem_cons, List.not_mem_nil, or_false] at hw
    rcases hw with rfl | rfl | rfl <;> assumption
  · exact mp_ws h4 w hw
/-- a call that writes nothing leaves the world as it was -/
theorem sw_calli {r : Int32} {arr : Array Value} (hP : va_P D mp_cl ws H) (hD : va_D A ws) (hS : va_S A s.heap H locs) (hA : ∀ q, s.heap.size ≤ q → A q)
    (hr : va_Run p l e R s m args below meth c H locs cells slots 0 0 (F0 m pc ls st) rest (mp_Qi D r [] (va_A [] H.size) arr) (va_A [] H.size))
    (kk : ∀ (H1 : Heap) (locs1 : List Loc), va_P D mp_cl ws H1 → va_D A ws → va_S A s.heap H1 locs1 → W p l e R s m args below meth c H1 locs1 (cells + 0) (slots + 0) Q (F0 m (pc + 3) ls (.int r :: rest))) : W p l e R s m args below meth c H locs cells slots Q (F0 m pc ls st) :=
  mp_calli (isC := []) (wc := []) hP hD hS hA rfl rfl hr kk
theorem sw_callv {arr : Array Value} (hP : va_P D mp_cl ws H) (hD : va_D A ws) (hS : va_S A s.heap H locs) (hA : ∀ q, s.heap.size ≤ q → A q)
    (hr : va_Run p l e R s m args below meth c H locs cells slots 0 0 (F0 m pc ls st) rest (mp_Qv D [] (va_A [] H.size) arr) (va_A [] H.size))
    (kk : ∀ (H1 : Heap) (locs1 : List Loc), va_P D mp_cl ws H1 → va_D A ws → va_S A s.heap H1 locs1 → W p l e R s m args below meth c H1 locs1 (cells + 0) (slots + 0) Q (F0 m (pc + 3) ls rest)) : W p l e R s m args below meth c H locs cells slots Q (F0 m pc ls st) :=
  mp_callv (isC := []) (wc := []) hP hD hS hA rfl rfl hr kk
theorem sw_ret {r v : Int32} {ty : FieldType} (X : mp_X p s m meth c args own nm cc nL (some ty)) (hn : narrow ty (.int v) = .int v) (hS : va_S A s.heap H locs) (h : v = r) (hdg : decode cc pc = .ok (.ireturn, 1)) : W p l e R s m args below meth c H locs cells slots (MQ below (mp_Qi D r [] A) args s cells slots A) (F0 m pc ls [.int v]) :=
  W.zret X.1 X.2.1 X.2.2.2.1 hn (fun t ht hW => ⟨⟨v, (), rfl, h, sw_nil _⟩, hS.F ht⟩) hS.2.2 hdg X.2.2.2.2.2.2.1
end SW
set_option maxRecDepth 100000 in
theorem sm_coder : mp_MV yJ0_coder_7d493 cJ0_coder_7d493 1 (some .byte) 0 := ⟨mp_t 117 (by decide +kernel), mp_t 118 (by decide +kernel), mp_t 7 (by decide +kernel), mp_t 119 (by decide +kernel), by decide +kernel⟩
set_option maxRecDepth 100000 in
theorem sm_length : mp_MV yJ0_length_8abf5 cJ0_length_8abf5 1 (some .int) 0 := ⟨mp_t 113 (by decide +kernel), mp_t 114 (by decide +kernel), mp_t 7 (by decide +kernel), mp_t 115 (by decide +kernel), by decide +kernel⟩
set_option maxRecDepth 100000 in
theorem sm_charAt : mp_MV yJ0_charAt_5068e cJ0_charAt_5068e 2 (some .char) 1 := ⟨mp_t 123 (by decide +kernel), mp_t 124 (by decide +kernel), mp_t 7 (by decide +kernel), mp_t 125 (by decide +kernel), by decide +kernel⟩
set_option maxRecDepth 100000 in
theorem sm_isLatin1 : mp_MV yJ0_isLatin1_aae02 cJ0_isLatin1_aae02 1 (some .boolean) 0 := ⟨mp_t 127 (by decide +kernel), mp_t 128 (by decide +kernel), mp_t 7 (by decide +kernel), mp_t 129 (by decide +kernel), by decide +kernel⟩
set_option maxRecDepth 100000 in
theorem sm_charAt1 : mp_MS yJ1_charAt_3b067 cJ1_charAt_3b067 2 (some .char) 2 := ⟨mp_t 131 (by decide +kernel), mp_t 8 (by decide +kernel), mp_t 132 (by decide +kernel), by decide +kernel⟩
set_option maxRecDepth 100000 in
theorem sm_check : mp_MS yJ0_checkIndex_df160 cJ0_checkIndex_df160 2 none 2 := ⟨mp_t 134 (by decide +kernel), mp_t 7 (by decide +kernel), mp_t 135 (by decide +kernel), by decide +kernel⟩
set_option maxRecDepth 100000 in
theorem sm_check3 : mp_MS yJ3_checkIndex_8e157 cJ3_checkIndex_8e157 3 (some .int) 3 := ⟨mp_t 139 (by decide +kernel), mp_t 9 (by decide +kernel), mp_t 140 (by decide +kernel), by decide +kernel⟩
section SC
variable (l : Launch) (D : va_G) (T : Nat → ClassId) (K V : Nat) (F : Option Nat)
set_option maxRecDepth 100000 in
theorem sc_coder : sw_M l D T K V F yJ0_coder_7d493 cJ0_coder_7d493 1 (some .byte) { frames := 0, cells := 0, slots := 0, locals := 0 } [.ref K] (mp_Qi D 0 []) := by
  refine sw_of (by decide) (Nat.le_of_ble_eq_true rfl) rfl ?_
  intro p e s m args below meth c A ls X hK hP hD hS hA hW hl
  have hx := X.1
  have hb := X.2.1
  have hown := X.2.2.2.2.1
  have hts := X.2.2.2.2.2.1
  replace hl : lv_has ls 1 [(0, .ref K)] := hl
  refine va_gets hx hb hW.2.1 hS hown (hts _ (mp_t 120 (by decide +kernel))) (fun x h => h) dJ0_coder_7d493_0 ?_
  refine lv_if_eq (tgt := 13) hx hb dJ0_coder_7d493_3 (by decide) (fun q => absurd q (by decide)) (fun _ => ?_)
  refine lv_aload_n hx hb dJ0_coder_7d493_6 rfl (lv_at hl 0 rfl) ?_
  refine vk_getf hx hb (hW.1.1 0 Nat.zero_lt_one).2.1 hS hown (hts _ (mp_t 2035 (by decide +kernel))) (fun x h => h) dJ0_coder_7d493_7 ?_
  refine lv_goto (tgt := 14) hx hb dJ0_coder_7d493_10 (by decide) ?_
  exact sw_ret X rfl hS rfl dJ0_coder_7d493_14
set_option maxRecDepth 100000 in
theorem sc_length : sw_M l D T K V F yJ0_length_8abf5 cJ0_length_8abf5 1 (some .int) { frames := 1, cells := 0, slots := 0, locals := 20 } [.ref K] (mp_Qi D 128 []) := by
  refine sw_of (by decide) (Nat.le_of_ble_eq_true rfl) rfl ?_
  intro p e s m args below meth c A ls X hK hP hD hS hA hW hl
  have hx := X.1
  have hb := X.2.1
  have hown := X.2.2.2.2.1
  have hts := X.2.2.2.2.2.1
  replace hl : lv_has ls 1 [(0, .ref K)] := hl
  refine lv_aload_n hx hb dJ0_length_8abf5_0 rfl (lv_at hl 0 rfl) ?_
  refine vk_getf hx hb (hW.1.1 0 Nat.zero_lt_one).2.2.1 hS hown (hts _ (mp_t 2034 (by decide +kernel))) (fun x h => h) dJ0_length_8abf5_1 ?_
  refine va_tlen hx hb (hW.1.1 0 Nat.zero_lt_one).2.2.2 hS (v := 128) rfl dJ0_length_8abf5_4 ?_
  refine lv_aload_n hx hb dJ0_length_8abf5_5 rfl (lv_at hl 0 rfl) ?_
  refine sw_calli hP hD hS hA (sw_runV (As := []) (rest := [.int 128]) X sm_coder rfl (mp_t 116 (by decide +kernel)) (sc_coder l D T K V F) rfl rfl ⟨(Nat.le_of_ble_eq_true rfl), (Nat.le_of_ble_eq_true rfl)⟩ hK hW hS hA rfl hl.1 rfl (Nat.le_of_ble_eq_true rfl) dJ0_length_8abf5_6 ⟨(Nat.le_of_ble_eq_true rfl), (Nat.le_of_ble_eq_true rfl)⟩) (fun H locs hP hD hS => ?_)
  refine lv_ishr hx hb dJ0_length_8abf5_9 ?_
  exact sw_ret X rfl hS (by decide) dJ0_length_8abf5_10
set_option maxRecDepth 100000 in
theorem sc_isLatin1 : sw_M l D T K V F yJ0_isLatin1_aae02 cJ0_isLatin1_aae02 1 (some .boolean) { frames := 0, cells := 0, slots := 0, locals := 0 } [.ref K] (mp_Qi D 1 []) := by
  refine sw_of (by decide) (Nat.le_of_ble_eq_true rfl) rfl ?_
  intro p e s m args below meth c A ls X hK hP hD hS hA hW hl
  have hx := X.1
  have hb := X.2.1
  have hown := X.2.2.2.2.1
  have hts := X.2.2.2.2.2.1
  replace hl : lv_has ls 1 [(0, .ref K)] := hl
  refine va_gets hx hb hW.2.1 hS hown (hts _ (mp_t 120 (by decide +kernel))) (fun x h => h) dJ0_isLatin1_aae02_0 ?_
  refine lv_if_eq (tgt := 17) hx hb dJ0_isLatin1_aae02_3 (by decide) (fun q => absurd q (by decide)) (fun _ => ?_)
  refine lv_aload_n hx hb dJ0_isLatin1_aae02_6 rfl (lv_at hl 0 rfl) ?_
  refine vk_getf hx hb (hW.1.1 0 Nat.zero_lt_one).2.1 hS hown (hts _ (mp_t 2035 (by decide +kernel))) (fun x h => h) dJ0_isLatin1_aae02_7 ?_
  refine lv_if_ne (tgt := 17) hx hb dJ0_isLatin1_aae02_10 (by decide) (fun q => absurd rfl q) (fun _ => ?_)
  refine lv_iconst (v := (1 : Int32)) hx hb dJ0_isLatin1_aae02_13 (by decide) ?_
  refine lv_goto (tgt := 18) hx hb dJ0_isLatin1_aae02_14 (by decide) ?_
  exact sw_ret X rfl hS rfl dJ0_isLatin1_aae02_18
set_option maxRecDepth 100000 in
theorem sc_check3 {k : Nat} (hk : k < 128) : sw_M l D T K V F yJ3_checkIndex_8e157 cJ3_checkIndex_8e157 3 (some .int) { frames := 0, cells := 0, slots := 0, locals := 0 } [.int (nI k), .int 128, swv F] (mp_Qi D (nI k) []) := by
  cases F with
  | none =>
    refine sw_of (by decide) (Nat.le_of_ble_eq_true rfl) rfl ?_
    intro p e s m args below meth c A ls X hK hP hD hS hA hW hl
    have hx := X.1
    have hb := X.2.1
    have hown := X.2.2.2.2.1
    have hts := X.2.2.2.2.2.1
    replace hl : lv_has ls 3 [(0, .int (nI k)), (1, .int 128), (2, _)] := hl
    refine lv_iload_n hx hb dJ3_checkIndex_8e157_0 rfl (lv_at hl 0 rfl) ?_
    refine lv_if_lt (tgt := 9) hx hb dJ3_checkIndex_8e157_1 (by decide) (fun q => absurd q (nI_pos (by omega))) (fun _ => ?_)
    refine lv_iload_n hx hb dJ3_checkIndex_8e157_4 rfl (lv_at hl 0 rfl) ?_
    refine lv_iload_n hx hb dJ3_checkIndex_8e157_5 rfl (lv_at hl 1 rfl) ?_
    refine lv_icmp_lt (tgt := 16) hx hb dJ3_checkIndex_8e157_6 (by decide) (fun _ => ?_) (fun q => absurd ((nI_ltI (a := k) (b := 128) (by omega) (by omega)).mpr hk) q)
    refine lv_iload_n hx hb dJ3_checkIndex_8e157_16 rfl (lv_at hl 0 rfl) ?_
    exact sw_ret X rfl hS rfl dJ3_checkIndex_8e157_17
  | some F =>
    refine sw_of (by decide) (Nat.le_of_ble_eq_true rfl) rfl ?_
    intro p e s m args below meth c A ls X hK hP hD hS hA hW hl
    have hx := X.1
    have hb := X.2.1
    have hown := X.2.2.2.2.1
    have hts := X.2.2.2.2.2.1
    replace hl : lv_has ls 3 [(0, .int (nI k)), (1, .int 128), (2, _)] := hl
    refine lv_iload_n hx hb dJ3_checkIndex_8e157_0 rfl (lv_at hl 0 rfl) ?_
    refine lv_if_lt (tgt := 9) hx hb dJ3_checkIndex_8e157_1 (by decide) (fun q => absurd q (nI_pos (by omega))) (fun _ => ?_)
    refine lv_iload_n hx hb dJ3_checkIndex_8e157_4 rfl (lv_at hl 0 rfl) ?_
    refine lv_iload_n hx hb dJ3_checkIndex_8e157_5 rfl (lv_at hl 1 rfl) ?_
    refine lv_icmp_lt (tgt := 16) hx hb dJ3_checkIndex_8e157_6 (by decide) (fun _ => ?_) (fun q => absurd ((nI_ltI (a := k) (b := 128) (by omega) (by omega)).mpr hk) q)
    refine lv_iload_n hx hb dJ3_checkIndex_8e157_16 rfl (lv_at hl 0 rfl) ?_
    exact sw_ret X rfl hS rfl dJ3_checkIndex_8e157_17
set_option maxRecDepth 100000 in
theorem sc_check {k : Nat} (hk : k < 128) : sw_M l D T K V F yJ0_checkIndex_df160 cJ0_checkIndex_df160 2 none { frames := 1, cells := 0, slots := 0, locals := 22 } [.int (nI k), .int 128] (mp_Qv D []) := by
  refine sw_of (by decide) (Nat.le_of_ble_eq_true rfl) rfl ?_
  intro p e s m args below meth c A ls X hK hP hD hS hA hW hl
  have hx := X.1
  have hb := X.2.1
  have hown := X.2.2.2.2.1
  have hts := X.2.2.2.2.2.1
  replace hl : lv_has ls 2 [(0, .int (nI k)), (1, .int 128)] := hl
  refine lv_iload_n hx hb dJ0_checkIndex_df160_0 rfl (lv_at hl 0 rfl) ?_
  refine lv_iload_n hx hb dJ0_checkIndex_df160_1 rfl (lv_at hl 1 rfl) ?_
  refine va_gets hx hb hW.2.2 hS hown (hts _ (mp_t 136 (by decide +kernel))) (fun x h => h) dJ0_checkIndex_df160_2 ?_
  refine sw_calli hP hD hS hA (sw_runS (As := [.int (nI k), .int 128, swv F]) (rest := []) X sm_check3 (mp_t 138 (by decide +kernel)) (sc_check3 l D T K V F hk) rfl rfl ⟨(Nat.le_of_ble_eq_true rfl), (Nat.le_of_ble_eq_true rfl)⟩ hK hW hS hA rfl hl.1 rfl (Nat.le_of_ble_eq_true rfl) dJ0_checkIndex_df160_5 ⟨(Nat.le_of_ble_eq_true rfl), (Nat.le_of_ble_eq_true rfl)⟩) (fun H locs hP hD hS => ?_)
  refine lv_pop hx hb dJ0_checkIndex_df160_8 rfl ?_
  exact mp_retv X hP hS dJ0_checkIndex_df160_9
def txc (k : Nat) : Int32 := TXB.getD k 0
set_option maxRecDepth 100000 in
theorem txc_c {k : Nat} (hk : k < 128) : ((txc k &&& 255).toUInt32 % 65536).toInt32 = txc k := by
  have h : (List.range 128).all (fun k => decide (((txc k &&& 255).toUInt32 % 65536).toInt32 = txc k)) = true := by decide +kernel
  exact of_decide_eq_true (List.all_eq_true.mp h k (List.mem_range.mpr hk))
set_option maxRecDepth 100000 in
theorem txc_n {k : Nat} (hk : k < 128) : narrow .char (.int (txc k)) = .int (txc k) := by
  have h : (List.range 128).all (fun k => decide ((txc k).toUInt32.toUInt16.toUInt32.toInt32 = txc k)) = true := by decide +kernel
  exact congrArg Value.int (of_decide_eq_true (List.all_eq_true.mp h k (List.mem_range.mpr hk)))
set_option maxRecDepth 100000 in
theorem sc_charAt1 {k : Nat} (hk : k < 128) : sw_M l D T K V F yJ1_charAt_3b067 cJ1_charAt_3b067 2 (some .char) { frames := 2, cells := 0, slots := 0, locals := 43 } [.ref V, .int (nI k)] (mp_Qi D (txc k) []) := by
  refine sw_of (by decide) (Nat.le_of_ble_eq_true rfl) rfl ?_
  intro p e s m args below meth c A ls X hK hP hD hS hA hW hl
  have hx := X.1
  have hb := X.2.1
  have hown := X.2.2.2.2.1
  have hts := X.2.2.2.2.2.1
  replace hl : lv_has ls 2 [(0, .ref V), (1, .int (nI k))] := hl
  have hT := (hW.1.1 0 Nat.zero_lt_one).2.2.2
  refine lv_iload_n hx hb dJ1_charAt_3b067_0 rfl (lv_at hl 1 rfl) ?_
  refine lv_aload_n hx hb dJ1_charAt_3b067_1 rfl (lv_at hl 0 rfl) ?_
  refine va_tlen hx hb hT hS (v := 128) rfl dJ1_charAt_3b067_2 ?_
  refine sw_callv hP hD hS hA (sw_runS (As := [.int (nI k), .int 128]) (rest := []) X sm_check (mp_t 133 (by decide +kernel)) (sc_check l D T K V F hk) rfl rfl ⟨(Nat.le_of_ble_eq_true rfl), (Nat.le_of_ble_eq_true rfl)⟩ hK hW hS hA rfl hl.1 rfl (Nat.le_of_ble_eq_true rfl) dJ1_charAt_3b067_3 ⟨(Nat.le_of_ble_eq_true rfl), (Nat.le_of_ble_eq_true rfl)⟩) (fun H locs hP hD hS => ?_)
  refine lv_aload_n hx hb dJ1_charAt_3b067_6 rfl (lv_at hl 0 rfl) ?_
  refine lv_iload_n hx hb dJ1_charAt_3b067_7 rfl (lv_at hl 1 rfl) ?_
  refine va_tb hx hb hT hS (v := .int (txc k)) (show vp_in (nI k) 128 from vp_in_nI hk (by omega)) (by rw [nI_clamp (by omega)]; rfl) dJ1_charAt_3b067_8 ?_
  refine lv_sipush (v := (255 : Int32)) hx hb dJ1_charAt_3b067_9 (by decide) ?_
  refine lv_iand hx hb dJ1_charAt_3b067_12 ?_
  refine lv_i2c hx hb dJ1_charAt_3b067_13 (v := txc k) (txc_c hk) ?_
  exact sw_ret X (txc_n hk) hS rfl dJ1_charAt_3b067_14
set_option maxRecDepth 100000 in
theorem sc_charAt {k : Nat} (hk : k < 128) : sw_M l D T K V F yJ0_charAt_5068e cJ0_charAt_5068e 2 (some .char) { frames := 3, cells := 0, slots := 0, locals := 64 } [.ref K, .int (nI k)] (mp_Qi D (txc k) []) := by
  refine sw_of (by decide) (Nat.le_of_ble_eq_true rfl) rfl ?_
  intro p e s m args below meth c A ls X hK hP hD hS hA hW hl
  have hx := X.1
  have hb := X.2.1
  have hown := X.2.2.2.2.1
  have hts := X.2.2.2.2.2.1
  replace hl : lv_has ls 2 [(0, .ref K), (1, .int (nI k))] := hl
  refine lv_aload_n hx hb dJ0_charAt_5068e_0 rfl (lv_at hl 0 rfl) ?_
  refine sw_calli hP hD hS hA (sw_runV (As := []) (rest := []) X sm_isLatin1 rfl (mp_t 126 (by decide +kernel)) (sc_isLatin1 l D T K V F) rfl rfl ⟨(Nat.le_of_ble_eq_true rfl), (Nat.le_of_ble_eq_true rfl)⟩ hK hW hS hA rfl hl.1 rfl (Nat.le_of_ble_eq_true rfl) dJ0_charAt_5068e_1 ⟨(Nat.le_of_ble_eq_true rfl), (Nat.le_of_ble_eq_true rfl)⟩) (fun H locs hP hD hS => ?_)
  refine lv_if_eq (tgt := 16) hx hb dJ0_charAt_5068e_4 (by decide) (fun q => absurd q (by decide)) (fun _ => ?_)
  refine lv_aload_n hx hb dJ0_charAt_5068e_7 rfl (lv_at hl 0 rfl) ?_
  refine vk_getf hx hb (hW.1.1 0 Nat.zero_lt_one).2.2.1 hS hown (hts _ (mp_t 2034 (by decide +kernel))) (fun x h => h) dJ0_charAt_5068e_8 ?_
  refine lv_iload_n hx hb dJ0_charAt_5068e_11 rfl (lv_at hl 1 rfl) ?_
  refine sw_calli hP hD hS hA (sw_runS (As := [.ref V, .int (nI k)]) (rest := []) X sm_charAt1 (mp_t 130 (by decide +kernel)) (sc_charAt1 l D T K V F hk) rfl rfl ⟨(Nat.le_of_ble_eq_true rfl), (Nat.le_of_ble_eq_true rfl)⟩ hK hW hS hA rfl hl.1 rfl (Nat.le_of_ble_eq_true rfl) dJ0_charAt_5068e_12 ⟨(Nat.le_of_ble_eq_true rfl), (Nat.le_of_ble_eq_true rfl)⟩) (fun H locs hP hD hS => ?_)
  exact sw_ret X (txc_n hk) hS rfl dJ0_charAt_5068e_15
end SC
