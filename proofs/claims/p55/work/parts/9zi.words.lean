/-! the texts: 0 is that of the words, 1 to 13 the law's -/
def so : Nat → String
  | 0 => RX8
  | 1 => RL
  | 2 => RL
  | 3 => RL
  | 4 => RL
  | 5 => RL
  | 6 => RL
  | 7 => RL
  | 8 => RL
  | 9 => RL
  | 10 => RL
  | 11 => RL
  | 12 => RL
  | _ => RL
def si : Nat → Nat
  | 0 => 53
  | 1 => 43
  | 2 => 53
  | 3 => 58
  | 4 => 60
  | 5 => 62
  | 6 => 64
  | 7 => 66
  | 8 => 68
  | 9 => 70
  | 10 => 72
  | 11 => 74
  | 12 => 76
  | _ => 78
def sx : Nat → String
  | 0 => "cell pricks blind rubs secret letters page room knows order read odds turn ill move rub damp warder when full all loop end stop "
  | 1 => "cell"
  | 2 => " pricks"
  | 3 => " blind"
  | 4 => " rubs;"
  | 5 => ";"
  | 6 => "secret"
  | 7 => " letters"
  | 8 => "page"
  | 9 => " room"
  | 10 => ";read"
  | 11 => " odds"
  | 12 => "knows"
  | _ => "order"
def sr : Nat → List Int32
  | 0 => [99, 101, 108, 108, 32, 112, 114, 105, 99, 107, 115, 32, 98, 108, 105, 110, 100, 32, 114, 117, 98, 115, 32, 115, 101, 99, 114, 101, 116, 32, 108, 101, 116, 116, 101, 114, 115, 32, 112, 97, 103, 101, 32, 114, 111, 111, 109, 32, 107, 110, 111, 119, 115, 32, 111, 114, 100, 101, 114, 32, 114, 101, 97, 100, 32, 111, 100, 100, 115, 32, 116, 117, 114, 110, 32, 105, 108, 108, 32, 109, 111, 118, 101, 32, 114, 117, 98, 32, 100, 97, 109, 112, 32, 119, 97, 114, 100, 101, 114, 32, 119, 104, 101, 110, 32, 102, 117, 108, 108, 32, 97, 108, 108, 32, 108, 111, 111, 112, 32, 101, 110, 100, 32, 115, 116, 111, 112, 32]
  | 1 => [99, 101, 108, 108]
  | 2 => [32, 112, 114, 105, 99, 107, 115]
  | 3 => [32, 98, 108, 105, 110, 100]
  | 4 => [32, 114, 117, 98, 115, 59]
  | 5 => [59]
  | 6 => [115, 101, 99, 114, 101, 116]
  | 7 => [32, 108, 101, 116, 116, 101, 114, 115]
  | 8 => [112, 97, 103, 101]
  | 9 => [32, 114, 111, 111, 109]
  | 10 => [59, 114, 101, 97, 100]
  | 11 => [32, 111, 100, 100, 115]
  | 12 => [107, 110, 111, 119, 115]
  | _ => [111, 114, 100, 101, 114]
def sn : Nat → Nat
  | 0 => 128
  | 1 => 4
  | 2 => 7
  | 3 => 6
  | 4 => 6
  | 5 => 1
  | 6 => 6
  | 7 => 8
  | 8 => 4
  | 9 => 5
  | 10 => 5
  | 11 => 5
  | 12 => 5
  | _ => 5
def TXB : List Int32 := sr 0
def txc (k : Nat) : Int32 := TXB.getD k 0
theorem sr_ok : ∀ t, t < 14 → tw_ok (sn t) (sr t) := fun t ht => tw_of ((by decide +kernel : ∀ t, t < 14 → (List.range (sn t)).all (fun k => decide ((((sr t).getD k 0 &&& 255).toUInt32 % 65536).toInt32 = (sr t).getD k 0) && decide (((sr t).getD k 0).toUInt32.toUInt16.toUInt32.toInt32 = (sr t).getD k 0)) = true) t ht)
theorem sn_lt : ∀ t, t < 14 → sn t < 1000 := by decide +kernel
/-! Tokens(): the keys of the words, told one letter after the other -/
def tk_c : Nat → Nat
  | 0 => 0
  | n + 1 => if txc n = 32 then tk_c n + 1 else tk_c n
def tk_p : Nat → Int64
  | 0 => lN 0
  | n + 1 => if txc n = 32 then lN 0 else (tk_p n * lN 32) + ((txc n - nI 97) + nI 1).toInt64
def tk_r : Nat → Nat → Int64
  | 0 => fun _ => lN 0
  | n + 1 => if txc n = 32 then vp_updL (tk_r n) (nI (tk_c n)).toNatClampNeg (tk_p n) else tk_r n
set_option maxRecDepth 100000 in
theorem tk_lt {n : Nat} (hn : n < 128) : tk_c n < 24 := by
  have h : (List.range 128).all (fun n => decide (tk_c n < 24)) = true := by decide +kernel
  exact of_decide_eq_true (List.all_eq_true.mp h n (List.mem_range.mpr hn))
theorem tk_out {k : Nat} (hk : ¬ k < 24) : ∀ n, n ≤ 128 → tk_r n k = lN 0 := by
  intro n
  induction n with
  | zero => intro _; rfl
  | succ n ih =>
    intro hn
    have h1 := tk_lt (n := n) (by omega)
    show (if txc n = 32 then vp_updL (tk_r n) (nI (tk_c n)).toNatClampNeg (tk_p n) else tk_r n) k = lN 0
    by_cases hc : txc n = 32
    · rw [if_pos hc, nI_clamp (by omega)]
      show (if k = tk_c n then tk_p n else tk_r n k) = lN 0
      rw [if_neg (by omega)]
      exact ih (by omega)
    · rw [if_neg hc]
      exact ih (by omega)
set_option maxRecDepth 100000 in
theorem tk_all : tk_r 128 = KROW := by
  funext k
  by_cases hk : k < 24
  · have h : (List.range 24).all (fun k => decide (tk_r 128 k = KROW k)) = true := by decide +kernel
    exact of_decide_eq_true (List.all_eq_true.mp h k (List.mem_range.mpr hk))
  · rw [tk_out hk 128 (Nat.le_refl _)]
    show lN 0 = if k < 24 then lN (KEY k) else lN 0
    rw [if_neg hk]
def mp_SY (A : Nat → Prop) (s : State) (H : Heap) : Prop := ∃ K V : Nat → Nat, ∃ F : Option Nat, ∀ t, t < 14 → vk_R (so t) (si t) (sx t) (K t) s ∧ sw (sn t) (sr t) (K t) (V t) F A s H
theorem mp_SY.vm {A : Nat → Prop} {s U : State} {H : Heap} (h : mp_SY A s H) (hW : s.WarmedH U.vm) : mp_SY A U H := by
  obtain ⟨K, V, F, h1⟩ := h
  exact ⟨K, V, F, fun t ht => ⟨(h1 t ht).1.warm hW, (h1 t ht).2.moved hW.alike⟩⟩
theorem mp_SY.same {A : Nat → Prop} {u : State} {H : Heap} (h : mp_SY A u H) (U : State) (e : U.vm = u.vm) : mp_SY A U H := by
  obtain ⟨K, V, F, h1⟩ := h
  exact ⟨K, V, F, fun t ht => ⟨vk_R.same (u := u) e (h1 t ht).1, sw.moved (u := u) (U := U) (by rw [e]; exact Vm.Alike.refl _) (h1 t ht).2⟩⟩
theorem mp_SY.sub {A B : Nat → Prop} {s : State} {H H1 : Heap} (h : mp_SY A s H) (hq : ∀ a : Nat, a < H.size → ¬ A a → H1[a]? = H[a]?) (hAB : ∀ q, B q → A q) : mp_SY B s H1 := by
  obtain ⟨K, V, F, h1⟩ := h
  exact ⟨K, V, F, fun t ht => ⟨(h1 t ht).1, ((h1 t ht).2.kept hq).narrow hAB⟩⟩
/-- a contract of a method that reads the words' text -/
def mp_MG (l : Launch) (D : va_G) (T : Nat → ClassId) (y : MethodName) (b : ByteArray) (n : Nat) (ret : Option FieldType) (rm : Room) (mc ms : Nat) (av : List Value) (ws : va_W) (QQ : (Nat → Prop) → Array Value → State → Outcome → State → Prop) : Prop :=
  ∀ sz : Nat, Met l y (.code y b n ret :: mp_B) rm (va_Pc av (fun U => (mp_Pre D T sz ws U ∧ mp_Z U) ∧ mp_SY (va_A ws sz) U U.heap)) (QQ (va_A ws sz)) mc ms (va_A ws sz)
theorem mp_blindG {D : va_G} {T : Nat → ClassId} {sz : Nat} {A : Nat → Prop} {ws : va_W} {av : List Value} : FrameBlind (va_Pc av (fun U => (mp_Pre D T sz ws U ∧ mp_Z U) ∧ mp_SY A U U.heap)) := fun a U g mk q => by
  obtain ⟨q0, ⟨⟨q1, qP, qK, qD⟩, qZ⟩, q2⟩ := q
  exact ⟨q0, ⟨⟨q1, qP, va_K.moved (u := U) (U := U.calling g mk a) (Vm.Alike.refl U.vm) qK, qD⟩, mp_Z.same (u := U) rfl qZ⟩, q2.same (U.calling g mk a) rfl⟩
theorem mp_ofG {l : Launch} {D : va_G} {T : Nat → ClassId} {y : MethodName} {b : ByteArray} {n : Nat} {ret : Option FieldType} {rm : Room} {mc ms : Nat} {av : List Value} {ws : va_W} {QQ : (Nat → Prop) → Array Value → State → Outcome → State → Prop} {lv : List (Nat × Value)}
    (hy : plainName y.cls = true) (hlen : (lg_sl av).length ≤ n) (hlv : lv_args 0 av = lv)
    (body : ∀ (p : Program) (e : Env) (s : State) (m : MethodId) (args : Array Value) (below : List Frame) (meth : Method) (c : Code) (A : Nat → Prop) (ls : Array Slot), mp_Z s → mp_SY A s s.heap → mp_X p s m meth c args y.cls y.name b n ret → va_K D mp_cl (mp_ty T) s → va_P D mp_cl ws s.heap → va_D A ws → va_S A s.heap s.heap [] → (∀ q, s.heap.size ≤ q → A q) → lv_has ls n lv →
      W p l e rm s m args below meth c s.heap [] 0 0 (MQ below (QQ A) args s mc ms A) (F0 m 0 ls [])) : mp_MG l D T y b n ret rm mc ms av ws QQ := by
  intro sz
  refine Met.ofW (cc := b) (maxL := n) (ret := ret) hy rfl ?_
  intro p e s m args below meth c s₁ B hml hv
  obtain ⟨rfl, ⟨⟨hsz, hP, hK, hD0⟩, hZ⟩, hY⟩ := hv
  have hts : ∀ w ∈ mp_B, w.before av.toArray s = true := fun w hw => atoms_spec (ws := .code y b n ret :: mp_B) B.pre w (List.mem_cons_of_mem _ hw)
  have hown : s.vm.findClass y.cls = some m.cls := findClass_of_methodNamed B.named
  have hin : meth.name = y.name := (name_of_methodNamed B.named B.method).1
  subst hsz
  have hD := hD0.self (sz := s.heap.size)
  have hl := lv_entry av hlen
  rw [lg_entry_eq]
  rw [hlv] at hl
  exact body p e s m av.toArray below meth c (va_A ws s.heap.size) _ hZ hY ⟨B.exec, B.bytes, hml, B.returns, hown, hts, B.notSynchronized, hin⟩ hK hP hD va_S.rf (fun q h => Or.inr h) hl
section NG
variable {p : Program} {l : Launch} {e : Env} {R : Room} {s : State} {m : MethodId} {args : Array Value} {below : List Frame} {meth : Method} {c : Code} {H : Heap} {locs : List Loc} {cells slots : Nat} {Q : State → Prop}
variable {pc : Nat} {ls : Array Slot} {rest st As : List Value} {D : va_G} {T : Nat → ClassId} {A : Nat → Prop} {ws wc w1 : va_W} {own nm : String} {cc b : ByteArray} {nL n idx k : Nat} {ret yret : Option FieldType} {y : MethodName} {rm : Room} {a : Nat} {QQ : (Nat → Prop) → Array Value → State → Outcome → State → Prop} {mc ms : Nat}
theorem mp_SYd (hY : mp_SY A s s.heap) (hS : va_S A s.heap H locs) (hA : ∀ q, s.heap.size ≤ q → A q) (hDc : va_D A wc) : mp_SY (va_A wc H.size) s H := by
  refine hY.sub hS.2.1 (fun q h => ?_)
  rcases h with ⟨k, e, h⟩ | h
  · exact hDc.2 k (q, e) h
  · exact hA q (Nat.le_trans hS.1 h)
theorem mp_runIG (hZ : mp_Z s) (hY : mp_SY A s s.heap) (hS : va_S A s.heap H locs) (hA : ∀ q, s.heap.size ≤ q → A q) (X : mp_X p s m meth c args own nm cc nL ret) (hm : mp_MI y b n k) (hlk : Cond.methodLink own idx y ∈ mp_B) (hM : mp_MG l D T y b n none rm mc ms (.ref a :: As) wc QQ) (hrc : rm.cells = mc) (hrs : rm.slots = ms) (hR : mp_R rm R n)
    (hK : va_K D mp_cl (mp_ty T) s) (hPc : va_P D mp_cl wc H) (hDc : va_D A wc)
    (hn : As.length = k) (hsz : ls.size = nL) (hst : st = As.reverse ++ .ref a :: rest) (hW : (rest.map fun v => v.category).sum ≤ 8) (hdg : decode cc pc = .ok (.invokespecial idx, 3)) (hf : cells + mc ≤ R.cells ∧ slots + ms ≤ R.slots) :
    va_Run p l e R s m args below meth c H locs cells slots mc ms (F0 m pc ls st) rest (QQ (va_A wc H.size) (Value.ref a :: As).toArray) (va_A wc H.size) := by
  obtain ⟨hx, hb, hml, hr, hown, hts, hlocks, hnm⟩ := X
  obtain ⟨h1, h3, h4, h2, h5, h6, h7⟩ := hm
  refine va_runI (As := As) (rest := rest) (Ts := mp_B) ⟨hx, hb, hml, hown, hts⟩ (hM H.size) (cwI k hts (mp_GI ?_) rfl hrc hrs (hts _ h3) (hts _ hlk) (hts _ h1) h2 ⟨h5, h6, h7⟩ hR) ⟨mp_blindG, fun U hU hW => ⟨rfl, ⟨⟨by rw [hU], by rw [hU]; exact hPc, va_K.moved hW.alike hK, hDc.weaken (fun _ _ _ _ => trivial)⟩, hZ.warm hW⟩, by rw [hU]; exact (mp_SYd hY hS hA hDc).vm hW⟩⟩ rfl hn hsz hst (lv_room hW) hdg hf
  exact mp_ws h4
end NG
section X8L
variable {p : Program} {l : Launch} {e : Env} {s : State} {m : MethodId} {args : Array Value} {below : List Frame} {meth : Method} {c : Code} {D : va_G} {T : Nat → ClassId} {A : Nat → Prop} {a q1 q2 K V : Nat} {F : Option Nat}
set_option maxHeartbeats 4000000 in
set_option maxRecDepth 100000 in
theorem x8_loop (X : mp_X p s m meth c args RX8 "<init>" cX8_init 6 none) (hK : va_K D mp_cl (mp_ty T) s) (hA : ∀ q, s.heap.size ≤ q → A q) (hR : vk_R RX8 53 (sx 0) K s) (hW : sw 128 TXB K V F A s s.heap) : ∀ (k n : Nat), n + k = 128 → ∀ (H : Heap) (locs : List Loc) (ls : Array Slot), va_P D mp_cl [(a, .inr (8, [.ref q1, .int (nI 0), .int (nI 0), .int (nI 0), .int (nI 0), .int (nI 0), .long (-1 : Int64), .int (-1 : Int32), .int (nI 0), .int (-1 : Int32), .int (-1 : Int32), .ref q2])), (q1, mp_aB T 900 (fun _ => nI 0)), (q2, mp_aJ T 24 (tk_r n))] H → va_D A [(a, .inr (8, [.ref q1, .int (nI 0), .int (nI 0), .int (nI 0), .int (nI 0), .int (nI 0), .long (-1 : Int64), .int (-1 : Int32), .int (nI 0), .int (-1 : Int32), .int (-1 : Int32), .ref q2])), (q1, mp_aB T 900 (fun _ => nI 0)), (q2, mp_aJ T 24 (tk_r n))] → va_S A s.heap H locs → lv_has ls 6 [(4, .int (nI n)), (2, .long (tk_p n)), (1, .int (nI (tk_c n))), (0, .ref a)] →
    W p l e ({ frames := 5, cells := 2, slots := 924, locals := 120 } : Room) s m args below meth c H locs 2 924 (MQ below (mp_Qc D (w_X8 T a) A) args s 2 924 A) (F0 m 80 ls []) := by
  have hx := X.1
  have hb := X.2.1
  have hml := X.2.2.1
  have hown := X.2.2.2.2.1
  have hts := X.2.2.2.2.2.1
  intro k
  induction k with
  | zero =>
    intro n hn H locs ls hP hD hS hl
    obtain rfl : n = 128 := by omega
    refine lv_iload hx hb dX8_init_80 (lv_at hl 0 rfl) ?_
    refine va_ldcS hx hb hown hR dX8_init_82 ?_
    refine sw_calli hP hD hS hA (sw_runV (As := []) (rest := [.int (nI 128)]) X sm_length rfl (mp_c1 105 rfl rfl) (sc_length l D T 128 TXB K V F (by decide)) rfl rfl ⟨(Nat.le_of_ble_eq_true rfl), (Nat.le_of_ble_eq_true rfl)⟩ hK hW hS hA rfl hl.1 rfl (Nat.le_of_ble_eq_true rfl) dX8_init_84 ⟨(Nat.le_of_ble_eq_true rfl), (Nat.le_of_ble_eq_true rfl)⟩) (fun H locs hP hD hS => ?_)
    refine lv_icmp_ge (tgt := 140) hx hb dX8_init_87 (by decide) (fun _ => ?_) (fun q => absurd (by decide) q)
    rw [tk_all] at hP hD
    exact mp_retc (w1 := w_X8 T a) (q := fun k => match k with | 0 => q1 | _ => q2) X hP hD hS dX8_init_140
  | succ k ih =>
    intro n hn H locs ls hP hD hS hl
    have hn1 : n < 128 := by omega
    have hc1 := tk_lt hn1
    refine lv_iload hx hb dX8_init_80 (lv_at hl 0 rfl) ?_
    refine va_ldcS hx hb hown hR dX8_init_82 ?_
    refine sw_calli hP hD hS hA (sw_runV (As := []) (rest := [.int (nI n)]) X sm_length rfl (mp_c1 105 rfl rfl) (sc_length l D T 128 TXB K V F (by decide)) rfl rfl ⟨(Nat.le_of_ble_eq_true rfl), (Nat.le_of_ble_eq_true rfl)⟩ hK hW hS hA rfl hl.1 rfl (Nat.le_of_ble_eq_true rfl) dX8_init_84 ⟨(Nat.le_of_ble_eq_true rfl), (Nat.le_of_ble_eq_true rfl)⟩) (fun H locs hP hD hS => ?_)
    refine lv_icmp_ge (tgt := 140) hx hb dX8_init_87 (by decide) (fun q => absurd q (Int32.not_le.mpr (nI_lt (a := n) (b := 128) hn1 (by omega)))) (fun _ => ?_)
    refine lv_iload_n hx hb dX8_init_90 rfl (lv_at hl 2 rfl) ?_
    refine lv_bipush (v := (nI 24)) hx hb dX8_init_91 (by decide) ?_
    refine lv_icmp_ge (tgt := 140) hx hb dX8_init_93 (by decide) (fun q => absurd q (Int32.not_le.mpr (nI_lt hc1 (by omega)))) (fun _ => ?_)
    refine va_ldcS hx hb hown hR dX8_init_96 ?_
    refine lv_iload hx hb dX8_init_98 (lv_at hl 0 rfl) ?_
    refine sw_calli hP hD hS hA (sw_runV (As := [.int (nI n)]) (rest := []) X sm_charAt rfl (mp_c1 115 rfl rfl) (sc_charAt l D T 128 TXB K V F (by decide) (sr_ok 0 (by decide)) hn1) rfl rfl ⟨(Nat.le_of_ble_eq_true rfl), (Nat.le_of_ble_eq_true rfl)⟩ hK hW hS hA rfl hl.1 rfl (Nat.le_of_ble_eq_true rfl) dX8_init_100 ⟨(Nat.le_of_ble_eq_true rfl), (Nat.le_of_ble_eq_true rfl)⟩) (fun H locs hP hD hS => ?_)
    refine lv_istore (lv' := [(5, .int (txc n)), (4, .int (nI n)), (2, .long (tk_p n)), (1, .int (nI (tk_c n))), (0, .ref a)]) hx hb dX8_init_103 hl (by decide) rfl (fun ls hl => ?_)
    refine lv_iload hx hb dX8_init_105 (lv_at hl 0 rfl) ?_
    refine lv_bipush (v := (32 : Int32)) hx hb dX8_init_107 (by decide) ?_
    refine lv_icmp_ne (tgt := 127) hx hb dX8_init_109 (by decide) (fun hc => ?_) (fun hc => ?_)
    · refine lv_lload_n hx hb dX8_init_127 rfl (lv_at hl 2 rfl) ?_
      refine lv_iload hx hb dX8_init_128 (lv_at hl 0 rfl) ?_
      have hPc := hP.sub (ws' := (k_X8_withLetter T)) [] rfl
      have hDc := hD.sub (ws' := (k_X8_withLetter T)) [] rfl rfl
      refine mp_calll (isC := []) (wc := (k_X8_withLetter T)) (w1 := (k_X8_withLetter T)) hP hD hS hA rfl rfl (mp_runS (As := [.long (tk_p n), .int (txc n)]) (rest := []) X me_X8_withLetter lk_X8_65 (c_X8_withLetter l D T (tk_p n) (txc n) ((tk_p n * lN 32) + ((txc n - nI 97) + nI 1).toInt64) rfl) rfl rfl ⟨(Nat.le_of_ble_eq_true rfl), (Nat.le_of_ble_eq_true rfl)⟩ hK hPc hDc rfl hl.1 rfl (Nat.le_of_ble_eq_true rfl) dX8_init_130 ⟨(Nat.le_of_ble_eq_true rfl), (Nat.le_of_ble_eq_true rfl)⟩) (fun H locs hP _ hS => ?_)
      have e1 : (tk_p n * lN 32) + ((txc n - nI 97) + nI 1).toInt64 = tk_p (n + 1) := by
        show _ = if txc n = 32 then lN 0 else (tk_p n * lN 32) + ((txc n - nI 97) + nI 1).toInt64
        rw [if_neg hc]
      have e2 : tk_c n = tk_c (n + 1) := by
        show _ = if txc n = 32 then tk_c n + 1 else tk_c n
        rw [if_neg hc]
      have e3 : tk_r n = tk_r (n + 1) := by
        show _ = if txc n = 32 then vp_updL (tk_r n) (nI (tk_c n)).toNatClampNeg (tk_p n) else tk_r n
        rw [if_neg hc]
      rw [e1]
      replace hP : va_P D mp_cl [(a, .inr (8, [.ref q1, .int (nI 0), .int (nI 0), .int (nI 0), .int (nI 0), .int (nI 0), .long (-1 : Int64), .int (-1 : Int32), .int (nI 0), .int (-1 : Int32), .int (-1 : Int32), .ref q2])), (q1, mp_aB T 900 (fun _ => nI 0)), (q2, mp_aJ T 24 (tk_r n))] H := hP
      rw [e2] at hl
      rw [e3] at hP hD
      refine lv_lstore_n (lv' := [(2, .long (tk_p (n + 1))), (5, .int (txc n)), (4, .int (nI n)), (1, .int (nI (tk_c (n + 1)))), (0, .ref a)]) hx hb dX8_init_133 rfl hl (by decide) rfl (fun ls hl => ?_)
      refine lv_iinc (v := (nI (n + 1))) (lv' := [(4, .int (nI (n + 1))), (2, .long (tk_p (n + 1))), (5, .int (txc n)), (1, .int (nI (tk_c (n + 1)))), (0, .ref a)]) hx hb dX8_init_134 hl (k := 2) rfl (nI_succ n).symm (by decide) rfl (fun ls hl => ?_)
      refine lv_goto (tgt := 80) hx hb dX8_init_137 (by decide) ?_
      exact ih (n + 1) (by omega) _ _ _ hP hD hS (lv_sub hl [0, 1, 3, 4] rfl)
    · replace hc : txc n = 32 := hc
      refine lv_aload_n hx hb dX8_init_112 rfl (lv_at hl 4 rfl) ?_
      refine mp_get X fl_X8_49 hK hP 0 rfl rfl dX8_init_113 ?_
      refine lv_iload_n hx hb dX8_init_116 rfl (lv_at hl 3 rfl) ?_
      refine lv_lload_n hx hb dX8_init_117 rfl (lv_at hl 2 rfl) ?_
      refine va_last hx hb hK hP hD hS 2 1 rfl rfl (vp_in_nI hc1 (by omega)) dX8_init_118 (fun H locs hP hD hS => ?_)
      replace hP : va_P D mp_cl [(a, .inr (8, [.ref q1, .int (nI 0), .int (nI 0), .int (nI 0), .int (nI 0), .int (nI 0), .long (-1 : Int64), .int (-1 : Int32), .int (nI 0), .int (-1 : Int32), .int (-1 : Int32), .ref q2])), (q1, mp_aB T 900 (fun _ => nI 0)), (q2, mp_aJ T 24 (vp_updL (tk_r n) (nI (tk_c n)).toNatClampNeg (tk_p n)))] H := hP
      replace hD : va_D A [(a, .inr (8, [.ref q1, .int (nI 0), .int (nI 0), .int (nI 0), .int (nI 0), .int (nI 0), .long (-1 : Int64), .int (-1 : Int32), .int (nI 0), .int (-1 : Int32), .int (-1 : Int32), .ref q2])), (q1, mp_aB T 900 (fun _ => nI 0)), (q2, mp_aJ T 24 (vp_updL (tk_r n) (nI (tk_c n)).toNatClampNeg (tk_p n)))] := hD
      have e1 : lN 0 = tk_p (n + 1) := by
        show _ = if txc n = 32 then lN 0 else (tk_p n * lN 32) + ((txc n - nI 97) + nI 1).toInt64
        rw [if_pos hc]
      have e2 : tk_c n + 1 = tk_c (n + 1) := by
        show _ = if txc n = 32 then tk_c n + 1 else tk_c n
        rw [if_pos hc]
      have e3 : vp_updL (tk_r n) (nI (tk_c n)).toNatClampNeg (tk_p n) = tk_r (n + 1) := by
        show _ = if txc n = 32 then vp_updL (tk_r n) (nI (tk_c n)).toNatClampNeg (tk_p n) else tk_r n
        rw [if_pos hc]
      rw [e3] at hP hD
      refine lv_lconst (v := (lN 0)) hx hb dX8_init_119 (by decide) ?_
      refine lv_lstore_n (lv' := [(2, .long (lN 0)), (5, .int (txc n)), (4, .int (nI n)), (1, .int (nI (tk_c n))), (0, .ref a)]) hx hb dX8_init_120 rfl hl (by decide) rfl (fun ls hl => ?_)
      refine lv_iinc (v := (nI (tk_c n + 1))) (lv' := [(1, .int (nI (tk_c n + 1))), (2, .long (lN 0)), (5, .int (txc n)), (4, .int (nI n)), (0, .ref a)]) hx hb dX8_init_121 hl (k := 3) rfl (nI_succ _).symm (by decide) rfl (fun ls hl => ?_)
      refine lv_goto (tgt := 134) hx hb dX8_init_124 (by decide) ?_
      rw [e1, e2] at hl
      refine lv_iinc (v := (nI (n + 1))) (lv' := [(4, .int (nI (n + 1))), (1, .int (nI (tk_c (n + 1)))), (2, .long (tk_p (n + 1))), (5, .int (txc n)), (0, .ref a)]) hx hb dX8_init_134 hl (k := 3) rfl (nI_succ n).symm (by decide) rfl (fun ls hl => ?_)
      refine lv_goto (tgt := 80) hx hb dX8_init_137 (by decide) ?_
      exact ih (n + 1) (by omega) _ _ _ hP hD hS (lv_sub hl [0, 2, 1, 4] rfl)
end X8L
set_option maxHeartbeats 4000000 in
set_option maxRecDepth 100000 in
theorem i_X8 (l : Launch) (D : va_G) (T : Nat → ClassId) (a : Nat) : mp_MG l D T yX8_init cX8_init 6 none { frames := 5, cells := 2, slots := 924, locals := 120 } 2 924 [.ref a] [(a, .inr (8, [.null, .int (nI 0), .int (nI 0), .int (nI 0), .int (nI 0), .int (nI 0), .long (lN 0), .int (nI 0), .int (nI 0), .int (nI 0), .int (nI 0), .null]))] (mp_Qc D (w_X8 T a)) := by
  refine mp_ofG (by decide) (Nat.le_of_ble_eq_true rfl) rfl ?_
  intro p e s m args below meth c A ls hZ hY X hK hP hD hS hA hl
  replace X : mp_X p s m meth c args RX8 "<init>" cX8_init 6 none := X
  obtain ⟨K0, V0, F, hY0⟩ := hY
  have hR : vk_R RX8 53 (sx 0) (K0 0) s := (hY0 0 (by decide)).1
  have hW : sw 128 TXB (K0 0) (V0 0) F A s s.heap := (hY0 0 (by decide)).2
  have hx := X.1
  have hb := X.2.1
  have hml := X.2.2.1
  have hown := X.2.2.2.2.1
  have hts := X.2.2.2.2.2.1
  replace hl : lv_has ls 6 [(0, .ref a)] := hl
  replace hP : va_P D mp_cl [(a, .inr (8, [.null, .int (nI 0), .int (nI 0), .int (nI 0), .int (nI 0), .int (nI 0), .long (lN 0), .int (nI 0), .int (nI 0), .int (nI 0), .int (nI 0), .null]))] s.heap := hP
  refine lv_aload_n hx hb dX8_init_0 rfl (lv_at hl 0 rfl) ?_
  refine mp_obj X lo_X8 hl.1 dX8_init_1 (Nat.le_of_ble_eq_true rfl) (Nat.le_of_ble_eq_true rfl) ?_
  refine lv_aload_n hx hb dX8_init_4 rfl (lv_at hl 0 rfl) ?_
  refine lv_sipush (v := (nI 900)) hx hb dX8_init_5 (by decide) ?_
  refine mp_newB (N := 900) X hK hP hD hS hA (by decide) (by decide) (by decide) (Nat.le_of_ble_eq_true rfl) (Nat.le_of_ble_eq_true rfl) dX8_init_8 (fun q1 H hP hD hS => ?_)
  replace hP : va_P D mp_cl [(a, .inr (8, [.null, .int (nI 0), .int (nI 0), .int (nI 0), .int (nI 0), .int (nI 0), .long (lN 0), .int (nI 0), .int (nI 0), .int (nI 0), .int (nI 0), .null])), (q1, mp_aB T 900 (fun _ => nI 0))] H := hP
  replace hD : va_D A [(a, .inr (8, [.null, .int (nI 0), .int (nI 0), .int (nI 0), .int (nI 0), .int (nI 0), .long (lN 0), .int (nI 0), .int (nI 0), .int (nI 0), .int (nI 0), .null])), (q1, mp_aB T 900 (fun _ => nI 0))] := hD
  refine mp_putF X fl_X8_9 fp_X8 rfl hK hP hD hS 0 rfl rfl rfl (Nat.le_of_ble_eq_true rfl) dX8_init_10 (fun H locs hP hD hS => ?_)
  replace hP : va_P D mp_cl [(a, .inr (8, [.ref q1, .int (nI 0), .int (nI 0), .int (nI 0), .int (nI 0), .int (nI 0), .long (lN 0), .int (nI 0), .int (nI 0), .int (nI 0), .int (nI 0), .null])), (q1, mp_aB T 900 (fun _ => nI 0))] H := hP
  replace hD : va_D A [(a, .inr (8, [.ref q1, .int (nI 0), .int (nI 0), .int (nI 0), .int (nI 0), .int (nI 0), .long (lN 0), .int (nI 0), .int (nI 0), .int (nI 0), .int (nI 0), .null])), (q1, mp_aB T 900 (fun _ => nI 0))] := hD
  refine lv_aload_n hx hb dX8_init_13 rfl (lv_at hl 0 rfl) ?_
  refine lv_iconst (v := (nI 0)) hx hb dX8_init_14 (by decide) ?_
  refine mp_putf X fl_X8_15 fp_X8 rfl hK hP hD hS 0 rfl rfl rfl (Nat.le_of_ble_eq_true rfl) dX8_init_15 (fun H locs hP hD hS => ?_)
  replace hP : va_P D mp_cl [(a, .inr (8, [.ref q1, .int (nI 0), .int (nI 0), .int (nI 0), .int (nI 0), .int (nI 0), .long (lN 0), .int (nI 0), .int (nI 0), .int (nI 0), .int (nI 0), .null])), (q1, mp_aB T 900 (fun _ => nI 0))] H := hP
  replace hD : va_D A [(a, .inr (8, [.ref q1, .int (nI 0), .int (nI 0), .int (nI 0), .int (nI 0), .int (nI 0), .long (lN 0), .int (nI 0), .int (nI 0), .int (nI 0), .int (nI 0), .null])), (q1, mp_aB T 900 (fun _ => nI 0))] := hD
  refine lv_aload_n hx hb dX8_init_18 rfl (lv_at hl 0 rfl) ?_
  refine lv_iconst (v := (nI 0)) hx hb dX8_init_19 (by decide) ?_
  refine mp_putf X fl_X8_19 fp_X8 rfl hK hP hD hS 0 rfl rfl rfl (Nat.le_of_ble_eq_true rfl) dX8_init_20 (fun H locs hP hD hS => ?_)
  replace hP : va_P D mp_cl [(a, .inr (8, [.ref q1, .int (nI 0), .int (nI 0), .int (nI 0), .int (nI 0), .int (nI 0), .long (lN 0), .int (nI 0), .int (nI 0), .int (nI 0), .int (nI 0), .null])), (q1, mp_aB T 900 (fun _ => nI 0))] H := hP
  replace hD : va_D A [(a, .inr (8, [.ref q1, .int (nI 0), .int (nI 0), .int (nI 0), .int (nI 0), .int (nI 0), .long (lN 0), .int (nI 0), .int (nI 0), .int (nI 0), .int (nI 0), .null])), (q1, mp_aB T 900 (fun _ => nI 0))] := hD
  refine lv_aload_n hx hb dX8_init_23 rfl (lv_at hl 0 rfl) ?_
  refine lv_iconst (v := (nI 0)) hx hb dX8_init_24 (by decide) ?_
  refine mp_putf X fl_X8_22 fp_X8 rfl hK hP hD hS 0 rfl rfl rfl (Nat.le_of_ble_eq_true rfl) dX8_init_25 (fun H locs hP hD hS => ?_)
  replace hP : va_P D mp_cl [(a, .inr (8, [.ref q1, .int (nI 0), .int (nI 0), .int (nI 0), .int (nI 0), .int (nI 0), .long (lN 0), .int (nI 0), .int (nI 0), .int (nI 0), .int (nI 0), .null])), (q1, mp_aB T 900 (fun _ => nI 0))] H := hP
  replace hD : va_D A [(a, .inr (8, [.ref q1, .int (nI 0), .int (nI 0), .int (nI 0), .int (nI 0), .int (nI 0), .long (lN 0), .int (nI 0), .int (nI 0), .int (nI 0), .int (nI 0), .null])), (q1, mp_aB T 900 (fun _ => nI 0))] := hD
  refine lv_aload_n hx hb dX8_init_28 rfl (lv_at hl 0 rfl) ?_
  refine lv_iconst (v := (nI 0)) hx hb dX8_init_29 (by decide) ?_
  refine mp_putf X fl_X8_25 fp_X8 rfl hK hP hD hS 0 rfl rfl rfl (Nat.le_of_ble_eq_true rfl) dX8_init_30 (fun H locs hP hD hS => ?_)
  replace hP : va_P D mp_cl [(a, .inr (8, [.ref q1, .int (nI 0), .int (nI 0), .int (nI 0), .int (nI 0), .int (nI 0), .long (lN 0), .int (nI 0), .int (nI 0), .int (nI 0), .int (nI 0), .null])), (q1, mp_aB T 900 (fun _ => nI 0))] H := hP
  replace hD : va_D A [(a, .inr (8, [.ref q1, .int (nI 0), .int (nI 0), .int (nI 0), .int (nI 0), .int (nI 0), .long (lN 0), .int (nI 0), .int (nI 0), .int (nI 0), .int (nI 0), .null])), (q1, mp_aB T 900 (fun _ => nI 0))] := hD
  refine lv_aload_n hx hb dX8_init_33 rfl (lv_at hl 0 rfl) ?_
  refine lv_iconst (v := (nI 0)) hx hb dX8_init_34 (by decide) ?_
  refine mp_putf X fl_X8_28 fp_X8 rfl hK hP hD hS 0 rfl rfl rfl (Nat.le_of_ble_eq_true rfl) dX8_init_35 (fun H locs hP hD hS => ?_)
  replace hP : va_P D mp_cl [(a, .inr (8, [.ref q1, .int (nI 0), .int (nI 0), .int (nI 0), .int (nI 0), .int (nI 0), .long (lN 0), .int (nI 0), .int (nI 0), .int (nI 0), .int (nI 0), .null])), (q1, mp_aB T 900 (fun _ => nI 0))] H := hP
  replace hD : va_D A [(a, .inr (8, [.ref q1, .int (nI 0), .int (nI 0), .int (nI 0), .int (nI 0), .int (nI 0), .long (lN 0), .int (nI 0), .int (nI 0), .int (nI 0), .int (nI 0), .null])), (q1, mp_aB T 900 (fun _ => nI 0))] := hD
  refine lv_aload_n hx hb dX8_init_38 rfl (lv_at hl 0 rfl) ?_
  refine lv_ldc2 (v := (-1 : Int64)) hx hb hown (hts _ (cw_X8_31)) dX8_init_39 ?_
  refine mp_putf X fl_X8_33 fp_X8 rfl hK hP hD hS 0 rfl rfl rfl (Nat.le_of_ble_eq_true rfl) dX8_init_42 (fun H locs hP hD hS => ?_)
  replace hP : va_P D mp_cl [(a, .inr (8, [.ref q1, .int (nI 0), .int (nI 0), .int (nI 0), .int (nI 0), .int (nI 0), .long (-1 : Int64), .int (nI 0), .int (nI 0), .int (nI 0), .int (nI 0), .null])), (q1, mp_aB T 900 (fun _ => nI 0))] H := hP
  replace hD : va_D A [(a, .inr (8, [.ref q1, .int (nI 0), .int (nI 0), .int (nI 0), .int (nI 0), .int (nI 0), .long (-1 : Int64), .int (nI 0), .int (nI 0), .int (nI 0), .int (nI 0), .null])), (q1, mp_aB T 900 (fun _ => nI 0))] := hD
  refine lv_aload_n hx hb dX8_init_45 rfl (lv_at hl 0 rfl) ?_
  refine lv_iconst (v := (-1 : Int32)) hx hb dX8_init_46 (by decide) ?_
  refine mp_putf X fl_X8_37 fp_X8 rfl hK hP hD hS 0 rfl rfl rfl (Nat.le_of_ble_eq_true rfl) dX8_init_47 (fun H locs hP hD hS => ?_)
  replace hP : va_P D mp_cl [(a, .inr (8, [.ref q1, .int (nI 0), .int (nI 0), .int (nI 0), .int (nI 0), .int (nI 0), .long (-1 : Int64), .int (-1 : Int32), .int (nI 0), .int (nI 0), .int (nI 0), .null])), (q1, mp_aB T 900 (fun _ => nI 0))] H := hP
  replace hD : va_D A [(a, .inr (8, [.ref q1, .int (nI 0), .int (nI 0), .int (nI 0), .int (nI 0), .int (nI 0), .long (-1 : Int64), .int (-1 : Int32), .int (nI 0), .int (nI 0), .int (nI 0), .null])), (q1, mp_aB T 900 (fun _ => nI 0))] := hD
  refine lv_aload_n hx hb dX8_init_50 rfl (lv_at hl 0 rfl) ?_
  refine lv_iconst (v := (nI 0)) hx hb dX8_init_51 (by decide) ?_
  refine mp_putf X fl_X8_40 fp_X8 rfl hK hP hD hS 0 rfl rfl rfl (Nat.le_of_ble_eq_true rfl) dX8_init_52 (fun H locs hP hD hS => ?_)
  replace hP : va_P D mp_cl [(a, .inr (8, [.ref q1, .int (nI 0), .int (nI 0), .int (nI 0), .int (nI 0), .int (nI 0), .long (-1 : Int64), .int (-1 : Int32), .int (nI 0), .int (nI 0), .int (nI 0), .null])), (q1, mp_aB T 900 (fun _ => nI 0))] H := hP
  replace hD : va_D A [(a, .inr (8, [.ref q1, .int (nI 0), .int (nI 0), .int (nI 0), .int (nI 0), .int (nI 0), .long (-1 : Int64), .int (-1 : Int32), .int (nI 0), .int (nI 0), .int (nI 0), .null])), (q1, mp_aB T 900 (fun _ => nI 0))] := hD
  refine lv_aload_n hx hb dX8_init_55 rfl (lv_at hl 0 rfl) ?_
  refine lv_iconst (v := (-1 : Int32)) hx hb dX8_init_56 (by decide) ?_
  refine mp_putf X fl_X8_43 fp_X8 rfl hK hP hD hS 0 rfl rfl rfl (Nat.le_of_ble_eq_true rfl) dX8_init_57 (fun H locs hP hD hS => ?_)
  replace hP : va_P D mp_cl [(a, .inr (8, [.ref q1, .int (nI 0), .int (nI 0), .int (nI 0), .int (nI 0), .int (nI 0), .long (-1 : Int64), .int (-1 : Int32), .int (nI 0), .int (-1 : Int32), .int (nI 0), .null])), (q1, mp_aB T 900 (fun _ => nI 0))] H := hP
  replace hD : va_D A [(a, .inr (8, [.ref q1, .int (nI 0), .int (nI 0), .int (nI 0), .int (nI 0), .int (nI 0), .long (-1 : Int64), .int (-1 : Int32), .int (nI 0), .int (-1 : Int32), .int (nI 0), .null])), (q1, mp_aB T 900 (fun _ => nI 0))] := hD
  refine lv_aload_n hx hb dX8_init_60 rfl (lv_at hl 0 rfl) ?_
  refine lv_iconst (v := (-1 : Int32)) hx hb dX8_init_61 (by decide) ?_
  refine mp_putf X fl_X8_46 fp_X8 rfl hK hP hD hS 0 rfl rfl rfl (Nat.le_of_ble_eq_true rfl) dX8_init_62 (fun H locs hP hD hS => ?_)
  replace hP : va_P D mp_cl [(a, .inr (8, [.ref q1, .int (nI 0), .int (nI 0), .int (nI 0), .int (nI 0), .int (nI 0), .long (-1 : Int64), .int (-1 : Int32), .int (nI 0), .int (-1 : Int32), .int (-1 : Int32), .null])), (q1, mp_aB T 900 (fun _ => nI 0))] H := hP
  replace hD : va_D A [(a, .inr (8, [.ref q1, .int (nI 0), .int (nI 0), .int (nI 0), .int (nI 0), .int (nI 0), .long (-1 : Int64), .int (-1 : Int32), .int (nI 0), .int (-1 : Int32), .int (-1 : Int32), .null])), (q1, mp_aB T 900 (fun _ => nI 0))] := hD
  refine lv_aload_n hx hb dX8_init_65 rfl (lv_at hl 0 rfl) ?_
  refine lv_bipush (v := (nI 24)) hx hb dX8_init_66 (by decide) ?_
  refine mp_newJ (N := 24) X hK hP hD hS hA (by decide) (by decide) (by decide) (Nat.le_of_ble_eq_true rfl) (Nat.le_of_ble_eq_true rfl) dX8_init_68 (fun q2 H hP hD hS => ?_)
  replace hP : va_P D mp_cl [(a, .inr (8, [.ref q1, .int (nI 0), .int (nI 0), .int (nI 0), .int (nI 0), .int (nI 0), .long (-1 : Int64), .int (-1 : Int32), .int (nI 0), .int (-1 : Int32), .int (-1 : Int32), .null])), (q1, mp_aB T 900 (fun _ => nI 0)), (q2, mp_aJ T 24 (fun _ => lN 0))] H := hP
  replace hD : va_D A [(a, .inr (8, [.ref q1, .int (nI 0), .int (nI 0), .int (nI 0), .int (nI 0), .int (nI 0), .long (-1 : Int64), .int (-1 : Int32), .int (nI 0), .int (-1 : Int32), .int (-1 : Int32), .null])), (q1, mp_aB T 900 (fun _ => nI 0)), (q2, mp_aJ T 24 (fun _ => lN 0))] := hD
  refine mp_putF X fl_X8_49 fp_X8 rfl hK hP hD hS 0 rfl rfl rfl (Nat.le_of_ble_eq_true rfl) dX8_init_70 (fun H locs hP hD hS => ?_)
  replace hP : va_P D mp_cl [(a, .inr (8, [.ref q1, .int (nI 0), .int (nI 0), .int (nI 0), .int (nI 0), .int (nI 0), .long (-1 : Int64), .int (-1 : Int32), .int (nI 0), .int (-1 : Int32), .int (-1 : Int32), .ref q2])), (q1, mp_aB T 900 (fun _ => nI 0)), (q2, mp_aJ T 24 (fun _ => lN 0))] H := hP
  replace hD : va_D A [(a, .inr (8, [.ref q1, .int (nI 0), .int (nI 0), .int (nI 0), .int (nI 0), .int (nI 0), .long (-1 : Int64), .int (-1 : Int32), .int (nI 0), .int (-1 : Int32), .int (-1 : Int32), .ref q2])), (q1, mp_aB T 900 (fun _ => nI 0)), (q2, mp_aJ T 24 (fun _ => lN 0))] := hD
  refine lv_iconst (v := (nI 0)) hx hb dX8_init_73 (by decide) ?_
  refine lv_istore_n (lv' := [(1, .int (nI 0)), (0, .ref a)]) hx hb dX8_init_74 rfl hl (by decide) rfl (fun ls hl => ?_)
  refine lv_lconst (v := (lN 0)) hx hb dX8_init_75 (by decide) ?_
  refine lv_lstore_n (lv' := [(2, .long (lN 0)), (1, .int (nI 0)), (0, .ref a)]) hx hb dX8_init_76 rfl hl (by decide) rfl (fun ls hl => ?_)
  refine lv_iconst (v := (nI 0)) hx hb dX8_init_77 (by decide) ?_
  refine lv_istore (lv' := [(4, .int (nI 0)), (2, .long (lN 0)), (1, .int (nI 0)), (0, .ref a)]) hx hb dX8_init_78 hl (by decide) rfl (fun ls hl => ?_)
  exact x8_loop X hK hA hR hW 128 0 rfl _ _ _ hP hD hS hl
