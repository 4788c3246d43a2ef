/-! draw: its pure picture, its walk -/
/-- a contract of a method that reads the script, too -/
def mp_MD (l : Launch) (D : va_G) (T : Nat → ClassId) (b n : Nat) (xs : Nat → Int32) (y : MethodName) (bc : ByteArray) (nl : Nat) (ret : Option FieldType) (rm : Room) (mc ms : Nat) (av : List Value) (ws : va_W) (QQ : (Nat → Prop) → Array Value → State → Outcome → State → Prop) : Prop :=
  ∀ sz : Nat, Met l y (.code y bc nl ret :: mp_B) rm (va_Pc av (fun U => mp_Pre D T sz ws U ∧ va_X b n xs U U.heap ∧ b < U.heap.size ∧ ¬ va_A ws sz b)) (QQ (va_A ws sz)) mc ms (va_A ws sz)
theorem mp_blindD {D : va_G} {T : Nat → ClassId} {b n : Nat} {xs : Nat → Int32} {sz : Nat} {A : Nat → Prop} {ws : va_W} {av : List Value} : FrameBlind (va_Pc av (fun U => mp_Pre D T sz ws U ∧ va_X b n xs U U.heap ∧ b < U.heap.size ∧ ¬ A b)) := fun a U g mk q => by
  obtain ⟨q0, ⟨q1, qP, qK, qD⟩, q2, q3⟩ := q
  exact ⟨q0, ⟨q1, qP, va_K.moved (u := U) (U := U.calling g mk a) (Vm.Alike.refl U.vm) qK, qD⟩, va_X.moved (u := U) (U := U.calling g mk a) (Vm.Alike.refl U.vm) q2, q3⟩
theorem mp_ofD {l : Launch} {D : va_G} {T : Nat → ClassId} {b nx : Nat} {xs : Nat → Int32} {y : MethodName} {bc : ByteArray} {n : Nat} {ret : Option FieldType} {rm : Room} {mc ms : Nat} {av : List Value} {ws : va_W} {QQ : (Nat → Prop) → Array Value → State → Outcome → State → Prop} {lv : List (Nat × Value)}
    (hy : plainName y.cls = true) (hlen : (lg_sl av).length ≤ n) (hlv : lv_args 0 av = lv)
    (body : ∀ (p : Program) (e : Env) (s : State) (m : MethodId) (args : Array Value) (below : List Frame) (meth : Method) (c : Code) (A : Nat → Prop) (ls : Array Slot), va_X b nx xs s s.heap → b < s.heap.size → ¬ A b → mp_X p s m meth c args y.cls y.name bc n ret → va_K D mp_cl (mp_ty T) s → va_P D mp_cl ws s.heap → va_D A ws → va_S A s.heap s.heap [] → (∀ q, s.heap.size ≤ q → A q) → lv_has ls n lv →
      W p l e rm s m args below meth c s.heap [] 0 0 (MQ below (QQ A) args s mc ms A) (F0 m 0 ls [])) : mp_MD l D T b nx xs y bc n ret rm mc ms av ws QQ := by
  intro sz
  refine Met.ofW (cc := bc) (maxL := n) (ret := ret) hy rfl ?_
  intro p e s m args below meth c s₁ B hml hv
  obtain ⟨rfl, ⟨hsz, hP, hK, hD0⟩, hX, hbl, hbA⟩ := hv
  have hts : ∀ w ∈ mp_B, w.before av.toArray s = true := fun w hw => atoms_spec (ws := .code y bc n ret :: mp_B) B.pre w (List.mem_cons_of_mem _ hw)
  have hown : s.vm.findClass y.cls = some m.cls := findClass_of_methodNamed B.named
  have hin : meth.name = y.name := (name_of_methodNamed B.named B.method).1
  subst hsz
  have hD := hD0.self (sz := s.heap.size)
  have hl := lv_entry av hlen
  rw [lg_entry_eq]
  rw [hlv] at hl
  exact body p e s m av.toArray below meth c (va_A ws s.heap.size) _ hX hbl hbA ⟨B.exec, B.bytes, hml, B.returns, hown, hts, B.notSynchronized, hin⟩ hK hP hD va_S.rf (fun q h => Or.inr h) hl
section ND
variable {p : Program} {l : Launch} {e : Env} {R : Room} {s : State} {m : MethodId} {args : Array Value} {below : List Frame} {meth : Method} {c : Code} {H : Heap} {locs : List Loc} {cells slots : Nat} {Q : State → Prop}
variable {pc : Nat} {ls : Array Slot} {rest st As : List Value} {D : va_G} {T : Nat → ClassId} {A : Nat → Prop} {ws wc w1 : va_W} {own nm : String} {cc bc : ByteArray} {nL n idx k b nx : Nat} {xs : Nat → Int32} {ret yret : Option FieldType} {y : MethodName} {rm : Room} {QQ : (Nat → Prop) → Array Value → State → Outcome → State → Prop} {mc ms : Nat}
theorem mp_runSD (hX : va_X b nx xs s s.heap) (hbl : b < s.heap.size) (hbA : ¬ A b) (hS : va_S A s.heap H locs) (X : mp_X p s m meth c args own nm cc nL ret) (hm : mp_MS y bc n yret k) (hlk : Cond.methodLink own idx y ∈ mp_B) (hM : mp_MD l D T b nx xs y bc n yret rm mc ms As wc QQ) (hrc : rm.cells = mc) (hrs : rm.slots = ms) (hR : mp_R rm R n)
    (hK : va_K D mp_cl (mp_ty T) s) (hPc : va_P D mp_cl wc H) (hDc : va_D A wc)
    (hn : As.length = k) (hsz : ls.size = nL) (hst : st = As.reverse ++ rest) (hW : (rest.map fun v => v.category).sum ≤ 8) (hdg : decode cc pc = .ok (.invokestatic idx, 3)) (hf : cells + mc ≤ R.cells ∧ slots + ms ≤ R.slots) :
    va_Run p l e R s m args below meth c H locs cells slots mc ms (F0 m pc ls st) rest (QQ (va_A wc H.size) As.toArray) (va_A wc H.size) := by
  obtain ⟨hx, hb, hml, hr, hown, hts, hlocks, hnm⟩ := X
  obtain ⟨h1, h3, h4, h5, h6, h7⟩ := hm
  have hX2 : va_X b nx xs s H := hX.kept (hS.2.1 b hbl hbA)
  have hb2 : b < H.size := Nat.lt_of_lt_of_le hbl hS.1
  have hb3 : ¬ va_A wc H.size b := fun h => by
    rcases h with ⟨k, e, h⟩ | h
    · exact hbA (hDc.2 k (b, e) h)
    · exact absurd hb2 (Nat.not_lt.mpr h)
  refine va_runS (As := As) (rest := rest) (Ts := mp_B) ⟨hx, hb, hml, hown, hts⟩ (hM H.size) (va_cwS k hts (mp_GI ?_) rfl hrc hrs ⟨h5, h6, h7⟩ hR) ⟨mp_blindD, fun U hU hW => ⟨rfl, ⟨by rw [hU], by rw [hU]; exact hPc, va_K.moved hW.alike hK, hDc.weaken (fun _ _ _ _ => trivial)⟩, by rw [hU]; exact va_X.moved hW.alike hX2, by rw [hU]; exact hb2, hb3⟩⟩ rfl hn hsz hst (lv_room hW) hdg hf
  intro w hw
  rcases List.mem_append.mp hw with hw | hw
  · simp only [List.mem_cons, List.not_mem_nil, or_false] at hw
    rcases hw with rfl | rfl | rfl <;> assumption
  · exact mp_ws h4 w hw
end ND
def f_L_draw_316 (fu : Nat) (n1 : Nat) (xs : Nat → Int32) : Nat → Int32 → Int32 → Int32 → (Nat → Int32) → Option (Nat → Int32)
  | 0 => fun _ _ _ _ => none
  | n + 1 => fun z3 z4 z5 vh =>
    gi_ (nI 3) 62 ((if (vh ((nI 3)).toNatClampNeg) ≤ z5 then gi_ (nI 3) 62 ((if (vh ((nI 3)).toNatClampNeg) ≤ (nI 1) then some vh else (if ((z3 >>> ((nI 4) &&& (31 : Int32))) &&& (nI 1)) = (nI 1) then gi_ (nI 54) 62 (lt_ (vh ((nI 54)).toNatClampNeg) (fun (y7 : Int32) => gi_ (nI 55) 62 (lt_ (vh ((nI 55)).toNatClampNeg) (fun (y9 : Int32) => gi_ (nI 54) 62 (lt_ (upd vh ((nI 54)).toNatClampNeg y9) (fun (u11 : Nat → Int32) => gi_ (nI 55) 62 (lt_ (upd u11 ((nI 55)).toNatClampNeg y7) (fun (u13 : Nat → Int32) => some u13)))))))) else some vh))) else gi_ (nI 0) 62 (gd_ (¬ (vh ((nI 0)).toNatClampNeg) = 0) (lt_ ((z4 + z5) - (z4 + z5) / (vh ((nI 0)).toNatClampNeg) * (vh ((nI 0)).toNatClampNeg)) (fun (y16 : Int32) => gi_ ((nI 54) + z5) 62 (lt_ (upd vh ((nI 54) + z5).toNatClampNeg y16) (fun (u18 : Nat → Int32) => lt_ (z5 + (nI 1)) (fun (y19 : Int32) => f_L_draw_316 fu n1 xs  n z3 z4 y19 u18))))))))
def f_L_draw_300 (fu : Nat) (n1 : Nat) (xs : Nat → Int32) (z3 : Int32) (w1 : Int32) (w2 : Int32) (vh : (Nat → Int32)) : Option (Nat → Int32) :=
  gi_ w1 62 (lt_ (upd vh (w1).toNatClampNeg w2) (fun (u2 : Nat → Int32) => gi_ (nI 0) 62 (gd_ (¬ (u2 ((nI 0)).toNatClampNeg) = 0) (lt_ (((z3 >>> ((nI 2) &&& (31 : Int32))) &&& (nI 7)) - ((z3 >>> ((nI 2) &&& (31 : Int32))) &&& (nI 7)) / (u2 ((nI 0)).toNatClampNeg) * (u2 ((nI 0)).toNatClampNeg)) (fun (y5 : Int32) => f_L_draw_316 fu n1 xs  fu z3 y5 (nI 0) u2)))))
def f_L_draw_216 (fu : Nat) (n1 : Nat) (xs : Nat → Int32) (K181 : Int32 → Int32 → (Nat → Int32) → Option (Nat → Int32)) (z3 : Int32) (z4 : Int32) (w0 : Int32) (vh : (Nat → Int32)) : Option (Nat → Int32) :=
  lt_ ((nI 1) + ((w0 &&& (nI 15)) - (w0 &&& (nI 15)) / (nI 12) * (nI 12))) (fun (y1 : Int32) => gi_ ((nI 36) + z4) 62 (lt_ (upd vh ((nI 36) + z4).toNatClampNeg y1) (fun (u3 : Nat → Int32) => lt_ ((w0 >>> ((nI 3) &&& (31 : Int32))) &&& (nI 31)) (fun (y4 : Int32) => gi_ ((nI 42) + z4) 62 (lt_ (upd u3 ((nI 42) + z4).toNatClampNeg y4) (fun (u6 : Nat → Int32) => lt_ (((w0 >>> ((nI 4) &&& (31 : Int32))) &&& (nI 31)) - ((w0 >>> ((nI 4) &&& (31 : Int32))) &&& (nI 31)) / (nI 17) * (nI 17)) (fun (y7 : Int32) => gi_ ((nI 48) + z4) 62 (lt_ (upd u6 ((nI 48) + z4).toNatClampNeg y7) (fun (u9 : Nat → Int32) => lt_ (z4 + (nI 1)) (fun (y10 : Int32) => K181 z3 y10 u9))))))))))
def f_L_draw_181 (fu : Nat) (n1 : Nat) (xs : Nat → Int32) : Nat → Int32 → Int32 → (Nat → Int32) → Option (Nat → Int32)
  | 0 => fun _ _ _ => none
  | n + 1 => fun z3 z4 vh =>
    (if (nI 6) ≤ z4 then (if ((z3 >>> ((nI 7) &&& (31 : Int32))) &&& (nI 1)) = 0 then f_L_draw_300 fu n1 xs  z3 (nI 3) (nI 0) vh else gi_ (nI 0) 62 (gd_ (¬ (vh ((nI 0)).toNatClampNeg) = 0) (f_L_draw_300 fu n1 xs  z3 (nI 3) ((nI 1) + (((z3 >>> ((nI 8) &&& (31 : Int32))) &&& (nI 7)) - ((z3 >>> ((nI 8) &&& (31 : Int32))) &&& (nI 7)) / (vh ((nI 0)).toNatClampNeg) * (vh ((nI 0)).toNatClampNeg))) vh))) else (if (Int32.ofNat n1) ≤ (z4 + (nI 1)) then f_L_draw_216 fu n1 xs (f_L_draw_181 fu n1 xs  n) z3 z4 (((nI 883) * z4) + z3) vh else gi_ (z4 + (nI 1)) n1 (f_L_draw_216 fu n1 xs (f_L_draw_181 fu n1 xs  n) z3 z4 ((xs (z4 + (nI 1)).toNatClampNeg) >>> ((nI 1) &&& (31 : Int32))) vh)))
def f_L_draw_148 (fu : Nat) (n1 : Nat) (xs : Nat → Int32) (K49 : Int32 → Int32 → (Nat → Int32) → Option (Nat → Int32)) (z3 : Int32) (z4 : Int32) (z5 : Int32) (w1 : Int32) (w2 : Int32) (vh : (Nat → Int32)) : Option (Nat → Int32) :=
  gi_ w1 62 (lt_ (upd vh (w1).toNatClampNeg w2) (fun (u2 : Nat → Int32) => lt_ (((z5 >>> ((nI 3) &&& (31 : Int32))) &&& (nI 15)) &&& ((z5 >>> ((nI 6) &&& (31 : Int32))) &&& (nI 15))) (fun (y3 : Int32) => gi_ ((nI 28) + z4) 62 (lt_ (upd u2 ((nI 28) + z4).toNatClampNeg y3) (fun (u5 : Nat → Int32) => lt_ (z4 + (nI 1)) (fun (y6 : Int32) => K49 z3 y6 u5))))))
def f_L_draw_125 (fu : Nat) (n1 : Nat) (xs : Nat → Int32) (K49 : Int32 → Int32 → (Nat → Int32) → Option (Nat → Int32)) (z3 : Int32) (z4 : Int32) (z5 : Int32) (w1 : Int32) (w2 : Int32) (vh : (Nat → Int32)) : Option (Nat → Int32) :=
  gi_ w1 62 (lt_ (upd vh (w1).toNatClampNeg w2) (fun (u2 : Nat → Int32) => (if ((z5 >>> ((nI 7) &&& (31 : Int32))) &&& (nI 7)) = 0 then f_L_draw_148 fu n1 xs (K49) z3 z4 z5 ((nI 20) + z4) (nI 1) u2 else f_L_draw_148 fu n1 xs (K49) z3 z4 z5 ((nI 20) + z4) (nI 0) u2)))
def f_L_draw_88 (fu : Nat) (n1 : Nat) (xs : Nat → Int32) (K49 : Int32 → Int32 → (Nat → Int32) → Option (Nat → Int32)) (z3 : Int32) (z4 : Int32) (w0 : Int32) (vh : (Nat → Int32)) : Option (Nat → Int32) :=
  lt_ ((w0 &&& (nI 15)) - (w0 &&& (nI 15)) / (nI 11) * (nI 11)) (fun (y1 : Int32) => gi_ ((nI 4) + z4) 62 (lt_ (upd vh ((nI 4) + z4).toNatClampNeg y1) (fun (u3 : Nat → Int32) => (if ((w0 >>> ((nI 4) &&& (31 : Int32))) &&& (nI 7)) = 0 then f_L_draw_125 fu n1 xs (K49) z3 z4 w0 ((nI 12) + z4) (nI 1) u3 else f_L_draw_125 fu n1 xs (K49) z3 z4 w0 ((nI 12) + z4) (nI 0) u3))))
def f_L_draw_49 (fu : Nat) (n1 : Nat) (xs : Nat → Int32) : Nat → Int32 → Int32 → (Nat → Int32) → Option (Nat → Int32)
  | 0 => fun _ _ _ => none
  | n + 1 => fun z3 z4 vh =>
    (if (nI 8) ≤ z4 then f_L_draw_181 fu n1 xs  fu z3 (nI 0) vh else (if (Int32.ofNat n1) ≤ ((z4 - z4 / (nI 6) * (nI 6)) + (nI 1)) then f_L_draw_88 fu n1 xs (f_L_draw_49 fu n1 xs  n) z3 z4 (((nI 2017) * z4) + z3) vh else gi_ ((z4 - z4 / (nI 6) * (nI 6)) + (nI 1)) n1 (f_L_draw_88 fu n1 xs (f_L_draw_49 fu n1 xs  n) z3 z4 (xs ((z4 - z4 / (nI 6) * (nI 6)) + (nI 1)).toNatClampNeg) vh)))
def f_L_draw_14 (fu : Nat) (n1 : Nat) (xs : Nat → Int32) (z1 : Int32) (w0 : Int32) (vh : (Nat → Int32)) : Option (Nat → Int32) :=
  gd_ (¬ z1 = 0) (lt_ ((nI 1) + ((w0 &&& (nI 7)) - (w0 &&& (nI 7)) / z1 * z1)) (fun (y2 : Int32) => gi_ (nI 0) 62 (lt_ (upd vh ((nI 0)).toNatClampNeg y2) (fun (u4 : Nat → Int32) => lt_ ((nI 1) + ((w0 >>> ((nI 3) &&& (31 : Int32))) &&& (nI 3))) (fun (y5 : Int32) => gi_ (nI 1) 62 (lt_ (upd u4 ((nI 1)).toNatClampNeg y5) (fun (u7 : Nat → Int32) => lt_ ((nI 1) + ((w0 >>> ((nI 5) &&& (31 : Int32))) &&& (nI 3))) (fun (y8 : Int32) => gi_ (nI 2) 62 (lt_ (upd u7 ((nI 2)).toNatClampNeg y8) (fun (u10 : Nat → Int32) => f_L_draw_49 fu n1 xs  fu w0 (nI 0) u10))))))))))
def f_L_draw_0 (fu : Nat) (n1 : Nat) (xs : Nat → Int32) (z1 : Int32) (vh : (Nat → Int32)) : Option (Nat → Int32) :=
  (if (Int32.ofNat n1) = 0 then f_L_draw_14 fu n1 xs  z1 (nI 7919) vh else gi_ (nI 0) n1 (f_L_draw_14 fu n1 xs  z1 (xs ((nI 0)).toNatClampNeg) vh))
set_option maxHeartbeats 4000000 in
set_option maxRecDepth 100000 in
theorem w_L_draw_316 {p : Program} {l : Launch} {e : Env} {s : State} {m : MethodId} {below : List Frame} {meth : Method} {c : Code} {D : va_G} {T : Nat → ClassId} {args : Array Value} {A : Nat → Prop} {b ah : Nat} (X : mp_X p s m meth c args RL "draw" cL_draw 6 none) (hK : va_K D mp_cl (mp_ty T) s) (hbl : b < s.heap.size) (hbA : ¬ A b) (fu : Nat) (n1 : Nat) (xs : Nat → Int32) (hX : va_X b n1 xs s s.heap) (o_vh : Nat → Int32) :
    ∀ (n : Nat) (z3 : Int32) (z4 : Int32) (z5 : Int32) (vh : (Nat → Int32)), f_L_draw_316 fu n1 xs  n z3 z4 z5 vh = some o_vh → ∀ (H : Heap) (locs : List Loc) (ls : Array Slot), va_P D mp_cl [(ah, mp_aI T 62 vh)] H → va_D A [(ah, mp_aI T 62 vh)] → va_S A s.heap H locs → lv_has ls 6 [(2, .ref ah), (3, .int z3), (4, .int z4), (5, .int z5)] → W p l e ({ frames := 0, cells := 0, slots := 0, locals := 0 } : Room) s m args below meth c H locs 0 0 (MQ below (mp_Qv D [(ah, mp_aI T 62 o_vh)] A) args s 0 0 A) (F0 m 316 ls []) := by
  have hx := X.1
  have hb := X.2.1
  have hml := X.2.2.1
  have hown := X.2.2.2.2.1
  have hts := X.2.2.2.2.2.1
  intro n
  induction n with
  | zero => intro z3 z4 z5 vh hf; exact absurd hf (by intro h; cases h)
  | succ n ih =>
    intro z3 z4 z5 vh hf H locs ls hP hD hS hl
    replace hf : gi_ (nI 3) 62 ((if (vh ((nI 3)).toNatClampNeg) ≤ z5 then gi_ (nI 3) 62 ((if (vh ((nI 3)).toNatClampNeg) ≤ (nI 1) then some vh else (if ((z3 >>> ((nI 4) &&& (31 : Int32))) &&& (nI 1)) = (nI 1) then gi_ (nI 54) 62 (lt_ (vh ((nI 54)).toNatClampNeg) (fun (y7 : Int32) => gi_ (nI 55) 62 (lt_ (vh ((nI 55)).toNatClampNeg) (fun (y9 : Int32) => gi_ (nI 54) 62 (lt_ (upd vh ((nI 54)).toNatClampNeg y9) (fun (u11 : Nat → Int32) => gi_ (nI 55) 62 (lt_ (upd u11 ((nI 55)).toNatClampNeg y7) (fun (u13 : Nat → Int32) => some u13)))))))) else some vh))) else gi_ (nI 0) 62 (gd_ (¬ (vh ((nI 0)).toNatClampNeg) = 0) (lt_ ((z4 + z5) - (z4 + z5) / (vh ((nI 0)).toNatClampNeg) * (vh ((nI 0)).toNatClampNeg)) (fun (y16 : Int32) => gi_ ((nI 54) + z5) 62 (lt_ (upd vh ((nI 54) + z5).toNatClampNeg y16) (fun (u18 : Nat → Int32) => lt_ (z5 + (nI 1)) (fun (y19 : Int32) => f_L_draw_316 fu n1 xs  n z3 z4 y19 u18)))))))) = some o_vh := hf
    refine lv_iload hx hb dL_draw_316 (lv_at hl 3 rfl) ?_
    refine lv_aload_n hx hb dL_draw_318 rfl (lv_at hl 0 rfl) ?_
    refine lv_iconst (v := (nI 3)) hx hb dL_draw_319 (by decide) ?_
    obtain ⟨h1, hf⟩ := gi_of hf
    refine va_iald hx hb hK hP 0 0 rfl rfl h1 dL_draw_320 ?_
    refine lv_icmp_ge (tgt := 346) hx hb dL_draw_321 (by decide) (fun h2 => ?_) (fun h2 => ?_)
    · replace hf := if_t hf h2
      refine lv_aload_n hx hb dL_draw_346 rfl (lv_at hl 0 rfl) ?_
      refine lv_iconst (v := (nI 3)) hx hb dL_draw_347 (by decide) ?_
      obtain ⟨h3, hf⟩ := gi_of hf
      refine va_iald hx hb hK hP 0 0 rfl rfl h3 dL_draw_348 ?_
      refine lv_iconst (v := (nI 1)) hx hb dL_draw_349 (by decide) ?_
      refine lv_icmp_le (tgt := 382) hx hb dL_draw_350 (by decide) (fun h4 => ?_) (fun h4 => ?_)
      · replace hf := if_t hf h4
        cases hf
        exact mp_retv X hP hS dL_draw_382
      · replace hf := if_f hf h4
        refine lv_iload_n hx hb dL_draw_353 rfl (lv_at hl 1 rfl) ?_
        refine lv_iconst (v := (nI 4)) hx hb dL_draw_354 (by decide) ?_
        refine lv_ishr hx hb dL_draw_355 ?_
        refine lv_iconst (v := (nI 1)) hx hb dL_draw_356 (by decide) ?_
        refine lv_iand hx hb dL_draw_357 ?_
        refine lv_iconst (v := (nI 1)) hx hb dL_draw_358 (by decide) ?_
        refine lv_icmp_ne (tgt := 382) hx hb dL_draw_359 (by decide) (fun h5 => ?_) (fun h5 => ?_)
        · replace hf := if_f hf h5
          cases hf
          exact mp_retv X hP hS dL_draw_382
        · replace hf := if_t hf h5
          refine lv_aload_n hx hb dL_draw_362 rfl (lv_at hl 0 rfl) ?_
          refine lv_bipush (v := (nI 54)) hx hb dL_draw_363 (by decide) ?_
          obtain ⟨h6, hf⟩ := gi_of hf
          refine va_iald hx hb hK hP 0 0 rfl rfl h6 dL_draw_365 ?_
          refine lv_topi (fun y7 e7 => ?_)
          replace hf := lt_of e7 hf
          refine lv_istore (lv' := [(5, .int y7), (2, .ref ah), (3, .int z3), (4, .int z4)]) hx hb dL_draw_366 hl (by decide) rfl (fun ls hl => ?_)
          refine lv_aload_n hx hb dL_draw_368 rfl (lv_at hl 1 rfl) ?_
          refine lv_bipush (v := (nI 54)) hx hb dL_draw_369 (by decide) ?_
          refine lv_aload_n hx hb dL_draw_371 rfl (lv_at hl 1 rfl) ?_
          refine lv_bipush (v := (nI 55)) hx hb dL_draw_372 (by decide) ?_
          obtain ⟨h8, hf⟩ := gi_of hf
          refine va_iald hx hb hK hP 0 0 rfl rfl h8 dL_draw_374 ?_
          refine lv_topi (fun y9 e9 => ?_)
          replace hf := lt_of e9 hf
          obtain ⟨h10, hf⟩ := gi_of hf
          refine va_iast hx hb hK hP hD hS 0 0 rfl rfl h10 dL_draw_375 (fun H locs hP hD hS => ?_)
          replace hP : va_P D mp_cl [(ah, mp_aI T 62 (upd vh ((nI 54)).toNatClampNeg y9))] H := hP
          replace hD : va_D A [(ah, mp_aI T 62 (upd vh ((nI 54)).toNatClampNeg y9))] := hD
          obtain ⟨u11, q11⟩ : ∃ y : Nat → Int32, y = upd vh ((nI 54)).toNatClampNeg y9 := ⟨_, rfl⟩
          replace hf := lt_of q11 hf
          rw [← q11] at hP hD
          refine lv_aload_n hx hb dL_draw_376 rfl (lv_at hl 1 rfl) ?_
          refine lv_bipush (v := (nI 55)) hx hb dL_draw_377 (by decide) ?_
          refine lv_iload hx hb dL_draw_379 (lv_at hl 0 rfl) ?_
          obtain ⟨h12, hf⟩ := gi_of hf
          refine va_iast hx hb hK hP hD hS 0 0 rfl rfl h12 dL_draw_381 (fun H locs hP hD hS => ?_)
          replace hP : va_P D mp_cl [(ah, mp_aI T 62 (upd u11 ((nI 55)).toNatClampNeg y7))] H := hP
          replace hD : va_D A [(ah, mp_aI T 62 (upd u11 ((nI 55)).toNatClampNeg y7))] := hD
          obtain ⟨u13, q13⟩ : ∃ y : Nat → Int32, y = upd u11 ((nI 55)).toNatClampNeg y7 := ⟨_, rfl⟩
          replace hf := lt_of q13 hf
          rw [← q13] at hP hD
          cases hf
          exact mp_retv X hP hS dL_draw_382
    · replace hf := if_f hf h2
      refine lv_aload_n hx hb dL_draw_324 rfl (lv_at hl 0 rfl) ?_
      refine lv_bipush (v := (nI 54)) hx hb dL_draw_325 (by decide) ?_
      refine lv_iload hx hb dL_draw_327 (lv_at hl 3 rfl) ?_
      refine lv_iadd hx hb dL_draw_329 ?_
      refine lv_iload hx hb dL_draw_330 (lv_at hl 2 rfl) ?_
      refine lv_iload hx hb dL_draw_332 (lv_at hl 3 rfl) ?_
      refine lv_iadd hx hb dL_draw_334 ?_
      refine lv_aload_n hx hb dL_draw_335 rfl (lv_at hl 0 rfl) ?_
      refine lv_iconst (v := (nI 0)) hx hb dL_draw_336 (by decide) ?_
      obtain ⟨h14, hf⟩ := gi_of hf
      refine va_iald hx hb hK hP 0 0 rfl rfl h14 dL_draw_337 ?_
      obtain ⟨h15, hf⟩ := gd_of hf
      refine lv_irem hx hb dL_draw_338 h15 ?_
      refine lv_topi (fun y16 e16 => ?_)
      replace hf := lt_of e16 hf
      obtain ⟨h17, hf⟩ := gi_of hf
      refine va_iast hx hb hK hP hD hS 0 0 rfl rfl h17 dL_draw_339 (fun H locs hP hD hS => ?_)
      replace hP : va_P D mp_cl [(ah, mp_aI T 62 (upd vh ((nI 54) + z5).toNatClampNeg y16))] H := hP
      replace hD : va_D A [(ah, mp_aI T 62 (upd vh ((nI 54) + z5).toNatClampNeg y16))] := hD
      obtain ⟨u18, q18⟩ : ∃ y : Nat → Int32, y = upd vh ((nI 54) + z5).toNatClampNeg y16 := ⟨_, rfl⟩
      replace hf := lt_of q18 hf
      rw [← q18] at hP hD
      obtain ⟨y19, e19⟩ : ∃ y : Int32, y = z5 + (nI 1) := ⟨_, rfl⟩
      replace hf := lt_of e19 hf
      refine lv_iinc (v := y19) (lv' := [(5, .int y19), (2, .ref ah), (3, .int z3), (4, .int z4)]) hx hb dL_draw_340 hl (k := 3) rfl (by rw [e19]; rfl) (by decide) rfl (fun ls hl => ?_)
      refine lv_goto (tgt := 316) hx hb dL_draw_343 (by decide) ?_
      exact ih z3 z4 y19 u18 hf _ _ _  hP hD hS (lv_sub hl [1, 2, 3, 0] rfl)

set_option maxHeartbeats 4000000 in
set_option maxRecDepth 100000 in
theorem w_L_draw_300 {p : Program} {l : Launch} {e : Env} {s : State} {m : MethodId} {below : List Frame} {meth : Method} {c : Code} {D : va_G} {T : Nat → ClassId} {args : Array Value} {A : Nat → Prop} {b ah : Nat} (X : mp_X p s m meth c args RL "draw" cL_draw 6 none) (hK : va_K D mp_cl (mp_ty T) s) (hbl : b < s.heap.size) (hbA : ¬ A b) (fu : Nat) (n1 : Nat) (xs : Nat → Int32) (hX : va_X b n1 xs s s.heap) (o_vh : Nat → Int32) :
    ∀  (z3 : Int32) (w1 : Int32) (w2 : Int32) (vh : (Nat → Int32)), f_L_draw_300 fu n1 xs  z3 w1 w2 vh = some o_vh → ∀ (H : Heap) (locs : List Loc) (ls : Array Slot), va_P D mp_cl [(ah, mp_aI T 62 vh)] H → va_D A [(ah, mp_aI T 62 vh)] → va_S A s.heap H locs → lv_has ls 6 [(2, .ref ah), (3, .int z3)] → W p l e ({ frames := 0, cells := 0, slots := 0, locals := 0 } : Room) s m args below meth c H locs 0 0 (MQ below (mp_Qv D [(ah, mp_aI T 62 o_vh)] A) args s 0 0 A) (F0 m 300 ls [.int w2, .int w1, .ref ah]) := by
  have hx := X.1
  have hb := X.2.1
  have hml := X.2.2.1
  have hown := X.2.2.2.2.1
  have hts := X.2.2.2.2.2.1
  intro z3 w1 w2 vh hf H locs ls hP hD hS hl
  replace hf : gi_ w1 62 (lt_ (upd vh (w1).toNatClampNeg w2) (fun (u2 : Nat → Int32) => gi_ (nI 0) 62 (gd_ (¬ (u2 ((nI 0)).toNatClampNeg) = 0) (lt_ (((z3 >>> ((nI 2) &&& (31 : Int32))) &&& (nI 7)) - ((z3 >>> ((nI 2) &&& (31 : Int32))) &&& (nI 7)) / (u2 ((nI 0)).toNatClampNeg) * (u2 ((nI 0)).toNatClampNeg)) (fun (y5 : Int32) => f_L_draw_316 fu n1 xs  fu z3 y5 (nI 0) u2))))) = some o_vh := hf
  obtain ⟨h1, hf⟩ := gi_of hf
  refine va_iast hx hb hK hP hD hS 0 0 rfl rfl h1 dL_draw_300 (fun H locs hP hD hS => ?_)
  replace hP : va_P D mp_cl [(ah, mp_aI T 62 (upd vh (w1).toNatClampNeg w2))] H := hP
  replace hD : va_D A [(ah, mp_aI T 62 (upd vh (w1).toNatClampNeg w2))] := hD
  obtain ⟨u2, q2⟩ : ∃ y : Nat → Int32, y = upd vh (w1).toNatClampNeg w2 := ⟨_, rfl⟩
  replace hf := lt_of q2 hf
  rw [← q2] at hP hD
  refine lv_iload_n hx hb dL_draw_301 rfl (lv_at hl 1 rfl) ?_
  refine lv_iconst (v := (nI 2)) hx hb dL_draw_302 (by decide) ?_
  refine lv_ishr hx hb dL_draw_303 ?_
  refine lv_bipush (v := (nI 7)) hx hb dL_draw_304 (by decide) ?_
  refine lv_iand hx hb dL_draw_306 ?_
  refine lv_aload_n hx hb dL_draw_307 rfl (lv_at hl 0 rfl) ?_
  refine lv_iconst (v := (nI 0)) hx hb dL_draw_308 (by decide) ?_
  obtain ⟨h3, hf⟩ := gi_of hf
  refine va_iald hx hb hK hP 0 0 rfl rfl h3 dL_draw_309 ?_
  obtain ⟨h4, hf⟩ := gd_of hf
  refine lv_irem hx hb dL_draw_310 h4 ?_
  refine lv_topi (fun y5 e5 => ?_)
  replace hf := lt_of e5 hf
  refine lv_istore (lv' := [(4, .int y5), (2, .ref ah), (3, .int z3)]) hx hb dL_draw_311 hl (by decide) rfl (fun ls hl => ?_)
  refine lv_iconst (v := (nI 0)) hx hb dL_draw_313 (by decide) ?_
  refine lv_istore (lv' := [(5, .int (nI 0)), (4, .int y5), (2, .ref ah), (3, .int z3)]) hx hb dL_draw_314 hl (by decide) rfl (fun ls hl => ?_)
  exact w_L_draw_316 X hK hbl hbA fu n1 xs hX o_vh  fu z3 y5 (nI 0) u2 hf _ _ _  hP hD hS (lv_sub hl [2, 3, 1, 0] rfl)

set_option maxHeartbeats 4000000 in
set_option maxRecDepth 100000 in
theorem w_L_draw_216 {p : Program} {l : Launch} {e : Env} {s : State} {m : MethodId} {below : List Frame} {meth : Method} {c : Code} {D : va_G} {T : Nat → ClassId} {args : Array Value} {A : Nat → Prop} {b ah : Nat} (X : mp_X p s m meth c args RL "draw" cL_draw 6 none) (hK : va_K D mp_cl (mp_ty T) s) (hbl : b < s.heap.size) (hbA : ¬ A b) (fu : Nat) (n1 : Nat) (xs : Nat → Int32) (hX : va_X b n1 xs s s.heap) (o_vh : Nat → Int32) (K181 : Int32 → Int32 → (Nat → Int32) → Option (Nat → Int32)) (hK181 : ∀ (z3 : Int32) (z4 : Int32) (vh : (Nat → Int32)), K181 z3 z4 vh = some o_vh → ∀ (H : Heap) (locs : List Loc) (ls : Array Slot), va_P D mp_cl [(ah, mp_aI T 62 vh)] H → va_D A [(ah, mp_aI T 62 vh)] → va_S A s.heap H locs → lv_has ls 6 [(0, .ref b), (2, .ref ah), (3, .int z3), (4, .int z4)] → W p l e ({ frames := 0, cells := 0, slots := 0, locals := 0 } : Room) s m args below meth c H locs 0 0 (MQ below (mp_Qv D [(ah, mp_aI T 62 o_vh)] A) args s 0 0 A) (F0 m 181 ls [])) :
    ∀  (z3 : Int32) (z4 : Int32) (w0 : Int32) (vh : (Nat → Int32)), f_L_draw_216 fu n1 xs K181 z3 z4 w0 vh = some o_vh → ∀ (H : Heap) (locs : List Loc) (ls : Array Slot), va_P D mp_cl [(ah, mp_aI T 62 vh)] H → va_D A [(ah, mp_aI T 62 vh)] → va_S A s.heap H locs → lv_has ls 6 [(0, .ref b), (2, .ref ah), (3, .int z3), (4, .int z4)] → W p l e ({ frames := 0, cells := 0, slots := 0, locals := 0 } : Room) s m args below meth c H locs 0 0 (MQ below (mp_Qv D [(ah, mp_aI T 62 o_vh)] A) args s 0 0 A) (F0 m 216 ls [.int w0]) := by
  have hx := X.1
  have hb := X.2.1
  have hml := X.2.2.1
  have hown := X.2.2.2.2.1
  have hts := X.2.2.2.2.2.1
  intro z3 z4 w0 vh hf H locs ls hP hD hS hl
  replace hf : lt_ ((nI 1) + ((w0 &&& (nI 15)) - (w0 &&& (nI 15)) / (nI 12) * (nI 12))) (fun (y1 : Int32) => gi_ ((nI 36) + z4) 62 (lt_ (upd vh ((nI 36) + z4).toNatClampNeg y1) (fun (u3 : Nat → Int32) => lt_ ((w0 >>> ((nI 3) &&& (31 : Int32))) &&& (nI 31)) (fun (y4 : Int32) => gi_ ((nI 42) + z4) 62 (lt_ (upd u3 ((nI 42) + z4).toNatClampNeg y4) (fun (u6 : Nat → Int32) => lt_ (((w0 >>> ((nI 4) &&& (31 : Int32))) &&& (nI 31)) - ((w0 >>> ((nI 4) &&& (31 : Int32))) &&& (nI 31)) / (nI 17) * (nI 17)) (fun (y7 : Int32) => gi_ ((nI 48) + z4) 62 (lt_ (upd u6 ((nI 48) + z4).toNatClampNeg y7) (fun (u9 : Nat → Int32) => lt_ (z4 + (nI 1)) (fun (y10 : Int32) => K181 z3 y10 u9)))))))))) = some o_vh := hf
  refine lv_istore (lv' := [(5, .int w0), (0, .ref b), (2, .ref ah), (3, .int z3), (4, .int z4)]) hx hb dL_draw_216 hl (by decide) rfl (fun ls hl => ?_)
  refine lv_aload_n hx hb dL_draw_218 rfl (lv_at hl 2 rfl) ?_
  refine lv_bipush (v := (nI 36)) hx hb dL_draw_219 (by decide) ?_
  refine lv_iload hx hb dL_draw_221 (lv_at hl 4 rfl) ?_
  refine lv_iadd hx hb dL_draw_223 ?_
  refine lv_iconst (v := (nI 1)) hx hb dL_draw_224 (by decide) ?_
  refine lv_iload hx hb dL_draw_225 (lv_at hl 0 rfl) ?_
  refine lv_bipush (v := (nI 15)) hx hb dL_draw_227 (by decide) ?_
  refine lv_iand hx hb dL_draw_229 ?_
  refine lv_bipush (v := (nI 12)) hx hb dL_draw_230 (by decide) ?_
  refine lv_irem hx hb dL_draw_232 (by decide) ?_
  refine lv_iadd hx hb dL_draw_233 ?_
  refine lv_topi (fun y1 e1 => ?_)
  replace hf := lt_of e1 hf
  obtain ⟨h2, hf⟩ := gi_of hf
  refine va_iast hx hb hK hP hD hS 0 0 rfl rfl h2 dL_draw_234 (fun H locs hP hD hS => ?_)
  replace hP : va_P D mp_cl [(ah, mp_aI T 62 (upd vh ((nI 36) + z4).toNatClampNeg y1))] H := hP
  replace hD : va_D A [(ah, mp_aI T 62 (upd vh ((nI 36) + z4).toNatClampNeg y1))] := hD
  obtain ⟨u3, q3⟩ : ∃ y : Nat → Int32, y = upd vh ((nI 36) + z4).toNatClampNeg y1 := ⟨_, rfl⟩
  replace hf := lt_of q3 hf
  rw [← q3] at hP hD
  refine lv_aload_n hx hb dL_draw_235 rfl (lv_at hl 2 rfl) ?_
  refine lv_bipush (v := (nI 42)) hx hb dL_draw_236 (by decide) ?_
  refine lv_iload hx hb dL_draw_238 (lv_at hl 4 rfl) ?_
  refine lv_iadd hx hb dL_draw_240 ?_
  refine lv_iload hx hb dL_draw_241 (lv_at hl 0 rfl) ?_
  refine lv_iconst (v := (nI 3)) hx hb dL_draw_243 (by decide) ?_
  refine lv_ishr hx hb dL_draw_244 ?_
  refine lv_bipush (v := (nI 31)) hx hb dL_draw_245 (by decide) ?_
  refine lv_iand hx hb dL_draw_247 ?_
  refine lv_topi (fun y4 e4 => ?_)
  replace hf := lt_of e4 hf
  obtain ⟨h5, hf⟩ := gi_of hf
  refine va_iast hx hb hK hP hD hS 0 0 rfl rfl h5 dL_draw_248 (fun H locs hP hD hS => ?_)
  replace hP : va_P D mp_cl [(ah, mp_aI T 62 (upd u3 ((nI 42) + z4).toNatClampNeg y4))] H := hP
  replace hD : va_D A [(ah, mp_aI T 62 (upd u3 ((nI 42) + z4).toNatClampNeg y4))] := hD
  obtain ⟨u6, q6⟩ : ∃ y : Nat → Int32, y = upd u3 ((nI 42) + z4).toNatClampNeg y4 := ⟨_, rfl⟩
  replace hf := lt_of q6 hf
  rw [← q6] at hP hD
  refine lv_aload_n hx hb dL_draw_249 rfl (lv_at hl 2 rfl) ?_
  refine lv_bipush (v := (nI 48)) hx hb dL_draw_250 (by decide) ?_
  refine lv_iload hx hb dL_draw_252 (lv_at hl 4 rfl) ?_
  refine lv_iadd hx hb dL_draw_254 ?_
  refine lv_iload hx hb dL_draw_255 (lv_at hl 0 rfl) ?_
  refine lv_iconst (v := (nI 4)) hx hb dL_draw_257 (by decide) ?_
  refine lv_ishr hx hb dL_draw_258 ?_
  refine lv_bipush (v := (nI 31)) hx hb dL_draw_259 (by decide) ?_
  refine lv_iand hx hb dL_draw_261 ?_
  refine lv_bipush (v := (nI 17)) hx hb dL_draw_262 (by decide) ?_
  refine lv_irem hx hb dL_draw_264 (by decide) ?_
  refine lv_topi (fun y7 e7 => ?_)
  replace hf := lt_of e7 hf
  obtain ⟨h8, hf⟩ := gi_of hf
  refine va_iast hx hb hK hP hD hS 0 0 rfl rfl h8 dL_draw_265 (fun H locs hP hD hS => ?_)
  replace hP : va_P D mp_cl [(ah, mp_aI T 62 (upd u6 ((nI 48) + z4).toNatClampNeg y7))] H := hP
  replace hD : va_D A [(ah, mp_aI T 62 (upd u6 ((nI 48) + z4).toNatClampNeg y7))] := hD
  obtain ⟨u9, q9⟩ : ∃ y : Nat → Int32, y = upd u6 ((nI 48) + z4).toNatClampNeg y7 := ⟨_, rfl⟩
  replace hf := lt_of q9 hf
  rw [← q9] at hP hD
  obtain ⟨y10, e10⟩ : ∃ y : Int32, y = z4 + (nI 1) := ⟨_, rfl⟩
  replace hf := lt_of e10 hf
  refine lv_iinc (v := y10) (lv' := [(4, .int y10), (5, .int w0), (0, .ref b), (2, .ref ah), (3, .int z3)]) hx hb dL_draw_266 hl (k := 4) rfl (by rw [e10]; rfl) (by decide) rfl (fun ls hl => ?_)
  refine lv_goto (tgt := 181) hx hb dL_draw_269 (by decide) ?_
  exact hK181 z3 y10 u9 hf _ _ _  hP hD hS (lv_sub hl [2, 3, 4, 0] rfl)

set_option maxHeartbeats 4000000 in
set_option maxRecDepth 100000 in
theorem w_L_draw_181 {p : Program} {l : Launch} {e : Env} {s : State} {m : MethodId} {below : List Frame} {meth : Method} {c : Code} {D : va_G} {T : Nat → ClassId} {args : Array Value} {A : Nat → Prop} {b ah : Nat} (X : mp_X p s m meth c args RL "draw" cL_draw 6 none) (hK : va_K D mp_cl (mp_ty T) s) (hbl : b < s.heap.size) (hbA : ¬ A b) (fu : Nat) (n1 : Nat) (xs : Nat → Int32) (hX : va_X b n1 xs s s.heap) (o_vh : Nat → Int32) :
    ∀ (n : Nat) (z3 : Int32) (z4 : Int32) (vh : (Nat → Int32)), f_L_draw_181 fu n1 xs  n z3 z4 vh = some o_vh → ∀ (H : Heap) (locs : List Loc) (ls : Array Slot), va_P D mp_cl [(ah, mp_aI T 62 vh)] H → va_D A [(ah, mp_aI T 62 vh)] → va_S A s.heap H locs → lv_has ls 6 [(0, .ref b), (2, .ref ah), (3, .int z3), (4, .int z4)] → W p l e ({ frames := 0, cells := 0, slots := 0, locals := 0 } : Room) s m args below meth c H locs 0 0 (MQ below (mp_Qv D [(ah, mp_aI T 62 o_vh)] A) args s 0 0 A) (F0 m 181 ls []) := by
  have hx := X.1
  have hb := X.2.1
  have hml := X.2.2.1
  have hown := X.2.2.2.2.1
  have hts := X.2.2.2.2.2.1
  intro n
  induction n with
  | zero => intro z3 z4 vh hf; exact absurd hf (by intro h; cases h)
  | succ n ih =>
    intro z3 z4 vh hf H locs ls hP hD hS hl
    replace hf : (if (nI 6) ≤ z4 then (if ((z3 >>> ((nI 7) &&& (31 : Int32))) &&& (nI 1)) = 0 then f_L_draw_300 fu n1 xs  z3 (nI 3) (nI 0) vh else gi_ (nI 0) 62 (gd_ (¬ (vh ((nI 0)).toNatClampNeg) = 0) (f_L_draw_300 fu n1 xs  z3 (nI 3) ((nI 1) + (((z3 >>> ((nI 8) &&& (31 : Int32))) &&& (nI 7)) - ((z3 >>> ((nI 8) &&& (31 : Int32))) &&& (nI 7)) / (vh ((nI 0)).toNatClampNeg) * (vh ((nI 0)).toNatClampNeg))) vh))) else (if (Int32.ofNat n1) ≤ (z4 + (nI 1)) then f_L_draw_216 fu n1 xs (f_L_draw_181 fu n1 xs  n) z3 z4 (((nI 883) * z4) + z3) vh else gi_ (z4 + (nI 1)) n1 (f_L_draw_216 fu n1 xs (f_L_draw_181 fu n1 xs  n) z3 z4 ((xs (z4 + (nI 1)).toNatClampNeg) >>> ((nI 1) &&& (31 : Int32))) vh))) = some o_vh := hf
    refine lv_iload hx hb dL_draw_181 (lv_at hl 3 rfl) ?_
    refine lv_bipush (v := (nI 6)) hx hb dL_draw_183 (by decide) ?_
    refine lv_icmp_ge (tgt := 272) hx hb dL_draw_185 (by decide) (fun h1 => ?_) (fun h1 => ?_)
    · replace hf := if_t hf h1
      refine lv_aload_n hx hb dL_draw_272 rfl (lv_at hl 1 rfl) ?_
      refine lv_iconst (v := (nI 3)) hx hb dL_draw_273 (by decide) ?_
      refine lv_iload_n hx hb dL_draw_274 rfl (lv_at hl 2 rfl) ?_
      refine lv_bipush (v := (nI 7)) hx hb dL_draw_275 (by decide) ?_
      refine lv_ishr hx hb dL_draw_277 ?_
      refine lv_iconst (v := (nI 1)) hx hb dL_draw_278 (by decide) ?_
      refine lv_iand hx hb dL_draw_279 ?_
      refine lv_if_ne (tgt := 287) hx hb dL_draw_280 (by decide) (fun h2 => ?_) (fun h2 => ?_)
      · replace hf := if_f hf h2
        refine lv_iconst (v := (nI 1)) hx hb dL_draw_287 (by decide) ?_
        refine lv_iload_n hx hb dL_draw_288 rfl (lv_at hl 2 rfl) ?_
        refine lv_bipush (v := (nI 8)) hx hb dL_draw_289 (by decide) ?_
        refine lv_ishr hx hb dL_draw_291 ?_
        refine lv_bipush (v := (nI 7)) hx hb dL_draw_292 (by decide) ?_
        refine lv_iand hx hb dL_draw_294 ?_
        refine lv_aload_n hx hb dL_draw_295 rfl (lv_at hl 1 rfl) ?_
        refine lv_iconst (v := (nI 0)) hx hb dL_draw_296 (by decide) ?_
        obtain ⟨h3, hf⟩ := gi_of hf
        refine va_iald hx hb hK hP 0 0 rfl rfl h3 dL_draw_297 ?_
        obtain ⟨h4, hf⟩ := gd_of hf
        refine lv_irem hx hb dL_draw_298 h4 ?_
        refine lv_iadd hx hb dL_draw_299 ?_
        exact w_L_draw_300 X hK hbl hbA fu n1 xs hX o_vh  z3 (nI 3) ((nI 1) + (((z3 >>> ((nI 8) &&& (31 : Int32))) &&& (nI 7)) - ((z3 >>> ((nI 8) &&& (31 : Int32))) &&& (nI 7)) / (vh ((nI 0)).toNatClampNeg) * (vh ((nI 0)).toNatClampNeg))) vh hf _ _ _  hP hD hS (lv_sub hl [1, 2] rfl)
      · replace hf := if_t hf h2
        refine lv_iconst (v := (nI 0)) hx hb dL_draw_283 (by decide) ?_
        refine lv_goto (tgt := 300) hx hb dL_draw_284 (by decide) ?_
        exact w_L_draw_300 X hK hbl hbA fu n1 xs hX o_vh  z3 (nI 3) (nI 0) vh hf _ _ _  hP hD hS (lv_sub hl [1, 2] rfl)
    · replace hf := if_f hf h1
      refine lv_iload hx hb dL_draw_188 (lv_at hl 3 rfl) ?_
      refine lv_iconst (v := (nI 1)) hx hb dL_draw_190 (by decide) ?_
      refine lv_iadd hx hb dL_draw_191 ?_
      refine lv_aload_n hx hb dL_draw_192 rfl (lv_at hl 0 rfl) ?_
      refine va_slen hx hb hX hbl hbA hS dL_draw_193 ?_
      refine lv_icmp_ge (tgt := 208) hx hb dL_draw_194 (by decide) (fun h5 => ?_) (fun h5 => ?_)
      · replace hf := if_t hf h5
        refine lv_sipush (v := (nI 883)) hx hb dL_draw_208 (by decide) ?_
        refine lv_iload hx hb dL_draw_211 (lv_at hl 3 rfl) ?_
        refine lv_imul hx hb dL_draw_213 ?_
        refine lv_iload_n hx hb dL_draw_214 rfl (lv_at hl 2 rfl) ?_
        refine lv_iadd hx hb dL_draw_215 ?_
        exact w_L_draw_216 X hK hbl hbA fu n1 xs hX o_vh (f_L_draw_181 fu n1 xs  n) (ih) z3 z4 (((nI 883) * z4) + z3) vh hf _ _ _  hP hD hS (lv_sub hl [0, 1, 2, 3] rfl)
      · replace hf := if_f hf h5
        refine lv_aload_n hx hb dL_draw_197 rfl (lv_at hl 0 rfl) ?_
        refine lv_iload hx hb dL_draw_198 (lv_at hl 3 rfl) ?_
        refine lv_iconst (v := (nI 1)) hx hb dL_draw_200 (by decide) ?_
        refine lv_iadd hx hb dL_draw_201 ?_
        obtain ⟨h6, hf⟩ := gi_of hf
        refine va_sld hx hb hX hbl hbA hS h6 dL_draw_202 ?_
        refine lv_iconst (v := (nI 1)) hx hb dL_draw_203 (by decide) ?_
        refine lv_ishr hx hb dL_draw_204 ?_
        refine lv_goto (tgt := 216) hx hb dL_draw_205 (by decide) ?_
        exact w_L_draw_216 X hK hbl hbA fu n1 xs hX o_vh (f_L_draw_181 fu n1 xs  n) (ih) z3 z4 ((xs (z4 + (nI 1)).toNatClampNeg) >>> ((nI 1) &&& (31 : Int32))) vh hf _ _ _  hP hD hS (lv_sub hl [0, 1, 2, 3] rfl)

set_option maxHeartbeats 4000000 in
set_option maxRecDepth 100000 in
theorem w_L_draw_148 {p : Program} {l : Launch} {e : Env} {s : State} {m : MethodId} {below : List Frame} {meth : Method} {c : Code} {D : va_G} {T : Nat → ClassId} {args : Array Value} {A : Nat → Prop} {b ah : Nat} (X : mp_X p s m meth c args RL "draw" cL_draw 6 none) (hK : va_K D mp_cl (mp_ty T) s) (hbl : b < s.heap.size) (hbA : ¬ A b) (fu : Nat) (n1 : Nat) (xs : Nat → Int32) (hX : va_X b n1 xs s s.heap) (o_vh : Nat → Int32) (K49 : Int32 → Int32 → (Nat → Int32) → Option (Nat → Int32)) (hK49 : ∀ (z3 : Int32) (z4 : Int32) (vh : (Nat → Int32)), K49 z3 z4 vh = some o_vh → ∀ (H : Heap) (locs : List Loc) (ls : Array Slot), va_P D mp_cl [(ah, mp_aI T 62 vh)] H → va_D A [(ah, mp_aI T 62 vh)] → va_S A s.heap H locs → lv_has ls 6 [(0, .ref b), (2, .ref ah), (3, .int z3), (4, .int z4)] → W p l e ({ frames := 0, cells := 0, slots := 0, locals := 0 } : Room) s m args below meth c H locs 0 0 (MQ below (mp_Qv D [(ah, mp_aI T 62 o_vh)] A) args s 0 0 A) (F0 m 49 ls [])) :
    ∀  (z3 : Int32) (z4 : Int32) (z5 : Int32) (w1 : Int32) (w2 : Int32) (vh : (Nat → Int32)), f_L_draw_148 fu n1 xs K49 z3 z4 z5 w1 w2 vh = some o_vh → ∀ (H : Heap) (locs : List Loc) (ls : Array Slot), va_P D mp_cl [(ah, mp_aI T 62 vh)] H → va_D A [(ah, mp_aI T 62 vh)] → va_S A s.heap H locs → lv_has ls 6 [(0, .ref b), (2, .ref ah), (3, .int z3), (4, .int z4), (5, .int z5)] → W p l e ({ frames := 0, cells := 0, slots := 0, locals := 0 } : Room) s m args below meth c H locs 0 0 (MQ below (mp_Qv D [(ah, mp_aI T 62 o_vh)] A) args s 0 0 A) (F0 m 148 ls [.int w2, .int w1, .ref ah]) := by
  have hx := X.1
  have hb := X.2.1
  have hml := X.2.2.1
  have hown := X.2.2.2.2.1
  have hts := X.2.2.2.2.2.1
  intro z3 z4 z5 w1 w2 vh hf H locs ls hP hD hS hl
  replace hf : gi_ w1 62 (lt_ (upd vh (w1).toNatClampNeg w2) (fun (u2 : Nat → Int32) => lt_ (((z5 >>> ((nI 3) &&& (31 : Int32))) &&& (nI 15)) &&& ((z5 >>> ((nI 6) &&& (31 : Int32))) &&& (nI 15))) (fun (y3 : Int32) => gi_ ((nI 28) + z4) 62 (lt_ (upd u2 ((nI 28) + z4).toNatClampNeg y3) (fun (u5 : Nat → Int32) => lt_ (z4 + (nI 1)) (fun (y6 : Int32) => K49 z3 y6 u5)))))) = some o_vh := hf
  obtain ⟨h1, hf⟩ := gi_of hf
  refine va_iast hx hb hK hP hD hS 0 0 rfl rfl h1 dL_draw_148 (fun H locs hP hD hS => ?_)
  replace hP : va_P D mp_cl [(ah, mp_aI T 62 (upd vh (w1).toNatClampNeg w2))] H := hP
  replace hD : va_D A [(ah, mp_aI T 62 (upd vh (w1).toNatClampNeg w2))] := hD
  obtain ⟨u2, q2⟩ : ∃ y : Nat → Int32, y = upd vh (w1).toNatClampNeg w2 := ⟨_, rfl⟩
  replace hf := lt_of q2 hf
  rw [← q2] at hP hD
  refine lv_aload_n hx hb dL_draw_149 rfl (lv_at hl 1 rfl) ?_
  refine lv_bipush (v := (nI 28)) hx hb dL_draw_150 (by decide) ?_
  refine lv_iload hx hb dL_draw_152 (lv_at hl 3 rfl) ?_
  refine lv_iadd hx hb dL_draw_154 ?_
  refine lv_iload hx hb dL_draw_155 (lv_at hl 4 rfl) ?_
  refine lv_iconst (v := (nI 3)) hx hb dL_draw_157 (by decide) ?_
  refine lv_ishr hx hb dL_draw_158 ?_
  refine lv_bipush (v := (nI 15)) hx hb dL_draw_159 (by decide) ?_
  refine lv_iand hx hb dL_draw_161 ?_
  refine lv_iload hx hb dL_draw_162 (lv_at hl 4 rfl) ?_
  refine lv_bipush (v := (nI 6)) hx hb dL_draw_164 (by decide) ?_
  refine lv_ishr hx hb dL_draw_166 ?_
  refine lv_bipush (v := (nI 15)) hx hb dL_draw_167 (by decide) ?_
  refine lv_iand hx hb dL_draw_169 ?_
  refine lv_iand hx hb dL_draw_170 ?_
  refine lv_topi (fun y3 e3 => ?_)
  replace hf := lt_of e3 hf
  obtain ⟨h4, hf⟩ := gi_of hf
  refine va_iast hx hb hK hP hD hS 0 0 rfl rfl h4 dL_draw_171 (fun H locs hP hD hS => ?_)
  replace hP : va_P D mp_cl [(ah, mp_aI T 62 (upd u2 ((nI 28) + z4).toNatClampNeg y3))] H := hP
  replace hD : va_D A [(ah, mp_aI T 62 (upd u2 ((nI 28) + z4).toNatClampNeg y3))] := hD
  obtain ⟨u5, q5⟩ : ∃ y : Nat → Int32, y = upd u2 ((nI 28) + z4).toNatClampNeg y3 := ⟨_, rfl⟩
  replace hf := lt_of q5 hf
  rw [← q5] at hP hD
  obtain ⟨y6, e6⟩ : ∃ y : Int32, y = z4 + (nI 1) := ⟨_, rfl⟩
  replace hf := lt_of e6 hf
  refine lv_iinc (v := y6) (lv' := [(4, .int y6), (0, .ref b), (2, .ref ah), (3, .int z3), (5, .int z5)]) hx hb dL_draw_172 hl (k := 3) rfl (by rw [e6]; rfl) (by decide) rfl (fun ls hl => ?_)
  refine lv_goto (tgt := 49) hx hb dL_draw_175 (by decide) ?_
  exact hK49 z3 y6 u5 hf _ _ _  hP hD hS (lv_sub hl [1, 2, 3, 0] rfl)

set_option maxHeartbeats 4000000 in
set_option maxRecDepth 100000 in
theorem w_L_draw_125 {p : Program} {l : Launch} {e : Env} {s : State} {m : MethodId} {below : List Frame} {meth : Method} {c : Code} {D : va_G} {T : Nat → ClassId} {args : Array Value} {A : Nat → Prop} {b ah : Nat} (X : mp_X p s m meth c args RL "draw" cL_draw 6 none) (hK : va_K D mp_cl (mp_ty T) s) (hbl : b < s.heap.size) (hbA : ¬ A b) (fu : Nat) (n1 : Nat) (xs : Nat → Int32) (hX : va_X b n1 xs s s.heap) (o_vh : Nat → Int32) (K49 : Int32 → Int32 → (Nat → Int32) → Option (Nat → Int32)) (hK49 : ∀ (z3 : Int32) (z4 : Int32) (vh : (Nat → Int32)), K49 z3 z4 vh = some o_vh → ∀ (H : Heap) (locs : List Loc) (ls : Array Slot), va_P D mp_cl [(ah, mp_aI T 62 vh)] H → va_D A [(ah, mp_aI T 62 vh)] → va_S A s.heap H locs → lv_has ls 6 [(0, .ref b), (2, .ref ah), (3, .int z3), (4, .int z4)] → W p l e ({ frames := 0, cells := 0, slots := 0, locals := 0 } : Room) s m args below meth c H locs 0 0 (MQ below (mp_Qv D [(ah, mp_aI T 62 o_vh)] A) args s 0 0 A) (F0 m 49 ls [])) :
    ∀  (z3 : Int32) (z4 : Int32) (z5 : Int32) (w1 : Int32) (w2 : Int32) (vh : (Nat → Int32)), f_L_draw_125 fu n1 xs K49 z3 z4 z5 w1 w2 vh = some o_vh → ∀ (H : Heap) (locs : List Loc) (ls : Array Slot), va_P D mp_cl [(ah, mp_aI T 62 vh)] H → va_D A [(ah, mp_aI T 62 vh)] → va_S A s.heap H locs → lv_has ls 6 [(0, .ref b), (2, .ref ah), (3, .int z3), (4, .int z4), (5, .int z5)] → W p l e ({ frames := 0, cells := 0, slots := 0, locals := 0 } : Room) s m args below meth c H locs 0 0 (MQ below (mp_Qv D [(ah, mp_aI T 62 o_vh)] A) args s 0 0 A) (F0 m 125 ls [.int w2, .int w1, .ref ah]) := by
  have hx := X.1
  have hb := X.2.1
  have hml := X.2.2.1
  have hown := X.2.2.2.2.1
  have hts := X.2.2.2.2.2.1
  intro z3 z4 z5 w1 w2 vh hf H locs ls hP hD hS hl
  replace hf : gi_ w1 62 (lt_ (upd vh (w1).toNatClampNeg w2) (fun (u2 : Nat → Int32) => (if ((z5 >>> ((nI 7) &&& (31 : Int32))) &&& (nI 7)) = 0 then f_L_draw_148 fu n1 xs (K49) z3 z4 z5 ((nI 20) + z4) (nI 1) u2 else f_L_draw_148 fu n1 xs (K49) z3 z4 z5 ((nI 20) + z4) (nI 0) u2))) = some o_vh := hf
  obtain ⟨h1, hf⟩ := gi_of hf
  refine va_iast hx hb hK hP hD hS 0 0 rfl rfl h1 dL_draw_125 (fun H locs hP hD hS => ?_)
  replace hP : va_P D mp_cl [(ah, mp_aI T 62 (upd vh (w1).toNatClampNeg w2))] H := hP
  replace hD : va_D A [(ah, mp_aI T 62 (upd vh (w1).toNatClampNeg w2))] := hD
  obtain ⟨u2, q2⟩ : ∃ y : Nat → Int32, y = upd vh (w1).toNatClampNeg w2 := ⟨_, rfl⟩
  replace hf := lt_of q2 hf
  rw [← q2] at hP hD
  refine lv_aload_n hx hb dL_draw_126 rfl (lv_at hl 1 rfl) ?_
  refine lv_bipush (v := (nI 20)) hx hb dL_draw_127 (by decide) ?_
  refine lv_iload hx hb dL_draw_129 (lv_at hl 3 rfl) ?_
  refine lv_iadd hx hb dL_draw_131 ?_
  refine lv_iload hx hb dL_draw_132 (lv_at hl 4 rfl) ?_
  refine lv_bipush (v := (nI 7)) hx hb dL_draw_134 (by decide) ?_
  refine lv_ishr hx hb dL_draw_136 ?_
  refine lv_bipush (v := (nI 7)) hx hb dL_draw_137 (by decide) ?_
  refine lv_iand hx hb dL_draw_139 ?_
  refine lv_if_ne (tgt := 147) hx hb dL_draw_140 (by decide) (fun h3 => ?_) (fun h3 => ?_)
  · replace hf := if_f hf h3
    refine lv_iconst (v := (nI 0)) hx hb dL_draw_147 (by decide) ?_
    exact w_L_draw_148 X hK hbl hbA fu n1 xs hX o_vh (K49) (hK49) z3 z4 z5 ((nI 20) + z4) (nI 0) u2 hf _ _ _  hP hD hS (lv_sub hl [0, 1, 2, 3, 4] rfl)
  · replace hf := if_t hf h3
    refine lv_iconst (v := (nI 1)) hx hb dL_draw_143 (by decide) ?_
    refine lv_goto (tgt := 148) hx hb dL_draw_144 (by decide) ?_
    exact w_L_draw_148 X hK hbl hbA fu n1 xs hX o_vh (K49) (hK49) z3 z4 z5 ((nI 20) + z4) (nI 1) u2 hf _ _ _  hP hD hS (lv_sub hl [0, 1, 2, 3, 4] rfl)

set_option maxHeartbeats 4000000 in
set_option maxRecDepth 100000 in
theorem w_L_draw_88 {p : Program} {l : Launch} {e : Env} {s : State} {m : MethodId} {below : List Frame} {meth : Method} {c : Code} {D : va_G} {T : Nat → ClassId} {args : Array Value} {A : Nat → Prop} {b ah : Nat} (X : mp_X p s m meth c args RL "draw" cL_draw 6 none) (hK : va_K D mp_cl (mp_ty T) s) (hbl : b < s.heap.size) (hbA : ¬ A b) (fu : Nat) (n1 : Nat) (xs : Nat → Int32) (hX : va_X b n1 xs s s.heap) (o_vh : Nat → Int32) (K49 : Int32 → Int32 → (Nat → Int32) → Option (Nat → Int32)) (hK49 : ∀ (z3 : Int32) (z4 : Int32) (vh : (Nat → Int32)), K49 z3 z4 vh = some o_vh → ∀ (H : Heap) (locs : List Loc) (ls : Array Slot), va_P D mp_cl [(ah, mp_aI T 62 vh)] H → va_D A [(ah, mp_aI T 62 vh)] → va_S A s.heap H locs → lv_has ls 6 [(0, .ref b), (2, .ref ah), (3, .int z3), (4, .int z4)] → W p l e ({ frames := 0, cells := 0, slots := 0, locals := 0 } : Room) s m args below meth c H locs 0 0 (MQ below (mp_Qv D [(ah, mp_aI T 62 o_vh)] A) args s 0 0 A) (F0 m 49 ls [])) :
    ∀  (z3 : Int32) (z4 : Int32) (w0 : Int32) (vh : (Nat → Int32)), f_L_draw_88 fu n1 xs K49 z3 z4 w0 vh = some o_vh → ∀ (H : Heap) (locs : List Loc) (ls : Array Slot), va_P D mp_cl [(ah, mp_aI T 62 vh)] H → va_D A [(ah, mp_aI T 62 vh)] → va_S A s.heap H locs → lv_has ls 6 [(0, .ref b), (2, .ref ah), (3, .int z3), (4, .int z4)] → W p l e ({ frames := 0, cells := 0, slots := 0, locals := 0 } : Room) s m args below meth c H locs 0 0 (MQ below (mp_Qv D [(ah, mp_aI T 62 o_vh)] A) args s 0 0 A) (F0 m 88 ls [.int w0]) := by
  have hx := X.1
  have hb := X.2.1
  have hml := X.2.2.1
  have hown := X.2.2.2.2.1
  have hts := X.2.2.2.2.2.1
  intro z3 z4 w0 vh hf H locs ls hP hD hS hl
  replace hf : lt_ ((w0 &&& (nI 15)) - (w0 &&& (nI 15)) / (nI 11) * (nI 11)) (fun (y1 : Int32) => gi_ ((nI 4) + z4) 62 (lt_ (upd vh ((nI 4) + z4).toNatClampNeg y1) (fun (u3 : Nat → Int32) => (if ((w0 >>> ((nI 4) &&& (31 : Int32))) &&& (nI 7)) = 0 then f_L_draw_125 fu n1 xs (K49) z3 z4 w0 ((nI 12) + z4) (nI 1) u3 else f_L_draw_125 fu n1 xs (K49) z3 z4 w0 ((nI 12) + z4) (nI 0) u3)))) = some o_vh := hf
  refine lv_istore (lv' := [(5, .int w0), (0, .ref b), (2, .ref ah), (3, .int z3), (4, .int z4)]) hx hb dL_draw_88 hl (by decide) rfl (fun ls hl => ?_)
  refine lv_aload_n hx hb dL_draw_90 rfl (lv_at hl 2 rfl) ?_
  refine lv_iconst (v := (nI 4)) hx hb dL_draw_91 (by decide) ?_
  refine lv_iload hx hb dL_draw_92 (lv_at hl 4 rfl) ?_
  refine lv_iadd hx hb dL_draw_94 ?_
  refine lv_iload hx hb dL_draw_95 (lv_at hl 0 rfl) ?_
  refine lv_bipush (v := (nI 15)) hx hb dL_draw_97 (by decide) ?_
  refine lv_iand hx hb dL_draw_99 ?_
  refine lv_bipush (v := (nI 11)) hx hb dL_draw_100 (by decide) ?_
  refine lv_irem hx hb dL_draw_102 (by decide) ?_
  refine lv_topi (fun y1 e1 => ?_)
  replace hf := lt_of e1 hf
  obtain ⟨h2, hf⟩ := gi_of hf
  refine va_iast hx hb hK hP hD hS 0 0 rfl rfl h2 dL_draw_103 (fun H locs hP hD hS => ?_)
  replace hP : va_P D mp_cl [(ah, mp_aI T 62 (upd vh ((nI 4) + z4).toNatClampNeg y1))] H := hP
  replace hD : va_D A [(ah, mp_aI T 62 (upd vh ((nI 4) + z4).toNatClampNeg y1))] := hD
  obtain ⟨u3, q3⟩ : ∃ y : Nat → Int32, y = upd vh ((nI 4) + z4).toNatClampNeg y1 := ⟨_, rfl⟩
  replace hf := lt_of q3 hf
  rw [← q3] at hP hD
  refine lv_aload_n hx hb dL_draw_104 rfl (lv_at hl 2 rfl) ?_
  refine lv_bipush (v := (nI 12)) hx hb dL_draw_105 (by decide) ?_
  refine lv_iload hx hb dL_draw_107 (lv_at hl 4 rfl) ?_
  refine lv_iadd hx hb dL_draw_109 ?_
  refine lv_iload hx hb dL_draw_110 (lv_at hl 0 rfl) ?_
  refine lv_iconst (v := (nI 4)) hx hb dL_draw_112 (by decide) ?_
  refine lv_ishr hx hb dL_draw_113 ?_
  refine lv_bipush (v := (nI 7)) hx hb dL_draw_114 (by decide) ?_
  refine lv_iand hx hb dL_draw_116 ?_
  refine lv_if_ne (tgt := 124) hx hb dL_draw_117 (by decide) (fun h4 => ?_) (fun h4 => ?_)
  · replace hf := if_f hf h4
    refine lv_iconst (v := (nI 0)) hx hb dL_draw_124 (by decide) ?_
    exact w_L_draw_125 X hK hbl hbA fu n1 xs hX o_vh (K49) (hK49) z3 z4 w0 ((nI 12) + z4) (nI 0) u3 hf _ _ _  hP hD hS (lv_sub hl [1, 2, 3, 4, 0] rfl)
  · replace hf := if_t hf h4
    refine lv_iconst (v := (nI 1)) hx hb dL_draw_120 (by decide) ?_
    refine lv_goto (tgt := 125) hx hb dL_draw_121 (by decide) ?_
    exact w_L_draw_125 X hK hbl hbA fu n1 xs hX o_vh (K49) (hK49) z3 z4 w0 ((nI 12) + z4) (nI 1) u3 hf _ _ _  hP hD hS (lv_sub hl [1, 2, 3, 4, 0] rfl)

set_option maxHeartbeats 4000000 in
set_option maxRecDepth 100000 in
theorem w_L_draw_49 {p : Program} {l : Launch} {e : Env} {s : State} {m : MethodId} {below : List Frame} {meth : Method} {c : Code} {D : va_G} {T : Nat → ClassId} {args : Array Value} {A : Nat → Prop} {b ah : Nat} (X : mp_X p s m meth c args RL "draw" cL_draw 6 none) (hK : va_K D mp_cl (mp_ty T) s) (hbl : b < s.heap.size) (hbA : ¬ A b) (fu : Nat) (n1 : Nat) (xs : Nat → Int32) (hX : va_X b n1 xs s s.heap) (o_vh : Nat → Int32) :
    ∀ (n : Nat) (z3 : Int32) (z4 : Int32) (vh : (Nat → Int32)), f_L_draw_49 fu n1 xs  n z3 z4 vh = some o_vh → ∀ (H : Heap) (locs : List Loc) (ls : Array Slot), va_P D mp_cl [(ah, mp_aI T 62 vh)] H → va_D A [(ah, mp_aI T 62 vh)] → va_S A s.heap H locs → lv_has ls 6 [(0, .ref b), (2, .ref ah), (3, .int z3), (4, .int z4)] → W p l e ({ frames := 0, cells := 0, slots := 0, locals := 0 } : Room) s m args below meth c H locs 0 0 (MQ below (mp_Qv D [(ah, mp_aI T 62 o_vh)] A) args s 0 0 A) (F0 m 49 ls []) := by
  have hx := X.1
  have hb := X.2.1
  have hml := X.2.2.1
  have hown := X.2.2.2.2.1
  have hts := X.2.2.2.2.2.1
  intro n
  induction n with
  | zero => intro z3 z4 vh hf; exact absurd hf (by intro h; cases h)
  | succ n ih =>
    intro z3 z4 vh hf H locs ls hP hD hS hl
    replace hf : (if (nI 8) ≤ z4 then f_L_draw_181 fu n1 xs  fu z3 (nI 0) vh else (if (Int32.ofNat n1) ≤ ((z4 - z4 / (nI 6) * (nI 6)) + (nI 1)) then f_L_draw_88 fu n1 xs (f_L_draw_49 fu n1 xs  n) z3 z4 (((nI 2017) * z4) + z3) vh else gi_ ((z4 - z4 / (nI 6) * (nI 6)) + (nI 1)) n1 (f_L_draw_88 fu n1 xs (f_L_draw_49 fu n1 xs  n) z3 z4 (xs ((z4 - z4 / (nI 6) * (nI 6)) + (nI 1)).toNatClampNeg) vh))) = some o_vh := hf
    refine lv_iload hx hb dL_draw_49 (lv_at hl 3 rfl) ?_
    refine lv_bipush (v := (nI 8)) hx hb dL_draw_51 (by decide) ?_
    refine lv_icmp_ge (tgt := 178) hx hb dL_draw_53 (by decide) (fun h1 => ?_) (fun h1 => ?_)
    · replace hf := if_t hf h1
      refine lv_iconst (v := (nI 0)) hx hb dL_draw_178 (by decide) ?_
      refine lv_istore (lv' := [(4, .int (nI 0)), (0, .ref b), (2, .ref ah), (3, .int z3)]) hx hb dL_draw_179 hl (by decide) rfl (fun ls hl => ?_)
      exact w_L_draw_181 X hK hbl hbA fu n1 xs hX o_vh  fu z3 (nI 0) vh hf _ _ _  hP hD hS (lv_sub hl [1, 2, 3, 0] rfl)
    · replace hf := if_f hf h1
      refine lv_iload hx hb dL_draw_56 (lv_at hl 3 rfl) ?_
      refine lv_bipush (v := (nI 6)) hx hb dL_draw_58 (by decide) ?_
      refine lv_irem hx hb dL_draw_60 (by decide) ?_
      refine lv_iconst (v := (nI 1)) hx hb dL_draw_61 (by decide) ?_
      refine lv_iadd hx hb dL_draw_62 ?_
      refine lv_aload_n hx hb dL_draw_63 rfl (lv_at hl 0 rfl) ?_
      refine va_slen hx hb hX hbl hbA hS dL_draw_64 ?_
      refine lv_icmp_ge (tgt := 80) hx hb dL_draw_65 (by decide) (fun h2 => ?_) (fun h2 => ?_)
      · replace hf := if_t hf h2
        refine lv_sipush (v := (nI 2017)) hx hb dL_draw_80 (by decide) ?_
        refine lv_iload hx hb dL_draw_83 (lv_at hl 3 rfl) ?_
        refine lv_imul hx hb dL_draw_85 ?_
        refine lv_iload_n hx hb dL_draw_86 rfl (lv_at hl 2 rfl) ?_
        refine lv_iadd hx hb dL_draw_87 ?_
        exact w_L_draw_88 X hK hbl hbA fu n1 xs hX o_vh (f_L_draw_49 fu n1 xs  n) (ih) z3 z4 (((nI 2017) * z4) + z3) vh hf _ _ _  hP hD hS (lv_sub hl [0, 1, 2, 3] rfl)
      · replace hf := if_f hf h2
        refine lv_aload_n hx hb dL_draw_68 rfl (lv_at hl 0 rfl) ?_
        refine lv_iload hx hb dL_draw_69 (lv_at hl 3 rfl) ?_
        refine lv_bipush (v := (nI 6)) hx hb dL_draw_71 (by decide) ?_
        refine lv_irem hx hb dL_draw_73 (by decide) ?_
        refine lv_iconst (v := (nI 1)) hx hb dL_draw_74 (by decide) ?_
        refine lv_iadd hx hb dL_draw_75 ?_
        obtain ⟨h3, hf⟩ := gi_of hf
        refine va_sld hx hb hX hbl hbA hS h3 dL_draw_76 ?_
        refine lv_goto (tgt := 88) hx hb dL_draw_77 (by decide) ?_
        exact w_L_draw_88 X hK hbl hbA fu n1 xs hX o_vh (f_L_draw_49 fu n1 xs  n) (ih) z3 z4 (xs ((z4 - z4 / (nI 6) * (nI 6)) + (nI 1)).toNatClampNeg) vh hf _ _ _  hP hD hS (lv_sub hl [0, 1, 2, 3] rfl)

set_option maxHeartbeats 4000000 in
set_option maxRecDepth 100000 in
theorem w_L_draw_14 {p : Program} {l : Launch} {e : Env} {s : State} {m : MethodId} {below : List Frame} {meth : Method} {c : Code} {D : va_G} {T : Nat → ClassId} {args : Array Value} {A : Nat → Prop} {b ah : Nat} (X : mp_X p s m meth c args RL "draw" cL_draw 6 none) (hK : va_K D mp_cl (mp_ty T) s) (hbl : b < s.heap.size) (hbA : ¬ A b) (fu : Nat) (n1 : Nat) (xs : Nat → Int32) (hX : va_X b n1 xs s s.heap) (o_vh : Nat → Int32) :
    ∀  (z1 : Int32) (w0 : Int32) (vh : (Nat → Int32)), f_L_draw_14 fu n1 xs  z1 w0 vh = some o_vh → ∀ (H : Heap) (locs : List Loc) (ls : Array Slot), va_P D mp_cl [(ah, mp_aI T 62 vh)] H → va_D A [(ah, mp_aI T 62 vh)] → va_S A s.heap H locs → lv_has ls 6 [(0, .ref b), (1, .int z1), (2, .ref ah)] → W p l e ({ frames := 0, cells := 0, slots := 0, locals := 0 } : Room) s m args below meth c H locs 0 0 (MQ below (mp_Qv D [(ah, mp_aI T 62 o_vh)] A) args s 0 0 A) (F0 m 14 ls [.int w0]) := by
  have hx := X.1
  have hb := X.2.1
  have hml := X.2.2.1
  have hown := X.2.2.2.2.1
  have hts := X.2.2.2.2.2.1
  intro z1 w0 vh hf H locs ls hP hD hS hl
  replace hf : gd_ (¬ z1 = 0) (lt_ ((nI 1) + ((w0 &&& (nI 7)) - (w0 &&& (nI 7)) / z1 * z1)) (fun (y2 : Int32) => gi_ (nI 0) 62 (lt_ (upd vh ((nI 0)).toNatClampNeg y2) (fun (u4 : Nat → Int32) => lt_ ((nI 1) + ((w0 >>> ((nI 3) &&& (31 : Int32))) &&& (nI 3))) (fun (y5 : Int32) => gi_ (nI 1) 62 (lt_ (upd u4 ((nI 1)).toNatClampNeg y5) (fun (u7 : Nat → Int32) => lt_ ((nI 1) + ((w0 >>> ((nI 5) &&& (31 : Int32))) &&& (nI 3))) (fun (y8 : Int32) => gi_ (nI 2) 62 (lt_ (upd u7 ((nI 2)).toNatClampNeg y8) (fun (u10 : Nat → Int32) => f_L_draw_49 fu n1 xs  fu w0 (nI 0) u10)))))))))) = some o_vh := hf
  refine lv_istore_n (lv' := [(3, .int w0), (0, .ref b), (1, .int z1), (2, .ref ah)]) hx hb dL_draw_14 rfl hl (by decide) rfl (fun ls hl => ?_)
  refine lv_aload_n hx hb dL_draw_15 rfl (lv_at hl 3 rfl) ?_
  refine lv_iconst (v := (nI 0)) hx hb dL_draw_16 (by decide) ?_
  refine lv_iconst (v := (nI 1)) hx hb dL_draw_17 (by decide) ?_
  refine lv_iload_n hx hb dL_draw_18 rfl (lv_at hl 0 rfl) ?_
  refine lv_bipush (v := (nI 7)) hx hb dL_draw_19 (by decide) ?_
  refine lv_iand hx hb dL_draw_21 ?_
  refine lv_iload_n hx hb dL_draw_22 rfl (lv_at hl 2 rfl) ?_
  obtain ⟨h1, hf⟩ := gd_of hf
  refine lv_irem hx hb dL_draw_23 h1 ?_
  refine lv_iadd hx hb dL_draw_24 ?_
  refine lv_topi (fun y2 e2 => ?_)
  replace hf := lt_of e2 hf
  obtain ⟨h3, hf⟩ := gi_of hf
  refine va_iast hx hb hK hP hD hS 0 0 rfl rfl h3 dL_draw_25 (fun H locs hP hD hS => ?_)
  replace hP : va_P D mp_cl [(ah, mp_aI T 62 (upd vh ((nI 0)).toNatClampNeg y2))] H := hP
  replace hD : va_D A [(ah, mp_aI T 62 (upd vh ((nI 0)).toNatClampNeg y2))] := hD
  obtain ⟨u4, q4⟩ : ∃ y : Nat → Int32, y = upd vh ((nI 0)).toNatClampNeg y2 := ⟨_, rfl⟩
  replace hf := lt_of q4 hf
  rw [← q4] at hP hD
  refine lv_aload_n hx hb dL_draw_26 rfl (lv_at hl 3 rfl) ?_
  refine lv_iconst (v := (nI 1)) hx hb dL_draw_27 (by decide) ?_
  refine lv_iconst (v := (nI 1)) hx hb dL_draw_28 (by decide) ?_
  refine lv_iload_n hx hb dL_draw_29 rfl (lv_at hl 0 rfl) ?_
  refine lv_iconst (v := (nI 3)) hx hb dL_draw_30 (by decide) ?_
  refine lv_ishr hx hb dL_draw_31 ?_
  refine lv_iconst (v := (nI 3)) hx hb dL_draw_32 (by decide) ?_
  refine lv_iand hx hb dL_draw_33 ?_
  refine lv_iadd hx hb dL_draw_34 ?_
  refine lv_topi (fun y5 e5 => ?_)
  replace hf := lt_of e5 hf
  obtain ⟨h6, hf⟩ := gi_of hf
  refine va_iast hx hb hK hP hD hS 0 0 rfl rfl h6 dL_draw_35 (fun H locs hP hD hS => ?_)
  replace hP : va_P D mp_cl [(ah, mp_aI T 62 (upd u4 ((nI 1)).toNatClampNeg y5))] H := hP
  replace hD : va_D A [(ah, mp_aI T 62 (upd u4 ((nI 1)).toNatClampNeg y5))] := hD
  obtain ⟨u7, q7⟩ : ∃ y : Nat → Int32, y = upd u4 ((nI 1)).toNatClampNeg y5 := ⟨_, rfl⟩
  replace hf := lt_of q7 hf
  rw [← q7] at hP hD
  refine lv_aload_n hx hb dL_draw_36 rfl (lv_at hl 3 rfl) ?_
  refine lv_iconst (v := (nI 2)) hx hb dL_draw_37 (by decide) ?_
  refine lv_iconst (v := (nI 1)) hx hb dL_draw_38 (by decide) ?_
  refine lv_iload_n hx hb dL_draw_39 rfl (lv_at hl 0 rfl) ?_
  refine lv_iconst (v := (nI 5)) hx hb dL_draw_40 (by decide) ?_
  refine lv_ishr hx hb dL_draw_41 ?_
  refine lv_iconst (v := (nI 3)) hx hb dL_draw_42 (by decide) ?_
  refine lv_iand hx hb dL_draw_43 ?_
  refine lv_iadd hx hb dL_draw_44 ?_
  refine lv_topi (fun y8 e8 => ?_)
  replace hf := lt_of e8 hf
  obtain ⟨h9, hf⟩ := gi_of hf
  refine va_iast hx hb hK hP hD hS 0 0 rfl rfl h9 dL_draw_45 (fun H locs hP hD hS => ?_)
  replace hP : va_P D mp_cl [(ah, mp_aI T 62 (upd u7 ((nI 2)).toNatClampNeg y8))] H := hP
  replace hD : va_D A [(ah, mp_aI T 62 (upd u7 ((nI 2)).toNatClampNeg y8))] := hD
  obtain ⟨u10, q10⟩ : ∃ y : Nat → Int32, y = upd u7 ((nI 2)).toNatClampNeg y8 := ⟨_, rfl⟩
  replace hf := lt_of q10 hf
  rw [← q10] at hP hD
  refine lv_iconst (v := (nI 0)) hx hb dL_draw_46 (by decide) ?_
  refine lv_istore (lv' := [(4, .int (nI 0)), (3, .int w0), (0, .ref b), (1, .int z1), (2, .ref ah)]) hx hb dL_draw_47 hl (by decide) rfl (fun ls hl => ?_)
  exact w_L_draw_49 X hK hbl hbA fu n1 xs hX o_vh  fu w0 (nI 0) u10 hf _ _ _  hP hD hS (lv_sub hl [2, 4, 1, 0] rfl)

set_option maxHeartbeats 4000000 in
set_option maxRecDepth 100000 in
theorem w_L_draw_0 {p : Program} {l : Launch} {e : Env} {s : State} {m : MethodId} {below : List Frame} {meth : Method} {c : Code} {D : va_G} {T : Nat → ClassId} {args : Array Value} {A : Nat → Prop} {b ah : Nat} (X : mp_X p s m meth c args RL "draw" cL_draw 6 none) (hK : va_K D mp_cl (mp_ty T) s) (hbl : b < s.heap.size) (hbA : ¬ A b) (fu : Nat) (n1 : Nat) (xs : Nat → Int32) (hX : va_X b n1 xs s s.heap) (o_vh : Nat → Int32) :
    ∀  (z1 : Int32) (vh : (Nat → Int32)), f_L_draw_0 fu n1 xs  z1 vh = some o_vh → ∀ (H : Heap) (locs : List Loc) (ls : Array Slot), va_P D mp_cl [(ah, mp_aI T 62 vh)] H → va_D A [(ah, mp_aI T 62 vh)] → va_S A s.heap H locs → lv_has ls 6 [(0, .ref b), (1, .int z1), (2, .ref ah)] → W p l e ({ frames := 0, cells := 0, slots := 0, locals := 0 } : Room) s m args below meth c H locs 0 0 (MQ below (mp_Qv D [(ah, mp_aI T 62 o_vh)] A) args s 0 0 A) (F0 m 0 ls []) := by
  have hx := X.1
  have hb := X.2.1
  have hml := X.2.2.1
  have hown := X.2.2.2.2.1
  have hts := X.2.2.2.2.2.1
  intro z1 vh hf H locs ls hP hD hS hl
  replace hf : (if (Int32.ofNat n1) = 0 then f_L_draw_14 fu n1 xs  z1 (nI 7919) vh else gi_ (nI 0) n1 (f_L_draw_14 fu n1 xs  z1 (xs ((nI 0)).toNatClampNeg) vh)) = some o_vh := hf
  refine lv_aload_n hx hb dL_draw_0 rfl (lv_at hl 0 rfl) ?_
  refine va_slen hx hb hX hbl hbA hS dL_draw_1 ?_
  refine lv_if_ne (tgt := 11) hx hb dL_draw_2 (by decide) (fun h1 => ?_) (fun h1 => ?_)
  · replace hf := if_f hf h1
    refine lv_aload_n hx hb dL_draw_11 rfl (lv_at hl 0 rfl) ?_
    refine lv_iconst (v := (nI 0)) hx hb dL_draw_12 (by decide) ?_
    obtain ⟨h2, hf⟩ := gi_of hf
    refine va_sld hx hb hX hbl hbA hS h2 dL_draw_13 ?_
    exact w_L_draw_14 X hK hbl hbA fu n1 xs hX o_vh  z1 (xs ((nI 0)).toNatClampNeg) vh hf _ _ _  hP hD hS (lv_sub hl [0, 1, 2] rfl)
  · replace hf := if_t hf h1
    refine lv_sipush (v := (nI 7919)) hx hb dL_draw_5 (by decide) ?_
    refine lv_goto (tgt := 14) hx hb dL_draw_8 (by decide) ?_
    exact w_L_draw_14 X hK hbl hbA fu n1 xs hX o_vh  z1 (nI 7919) vh hf _ _ _  hP hD hS (lv_sub hl [0, 1, 2] rfl)

theorem c_L_draw (l : Launch) (D : va_G) (T : Nat → ClassId) (b n1 : Nat) (xs : Nat → Int32) (ah : Nat) (fu : Nat) (z1 : Int32) (vh o_vh : Nat → Int32) (hf : f_L_draw_0 fu n1 xs z1 vh = some o_vh) :
    mp_MD l D T b n1 xs yL_draw cL_draw 6 none ({ frames := 0, cells := 0, slots := 0, locals := 0 }) 0 0 [.ref b, .int z1, .ref ah] [(ah, mp_aI T 62 vh)] (mp_Qv D [(ah, mp_aI T 62 o_vh)]) := by
  refine mp_ofD (by decide) (Nat.le_of_ble_eq_true rfl) rfl ?_
  intro p e s m args below meth c A ls hX hbl hbA X hK hP hD hS hA hl
  replace hl : lv_has ls 6 [(0, .ref b), (1, .int z1), (2, .ref ah)] := hl
  exact w_L_draw_0 X hK hbl hbA fu n1 xs hX o_vh z1 vh hf _ _ _ hP hD hS hl
