/-! lay: its pure picture, its walk -/
theorem sd5_22 {L : List Nat} {fl : Int32} {tp vm : Nat → Int32} (h : SD5 L fl tp vm) : SD5 L fl tp (upd vm (nI 22).toNatClampNeg (nI 0)) := by
  obtain ⟨a1, a2, a3, a4, a5, a6, a7, a8⟩ := h
  have m20 : L.length % 20 < 20 := Nat.mod_lt _ (by decide)
  rw [nI_cl (show 22 < 2147483648 by decide)]
  exact ⟨a1, a2, a3, by rw [upd_n (by omega)]; exact a4, by rw [upd_n (by omega)]; exact a5, upd_s, a7, fun k hk => by rw [upd_n (by omega)]; exact a8 k hk⟩
/-- lay's end: the answer, the object with the book -/
def lay_Q (D : va_G) (T : Nat → ClassId) (a : Nat → Nat) (am ah : Nat) (vh : Nat → Int32) (r : Int32) (σ : Nat → Nat) (A : Nat → Prop) : Array Value → State → Outcome → State → Prop := va_Qi (fun (r' : Int32) (_ : Unit) => r' = r) (fun _ t => ∃ (i : Nat → Int32) (j : Nat → Int64) (f : Nat → Nat → Int32) (g : Nat → Nat → Int64) (vm : Nat → Int32), REL5 σ none 0 (fun _ => 0) (lN 0) (lN 1) i j f g ∧ va_P D mp_cl ((am, mp_aI T 24 vm) :: (ah, mp_aI T 62 vh) :: aW T a i j f g) t.heap) A
theorem lay_ret {p : Program} {l : Launch} {e : Env} {R : Room} {s : State} {m : MethodId} {args : Array Value} {below : List Frame} {meth : Method} {c : Code} {H : Heap} {locs : List Loc} {cells slots : Nat} {cc : ByteArray} {pc nL : Nat} {ls : Array Slot} {D : va_G} {T : Nat → ClassId} {A : Nat → Prop} {own nm : String} {a : Nat → Nat} {am ah : Nat} {vh vm : Nat → Int32} {σ : Nat → Nat} {v : Int32} {i : Nat → Int32} {j : Nat → Int64} {f : Nat → Nat → Int32} {g : Nat → Nat → Int64}
    (X : mp_X p s m meth c args own nm cc nL (some .boolean)) (hR : REL5 σ none 0 (fun _ => 0) (lN 0) (lN 1) i j f g) (hP : va_P D mp_cl ((am, mp_aI T 24 vm) :: (ah, mp_aI T 62 vh) :: aW T a i j f g) H) (hS : va_S A s.heap H locs) (h01 : v = 0 ∨ v = 1) (hdg : decode cc pc = .ok (.ireturn, 1)) :
    W p l e R s m args below meth c H locs cells slots (MQ below (lay_Q D T a am ah vh v σ A) args s cells slots A) (F0 m pc ls [.int v]) :=
  W.zret X.1 X.2.1 X.2.2.2.1 (by rcases h01 with rfl | rfl <;> rfl) (fun t ht hW => ⟨⟨v, (), rfl, rfl, i, j, f, g, vm, hR, by show va_P D mp_cl ((am, mp_aI T 24 vm) :: (ah, mp_aI T 62 vh) :: aW T a i j f g) t.heap; rw [ht]; exact hP⟩, hS.F ht⟩) hS.2.2 hdg X.2.2.2.2.2.2.1
noncomputable def f_L_lay_368 (fu : Nat) (vh : Nat → Int32) (L : List Nat) : Option (Int32 × (Nat → Nat)) :=
  bd_ (s_load vh L) (fun (z : Int32 × (Nat → Nat)) => match z with | (r2, u3) => gi_ (nI 0) 62 ((if r2 = (vh ((nI 0)).toNatClampNeg) then some ((nI 1), u3) else some ((nI 0), u3))))
noncomputable def f_L_lay_329 (fu : Nat) (vh : Nat → Int32) : Nat → Int32 → List Nat → Option (Int32 × (Nat → Nat))
  | 0 => fun _ _ => none
  | n + 1 => fun z3 L =>
    gi_ (nI 3) 62 ((if (vh ((nI 3)).toNatClampNeg) ≤ z3 then gi_ (nI 3) 62 ((if (vh ((nI 3)).toNatClampNeg) ≤ 0 then f_L_lay_368 fu vh  L else bd_ (s_say 5 L) (fun (u6 : List Nat) => f_L_lay_368 fu vh  u6))) else gi_ ((nI 54) + z3) 62 (bd_ (s_name (nI 99) (vh ((nI 54) + z3).toNatClampNeg) L) (fun (u9 : List Nat) => lt_ (z3 + (nI 1)) (fun (y10 : Int32) => f_L_lay_329 fu vh  n y10 u9)))))
noncomputable def f_L_lay_246 (fu : Nat) (vh : Nat → Int32) (KK236 : Int32 → List Nat → Option (Int32 × (Nat → Nat))) : Nat → Int32 → Int32 → List Nat → Option (Int32 × (Nat → Nat))
  | 0 => fun _ _ _ => none
  | n + 1 => fun z3 z4 L =>
    gi_ (nI 1) 62 ((if (vh ((nI 1)).toNatClampNeg) ≤ z4 then lt_ (z3 + (nI 1)) (fun (y3 : Int32) => KK236 y3 L) else gi_ ((nI 28) + z3) 62 ((if (((vh ((nI 28) + z3).toNatClampNeg) >>> (z4 &&& (31 : Int32))) &&& (nI 1)) = 0 then lt_ (z4 + (nI 1)) (fun (y15 : Int32) => f_L_lay_246 fu vh KK236 n z3 y15 L) else bd_ (s_say 12 L) (fun (u7 : List Nat) => bd_ (s_name (nI 99) z3 u7) (fun (u9 : List Nat) => bd_ (s_name (nI 115) z4 u9) (fun (u11 : List Nat) => bd_ (s_say 5 u11) (fun (u13 : List Nat) => lt_ (z4 + (nI 1)) (fun (y14 : Int32) => f_L_lay_246 fu vh KK236 n z3 y14 u13)))))))))
noncomputable def f_L_lay_236 (fu : Nat) (vh : Nat → Int32) : Nat → Int32 → List Nat → Option (Int32 × (Nat → Nat))
  | 0 => fun _ _ => none
  | n + 1 => fun z3 L =>
    gi_ (nI 0) 62 ((if (vh ((nI 0)).toNatClampNeg) ≤ z3 then gi_ (nI 3) 62 ((if (vh ((nI 3)).toNatClampNeg) ≤ 0 then f_L_lay_329 fu vh  fu (nI 0) L else bd_ (s_say 13 L) (fun (u6 : List Nat) => f_L_lay_329 fu vh  fu (nI 0) u6))) else f_L_lay_246 fu vh (f_L_lay_236 fu vh  n) fu z3 (nI 0) L))
noncomputable def f_L_lay_148 (fu : Nat) (vh : Nat → Int32) : Nat → Int32 → List Nat → Option (Int32 × (Nat → Nat))
  | 0 => fun _ _ => none
  | n + 1 => fun z3 L =>
    gi_ (nI 2) 62 ((if (vh ((nI 2)).toNatClampNeg) ≤ z3 then f_L_lay_236 fu vh  fu (nI 0) L else bd_ (s_say 8 L) (fun (u4 : List Nat) => bd_ (s_name (nI 112) z3 u4) (fun (u6 : List Nat) => bd_ (s_say 9 u6) (fun (u8 : List Nat) => gi_ ((nI 42) + z3) 62 (bd_ (s_number (vh ((nI 42) + z3).toNatClampNeg) u8) (fun (u11 : List Nat) => bd_ (s_say 10 u11) (fun (u13 : List Nat) => bd_ (s_name (nI 112) z3 u13) (fun (u15 : List Nat) => bd_ (s_say 11 u15) (fun (u17 : List Nat) => gi_ ((nI 48) + z3) 62 (bd_ (s_number (vh ((nI 48) + z3).toNatClampNeg) u17) (fun (u20 : List Nat) => bd_ (s_say 5 u20) (fun (u22 : List Nat) => lt_ (z3 + (nI 1)) (fun (y23 : Int32) => f_L_lay_148 fu vh  n y23 u22))))))))))))))
noncomputable def f_L_lay_93 (fu : Nat) (vh : Nat → Int32) : Nat → Int32 → List Nat → Option (Int32 × (Nat → Nat))
  | 0 => fun _ _ => none
  | n + 1 => fun z3 L =>
    gi_ (nI 1) 62 ((if (vh ((nI 1)).toNatClampNeg) ≤ z3 then f_L_lay_148 fu vh  fu (nI 0) L else bd_ (s_say 6 L) (fun (u4 : List Nat) => bd_ (s_name (nI 115) z3 u4) (fun (u6 : List Nat) => bd_ (s_say 7 u6) (fun (u8 : List Nat) => gi_ ((nI 36) + z3) 62 (bd_ (s_number (vh ((nI 36) + z3).toNatClampNeg) u8) (fun (u11 : List Nat) => bd_ (s_say 5 u11) (fun (u13 : List Nat) => lt_ (z3 + (nI 1)) (fun (y14 : Int32) => f_L_lay_93 fu vh  n y14 u13)))))))))
noncomputable def f_L_lay_63 (fu : Nat) (vh : Nat → Int32) (KK7 : Int32 → List Nat → Option (Int32 × (Nat → Nat))) (z3 : Int32) (L : List Nat) : Option (Int32 × (Nat → Nat)) :=
  gi_ ((nI 20) + z3) 62 ((if (vh ((nI 20) + z3).toNatClampNeg) = (nI 1) then bd_ (s_say 4 L) (fun (u7 : List Nat) => lt_ (z3 + (nI 1)) (fun (y8 : Int32) => KK7 y8 u7)) else bd_ (s_say 5 L) (fun (u4 : List Nat) => lt_ (z3 + (nI 1)) (fun (y5 : Int32) => KK7 y5 u4))))
noncomputable def f_L_lay_7 (fu : Nat) (vh : Nat → Int32) : Nat → Int32 → List Nat → Option (Int32 × (Nat → Nat))
  | 0 => fun _ _ => none
  | n + 1 => fun z3 L =>
    gi_ (nI 0) 62 ((if (vh ((nI 0)).toNatClampNeg) ≤ z3 then f_L_lay_93 fu vh  fu (nI 0) L else bd_ (s_say 1 L) (fun (u4 : List Nat) => bd_ (s_name (nI 99) z3 u4) (fun (u6 : List Nat) => bd_ (s_say 2 u6) (fun (u8 : List Nat) => gi_ ((nI 4) + z3) 62 (bd_ (s_number (vh ((nI 4) + z3).toNatClampNeg) u8) (fun (u11 : List Nat) => gi_ ((nI 12) + z3) 62 ((if (vh ((nI 12) + z3).toNatClampNeg) = (nI 1) then bd_ (s_say 3 u11) (fun (u15 : List Nat) => f_L_lay_63 fu vh (f_L_lay_7 fu vh  n) z3 u15) else f_L_lay_63 fu vh (f_L_lay_7 fu vh  n) z3 u11)))))))))
noncomputable def f_L_lay_0 (fu : Nat) (vh : Nat → Int32) (L : List Nat) : Option (Int32 × (Nat → Nat)) :=
  f_L_lay_7 fu vh  fu (nI 0) L
set_option maxHeartbeats 4000000 in
set_option maxRecDepth 100000 in
theorem w_L_lay_368 {p : Program} {l : Launch} {e : Env} {s : State} {m : MethodId} {below : List Frame} {meth : Method} {c : Code} {D : va_G} {T : Nat → ClassId} {args : Array Value} {A : Nat → Prop} {a : Nat → Nat} {am ah : Nat} {K V : Nat → Nat} {F : Option Nat} (X : mp_X p s m meth c args RL "lay" cL_lay 5 (some .boolean)) (hK : va_K D mp_cl (mp_ty T) s) (hA : ∀ q, s.heap.size ≤ q → A q) (hY : SYK K V F A s s.heap) (fu : Nat) (vh : Nat → Int32) (r_ : Int32) (o_σ : Nat → Nat) :
    ∀  (L : List Nat), f_L_lay_368 fu vh  L = some (r_, o_σ) → ∀ (H : Heap) (locs : List Loc) (ls : Array Slot) (fl : Int32) (tp vm : Nat → Int32), SD5 L fl tp vm → va_P D mp_cl (lW T a am ah vh fl tp vm) H → va_D A (lW T a am ah vh fl tp vm) → va_S A s.heap H locs → lv_has ls 5 [(0, .ref (a 0)), (1, .ref am), (2, .ref ah)] → W p l e ({ frames := 9, cells := 0, slots := 0, locals := 207 } : Room) s m args below meth c H locs 0 0 (MQ below (lay_Q D T a am ah vh r_ o_σ A) args s 0 0 A) (F0 m 368 ls []) := by
  have hx := X.1
  have hb := X.2.1
  have hml := X.2.2.1
  have hown := X.2.2.2.2.1
  have hts := X.2.2.2.2.2.1
  intro L hf H locs ls fl tp vm hT hP hD hS hl
  replace hf : bd_ (s_load vh L) (fun (z : Int32 × (Nat → Nat)) => match z with | (r2, u3) => gi_ (nI 0) 62 ((if r2 = (vh ((nI 0)).toNatClampNeg) then some ((nI 1), u3) else some ((nI 0), u3)))) = some (r_, o_σ) := hf
  refine lv_aload_n hx hb dL_lay_368 rfl (lv_at hl 0 rfl) ?_
  refine lv_aload_n hx hb dL_lay_369 rfl (lv_at hl 1 rfl) ?_
  obtain ⟨⟨r2, u3⟩, c1, hf⟩ := bd_of hf
  dsimp only at hf
  refine K_load (rest := []) X hK c1 hT hP hD hS hA hl.1 (Nat.le_of_ble_eq_true rfl) dL_lay_370 ⟨rfl, rfl⟩ ⟨Nat.zero_le _, Nat.zero_le _⟩ (fun i j f g vm H locs hRel hP hD hS => ?_)
  refine lv_aload_n hx hb dL_lay_373 rfl (lv_at hl 2 rfl) ?_
  refine lv_iconst (v := (nI 0)) hx hb dL_lay_374 (by decide) ?_
  obtain ⟨h4, hf⟩ := gi_of hf
  refine va_iald hx hb hK hP 1 0 rfl rfl h4 dL_lay_375 ?_
  refine lv_icmp_ne (tgt := 383) hx hb dL_lay_376 (by decide) (fun h5 => ?_) (fun h5 => ?_)
  · replace hf := if_f hf h5
    refine lv_iconst (v := (nI 0)) hx hb dL_lay_383 (by decide) ?_
    cases hf
    exact lay_ret X hRel hP hS (Or.inl rfl) dL_lay_384
  · replace hf := if_t hf h5
    refine lv_iconst (v := (nI 1)) hx hb dL_lay_379 (by decide) ?_
    refine lv_goto (tgt := 384) hx hb dL_lay_380 (by decide) ?_
    cases hf
    exact lay_ret X hRel hP hS (Or.inr rfl) dL_lay_384

set_option maxHeartbeats 4000000 in
set_option maxRecDepth 100000 in
theorem w_L_lay_329 {p : Program} {l : Launch} {e : Env} {s : State} {m : MethodId} {below : List Frame} {meth : Method} {c : Code} {D : va_G} {T : Nat → ClassId} {args : Array Value} {A : Nat → Prop} {a : Nat → Nat} {am ah : Nat} {K V : Nat → Nat} {F : Option Nat} (X : mp_X p s m meth c args RL "lay" cL_lay 5 (some .boolean)) (hK : va_K D mp_cl (mp_ty T) s) (hA : ∀ q, s.heap.size ≤ q → A q) (hY : SYK K V F A s s.heap) (fu : Nat) (vh : Nat → Int32) (r_ : Int32) (o_σ : Nat → Nat) :
    ∀ (n : Nat) (z3 : Int32) (L : List Nat), f_L_lay_329 fu vh  n z3 L = some (r_, o_σ) → ∀ (H : Heap) (locs : List Loc) (ls : Array Slot) (fl : Int32) (tp vm : Nat → Int32), SD5 L fl tp vm → va_P D mp_cl (lW T a am ah vh fl tp vm) H → va_D A (lW T a am ah vh fl tp vm) → va_S A s.heap H locs → lv_has ls 5 [(0, .ref (a 0)), (1, .ref am), (2, .ref ah), (3, .int z3)] → W p l e ({ frames := 9, cells := 0, slots := 0, locals := 207 } : Room) s m args below meth c H locs 0 0 (MQ below (lay_Q D T a am ah vh r_ o_σ A) args s 0 0 A) (F0 m 329 ls []) := by
  have hx := X.1
  have hb := X.2.1
  have hml := X.2.2.1
  have hown := X.2.2.2.2.1
  have hts := X.2.2.2.2.2.1
  intro n
  induction n with
  | zero => intro z3 L hf; exact absurd hf (by intro h; cases h)
  | succ n ih =>
    intro z3 L hf H locs ls fl tp vm hT hP hD hS hl
    replace hf : gi_ (nI 3) 62 ((if (vh ((nI 3)).toNatClampNeg) ≤ z3 then gi_ (nI 3) 62 ((if (vh ((nI 3)).toNatClampNeg) ≤ 0 then f_L_lay_368 fu vh  L else bd_ (s_say 5 L) (fun (u6 : List Nat) => f_L_lay_368 fu vh  u6))) else gi_ ((nI 54) + z3) 62 (bd_ (s_name (nI 99) (vh ((nI 54) + z3).toNatClampNeg) L) (fun (u9 : List Nat) => lt_ (z3 + (nI 1)) (fun (y10 : Int32) => f_L_lay_329 fu vh  n y10 u9))))) = some (r_, o_σ) := hf
    refine lv_iload_n hx hb dL_lay_329 rfl (lv_at hl 3 rfl) ?_
    refine lv_aload_n hx hb dL_lay_330 rfl (lv_at hl 2 rfl) ?_
    refine lv_iconst (v := (nI 3)) hx hb dL_lay_331 (by decide) ?_
    obtain ⟨h1, hf⟩ := gi_of hf
    refine va_iald hx hb hK hP 1 0 rfl rfl h1 dL_lay_332 ?_
    refine lv_icmp_ge (tgt := 355) hx hb dL_lay_333 (by decide) (fun h2 => ?_) (fun h2 => ?_)
    · replace hf := if_t hf h2
      refine lv_aload_n hx hb dL_lay_355 rfl (lv_at hl 2 rfl) ?_
      refine lv_iconst (v := (nI 3)) hx hb dL_lay_356 (by decide) ?_
      obtain ⟨h3, hf⟩ := gi_of hf
      refine va_iald hx hb hK hP 1 0 rfl rfl h3 dL_lay_357 ?_
      refine lv_if_le (tgt := 368) hx hb dL_lay_358 (by decide) (fun h4 => ?_) (fun h4 => ?_)
      · replace hf := if_t hf h4
        exact w_L_lay_368 X hK hA hY fu vh r_ o_σ  L hf _ _ _ _ _ _ hT hP hD hS (lv_sub hl [0, 1, 2] rfl)
      · replace hf := if_f hf h4
        refine lv_aload_n hx hb dL_lay_361 rfl (lv_at hl 0 rfl) ?_
        refine lv_aload_n hx hb dL_lay_362 rfl (lv_at hl 1 rfl) ?_
        refine va_ldcS hx hb hown (hY 5 (by decide)).1 dL_lay_363 ?_
        obtain ⟨u6, c5, hf⟩ := bd_of hf
        refine K_say (rest := []) (t := 5) X hK hY (by decide) c5 hT hP hD hS hA hl.1 (Nat.le_of_ble_eq_true rfl) dL_lay_365 ⟨rfl, rfl⟩ ⟨Nat.zero_le _, Nat.zero_le _⟩ (fun fl tp vm H locs hT hP hD hS => ?_)
        exact w_L_lay_368 X hK hA hY fu vh r_ o_σ  u6 hf _ _ _ _ _ _ hT hP hD hS (lv_sub hl [0, 1, 2] rfl)
    · replace hf := if_f hf h2
      refine lv_aload_n hx hb dL_lay_336 rfl (lv_at hl 0 rfl) ?_
      refine lv_aload_n hx hb dL_lay_337 rfl (lv_at hl 1 rfl) ?_
      refine lv_bipush (v := (nI 99)) hx hb dL_lay_338 (by decide) ?_
      refine lv_aload_n hx hb dL_lay_340 rfl (lv_at hl 2 rfl) ?_
      refine lv_bipush (v := (nI 54)) hx hb dL_lay_341 (by decide) ?_
      refine lv_iload_n hx hb dL_lay_343 rfl (lv_at hl 3 rfl) ?_
      refine lv_iadd hx hb dL_lay_344 ?_
      obtain ⟨h7, hf⟩ := gi_of hf
      refine va_iald hx hb hK hP 1 0 rfl rfl h7 dL_lay_345 ?_
      obtain ⟨u9, c8, hf⟩ := bd_of hf
      refine K_name (rest := []) X hK c8 hT hP hD hS hA hl.1 (Nat.le_of_ble_eq_true rfl) dL_lay_346 ⟨rfl, rfl⟩ ⟨Nat.zero_le _, Nat.zero_le _⟩ (fun fl tp vm H locs hT hP hD hS => ?_)
      obtain ⟨y10, e10⟩ : ∃ y : Int32, y = z3 + (nI 1) := ⟨_, rfl⟩
      replace hf := lt_of e10 hf
      refine lv_iinc (v := y10) (lv' := [(3, .int y10), (0, .ref (a 0)), (1, .ref am), (2, .ref ah)]) hx hb dL_lay_349 hl (k := 3) rfl (by rw [e10]; rfl) (by decide) rfl (fun ls hl => ?_)
      refine lv_goto (tgt := 329) hx hb dL_lay_352 (by decide) ?_
      exact ih y10 u9 hf _ _ _ _ _ _ hT hP hD hS (lv_sub hl [1, 2, 3, 0] rfl)

set_option maxHeartbeats 4000000 in
set_option maxRecDepth 100000 in
theorem w_L_lay_246 {p : Program} {l : Launch} {e : Env} {s : State} {m : MethodId} {below : List Frame} {meth : Method} {c : Code} {D : va_G} {T : Nat → ClassId} {args : Array Value} {A : Nat → Prop} {a : Nat → Nat} {am ah : Nat} {K V : Nat → Nat} {F : Option Nat} (X : mp_X p s m meth c args RL "lay" cL_lay 5 (some .boolean)) (hK : va_K D mp_cl (mp_ty T) s) (hA : ∀ q, s.heap.size ≤ q → A q) (hY : SYK K V F A s s.heap) (fu : Nat) (vh : Nat → Int32) (r_ : Int32) (o_σ : Nat → Nat) (KK236 : Int32 → List Nat → Option (Int32 × (Nat → Nat))) (hKK236 : ∀ (z3 : Int32) (L : List Nat), KK236 z3 L = some (r_, o_σ) → ∀ (H : Heap) (locs : List Loc) (ls : Array Slot) (fl : Int32) (tp vm : Nat → Int32), SD5 L fl tp vm → va_P D mp_cl (lW T a am ah vh fl tp vm) H → va_D A (lW T a am ah vh fl tp vm) → va_S A s.heap H locs → lv_has ls 5 [(0, .ref (a 0)), (1, .ref am), (2, .ref ah), (3, .int z3)] → W p l e ({ frames := 9, cells := 0, slots := 0, locals := 207 } : Room) s m args below meth c H locs 0 0 (MQ below (lay_Q D T a am ah vh r_ o_σ A) args s 0 0 A) (F0 m 236 ls [])) :
    ∀ (n : Nat) (z3 : Int32) (z4 : Int32) (L : List Nat), f_L_lay_246 fu vh KK236 n z3 z4 L = some (r_, o_σ) → ∀ (H : Heap) (locs : List Loc) (ls : Array Slot) (fl : Int32) (tp vm : Nat → Int32), SD5 L fl tp vm → va_P D mp_cl (lW T a am ah vh fl tp vm) H → va_D A (lW T a am ah vh fl tp vm) → va_S A s.heap H locs → lv_has ls 5 [(0, .ref (a 0)), (1, .ref am), (2, .ref ah), (3, .int z3), (4, .int z4)] → W p l e ({ frames := 9, cells := 0, slots := 0, locals := 207 } : Room) s m args below meth c H locs 0 0 (MQ below (lay_Q D T a am ah vh r_ o_σ A) args s 0 0 A) (F0 m 246 ls []) := by
  have hx := X.1
  have hb := X.2.1
  have hml := X.2.2.1
  have hown := X.2.2.2.2.1
  have hts := X.2.2.2.2.2.1
  intro n
  induction n with
  | zero => intro z3 z4 L hf; exact absurd hf (by intro h; cases h)
  | succ n ih =>
    intro z3 z4 L hf H locs ls fl tp vm hT hP hD hS hl
    replace hf : gi_ (nI 1) 62 ((if (vh ((nI 1)).toNatClampNeg) ≤ z4 then lt_ (z3 + (nI 1)) (fun (y3 : Int32) => KK236 y3 L) else gi_ ((nI 28) + z3) 62 ((if (((vh ((nI 28) + z3).toNatClampNeg) >>> (z4 &&& (31 : Int32))) &&& (nI 1)) = 0 then lt_ (z4 + (nI 1)) (fun (y15 : Int32) => f_L_lay_246 fu vh KK236 n z3 y15 L) else bd_ (s_say 12 L) (fun (u7 : List Nat) => bd_ (s_name (nI 99) z3 u7) (fun (u9 : List Nat) => bd_ (s_name (nI 115) z4 u9) (fun (u11 : List Nat) => bd_ (s_say 5 u11) (fun (u13 : List Nat) => lt_ (z4 + (nI 1)) (fun (y14 : Int32) => f_L_lay_246 fu vh KK236 n z3 y14 u13))))))))) = some (r_, o_σ) := hf
    refine lv_iload hx hb dL_lay_246 (lv_at hl 4 rfl) ?_
    refine lv_aload_n hx hb dL_lay_248 rfl (lv_at hl 2 rfl) ?_
    refine lv_iconst (v := (nI 1)) hx hb dL_lay_249 (by decide) ?_
    obtain ⟨h1, hf⟩ := gi_of hf
    refine va_iald hx hb hK hP 1 0 rfl rfl h1 dL_lay_250 ?_
    refine lv_icmp_ge (tgt := 308) hx hb dL_lay_251 (by decide) (fun h2 => ?_) (fun h2 => ?_)
    · replace hf := if_t hf h2
      obtain ⟨y3, e3⟩ : ∃ y : Int32, y = z3 + (nI 1) := ⟨_, rfl⟩
      replace hf := lt_of e3 hf
      refine lv_iinc (v := y3) (lv' := [(3, .int y3), (0, .ref (a 0)), (1, .ref am), (2, .ref ah), (4, .int z4)]) hx hb dL_lay_308 hl (k := 3) rfl (by rw [e3]; rfl) (by decide) rfl (fun ls hl => ?_)
      refine lv_goto (tgt := 236) hx hb dL_lay_311 (by decide) ?_
      exact hKK236 y3 L hf _ _ _ _ _ _ hT hP hD hS (lv_sub hl [1, 2, 3, 0] rfl)
    · replace hf := if_f hf h2
      refine lv_aload_n hx hb dL_lay_254 rfl (lv_at hl 2 rfl) ?_
      refine lv_bipush (v := (nI 28)) hx hb dL_lay_255 (by decide) ?_
      refine lv_iload_n hx hb dL_lay_257 rfl (lv_at hl 3 rfl) ?_
      refine lv_iadd hx hb dL_lay_258 ?_
      obtain ⟨h4, hf⟩ := gi_of hf
      refine va_iald hx hb hK hP 1 0 rfl rfl h4 dL_lay_259 ?_
      refine lv_iload hx hb dL_lay_260 (lv_at hl 4 rfl) ?_
      refine lv_ishr hx hb dL_lay_262 ?_
      refine lv_iconst (v := (nI 1)) hx hb dL_lay_263 (by decide) ?_
      refine lv_iand hx hb dL_lay_264 ?_
      refine lv_if_ne (tgt := 271) hx hb dL_lay_265 (by decide) (fun h5 => ?_) (fun h5 => ?_)
      · replace hf := if_f hf h5
        refine lv_aload_n hx hb dL_lay_271 rfl (lv_at hl 0 rfl) ?_
        refine lv_aload_n hx hb dL_lay_272 rfl (lv_at hl 1 rfl) ?_
        refine va_ldcS hx hb hown (hY 12 (by decide)).1 dL_lay_273 ?_
        obtain ⟨u7, c6, hf⟩ := bd_of hf
        refine K_say (rest := []) (t := 12) X hK hY (by decide) c6 hT hP hD hS hA hl.1 (Nat.le_of_ble_eq_true rfl) dL_lay_275 ⟨rfl, rfl⟩ ⟨Nat.zero_le _, Nat.zero_le _⟩ (fun fl tp vm H locs hT hP hD hS => ?_)
        refine lv_aload_n hx hb dL_lay_278 rfl (lv_at hl 0 rfl) ?_
        refine lv_aload_n hx hb dL_lay_279 rfl (lv_at hl 1 rfl) ?_
        refine lv_bipush (v := (nI 99)) hx hb dL_lay_280 (by decide) ?_
        refine lv_iload_n hx hb dL_lay_282 rfl (lv_at hl 3 rfl) ?_
        obtain ⟨u9, c8, hf⟩ := bd_of hf
        refine K_name (rest := []) X hK c8 hT hP hD hS hA hl.1 (Nat.le_of_ble_eq_true rfl) dL_lay_283 ⟨rfl, rfl⟩ ⟨Nat.zero_le _, Nat.zero_le _⟩ (fun fl tp vm H locs hT hP hD hS => ?_)
        refine lv_aload_n hx hb dL_lay_286 rfl (lv_at hl 0 rfl) ?_
        refine lv_aload_n hx hb dL_lay_287 rfl (lv_at hl 1 rfl) ?_
        refine lv_bipush (v := (nI 115)) hx hb dL_lay_288 (by decide) ?_
        refine lv_iload hx hb dL_lay_290 (lv_at hl 4 rfl) ?_
        obtain ⟨u11, c10, hf⟩ := bd_of hf
        refine K_name (rest := []) X hK c10 hT hP hD hS hA hl.1 (Nat.le_of_ble_eq_true rfl) dL_lay_292 ⟨rfl, rfl⟩ ⟨Nat.zero_le _, Nat.zero_le _⟩ (fun fl tp vm H locs hT hP hD hS => ?_)
        refine lv_aload_n hx hb dL_lay_295 rfl (lv_at hl 0 rfl) ?_
        refine lv_aload_n hx hb dL_lay_296 rfl (lv_at hl 1 rfl) ?_
        refine va_ldcS hx hb hown (hY 5 (by decide)).1 dL_lay_297 ?_
        obtain ⟨u13, c12, hf⟩ := bd_of hf
        refine K_say (rest := []) (t := 5) X hK hY (by decide) c12 hT hP hD hS hA hl.1 (Nat.le_of_ble_eq_true rfl) dL_lay_299 ⟨rfl, rfl⟩ ⟨Nat.zero_le _, Nat.zero_le _⟩ (fun fl tp vm H locs hT hP hD hS => ?_)
        obtain ⟨y14, e14⟩ : ∃ y : Int32, y = z4 + (nI 1) := ⟨_, rfl⟩
        replace hf := lt_of e14 hf
        refine lv_iinc (v := y14) (lv' := [(4, .int y14), (0, .ref (a 0)), (1, .ref am), (2, .ref ah), (3, .int z3)]) hx hb dL_lay_302 hl (k := 4) rfl (by rw [e14]; rfl) (by decide) rfl (fun ls hl => ?_)
        refine lv_goto (tgt := 246) hx hb dL_lay_305 (by decide) ?_
        exact ih z3 y14 u13 hf _ _ _ _ _ _ hT hP hD hS (lv_sub hl [1, 2, 3, 4, 0] rfl)
      · replace hf := if_t hf h5
        refine lv_goto (tgt := 302) hx hb dL_lay_268 (by decide) ?_
        obtain ⟨y15, e15⟩ : ∃ y : Int32, y = z4 + (nI 1) := ⟨_, rfl⟩
        replace hf := lt_of e15 hf
        refine lv_iinc (v := y15) (lv' := [(4, .int y15), (0, .ref (a 0)), (1, .ref am), (2, .ref ah), (3, .int z3)]) hx hb dL_lay_302 hl (k := 4) rfl (by rw [e15]; rfl) (by decide) rfl (fun ls hl => ?_)
        refine lv_goto (tgt := 246) hx hb dL_lay_305 (by decide) ?_
        exact ih z3 y15 L hf _ _ _ _ _ _ hT hP hD hS (lv_sub hl [1, 2, 3, 4, 0] rfl)

set_option maxHeartbeats 4000000 in
set_option maxRecDepth 100000 in
theorem w_L_lay_236 {p : Program} {l : Launch} {e : Env} {s : State} {m : MethodId} {below : List Frame} {meth : Method} {c : Code} {D : va_G} {T : Nat → ClassId} {args : Array Value} {A : Nat → Prop} {a : Nat → Nat} {am ah : Nat} {K V : Nat → Nat} {F : Option Nat} (X : mp_X p s m meth c args RL "lay" cL_lay 5 (some .boolean)) (hK : va_K D mp_cl (mp_ty T) s) (hA : ∀ q, s.heap.size ≤ q → A q) (hY : SYK K V F A s s.heap) (fu : Nat) (vh : Nat → Int32) (r_ : Int32) (o_σ : Nat → Nat) :
    ∀ (n : Nat) (z3 : Int32) (L : List Nat), f_L_lay_236 fu vh  n z3 L = some (r_, o_σ) → ∀ (H : Heap) (locs : List Loc) (ls : Array Slot) (fl : Int32) (tp vm : Nat → Int32), SD5 L fl tp vm → va_P D mp_cl (lW T a am ah vh fl tp vm) H → va_D A (lW T a am ah vh fl tp vm) → va_S A s.heap H locs → lv_has ls 5 [(0, .ref (a 0)), (1, .ref am), (2, .ref ah), (3, .int z3)] → W p l e ({ frames := 9, cells := 0, slots := 0, locals := 207 } : Room) s m args below meth c H locs 0 0 (MQ below (lay_Q D T a am ah vh r_ o_σ A) args s 0 0 A) (F0 m 236 ls []) := by
  have hx := X.1
  have hb := X.2.1
  have hml := X.2.2.1
  have hown := X.2.2.2.2.1
  have hts := X.2.2.2.2.2.1
  intro n
  induction n with
  | zero => intro z3 L hf; exact absurd hf (by intro h; cases h)
  | succ n ih =>
    intro z3 L hf H locs ls fl tp vm hT hP hD hS hl
    replace hf : gi_ (nI 0) 62 ((if (vh ((nI 0)).toNatClampNeg) ≤ z3 then gi_ (nI 3) 62 ((if (vh ((nI 3)).toNatClampNeg) ≤ 0 then f_L_lay_329 fu vh  fu (nI 0) L else bd_ (s_say 13 L) (fun (u6 : List Nat) => f_L_lay_329 fu vh  fu (nI 0) u6))) else f_L_lay_246 fu vh (f_L_lay_236 fu vh  n) fu z3 (nI 0) L)) = some (r_, o_σ) := hf
    refine lv_iload_n hx hb dL_lay_236 rfl (lv_at hl 3 rfl) ?_
    refine lv_aload_n hx hb dL_lay_237 rfl (lv_at hl 2 rfl) ?_
    refine lv_iconst (v := (nI 0)) hx hb dL_lay_238 (by decide) ?_
    obtain ⟨h1, hf⟩ := gi_of hf
    refine va_iald hx hb hK hP 1 0 rfl rfl h1 dL_lay_239 ?_
    refine lv_icmp_ge (tgt := 314) hx hb dL_lay_240 (by decide) (fun h2 => ?_) (fun h2 => ?_)
    · replace hf := if_t hf h2
      refine lv_aload_n hx hb dL_lay_314 rfl (lv_at hl 2 rfl) ?_
      refine lv_iconst (v := (nI 3)) hx hb dL_lay_315 (by decide) ?_
      obtain ⟨h3, hf⟩ := gi_of hf
      refine va_iald hx hb hK hP 1 0 rfl rfl h3 dL_lay_316 ?_
      refine lv_if_le (tgt := 327) hx hb dL_lay_317 (by decide) (fun h4 => ?_) (fun h4 => ?_)
      · replace hf := if_t hf h4
        refine lv_iconst (v := (nI 0)) hx hb dL_lay_327 (by decide) ?_
        refine lv_istore_n (lv' := [(3, .int (nI 0)), (0, .ref (a 0)), (1, .ref am), (2, .ref ah)]) hx hb dL_lay_328 rfl hl (by decide) rfl (fun ls hl => ?_)
        exact w_L_lay_329 X hK hA hY fu vh r_ o_σ  fu (nI 0) L hf _ _ _ _ _ _ hT hP hD hS (lv_sub hl [1, 2, 3, 0] rfl)
      · replace hf := if_f hf h4
        refine lv_aload_n hx hb dL_lay_320 rfl (lv_at hl 0 rfl) ?_
        refine lv_aload_n hx hb dL_lay_321 rfl (lv_at hl 1 rfl) ?_
        refine va_ldcS hx hb hown (hY 13 (by decide)).1 dL_lay_322 ?_
        obtain ⟨u6, c5, hf⟩ := bd_of hf
        refine K_say (rest := []) (t := 13) X hK hY (by decide) c5 hT hP hD hS hA hl.1 (Nat.le_of_ble_eq_true rfl) dL_lay_324 ⟨rfl, rfl⟩ ⟨Nat.zero_le _, Nat.zero_le _⟩ (fun fl tp vm H locs hT hP hD hS => ?_)
        refine lv_iconst (v := (nI 0)) hx hb dL_lay_327 (by decide) ?_
        refine lv_istore_n (lv' := [(3, .int (nI 0)), (0, .ref (a 0)), (1, .ref am), (2, .ref ah)]) hx hb dL_lay_328 rfl hl (by decide) rfl (fun ls hl => ?_)
        exact w_L_lay_329 X hK hA hY fu vh r_ o_σ  fu (nI 0) u6 hf _ _ _ _ _ _ hT hP hD hS (lv_sub hl [1, 2, 3, 0] rfl)
    · replace hf := if_f hf h2
      refine lv_iconst (v := (nI 0)) hx hb dL_lay_243 (by decide) ?_
      refine lv_istore (lv' := [(4, .int (nI 0)), (0, .ref (a 0)), (1, .ref am), (2, .ref ah), (3, .int z3)]) hx hb dL_lay_244 hl (by decide) rfl (fun ls hl => ?_)
      exact w_L_lay_246 X hK hA hY fu vh r_ o_σ (f_L_lay_236 fu vh  n) (ih) fu z3 (nI 0) L hf _ _ _ _ _ _ hT hP hD hS (lv_sub hl [1, 2, 3, 4, 0] rfl)

set_option maxHeartbeats 4000000 in
set_option maxRecDepth 100000 in
theorem w_L_lay_148 {p : Program} {l : Launch} {e : Env} {s : State} {m : MethodId} {below : List Frame} {meth : Method} {c : Code} {D : va_G} {T : Nat → ClassId} {args : Array Value} {A : Nat → Prop} {a : Nat → Nat} {am ah : Nat} {K V : Nat → Nat} {F : Option Nat} (X : mp_X p s m meth c args RL "lay" cL_lay 5 (some .boolean)) (hK : va_K D mp_cl (mp_ty T) s) (hA : ∀ q, s.heap.size ≤ q → A q) (hY : SYK K V F A s s.heap) (fu : Nat) (vh : Nat → Int32) (r_ : Int32) (o_σ : Nat → Nat) :
    ∀ (n : Nat) (z3 : Int32) (L : List Nat), f_L_lay_148 fu vh  n z3 L = some (r_, o_σ) → ∀ (H : Heap) (locs : List Loc) (ls : Array Slot) (fl : Int32) (tp vm : Nat → Int32), SD5 L fl tp vm → va_P D mp_cl (lW T a am ah vh fl tp vm) H → va_D A (lW T a am ah vh fl tp vm) → va_S A s.heap H locs → lv_has ls 5 [(0, .ref (a 0)), (1, .ref am), (2, .ref ah), (3, .int z3)] → W p l e ({ frames := 9, cells := 0, slots := 0, locals := 207 } : Room) s m args below meth c H locs 0 0 (MQ below (lay_Q D T a am ah vh r_ o_σ A) args s 0 0 A) (F0 m 148 ls []) := by
  have hx := X.1
  have hb := X.2.1
  have hml := X.2.2.1
  have hown := X.2.2.2.2.1
  have hts := X.2.2.2.2.2.1
  intro n
  induction n with
  | zero => intro z3 L hf; exact absurd hf (by intro h; cases h)
  | succ n ih =>
    intro z3 L hf H locs ls fl tp vm hT hP hD hS hl
    replace hf : gi_ (nI 2) 62 ((if (vh ((nI 2)).toNatClampNeg) ≤ z3 then f_L_lay_236 fu vh  fu (nI 0) L else bd_ (s_say 8 L) (fun (u4 : List Nat) => bd_ (s_name (nI 112) z3 u4) (fun (u6 : List Nat) => bd_ (s_say 9 u6) (fun (u8 : List Nat) => gi_ ((nI 42) + z3) 62 (bd_ (s_number (vh ((nI 42) + z3).toNatClampNeg) u8) (fun (u11 : List Nat) => bd_ (s_say 10 u11) (fun (u13 : List Nat) => bd_ (s_name (nI 112) z3 u13) (fun (u15 : List Nat) => bd_ (s_say 11 u15) (fun (u17 : List Nat) => gi_ ((nI 48) + z3) 62 (bd_ (s_number (vh ((nI 48) + z3).toNatClampNeg) u17) (fun (u20 : List Nat) => bd_ (s_say 5 u20) (fun (u22 : List Nat) => lt_ (z3 + (nI 1)) (fun (y23 : Int32) => f_L_lay_148 fu vh  n y23 u22)))))))))))))) = some (r_, o_σ) := hf
    refine lv_iload_n hx hb dL_lay_148 rfl (lv_at hl 3 rfl) ?_
    refine lv_aload_n hx hb dL_lay_149 rfl (lv_at hl 2 rfl) ?_
    refine lv_iconst (v := (nI 2)) hx hb dL_lay_150 (by decide) ?_
    obtain ⟨h1, hf⟩ := gi_of hf
    refine va_iald hx hb hK hP 1 0 rfl rfl h1 dL_lay_151 ?_
    refine lv_icmp_ge (tgt := 234) hx hb dL_lay_152 (by decide) (fun h2 => ?_) (fun h2 => ?_)
    · replace hf := if_t hf h2
      refine lv_iconst (v := (nI 0)) hx hb dL_lay_234 (by decide) ?_
      refine lv_istore_n (lv' := [(3, .int (nI 0)), (0, .ref (a 0)), (1, .ref am), (2, .ref ah)]) hx hb dL_lay_235 rfl hl (by decide) rfl (fun ls hl => ?_)
      exact w_L_lay_236 X hK hA hY fu vh r_ o_σ  fu (nI 0) L hf _ _ _ _ _ _ hT hP hD hS (lv_sub hl [1, 2, 3, 0] rfl)
    · replace hf := if_f hf h2
      refine lv_aload_n hx hb dL_lay_155 rfl (lv_at hl 0 rfl) ?_
      refine lv_aload_n hx hb dL_lay_156 rfl (lv_at hl 1 rfl) ?_
      refine va_ldcS hx hb hown (hY 8 (by decide)).1 dL_lay_157 ?_
      obtain ⟨u4, c3, hf⟩ := bd_of hf
      refine K_say (rest := []) (t := 8) X hK hY (by decide) c3 hT hP hD hS hA hl.1 (Nat.le_of_ble_eq_true rfl) dL_lay_159 ⟨rfl, rfl⟩ ⟨Nat.zero_le _, Nat.zero_le _⟩ (fun fl tp vm H locs hT hP hD hS => ?_)
      refine lv_aload_n hx hb dL_lay_162 rfl (lv_at hl 0 rfl) ?_
      refine lv_aload_n hx hb dL_lay_163 rfl (lv_at hl 1 rfl) ?_
      refine lv_bipush (v := (nI 112)) hx hb dL_lay_164 (by decide) ?_
      refine lv_iload_n hx hb dL_lay_166 rfl (lv_at hl 3 rfl) ?_
      obtain ⟨u6, c5, hf⟩ := bd_of hf
      refine K_name (rest := []) X hK c5 hT hP hD hS hA hl.1 (Nat.le_of_ble_eq_true rfl) dL_lay_167 ⟨rfl, rfl⟩ ⟨Nat.zero_le _, Nat.zero_le _⟩ (fun fl tp vm H locs hT hP hD hS => ?_)
      refine lv_aload_n hx hb dL_lay_170 rfl (lv_at hl 0 rfl) ?_
      refine lv_aload_n hx hb dL_lay_171 rfl (lv_at hl 1 rfl) ?_
      refine va_ldcS hx hb hown (hY 9 (by decide)).1 dL_lay_172 ?_
      obtain ⟨u8, c7, hf⟩ := bd_of hf
      refine K_say (rest := []) (t := 9) X hK hY (by decide) c7 hT hP hD hS hA hl.1 (Nat.le_of_ble_eq_true rfl) dL_lay_174 ⟨rfl, rfl⟩ ⟨Nat.zero_le _, Nat.zero_le _⟩ (fun fl tp vm H locs hT hP hD hS => ?_)
      refine lv_aload_n hx hb dL_lay_177 rfl (lv_at hl 0 rfl) ?_
      refine lv_aload_n hx hb dL_lay_178 rfl (lv_at hl 1 rfl) ?_
      refine lv_aload_n hx hb dL_lay_179 rfl (lv_at hl 2 rfl) ?_
      refine lv_bipush (v := (nI 42)) hx hb dL_lay_180 (by decide) ?_
      refine lv_iload_n hx hb dL_lay_182 rfl (lv_at hl 3 rfl) ?_
      refine lv_iadd hx hb dL_lay_183 ?_
      obtain ⟨h9, hf⟩ := gi_of hf
      refine va_iald hx hb hK hP 1 0 rfl rfl h9 dL_lay_184 ?_
      obtain ⟨u11, c10, hf⟩ := bd_of hf
      refine K_number (rest := []) X hK c10 hT hP hD hS hA hl.1 (Nat.le_of_ble_eq_true rfl) dL_lay_185 ⟨rfl, rfl⟩ ⟨Nat.zero_le _, Nat.zero_le _⟩ (fun fl tp vm H locs hT hP hD hS => ?_)
      refine lv_aload_n hx hb dL_lay_188 rfl (lv_at hl 0 rfl) ?_
      refine lv_aload_n hx hb dL_lay_189 rfl (lv_at hl 1 rfl) ?_
      refine va_ldcS hx hb hown (hY 10 (by decide)).1 dL_lay_190 ?_
      obtain ⟨u13, c12, hf⟩ := bd_of hf
      refine K_say (rest := []) (t := 10) X hK hY (by decide) c12 hT hP hD hS hA hl.1 (Nat.le_of_ble_eq_true rfl) dL_lay_192 ⟨rfl, rfl⟩ ⟨Nat.zero_le _, Nat.zero_le _⟩ (fun fl tp vm H locs hT hP hD hS => ?_)
      refine lv_aload_n hx hb dL_lay_195 rfl (lv_at hl 0 rfl) ?_
      refine lv_aload_n hx hb dL_lay_196 rfl (lv_at hl 1 rfl) ?_
      refine lv_bipush (v := (nI 112)) hx hb dL_lay_197 (by decide) ?_
      refine lv_iload_n hx hb dL_lay_199 rfl (lv_at hl 3 rfl) ?_
      obtain ⟨u15, c14, hf⟩ := bd_of hf
      refine K_name (rest := []) X hK c14 hT hP hD hS hA hl.1 (Nat.le_of_ble_eq_true rfl) dL_lay_200 ⟨rfl, rfl⟩ ⟨Nat.zero_le _, Nat.zero_le _⟩ (fun fl tp vm H locs hT hP hD hS => ?_)
      refine lv_aload_n hx hb dL_lay_203 rfl (lv_at hl 0 rfl) ?_
      refine lv_aload_n hx hb dL_lay_204 rfl (lv_at hl 1 rfl) ?_
      refine va_ldcS hx hb hown (hY 11 (by decide)).1 dL_lay_205 ?_
      obtain ⟨u17, c16, hf⟩ := bd_of hf
      refine K_say (rest := []) (t := 11) X hK hY (by decide) c16 hT hP hD hS hA hl.1 (Nat.le_of_ble_eq_true rfl) dL_lay_207 ⟨rfl, rfl⟩ ⟨Nat.zero_le _, Nat.zero_le _⟩ (fun fl tp vm H locs hT hP hD hS => ?_)
      refine lv_aload_n hx hb dL_lay_210 rfl (lv_at hl 0 rfl) ?_
      refine lv_aload_n hx hb dL_lay_211 rfl (lv_at hl 1 rfl) ?_
      refine lv_aload_n hx hb dL_lay_212 rfl (lv_at hl 2 rfl) ?_
      refine lv_bipush (v := (nI 48)) hx hb dL_lay_213 (by decide) ?_
      refine lv_iload_n hx hb dL_lay_215 rfl (lv_at hl 3 rfl) ?_
      refine lv_iadd hx hb dL_lay_216 ?_
      obtain ⟨h18, hf⟩ := gi_of hf
      refine va_iald hx hb hK hP 1 0 rfl rfl h18 dL_lay_217 ?_
      obtain ⟨u20, c19, hf⟩ := bd_of hf
      refine K_number (rest := []) X hK c19 hT hP hD hS hA hl.1 (Nat.le_of_ble_eq_true rfl) dL_lay_218 ⟨rfl, rfl⟩ ⟨Nat.zero_le _, Nat.zero_le _⟩ (fun fl tp vm H locs hT hP hD hS => ?_)
      refine lv_aload_n hx hb dL_lay_221 rfl (lv_at hl 0 rfl) ?_
      refine lv_aload_n hx hb dL_lay_222 rfl (lv_at hl 1 rfl) ?_
      refine va_ldcS hx hb hown (hY 5 (by decide)).1 dL_lay_223 ?_
      obtain ⟨u22, c21, hf⟩ := bd_of hf
      refine K_say (rest := []) (t := 5) X hK hY (by decide) c21 hT hP hD hS hA hl.1 (Nat.le_of_ble_eq_true rfl) dL_lay_225 ⟨rfl, rfl⟩ ⟨Nat.zero_le _, Nat.zero_le _⟩ (fun fl tp vm H locs hT hP hD hS => ?_)
      obtain ⟨y23, e23⟩ : ∃ y : Int32, y = z3 + (nI 1) := ⟨_, rfl⟩
      replace hf := lt_of e23 hf
      refine lv_iinc (v := y23) (lv' := [(3, .int y23), (0, .ref (a 0)), (1, .ref am), (2, .ref ah)]) hx hb dL_lay_228 hl (k := 3) rfl (by rw [e23]; rfl) (by decide) rfl (fun ls hl => ?_)
      refine lv_goto (tgt := 148) hx hb dL_lay_231 (by decide) ?_
      exact ih y23 u22 hf _ _ _ _ _ _ hT hP hD hS (lv_sub hl [1, 2, 3, 0] rfl)

set_option maxHeartbeats 4000000 in
set_option maxRecDepth 100000 in
theorem w_L_lay_93 {p : Program} {l : Launch} {e : Env} {s : State} {m : MethodId} {below : List Frame} {meth : Method} {c : Code} {D : va_G} {T : Nat → ClassId} {args : Array Value} {A : Nat → Prop} {a : Nat → Nat} {am ah : Nat} {K V : Nat → Nat} {F : Option Nat} (X : mp_X p s m meth c args RL "lay" cL_lay 5 (some .boolean)) (hK : va_K D mp_cl (mp_ty T) s) (hA : ∀ q, s.heap.size ≤ q → A q) (hY : SYK K V F A s s.heap) (fu : Nat) (vh : Nat → Int32) (r_ : Int32) (o_σ : Nat → Nat) :
    ∀ (n : Nat) (z3 : Int32) (L : List Nat), f_L_lay_93 fu vh  n z3 L = some (r_, o_σ) → ∀ (H : Heap) (locs : List Loc) (ls : Array Slot) (fl : Int32) (tp vm : Nat → Int32), SD5 L fl tp vm → va_P D mp_cl (lW T a am ah vh fl tp vm) H → va_D A (lW T a am ah vh fl tp vm) → va_S A s.heap H locs → lv_has ls 5 [(0, .ref (a 0)), (1, .ref am), (2, .ref ah), (3, .int z3)] → W p l e ({ frames := 9, cells := 0, slots := 0, locals := 207 } : Room) s m args below meth c H locs 0 0 (MQ below (lay_Q D T a am ah vh r_ o_σ A) args s 0 0 A) (F0 m 93 ls []) := by
  have hx := X.1
  have hb := X.2.1
  have hml := X.2.2.1
  have hown := X.2.2.2.2.1
  have hts := X.2.2.2.2.2.1
  intro n
  induction n with
  | zero => intro z3 L hf; exact absurd hf (by intro h; cases h)
  | succ n ih =>
    intro z3 L hf H locs ls fl tp vm hT hP hD hS hl
    replace hf : gi_ (nI 1) 62 ((if (vh ((nI 1)).toNatClampNeg) ≤ z3 then f_L_lay_148 fu vh  fu (nI 0) L else bd_ (s_say 6 L) (fun (u4 : List Nat) => bd_ (s_name (nI 115) z3 u4) (fun (u6 : List Nat) => bd_ (s_say 7 u6) (fun (u8 : List Nat) => gi_ ((nI 36) + z3) 62 (bd_ (s_number (vh ((nI 36) + z3).toNatClampNeg) u8) (fun (u11 : List Nat) => bd_ (s_say 5 u11) (fun (u13 : List Nat) => lt_ (z3 + (nI 1)) (fun (y14 : Int32) => f_L_lay_93 fu vh  n y14 u13))))))))) = some (r_, o_σ) := hf
    refine lv_iload_n hx hb dL_lay_93 rfl (lv_at hl 3 rfl) ?_
    refine lv_aload_n hx hb dL_lay_94 rfl (lv_at hl 2 rfl) ?_
    refine lv_iconst (v := (nI 1)) hx hb dL_lay_95 (by decide) ?_
    obtain ⟨h1, hf⟩ := gi_of hf
    refine va_iald hx hb hK hP 1 0 rfl rfl h1 dL_lay_96 ?_
    refine lv_icmp_ge (tgt := 146) hx hb dL_lay_97 (by decide) (fun h2 => ?_) (fun h2 => ?_)
    · replace hf := if_t hf h2
      refine lv_iconst (v := (nI 0)) hx hb dL_lay_146 (by decide) ?_
      refine lv_istore_n (lv' := [(3, .int (nI 0)), (0, .ref (a 0)), (1, .ref am), (2, .ref ah)]) hx hb dL_lay_147 rfl hl (by decide) rfl (fun ls hl => ?_)
      exact w_L_lay_148 X hK hA hY fu vh r_ o_σ  fu (nI 0) L hf _ _ _ _ _ _ hT hP hD hS (lv_sub hl [1, 2, 3, 0] rfl)
    · replace hf := if_f hf h2
      refine lv_aload_n hx hb dL_lay_100 rfl (lv_at hl 0 rfl) ?_
      refine lv_aload_n hx hb dL_lay_101 rfl (lv_at hl 1 rfl) ?_
      refine va_ldcS hx hb hown (hY 6 (by decide)).1 dL_lay_102 ?_
      obtain ⟨u4, c3, hf⟩ := bd_of hf
      refine K_say (rest := []) (t := 6) X hK hY (by decide) c3 hT hP hD hS hA hl.1 (Nat.le_of_ble_eq_true rfl) dL_lay_104 ⟨rfl, rfl⟩ ⟨Nat.zero_le _, Nat.zero_le _⟩ (fun fl tp vm H locs hT hP hD hS => ?_)
      refine lv_aload_n hx hb dL_lay_107 rfl (lv_at hl 0 rfl) ?_
      refine lv_aload_n hx hb dL_lay_108 rfl (lv_at hl 1 rfl) ?_
      refine lv_bipush (v := (nI 115)) hx hb dL_lay_109 (by decide) ?_
      refine lv_iload_n hx hb dL_lay_111 rfl (lv_at hl 3 rfl) ?_
      obtain ⟨u6, c5, hf⟩ := bd_of hf
      refine K_name (rest := []) X hK c5 hT hP hD hS hA hl.1 (Nat.le_of_ble_eq_true rfl) dL_lay_112 ⟨rfl, rfl⟩ ⟨Nat.zero_le _, Nat.zero_le _⟩ (fun fl tp vm H locs hT hP hD hS => ?_)
      refine lv_aload_n hx hb dL_lay_115 rfl (lv_at hl 0 rfl) ?_
      refine lv_aload_n hx hb dL_lay_116 rfl (lv_at hl 1 rfl) ?_
      refine va_ldcS hx hb hown (hY 7 (by decide)).1 dL_lay_117 ?_
      obtain ⟨u8, c7, hf⟩ := bd_of hf
      refine K_say (rest := []) (t := 7) X hK hY (by decide) c7 hT hP hD hS hA hl.1 (Nat.le_of_ble_eq_true rfl) dL_lay_119 ⟨rfl, rfl⟩ ⟨Nat.zero_le _, Nat.zero_le _⟩ (fun fl tp vm H locs hT hP hD hS => ?_)
      refine lv_aload_n hx hb dL_lay_122 rfl (lv_at hl 0 rfl) ?_
      refine lv_aload_n hx hb dL_lay_123 rfl (lv_at hl 1 rfl) ?_
      refine lv_aload_n hx hb dL_lay_124 rfl (lv_at hl 2 rfl) ?_
      refine lv_bipush (v := (nI 36)) hx hb dL_lay_125 (by decide) ?_
      refine lv_iload_n hx hb dL_lay_127 rfl (lv_at hl 3 rfl) ?_
      refine lv_iadd hx hb dL_lay_128 ?_
      obtain ⟨h9, hf⟩ := gi_of hf
      refine va_iald hx hb hK hP 1 0 rfl rfl h9 dL_lay_129 ?_
      obtain ⟨u11, c10, hf⟩ := bd_of hf
      refine K_number (rest := []) X hK c10 hT hP hD hS hA hl.1 (Nat.le_of_ble_eq_true rfl) dL_lay_130 ⟨rfl, rfl⟩ ⟨Nat.zero_le _, Nat.zero_le _⟩ (fun fl tp vm H locs hT hP hD hS => ?_)
      refine lv_aload_n hx hb dL_lay_133 rfl (lv_at hl 0 rfl) ?_
      refine lv_aload_n hx hb dL_lay_134 rfl (lv_at hl 1 rfl) ?_
      refine va_ldcS hx hb hown (hY 5 (by decide)).1 dL_lay_135 ?_
      obtain ⟨u13, c12, hf⟩ := bd_of hf
      refine K_say (rest := []) (t := 5) X hK hY (by decide) c12 hT hP hD hS hA hl.1 (Nat.le_of_ble_eq_true rfl) dL_lay_137 ⟨rfl, rfl⟩ ⟨Nat.zero_le _, Nat.zero_le _⟩ (fun fl tp vm H locs hT hP hD hS => ?_)
      obtain ⟨y14, e14⟩ : ∃ y : Int32, y = z3 + (nI 1) := ⟨_, rfl⟩
      replace hf := lt_of e14 hf
      refine lv_iinc (v := y14) (lv' := [(3, .int y14), (0, .ref (a 0)), (1, .ref am), (2, .ref ah)]) hx hb dL_lay_140 hl (k := 3) rfl (by rw [e14]; rfl) (by decide) rfl (fun ls hl => ?_)
      refine lv_goto (tgt := 93) hx hb dL_lay_143 (by decide) ?_
      exact ih y14 u13 hf _ _ _ _ _ _ hT hP hD hS (lv_sub hl [1, 2, 3, 0] rfl)

set_option maxHeartbeats 4000000 in
set_option maxRecDepth 100000 in
theorem w_L_lay_63 {p : Program} {l : Launch} {e : Env} {s : State} {m : MethodId} {below : List Frame} {meth : Method} {c : Code} {D : va_G} {T : Nat → ClassId} {args : Array Value} {A : Nat → Prop} {a : Nat → Nat} {am ah : Nat} {K V : Nat → Nat} {F : Option Nat} (X : mp_X p s m meth c args RL "lay" cL_lay 5 (some .boolean)) (hK : va_K D mp_cl (mp_ty T) s) (hA : ∀ q, s.heap.size ≤ q → A q) (hY : SYK K V F A s s.heap) (fu : Nat) (vh : Nat → Int32) (r_ : Int32) (o_σ : Nat → Nat) (KK7 : Int32 → List Nat → Option (Int32 × (Nat → Nat))) (hKK7 : ∀ (z3 : Int32) (L : List Nat), KK7 z3 L = some (r_, o_σ) → ∀ (H : Heap) (locs : List Loc) (ls : Array Slot) (fl : Int32) (tp vm : Nat → Int32), SD5 L fl tp vm → va_P D mp_cl (lW T a am ah vh fl tp vm) H → va_D A (lW T a am ah vh fl tp vm) → va_S A s.heap H locs → lv_has ls 5 [(0, .ref (a 0)), (1, .ref am), (2, .ref ah), (3, .int z3)] → W p l e ({ frames := 9, cells := 0, slots := 0, locals := 207 } : Room) s m args below meth c H locs 0 0 (MQ below (lay_Q D T a am ah vh r_ o_σ A) args s 0 0 A) (F0 m 7 ls [])) :
    ∀  (z3 : Int32) (L : List Nat), f_L_lay_63 fu vh KK7 z3 L = some (r_, o_σ) → ∀ (H : Heap) (locs : List Loc) (ls : Array Slot) (fl : Int32) (tp vm : Nat → Int32), SD5 L fl tp vm → va_P D mp_cl (lW T a am ah vh fl tp vm) H → va_D A (lW T a am ah vh fl tp vm) → va_S A s.heap H locs → lv_has ls 5 [(0, .ref (a 0)), (1, .ref am), (2, .ref ah), (3, .int z3)] → W p l e ({ frames := 9, cells := 0, slots := 0, locals := 207 } : Room) s m args below meth c H locs 0 0 (MQ below (lay_Q D T a am ah vh r_ o_σ A) args s 0 0 A) (F0 m 63 ls []) := by
  have hx := X.1
  have hb := X.2.1
  have hml := X.2.2.1
  have hown := X.2.2.2.2.1
  have hts := X.2.2.2.2.2.1
  intro z3 L hf H locs ls fl tp vm hT hP hD hS hl
  replace hf : gi_ ((nI 20) + z3) 62 ((if (vh ((nI 20) + z3).toNatClampNeg) = (nI 1) then bd_ (s_say 4 L) (fun (u7 : List Nat) => lt_ (z3 + (nI 1)) (fun (y8 : Int32) => KK7 y8 u7)) else bd_ (s_say 5 L) (fun (u4 : List Nat) => lt_ (z3 + (nI 1)) (fun (y5 : Int32) => KK7 y5 u4)))) = some (r_, o_σ) := hf
  refine lv_aload_n hx hb dL_lay_63 rfl (lv_at hl 0 rfl) ?_
  refine lv_aload_n hx hb dL_lay_64 rfl (lv_at hl 1 rfl) ?_
  refine lv_aload_n hx hb dL_lay_65 rfl (lv_at hl 2 rfl) ?_
  refine lv_bipush (v := (nI 20)) hx hb dL_lay_66 (by decide) ?_
  refine lv_iload_n hx hb dL_lay_68 rfl (lv_at hl 3 rfl) ?_
  refine lv_iadd hx hb dL_lay_69 ?_
  obtain ⟨h1, hf⟩ := gi_of hf
  refine va_iald hx hb hK hP 1 0 rfl rfl h1 dL_lay_70 ?_
  refine lv_iconst (v := (nI 1)) hx hb dL_lay_71 (by decide) ?_
  refine lv_icmp_ne (tgt := 80) hx hb dL_lay_72 (by decide) (fun h2 => ?_) (fun h2 => ?_)
  · replace hf := if_f hf h2
    refine va_ldcS hx hb hown (hY 5 (by decide)).1 dL_lay_80 ?_
    obtain ⟨u4, c3, hf⟩ := bd_of hf
    refine K_say (rest := []) (t := 5) X hK hY (by decide) c3 hT hP hD hS hA hl.1 (Nat.le_of_ble_eq_true rfl) dL_lay_82 ⟨rfl, rfl⟩ ⟨Nat.zero_le _, Nat.zero_le _⟩ (fun fl tp vm H locs hT hP hD hS => ?_)
    obtain ⟨y5, e5⟩ : ∃ y : Int32, y = z3 + (nI 1) := ⟨_, rfl⟩
    replace hf := lt_of e5 hf
    refine lv_iinc (v := y5) (lv' := [(3, .int y5), (0, .ref (a 0)), (1, .ref am), (2, .ref ah)]) hx hb dL_lay_85 hl (k := 3) rfl (by rw [e5]; rfl) (by decide) rfl (fun ls hl => ?_)
    refine lv_goto (tgt := 7) hx hb dL_lay_88 (by decide) ?_
    exact hKK7 y5 u4 hf _ _ _ _ _ _ hT hP hD hS (lv_sub hl [1, 2, 3, 0] rfl)
  · replace hf := if_t hf h2
    refine va_ldcS hx hb hown (hY 4 (by decide)).1 dL_lay_75 ?_
    refine lv_goto (tgt := 82) hx hb dL_lay_77 (by decide) ?_
    obtain ⟨u7, c6, hf⟩ := bd_of hf
    refine K_say (rest := []) (t := 4) X hK hY (by decide) c6 hT hP hD hS hA hl.1 (Nat.le_of_ble_eq_true rfl) dL_lay_82 ⟨rfl, rfl⟩ ⟨Nat.zero_le _, Nat.zero_le _⟩ (fun fl tp vm H locs hT hP hD hS => ?_)
    obtain ⟨y8, e8⟩ : ∃ y : Int32, y = z3 + (nI 1) := ⟨_, rfl⟩
    replace hf := lt_of e8 hf
    refine lv_iinc (v := y8) (lv' := [(3, .int y8), (0, .ref (a 0)), (1, .ref am), (2, .ref ah)]) hx hb dL_lay_85 hl (k := 3) rfl (by rw [e8]; rfl) (by decide) rfl (fun ls hl => ?_)
    refine lv_goto (tgt := 7) hx hb dL_lay_88 (by decide) ?_
    exact hKK7 y8 u7 hf _ _ _ _ _ _ hT hP hD hS (lv_sub hl [1, 2, 3, 0] rfl)

set_option maxHeartbeats 4000000 in
set_option maxRecDepth 100000 in
theorem w_L_lay_7 {p : Program} {l : Launch} {e : Env} {s : State} {m : MethodId} {below : List Frame} {meth : Method} {c : Code} {D : va_G} {T : Nat → ClassId} {args : Array Value} {A : Nat → Prop} {a : Nat → Nat} {am ah : Nat} {K V : Nat → Nat} {F : Option Nat} (X : mp_X p s m meth c args RL "lay" cL_lay 5 (some .boolean)) (hK : va_K D mp_cl (mp_ty T) s) (hA : ∀ q, s.heap.size ≤ q → A q) (hY : SYK K V F A s s.heap) (fu : Nat) (vh : Nat → Int32) (r_ : Int32) (o_σ : Nat → Nat) :
    ∀ (n : Nat) (z3 : Int32) (L : List Nat), f_L_lay_7 fu vh  n z3 L = some (r_, o_σ) → ∀ (H : Heap) (locs : List Loc) (ls : Array Slot) (fl : Int32) (tp vm : Nat → Int32), SD5 L fl tp vm → va_P D mp_cl (lW T a am ah vh fl tp vm) H → va_D A (lW T a am ah vh fl tp vm) → va_S A s.heap H locs → lv_has ls 5 [(0, .ref (a 0)), (1, .ref am), (2, .ref ah), (3, .int z3)] → W p l e ({ frames := 9, cells := 0, slots := 0, locals := 207 } : Room) s m args below meth c H locs 0 0 (MQ below (lay_Q D T a am ah vh r_ o_σ A) args s 0 0 A) (F0 m 7 ls []) := by
  have hx := X.1
  have hb := X.2.1
  have hml := X.2.2.1
  have hown := X.2.2.2.2.1
  have hts := X.2.2.2.2.2.1
  intro n
  induction n with
  | zero => intro z3 L hf; exact absurd hf (by intro h; cases h)
  | succ n ih =>
    intro z3 L hf H locs ls fl tp vm hT hP hD hS hl
    replace hf : gi_ (nI 0) 62 ((if (vh ((nI 0)).toNatClampNeg) ≤ z3 then f_L_lay_93 fu vh  fu (nI 0) L else bd_ (s_say 1 L) (fun (u4 : List Nat) => bd_ (s_name (nI 99) z3 u4) (fun (u6 : List Nat) => bd_ (s_say 2 u6) (fun (u8 : List Nat) => gi_ ((nI 4) + z3) 62 (bd_ (s_number (vh ((nI 4) + z3).toNatClampNeg) u8) (fun (u11 : List Nat) => gi_ ((nI 12) + z3) 62 ((if (vh ((nI 12) + z3).toNatClampNeg) = (nI 1) then bd_ (s_say 3 u11) (fun (u15 : List Nat) => f_L_lay_63 fu vh (f_L_lay_7 fu vh  n) z3 u15) else f_L_lay_63 fu vh (f_L_lay_7 fu vh  n) z3 u11))))))))) = some (r_, o_σ) := hf
    refine lv_iload_n hx hb dL_lay_7 rfl (lv_at hl 3 rfl) ?_
    refine lv_aload_n hx hb dL_lay_8 rfl (lv_at hl 2 rfl) ?_
    refine lv_iconst (v := (nI 0)) hx hb dL_lay_9 (by decide) ?_
    obtain ⟨h1, hf⟩ := gi_of hf
    refine va_iald hx hb hK hP 1 0 rfl rfl h1 dL_lay_10 ?_
    refine lv_icmp_ge (tgt := 91) hx hb dL_lay_11 (by decide) (fun h2 => ?_) (fun h2 => ?_)
    · replace hf := if_t hf h2
      refine lv_iconst (v := (nI 0)) hx hb dL_lay_91 (by decide) ?_
      refine lv_istore_n (lv' := [(3, .int (nI 0)), (0, .ref (a 0)), (1, .ref am), (2, .ref ah)]) hx hb dL_lay_92 rfl hl (by decide) rfl (fun ls hl => ?_)
      exact w_L_lay_93 X hK hA hY fu vh r_ o_σ  fu (nI 0) L hf _ _ _ _ _ _ hT hP hD hS (lv_sub hl [1, 2, 3, 0] rfl)
    · replace hf := if_f hf h2
      refine lv_aload_n hx hb dL_lay_14 rfl (lv_at hl 0 rfl) ?_
      refine lv_aload_n hx hb dL_lay_15 rfl (lv_at hl 1 rfl) ?_
      refine va_ldcS hx hb hown (hY 1 (by decide)).1 dL_lay_16 ?_
      obtain ⟨u4, c3, hf⟩ := bd_of hf
      refine K_say (rest := []) (t := 1) X hK hY (by decide) c3 hT hP hD hS hA hl.1 (Nat.le_of_ble_eq_true rfl) dL_lay_18 ⟨rfl, rfl⟩ ⟨Nat.zero_le _, Nat.zero_le _⟩ (fun fl tp vm H locs hT hP hD hS => ?_)
      refine lv_aload_n hx hb dL_lay_21 rfl (lv_at hl 0 rfl) ?_
      refine lv_aload_n hx hb dL_lay_22 rfl (lv_at hl 1 rfl) ?_
      refine lv_bipush (v := (nI 99)) hx hb dL_lay_23 (by decide) ?_
      refine lv_iload_n hx hb dL_lay_25 rfl (lv_at hl 3 rfl) ?_
      obtain ⟨u6, c5, hf⟩ := bd_of hf
      refine K_name (rest := []) X hK c5 hT hP hD hS hA hl.1 (Nat.le_of_ble_eq_true rfl) dL_lay_26 ⟨rfl, rfl⟩ ⟨Nat.zero_le _, Nat.zero_le _⟩ (fun fl tp vm H locs hT hP hD hS => ?_)
      refine lv_aload_n hx hb dL_lay_29 rfl (lv_at hl 0 rfl) ?_
      refine lv_aload_n hx hb dL_lay_30 rfl (lv_at hl 1 rfl) ?_
      refine va_ldcS hx hb hown (hY 2 (by decide)).1 dL_lay_31 ?_
      obtain ⟨u8, c7, hf⟩ := bd_of hf
      refine K_say (rest := []) (t := 2) X hK hY (by decide) c7 hT hP hD hS hA hl.1 (Nat.le_of_ble_eq_true rfl) dL_lay_33 ⟨rfl, rfl⟩ ⟨Nat.zero_le _, Nat.zero_le _⟩ (fun fl tp vm H locs hT hP hD hS => ?_)
      refine lv_aload_n hx hb dL_lay_36 rfl (lv_at hl 0 rfl) ?_
      refine lv_aload_n hx hb dL_lay_37 rfl (lv_at hl 1 rfl) ?_
      refine lv_aload_n hx hb dL_lay_38 rfl (lv_at hl 2 rfl) ?_
      refine lv_iconst (v := (nI 4)) hx hb dL_lay_39 (by decide) ?_
      refine lv_iload_n hx hb dL_lay_40 rfl (lv_at hl 3 rfl) ?_
      refine lv_iadd hx hb dL_lay_41 ?_
      obtain ⟨h9, hf⟩ := gi_of hf
      refine va_iald hx hb hK hP 1 0 rfl rfl h9 dL_lay_42 ?_
      obtain ⟨u11, c10, hf⟩ := bd_of hf
      refine K_number (rest := []) X hK c10 hT hP hD hS hA hl.1 (Nat.le_of_ble_eq_true rfl) dL_lay_43 ⟨rfl, rfl⟩ ⟨Nat.zero_le _, Nat.zero_le _⟩ (fun fl tp vm H locs hT hP hD hS => ?_)
      refine lv_aload_n hx hb dL_lay_46 rfl (lv_at hl 2 rfl) ?_
      refine lv_bipush (v := (nI 12)) hx hb dL_lay_47 (by decide) ?_
      refine lv_iload_n hx hb dL_lay_49 rfl (lv_at hl 3 rfl) ?_
      refine lv_iadd hx hb dL_lay_50 ?_
      obtain ⟨h12, hf⟩ := gi_of hf
      refine va_iald hx hb hK hP 1 0 rfl rfl h12 dL_lay_51 ?_
      refine lv_iconst (v := (nI 1)) hx hb dL_lay_52 (by decide) ?_
      refine lv_icmp_ne (tgt := 63) hx hb dL_lay_53 (by decide) (fun h13 => ?_) (fun h13 => ?_)
      · replace hf := if_f hf h13
        exact w_L_lay_63 X hK hA hY fu vh r_ o_σ (f_L_lay_7 fu vh  n) (ih) z3 u11 hf _ _ _ _ _ _ hT hP hD hS (lv_sub hl [0, 1, 2, 3] rfl)
      · replace hf := if_t hf h13
        refine lv_aload_n hx hb dL_lay_56 rfl (lv_at hl 0 rfl) ?_
        refine lv_aload_n hx hb dL_lay_57 rfl (lv_at hl 1 rfl) ?_
        refine va_ldcS hx hb hown (hY 3 (by decide)).1 dL_lay_58 ?_
        obtain ⟨u15, c14, hf⟩ := bd_of hf
        refine K_say (rest := []) (t := 3) X hK hY (by decide) c14 hT hP hD hS hA hl.1 (Nat.le_of_ble_eq_true rfl) dL_lay_60 ⟨rfl, rfl⟩ ⟨Nat.zero_le _, Nat.zero_le _⟩ (fun fl tp vm H locs hT hP hD hS => ?_)
        exact w_L_lay_63 X hK hA hY fu vh r_ o_σ (f_L_lay_7 fu vh  n) (ih) z3 u15 hf _ _ _ _ _ _ hT hP hD hS (lv_sub hl [0, 1, 2, 3] rfl)

set_option maxHeartbeats 4000000 in
set_option maxRecDepth 100000 in
theorem w_L_lay_0 {p : Program} {l : Launch} {e : Env} {s : State} {m : MethodId} {below : List Frame} {meth : Method} {c : Code} {D : va_G} {T : Nat → ClassId} {args : Array Value} {A : Nat → Prop} {a : Nat → Nat} {am ah : Nat} {K V : Nat → Nat} {F : Option Nat} (X : mp_X p s m meth c args RL "lay" cL_lay 5 (some .boolean)) (hK : va_K D mp_cl (mp_ty T) s) (hA : ∀ q, s.heap.size ≤ q → A q) (hY : SYK K V F A s s.heap) (fu : Nat) (vh : Nat → Int32) (r_ : Int32) (o_σ : Nat → Nat) :
    ∀  (L : List Nat), f_L_lay_0 fu vh  L = some (r_, o_σ) → ∀ (H : Heap) (locs : List Loc) (ls : Array Slot) (fl : Int32) (tp vm : Nat → Int32), SD5 L fl tp vm → va_P D mp_cl (lW T a am ah vh fl tp vm) H → va_D A (lW T a am ah vh fl tp vm) → va_S A s.heap H locs → lv_has ls 5 [(0, .ref (a 0)), (1, .ref am), (2, .ref ah)] → W p l e ({ frames := 9, cells := 0, slots := 0, locals := 207 } : Room) s m args below meth c H locs 0 0 (MQ below (lay_Q D T a am ah vh r_ o_σ A) args s 0 0 A) (F0 m 0 ls []) := by
  have hx := X.1
  have hb := X.2.1
  have hml := X.2.2.1
  have hown := X.2.2.2.2.1
  have hts := X.2.2.2.2.2.1
  intro L hf H locs ls fl tp vm hT hP hD hS hl
  replace hf : f_L_lay_7 fu vh  fu (nI 0) L = some (r_, o_σ) := hf
  refine lv_aload_n hx hb dL_lay_0 rfl (lv_at hl 1 rfl) ?_
  refine lv_bipush (v := (nI 22)) hx hb dL_lay_1 (by decide) ?_
  refine lv_iconst (v := (nI 0)) hx hb dL_lay_3 (by decide) ?_
  refine va_iast hx hb hK hP hD hS 0 0 rfl rfl (vp_in_nI (by decide) (by decide)) dL_lay_4 (fun H locs hP hD hS => ?_)
  replace hP : va_P D mp_cl (lW T a am ah vh fl tp (upd vm (nI 22).toNatClampNeg (nI 0))) H := hP
  replace hD : va_D A (lW T a am ah vh fl tp (upd vm (nI 22).toNatClampNeg (nI 0))) := hD
  replace hT : SD5 L fl tp (upd vm (nI 22).toNatClampNeg (nI 0)) := sd5_22 hT
  generalize upd vm (nI 22).toNatClampNeg (nI 0) = vm at hT hP hD
  refine lv_iconst (v := (nI 0)) hx hb dL_lay_5 (by decide) ?_
  refine lv_istore_n (lv' := [(3, .int (nI 0)), (0, .ref (a 0)), (1, .ref am), (2, .ref ah)]) hx hb dL_lay_6 rfl hl (by decide) rfl (fun ls hl => ?_)
  exact w_L_lay_7 X hK hA hY fu vh r_ o_σ  fu (nI 0) L hf _ _ _ _ _ _ hT hP hD hS (lv_sub hl [1, 2, 3, 0] rfl)

theorem sd5_0 : SD5 [] (nI 0) (f0 6) (fun _ => nI 0) := ⟨by decide, fun k hk => absurd hk (Nat.not_lt_zero k), rfl, rfl, rfl, rfl, fun k hk => absurd hk (Nat.not_lt_zero k), fun k hk => absurd hk (Nat.not_lt_zero k)⟩
theorem c_L_lay (l : Launch) (D : va_G) (T : Nat → ClassId) (K V : Nat → Nat) (F : Option Nat) (a : Nat → Nat) (am ah : Nat) (fu : Nat) (vh : Nat → Int32) (r_ : Int32) (o_σ : Nat → Nat) (hf : f_L_lay_0 fu vh [] = some (r_, o_σ)) :
    mp_MH l D T K V F yL_lay cL_lay 5 (some .boolean) ({ frames := 9, cells := 0, slots := 0, locals := 207 }) 0 0 [.ref (a 0), .ref am, .ref ah] (lW T a am ah vh (nI 0) (f0 6) (fun _ => nI 0)) (lay_Q D T a am ah vh r_ o_σ) := by
  refine mp_ofH (by decide) (Nat.le_of_ble_eq_true rfl) rfl ?_
  intro p e s m args below meth c A ls hY X hK hP hD hS hA hl
  replace hl : lv_has ls 5 [(0, .ref (a 0)), (1, .ref am), (2, .ref ah)] := hl
  exact w_L_lay_0 X hK hA hY fu vh r_ o_σ [] hf _ _ _ _ _ _ sd5_0 hP hD hS hl
