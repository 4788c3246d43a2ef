/-! law: its walk -/
set_option maxHeartbeats 4000000 in
set_option maxRecDepth 100000 in
theorem w_L_law_481 {p : Program} {l : Launch} {e : Env} {s : State} {m : MethodId} {below : List Frame} {meth : Method} {c : Code} {D : va_G} {T : Nat → ClassId} {nm : String} {b ah : Nat} {a : Nat → Nat} (X : mp_X p s m meth c #[.ref b] RL nm cL_law 29 (some .boolean)) (hK : va_K D mp_cl (mp_ty T) s) (hbl : b < s.heap.size) (fu : Nat) (n1 : Nat) (xs : Nat → Int32) (vh : Nat → Int32) (hX : va_X b n1 xs s s.heap) (cb sb : Nat) (hcb : cb ≤ 600000 ∧ sb ≤ 7302250) (K55 : Int32 → Int32 → (Nat → Nat) → Option (Nat → Nat) → Nat → (Nat → Nat) → Int64 → Int64 → Option (Int32)) (hK55 : ∀ (z4 : Int32) (z5 : Int32) (σ : (Nat → Nat)) (M : Option (Nat → Nat)) (bm : Nat) (bo : (Nat → Nat)) (fa : Int64) (fb : Int64), K55 z4 z5 σ M bm bo fa fb = some (nI 1) → ∀ (H : Heap) (locs : List Loc) (ls : Array Slot) (i : Nat → Int32) (j : Nat → Int64) (f : Nat → Nat → Int32) (g : Nat → Nat → Int64) (C S : Nat), REL5 σ M bm bo fa fb i j f g → va_P D mp_cl ([(ah, mp_aI T 62 vh)] ++ aW T a i j f g) H → va_D (law_A s) ([(ah, mp_aI T 62 vh)] ++ aW T a i j f g) → va_S (law_A s) s.heap H locs → C ≤ cb → S ≤ sb → lv_has ls 29 [(0, .ref b), (1, .ref (a 0)), (3, .ref ah), (4, .int z4), (5, .int z5)] → W p l e room_1 s m #[.ref b] below meth c H locs C S (lw_Z below #[.ref b] s) (F0 m 55 ls [])) :
    ∀  (z4 : Int32) (z5 : Int32) (z6 : Int32) (z8 : Int32) (z9 : Int32) (z10 : Int32) (z11 : Int32) (z12 : Int32) (σ : (Nat → Nat)) (M : Option (Nat → Nat)) (bm : Nat) (bo : (Nat → Nat)) (fa : Int64) (fb : Int64), f_L_law_481 fu n1 xs vh K55 z4 z5 z6 z8 z9 z10 z11 z12 σ M bm bo fa fb = some (nI 1) → ∀ (H : Heap) (locs : List Loc) (ls : Array Slot) (i : Nat → Int32) (j : Nat → Int64) (f : Nat → Nat → Int32) (g : Nat → Nat → Int64) (C S : Nat), REL5 σ M bm bo fa fb i j f g → va_P D mp_cl ([(ah, mp_aI T 62 vh)] ++ aW T a i j f g) H → va_D (law_A s) ([(ah, mp_aI T 62 vh)] ++ aW T a i j f g) → va_S (law_A s) s.heap H locs → C + 2 ≤ cb → S + 11 ≤ sb → lv_has ls 29 [(0, .ref b), (1, .ref (a 0)), (3, .ref ah), (4, .int z4), (5, .int z5), (6, .int z6), (8, .int z8), (9, .int z9), (10, .int z10), (11, .int z11), (12, .int z12)] → W p l e room_1 s m #[.ref b] below meth c H locs C S (lw_Z below #[.ref b] s) (F0 m 481 ls []) := by
  have hx := X.1
  have hb := X.2.1
  have hml := X.2.2.1
  have hown := X.2.2.2.2.1
  have hts := X.2.2.2.2.2.1
  have hbA : ¬ law_A s b := Nat.not_le.mpr hbl
  have hA : ∀ q, s.heap.size ≤ q → law_A s q := fun q h => h
  intro z4 z5 z6 z8 z9 z10 z11 z12 σ M bm bo fa fb hf H locs ls i j f g C S hRel hP hD hS hC hC2 hl
  replace hf : bd_ (s_all σ) (fun (r2 : Int32) => (if r2 < 0 then f_L_law_508 fu n1 xs vh (K55) z4 z5 z6 z8 z9 z10 z11 r2 σ M bm bo fa fb else (if r2 < z12 then some (nI 0) else bd_ (s_never σ) (fun (r6 : Int32) => (if r6 = 0 then f_L_law_508 fu n1 xs vh (K55) z4 z5 z6 z8 z9 z10 z11 r2 σ M bm bo fa fb else some (nI 0)))))) = some (nI 1) := hf
  have hCS : C + 0 ≤ room_1.cells ∧ S + 0 ≤ room_1.slots := ⟨(show C + 0 ≤ 600000 by omega), (show S + 0 ≤ 7302250 by omega)⟩
  refine lv_aload_n hx hb dL_law_481 rfl (lv_at hl 1 rfl) ?_
  obtain ⟨r2, c1, hf⟩ := bd_of hf
  refine K_all (Y := [(ah, mp_aI T 62 vh)]) (rest := []) X hK hRel c1 hP hD hS hl.1 (Nat.le_of_ble_eq_true rfl) dL_law_482 hCS (fun i j f g H locs hRel hP hD hS => ?_)
  refine lv_istore (lv' := [(13, .int r2), (0, .ref b), (1, .ref (a 0)), (3, .ref ah), (4, .int z4), (5, .int z5), (6, .int z6), (8, .int z8), (9, .int z9), (10, .int z10), (11, .int z11), (12, .int z12)]) hx hb dL_law_485 hl (by decide) rfl (fun ls hl => ?_)
  refine lv_iload hx hb dL_law_487 (lv_at hl 0 rfl) ?_
  refine lv_if_lt (tgt := 508) hx hb dL_law_489 (by decide) (fun h3 => ?_) (fun h3 => ?_)
  · replace hf := if_t hf h3
    exact w_L_law_508 X hK hbl fu n1 xs vh hX cb sb hcb (K55) (hK55) z4 z5 z6 z8 z9 z10 z11 r2 σ M bm bo fa fb hf _ _ _ _ _ _ _ _ _ hRel hP hD hS (by omega) (by omega) (lv_sub hl [1, 2, 3, 4, 5, 6, 7, 8, 9, 10, 0] rfl)
  · replace hf := if_f hf h3
    refine lv_iload hx hb dL_law_492 (lv_at hl 11 rfl) ?_
    refine lv_iload hx hb dL_law_494 (lv_at hl 0 rfl) ?_
    refine lv_icmp_gt (tgt := 506) hx hb dL_law_496 (by decide) (fun h4 => ?_) (fun h4 => ?_)
    · replace hf := if_t hf h4
      refine lv_iconst (v := (nI 0)) hx hb dL_law_506 (by decide) ?_
      exact absurd (Option.some.inj hf) (by decide)
    · replace hf := if_f hf h4
      refine lv_aload_n hx hb dL_law_499 rfl (lv_at hl 2 rfl) ?_
      obtain ⟨r6, c5, hf⟩ := bd_of hf
      refine K_never (Y := [(ah, mp_aI T 62 vh)]) (rest := []) X hK hRel c5 hP hD hS hl.1 (Nat.le_of_ble_eq_true rfl) dL_law_500 hCS (fun i j f g H locs hRel hP hD hS => ?_)
      refine lv_if_eq (tgt := 508) hx hb dL_law_503 (by decide) (fun h7 => ?_) (fun h7 => ?_)
      · replace hf := if_t hf h7
        exact w_L_law_508 X hK hbl fu n1 xs vh hX cb sb hcb (K55) (hK55) z4 z5 z6 z8 z9 z10 z11 r2 σ M bm bo fa fb hf _ _ _ _ _ _ _ _ _ hRel hP hD hS (by omega) (by omega) (lv_sub hl [1, 2, 3, 4, 5, 6, 7, 8, 9, 10, 0] rfl)
      · replace hf := if_f hf h7
        refine lv_iconst (v := (nI 0)) hx hb dL_law_506 (by decide) ?_
        exact absurd (Option.some.inj hf) (by decide)

set_option maxHeartbeats 4000000 in
set_option maxRecDepth 100000 in
theorem w_L_law_454 {p : Program} {l : Launch} {e : Env} {s : State} {m : MethodId} {below : List Frame} {meth : Method} {c : Code} {D : va_G} {T : Nat → ClassId} {nm : String} {b ah : Nat} {a : Nat → Nat} (X : mp_X p s m meth c #[.ref b] RL nm cL_law 29 (some .boolean)) (hK : va_K D mp_cl (mp_ty T) s) (hbl : b < s.heap.size) (fu : Nat) (n1 : Nat) (xs : Nat → Int32) (vh : Nat → Int32) (hX : va_X b n1 xs s s.heap) (cb sb : Nat) (hcb : cb ≤ 600000 ∧ sb ≤ 7302250) (K55 : Int32 → Int32 → (Nat → Nat) → Option (Nat → Nat) → Nat → (Nat → Nat) → Int64 → Int64 → Option (Int32)) (hK55 : ∀ (z4 : Int32) (z5 : Int32) (σ : (Nat → Nat)) (M : Option (Nat → Nat)) (bm : Nat) (bo : (Nat → Nat)) (fa : Int64) (fb : Int64), K55 z4 z5 σ M bm bo fa fb = some (nI 1) → ∀ (H : Heap) (locs : List Loc) (ls : Array Slot) (i : Nat → Int32) (j : Nat → Int64) (f : Nat → Nat → Int32) (g : Nat → Nat → Int64) (C S : Nat), REL5 σ M bm bo fa fb i j f g → va_P D mp_cl ([(ah, mp_aI T 62 vh)] ++ aW T a i j f g) H → va_D (law_A s) ([(ah, mp_aI T 62 vh)] ++ aW T a i j f g) → va_S (law_A s) s.heap H locs → C ≤ cb → S ≤ sb → lv_has ls 29 [(0, .ref b), (1, .ref (a 0)), (3, .ref ah), (4, .int z4), (5, .int z5)] → W p l e room_1 s m #[.ref b] below meth c H locs C S (lw_Z below #[.ref b] s) (F0 m 55 ls [])) :
    ∀  (z4 : Int32) (z5 : Int32) (z6 : Int32) (z8 : Int32) (z9 : Int32) (z10 : Int32) (z11 : Int32) (z12 : Int32) (w0 : Int32) (w1 : Int32) (σ : (Nat → Nat)) (M : Option (Nat → Nat)) (bm : Nat) (bo : (Nat → Nat)) (fa : Int64) (fb : Int64), f_L_law_454 fu n1 xs vh K55 z4 z5 z6 z8 z9 z10 z11 z12 w0 w1 σ M bm bo fa fb = some (nI 1) → ∀ (H : Heap) (locs : List Loc) (ls : Array Slot) (i : Nat → Int32) (j : Nat → Int64) (f : Nat → Nat → Int32) (g : Nat → Nat → Int64) (C S : Nat), REL5 σ M bm bo fa fb i j f g → va_P D mp_cl ([(ah, mp_aI T 62 vh)] ++ aW T a i j f g) H → va_D (law_A s) ([(ah, mp_aI T 62 vh)] ++ aW T a i j f g) → va_S (law_A s) s.heap H locs → C + 2 ≤ cb → S + 11 ≤ sb → lv_has ls 29 [(0, .ref b), (1, .ref (a 0)), (3, .ref ah), (4, .int z4), (5, .int z5), (6, .int z6), (8, .int z8), (9, .int z9), (10, .int z10), (11, .int z11), (12, .int z12)] → W p l e room_1 s m #[.ref b] below meth c H locs C S (lw_Z below #[.ref b] s) (F0 m 454 ls [.int w1, .int w0]) := by
  have hx := X.1
  have hb := X.2.1
  have hml := X.2.2.1
  have hown := X.2.2.2.2.1
  have hts := X.2.2.2.2.2.1
  have hbA : ¬ law_A s b := Nat.not_le.mpr hbl
  have hA : ∀ q, s.heap.size ≤ q → law_A s q := fun q h => h
  intro z4 z5 z6 z8 z9 z10 z11 z12 w0 w1 σ M bm bo fa fb hf H locs ls i j f g C S hRel hP hD hS hC hC2 hl
  replace hf : (if w0 = w1 then (if z12 < 0 then f_L_law_481 fu n1 xs vh (K55) z4 z5 z6 z8 z9 z10 z11 z12 σ M bm bo fa fb else gi_ ((nI 12) + z10) 62 ((if (vh ((nI 12) + z10).toNatClampNeg) = 0 then (if z11 ≤ z12 then f_L_law_481 fu n1 xs vh (K55) z4 z5 z6 z8 z9 z10 z11 z12 σ M bm bo fa fb else some (nI 0)) else f_L_law_481 fu n1 xs vh (K55) z4 z5 z6 z8 z9 z10 z11 z12 σ M bm bo fa fb))) else some (nI 0)) = some (nI 1) := hf
  have hCS : C + 0 ≤ room_1.cells ∧ S + 0 ≤ room_1.slots := ⟨(show C + 0 ≤ 600000 by omega), (show S + 0 ≤ 7302250 by omega)⟩
  refine lv_icmp_ne (tgt := 479) hx hb dL_law_454 (by decide) (fun h1 => ?_) (fun h1 => ?_)
  · replace hf := if_f hf h1
    refine lv_iconst (v := (nI 0)) hx hb dL_law_479 (by decide) ?_
    exact absurd (Option.some.inj hf) (by decide)
  · replace hf := if_t hf h1
    refine lv_iload hx hb dL_law_457 (lv_at hl 10 rfl) ?_
    refine lv_if_lt (tgt := 481) hx hb dL_law_459 (by decide) (fun h2 => ?_) (fun h2 => ?_)
    · replace hf := if_t hf h2
      exact w_L_law_481 X hK hbl fu n1 xs vh hX cb sb hcb (K55) (hK55) z4 z5 z6 z8 z9 z10 z11 z12 σ M bm bo fa fb hf _ _ _ _ _ _ _ _ _ hRel hP hD hS (by omega) (by omega) (lv_sub hl [0, 1, 2, 3, 4, 5, 6, 7, 8, 9, 10] rfl)
    · replace hf := if_f hf h2
      refine lv_aload_n hx hb dL_law_462 rfl (lv_at hl 2 rfl) ?_
      refine lv_bipush (v := (nI 12)) hx hb dL_law_463 (by decide) ?_
      refine lv_iload hx hb dL_law_465 (lv_at hl 8 rfl) ?_
      refine lv_iadd hx hb dL_law_467 ?_
      obtain ⟨h3, hf⟩ := gi_of hf
      refine va_iald hx hb hK hP 0 0 rfl rfl h3 dL_law_468 ?_
      refine lv_if_ne (tgt := 481) hx hb dL_law_469 (by decide) (fun h4 => ?_) (fun h4 => ?_)
      · replace hf := if_f hf h4
        exact w_L_law_481 X hK hbl fu n1 xs vh hX cb sb hcb (K55) (hK55) z4 z5 z6 z8 z9 z10 z11 z12 σ M bm bo fa fb hf _ _ _ _ _ _ _ _ _ hRel hP hD hS (by omega) (by omega) (lv_sub hl [0, 1, 2, 3, 4, 5, 6, 7, 8, 9, 10] rfl)
      · replace hf := if_t hf h4
        refine lv_iload hx hb dL_law_472 (lv_at hl 9 rfl) ?_
        refine lv_iload hx hb dL_law_474 (lv_at hl 10 rfl) ?_
        refine lv_icmp_le (tgt := 481) hx hb dL_law_476 (by decide) (fun h5 => ?_) (fun h5 => ?_)
        · replace hf := if_t hf h5
          exact w_L_law_481 X hK hbl fu n1 xs vh hX cb sb hcb (K55) (hK55) z4 z5 z6 z8 z9 z10 z11 z12 σ M bm bo fa fb hf _ _ _ _ _ _ _ _ _ hRel hP hD hS (by omega) (by omega) (lv_sub hl [0, 1, 2, 3, 4, 5, 6, 7, 8, 9, 10] rfl)
        · replace hf := if_f hf h5
          refine lv_iconst (v := (nI 0)) hx hb dL_law_479 (by decide) ?_
          exact absurd (Option.some.inj hf) (by decide)

set_option maxHeartbeats 4000000 in
set_option maxRecDepth 100000 in
theorem w_L_law_436 {p : Program} {l : Launch} {e : Env} {s : State} {m : MethodId} {below : List Frame} {meth : Method} {c : Code} {D : va_G} {T : Nat → ClassId} {nm : String} {b ah : Nat} {a : Nat → Nat} (X : mp_X p s m meth c #[.ref b] RL nm cL_law 29 (some .boolean)) (hK : va_K D mp_cl (mp_ty T) s) (hbl : b < s.heap.size) (fu : Nat) (n1 : Nat) (xs : Nat → Int32) (vh : Nat → Int32) (hX : va_X b n1 xs s s.heap) (cb sb : Nat) (hcb : cb ≤ 600000 ∧ sb ≤ 7302250) (K55 : Int32 → Int32 → (Nat → Nat) → Option (Nat → Nat) → Nat → (Nat → Nat) → Int64 → Int64 → Option (Int32)) (hK55 : ∀ (z4 : Int32) (z5 : Int32) (σ : (Nat → Nat)) (M : Option (Nat → Nat)) (bm : Nat) (bo : (Nat → Nat)) (fa : Int64) (fb : Int64), K55 z4 z5 σ M bm bo fa fb = some (nI 1) → ∀ (H : Heap) (locs : List Loc) (ls : Array Slot) (i : Nat → Int32) (j : Nat → Int64) (f : Nat → Nat → Int32) (g : Nat → Nat → Int64) (C S : Nat), REL5 σ M bm bo fa fb i j f g → va_P D mp_cl ([(ah, mp_aI T 62 vh)] ++ aW T a i j f g) H → va_D (law_A s) ([(ah, mp_aI T 62 vh)] ++ aW T a i j f g) → va_S (law_A s) s.heap H locs → C ≤ cb → S ≤ sb → lv_has ls 29 [(0, .ref b), (1, .ref (a 0)), (3, .ref ah), (4, .int z4), (5, .int z5)] → W p l e room_1 s m #[.ref b] below meth c H locs C S (lw_Z below #[.ref b] s) (F0 m 55 ls [])) :
    ∀  (z4 : Int32) (z5 : Int32) (z6 : Int32) (z8 : Int32) (z9 : Int32) (z10 : Int32) (z11 : Int32) (z12 : Int32) (w0 : Int32) (σ : (Nat → Nat)) (M : Option (Nat → Nat)) (bm : Nat) (bo : (Nat → Nat)) (fa : Int64) (fb : Int64), f_L_law_436 fu n1 xs vh K55 z4 z5 z6 z8 z9 z10 z11 z12 w0 σ M bm bo fa fb = some (nI 1) → ∀ (H : Heap) (locs : List Loc) (ls : Array Slot) (i : Nat → Int32) (j : Nat → Int64) (f : Nat → Nat → Int32) (g : Nat → Nat → Int64) (C S : Nat), REL5 σ M bm bo fa fb i j f g → va_P D mp_cl ([(ah, mp_aI T 62 vh)] ++ aW T a i j f g) H → va_D (law_A s) ([(ah, mp_aI T 62 vh)] ++ aW T a i j f g) → va_S (law_A s) s.heap H locs → C + 2 ≤ cb → S + 11 ≤ sb → lv_has ls 29 [(0, .ref b), (1, .ref (a 0)), (3, .ref ah), (4, .int z4), (5, .int z5), (6, .int z6), (8, .int z8), (9, .int z9), (10, .int z10), (11, .int z11), (12, .int z12)] → W p l e room_1 s m #[.ref b] below meth c H locs C S (lw_Z below #[.ref b] s) (F0 m 436 ls [.int w0]) := by
  have hx := X.1
  have hb := X.2.1
  have hml := X.2.2.1
  have hown := X.2.2.2.2.1
  have hts := X.2.2.2.2.2.1
  have hbA : ¬ law_A s b := Nat.not_le.mpr hbl
  have hA : ∀ q, s.heap.size ≤ q → law_A s q := fun q h => h
  intro z4 z5 z6 z8 z9 z10 z11 z12 w0 σ M bm bo fa fb hf H locs ls i j f g C S hRel hP hD hS hC hC2 hl
  replace hf : bd_ (s_never σ) (fun (r2 : Int32) => (if ((r2 >>> (z9 &&& (31 : Int32))) &&& (nI 1)) = (nI 1) then f_L_law_454 fu n1 xs vh (K55) z4 z5 z6 z8 z9 z10 z11 z12 w0 (nI 1) σ M bm bo fa fb else f_L_law_454 fu n1 xs vh (K55) z4 z5 z6 z8 z9 z10 z11 z12 w0 (nI 0) σ M bm bo fa fb)) = some (nI 1) := hf
  have hCS : C + 0 ≤ room_1.cells ∧ S + 0 ≤ room_1.slots := ⟨(show C + 0 ≤ 600000 by omega), (show S + 0 ≤ 7302250 by omega)⟩
  refine lv_aload_n hx hb dL_law_436 rfl (lv_at hl 1 rfl) ?_
  obtain ⟨r2, c1, hf⟩ := bd_of hf
  refine K_never (Y := [(ah, mp_aI T 62 vh)]) (rest := [.int w0]) X hK hRel c1 hP hD hS hl.1 (Nat.le_of_ble_eq_true rfl) dL_law_437 hCS (fun i j f g H locs hRel hP hD hS => ?_)
  refine lv_iload hx hb dL_law_440 (lv_at hl 7 rfl) ?_
  refine lv_ishr hx hb dL_law_442 ?_
  refine lv_iconst (v := (nI 1)) hx hb dL_law_443 (by decide) ?_
  refine lv_iand hx hb dL_law_444 ?_
  refine lv_iconst (v := (nI 1)) hx hb dL_law_445 (by decide) ?_
  refine lv_icmp_ne (tgt := 453) hx hb dL_law_446 (by decide) (fun h3 => ?_) (fun h3 => ?_)
  · replace hf := if_f hf h3
    refine lv_iconst (v := (nI 0)) hx hb dL_law_453 (by decide) ?_
    exact w_L_law_454 X hK hbl fu n1 xs vh hX cb sb hcb (K55) (hK55) z4 z5 z6 z8 z9 z10 z11 z12 w0 (nI 0) σ M bm bo fa fb hf _ _ _ _ _ _ _ _ _ hRel hP hD hS (by omega) (by omega) (lv_sub hl [0, 1, 2, 3, 4, 5, 6, 7, 8, 9, 10] rfl)
  · replace hf := if_t hf h3
    refine lv_iconst (v := (nI 1)) hx hb dL_law_449 (by decide) ?_
    refine lv_goto (tgt := 454) hx hb dL_law_450 (by decide) ?_
    exact w_L_law_454 X hK hbl fu n1 xs vh hX cb sb hcb (K55) (hK55) z4 z5 z6 z8 z9 z10 z11 z12 w0 (nI 1) σ M bm bo fa fb hf _ _ _ _ _ _ _ _ _ hRel hP hD hS (by omega) (by omega) (lv_sub hl [0, 1, 2, 3, 4, 5, 6, 7, 8, 9, 10] rfl)

set_option maxHeartbeats 4000000 in
set_option maxRecDepth 100000 in
theorem w_L_law_413 {p : Program} {l : Launch} {e : Env} {s : State} {m : MethodId} {below : List Frame} {meth : Method} {c : Code} {D : va_G} {T : Nat → ClassId} {nm : String} {b ah : Nat} {a : Nat → Nat} (X : mp_X p s m meth c #[.ref b] RL nm cL_law 29 (some .boolean)) (hK : va_K D mp_cl (mp_ty T) s) (hbl : b < s.heap.size) (fu : Nat) (n1 : Nat) (xs : Nat → Int32) (vh : Nat → Int32) (hX : va_X b n1 xs s s.heap) (cb sb : Nat) (hcb : cb ≤ 600000 ∧ sb ≤ 7302250) (K55 : Int32 → Int32 → (Nat → Nat) → Option (Nat → Nat) → Nat → (Nat → Nat) → Int64 → Int64 → Option (Int32)) (hK55 : ∀ (z4 : Int32) (z5 : Int32) (σ : (Nat → Nat)) (M : Option (Nat → Nat)) (bm : Nat) (bo : (Nat → Nat)) (fa : Int64) (fb : Int64), K55 z4 z5 σ M bm bo fa fb = some (nI 1) → ∀ (H : Heap) (locs : List Loc) (ls : Array Slot) (i : Nat → Int32) (j : Nat → Int64) (f : Nat → Nat → Int32) (g : Nat → Nat → Int64) (C S : Nat), REL5 σ M bm bo fa fb i j f g → va_P D mp_cl ([(ah, mp_aI T 62 vh)] ++ aW T a i j f g) H → va_D (law_A s) ([(ah, mp_aI T 62 vh)] ++ aW T a i j f g) → va_S (law_A s) s.heap H locs → C ≤ cb → S ≤ sb → lv_has ls 29 [(0, .ref b), (1, .ref (a 0)), (3, .ref ah), (4, .int z4), (5, .int z5)] → W p l e room_1 s m #[.ref b] below meth c H locs C S (lw_Z below #[.ref b] s) (F0 m 55 ls [])) :
    ∀  (z4 : Int32) (z5 : Int32) (z6 : Int32) (z8 : Int32) (z9 : Int32) (z10 : Int32) (z11 : Int32) (w0 : Int32) (w1 : Int32) (σ : (Nat → Nat)) (M : Option (Nat → Nat)) (bm : Nat) (bo : (Nat → Nat)) (fa : Int64) (fb : Int64), f_L_law_413 fu n1 xs vh K55 z4 z5 z6 z8 z9 z10 z11 w0 w1 σ M bm bo fa fb = some (nI 1) → ∀ (H : Heap) (locs : List Loc) (ls : Array Slot) (i : Nat → Int32) (j : Nat → Int64) (f : Nat → Nat → Int32) (g : Nat → Nat → Int64) (C S : Nat), REL5 σ M bm bo fa fb i j f g → va_P D mp_cl ([(ah, mp_aI T 62 vh)] ++ aW T a i j f g) H → va_D (law_A s) ([(ah, mp_aI T 62 vh)] ++ aW T a i j f g) → va_S (law_A s) s.heap H locs → C + 2 ≤ cb → S + 11 ≤ sb → lv_has ls 29 [(0, .ref b), (1, .ref (a 0)), (3, .ref ah), (4, .int z4), (5, .int z5), (6, .int z6), (8, .int z8), (9, .int z9), (10, .int z10), (11, .int z11)] → W p l e room_1 s m #[.ref b] below meth c H locs C S (lw_Z below #[.ref b] s) (F0 m 413 ls [.int w1, .int w0]) := by
  have hx := X.1
  have hb := X.2.1
  have hml := X.2.2.1
  have hown := X.2.2.2.2.1
  have hts := X.2.2.2.2.2.1
  have hbA : ¬ law_A s b := Nat.not_le.mpr hbl
  have hA : ∀ q, s.heap.size ≤ q → law_A s q := fun q h => h
  intro z4 z5 z6 z8 z9 z10 z11 w0 w1 σ M bm bo fa fb hf H locs ls i j f g C S hRel hP hD hS hC hC2 hl
  replace hf : (if w0 = w1 then bd_ (s_heard z9 σ) (fun (r3 : Int32) => (if 0 ≤ r3 then f_L_law_436 fu n1 xs vh (K55) z4 z5 z6 z8 z9 z10 z11 r3 (nI 0) σ M bm bo fa fb else f_L_law_436 fu n1 xs vh (K55) z4 z5 z6 z8 z9 z10 z11 r3 (nI 1) σ M bm bo fa fb)) else some (nI 0)) = some (nI 1) := hf
  have hCS : C + 0 ≤ room_1.cells ∧ S + 0 ≤ room_1.slots := ⟨(show C + 0 ≤ 600000 by omega), (show S + 0 ≤ 7302250 by omega)⟩
  refine lv_icmp_eq (tgt := 418) hx hb dL_law_413 (by decide) (fun h1 => ?_) (fun h1 => ?_)
  · replace hf := if_t hf h1
    refine lv_aload_n hx hb dL_law_418 rfl (lv_at hl 1 rfl) ?_
    refine lv_iload hx hb dL_law_419 (lv_at hl 7 rfl) ?_
    obtain ⟨r3, c2, hf⟩ := bd_of hf
    refine K_heard (Y := [(ah, mp_aI T 62 vh)]) (rest := []) X hK hRel c2 hP hD hS hl.1 (Nat.le_of_ble_eq_true rfl) dL_law_421 hCS (fun i j f g H locs hRel hP hD hS => ?_)
    refine lv_istore (lv' := [(12, .int r3), (0, .ref b), (1, .ref (a 0)), (3, .ref ah), (4, .int z4), (5, .int z5), (6, .int z6), (8, .int z8), (9, .int z9), (10, .int z10), (11, .int z11)]) hx hb dL_law_424 hl (by decide) rfl (fun ls hl => ?_)
    refine lv_iload hx hb dL_law_426 (lv_at hl 0 rfl) ?_
    refine lv_if_ge (tgt := 435) hx hb dL_law_428 (by decide) (fun h4 => ?_) (fun h4 => ?_)
    · replace hf := if_t hf h4
      refine lv_iconst (v := (nI 0)) hx hb dL_law_435 (by decide) ?_
      exact w_L_law_436 X hK hbl fu n1 xs vh hX cb sb hcb (K55) (hK55) z4 z5 z6 z8 z9 z10 z11 r3 (nI 0) σ M bm bo fa fb hf _ _ _ _ _ _ _ _ _ hRel hP hD hS (by omega) (by omega) (lv_sub hl [1, 2, 3, 4, 5, 6, 7, 8, 9, 10, 0] rfl)
    · replace hf := if_f hf h4
      refine lv_iconst (v := (nI 1)) hx hb dL_law_431 (by decide) ?_
      refine lv_goto (tgt := 436) hx hb dL_law_432 (by decide) ?_
      exact w_L_law_436 X hK hbl fu n1 xs vh hX cb sb hcb (K55) (hK55) z4 z5 z6 z8 z9 z10 z11 r3 (nI 1) σ M bm bo fa fb hf _ _ _ _ _ _ _ _ _ hRel hP hD hS (by omega) (by omega) (lv_sub hl [1, 2, 3, 4, 5, 6, 7, 8, 9, 10, 0] rfl)
  · replace hf := if_f hf h1
    refine lv_iconst (v := (nI 0)) hx hb dL_law_416 (by decide) ?_
    exact absurd (Option.some.inj hf) (by decide)

set_option maxHeartbeats 4000000 in
set_option maxRecDepth 100000 in
theorem w_L_law_392 {p : Program} {l : Launch} {e : Env} {s : State} {m : MethodId} {below : List Frame} {meth : Method} {c : Code} {D : va_G} {T : Nat → ClassId} {nm : String} {b ah : Nat} {a : Nat → Nat} (X : mp_X p s m meth c #[.ref b] RL nm cL_law 29 (some .boolean)) (hK : va_K D mp_cl (mp_ty T) s) (hbl : b < s.heap.size) (fu : Nat) (n1 : Nat) (xs : Nat → Int32) (vh : Nat → Int32) (hX : va_X b n1 xs s s.heap) (cb sb : Nat) (hcb : cb ≤ 600000 ∧ sb ≤ 7302250) (K55 : Int32 → Int32 → (Nat → Nat) → Option (Nat → Nat) → Nat → (Nat → Nat) → Int64 → Int64 → Option (Int32)) (hK55 : ∀ (z4 : Int32) (z5 : Int32) (σ : (Nat → Nat)) (M : Option (Nat → Nat)) (bm : Nat) (bo : (Nat → Nat)) (fa : Int64) (fb : Int64), K55 z4 z5 σ M bm bo fa fb = some (nI 1) → ∀ (H : Heap) (locs : List Loc) (ls : Array Slot) (i : Nat → Int32) (j : Nat → Int64) (f : Nat → Nat → Int32) (g : Nat → Nat → Int64) (C S : Nat), REL5 σ M bm bo fa fb i j f g → va_P D mp_cl ([(ah, mp_aI T 62 vh)] ++ aW T a i j f g) H → va_D (law_A s) ([(ah, mp_aI T 62 vh)] ++ aW T a i j f g) → va_S (law_A s) s.heap H locs → C ≤ cb → S ≤ sb → lv_has ls 29 [(0, .ref b), (1, .ref (a 0)), (3, .ref ah), (4, .int z4), (5, .int z5)] → W p l e room_1 s m #[.ref b] below meth c H locs C S (lw_Z below #[.ref b] s) (F0 m 55 ls [])) :
    ∀  (z4 : Int32) (z5 : Int32) (z6 : Int32) (z8 : Int32) (z9 : Int32) (z10 : Int32) (z11 : Int32) (w0 : Int32) (σ : (Nat → Nat)) (M : Option (Nat → Nat)) (bm : Nat) (bo : (Nat → Nat)) (fa : Int64) (fb : Int64), f_L_law_392 fu n1 xs vh K55 z4 z5 z6 z8 z9 z10 z11 w0 σ M bm bo fa fb = some (nI 1) → ∀ (H : Heap) (locs : List Loc) (ls : Array Slot) (i : Nat → Int32) (j : Nat → Int64) (f : Nat → Nat → Int32) (g : Nat → Nat → Int64) (C S : Nat), REL5 σ M bm bo fa fb i j f g → va_P D mp_cl ([(ah, mp_aI T 62 vh)] ++ aW T a i j f g) H → va_D (law_A s) ([(ah, mp_aI T 62 vh)] ++ aW T a i j f g) → va_S (law_A s) s.heap H locs → C + 2 ≤ cb → S + 11 ≤ sb → lv_has ls 29 [(0, .ref b), (1, .ref (a 0)), (3, .ref ah), (4, .int z4), (5, .int z5), (6, .int z6), (8, .int z8), (9, .int z9), (10, .int z10), (11, .int z11)] → W p l e room_1 s m #[.ref b] below meth c H locs C S (lw_Z below #[.ref b] s) (F0 m 392 ls [.int w0]) := by
  have hx := X.1
  have hb := X.2.1
  have hml := X.2.2.1
  have hown := X.2.2.2.2.1
  have hts := X.2.2.2.2.2.1
  have hbA : ¬ law_A s b := Nat.not_le.mpr hbl
  have hA : ∀ q, s.heap.size ≤ q → law_A s q := fun q h => h
  intro z4 z5 z6 z8 z9 z10 z11 w0 σ M bm bo fa fb hf H locs ls i j f g C S hRel hP hD hS hC hC2 hl
  replace hf : bd_ (s_cell z10 (nI 3) σ) (fun (r2 : Int32) => (if ((r2 >>> (z9 &&& (31 : Int32))) &&& (nI 1)) = (nI 1) then f_L_law_413 fu n1 xs vh (K55) z4 z5 z6 z8 z9 z10 z11 w0 (nI 1) σ M bm bo fa fb else f_L_law_413 fu n1 xs vh (K55) z4 z5 z6 z8 z9 z10 z11 w0 (nI 0) σ M bm bo fa fb)) = some (nI 1) := hf
  have hCS : C + 0 ≤ room_1.cells ∧ S + 0 ≤ room_1.slots := ⟨(show C + 0 ≤ 600000 by omega), (show S + 0 ≤ 7302250 by omega)⟩
  refine lv_aload_n hx hb dL_law_392 rfl (lv_at hl 1 rfl) ?_
  refine lv_iload hx hb dL_law_393 (lv_at hl 8 rfl) ?_
  refine lv_iconst (v := (nI 3)) hx hb dL_law_395 (by decide) ?_
  obtain ⟨r2, c1, hf⟩ := bd_of hf
  refine K_cell (Y := [(ah, mp_aI T 62 vh)]) (rest := [.int w0]) X hK hRel c1 hP hD hS hl.1 (Nat.le_of_ble_eq_true rfl) dL_law_396 hCS (fun i j f g H locs hRel hP hD hS => ?_)
  refine lv_iload hx hb dL_law_399 (lv_at hl 7 rfl) ?_
  refine lv_ishr hx hb dL_law_401 ?_
  refine lv_iconst (v := (nI 1)) hx hb dL_law_402 (by decide) ?_
  refine lv_iand hx hb dL_law_403 ?_
  refine lv_iconst (v := (nI 1)) hx hb dL_law_404 (by decide) ?_
  refine lv_icmp_ne (tgt := 412) hx hb dL_law_405 (by decide) (fun h3 => ?_) (fun h3 => ?_)
  · replace hf := if_f hf h3
    refine lv_iconst (v := (nI 0)) hx hb dL_law_412 (by decide) ?_
    exact w_L_law_413 X hK hbl fu n1 xs vh hX cb sb hcb (K55) (hK55) z4 z5 z6 z8 z9 z10 z11 w0 (nI 0) σ M bm bo fa fb hf _ _ _ _ _ _ _ _ _ hRel hP hD hS (by omega) (by omega) (lv_sub hl [0, 1, 2, 3, 4, 5, 6, 7, 8, 9] rfl)
  · replace hf := if_t hf h3
    refine lv_iconst (v := (nI 1)) hx hb dL_law_408 (by decide) ?_
    refine lv_goto (tgt := 413) hx hb dL_law_409 (by decide) ?_
    exact w_L_law_413 X hK hbl fu n1 xs vh hX cb sb hcb (K55) (hK55) z4 z5 z6 z8 z9 z10 z11 w0 (nI 1) σ M bm bo fa fb hf _ _ _ _ _ _ _ _ _ hRel hP hD hS (by omega) (by omega) (lv_sub hl [0, 1, 2, 3, 4, 5, 6, 7, 8, 9] rfl)

set_option maxHeartbeats 4000000 in
set_option maxRecDepth 100000 in
theorem w_L_law_382 {p : Program} {l : Launch} {e : Env} {s : State} {m : MethodId} {below : List Frame} {meth : Method} {c : Code} {D : va_G} {T : Nat → ClassId} {nm : String} {b ah : Nat} {a : Nat → Nat} (X : mp_X p s m meth c #[.ref b] RL nm cL_law 29 (some .boolean)) (hK : va_K D mp_cl (mp_ty T) s) (hbl : b < s.heap.size) (fu : Nat) (n1 : Nat) (xs : Nat → Int32) (vh : Nat → Int32) (hX : va_X b n1 xs s s.heap) (cb sb : Nat) (hcb : cb ≤ 600000 ∧ sb ≤ 7302250) (K55 : Int32 → Int32 → (Nat → Nat) → Option (Nat → Nat) → Nat → (Nat → Nat) → Int64 → Int64 → Option (Int32)) (hK55 : ∀ (z4 : Int32) (z5 : Int32) (σ : (Nat → Nat)) (M : Option (Nat → Nat)) (bm : Nat) (bo : (Nat → Nat)) (fa : Int64) (fb : Int64), K55 z4 z5 σ M bm bo fa fb = some (nI 1) → ∀ (H : Heap) (locs : List Loc) (ls : Array Slot) (i : Nat → Int32) (j : Nat → Int64) (f : Nat → Nat → Int32) (g : Nat → Nat → Int64) (C S : Nat), REL5 σ M bm bo fa fb i j f g → va_P D mp_cl ([(ah, mp_aI T 62 vh)] ++ aW T a i j f g) H → va_D (law_A s) ([(ah, mp_aI T 62 vh)] ++ aW T a i j f g) → va_S (law_A s) s.heap H locs → C ≤ cb → S ≤ sb → lv_has ls 29 [(0, .ref b), (1, .ref (a 0)), (3, .ref ah), (4, .int z4), (5, .int z5)] → W p l e room_1 s m #[.ref b] below meth c H locs C S (lw_Z below #[.ref b] s) (F0 m 55 ls [])) :
    ∀  (z4 : Int32) (z5 : Int32) (z6 : Int32) (z8 : Int32) (z9 : Int32) (z10 : Int32) (z11 : Int32) (σ : (Nat → Nat)) (M : Option (Nat → Nat)) (bm : Nat) (bo : (Nat → Nat)) (fa : Int64) (fb : Int64), f_L_law_382 fu n1 xs vh K55 z4 z5 z6 z8 z9 z10 z11 σ M bm bo fa fb = some (nI 1) → ∀ (H : Heap) (locs : List Loc) (ls : Array Slot) (i : Nat → Int32) (j : Nat → Int64) (f : Nat → Nat → Int32) (g : Nat → Nat → Int64) (C S : Nat), REL5 σ M bm bo fa fb i j f g → va_P D mp_cl ([(ah, mp_aI T 62 vh)] ++ aW T a i j f g) H → va_D (law_A s) ([(ah, mp_aI T 62 vh)] ++ aW T a i j f g) → va_S (law_A s) s.heap H locs → C + 2 ≤ cb → S + 11 ≤ sb → lv_has ls 29 [(0, .ref b), (1, .ref (a 0)), (3, .ref ah), (4, .int z4), (5, .int z5), (6, .int z6), (8, .int z8), (9, .int z9), (10, .int z10), (11, .int z11)] → W p l e room_1 s m #[.ref b] below meth c H locs C S (lw_Z below #[.ref b] s) (F0 m 382 ls []) := by
  have hx := X.1
  have hb := X.2.1
  have hml := X.2.2.1
  have hown := X.2.2.2.2.1
  have hts := X.2.2.2.2.2.1
  have hbA : ¬ law_A s b := Nat.not_le.mpr hbl
  have hA : ∀ q, s.heap.size ≤ q → law_A s q := fun q h => h
  intro z4 z5 z6 z8 z9 z10 z11 σ M bm bo fa fb hf H locs ls i j f g C S hRel hP hD hS hC hC2 hl
  replace hf : (if z11 = 0 then f_L_law_392 fu n1 xs vh (K55) z4 z5 z6 z8 z9 z10 z11 (nI 1) σ M bm bo fa fb else f_L_law_392 fu n1 xs vh (K55) z4 z5 z6 z8 z9 z10 z11 (nI 0) σ M bm bo fa fb) = some (nI 1) := hf
  have hCS : C + 0 ≤ room_1.cells ∧ S + 0 ≤ room_1.slots := ⟨(show C + 0 ≤ 600000 by omega), (show S + 0 ≤ 7302250 by omega)⟩
  refine lv_iload hx hb dL_law_382 (lv_at hl 9 rfl) ?_
  refine lv_if_ne (tgt := 391) hx hb dL_law_384 (by decide) (fun h1 => ?_) (fun h1 => ?_)
  · replace hf := if_f hf h1
    refine lv_iconst (v := (nI 0)) hx hb dL_law_391 (by decide) ?_
    exact w_L_law_392 X hK hbl fu n1 xs vh hX cb sb hcb (K55) (hK55) z4 z5 z6 z8 z9 z10 z11 (nI 0) σ M bm bo fa fb hf _ _ _ _ _ _ _ _ _ hRel hP hD hS (by omega) (by omega) (lv_sub hl [0, 1, 2, 3, 4, 5, 6, 7, 8, 9] rfl)
  · replace hf := if_t hf h1
    refine lv_iconst (v := (nI 1)) hx hb dL_law_387 (by decide) ?_
    refine lv_goto (tgt := 392) hx hb dL_law_388 (by decide) ?_
    exact w_L_law_392 X hK hbl fu n1 xs vh hX cb sb hcb (K55) (hK55) z4 z5 z6 z8 z9 z10 z11 (nI 1) σ M bm bo fa fb hf _ _ _ _ _ _ _ _ _ hRel hP hD hS (by omega) (by omega) (lv_sub hl [0, 1, 2, 3, 4, 5, 6, 7, 8, 9] rfl)

set_option maxHeartbeats 4000000 in
set_option maxRecDepth 100000 in
theorem w_L_law_248 {p : Program} {l : Launch} {e : Env} {s : State} {m : MethodId} {below : List Frame} {meth : Method} {c : Code} {D : va_G} {T : Nat → ClassId} {nm : String} {b ah : Nat} {a : Nat → Nat} (X : mp_X p s m meth c #[.ref b] RL nm cL_law 29 (some .boolean)) (hK : va_K D mp_cl (mp_ty T) s) (hbl : b < s.heap.size) (fu : Nat) (n1 : Nat) (xs : Nat → Int32) (vh : Nat → Int32) (hX : va_X b n1 xs s s.heap) (cb sb : Nat) (hcb : cb ≤ 600000 ∧ sb ≤ 7302250) (K55 : Int32 → Int32 → (Nat → Nat) → Option (Nat → Nat) → Nat → (Nat → Nat) → Int64 → Int64 → Option (Int32)) (hK55 : ∀ (z4 : Int32) (z5 : Int32) (σ : (Nat → Nat)) (M : Option (Nat → Nat)) (bm : Nat) (bo : (Nat → Nat)) (fa : Int64) (fb : Int64), K55 z4 z5 σ M bm bo fa fb = some (nI 1) → ∀ (H : Heap) (locs : List Loc) (ls : Array Slot) (i : Nat → Int32) (j : Nat → Int64) (f : Nat → Nat → Int32) (g : Nat → Nat → Int64) (C S : Nat), REL5 σ M bm bo fa fb i j f g → va_P D mp_cl ([(ah, mp_aI T 62 vh)] ++ aW T a i j f g) H → va_D (law_A s) ([(ah, mp_aI T 62 vh)] ++ aW T a i j f g) → va_S (law_A s) s.heap H locs → C ≤ cb → S ≤ sb → lv_has ls 29 [(0, .ref b), (1, .ref (a 0)), (3, .ref ah), (4, .int z4), (5, .int z5)] → W p l e room_1 s m #[.ref b] below meth c H locs C S (lw_Z below #[.ref b] s) (F0 m 55 ls [])) :
    ∀ (n : Nat) (z4 : Int32) (z5 : Int32) (z6 : Int32) (z7 : Int32) (z8 : Int32) (z9 : Int32) (σ : (Nat → Nat)) (M : Option (Nat → Nat)) (bm : Nat) (bo : (Nat → Nat)) (fa : Int64) (fb : Int64), f_L_law_248 fu n1 xs vh K55 n z4 z5 z6 z7 z8 z9 σ M bm bo fa fb = some (nI 1) → ∀ (H : Heap) (locs : List Loc) (ls : Array Slot) (i : Nat → Int32) (j : Nat → Int64) (f : Nat → Nat → Int32) (g : Nat → Nat → Int64) (C S : Nat), REL5 σ M bm bo fa fb i j f g → va_P D mp_cl ([(ah, mp_aI T 62 vh)] ++ aW T a i j f g) H → va_D (law_A s) ([(ah, mp_aI T 62 vh)] ++ aW T a i j f g) → va_S (law_A s) s.heap H locs → C + 2 ≤ cb → S + 11 ≤ sb → lv_has ls 29 [(0, .ref b), (1, .ref (a 0)), (3, .ref ah), (4, .int z4), (5, .int z5), (6, .int z6), (7, .int z7), (8, .int z8), (9, .int z9)] → W p l e room_1 s m #[.ref b] below meth c H locs C S (lw_Z below #[.ref b] s) (F0 m 248 ls []) := by
  have hx := X.1
  have hb := X.2.1
  have hml := X.2.2.1
  have hown := X.2.2.2.2.1
  have hts := X.2.2.2.2.2.1
  have hbA : ¬ law_A s b := Nat.not_le.mpr hbl
  have hA : ∀ q, s.heap.size ≤ q → law_A s q := fun q h => h
  intro n
  induction n with
  | zero => intro z4 z5 z6 z7 z8 z9 σ M bm bo fa fb hf; exact absurd hf (by intro h; cases h)
  | succ n ih =>
    intro z4 z5 z6 z7 z8 z9 σ M bm bo fa fb hf H locs ls i j f g C S hRel hP hD hS hC hC2 hl
    replace hf : gi_ (nI 0) 62 ((if (vh ((nI 0)).toNatClampNeg) ≤ z9 then bd_ (s_many (nI 5) σ) (fun (r4 : Int32) => (if r4 = z7 then bd_ (s_many (nI 6) σ) (fun (r7 : Int32) => (if r7 = z8 then (if z7 ≤ z8 then gi_ (nI 1) 62 (gd_ (¬ (vh ((nI 1)).toNatClampNeg) = 0) (lt_ ((z6 &&& (nI 3)) - (z6 &&& (nI 3)) / (vh ((nI 1)).toNatClampNeg) * (vh ((nI 1)).toNatClampNeg)) (fun (y12 : Int32) => gi_ (nI 0) 62 (gd_ (¬ (vh ((nI 0)).toNatClampNeg) = 0) (lt_ (((z6 >>> ((nI 2) &&& (31 : Int32))) &&& (nI 7)) - ((z6 >>> ((nI 2) &&& (31 : Int32))) &&& (nI 7)) / (vh ((nI 0)).toNatClampNeg) * (vh ((nI 0)).toNatClampNeg)) (fun (y15 : Int32) => bd_ (s_when y15 y12 σ) (fun (r17 : Int32) => (if r17 < 0 then f_L_law_382 fu n1 xs vh (K55) z4 z5 z6 z8 y12 y15 r17 σ M bm bo fa fb else bd_ (s_later y15 r17 σ) (fun (r20 : Int32) => (if ((r20 >>> (y12 &&& (31 : Int32))) &&& (nI 1)) = 0 then some (nI 0) else (if r17 ≤ 0 then f_L_law_382 fu n1 xs vh (K55) z4 z5 z6 z8 y12 y15 r17 σ M bm bo fa fb else bd_ (s_later y15 (r17 - (nI 1)) σ) (fun (r24 : Int32) => (if ((r24 >>> (y12 &&& (31 : Int32))) &&& (nI 1)) = (nI 1) then some (nI 0) else f_L_law_382 fu n1 xs vh (K55) z4 z5 z6 z8 y12 y15 r17 σ M bm bo fa fb))))))))))))) else some (nI 0)) else some (nI 0))) else some (nI 0))) else bd_ (s_cell z9 (nI 5) σ) (fun (r27 : Int32) => lt_ (z8 + r27) (fun (y28 : Int32) => lt_ (z9 + (nI 1)) (fun (y29 : Int32) => f_L_law_248 fu n1 xs vh K55 n z4 z5 z6 z7 y28 y29 σ M bm bo fa fb))))) = some (nI 1) := hf
    have hCS : C + 0 ≤ room_1.cells ∧ S + 0 ≤ room_1.slots := ⟨(show C + 0 ≤ 600000 by omega), (show S + 0 ≤ 7302250 by omega)⟩
    refine lv_iload hx hb dL_law_248 (lv_at hl 8 rfl) ?_
    refine lv_aload_n hx hb dL_law_250 rfl (lv_at hl 2 rfl) ?_
    refine lv_iconst (v := (nI 0)) hx hb dL_law_251 (by decide) ?_
    obtain ⟨h1, hf⟩ := gi_of hf
    refine va_iald hx hb hK hP 0 0 rfl rfl h1 dL_law_252 ?_
    refine lv_icmp_ge (tgt := 274) hx hb dL_law_253 (by decide) (fun h2 => ?_) (fun h2 => ?_)
    · replace hf := if_t hf h2
      refine lv_aload_n hx hb dL_law_274 rfl (lv_at hl 1 rfl) ?_
      refine lv_iconst (v := (nI 5)) hx hb dL_law_275 (by decide) ?_
      obtain ⟨r4, c3, hf⟩ := bd_of hf
      refine K_many (Y := [(ah, mp_aI T 62 vh)]) (rest := []) X hK hRel c3 hP hD hS hl.1 (Nat.le_of_ble_eq_true rfl) dL_law_276 hCS (fun i j f g H locs hRel hP hD hS => ?_)
      refine lv_iload hx hb dL_law_279 (lv_at hl 6 rfl) ?_
      refine lv_icmp_ne (tgt := 302) hx hb dL_law_281 (by decide) (fun h5 => ?_) (fun h5 => ?_)
      · replace hf := if_f hf h5
        refine lv_iconst (v := (nI 0)) hx hb dL_law_302 (by decide) ?_
        exact absurd (Option.some.inj hf) (by decide)
      · replace hf := if_t hf h5
        refine lv_aload_n hx hb dL_law_284 rfl (lv_at hl 1 rfl) ?_
        refine lv_bipush (v := (nI 6)) hx hb dL_law_285 (by decide) ?_
        obtain ⟨r7, c6, hf⟩ := bd_of hf
        refine K_many (Y := [(ah, mp_aI T 62 vh)]) (rest := []) X hK hRel c6 hP hD hS hl.1 (Nat.le_of_ble_eq_true rfl) dL_law_287 hCS (fun i j f g H locs hRel hP hD hS => ?_)
        refine lv_iload hx hb dL_law_290 (lv_at hl 7 rfl) ?_
        refine lv_icmp_ne (tgt := 302) hx hb dL_law_292 (by decide) (fun h8 => ?_) (fun h8 => ?_)
        · replace hf := if_f hf h8
          refine lv_iconst (v := (nI 0)) hx hb dL_law_302 (by decide) ?_
          exact absurd (Option.some.inj hf) (by decide)
        · replace hf := if_t hf h8
          refine lv_iload hx hb dL_law_295 (lv_at hl 7 rfl) ?_
          refine lv_iload hx hb dL_law_297 (lv_at hl 6 rfl) ?_
          refine lv_icmp_ge (tgt := 304) hx hb dL_law_299 (by decide) (fun h9 => ?_) (fun h9 => ?_)
          · replace hf := if_t hf h9
            refine lv_iload hx hb dL_law_304 (lv_at hl 5 rfl) ?_
            refine lv_iconst (v := (nI 3)) hx hb dL_law_306 (by decide) ?_
            refine lv_iand hx hb dL_law_307 ?_
            refine lv_aload_n hx hb dL_law_308 rfl (lv_at hl 2 rfl) ?_
            refine lv_iconst (v := (nI 1)) hx hb dL_law_309 (by decide) ?_
            obtain ⟨h10, hf⟩ := gi_of hf
            refine va_iald hx hb hK hP 0 0 rfl rfl h10 dL_law_310 ?_
            obtain ⟨h11, hf⟩ := gd_of hf
            refine lv_irem hx hb dL_law_311 h11 ?_
            refine lv_topi (fun y12 e12 => ?_)
            replace hf := lt_of e12 hf
            refine lv_istore (lv' := [(9, .int y12), (0, .ref b), (1, .ref (a 0)), (3, .ref ah), (4, .int z4), (5, .int z5), (6, .int z6), (7, .int z7), (8, .int z8)]) hx hb dL_law_312 hl (by decide) rfl (fun ls hl => ?_)
            refine lv_iload hx hb dL_law_314 (lv_at hl 6 rfl) ?_
            refine lv_iconst (v := (nI 2)) hx hb dL_law_316 (by decide) ?_
            refine lv_ishr hx hb dL_law_317 ?_
            refine lv_bipush (v := (nI 7)) hx hb dL_law_318 (by decide) ?_
            refine lv_iand hx hb dL_law_320 ?_
            refine lv_aload_n hx hb dL_law_321 rfl (lv_at hl 3 rfl) ?_
            refine lv_iconst (v := (nI 0)) hx hb dL_law_322 (by decide) ?_
            obtain ⟨h13, hf⟩ := gi_of hf
            refine va_iald hx hb hK hP 0 0 rfl rfl h13 dL_law_323 ?_
            obtain ⟨h14, hf⟩ := gd_of hf
            refine lv_irem hx hb dL_law_324 h14 ?_
            refine lv_topi (fun y15 e15 => ?_)
            replace hf := lt_of e15 hf
            refine lv_istore (lv' := [(10, .int y15), (9, .int y12), (0, .ref b), (1, .ref (a 0)), (3, .ref ah), (4, .int z4), (5, .int z5), (6, .int z6), (7, .int z7), (8, .int z8)]) hx hb dL_law_325 hl (by decide) rfl (fun ls hl => ?_)
            refine lv_aload_n hx hb dL_law_327 rfl (lv_at hl 3 rfl) ?_
            refine lv_iload hx hb dL_law_328 (lv_at hl 0 rfl) ?_
            refine lv_iload hx hb dL_law_330 (lv_at hl 1 rfl) ?_
            obtain ⟨r17, c16, hf⟩ := bd_of hf
            refine K_when (Y := [(ah, mp_aI T 62 vh)]) (rest := []) X hK hRel c16 hP hD hS hl.1 (Nat.le_of_ble_eq_true rfl) dL_law_332 hCS (fun i j f g H locs hRel hP hD hS => ?_)
            refine lv_istore (lv' := [(11, .int r17), (10, .int y15), (9, .int y12), (0, .ref b), (1, .ref (a 0)), (3, .ref ah), (4, .int z4), (5, .int z5), (6, .int z6), (7, .int z7), (8, .int z8)]) hx hb dL_law_335 hl (by decide) rfl (fun ls hl => ?_)
            refine lv_iload hx hb dL_law_337 (lv_at hl 0 rfl) ?_
            refine lv_if_lt (tgt := 382) hx hb dL_law_339 (by decide) (fun h18 => ?_) (fun h18 => ?_)
            · replace hf := if_t hf h18
              exact w_L_law_382 X hK hbl fu n1 xs vh hX cb sb hcb (K55) (hK55) z4 z5 z6 z8 y12 y15 r17 σ M bm bo fa fb hf _ _ _ _ _ _ _ _ _ hRel hP hD hS (by omega) (by omega) (lv_sub hl [3, 4, 5, 6, 7, 8, 10, 2, 1, 0] rfl)
            · replace hf := if_f hf h18
              refine lv_aload_n hx hb dL_law_342 rfl (lv_at hl 4 rfl) ?_
              refine lv_iload hx hb dL_law_343 (lv_at hl 1 rfl) ?_
              refine lv_iload hx hb dL_law_345 (lv_at hl 0 rfl) ?_
              obtain ⟨r20, c19, hf⟩ := bd_of hf
              refine K_later (Y := [(ah, mp_aI T 62 vh)]) (rest := []) X hK hRel c19 hP hD hS hl.1 (Nat.le_of_ble_eq_true rfl) dL_law_347 hCS (fun i j f g H locs hRel hP hD hS => ?_)
              refine lv_iload hx hb dL_law_350 (lv_at hl 2 rfl) ?_
              refine lv_ishr hx hb dL_law_352 ?_
              refine lv_iconst (v := (nI 1)) hx hb dL_law_353 (by decide) ?_
              refine lv_iand hx hb dL_law_354 ?_
              refine lv_if_eq (tgt := 416) hx hb dL_law_355 (by decide) (fun h21 => ?_) (fun h21 => ?_)
              · replace hf := if_t hf h21
                refine lv_iconst (v := (nI 0)) hx hb dL_law_416 (by decide) ?_
                exact absurd (Option.some.inj hf) (by decide)
              · replace hf := if_f hf h21
                refine lv_iload hx hb dL_law_358 (lv_at hl 0 rfl) ?_
                refine lv_if_le (tgt := 382) hx hb dL_law_360 (by decide) (fun h22 => ?_) (fun h22 => ?_)
                · replace hf := if_t hf h22
                  exact w_L_law_382 X hK hbl fu n1 xs vh hX cb sb hcb (K55) (hK55) z4 z5 z6 z8 y12 y15 r17 σ M bm bo fa fb hf _ _ _ _ _ _ _ _ _ hRel hP hD hS (by omega) (by omega) (lv_sub hl [3, 4, 5, 6, 7, 8, 10, 2, 1, 0] rfl)
                · replace hf := if_f hf h22
                  refine lv_aload_n hx hb dL_law_363 rfl (lv_at hl 4 rfl) ?_
                  refine lv_iload hx hb dL_law_364 (lv_at hl 1 rfl) ?_
                  refine lv_iload hx hb dL_law_366 (lv_at hl 0 rfl) ?_
                  refine lv_iconst (v := (nI 1)) hx hb dL_law_368 (by decide) ?_
                  refine lv_isub hx hb dL_law_369 ?_
                  obtain ⟨r24, c23, hf⟩ := bd_of hf
                  refine K_later (Y := [(ah, mp_aI T 62 vh)]) (rest := []) X hK hRel c23 hP hD hS hl.1 (Nat.le_of_ble_eq_true rfl) dL_law_370 hCS (fun i j f g H locs hRel hP hD hS => ?_)
                  refine lv_iload hx hb dL_law_373 (lv_at hl 2 rfl) ?_
                  refine lv_ishr hx hb dL_law_375 ?_
                  refine lv_iconst (v := (nI 1)) hx hb dL_law_376 (by decide) ?_
                  refine lv_iand hx hb dL_law_377 ?_
                  refine lv_iconst (v := (nI 1)) hx hb dL_law_378 (by decide) ?_
                  refine lv_icmp_eq (tgt := 416) hx hb dL_law_379 (by decide) (fun h25 => ?_) (fun h25 => ?_)
                  · replace hf := if_t hf h25
                    refine lv_iconst (v := (nI 0)) hx hb dL_law_416 (by decide) ?_
                    exact absurd (Option.some.inj hf) (by decide)
                  · replace hf := if_f hf h25
                    exact w_L_law_382 X hK hbl fu n1 xs vh hX cb sb hcb (K55) (hK55) z4 z5 z6 z8 y12 y15 r17 σ M bm bo fa fb hf _ _ _ _ _ _ _ _ _ hRel hP hD hS (by omega) (by omega) (lv_sub hl [3, 4, 5, 6, 7, 8, 10, 2, 1, 0] rfl)
          · replace hf := if_f hf h9
            refine lv_iconst (v := (nI 0)) hx hb dL_law_302 (by decide) ?_
            exact absurd (Option.some.inj hf) (by decide)
    · replace hf := if_f hf h2
      refine lv_iload hx hb dL_law_256 (lv_at hl 7 rfl) ?_
      refine lv_aload_n hx hb dL_law_258 rfl (lv_at hl 1 rfl) ?_
      refine lv_iload hx hb dL_law_259 (lv_at hl 8 rfl) ?_
      refine lv_iconst (v := (nI 5)) hx hb dL_law_261 (by decide) ?_
      obtain ⟨r27, c26, hf⟩ := bd_of hf
      refine K_cell (Y := [(ah, mp_aI T 62 vh)]) (rest := [.int z8]) X hK hRel c26 hP hD hS hl.1 (Nat.le_of_ble_eq_true rfl) dL_law_262 hCS (fun i j f g H locs hRel hP hD hS => ?_)
      refine lv_iadd hx hb dL_law_265 ?_
      refine lv_topi (fun y28 e28 => ?_)
      replace hf := lt_of e28 hf
      refine lv_istore (lv' := [(8, .int y28), (0, .ref b), (1, .ref (a 0)), (3, .ref ah), (4, .int z4), (5, .int z5), (6, .int z6), (7, .int z7), (9, .int z9)]) hx hb dL_law_266 hl (by decide) rfl (fun ls hl => ?_)
      obtain ⟨y29, e29⟩ : ∃ y : Int32, y = z9 + (nI 1) := ⟨_, rfl⟩
      replace hf := lt_of e29 hf
      refine lv_iinc (v := y29) (lv' := [(9, .int y29), (8, .int y28), (0, .ref b), (1, .ref (a 0)), (3, .ref ah), (4, .int z4), (5, .int z5), (6, .int z6), (7, .int z7)]) hx hb dL_law_268 hl (k := 8) rfl (by rw [e29]; rfl) (by decide) rfl (fun ls hl => ?_)
      refine lv_goto (tgt := 248) hx hb dL_law_271 (by decide) ?_
      exact ih z4 z5 z6 z7 y28 y29 σ M bm bo fa fb hf _ _ _ _ _ _ _ _ _ hRel hP hD hS (by omega) (by omega) (lv_sub hl [2, 3, 4, 5, 6, 7, 8, 1, 0] rfl)

set_option maxHeartbeats 4000000 in
set_option maxRecDepth 100000 in
theorem w_L_law_115 {p : Program} {l : Launch} {e : Env} {s : State} {m : MethodId} {below : List Frame} {meth : Method} {c : Code} {D : va_G} {T : Nat → ClassId} {nm : String} {b ah : Nat} {a : Nat → Nat} (X : mp_X p s m meth c #[.ref b] RL nm cL_law 29 (some .boolean)) (hK : va_K D mp_cl (mp_ty T) s) (hbl : b < s.heap.size) (fu : Nat) (n1 : Nat) (xs : Nat → Int32) (vh : Nat → Int32) (hX : va_X b n1 xs s s.heap) (cb sb : Nat) (hcb : cb ≤ 600000 ∧ sb ≤ 7302250) (K55 : Int32 → Int32 → (Nat → Nat) → Option (Nat → Nat) → Nat → (Nat → Nat) → Int64 → Int64 → Option (Int32)) (hK55 : ∀ (z4 : Int32) (z5 : Int32) (σ : (Nat → Nat)) (M : Option (Nat → Nat)) (bm : Nat) (bo : (Nat → Nat)) (fa : Int64) (fb : Int64), K55 z4 z5 σ M bm bo fa fb = some (nI 1) → ∀ (H : Heap) (locs : List Loc) (ls : Array Slot) (i : Nat → Int32) (j : Nat → Int64) (f : Nat → Nat → Int32) (g : Nat → Nat → Int64) (C S : Nat), REL5 σ M bm bo fa fb i j f g → va_P D mp_cl ([(ah, mp_aI T 62 vh)] ++ aW T a i j f g) H → va_D (law_A s) ([(ah, mp_aI T 62 vh)] ++ aW T a i j f g) → va_S (law_A s) s.heap H locs → C ≤ cb → S ≤ sb → lv_has ls 29 [(0, .ref b), (1, .ref (a 0)), (3, .ref ah), (4, .int z4), (5, .int z5)] → W p l e room_1 s m #[.ref b] below meth c H locs C S (lw_Z below #[.ref b] s) (F0 m 55 ls [])) (K101 : Int32 → Int32 → Int32 → Int32 → Int32 → (Nat → Nat) → Option (Nat → Nat) → Nat → (Nat → Nat) → Int64 → Int64 → Option (Int32)) (hK101 : ∀ (z4 : Int32) (z5 : Int32) (z6 : Int32) (z7 : Int32) (z8 : Int32) (σ : (Nat → Nat)) (M : Option (Nat → Nat)) (bm : Nat) (bo : (Nat → Nat)) (fa : Int64) (fb : Int64), K101 z4 z5 z6 z7 z8 σ M bm bo fa fb = some (nI 1) → ∀ (H : Heap) (locs : List Loc) (ls : Array Slot) (i : Nat → Int32) (j : Nat → Int64) (f : Nat → Nat → Int32) (g : Nat → Nat → Int64) (C S : Nat), REL5 σ M bm bo fa fb i j f g → va_P D mp_cl ([(ah, mp_aI T 62 vh)] ++ aW T a i j f g) H → va_D (law_A s) ([(ah, mp_aI T 62 vh)] ++ aW T a i j f g) → va_S (law_A s) s.heap H locs → C + 2 ≤ cb → S + 11 ≤ sb → lv_has ls 29 [(0, .ref b), (1, .ref (a 0)), (3, .ref ah), (4, .int z4), (5, .int z5), (6, .int z6), (7, .int z7), (8, .int z8)] → W p l e room_1 s m #[.ref b] below meth c H locs C S (lw_Z below #[.ref b] s) (F0 m 101 ls [])) :
    ∀ (n : Nat) (z4 : Int32) (z5 : Int32) (z6 : Int32) (z7 : Int32) (z8 : Int32) (z9 : Int32) (z10 : Int32) (σ : (Nat → Nat)) (M : Option (Nat → Nat)) (bm : Nat) (bo : (Nat → Nat)) (fa : Int64) (fb : Int64), f_L_law_115 fu n1 xs vh K55 K101 n z4 z5 z6 z7 z8 z9 z10 σ M bm bo fa fb = some (nI 1) → ∀ (H : Heap) (locs : List Loc) (ls : Array Slot) (i : Nat → Int32) (j : Nat → Int64) (f : Nat → Nat → Int32) (g : Nat → Nat → Int64) (C S : Nat), REL5 σ M bm bo fa fb i j f g → va_P D mp_cl ([(ah, mp_aI T 62 vh)] ++ aW T a i j f g) H → va_D (law_A s) ([(ah, mp_aI T 62 vh)] ++ aW T a i j f g) → va_S (law_A s) s.heap H locs → C + 2 ≤ cb → S + 11 ≤ sb → lv_has ls 29 [(0, .ref b), (1, .ref (a 0)), (3, .ref ah), (4, .int z4), (5, .int z5), (6, .int z6), (7, .int z7), (8, .int z8), (9, .int z9), (10, .int z10)] → W p l e room_1 s m #[.ref b] below meth c H locs C S (lw_Z below #[.ref b] s) (F0 m 115 ls []) := by
  have hx := X.1
  have hb := X.2.1
  have hml := X.2.2.1
  have hown := X.2.2.2.2.1
  have hts := X.2.2.2.2.2.1
  have hbA : ¬ law_A s b := Nat.not_le.mpr hbl
  have hA : ∀ q, s.heap.size ≤ q → law_A s q := fun q h => h
  intro n
  induction n with
  | zero => intro z4 z5 z6 z7 z8 z9 z10 σ M bm bo fa fb hf; exact absurd hf (by intro h; cases h)
  | succ n ih =>
    intro z4 z5 z6 z7 z8 z9 z10 σ M bm bo fa fb hf H locs ls i j f g C S hRel hP hD hS hC hC2 hl
    replace hf : gi_ (nI 1) 62 ((if (vh ((nI 1)).toNatClampNeg) ≤ z10 then bd_ (s_page z8 (nI 2) σ) (fun (r4 : Int32) => gi_ ((nI 42) + z8) 62 ((if (z9 + r4) = (vh ((nI 42) + z8).toNatClampNeg) then bd_ (s_page z8 (nI 2) σ) (fun (r8 : Int32) => (if 0 ≤ r8 then lt_ (z7 + z9) (fun (y10 : Int32) => lt_ (z8 + (nI 1)) (fun (y11 : Int32) => K101 z4 z5 z6 y10 y11 σ M bm bo fa fb)) else some (nI 0))) else some (nI 0)))) else bd_ (s_pricks z8 z10 σ) (fun (r13 : Int32) => (if r13 < 0 then some (nI 0) else gi_ ((nI 36) + z10) 62 ((if (vh ((nI 36) + z10).toNatClampNeg) < r13 then some (nI 0) else bd_ (s_page z8 (nI 3) σ) (fun (r18 : Int32) => gi_ ((nI 36) + z10) 62 ((if r13 = (vh ((nI 36) + z10).toNatClampNeg) then (if ((r18 >>> (z10 &&& (31 : Int32))) &&& (nI 1)) = (nI 1) then lt_ (z9 + r13) (fun (y25 : Int32) => lt_ (z10 + (nI 1)) (fun (y26 : Int32) => f_L_law_115 fu n1 xs vh K55 K101 n z4 z5 z6 z7 z8 y25 y26 σ M bm bo fa fb)) else some (nI 0)) else (if ((r18 >>> (z10 &&& (31 : Int32))) &&& (nI 1)) = (nI 0) then lt_ (z9 + r13) (fun (y22 : Int32) => lt_ (z10 + (nI 1)) (fun (y23 : Int32) => f_L_law_115 fu n1 xs vh K55 K101 n z4 z5 z6 z7 z8 y22 y23 σ M bm bo fa fb)) else some (nI 0))))))))))) = some (nI 1) := hf
    have hCS : C + 0 ≤ room_1.cells ∧ S + 0 ≤ room_1.slots := ⟨(show C + 0 ≤ 600000 by omega), (show S + 0 ≤ 7302250 by omega)⟩
    refine lv_iload hx hb dL_law_115 (lv_at hl 9 rfl) ?_
    refine lv_aload_n hx hb dL_law_117 rfl (lv_at hl 2 rfl) ?_
    refine lv_iconst (v := (nI 1)) hx hb dL_law_118 (by decide) ?_
    obtain ⟨h1, hf⟩ := gi_of hf
    refine va_iald hx hb hK hP 0 0 rfl rfl h1 dL_law_119 ?_
    refine lv_icmp_ge (tgt := 197) hx hb dL_law_120 (by decide) (fun h2 => ?_) (fun h2 => ?_)
    · replace hf := if_t hf h2
      refine lv_iload hx hb dL_law_197 (lv_at hl 8 rfl) ?_
      refine lv_aload_n hx hb dL_law_199 rfl (lv_at hl 1 rfl) ?_
      refine lv_iload hx hb dL_law_200 (lv_at hl 7 rfl) ?_
      refine lv_iconst (v := (nI 2)) hx hb dL_law_202 (by decide) ?_
      obtain ⟨r4, c3, hf⟩ := bd_of hf
      refine K_page (Y := [(ah, mp_aI T 62 vh)]) (rest := [.int z9]) X hK hRel c3 hP hD hS hl.1 (Nat.le_of_ble_eq_true rfl) dL_law_203 hCS (fun i j f g H locs hRel hP hD hS => ?_)
      refine lv_iadd hx hb dL_law_206 ?_
      refine lv_aload_n hx hb dL_law_207 rfl (lv_at hl 2 rfl) ?_
      refine lv_bipush (v := (nI 42)) hx hb dL_law_208 (by decide) ?_
      refine lv_iload hx hb dL_law_210 (lv_at hl 7 rfl) ?_
      refine lv_iadd hx hb dL_law_212 ?_
      obtain ⟨h5, hf⟩ := gi_of hf
      refine va_iald hx hb hK hP 0 0 rfl rfl h5 dL_law_213 ?_
      refine lv_icmp_ne (tgt := 227) hx hb dL_law_214 (by decide) (fun h6 => ?_) (fun h6 => ?_)
      · replace hf := if_f hf h6
        refine lv_iconst (v := (nI 0)) hx hb dL_law_227 (by decide) ?_
        exact absurd (Option.some.inj hf) (by decide)
      · replace hf := if_t hf h6
        refine lv_aload_n hx hb dL_law_217 rfl (lv_at hl 1 rfl) ?_
        refine lv_iload hx hb dL_law_218 (lv_at hl 7 rfl) ?_
        refine lv_iconst (v := (nI 2)) hx hb dL_law_220 (by decide) ?_
        obtain ⟨r8, c7, hf⟩ := bd_of hf
        refine K_page (Y := [(ah, mp_aI T 62 vh)]) (rest := []) X hK hRel c7 hP hD hS hl.1 (Nat.le_of_ble_eq_true rfl) dL_law_221 hCS (fun i j f g H locs hRel hP hD hS => ?_)
        refine lv_if_ge (tgt := 229) hx hb dL_law_224 (by decide) (fun h9 => ?_) (fun h9 => ?_)
        · replace hf := if_t hf h9
          refine lv_iload hx hb dL_law_229 (lv_at hl 6 rfl) ?_
          refine lv_iload hx hb dL_law_231 (lv_at hl 8 rfl) ?_
          refine lv_iadd hx hb dL_law_233 ?_
          refine lv_topi (fun y10 e10 => ?_)
          replace hf := lt_of e10 hf
          refine lv_istore (lv' := [(7, .int y10), (0, .ref b), (1, .ref (a 0)), (3, .ref ah), (4, .int z4), (5, .int z5), (6, .int z6), (8, .int z8), (9, .int z9), (10, .int z10)]) hx hb dL_law_234 hl (by decide) rfl (fun ls hl => ?_)
          obtain ⟨y11, e11⟩ : ∃ y : Int32, y = z8 + (nI 1) := ⟨_, rfl⟩
          replace hf := lt_of e11 hf
          refine lv_iinc (v := y11) (lv' := [(8, .int y11), (7, .int y10), (0, .ref b), (1, .ref (a 0)), (3, .ref ah), (4, .int z4), (5, .int z5), (6, .int z6), (9, .int z9), (10, .int z10)]) hx hb dL_law_236 hl (k := 7) rfl (by rw [e11]; rfl) (by decide) rfl (fun ls hl => ?_)
          refine lv_goto (tgt := 101) hx hb dL_law_239 (by decide) ?_
          exact hK101 z4 z5 z6 y10 y11 σ M bm bo fa fb hf _ _ _ _ _ _ _ _ _ hRel hP hD hS (by omega) (by omega) (lv_sub hl [2, 3, 4, 5, 6, 7, 1, 0] rfl)
        · replace hf := if_f hf h9
          refine lv_iconst (v := (nI 0)) hx hb dL_law_227 (by decide) ?_
          exact absurd (Option.some.inj hf) (by decide)
    · replace hf := if_f hf h2
      refine lv_aload_n hx hb dL_law_123 rfl (lv_at hl 1 rfl) ?_
      refine lv_iload hx hb dL_law_124 (lv_at hl 7 rfl) ?_
      refine lv_iload hx hb dL_law_126 (lv_at hl 9 rfl) ?_
      obtain ⟨r13, c12, hf⟩ := bd_of hf
      refine K_pricks (Y := [(ah, mp_aI T 62 vh)]) (rest := []) X hK hRel c12 hP hD hS hl.1 (Nat.le_of_ble_eq_true rfl) dL_law_128 hCS (fun i j f g H locs hRel hP hD hS => ?_)
      refine lv_istore (lv' := [(11, .int r13), (0, .ref b), (1, .ref (a 0)), (3, .ref ah), (4, .int z4), (5, .int z5), (6, .int z6), (7, .int z7), (8, .int z8), (9, .int z9), (10, .int z10)]) hx hb dL_law_131 hl (by decide) rfl (fun ls hl => ?_)
      refine lv_iload hx hb dL_law_133 (lv_at hl 0 rfl) ?_
      refine lv_if_lt (tgt := 182) hx hb dL_law_135 (by decide) (fun h14 => ?_) (fun h14 => ?_)
      · replace hf := if_t hf h14
        refine lv_iconst (v := (nI 0)) hx hb dL_law_182 (by decide) ?_
        exact absurd (Option.some.inj hf) (by decide)
      · replace hf := if_f hf h14
        refine lv_iload hx hb dL_law_138 (lv_at hl 0 rfl) ?_
        refine lv_aload_n hx hb dL_law_140 rfl (lv_at hl 3 rfl) ?_
        refine lv_bipush (v := (nI 36)) hx hb dL_law_141 (by decide) ?_
        refine lv_iload hx hb dL_law_143 (lv_at hl 10 rfl) ?_
        refine lv_iadd hx hb dL_law_145 ?_
        obtain ⟨h15, hf⟩ := gi_of hf
        refine va_iald hx hb hK hP 0 0 rfl rfl h15 dL_law_146 ?_
        refine lv_icmp_gt (tgt := 182) hx hb dL_law_147 (by decide) (fun h16 => ?_) (fun h16 => ?_)
        · replace hf := if_t hf h16
          refine lv_iconst (v := (nI 0)) hx hb dL_law_182 (by decide) ?_
          exact absurd (Option.some.inj hf) (by decide)
        · replace hf := if_f hf h16
          refine lv_aload_n hx hb dL_law_150 rfl (lv_at hl 2 rfl) ?_
          refine lv_iload hx hb dL_law_151 (lv_at hl 8 rfl) ?_
          refine lv_iconst (v := (nI 3)) hx hb dL_law_153 (by decide) ?_
          obtain ⟨r18, c17, hf⟩ := bd_of hf
          refine K_page (Y := [(ah, mp_aI T 62 vh)]) (rest := []) X hK hRel c17 hP hD hS hl.1 (Nat.le_of_ble_eq_true rfl) dL_law_154 hCS (fun i j f g H locs hRel hP hD hS => ?_)
          refine lv_iload hx hb dL_law_157 (lv_at hl 10 rfl) ?_
          refine lv_ishr hx hb dL_law_159 ?_
          refine lv_iconst (v := (nI 1)) hx hb dL_law_160 (by decide) ?_
          refine lv_iand hx hb dL_law_161 ?_
          refine lv_iload hx hb dL_law_162 (lv_at hl 0 rfl) ?_
          refine lv_aload_n hx hb dL_law_164 rfl (lv_at hl 3 rfl) ?_
          refine lv_bipush (v := (nI 36)) hx hb dL_law_165 (by decide) ?_
          refine lv_iload hx hb dL_law_167 (lv_at hl 10 rfl) ?_
          refine lv_iadd hx hb dL_law_169 ?_
          obtain ⟨h19, hf⟩ := gi_of hf
          refine va_iald hx hb hK hP 0 0 rfl rfl h19 dL_law_170 ?_
          refine lv_icmp_ne (tgt := 178) hx hb dL_law_171 (by decide) (fun h20 => ?_) (fun h20 => ?_)
          · replace hf := if_f hf h20
            refine lv_iconst (v := (nI 0)) hx hb dL_law_178 (by decide) ?_
            refine lv_icmp_eq (tgt := 184) hx hb dL_law_179 (by decide) (fun h21 => ?_) (fun h21 => ?_)
            · replace hf := if_t hf h21
              refine lv_iload hx hb dL_law_184 (lv_at hl 9 rfl) ?_
              refine lv_iload hx hb dL_law_186 (lv_at hl 0 rfl) ?_
              refine lv_iadd hx hb dL_law_188 ?_
              refine lv_topi (fun y22 e22 => ?_)
              replace hf := lt_of e22 hf
              refine lv_istore (lv' := [(9, .int y22), (11, .int r13), (0, .ref b), (1, .ref (a 0)), (3, .ref ah), (4, .int z4), (5, .int z5), (6, .int z6), (7, .int z7), (8, .int z8), (10, .int z10)]) hx hb dL_law_189 hl (by decide) rfl (fun ls hl => ?_)
              obtain ⟨y23, e23⟩ : ∃ y : Int32, y = z10 + (nI 1) := ⟨_, rfl⟩
              replace hf := lt_of e23 hf
              refine lv_iinc (v := y23) (lv' := [(10, .int y23), (9, .int y22), (11, .int r13), (0, .ref b), (1, .ref (a 0)), (3, .ref ah), (4, .int z4), (5, .int z5), (6, .int z6), (7, .int z7), (8, .int z8)]) hx hb dL_law_191 hl (k := 10) rfl (by rw [e23]; rfl) (by decide) rfl (fun ls hl => ?_)
              refine lv_goto (tgt := 115) hx hb dL_law_194 (by decide) ?_
              exact ih z4 z5 z6 z7 z8 y22 y23 σ M bm bo fa fb hf _ _ _ _ _ _ _ _ _ hRel hP hD hS (by omega) (by omega) (lv_sub hl [3, 4, 5, 6, 7, 8, 9, 10, 1, 0] rfl)
            · replace hf := if_f hf h21
              refine lv_iconst (v := (nI 0)) hx hb dL_law_182 (by decide) ?_
              exact absurd (Option.some.inj hf) (by decide)
          · replace hf := if_t hf h20
            refine lv_iconst (v := (nI 1)) hx hb dL_law_174 (by decide) ?_
            refine lv_goto (tgt := 179) hx hb dL_law_175 (by decide) ?_
            refine lv_icmp_eq (tgt := 184) hx hb dL_law_179 (by decide) (fun h24 => ?_) (fun h24 => ?_)
            · replace hf := if_t hf h24
              refine lv_iload hx hb dL_law_184 (lv_at hl 9 rfl) ?_
              refine lv_iload hx hb dL_law_186 (lv_at hl 0 rfl) ?_
              refine lv_iadd hx hb dL_law_188 ?_
              refine lv_topi (fun y25 e25 => ?_)
              replace hf := lt_of e25 hf
              refine lv_istore (lv' := [(9, .int y25), (11, .int r13), (0, .ref b), (1, .ref (a 0)), (3, .ref ah), (4, .int z4), (5, .int z5), (6, .int z6), (7, .int z7), (8, .int z8), (10, .int z10)]) hx hb dL_law_189 hl (by decide) rfl (fun ls hl => ?_)
              obtain ⟨y26, e26⟩ : ∃ y : Int32, y = z10 + (nI 1) := ⟨_, rfl⟩
              replace hf := lt_of e26 hf
              refine lv_iinc (v := y26) (lv' := [(10, .int y26), (9, .int y25), (11, .int r13), (0, .ref b), (1, .ref (a 0)), (3, .ref ah), (4, .int z4), (5, .int z5), (6, .int z6), (7, .int z7), (8, .int z8)]) hx hb dL_law_191 hl (k := 10) rfl (by rw [e26]; rfl) (by decide) rfl (fun ls hl => ?_)
              refine lv_goto (tgt := 115) hx hb dL_law_194 (by decide) ?_
              exact ih z4 z5 z6 z7 z8 y25 y26 σ M bm bo fa fb hf _ _ _ _ _ _ _ _ _ hRel hP hD hS (by omega) (by omega) (lv_sub hl [3, 4, 5, 6, 7, 8, 9, 10, 1, 0] rfl)
            · replace hf := if_f hf h24
              refine lv_iconst (v := (nI 0)) hx hb dL_law_182 (by decide) ?_
              exact absurd (Option.some.inj hf) (by decide)

set_option maxHeartbeats 4000000 in
set_option maxRecDepth 100000 in
theorem w_L_law_101 {p : Program} {l : Launch} {e : Env} {s : State} {m : MethodId} {below : List Frame} {meth : Method} {c : Code} {D : va_G} {T : Nat → ClassId} {nm : String} {b ah : Nat} {a : Nat → Nat} (X : mp_X p s m meth c #[.ref b] RL nm cL_law 29 (some .boolean)) (hK : va_K D mp_cl (mp_ty T) s) (hbl : b < s.heap.size) (fu : Nat) (n1 : Nat) (xs : Nat → Int32) (vh : Nat → Int32) (hX : va_X b n1 xs s s.heap) (cb sb : Nat) (hcb : cb ≤ 600000 ∧ sb ≤ 7302250) (K55 : Int32 → Int32 → (Nat → Nat) → Option (Nat → Nat) → Nat → (Nat → Nat) → Int64 → Int64 → Option (Int32)) (hK55 : ∀ (z4 : Int32) (z5 : Int32) (σ : (Nat → Nat)) (M : Option (Nat → Nat)) (bm : Nat) (bo : (Nat → Nat)) (fa : Int64) (fb : Int64), K55 z4 z5 σ M bm bo fa fb = some (nI 1) → ∀ (H : Heap) (locs : List Loc) (ls : Array Slot) (i : Nat → Int32) (j : Nat → Int64) (f : Nat → Nat → Int32) (g : Nat → Nat → Int64) (C S : Nat), REL5 σ M bm bo fa fb i j f g → va_P D mp_cl ([(ah, mp_aI T 62 vh)] ++ aW T a i j f g) H → va_D (law_A s) ([(ah, mp_aI T 62 vh)] ++ aW T a i j f g) → va_S (law_A s) s.heap H locs → C ≤ cb → S ≤ sb → lv_has ls 29 [(0, .ref b), (1, .ref (a 0)), (3, .ref ah), (4, .int z4), (5, .int z5)] → W p l e room_1 s m #[.ref b] below meth c H locs C S (lw_Z below #[.ref b] s) (F0 m 55 ls [])) :
    ∀ (n : Nat) (z4 : Int32) (z5 : Int32) (z6 : Int32) (z7 : Int32) (z8 : Int32) (σ : (Nat → Nat)) (M : Option (Nat → Nat)) (bm : Nat) (bo : (Nat → Nat)) (fa : Int64) (fb : Int64), f_L_law_101 fu n1 xs vh K55 n z4 z5 z6 z7 z8 σ M bm bo fa fb = some (nI 1) → ∀ (H : Heap) (locs : List Loc) (ls : Array Slot) (i : Nat → Int32) (j : Nat → Int64) (f : Nat → Nat → Int32) (g : Nat → Nat → Int64) (C S : Nat), REL5 σ M bm bo fa fb i j f g → va_P D mp_cl ([(ah, mp_aI T 62 vh)] ++ aW T a i j f g) H → va_D (law_A s) ([(ah, mp_aI T 62 vh)] ++ aW T a i j f g) → va_S (law_A s) s.heap H locs → C + 2 ≤ cb → S + 11 ≤ sb → lv_has ls 29 [(0, .ref b), (1, .ref (a 0)), (3, .ref ah), (4, .int z4), (5, .int z5), (6, .int z6), (7, .int z7), (8, .int z8)] → W p l e room_1 s m #[.ref b] below meth c H locs C S (lw_Z below #[.ref b] s) (F0 m 101 ls []) := by
  have hx := X.1
  have hb := X.2.1
  have hml := X.2.2.1
  have hown := X.2.2.2.2.1
  have hts := X.2.2.2.2.2.1
  have hbA : ¬ law_A s b := Nat.not_le.mpr hbl
  have hA : ∀ q, s.heap.size ≤ q → law_A s q := fun q h => h
  intro n
  induction n with
  | zero => intro z4 z5 z6 z7 z8 σ M bm bo fa fb hf; exact absurd hf (by intro h; cases h)
  | succ n ih =>
    intro z4 z5 z6 z7 z8 σ M bm bo fa fb hf H locs ls i j f g C S hRel hP hD hS hC hC2 hl
    replace hf : gi_ (nI 2) 62 ((if (vh ((nI 2)).toNatClampNeg) ≤ z8 then f_L_law_248 fu n1 xs vh (K55) fu z4 z5 z6 z7 (nI 0) (nI 0) σ M bm bo fa fb else f_L_law_115 fu n1 xs vh (K55) (f_L_law_101 fu n1 xs vh K55 n) fu z4 z5 z6 z7 z8 (nI 0) (nI 0) σ M bm bo fa fb)) = some (nI 1) := hf
    have hCS : C + 0 ≤ room_1.cells ∧ S + 0 ≤ room_1.slots := ⟨(show C + 0 ≤ 600000 by omega), (show S + 0 ≤ 7302250 by omega)⟩
    refine lv_iload hx hb dL_law_101 (lv_at hl 7 rfl) ?_
    refine lv_aload_n hx hb dL_law_103 rfl (lv_at hl 2 rfl) ?_
    refine lv_iconst (v := (nI 2)) hx hb dL_law_104 (by decide) ?_
    obtain ⟨h1, hf⟩ := gi_of hf
    refine va_iald hx hb hK hP 0 0 rfl rfl h1 dL_law_105 ?_
    refine lv_icmp_ge (tgt := 242) hx hb dL_law_106 (by decide) (fun h2 => ?_) (fun h2 => ?_)
    · replace hf := if_t hf h2
      refine lv_iconst (v := (nI 0)) hx hb dL_law_242 (by decide) ?_
      refine lv_istore (lv' := [(8, .int (nI 0)), (0, .ref b), (1, .ref (a 0)), (3, .ref ah), (4, .int z4), (5, .int z5), (6, .int z6), (7, .int z7)]) hx hb dL_law_243 hl (by decide) rfl (fun ls hl => ?_)
      refine lv_iconst (v := (nI 0)) hx hb dL_law_245 (by decide) ?_
      refine lv_istore (lv' := [(9, .int (nI 0)), (8, .int (nI 0)), (0, .ref b), (1, .ref (a 0)), (3, .ref ah), (4, .int z4), (5, .int z5), (6, .int z6), (7, .int z7)]) hx hb dL_law_246 hl (by decide) rfl (fun ls hl => ?_)
      exact w_L_law_248 X hK hbl fu n1 xs vh hX cb sb hcb (K55) (hK55) fu z4 z5 z6 z7 (nI 0) (nI 0) σ M bm bo fa fb hf _ _ _ _ _ _ _ _ _ hRel hP hD hS (by omega) (by omega) (lv_sub hl [2, 3, 4, 5, 6, 7, 8, 1, 0] rfl)
    · replace hf := if_f hf h2
      refine lv_iconst (v := (nI 0)) hx hb dL_law_109 (by decide) ?_
      refine lv_istore (lv' := [(9, .int (nI 0)), (0, .ref b), (1, .ref (a 0)), (3, .ref ah), (4, .int z4), (5, .int z5), (6, .int z6), (7, .int z7), (8, .int z8)]) hx hb dL_law_110 hl (by decide) rfl (fun ls hl => ?_)
      refine lv_iconst (v := (nI 0)) hx hb dL_law_112 (by decide) ?_
      refine lv_istore (lv' := [(10, .int (nI 0)), (9, .int (nI 0)), (0, .ref b), (1, .ref (a 0)), (3, .ref ah), (4, .int z4), (5, .int z5), (6, .int z6), (7, .int z7), (8, .int z8)]) hx hb dL_law_113 hl (by decide) rfl (fun ls hl => ?_)
      exact w_L_law_115 X hK hbl fu n1 xs vh hX cb sb hcb (K55) (hK55) (f_L_law_101 fu n1 xs vh K55 n) (ih) fu z4 z5 z6 z7 z8 (nI 0) (nI 0) σ M bm bo fa fb hf _ _ _ _ _ _ _ _ _ hRel hP hD hS (by omega) (by omega) (lv_sub hl [2, 3, 4, 5, 6, 7, 8, 9, 1, 0] rfl)

set_option maxHeartbeats 4000000 in
set_option maxRecDepth 100000 in
theorem w_L_law_55 {p : Program} {l : Launch} {e : Env} {s : State} {m : MethodId} {below : List Frame} {meth : Method} {c : Code} {D : va_G} {T : Nat → ClassId} {nm : String} {b ah : Nat} {a : Nat → Nat} (X : mp_X p s m meth c #[.ref b] RL nm cL_law 29 (some .boolean)) (hK : va_K D mp_cl (mp_ty T) s) (hbl : b < s.heap.size) (fu : Nat) (n1 : Nat) (xs : Nat → Int32) (vh : Nat → Int32) (hX : va_X b n1 xs s s.heap) :
    ∀ (n : Nat) (z4 : Int32) (z5 : Int32) (σ : (Nat → Nat)) (M : Option (Nat → Nat)) (bm : Nat) (bo : (Nat → Nat)) (fa : Int64) (fb : Int64), f_L_law_55 fu n1 xs vh  n z4 z5 σ M bm bo fa fb = some (nI 1) → ∀ (H : Heap) (locs : List Loc) (ls : Array Slot) (i : Nat → Int32) (j : Nat → Int64) (f : Nat → Nat → Int32) (g : Nat → Nat → Int64) (C S : Nat), REL5 σ M bm bo fa fb i j f g → va_P D mp_cl ([(ah, mp_aI T 62 vh)] ++ aW T a i j f g) H → va_D (law_A s) ([(ah, mp_aI T 62 vh)] ++ aW T a i j f g) → va_S (law_A s) s.heap H locs → C + 2 * n ≤ 600000 → S + 11 * n ≤ 7302250 → lv_has ls 29 [(0, .ref b), (1, .ref (a 0)), (3, .ref ah), (4, .int z4), (5, .int z5)] → W p l e room_1 s m #[.ref b] below meth c H locs C S (lw_Z below #[.ref b] s) (F0 m 55 ls []) := by
  have hx := X.1
  have hb := X.2.1
  have hml := X.2.2.1
  have hown := X.2.2.2.2.1
  have hts := X.2.2.2.2.2.1
  have hbA : ¬ law_A s b := Nat.not_le.mpr hbl
  have hA : ∀ q, s.heap.size ≤ q → law_A s q := fun q h => h
  intro n
  induction n with
  | zero => intro z4 z5 σ M bm bo fa fb hf; exact absurd hf (by intro h; cases h)
  | succ n ih =>
    intro z4 z5 σ M bm bo fa fb hf H locs ls i j f g C S hRel hP hD hS hC hC2 hl
    replace hf : (if (nI 8) ≤ z5 then some (nI 1) else (if (Int32.ofNat n1) ≤ z5 then lt_ (((nI 337) * z5) + z4) (fun (y3 : Int32) => f_L_law_101 fu n1 xs vh (f_L_law_55 fu n1 xs vh  n) fu z4 z5 y3 (nI 0) (nI 0) σ M bm bo fa fb) else gi_ z5 n1 (lt_ (((xs (z5).toNatClampNeg) >>> ((nI 1) &&& (31 : Int32))) ^^^ ((nI 29) * z5)) (fun (y5 : Int32) => f_L_law_101 fu n1 xs vh (f_L_law_55 fu n1 xs vh  n) fu z4 z5 y5 (nI 0) (nI 0) σ M bm bo fa fb)))) = some (nI 1) := hf
    have hCS : C + 0 ≤ room_1.cells ∧ S + 0 ≤ room_1.slots := ⟨(show C + 0 ≤ 600000 by omega), (show S + 0 ≤ 7302250 by omega)⟩
    obtain ⟨cb, hcbe⟩ : ∃ cb, cb = 600000 - 2 * n := ⟨_, rfl⟩
    obtain ⟨sb, hsbe⟩ : ∃ sb, sb = 7302250 - 11 * n := ⟨_, rfl⟩
    have hcb : cb ≤ 600000 ∧ sb ≤ 7302250 := ⟨by omega, by omega⟩
    refine lv_iload hx hb dL_law_55 (lv_at hl 4 rfl) ?_
    refine lv_bipush (v := (nI 8)) hx hb dL_law_57 (by decide) ?_
    refine lv_icmp_ge (tgt := 1216) hx hb dL_law_59 (by decide) (fun h1 => ?_) (fun h1 => ?_)
    · replace hf := if_t hf h1
      refine lv_iconst (v := (nI 1)) hx hb dL_law_1216 (by decide) ?_
      exact va_forget hS.2.2 (W.widen (k := 600000) (n := 7302250) (show C ≤ 600000 by omega) (show S ≤ 7302250 by omega) (lw_ret hx hb X.2.2.2.1 X.2.2.2.2.2.2.1 dL_law_1217))
    · replace hf := if_f hf h1
      refine lv_iload hx hb dL_law_62 (lv_at hl 4 rfl) ?_
      refine lv_aload_n hx hb dL_law_64 rfl (lv_at hl 0 rfl) ?_
      refine va_slen hx hb hX hbl hbA hS dL_law_65 ?_
      refine lv_icmp_ge (tgt := 84) hx hb dL_law_66 (by decide) (fun h2 => ?_) (fun h2 => ?_)
      · replace hf := if_t hf h2
        refine lv_sipush (v := (nI 337)) hx hb dL_law_84 (by decide) ?_
        refine lv_iload hx hb dL_law_87 (lv_at hl 4 rfl) ?_
        refine lv_imul hx hb dL_law_89 ?_
        refine lv_iload hx hb dL_law_90 (lv_at hl 3 rfl) ?_
        refine lv_iadd hx hb dL_law_92 ?_
        refine lv_topi (fun y3 e3 => ?_)
        replace hf := lt_of e3 hf
        refine lv_istore (lv' := [(6, .int y3), (0, .ref b), (1, .ref (a 0)), (3, .ref ah), (4, .int z4), (5, .int z5)]) hx hb dL_law_93 hl (by decide) rfl (fun ls hl => ?_)
        refine lv_iconst (v := (nI 0)) hx hb dL_law_95 (by decide) ?_
        refine lv_istore (lv' := [(7, .int (nI 0)), (6, .int y3), (0, .ref b), (1, .ref (a 0)), (3, .ref ah), (4, .int z4), (5, .int z5)]) hx hb dL_law_96 hl (by decide) rfl (fun ls hl => ?_)
        refine lv_iconst (v := (nI 0)) hx hb dL_law_98 (by decide) ?_
        refine lv_istore (lv' := [(8, .int (nI 0)), (7, .int (nI 0)), (6, .int y3), (0, .ref b), (1, .ref (a 0)), (3, .ref ah), (4, .int z4), (5, .int z5)]) hx hb dL_law_99 hl (by decide) rfl (fun ls hl => ?_)
        exact w_L_law_101 X hK hbl fu n1 xs vh hX cb sb hcb (f_L_law_55 fu n1 xs vh  n) ((fun z4 z5 σ M bm bo fa fb hf H locs ls i j f g C S hRel hP hD hS hC hC2 hl => ih z4 z5 σ M bm bo fa fb hf H locs ls i j f g C S hRel hP hD hS (by omega) (by omega) hl)) fu z4 z5 y3 (nI 0) (nI 0) σ M bm bo fa fb hf _ _ _ _ _ _ _ _ _ hRel hP hD hS (by omega) (by omega) (lv_sub hl [3, 4, 5, 6, 7, 2, 1, 0] rfl)
      · replace hf := if_f hf h2
        refine lv_aload_n hx hb dL_law_69 rfl (lv_at hl 0 rfl) ?_
        refine lv_iload hx hb dL_law_70 (lv_at hl 4 rfl) ?_
        obtain ⟨h4, hf⟩ := gi_of hf
        refine va_sld hx hb hX hbl hbA hS h4 dL_law_72 ?_
        refine lv_iconst (v := (nI 1)) hx hb dL_law_73 (by decide) ?_
        refine lv_ishr hx hb dL_law_74 ?_
        refine lv_bipush (v := (nI 29)) hx hb dL_law_75 (by decide) ?_
        refine lv_iload hx hb dL_law_77 (lv_at hl 4 rfl) ?_
        refine lv_imul hx hb dL_law_79 ?_
        refine lv_ixor hx hb dL_law_80 ?_
        refine lv_goto (tgt := 93) hx hb dL_law_81 (by decide) ?_
        refine lv_topi (fun y5 e5 => ?_)
        replace hf := lt_of e5 hf
        refine lv_istore (lv' := [(6, .int y5), (0, .ref b), (1, .ref (a 0)), (3, .ref ah), (4, .int z4), (5, .int z5)]) hx hb dL_law_93 hl (by decide) rfl (fun ls hl => ?_)
        refine lv_iconst (v := (nI 0)) hx hb dL_law_95 (by decide) ?_
        refine lv_istore (lv' := [(7, .int (nI 0)), (6, .int y5), (0, .ref b), (1, .ref (a 0)), (3, .ref ah), (4, .int z4), (5, .int z5)]) hx hb dL_law_96 hl (by decide) rfl (fun ls hl => ?_)
        refine lv_iconst (v := (nI 0)) hx hb dL_law_98 (by decide) ?_
        refine lv_istore (lv' := [(8, .int (nI 0)), (7, .int (nI 0)), (6, .int y5), (0, .ref b), (1, .ref (a 0)), (3, .ref ah), (4, .int z4), (5, .int z5)]) hx hb dL_law_99 hl (by decide) rfl (fun ls hl => ?_)
        exact w_L_law_101 X hK hbl fu n1 xs vh hX cb sb hcb (f_L_law_55 fu n1 xs vh  n) ((fun z4 z5 σ M bm bo fa fb hf H locs ls i j f g C S hRel hP hD hS hC hC2 hl => ih z4 z5 σ M bm bo fa fb hf H locs ls i j f g C S hRel hP hD hS (by omega) (by omega) hl)) fu z4 z5 y5 (nI 0) (nI 0) σ M bm bo fa fb hf _ _ _ _ _ _ _ _ _ hRel hP hD hS (by omega) (by omega) (lv_sub hl [3, 4, 5, 6, 7, 2, 1, 0] rfl)

