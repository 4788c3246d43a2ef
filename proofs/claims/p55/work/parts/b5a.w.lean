/-! law: its walk -/
set_option maxHeartbeats 4000000 in
set_option maxRecDepth 100000 in
theorem w_L_law_1176 {p : Program} {l : Launch} {e : Env} {s : State} {m : MethodId} {below : List Frame} {meth : Method} {c : Code} {D : va_G} {T : Nat → ClassId} {nm : String} {b ah : Nat} {a : Nat → Nat} (X : mp_X p s m meth c #[.ref b] RL nm cL_law 29 (some .boolean)) (hK : va_K D mp_cl (mp_ty T) s) (hbl : b < s.heap.size) (fu : Nat) (n1 : Nat) (xs : Nat → Int32) (vh : Nat → Int32) (hX : va_X b n1 xs s s.heap) (cb sb : Nat) (hcb : cb ≤ 600000 ∧ sb ≤ 7302250) (K55 : Int32 → Int32 → (Nat → Nat) → Option (Nat → Nat) → Nat → (Nat → Nat) → Int64 → Int64 → Option (Int32)) (hK55 : ∀ (z4 : Int32) (z5 : Int32) (σ : (Nat → Nat)) (M : Option (Nat → Nat)) (bm : Nat) (bo : (Nat → Nat)) (fa : Int64) (fb : Int64), K55 z4 z5 σ M bm bo fa fb = some (nI 1) → ∀ (H : Heap) (locs : List Loc) (ls : Array Slot) (i : Nat → Int32) (j : Nat → Int64) (f : Nat → Nat → Int32) (g : Nat → Nat → Int64) (C S : Nat), REL5 σ M bm bo fa fb i j f g → va_P D mp_cl ([(ah, mp_aI T 62 vh)] ++ aW T a i j f g) H → va_D (law_A s) ([(ah, mp_aI T 62 vh)] ++ aW T a i j f g) → va_S (law_A s) s.heap H locs → C ≤ cb → S ≤ sb → lv_has ls 29 [(0, .ref b), (1, .ref (a 0)), (3, .ref ah), (4, .int z4), (5, .int z5)] → W p l e room_1 s m #[.ref b] below meth c H locs C S (lw_Z below #[.ref b] s) (F0 m 55 ls [])) :
    ∀  (z4 : Int32) (z5 : Int32) (z6 : Int32) (z10 : Int32) (σ : (Nat → Nat)) (M : Option (Nat → Nat)) (bm : Nat) (bo : (Nat → Nat)) (fa : Int64) (fb : Int64), f_L_law_1176 fu n1 xs vh K55 z4 z5 z6 z10 σ M bm bo fa fb = some (nI 1) → ∀ (H : Heap) (locs : List Loc) (ls : Array Slot) (i : Nat → Int32) (j : Nat → Int64) (f : Nat → Nat → Int32) (g : Nat → Nat → Int64) (C S : Nat), REL5 σ M bm bo fa fb i j f g → va_P D mp_cl ([(ah, mp_aI T 62 vh)] ++ aW T a i j f g) H → va_D (law_A s) ([(ah, mp_aI T 62 vh)] ++ aW T a i j f g) → va_S (law_A s) s.heap H locs → C + 0 ≤ cb → S + 0 ≤ sb → lv_has ls 29 [(0, .ref b), (1, .ref (a 0)), (3, .ref ah), (4, .int z4), (5, .int z5), (6, .int z6), (10, .int z10)] → W p l e room_1 s m #[.ref b] below meth c H locs C S (lw_Z below #[.ref b] s) (F0 m 1176 ls []) := by
  have hx := X.1
  have hb := X.2.1
  have hml := X.2.2.1
  have hown := X.2.2.2.2.1
  have hts := X.2.2.2.2.2.1
  have hbA : ¬ law_A s b := Nat.not_le.mpr hbl
  have hA : ∀ q, s.heap.size ≤ q → law_A s q := fun q h => h
  intro z4 z5 z6 z10 σ M bm bo fa fb hf H locs ls i j f g C S hRel hP hD hS hC hC2 hl
  replace hf : (if ((z6 >>> ((nI 6) &&& (31 : Int32))) &&& (nI 3)) = (nI 2) then (if ((z6 >>> ((nI 9) &&& (31 : Int32))) &&& (nI 1)) = (nI 1) then bd_ (s_ill z10 (nI 1) σ) (fun (u8 : (Nat → Nat)) => lt_ (z5 + (nI 1)) (fun (y9 : Int32) => K55 z4 y9 u8 M bm bo fa fb)) else bd_ (s_ill z10 (nI 0) σ) (fun (u5 : (Nat → Nat)) => lt_ (z5 + (nI 1)) (fun (y6 : Int32) => K55 z4 y6 u5 M bm bo fa fb))) else lt_ (z5 + (nI 1)) (fun (y2 : Int32) => K55 z4 y2 σ M bm bo fa fb)) = some (nI 1) := hf
  have hCS : C + 0 ≤ room_1.cells ∧ S + 0 ≤ room_1.slots := ⟨(show C + 0 ≤ 600000 by omega), (show S + 0 ≤ 7302250 by omega)⟩
  refine lv_iload hx hb dL_law_1176 (lv_at hl 5 rfl) ?_
  refine lv_bipush (v := (nI 6)) hx hb dL_law_1178 (by decide) ?_
  refine lv_ishr hx hb dL_law_1180 ?_
  refine lv_iconst (v := (nI 3)) hx hb dL_law_1181 (by decide) ?_
  refine lv_iand hx hb dL_law_1182 ?_
  refine lv_iconst (v := (nI 2)) hx hb dL_law_1183 (by decide) ?_
  refine lv_icmp_ne (tgt := 1210) hx hb dL_law_1184 (by decide) (fun h1 => ?_) (fun h1 => ?_)
  · replace hf := if_f hf h1
    obtain ⟨y2, e2⟩ : ∃ y : Int32, y = z5 + (nI 1) := ⟨_, rfl⟩
    replace hf := lt_of e2 hf
    refine lv_iinc (v := y2) (lv' := [(5, .int y2), (0, .ref b), (1, .ref (a 0)), (3, .ref ah), (4, .int z4), (6, .int z6), (10, .int z10)]) hx hb dL_law_1210 hl (k := 4) rfl (by rw [e2]; rfl) (by decide) rfl (fun ls hl => ?_)
    refine lv_goto (tgt := 55) hx hb dL_law_1213 (by decide) ?_
    exact hK55 z4 y2 σ M bm bo fa fb hf _ _ _ _ _ _ _ _ _ hRel hP hD hS (by omega) (by omega) (lv_sub hl [1, 2, 3, 4, 0] rfl)
  · replace hf := if_t hf h1
    refine lv_aload_n hx hb dL_law_1187 rfl (lv_at hl 1 rfl) ?_
    refine lv_iload hx hb dL_law_1188 (lv_at hl 6 rfl) ?_
    refine lv_iload hx hb dL_law_1190 (lv_at hl 5 rfl) ?_
    refine lv_bipush (v := (nI 9)) hx hb dL_law_1192 (by decide) ?_
    refine lv_ishr hx hb dL_law_1194 ?_
    refine lv_iconst (v := (nI 1)) hx hb dL_law_1195 (by decide) ?_
    refine lv_iand hx hb dL_law_1196 ?_
    refine lv_iconst (v := (nI 1)) hx hb dL_law_1197 (by decide) ?_
    refine lv_icmp_ne (tgt := 1205) hx hb dL_law_1198 (by decide) (fun h3 => ?_) (fun h3 => ?_)
    · replace hf := if_f hf h3
      refine lv_iconst (v := (nI 0)) hx hb dL_law_1205 (by decide) ?_
      obtain ⟨u5, c4, hf⟩ := bd_of hf
      refine K_ill (Y := [(ah, mp_aI T 62 vh)]) (rest := []) X hK hRel c4 hP hD hS hl.1 (Nat.le_of_ble_eq_true rfl) dL_law_1206 hCS (fun rX i j f g H locs hRel hP hD hS => ?_)
      refine lv_pop hx hb dL_law_1209 rfl ?_
      obtain ⟨y6, e6⟩ : ∃ y : Int32, y = z5 + (nI 1) := ⟨_, rfl⟩
      replace hf := lt_of e6 hf
      refine lv_iinc (v := y6) (lv' := [(5, .int y6), (0, .ref b), (1, .ref (a 0)), (3, .ref ah), (4, .int z4), (6, .int z6), (10, .int z10)]) hx hb dL_law_1210 hl (k := 4) rfl (by rw [e6]; rfl) (by decide) rfl (fun ls hl => ?_)
      refine lv_goto (tgt := 55) hx hb dL_law_1213 (by decide) ?_
      exact hK55 z4 y6 u5 M bm bo fa fb hf _ _ _ _ _ _ _ _ _ hRel hP hD hS (by omega) (by omega) (lv_sub hl [1, 2, 3, 4, 0] rfl)
    · replace hf := if_t hf h3
      refine lv_iconst (v := (nI 1)) hx hb dL_law_1201 (by decide) ?_
      refine lv_goto (tgt := 1206) hx hb dL_law_1202 (by decide) ?_
      obtain ⟨u8, c7, hf⟩ := bd_of hf
      refine K_ill (Y := [(ah, mp_aI T 62 vh)]) (rest := []) X hK hRel c7 hP hD hS hl.1 (Nat.le_of_ble_eq_true rfl) dL_law_1206 hCS (fun rX i j f g H locs hRel hP hD hS => ?_)
      refine lv_pop hx hb dL_law_1209 rfl ?_
      obtain ⟨y9, e9⟩ : ∃ y : Int32, y = z5 + (nI 1) := ⟨_, rfl⟩
      replace hf := lt_of e9 hf
      refine lv_iinc (v := y9) (lv' := [(5, .int y9), (0, .ref b), (1, .ref (a 0)), (3, .ref ah), (4, .int z4), (6, .int z6), (10, .int z10)]) hx hb dL_law_1210 hl (k := 4) rfl (by rw [e9]; rfl) (by decide) rfl (fun ls hl => ?_)
      refine lv_goto (tgt := 55) hx hb dL_law_1213 (by decide) ?_
      exact hK55 z4 y9 u8 M bm bo fa fb hf _ _ _ _ _ _ _ _ _ hRel hP hD hS (by omega) (by omega) (lv_sub hl [1, 2, 3, 4, 0] rfl)

set_option maxHeartbeats 4000000 in
set_option maxRecDepth 100000 in
theorem w_L_law_1172 {p : Program} {l : Launch} {e : Env} {s : State} {m : MethodId} {below : List Frame} {meth : Method} {c : Code} {D : va_G} {T : Nat → ClassId} {nm : String} {b ah : Nat} {a : Nat → Nat} (X : mp_X p s m meth c #[.ref b] RL nm cL_law 29 (some .boolean)) (hK : va_K D mp_cl (mp_ty T) s) (hbl : b < s.heap.size) (fu : Nat) (n1 : Nat) (xs : Nat → Int32) (vh : Nat → Int32) (hX : va_X b n1 xs s s.heap) (cb sb : Nat) (hcb : cb ≤ 600000 ∧ sb ≤ 7302250) (K55 : Int32 → Int32 → (Nat → Nat) → Option (Nat → Nat) → Nat → (Nat → Nat) → Int64 → Int64 → Option (Int32)) (hK55 : ∀ (z4 : Int32) (z5 : Int32) (σ : (Nat → Nat)) (M : Option (Nat → Nat)) (bm : Nat) (bo : (Nat → Nat)) (fa : Int64) (fb : Int64), K55 z4 z5 σ M bm bo fa fb = some (nI 1) → ∀ (H : Heap) (locs : List Loc) (ls : Array Slot) (i : Nat → Int32) (j : Nat → Int64) (f : Nat → Nat → Int32) (g : Nat → Nat → Int64) (C S : Nat), REL5 σ M bm bo fa fb i j f g → va_P D mp_cl ([(ah, mp_aI T 62 vh)] ++ aW T a i j f g) H → va_D (law_A s) ([(ah, mp_aI T 62 vh)] ++ aW T a i j f g) → va_S (law_A s) s.heap H locs → C ≤ cb → S ≤ sb → lv_has ls 29 [(0, .ref b), (1, .ref (a 0)), (3, .ref ah), (4, .int z4), (5, .int z5)] → W p l e room_1 s m #[.ref b] below meth c H locs C S (lw_Z below #[.ref b] s) (F0 m 55 ls [])) :
    ∀  (z4 : Int32) (z5 : Int32) (z6 : Int32) (z10 : Int32) (w1 : Int32) (w2 : Int32) (σ : (Nat → Nat)) (M : Option (Nat → Nat)) (bm : Nat) (bo : (Nat → Nat)) (fa : Int64) (fb : Int64), f_L_law_1172 fu n1 xs vh K55 z4 z5 z6 z10 w1 w2 σ M bm bo fa fb = some (nI 1) → ∀ (H : Heap) (locs : List Loc) (ls : Array Slot) (i : Nat → Int32) (j : Nat → Int64) (f : Nat → Nat → Int32) (g : Nat → Nat → Int64) (C S : Nat), REL5 σ M bm bo fa fb i j f g → va_P D mp_cl ([(ah, mp_aI T 62 vh)] ++ aW T a i j f g) H → va_D (law_A s) ([(ah, mp_aI T 62 vh)] ++ aW T a i j f g) → va_S (law_A s) s.heap H locs → C + 0 ≤ cb → S + 0 ≤ sb → lv_has ls 29 [(0, .ref b), (1, .ref (a 0)), (3, .ref ah), (4, .int z4), (5, .int z5), (6, .int z6), (10, .int z10)] → W p l e room_1 s m #[.ref b] below meth c H locs C S (lw_Z below #[.ref b] s) (F0 m 1172 ls [.int w2, .int w1, .ref (a 0)]) := by
  have hx := X.1
  have hb := X.2.1
  have hml := X.2.2.1
  have hown := X.2.2.2.2.1
  have hts := X.2.2.2.2.2.1
  have hbA : ¬ law_A s b := Nat.not_le.mpr hbl
  have hA : ∀ q, s.heap.size ≤ q → law_A s q := fun q h => h
  intro z4 z5 z6 z10 w1 w2 σ M bm bo fa fb hf H locs ls i j f g C S hRel hP hD hS hC hC2 hl
  replace hf : bd_ (s_damp w1 w2 σ) (fun (u2 : (Nat → Nat)) => f_L_law_1176 fu n1 xs vh (K55) z4 z5 z6 z10 u2 M bm bo fa fb) = some (nI 1) := hf
  have hCS : C + 0 ≤ room_1.cells ∧ S + 0 ≤ room_1.slots := ⟨(show C + 0 ≤ 600000 by omega), (show S + 0 ≤ 7302250 by omega)⟩
  obtain ⟨u2, c1, hf⟩ := bd_of hf
  refine K_damp (Y := [(ah, mp_aI T 62 vh)]) (rest := []) X hK hRel c1 hP hD hS hl.1 (Nat.le_of_ble_eq_true rfl) dL_law_1172 hCS (fun rX i j f g H locs hRel hP hD hS => ?_)
  refine lv_pop hx hb dL_law_1175 rfl ?_
  exact w_L_law_1176 X hK hbl fu n1 xs vh hX cb sb hcb (K55) (hK55) z4 z5 z6 z10 u2 M bm bo fa fb hf _ _ _ _ _ _ _ _ _ hRel hP hD hS (by omega) (by omega) (lv_sub hl [0, 1, 2, 3, 4, 5, 6] rfl)

set_option maxHeartbeats 4000000 in
set_option maxRecDepth 100000 in
theorem w_L_law_1134 {p : Program} {l : Launch} {e : Env} {s : State} {m : MethodId} {below : List Frame} {meth : Method} {c : Code} {D : va_G} {T : Nat → ClassId} {nm : String} {b ah : Nat} {a : Nat → Nat} (X : mp_X p s m meth c #[.ref b] RL nm cL_law 29 (some .boolean)) (hK : va_K D mp_cl (mp_ty T) s) (hbl : b < s.heap.size) (fu : Nat) (n1 : Nat) (xs : Nat → Int32) (vh : Nat → Int32) (hX : va_X b n1 xs s s.heap) (cb sb : Nat) (hcb : cb ≤ 600000 ∧ sb ≤ 7302250) (K55 : Int32 → Int32 → (Nat → Nat) → Option (Nat → Nat) → Nat → (Nat → Nat) → Int64 → Int64 → Option (Int32)) (hK55 : ∀ (z4 : Int32) (z5 : Int32) (σ : (Nat → Nat)) (M : Option (Nat → Nat)) (bm : Nat) (bo : (Nat → Nat)) (fa : Int64) (fb : Int64), K55 z4 z5 σ M bm bo fa fb = some (nI 1) → ∀ (H : Heap) (locs : List Loc) (ls : Array Slot) (i : Nat → Int32) (j : Nat → Int64) (f : Nat → Nat → Int32) (g : Nat → Nat → Int64) (C S : Nat), REL5 σ M bm bo fa fb i j f g → va_P D mp_cl ([(ah, mp_aI T 62 vh)] ++ aW T a i j f g) H → va_D (law_A s) ([(ah, mp_aI T 62 vh)] ++ aW T a i j f g) → va_S (law_A s) s.heap H locs → C ≤ cb → S ≤ sb → lv_has ls 29 [(0, .ref b), (1, .ref (a 0)), (3, .ref ah), (4, .int z4), (5, .int z5)] → W p l e room_1 s m #[.ref b] below meth c H locs C S (lw_Z below #[.ref b] s) (F0 m 55 ls [])) :
    ∀  (z4 : Int32) (z5 : Int32) (z6 : Int32) (z10 : Int32) (σ : (Nat → Nat)) (M : Option (Nat → Nat)) (bm : Nat) (bo : (Nat → Nat)) (fa : Int64) (fb : Int64), f_L_law_1134 fu n1 xs vh K55 z4 z5 z6 z10 σ M bm bo fa fb = some (nI 1) → ∀ (H : Heap) (locs : List Loc) (ls : Array Slot) (i : Nat → Int32) (j : Nat → Int64) (f : Nat → Nat → Int32) (g : Nat → Nat → Int64) (C S : Nat), REL5 σ M bm bo fa fb i j f g → va_P D mp_cl ([(ah, mp_aI T 62 vh)] ++ aW T a i j f g) H → va_D (law_A s) ([(ah, mp_aI T 62 vh)] ++ aW T a i j f g) → va_S (law_A s) s.heap H locs → C + 0 ≤ cb → S + 0 ≤ sb → lv_has ls 29 [(0, .ref b), (1, .ref (a 0)), (3, .ref ah), (4, .int z4), (5, .int z5), (6, .int z6), (10, .int z10)] → W p l e room_1 s m #[.ref b] below meth c H locs C S (lw_Z below #[.ref b] s) (F0 m 1134 ls []) := by
  have hx := X.1
  have hb := X.2.1
  have hml := X.2.2.1
  have hown := X.2.2.2.2.1
  have hts := X.2.2.2.2.2.1
  have hbA : ¬ law_A s b := Nat.not_le.mpr hbl
  have hA : ∀ q, s.heap.size ≤ q → law_A s q := fun q h => h
  intro z4 z5 z6 z10 σ M bm bo fa fb hf H locs ls i j f g C S hRel hP hD hS hC hC2 hl
  replace hf : (if ((z6 >>> ((nI 6) &&& (31 : Int32))) &&& (nI 3)) = (nI 1) then gi_ (nI 2) 62 (gd_ (¬ (vh ((nI 2)).toNatClampNeg) = 0) ((if ((z6 >>> ((nI 8) &&& (31 : Int32))) &&& (nI 1)) = (nI 1) then f_L_law_1172 fu n1 xs vh (K55) z4 z5 z6 z10 (((z6 >>> ((nI 3) &&& (31 : Int32))) &&& (nI 3)) - ((z6 >>> ((nI 3) &&& (31 : Int32))) &&& (nI 3)) / (vh ((nI 2)).toNatClampNeg) * (vh ((nI 2)).toNatClampNeg)) (nI 1) σ M bm bo fa fb else f_L_law_1172 fu n1 xs vh (K55) z4 z5 z6 z10 (((z6 >>> ((nI 3) &&& (31 : Int32))) &&& (nI 3)) - ((z6 >>> ((nI 3) &&& (31 : Int32))) &&& (nI 3)) / (vh ((nI 2)).toNatClampNeg) * (vh ((nI 2)).toNatClampNeg)) (nI 0) σ M bm bo fa fb))) else f_L_law_1176 fu n1 xs vh (K55) z4 z5 z6 z10 σ M bm bo fa fb) = some (nI 1) := hf
  have hCS : C + 0 ≤ room_1.cells ∧ S + 0 ≤ room_1.slots := ⟨(show C + 0 ≤ 600000 by omega), (show S + 0 ≤ 7302250 by omega)⟩
  refine lv_iload hx hb dL_law_1134 (lv_at hl 5 rfl) ?_
  refine lv_bipush (v := (nI 6)) hx hb dL_law_1136 (by decide) ?_
  refine lv_ishr hx hb dL_law_1138 ?_
  refine lv_iconst (v := (nI 3)) hx hb dL_law_1139 (by decide) ?_
  refine lv_iand hx hb dL_law_1140 ?_
  refine lv_iconst (v := (nI 1)) hx hb dL_law_1141 (by decide) ?_
  refine lv_icmp_ne (tgt := 1176) hx hb dL_law_1142 (by decide) (fun h1 => ?_) (fun h1 => ?_)
  · replace hf := if_f hf h1
    exact w_L_law_1176 X hK hbl fu n1 xs vh hX cb sb hcb (K55) (hK55) z4 z5 z6 z10 σ M bm bo fa fb hf _ _ _ _ _ _ _ _ _ hRel hP hD hS (by omega) (by omega) (lv_sub hl [0, 1, 2, 3, 4, 5, 6] rfl)
  · replace hf := if_t hf h1
    refine lv_aload_n hx hb dL_law_1145 rfl (lv_at hl 1 rfl) ?_
    refine lv_iload hx hb dL_law_1146 (lv_at hl 5 rfl) ?_
    refine lv_iconst (v := (nI 3)) hx hb dL_law_1148 (by decide) ?_
    refine lv_ishr hx hb dL_law_1149 ?_
    refine lv_iconst (v := (nI 3)) hx hb dL_law_1150 (by decide) ?_
    refine lv_iand hx hb dL_law_1151 ?_
    refine lv_aload_n hx hb dL_law_1152 rfl (lv_at hl 2 rfl) ?_
    refine lv_iconst (v := (nI 2)) hx hb dL_law_1153 (by decide) ?_
    obtain ⟨h2, hf⟩ := gi_of hf
    refine va_iald hx hb hK hP 0 0 rfl rfl h2 dL_law_1154 ?_
    obtain ⟨h3, hf⟩ := gd_of hf
    refine lv_irem hx hb dL_law_1155 h3 ?_
    refine lv_iload hx hb dL_law_1156 (lv_at hl 5 rfl) ?_
    refine lv_bipush (v := (nI 8)) hx hb dL_law_1158 (by decide) ?_
    refine lv_ishr hx hb dL_law_1160 ?_
    refine lv_iconst (v := (nI 1)) hx hb dL_law_1161 (by decide) ?_
    refine lv_iand hx hb dL_law_1162 ?_
    refine lv_iconst (v := (nI 1)) hx hb dL_law_1163 (by decide) ?_
    refine lv_icmp_ne (tgt := 1171) hx hb dL_law_1164 (by decide) (fun h4 => ?_) (fun h4 => ?_)
    · replace hf := if_f hf h4
      refine lv_iconst (v := (nI 0)) hx hb dL_law_1171 (by decide) ?_
      exact w_L_law_1172 X hK hbl fu n1 xs vh hX cb sb hcb (K55) (hK55) z4 z5 z6 z10 (((z6 >>> ((nI 3) &&& (31 : Int32))) &&& (nI 3)) - ((z6 >>> ((nI 3) &&& (31 : Int32))) &&& (nI 3)) / (vh ((nI 2)).toNatClampNeg) * (vh ((nI 2)).toNatClampNeg)) (nI 0) σ M bm bo fa fb hf _ _ _ _ _ _ _ _ _ hRel hP hD hS (by omega) (by omega) (lv_sub hl [0, 1, 2, 3, 4, 5, 6] rfl)
    · replace hf := if_t hf h4
      refine lv_iconst (v := (nI 1)) hx hb dL_law_1167 (by decide) ?_
      refine lv_goto (tgt := 1172) hx hb dL_law_1168 (by decide) ?_
      exact w_L_law_1172 X hK hbl fu n1 xs vh hX cb sb hcb (K55) (hK55) z4 z5 z6 z10 (((z6 >>> ((nI 3) &&& (31 : Int32))) &&& (nI 3)) - ((z6 >>> ((nI 3) &&& (31 : Int32))) &&& (nI 3)) / (vh ((nI 2)).toNatClampNeg) * (vh ((nI 2)).toNatClampNeg)) (nI 1) σ M bm bo fa fb hf _ _ _ _ _ _ _ _ _ hRel hP hD hS (by omega) (by omega) (lv_sub hl [0, 1, 2, 3, 4, 5, 6] rfl)

set_option maxHeartbeats 4000000 in
set_option maxRecDepth 100000 in
theorem w_L_law_1109 {p : Program} {l : Launch} {e : Env} {s : State} {m : MethodId} {below : List Frame} {meth : Method} {c : Code} {D : va_G} {T : Nat → ClassId} {nm : String} {b ah : Nat} {a : Nat → Nat} (X : mp_X p s m meth c #[.ref b] RL nm cL_law 29 (some .boolean)) (hK : va_K D mp_cl (mp_ty T) s) (hbl : b < s.heap.size) (fu : Nat) (n1 : Nat) (xs : Nat → Int32) (vh : Nat → Int32) (hX : va_X b n1 xs s s.heap) (cb sb : Nat) (hcb : cb ≤ 600000 ∧ sb ≤ 7302250) (K55 : Int32 → Int32 → (Nat → Nat) → Option (Nat → Nat) → Nat → (Nat → Nat) → Int64 → Int64 → Option (Int32)) (hK55 : ∀ (z4 : Int32) (z5 : Int32) (σ : (Nat → Nat)) (M : Option (Nat → Nat)) (bm : Nat) (bo : (Nat → Nat)) (fa : Int64) (fb : Int64), K55 z4 z5 σ M bm bo fa fb = some (nI 1) → ∀ (H : Heap) (locs : List Loc) (ls : Array Slot) (i : Nat → Int32) (j : Nat → Int64) (f : Nat → Nat → Int32) (g : Nat → Nat → Int64) (C S : Nat), REL5 σ M bm bo fa fb i j f g → va_P D mp_cl ([(ah, mp_aI T 62 vh)] ++ aW T a i j f g) H → va_D (law_A s) ([(ah, mp_aI T 62 vh)] ++ aW T a i j f g) → va_S (law_A s) s.heap H locs → C ≤ cb → S ≤ sb → lv_has ls 29 [(0, .ref b), (1, .ref (a 0)), (3, .ref ah), (4, .int z4), (5, .int z5)] → W p l e room_1 s m #[.ref b] below meth c H locs C S (lw_Z below #[.ref b] s) (F0 m 55 ls [])) :
    ∀  (z4 : Int32) (z5 : Int32) (z6 : Int32) (z10 : Int32) (σ : (Nat → Nat)) (M : Option (Nat → Nat)) (bm : Nat) (bo : (Nat → Nat)) (fa : Int64) (fb : Int64), f_L_law_1109 fu n1 xs vh K55 z4 z5 z6 z10 σ M bm bo fa fb = some (nI 1) → ∀ (H : Heap) (locs : List Loc) (ls : Array Slot) (i : Nat → Int32) (j : Nat → Int64) (f : Nat → Nat → Int32) (g : Nat → Nat → Int64) (C S : Nat), REL5 σ M bm bo fa fb i j f g → va_P D mp_cl ([(ah, mp_aI T 62 vh)] ++ aW T a i j f g) H → va_D (law_A s) ([(ah, mp_aI T 62 vh)] ++ aW T a i j f g) → va_S (law_A s) s.heap H locs → C + 0 ≤ cb → S + 0 ≤ sb → lv_has ls 29 [(0, .ref b), (1, .ref (a 0)), (3, .ref ah), (4, .int z4), (5, .int z5), (6, .int z6), (10, .int z10)] → W p l e room_1 s m #[.ref b] below meth c H locs C S (lw_Z below #[.ref b] s) (F0 m 1109 ls []) := by
  have hx := X.1
  have hb := X.2.1
  have hml := X.2.2.1
  have hown := X.2.2.2.2.1
  have hts := X.2.2.2.2.2.1
  have hbA : ¬ law_A s b := Nat.not_le.mpr hbl
  have hA : ∀ q, s.heap.size ≤ q → law_A s q := fun q h => h
  intro z4 z5 z6 z10 σ M bm bo fa fb hf H locs ls i j f g C S hRel hP hD hS hC hC2 hl
  replace hf : (if ((z6 >>> ((nI 6) &&& (31 : Int32))) &&& (nI 3)) = 0 then gi_ (nI 2) 62 (gd_ (¬ (vh ((nI 2)).toNatClampNeg) = 0) (bd_ (s_rub (((z6 >>> ((nI 3) &&& (31 : Int32))) &&& (nI 3)) - ((z6 >>> ((nI 3) &&& (31 : Int32))) &&& (nI 3)) / (vh ((nI 2)).toNatClampNeg) * (vh ((nI 2)).toNatClampNeg)) σ) (fun (u5 : (Nat → Nat)) => f_L_law_1134 fu n1 xs vh (K55) z4 z5 z6 z10 u5 M bm bo fa fb))) else f_L_law_1134 fu n1 xs vh (K55) z4 z5 z6 z10 σ M bm bo fa fb) = some (nI 1) := hf
  have hCS : C + 0 ≤ room_1.cells ∧ S + 0 ≤ room_1.slots := ⟨(show C + 0 ≤ 600000 by omega), (show S + 0 ≤ 7302250 by omega)⟩
  refine lv_iload hx hb dL_law_1109 (lv_at hl 5 rfl) ?_
  refine lv_bipush (v := (nI 6)) hx hb dL_law_1111 (by decide) ?_
  refine lv_ishr hx hb dL_law_1113 ?_
  refine lv_iconst (v := (nI 3)) hx hb dL_law_1114 (by decide) ?_
  refine lv_iand hx hb dL_law_1115 ?_
  refine lv_if_ne (tgt := 1134) hx hb dL_law_1116 (by decide) (fun h1 => ?_) (fun h1 => ?_)
  · replace hf := if_f hf h1
    exact w_L_law_1134 X hK hbl fu n1 xs vh hX cb sb hcb (K55) (hK55) z4 z5 z6 z10 σ M bm bo fa fb hf _ _ _ _ _ _ _ _ _ hRel hP hD hS (by omega) (by omega) (lv_sub hl [0, 1, 2, 3, 4, 5, 6] rfl)
  · replace hf := if_t hf h1
    refine lv_aload_n hx hb dL_law_1119 rfl (lv_at hl 1 rfl) ?_
    refine lv_iload hx hb dL_law_1120 (lv_at hl 5 rfl) ?_
    refine lv_iconst (v := (nI 3)) hx hb dL_law_1122 (by decide) ?_
    refine lv_ishr hx hb dL_law_1123 ?_
    refine lv_iconst (v := (nI 3)) hx hb dL_law_1124 (by decide) ?_
    refine lv_iand hx hb dL_law_1125 ?_
    refine lv_aload_n hx hb dL_law_1126 rfl (lv_at hl 2 rfl) ?_
    refine lv_iconst (v := (nI 2)) hx hb dL_law_1127 (by decide) ?_
    obtain ⟨h2, hf⟩ := gi_of hf
    refine va_iald hx hb hK hP 0 0 rfl rfl h2 dL_law_1128 ?_
    obtain ⟨h3, hf⟩ := gd_of hf
    refine lv_irem hx hb dL_law_1129 h3 ?_
    obtain ⟨u5, c4, hf⟩ := bd_of hf
    refine K_rub (Y := [(ah, mp_aI T 62 vh)]) (rest := []) X hK hRel c4 hP hD hS hl.1 (Nat.le_of_ble_eq_true rfl) dL_law_1130 hCS (fun rX i j f g H locs hRel hP hD hS => ?_)
    refine lv_pop hx hb dL_law_1133 rfl ?_
    exact w_L_law_1134 X hK hbl fu n1 xs vh hX cb sb hcb (K55) (hK55) z4 z5 z6 z10 u5 M bm bo fa fb hf _ _ _ _ _ _ _ _ _ hRel hP hD hS (by omega) (by omega) (lv_sub hl [0, 1, 2, 3, 4, 5, 6] rfl)

set_option maxHeartbeats 4000000 in
set_option maxRecDepth 100000 in
theorem w_L_law_1031 {p : Program} {l : Launch} {e : Env} {s : State} {m : MethodId} {below : List Frame} {meth : Method} {c : Code} {D : va_G} {T : Nat → ClassId} {nm : String} {b ah : Nat} {a : Nat → Nat} (X : mp_X p s m meth c #[.ref b] RL nm cL_law 29 (some .boolean)) (hK : va_K D mp_cl (mp_ty T) s) (hbl : b < s.heap.size) (fu : Nat) (n1 : Nat) (xs : Nat → Int32) (vh : Nat → Int32) (hX : va_X b n1 xs s s.heap) (cb sb : Nat) (hcb : cb ≤ 600000 ∧ sb ≤ 7302250) (K55 : Int32 → Int32 → (Nat → Nat) → Option (Nat → Nat) → Nat → (Nat → Nat) → Int64 → Int64 → Option (Int32)) (hK55 : ∀ (z4 : Int32) (z5 : Int32) (σ : (Nat → Nat)) (M : Option (Nat → Nat)) (bm : Nat) (bo : (Nat → Nat)) (fa : Int64) (fb : Int64), K55 z4 z5 σ M bm bo fa fb = some (nI 1) → ∀ (H : Heap) (locs : List Loc) (ls : Array Slot) (i : Nat → Int32) (j : Nat → Int64) (f : Nat → Nat → Int32) (g : Nat → Nat → Int64) (C S : Nat), REL5 σ M bm bo fa fb i j f g → va_P D mp_cl ([(ah, mp_aI T 62 vh)] ++ aW T a i j f g) H → va_D (law_A s) ([(ah, mp_aI T 62 vh)] ++ aW T a i j f g) → va_S (law_A s) s.heap H locs → C ≤ cb → S ≤ sb → lv_has ls 29 [(0, .ref b), (1, .ref (a 0)), (3, .ref ah), (4, .int z4), (5, .int z5)] → W p l e room_1 s m #[.ref b] below meth c H locs C S (lw_Z below #[.ref b] s) (F0 m 55 ls [])) :
    ∀ (n : Nat) (z4 : Int32) (z5 : Int32) (z6 : Int32) (z8 : Int32) (z10 : Int32) (z20 : Int32) (z21 : Int32) (σ : (Nat → Nat)) (M : Option (Nat → Nat)) (bm : Nat) (bo : (Nat → Nat)) (fa : Int64) (fb : Int64) (va : (Nat → Int32)), f_L_law_1031 fu n1 xs vh K55 n z4 z5 z6 z8 z10 z20 z21 σ M bm bo fa fb va = some (nI 1) → ∀ (H : Heap) (locs : List Loc) (ls : Array Slot) (i : Nat → Int32) (j : Nat → Int64) (f : Nat → Nat → Int32) (g : Nat → Nat → Int64) (C S : Nat) (aq : Nat), REL5 σ M bm bo fa fb i j f g → va_P D mp_cl ([(aq, mp_aI T 5 va), (ah, mp_aI T 62 vh)] ++ aW T a i j f g) H → va_D (law_A s) ([(aq, mp_aI T 5 va), (ah, mp_aI T 62 vh)] ++ aW T a i j f g) → va_S (law_A s) s.heap H locs → C + 0 ≤ cb → S + 0 ≤ sb → lv_has ls 29 [(0, .ref b), (1, .ref (a 0)), (3, .ref ah), (4, .int z4), (5, .int z5), (6, .int z6), (8, .int z8), (10, .int z10), (18, .ref aq), (20, .int z20), (21, .int z21)] → W p l e room_1 s m #[.ref b] below meth c H locs C S (lw_Z below #[.ref b] s) (F0 m 1031 ls []) := by
  have hx := X.1
  have hb := X.2.1
  have hml := X.2.2.1
  have hown := X.2.2.2.2.1
  have hts := X.2.2.2.2.2.1
  have hbA : ¬ law_A s b := Nat.not_le.mpr hbl
  have hA : ∀ q, s.heap.size ≤ q → law_A s q := fun q h => h
  intro n
  induction n with
  | zero => intro z4 z5 z6 z8 z10 z20 z21 σ M bm bo fa fb va hf; exact absurd hf (by intro h; cases h)
  | succ n ih =>
    intro z4 z5 z6 z8 z10 z20 z21 σ M bm bo fa fb va hf H locs ls i j f g C S aq hRel hP hD hS hC hC2 hl
    replace hf : gi_ (nI 0) 62 ((if (vh ((nI 0)).toNatClampNeg) ≤ z21 then (if 0 ≤ z20 then f_L_law_1109 fu n1 xs vh (K55) z4 z5 z6 z10 σ M bm bo fa fb else bd_ (s_many (nI 6) σ) (fun (r5 : Int32) => (if r5 = z8 then f_L_law_1109 fu n1 xs vh (K55) z4 z5 z6 z10 σ M bm bo fa fb else some (nI 0)))) else gi_ z21 5 (bd_ (s_cell z21 (nI 3) σ) (fun (r9 : Int32) => (if ((va (z21).toNatClampNeg) &&& (r9 ^^^ (-1 : Int32))) = 0 then bd_ (s_cell z21 (nI 3) σ) (fun (r12 : Int32) => gi_ z21 5 ((if r12 = (va (z21).toNatClampNeg) then lt_ (z21 + (nI 1)) (fun (y15 : Int32) => f_L_law_1031 fu n1 xs vh K55 n z4 z5 z6 z8 z10 z20 y15 σ M bm bo fa fb va) else gi_ ((nI 12) + z21) 62 ((if (vh ((nI 12) + z21).toNatClampNeg) = (nI 1) then some (nI 0) else lt_ (z21 + (nI 1)) (fun (y18 : Int32) => f_L_law_1031 fu n1 xs vh K55 n z4 z5 z6 z8 z10 z20 y18 σ M bm bo fa fb va)))))) else some (nI 0)))))) = some (nI 1) := hf
    have hCS : C + 0 ≤ room_1.cells ∧ S + 0 ≤ room_1.slots := ⟨(show C + 0 ≤ 600000 by omega), (show S + 0 ≤ 7302250 by omega)⟩
    refine lv_iload hx hb dL_law_1031 (lv_at hl 10 rfl) ?_
    refine lv_aload_n hx hb dL_law_1033 rfl (lv_at hl 2 rfl) ?_
    refine lv_iconst (v := (nI 0)) hx hb dL_law_1034 (by decide) ?_
    obtain ⟨h1, hf⟩ := gi_of hf
    refine va_iald hx hb hK hP 1 0 rfl rfl h1 dL_law_1035 ?_
    refine lv_icmp_ge (tgt := 1091) hx hb dL_law_1036 (by decide) (fun h2 => ?_) (fun h2 => ?_)
    · replace hf := if_t hf h2
      refine lv_iload hx hb dL_law_1091 (lv_at hl 9 rfl) ?_
      refine lv_if_ge (tgt := 1109) hx hb dL_law_1093 (by decide) (fun h3 => ?_) (fun h3 => ?_)
      · replace hf := if_t hf h3
        exact w_L_law_1109 X hK hbl fu n1 xs vh hX cb sb hcb (K55) (hK55) z4 z5 z6 z10 σ M bm bo fa fb hf _ _ _ _ _ _ _ _ _ hRel (law_right (Y := [(aq, mp_aI T 5 va)]) (ws := [(ah, mp_aI T 62 vh)] ++ aW T a i j f g) hP) (law_rightD (Y := [(aq, mp_aI T 5 va)]) (ws := [(ah, mp_aI T 62 vh)] ++ aW T a i j f g) hD) hS (by omega) (by omega) (lv_sub hl [0, 1, 2, 3, 4, 5, 7] rfl)
      · replace hf := if_f hf h3
        refine lv_aload_n hx hb dL_law_1096 rfl (lv_at hl 1 rfl) ?_
        refine lv_bipush (v := (nI 6)) hx hb dL_law_1097 (by decide) ?_
        obtain ⟨r5, c4, hf⟩ := bd_of hf
        refine K_many (Y := [(aq, mp_aI T 5 va), (ah, mp_aI T 62 vh)]) (rest := []) X hK hRel c4 hP hD hS hl.1 (Nat.le_of_ble_eq_true rfl) dL_law_1099 hCS (fun i j f g H locs hRel hP hD hS => ?_)
        refine lv_iload hx hb dL_law_1102 (lv_at hl 6 rfl) ?_
        refine lv_icmp_eq (tgt := 1109) hx hb dL_law_1104 (by decide) (fun h6 => ?_) (fun h6 => ?_)
        · replace hf := if_t hf h6
          exact w_L_law_1109 X hK hbl fu n1 xs vh hX cb sb hcb (K55) (hK55) z4 z5 z6 z10 σ M bm bo fa fb hf _ _ _ _ _ _ _ _ _ hRel (law_right (Y := [(aq, mp_aI T 5 va)]) (ws := [(ah, mp_aI T 62 vh)] ++ aW T a i j f g) hP) (law_rightD (Y := [(aq, mp_aI T 5 va)]) (ws := [(ah, mp_aI T 62 vh)] ++ aW T a i j f g) hD) hS (by omega) (by omega) (lv_sub hl [0, 1, 2, 3, 4, 5, 7] rfl)
        · replace hf := if_f hf h6
          refine lv_iconst (v := (nI 0)) hx hb dL_law_1107 (by decide) ?_
          exact absurd (Option.some.inj hf) (by decide)
    · replace hf := if_f hf h2
      refine lv_aload hx hb dL_law_1039 (lv_at hl 8 rfl) ?_
      refine lv_iload hx hb dL_law_1041 (lv_at hl 10 rfl) ?_
      obtain ⟨h7, hf⟩ := gi_of hf
      refine va_iald hx hb hK hP 0 0 rfl rfl h7 dL_law_1043 ?_
      refine lv_aload_n hx hb dL_law_1044 rfl (lv_at hl 1 rfl) ?_
      refine lv_iload hx hb dL_law_1045 (lv_at hl 10 rfl) ?_
      refine lv_iconst (v := (nI 3)) hx hb dL_law_1047 (by decide) ?_
      obtain ⟨r9, c8, hf⟩ := bd_of hf
      refine K_cell (Y := [(aq, mp_aI T 5 va), (ah, mp_aI T 62 vh)]) (rest := [.int (va (z21).toNatClampNeg)]) X hK hRel c8 hP hD hS hl.1 (Nat.le_of_ble_eq_true rfl) dL_law_1048 hCS (fun i j f g H locs hRel hP hD hS => ?_)
      refine lv_iconst (v := (-1 : Int32)) hx hb dL_law_1051 (by decide) ?_
      refine lv_ixor hx hb dL_law_1052 ?_
      refine lv_iand hx hb dL_law_1053 ?_
      refine lv_if_ne (tgt := 1083) hx hb dL_law_1054 (by decide) (fun h10 => ?_) (fun h10 => ?_)
      · replace hf := if_f hf h10
        refine lv_iconst (v := (nI 0)) hx hb dL_law_1083 (by decide) ?_
        exact absurd (Option.some.inj hf) (by decide)
      · replace hf := if_t hf h10
        refine lv_aload_n hx hb dL_law_1057 rfl (lv_at hl 1 rfl) ?_
        refine lv_iload hx hb dL_law_1058 (lv_at hl 10 rfl) ?_
        refine lv_iconst (v := (nI 3)) hx hb dL_law_1060 (by decide) ?_
        obtain ⟨r12, c11, hf⟩ := bd_of hf
        refine K_cell (Y := [(aq, mp_aI T 5 va), (ah, mp_aI T 62 vh)]) (rest := []) X hK hRel c11 hP hD hS hl.1 (Nat.le_of_ble_eq_true rfl) dL_law_1061 hCS (fun i j f g H locs hRel hP hD hS => ?_)
        refine lv_aload hx hb dL_law_1064 (lv_at hl 8 rfl) ?_
        refine lv_iload hx hb dL_law_1066 (lv_at hl 10 rfl) ?_
        obtain ⟨h13, hf⟩ := gi_of hf
        refine va_iald hx hb hK hP 0 0 rfl rfl h13 dL_law_1068 ?_
        refine lv_icmp_eq (tgt := 1085) hx hb dL_law_1069 (by decide) (fun h14 => ?_) (fun h14 => ?_)
        · replace hf := if_t hf h14
          obtain ⟨y15, e15⟩ : ∃ y : Int32, y = z21 + (nI 1) := ⟨_, rfl⟩
          replace hf := lt_of e15 hf
          refine lv_iinc (v := y15) (lv' := [(21, .int y15), (0, .ref b), (1, .ref (a 0)), (3, .ref ah), (4, .int z4), (5, .int z5), (6, .int z6), (8, .int z8), (10, .int z10), (18, .ref aq), (20, .int z20)]) hx hb dL_law_1085 hl (k := 10) rfl (by rw [e15]; rfl) (by decide) rfl (fun ls hl => ?_)
          refine lv_goto (tgt := 1031) hx hb dL_law_1088 (by decide) ?_
          exact ih z4 z5 z6 z8 z10 z20 y15 σ M bm bo fa fb va hf _ _ _ _ _ _ _ _ _ _ hRel hP hD hS (by omega) (by omega) (lv_sub hl [1, 2, 3, 4, 5, 6, 7, 8, 9, 10, 0] rfl)
        · replace hf := if_f hf h14
          refine lv_aload_n hx hb dL_law_1072 rfl (lv_at hl 2 rfl) ?_
          refine lv_bipush (v := (nI 12)) hx hb dL_law_1073 (by decide) ?_
          refine lv_iload hx hb dL_law_1075 (lv_at hl 10 rfl) ?_
          refine lv_iadd hx hb dL_law_1077 ?_
          obtain ⟨h16, hf⟩ := gi_of hf
          refine va_iald hx hb hK hP 1 0 rfl rfl h16 dL_law_1078 ?_
          refine lv_iconst (v := (nI 1)) hx hb dL_law_1079 (by decide) ?_
          refine lv_icmp_ne (tgt := 1085) hx hb dL_law_1080 (by decide) (fun h17 => ?_) (fun h17 => ?_)
          · replace hf := if_f hf h17
            obtain ⟨y18, e18⟩ : ∃ y : Int32, y = z21 + (nI 1) := ⟨_, rfl⟩
            replace hf := lt_of e18 hf
            refine lv_iinc (v := y18) (lv' := [(21, .int y18), (0, .ref b), (1, .ref (a 0)), (3, .ref ah), (4, .int z4), (5, .int z5), (6, .int z6), (8, .int z8), (10, .int z10), (18, .ref aq), (20, .int z20)]) hx hb dL_law_1085 hl (k := 10) rfl (by rw [e18]; rfl) (by decide) rfl (fun ls hl => ?_)
            refine lv_goto (tgt := 1031) hx hb dL_law_1088 (by decide) ?_
            exact ih z4 z5 z6 z8 z10 z20 y18 σ M bm bo fa fb va hf _ _ _ _ _ _ _ _ _ _ hRel hP hD hS (by omega) (by omega) (lv_sub hl [1, 2, 3, 4, 5, 6, 7, 8, 9, 10, 0] rfl)
          · replace hf := if_t hf h17
            refine lv_iconst (v := (nI 0)) hx hb dL_law_1083 (by decide) ?_
            exact absurd (Option.some.inj hf) (by decide)

set_option maxHeartbeats 4000000 in
set_option maxRecDepth 100000 in
theorem w_L_law_970 {p : Program} {l : Launch} {e : Env} {s : State} {m : MethodId} {below : List Frame} {meth : Method} {c : Code} {D : va_G} {T : Nat → ClassId} {nm : String} {b ah : Nat} {a : Nat → Nat} (X : mp_X p s m meth c #[.ref b] RL nm cL_law 29 (some .boolean)) (hK : va_K D mp_cl (mp_ty T) s) (hbl : b < s.heap.size) (fu : Nat) (n1 : Nat) (xs : Nat → Int32) (vh : Nat → Int32) (hX : va_X b n1 xs s s.heap) (cb sb : Nat) (hcb : cb ≤ 600000 ∧ sb ≤ 7302250) (K55 : Int32 → Int32 → (Nat → Nat) → Option (Nat → Nat) → Nat → (Nat → Nat) → Int64 → Int64 → Option (Int32)) (hK55 : ∀ (z4 : Int32) (z5 : Int32) (σ : (Nat → Nat)) (M : Option (Nat → Nat)) (bm : Nat) (bo : (Nat → Nat)) (fa : Int64) (fb : Int64), K55 z4 z5 σ M bm bo fa fb = some (nI 1) → ∀ (H : Heap) (locs : List Loc) (ls : Array Slot) (i : Nat → Int32) (j : Nat → Int64) (f : Nat → Nat → Int32) (g : Nat → Nat → Int64) (C S : Nat), REL5 σ M bm bo fa fb i j f g → va_P D mp_cl ([(ah, mp_aI T 62 vh)] ++ aW T a i j f g) H → va_D (law_A s) ([(ah, mp_aI T 62 vh)] ++ aW T a i j f g) → va_S (law_A s) s.heap H locs → C ≤ cb → S ≤ sb → lv_has ls 29 [(0, .ref b), (1, .ref (a 0)), (3, .ref ah), (4, .int z4), (5, .int z5)] → W p l e room_1 s m #[.ref b] below meth c H locs C S (lw_Z below #[.ref b] s) (F0 m 55 ls [])) :
    ∀ (n : Nat) (z4 : Int32) (z5 : Int32) (z6 : Int32) (z8 : Int32) (z10 : Int32) (z16 : Int32) (z19 : Int32) (σ : (Nat → Nat)) (M : Option (Nat → Nat)) (bm : Nat) (bo : (Nat → Nat)) (fa : Int64) (fb : Int64) (va : (Nat → Int32)), f_L_law_970 fu n1 xs vh K55 n z4 z5 z6 z8 z10 z16 z19 σ M bm bo fa fb va = some (nI 1) → ∀ (H : Heap) (locs : List Loc) (ls : Array Slot) (i : Nat → Int32) (j : Nat → Int64) (f : Nat → Nat → Int32) (g : Nat → Nat → Int64) (C S : Nat) (aq : Nat), REL5 σ M bm bo fa fb i j f g → va_P D mp_cl ([(aq, mp_aI T 5 va), (ah, mp_aI T 62 vh)] ++ aW T a i j f g) H → va_D (law_A s) ([(aq, mp_aI T 5 va), (ah, mp_aI T 62 vh)] ++ aW T a i j f g) → va_S (law_A s) s.heap H locs → C + 0 ≤ cb → S + 0 ≤ sb → lv_has ls 29 [(0, .ref b), (1, .ref (a 0)), (3, .ref ah), (4, .int z4), (5, .int z5), (6, .int z6), (8, .int z8), (10, .int z10), (16, .int z16), (18, .ref aq), (19, .int z19)] → W p l e room_1 s m #[.ref b] below meth c H locs C S (lw_Z below #[.ref b] s) (F0 m 970 ls []) := by
  have hx := X.1
  have hb := X.2.1
  have hml := X.2.2.1
  have hown := X.2.2.2.2.1
  have hts := X.2.2.2.2.2.1
  have hbA : ¬ law_A s b := Nat.not_le.mpr hbl
  have hA : ∀ q, s.heap.size ≤ q → law_A s q := fun q h => h
  intro n
  induction n with
  | zero => intro z4 z5 z6 z8 z10 z16 z19 σ M bm bo fa fb va hf; exact absurd hf (by intro h; cases h)
  | succ n ih =>
    intro z4 z5 z6 z8 z10 z16 z19 σ M bm bo fa fb va hf H locs ls i j f g C S aq hRel hP hD hS hC hC2 hl
    replace hf : gi_ (nI 0) 62 ((if (vh ((nI 0)).toNatClampNeg) ≤ z19 then lt_ ((nI 1) + ((z6 >>> ((nI 4) &&& (31 : Int32))) &&& (nI 3))) (fun (y3 : Int32) => bd_ (s_next σ) (fun (r5 : Int32) => bd_ (s_turn y3 σ) (fun (z : (Int32) × ((Nat → Nat))) => match z with | (r7, u8) => (if r7 = (z16 + y3) then f_L_law_1031 fu n1 xs vh (K55) fu z4 z5 z6 z8 z10 r5 (nI 0) u8 M bm bo fa fb va else some (nI 0))))) else bd_ (s_cell z19 (nI 3) σ) (fun (r11 : Int32) => gi_ z19 5 (lt_ (upd va (z19).toNatClampNeg r11) (fun (u13 : Nat → Int32) => lt_ (z19 + (nI 1)) (fun (y14 : Int32) => f_L_law_970 fu n1 xs vh K55 n z4 z5 z6 z8 z10 z16 y14 σ M bm bo fa fb u13)))))) = some (nI 1) := hf
    have hCS : C + 0 ≤ room_1.cells ∧ S + 0 ≤ room_1.slots := ⟨(show C + 0 ≤ 600000 by omega), (show S + 0 ≤ 7302250 by omega)⟩
    refine lv_iload hx hb dL_law_970 (lv_at hl 10 rfl) ?_
    refine lv_aload_n hx hb dL_law_972 rfl (lv_at hl 2 rfl) ?_
    refine lv_iconst (v := (nI 0)) hx hb dL_law_973 (by decide) ?_
    obtain ⟨h1, hf⟩ := gi_of hf
    refine va_iald hx hb hK hP 1 0 rfl rfl h1 dL_law_974 ?_
    refine lv_icmp_ge (tgt := 996) hx hb dL_law_975 (by decide) (fun h2 => ?_) (fun h2 => ?_)
    · replace hf := if_t hf h2
      refine lv_iconst (v := (nI 1)) hx hb dL_law_996 (by decide) ?_
      refine lv_iload hx hb dL_law_997 (lv_at hl 5 rfl) ?_
      refine lv_iconst (v := (nI 4)) hx hb dL_law_999 (by decide) ?_
      refine lv_ishr hx hb dL_law_1000 ?_
      refine lv_iconst (v := (nI 3)) hx hb dL_law_1001 (by decide) ?_
      refine lv_iand hx hb dL_law_1002 ?_
      refine lv_iadd hx hb dL_law_1003 ?_
      refine lv_topi (fun y3 e3 => ?_)
      replace hf := lt_of e3 hf
      refine lv_istore (lv' := [(19, .int y3), (0, .ref b), (1, .ref (a 0)), (3, .ref ah), (4, .int z4), (5, .int z5), (6, .int z6), (8, .int z8), (10, .int z10), (16, .int z16), (18, .ref aq)]) hx hb dL_law_1004 hl (by decide) rfl (fun ls hl => ?_)
      refine lv_aload_n hx hb dL_law_1006 rfl (lv_at hl 2 rfl) ?_
      obtain ⟨r5, c4, hf⟩ := bd_of hf
      refine K_next (Y := [(aq, mp_aI T 5 va), (ah, mp_aI T 62 vh)]) (rest := []) X hK hRel c4 hP hD hS hl.1 (Nat.le_of_ble_eq_true rfl) dL_law_1007 hCS (fun i j f g H locs hRel hP hD hS => ?_)
      refine lv_istore (lv' := [(20, .int r5), (19, .int y3), (0, .ref b), (1, .ref (a 0)), (3, .ref ah), (4, .int z4), (5, .int z5), (6, .int z6), (8, .int z8), (10, .int z10), (16, .int z16), (18, .ref aq)]) hx hb dL_law_1010 hl (by decide) rfl (fun ls hl => ?_)
      refine lv_aload_n hx hb dL_law_1012 rfl (lv_at hl 3 rfl) ?_
      refine lv_iload hx hb dL_law_1013 (lv_at hl 1 rfl) ?_
      obtain ⟨⟨r7, u8⟩, c6, hf⟩ := bd_of hf
      dsimp only at hf
      refine K_turn (Y := [(aq, mp_aI T 5 va), (ah, mp_aI T 62 vh)]) (rest := []) X hK hRel c6 hP hD hS hl.1 (Nat.le_of_ble_eq_true rfl) dL_law_1015 hCS (fun i j f g H locs hRel hP hD hS => ?_)
      refine lv_iload hx hb dL_law_1018 (lv_at hl 10 rfl) ?_
      refine lv_iload hx hb dL_law_1020 (lv_at hl 1 rfl) ?_
      refine lv_iadd hx hb dL_law_1022 ?_
      refine lv_icmp_eq (tgt := 1028) hx hb dL_law_1023 (by decide) (fun h9 => ?_) (fun h9 => ?_)
      · replace hf := if_t hf h9
        refine lv_iconst (v := (nI 0)) hx hb dL_law_1028 (by decide) ?_
        refine lv_istore (lv' := [(21, .int (nI 0)), (20, .int r5), (19, .int y3), (0, .ref b), (1, .ref (a 0)), (3, .ref ah), (4, .int z4), (5, .int z5), (6, .int z6), (8, .int z8), (10, .int z10), (16, .int z16), (18, .ref aq)]) hx hb dL_law_1029 hl (by decide) rfl (fun ls hl => ?_)
        exact w_L_law_1031 X hK hbl fu n1 xs vh hX cb sb hcb (K55) (hK55) fu z4 z5 z6 z8 z10 r5 (nI 0) u8 M bm bo fa fb va hf _ _ _ _ _ _ _ _ _ _ hRel hP hD hS (by omega) (by omega) (lv_sub hl [3, 4, 5, 6, 7, 8, 9, 10, 12, 1, 0] rfl)
      · replace hf := if_f hf h9
        refine lv_iconst (v := (nI 0)) hx hb dL_law_1026 (by decide) ?_
        exact absurd (Option.some.inj hf) (by decide)
    · replace hf := if_f hf h2
      refine lv_aload hx hb dL_law_978 (lv_at hl 9 rfl) ?_
      refine lv_iload hx hb dL_law_980 (lv_at hl 10 rfl) ?_
      refine lv_aload_n hx hb dL_law_982 rfl (lv_at hl 1 rfl) ?_
      refine lv_iload hx hb dL_law_983 (lv_at hl 10 rfl) ?_
      refine lv_iconst (v := (nI 3)) hx hb dL_law_985 (by decide) ?_
      obtain ⟨r11, c10, hf⟩ := bd_of hf
      refine K_cell (Y := [(aq, mp_aI T 5 va), (ah, mp_aI T 62 vh)]) (rest := [.int z19, .ref aq]) X hK hRel c10 hP hD hS hl.1 (Nat.le_of_ble_eq_true rfl) dL_law_986 hCS (fun i j f g H locs hRel hP hD hS => ?_)
      obtain ⟨h12, hf⟩ := gi_of hf
      refine va_iast hx hb hK hP hD hS 0 0 rfl rfl h12 dL_law_989 (fun H locs hP hD hS => ?_)
      replace hP : va_P D mp_cl ([(aq, mp_aI T 5 (upd va (z19).toNatClampNeg r11)), (ah, mp_aI T 62 vh)] ++ aW T a i j f g) H := hP
      replace hD : va_D (law_A s) ([(aq, mp_aI T 5 (upd va (z19).toNatClampNeg r11)), (ah, mp_aI T 62 vh)] ++ aW T a i j f g) := hD
      obtain ⟨u13, q13⟩ : ∃ y : Nat → Int32, y = upd va (z19).toNatClampNeg r11 := ⟨_, rfl⟩
      replace hf := lt_of q13 hf
      rw [← q13] at hP hD
      obtain ⟨y14, e14⟩ : ∃ y : Int32, y = z19 + (nI 1) := ⟨_, rfl⟩
      replace hf := lt_of e14 hf
      refine lv_iinc (v := y14) (lv' := [(19, .int y14), (0, .ref b), (1, .ref (a 0)), (3, .ref ah), (4, .int z4), (5, .int z5), (6, .int z6), (8, .int z8), (10, .int z10), (16, .int z16), (18, .ref aq)]) hx hb dL_law_990 hl (k := 10) rfl (by rw [e14]; rfl) (by decide) rfl (fun ls hl => ?_)
      refine lv_goto (tgt := 970) hx hb dL_law_993 (by decide) ?_
      exact ih z4 z5 z6 z8 z10 z16 y14 σ M bm bo fa fb u13 hf _ _ _ _ _ _ _ _ _ _ hRel hP hD hS (by omega) (by omega) (lv_sub hl [1, 2, 3, 4, 5, 6, 7, 8, 9, 10, 0] rfl)

set_option maxHeartbeats 4000000 in
set_option maxRecDepth 100000 in
theorem w_L_law_925 {p : Program} {l : Launch} {e : Env} {s : State} {m : MethodId} {below : List Frame} {meth : Method} {c : Code} {D : va_G} {T : Nat → ClassId} {nm : String} {b ah : Nat} {a : Nat → Nat} (X : mp_X p s m meth c #[.ref b] RL nm cL_law 29 (some .boolean)) (hK : va_K D mp_cl (mp_ty T) s) (hbl : b < s.heap.size) (fu : Nat) (n1 : Nat) (xs : Nat → Int32) (vh : Nat → Int32) (hX : va_X b n1 xs s s.heap) (cb sb : Nat) (hcb : cb ≤ 600000 ∧ sb ≤ 7302250) (K55 : Int32 → Int32 → (Nat → Nat) → Option (Nat → Nat) → Nat → (Nat → Nat) → Int64 → Int64 → Option (Int32)) (hK55 : ∀ (z4 : Int32) (z5 : Int32) (σ : (Nat → Nat)) (M : Option (Nat → Nat)) (bm : Nat) (bo : (Nat → Nat)) (fa : Int64) (fb : Int64), K55 z4 z5 σ M bm bo fa fb = some (nI 1) → ∀ (H : Heap) (locs : List Loc) (ls : Array Slot) (i : Nat → Int32) (j : Nat → Int64) (f : Nat → Nat → Int32) (g : Nat → Nat → Int64) (C S : Nat), REL5 σ M bm bo fa fb i j f g → va_P D mp_cl ([(ah, mp_aI T 62 vh)] ++ aW T a i j f g) H → va_D (law_A s) ([(ah, mp_aI T 62 vh)] ++ aW T a i j f g) → va_S (law_A s) s.heap H locs → C ≤ cb → S ≤ sb → lv_has ls 29 [(0, .ref b), (1, .ref (a 0)), (3, .ref ah), (4, .int z4), (5, .int z5)] → W p l e room_1 s m #[.ref b] below meth c H locs C S (lw_Z below #[.ref b] s) (F0 m 55 ls [])) (K814 : Int32 → Int32 → Int32 → Int32 → Int32 → Int32 → Int64 → Int64 → Int32 → (Nat → Nat) → Option (Nat → Nat) → Nat → (Nat → Nat) → Int64 → Int64 → Option (Int32)) (hK814 : ∀ (z4 : Int32) (z5 : Int32) (z6 : Int32) (z8 : Int32) (z10 : Int32) (z16 : Int32) (z18 : Int64) (z20 : Int64) (z22 : Int32) (σ : (Nat → Nat)) (M : Option (Nat → Nat)) (bm : Nat) (bo : (Nat → Nat)) (fa : Int64) (fb : Int64), K814 z4 z5 z6 z8 z10 z16 z18 z20 z22 σ M bm bo fa fb = some (nI 1) → ∀ (H : Heap) (locs : List Loc) (ls : Array Slot) (i : Nat → Int32) (j : Nat → Int64) (f : Nat → Nat → Int32) (g : Nat → Nat → Int64) (C S : Nat), REL5 σ M bm bo fa fb i j f g → va_P D mp_cl ([(ah, mp_aI T 62 vh)] ++ aW T a i j f g) H → va_D (law_A s) ([(ah, mp_aI T 62 vh)] ++ aW T a i j f g) → va_S (law_A s) s.heap H locs → C + 1 ≤ cb → S + 5 ≤ sb → lv_has ls 29 [(0, .ref b), (1, .ref (a 0)), (3, .ref ah), (4, .int z4), (5, .int z5), (6, .int z6), (8, .int z8), (10, .int z10), (16, .int z16), (18, .long z18), (20, .long z20), (22, .int z22)] → W p l e room_1 s m #[.ref b] below meth c H locs C S (lw_Z below #[.ref b] s) (F0 m 814 ls [])) :
    ∀  (z4 : Int32) (z5 : Int32) (z6 : Int32) (z8 : Int32) (z10 : Int32) (z16 : Int32) (z18 : Int64) (z20 : Int64) (z22 : Int32) (z23 : Int64) (σ : (Nat → Nat)) (M : Option (Nat → Nat)) (bm : Nat) (bo : (Nat → Nat)) (fa : Int64) (fb : Int64), f_L_law_925 fu n1 xs vh K55 K814 z4 z5 z6 z8 z10 z16 z18 z20 z22 z23 σ M bm bo fa fb = some (nI 1) → ∀ (H : Heap) (locs : List Loc) (ls : Array Slot) (i : Nat → Int32) (j : Nat → Int64) (f : Nat → Nat → Int32) (g : Nat → Nat → Int64) (C S : Nat), REL5 σ M bm bo fa fb i j f g → va_P D mp_cl ([(ah, mp_aI T 62 vh)] ++ aW T a i j f g) H → va_D (law_A s) ([(ah, mp_aI T 62 vh)] ++ aW T a i j f g) → va_S (law_A s) s.heap H locs → C + 1 ≤ cb → S + 5 ≤ sb → lv_has ls 29 [(0, .ref b), (1, .ref (a 0)), (3, .ref ah), (4, .int z4), (5, .int z5), (6, .int z6), (8, .int z8), (10, .int z10), (16, .int z16), (18, .long z18), (20, .long z20), (22, .int z22), (23, .long z23)] → W p l e room_1 s m #[.ref b] below meth c H locs C S (lw_Z below #[.ref b] s) (F0 m 925 ls []) := by
  have hx := X.1
  have hb := X.2.1
  have hml := X.2.2.1
  have hown := X.2.2.2.2.1
  have hts := X.2.2.2.2.2.1
  have hbA : ¬ law_A s b := Nat.not_le.mpr hbl
  have hA : ∀ q, s.heap.size ≤ q → law_A s q := fun q h => h
  intro z4 z5 z6 z8 z10 z16 z18 z20 z22 z23 σ M bm bo fa fb hf H locs ls i j f g C S hRel hP hD hS hC hC2 hl
  replace hf : (if (lg_cmp z23 (lN 1)) ≤ 0 then lt_ (z22 + (nI 1)) (fun (y2 : Int32) => K814 z4 z5 z6 z8 z10 z16 z18 z20 y2 σ M bm bo fa fb) else (if (lg_cmp z18 (lN 0)) ≤ 0 then lt_ (z22 + (nI 1)) (fun (y4 : Int32) => K814 z4 z5 z6 z8 z10 z16 z18 z20 y4 σ M bm bo fa fb) else gd_ (¬ z23 = 0) (lt_ (z20 / z23) (fun (y6 : Int64) => lt_ (z22 + (nI 1)) (fun (y7 : Int32) => K814 z4 z5 z6 z8 z10 z16 z18 y6 y7 σ M bm bo fa fb))))) = some (nI 1) := hf
  have hCS : C + 0 ≤ room_1.cells ∧ S + 0 ≤ room_1.slots := ⟨(show C + 0 ≤ 600000 by omega), (show S + 0 ≤ 7302250 by omega)⟩
  refine lv_lload hx hb dL_law_925 (lv_at hl 12 rfl) ?_
  refine lv_lconst (v := (lN 1)) hx hb dL_law_927 (by decide) ?_
  refine W.lcmp hx hb dL_law_928 ?_
  refine lv_if_le (tgt := 946) hx hb dL_law_929 (by decide) (fun h1 => ?_) (fun h1 => ?_)
  · replace hf := if_t hf h1
    obtain ⟨y2, e2⟩ : ∃ y : Int32, y = z22 + (nI 1) := ⟨_, rfl⟩
    replace hf := lt_of e2 hf
    refine lv_iinc (v := y2) (lv' := [(22, .int y2), (0, .ref b), (1, .ref (a 0)), (3, .ref ah), (4, .int z4), (5, .int z5), (6, .int z6), (8, .int z8), (10, .int z10), (16, .int z16), (18, .long z18), (20, .long z20), (23, .long z23)]) hx hb dL_law_946 hl (k := 11) rfl (by rw [e2]; rfl) (by decide) rfl (fun ls hl => ?_)
    refine lv_goto (tgt := 814) hx hb dL_law_949 (by decide) ?_
    exact hK814 z4 z5 z6 z8 z10 z16 z18 z20 y2 σ M bm bo fa fb hf _ _ _ _ _ _ _ _ _ hRel hP hD hS (by omega) (by omega) (lv_sub hl [1, 2, 3, 4, 5, 6, 7, 8, 9, 10, 11, 0] rfl)
  · replace hf := if_f hf h1
    refine lv_lload hx hb dL_law_932 (lv_at hl 9 rfl) ?_
    refine lv_lconst (v := (lN 0)) hx hb dL_law_934 (by decide) ?_
    refine W.lcmp hx hb dL_law_935 ?_
    refine lv_if_le (tgt := 946) hx hb dL_law_936 (by decide) (fun h3 => ?_) (fun h3 => ?_)
    · replace hf := if_t hf h3
      obtain ⟨y4, e4⟩ : ∃ y : Int32, y = z22 + (nI 1) := ⟨_, rfl⟩
      replace hf := lt_of e4 hf
      refine lv_iinc (v := y4) (lv' := [(22, .int y4), (0, .ref b), (1, .ref (a 0)), (3, .ref ah), (4, .int z4), (5, .int z5), (6, .int z6), (8, .int z8), (10, .int z10), (16, .int z16), (18, .long z18), (20, .long z20), (23, .long z23)]) hx hb dL_law_946 hl (k := 11) rfl (by rw [e4]; rfl) (by decide) rfl (fun ls hl => ?_)
      refine lv_goto (tgt := 814) hx hb dL_law_949 (by decide) ?_
      exact hK814 z4 z5 z6 z8 z10 z16 z18 z20 y4 σ M bm bo fa fb hf _ _ _ _ _ _ _ _ _ hRel hP hD hS (by omega) (by omega) (lv_sub hl [1, 2, 3, 4, 5, 6, 7, 8, 9, 10, 11, 0] rfl)
    · replace hf := if_f hf h3
      refine lv_lload hx hb dL_law_939 (lv_at hl 10 rfl) ?_
      refine lv_lload hx hb dL_law_941 (lv_at hl 12 rfl) ?_
      obtain ⟨h5, hf⟩ := gd_of hf
      refine lv_ldiv hx hb dL_law_943 h5 ?_
      refine lv_topl (fun y6 e6 => ?_)
      replace hf := lt_of e6 hf
      refine lv_lstore (lv' := [(20, .long y6), (0, .ref b), (1, .ref (a 0)), (3, .ref ah), (4, .int z4), (5, .int z5), (6, .int z6), (8, .int z8), (10, .int z10), (16, .int z16), (18, .long z18), (22, .int z22), (23, .long z23)]) hx hb dL_law_944 hl (by decide) rfl (fun ls hl => ?_)
      obtain ⟨y7, e7⟩ : ∃ y : Int32, y = z22 + (nI 1) := ⟨_, rfl⟩
      replace hf := lt_of e7 hf
      refine lv_iinc (v := y7) (lv' := [(22, .int y7), (20, .long y6), (0, .ref b), (1, .ref (a 0)), (3, .ref ah), (4, .int z4), (5, .int z5), (6, .int z6), (8, .int z8), (10, .int z10), (16, .int z16), (18, .long z18), (23, .long z23)]) hx hb dL_law_946 hl (k := 11) rfl (by rw [e7]; rfl) (by decide) rfl (fun ls hl => ?_)
      refine lv_goto (tgt := 814) hx hb dL_law_949 (by decide) ?_
      exact hK814 z4 z5 z6 z8 z10 z16 z18 y6 y7 σ M bm bo fa fb hf _ _ _ _ _ _ _ _ _ hRel hP hD hS (by omega) (by omega) (lv_sub hl [2, 3, 4, 5, 6, 7, 8, 9, 10, 11, 1, 0] rfl)

set_option maxHeartbeats 4000000 in
set_option maxRecDepth 100000 in
theorem w_L_law_879 {p : Program} {l : Launch} {e : Env} {s : State} {m : MethodId} {below : List Frame} {meth : Method} {c : Code} {D : va_G} {T : Nat → ClassId} {nm : String} {b ah : Nat} {a : Nat → Nat} (X : mp_X p s m meth c #[.ref b] RL nm cL_law 29 (some .boolean)) (hK : va_K D mp_cl (mp_ty T) s) (hbl : b < s.heap.size) (fu : Nat) (n1 : Nat) (xs : Nat → Int32) (vh : Nat → Int32) (hX : va_X b n1 xs s s.heap) (cb sb : Nat) (hcb : cb ≤ 600000 ∧ sb ≤ 7302250) (K55 : Int32 → Int32 → (Nat → Nat) → Option (Nat → Nat) → Nat → (Nat → Nat) → Int64 → Int64 → Option (Int32)) (hK55 : ∀ (z4 : Int32) (z5 : Int32) (σ : (Nat → Nat)) (M : Option (Nat → Nat)) (bm : Nat) (bo : (Nat → Nat)) (fa : Int64) (fb : Int64), K55 z4 z5 σ M bm bo fa fb = some (nI 1) → ∀ (H : Heap) (locs : List Loc) (ls : Array Slot) (i : Nat → Int32) (j : Nat → Int64) (f : Nat → Nat → Int32) (g : Nat → Nat → Int64) (C S : Nat), REL5 σ M bm bo fa fb i j f g → va_P D mp_cl ([(ah, mp_aI T 62 vh)] ++ aW T a i j f g) H → va_D (law_A s) ([(ah, mp_aI T 62 vh)] ++ aW T a i j f g) → va_S (law_A s) s.heap H locs → C ≤ cb → S ≤ sb → lv_has ls 29 [(0, .ref b), (1, .ref (a 0)), (3, .ref ah), (4, .int z4), (5, .int z5)] → W p l e room_1 s m #[.ref b] below meth c H locs C S (lw_Z below #[.ref b] s) (F0 m 55 ls [])) (K814 : Int32 → Int32 → Int32 → Int32 → Int32 → Int32 → Int64 → Int64 → Int32 → (Nat → Nat) → Option (Nat → Nat) → Nat → (Nat → Nat) → Int64 → Int64 → Option (Int32)) (hK814 : ∀ (z4 : Int32) (z5 : Int32) (z6 : Int32) (z8 : Int32) (z10 : Int32) (z16 : Int32) (z18 : Int64) (z20 : Int64) (z22 : Int32) (σ : (Nat → Nat)) (M : Option (Nat → Nat)) (bm : Nat) (bo : (Nat → Nat)) (fa : Int64) (fb : Int64), K814 z4 z5 z6 z8 z10 z16 z18 z20 z22 σ M bm bo fa fb = some (nI 1) → ∀ (H : Heap) (locs : List Loc) (ls : Array Slot) (i : Nat → Int32) (j : Nat → Int64) (f : Nat → Nat → Int32) (g : Nat → Nat → Int64) (C S : Nat), REL5 σ M bm bo fa fb i j f g → va_P D mp_cl ([(ah, mp_aI T 62 vh)] ++ aW T a i j f g) H → va_D (law_A s) ([(ah, mp_aI T 62 vh)] ++ aW T a i j f g) → va_S (law_A s) s.heap H locs → C + 1 ≤ cb → S + 5 ≤ sb → lv_has ls 29 [(0, .ref b), (1, .ref (a 0)), (3, .ref ah), (4, .int z4), (5, .int z5), (6, .int z6), (8, .int z8), (10, .int z10), (16, .int z16), (18, .long z18), (20, .long z20), (22, .int z22)] → W p l e room_1 s m #[.ref b] below meth c H locs C S (lw_Z below #[.ref b] s) (F0 m 814 ls [])) :
    ∀ (n : Nat) (z4 : Int32) (z5 : Int32) (z6 : Int32) (z8 : Int32) (z10 : Int32) (z16 : Int32) (z18 : Int64) (z20 : Int64) (z22 : Int32) (z23 : Int64) (z25 : Int64) (σ : (Nat → Nat)) (M : Option (Nat → Nat)) (bm : Nat) (bo : (Nat → Nat)) (fa : Int64) (fb : Int64), f_L_law_879 fu n1 xs vh K55 K814 n z4 z5 z6 z8 z10 z16 z18 z20 z22 z23 z25 σ M bm bo fa fb = some (nI 1) → ∀ (H : Heap) (locs : List Loc) (ls : Array Slot) (i : Nat → Int32) (j : Nat → Int64) (f : Nat → Nat → Int32) (g : Nat → Nat → Int64) (C S : Nat), REL5 σ M bm bo fa fb i j f g → va_P D mp_cl ([(ah, mp_aI T 62 vh)] ++ aW T a i j f g) H → va_D (law_A s) ([(ah, mp_aI T 62 vh)] ++ aW T a i j f g) → va_S (law_A s) s.heap H locs → C + 1 ≤ cb → S + 5 ≤ sb → lv_has ls 29 [(0, .ref b), (1, .ref (a 0)), (3, .ref ah), (4, .int z4), (5, .int z5), (6, .int z6), (8, .int z8), (10, .int z10), (16, .int z16), (18, .long z18), (20, .long z20), (22, .int z22), (23, .long z23), (25, .long z25)] → W p l e room_1 s m #[.ref b] below meth c H locs C S (lw_Z below #[.ref b] s) (F0 m 879 ls []) := by
  have hx := X.1
  have hb := X.2.1
  have hml := X.2.2.1
  have hown := X.2.2.2.2.1
  have hts := X.2.2.2.2.2.1
  have hbA : ¬ law_A s b := Nat.not_le.mpr hbl
  have hA : ∀ q, s.heap.size ≤ q → law_A s q := fun q h => h
  intro n
  induction n with
  | zero => intro z4 z5 z6 z8 z10 z16 z18 z20 z22 z23 z25 σ M bm bo fa fb hf; exact absurd hf (by intro h; cases h)
  | succ n ih =>
    intro z4 z5 z6 z8 z10 z16 z18 z20 z22 z23 z25 σ M bm bo fa fb hf H locs ls i j f g C S hRel hP hD hS hC hC2 hl
    replace hf : (if (lg_cmp z25 (lN 0)) = 0 then (if (lg_cmp z23 (lN 1)) ≤ 0 then f_L_law_925 fu n1 xs vh (K55) (K814) z4 z5 z6 z8 z10 z16 z18 z20 z22 z23 σ M bm bo fa fb else (if (lg_cmp z18 (lN 0)) ≤ 0 then f_L_law_925 fu n1 xs vh (K55) (K814) z4 z5 z6 z8 z10 z16 z18 z20 z22 z23 σ M bm bo fa fb else gd_ (¬ z23 = 0) (lt_ (z18 / z23) (fun (y5 : Int64) => f_L_law_925 fu n1 xs vh (K55) (K814) z4 z5 z6 z8 z10 z16 y5 z20 z22 z23 σ M bm bo fa fb)))) else gd_ (¬ z25 = 0) (lt_ (z23 - z23 / z25 * z25) (fun (y7 : Int64) => f_L_law_879 fu n1 xs vh K55 K814 n z4 z5 z6 z8 z10 z16 z18 z20 z22 z25 y7 σ M bm bo fa fb))) = some (nI 1) := hf
    have hCS : C + 0 ≤ room_1.cells ∧ S + 0 ≤ room_1.slots := ⟨(show C + 0 ≤ 600000 by omega), (show S + 0 ≤ 7302250 by omega)⟩
    refine lv_lload hx hb dL_law_879 (lv_at hl 13 rfl) ?_
    refine lv_lconst (v := (lN 0)) hx hb dL_law_881 (by decide) ?_
    refine W.lcmp hx hb dL_law_882 ?_
    refine lv_if_eq (tgt := 904) hx hb dL_law_883 (by decide) (fun h1 => ?_) (fun h1 => ?_)
    · replace hf := if_t hf h1
      refine lv_lload hx hb dL_law_904 (lv_at hl 12 rfl) ?_
      refine lv_lconst (v := (lN 1)) hx hb dL_law_906 (by decide) ?_
      refine W.lcmp hx hb dL_law_907 ?_
      refine lv_if_le (tgt := 925) hx hb dL_law_908 (by decide) (fun h2 => ?_) (fun h2 => ?_)
      · replace hf := if_t hf h2
        exact w_L_law_925 X hK hbl fu n1 xs vh hX cb sb hcb (K55) (hK55) (K814) (hK814) z4 z5 z6 z8 z10 z16 z18 z20 z22 z23 σ M bm bo fa fb hf _ _ _ _ _ _ _ _ _ hRel hP hD hS (by omega) (by omega) (lv_sub hl [0, 1, 2, 3, 4, 5, 6, 7, 8, 9, 10, 11, 12] rfl)
      · replace hf := if_f hf h2
        refine lv_lload hx hb dL_law_911 (lv_at hl 9 rfl) ?_
        refine lv_lconst (v := (lN 0)) hx hb dL_law_913 (by decide) ?_
        refine W.lcmp hx hb dL_law_914 ?_
        refine lv_if_le (tgt := 925) hx hb dL_law_915 (by decide) (fun h3 => ?_) (fun h3 => ?_)
        · replace hf := if_t hf h3
          exact w_L_law_925 X hK hbl fu n1 xs vh hX cb sb hcb (K55) (hK55) (K814) (hK814) z4 z5 z6 z8 z10 z16 z18 z20 z22 z23 σ M bm bo fa fb hf _ _ _ _ _ _ _ _ _ hRel hP hD hS (by omega) (by omega) (lv_sub hl [0, 1, 2, 3, 4, 5, 6, 7, 8, 9, 10, 11, 12] rfl)
        · replace hf := if_f hf h3
          refine lv_lload hx hb dL_law_918 (lv_at hl 9 rfl) ?_
          refine lv_lload hx hb dL_law_920 (lv_at hl 12 rfl) ?_
          obtain ⟨h4, hf⟩ := gd_of hf
          refine lv_ldiv hx hb dL_law_922 h4 ?_
          refine lv_topl (fun y5 e5 => ?_)
          replace hf := lt_of e5 hf
          refine lv_lstore (lv' := [(18, .long y5), (0, .ref b), (1, .ref (a 0)), (3, .ref ah), (4, .int z4), (5, .int z5), (6, .int z6), (8, .int z8), (10, .int z10), (16, .int z16), (20, .long z20), (22, .int z22), (23, .long z23), (25, .long z25)]) hx hb dL_law_923 hl (by decide) rfl (fun ls hl => ?_)
          exact w_L_law_925 X hK hbl fu n1 xs vh hX cb sb hcb (K55) (hK55) (K814) (hK814) z4 z5 z6 z8 z10 z16 y5 z20 z22 z23 σ M bm bo fa fb hf _ _ _ _ _ _ _ _ _ hRel hP hD hS (by omega) (by omega) (lv_sub hl [1, 2, 3, 4, 5, 6, 7, 8, 9, 0, 10, 11, 12] rfl)
    · replace hf := if_f hf h1
      refine lv_lload hx hb dL_law_886 (lv_at hl 12 rfl) ?_
      refine lv_lload hx hb dL_law_888 (lv_at hl 13 rfl) ?_
      obtain ⟨h6, hf⟩ := gd_of hf
      refine lv_lrem hx hb dL_law_890 h6 ?_
      refine lv_topl (fun y7 e7 => ?_)
      replace hf := lt_of e7 hf
      refine lv_lstore (lv' := [(27, .long y7), (0, .ref b), (1, .ref (a 0)), (3, .ref ah), (4, .int z4), (5, .int z5), (6, .int z6), (8, .int z8), (10, .int z10), (16, .int z16), (18, .long z18), (20, .long z20), (22, .int z22), (23, .long z23), (25, .long z25)]) hx hb dL_law_891 hl (by decide) rfl (fun ls hl => ?_)
      refine lv_lload hx hb dL_law_893 (lv_at hl 14 rfl) ?_
      refine lv_lstore (lv' := [(23, .long z25), (27, .long y7), (0, .ref b), (1, .ref (a 0)), (3, .ref ah), (4, .int z4), (5, .int z5), (6, .int z6), (8, .int z8), (10, .int z10), (16, .int z16), (18, .long z18), (20, .long z20), (22, .int z22), (25, .long z25)]) hx hb dL_law_895 hl (by decide) rfl (fun ls hl => ?_)
      refine lv_lload hx hb dL_law_897 (lv_at hl 1 rfl) ?_
      refine lv_lstore (lv' := [(25, .long y7), (23, .long z25), (27, .long y7), (0, .ref b), (1, .ref (a 0)), (3, .ref ah), (4, .int z4), (5, .int z5), (6, .int z6), (8, .int z8), (10, .int z10), (16, .int z16), (18, .long z18), (20, .long z20), (22, .int z22)]) hx hb dL_law_899 hl (by decide) rfl (fun ls hl => ?_)
      refine lv_goto (tgt := 879) hx hb dL_law_901 (by decide) ?_
      exact ih z4 z5 z6 z8 z10 z16 z18 z20 z22 z25 y7 σ M bm bo fa fb hf _ _ _ _ _ _ _ _ _ hRel hP hD hS (by omega) (by omega) (lv_sub hl [3, 4, 5, 6, 7, 8, 9, 10, 11, 12, 13, 14, 1, 0] rfl)

set_option maxHeartbeats 4000000 in
set_option maxRecDepth 100000 in
theorem w_L_law_814 {p : Program} {l : Launch} {e : Env} {s : State} {m : MethodId} {below : List Frame} {meth : Method} {c : Code} {D : va_G} {T : Nat → ClassId} {nm : String} {b ah : Nat} {a : Nat → Nat} (X : mp_X p s m meth c #[.ref b] RL nm cL_law 29 (some .boolean)) (hK : va_K D mp_cl (mp_ty T) s) (hbl : b < s.heap.size) (fu : Nat) (n1 : Nat) (xs : Nat → Int32) (vh : Nat → Int32) (hX : va_X b n1 xs s s.heap) (cb sb : Nat) (hcb : cb ≤ 600000 ∧ sb ≤ 7302250) (K55 : Int32 → Int32 → (Nat → Nat) → Option (Nat → Nat) → Nat → (Nat → Nat) → Int64 → Int64 → Option (Int32)) (hK55 : ∀ (z4 : Int32) (z5 : Int32) (σ : (Nat → Nat)) (M : Option (Nat → Nat)) (bm : Nat) (bo : (Nat → Nat)) (fa : Int64) (fb : Int64), K55 z4 z5 σ M bm bo fa fb = some (nI 1) → ∀ (H : Heap) (locs : List Loc) (ls : Array Slot) (i : Nat → Int32) (j : Nat → Int64) (f : Nat → Nat → Int32) (g : Nat → Nat → Int64) (C S : Nat), REL5 σ M bm bo fa fb i j f g → va_P D mp_cl ([(ah, mp_aI T 62 vh)] ++ aW T a i j f g) H → va_D (law_A s) ([(ah, mp_aI T 62 vh)] ++ aW T a i j f g) → va_S (law_A s) s.heap H locs → C ≤ cb → S ≤ sb → lv_has ls 29 [(0, .ref b), (1, .ref (a 0)), (3, .ref ah), (4, .int z4), (5, .int z5)] → W p l e room_1 s m #[.ref b] below meth c H locs C S (lw_Z below #[.ref b] s) (F0 m 55 ls [])) :
    ∀ (n : Nat) (z4 : Int32) (z5 : Int32) (z6 : Int32) (z8 : Int32) (z10 : Int32) (z16 : Int32) (z18 : Int64) (z20 : Int64) (z22 : Int32) (σ : (Nat → Nat)) (M : Option (Nat → Nat)) (bm : Nat) (bo : (Nat → Nat)) (fa : Int64) (fb : Int64), f_L_law_814 fu n1 xs vh K55 n z4 z5 z6 z8 z10 z16 z18 z20 z22 σ M bm bo fa fb = some (nI 1) → ∀ (H : Heap) (locs : List Loc) (ls : Array Slot) (i : Nat → Int32) (j : Nat → Int64) (f : Nat → Nat → Int32) (g : Nat → Nat → Int64) (C S : Nat), REL5 σ M bm bo fa fb i j f g → va_P D mp_cl ([(ah, mp_aI T 62 vh)] ++ aW T a i j f g) H → va_D (law_A s) ([(ah, mp_aI T 62 vh)] ++ aW T a i j f g) → va_S (law_A s) s.heap H locs → C + 1 ≤ cb → S + 5 ≤ sb → lv_has ls 29 [(0, .ref b), (1, .ref (a 0)), (3, .ref ah), (4, .int z4), (5, .int z5), (6, .int z6), (8, .int z8), (10, .int z10), (16, .int z16), (18, .long z18), (20, .long z20), (22, .int z22)] → W p l e room_1 s m #[.ref b] below meth c H locs C S (lw_Z below #[.ref b] s) (F0 m 814 ls []) := by
  have hx := X.1
  have hb := X.2.1
  have hml := X.2.2.1
  have hown := X.2.2.2.2.1
  have hts := X.2.2.2.2.2.1
  have hbA : ¬ law_A s b := Nat.not_le.mpr hbl
  have hA : ∀ q, s.heap.size ≤ q → law_A s q := fun q h => h
  intro n
  induction n with
  | zero => intro z4 z5 z6 z8 z10 z16 z18 z20 z22 σ M bm bo fa fb hf; exact absurd hf (by intro h; cases h)
  | succ n ih =>
    intro z4 z5 z6 z8 z10 z16 z18 z20 z22 σ M bm bo fa fb hf H locs ls i j f g C S hRel hP hD hS hC hC2 hl
    replace hf : gi_ (nI 2) 62 ((if (vh ((nI 2)).toNatClampNeg) ≤ z22 then (if (lg_cmp z18 z20) = 0 then f_L_law_970 fu n1 xs vh (K55) fu z4 z5 z6 z8 z10 z16 (nI 0) σ M bm bo fa fb ((fun _ => nI 0)) else some (nI 0)) else bd_ (s_mix z22 σ fa fb) (fun (z : (Int32) × (Int64) × (Int64)) => match z with | (r5, u6, u7) => (if r5 = 0 then lt_ (z22 + (nI 1)) (fun (y18 : Int32) => f_L_law_814 fu n1 xs vh K55 n z4 z5 z6 z8 z10 z16 z18 z20 y18 σ M bm bo u6 u7) else bd_ (s_bottom u7) (fun (r10 : Int64) => bd_ (s_top u6) (fun (r12 : Int64) => lt_ ((z18 * r10) + (r12 * z20)) (fun (y13 : Int64) => bd_ (s_bottom u7) (fun (r15 : Int64) => lt_ (z20 * r15) (fun (y16 : Int64) => (if 0 ≤ (lg_cmp y13 (lN 1)) then f_L_law_879 fu n1 xs vh (K55) (f_L_law_814 fu n1 xs vh K55 n) fu z4 z5 z6 z8 z10 z16 y13 y16 z22 y13 y16 σ M bm bo u6 u7 else f_L_law_879 fu n1 xs vh (K55) (f_L_law_814 fu n1 xs vh K55 n) fu z4 z5 z6 z8 z10 z16 y13 y16 z22 (lN 1) y16 σ M bm bo u6 u7)))))))))) = some (nI 1) := hf
    have hCS : C + 0 ≤ room_1.cells ∧ S + 0 ≤ room_1.slots := ⟨(show C + 0 ≤ 600000 by omega), (show S + 0 ≤ 7302250 by omega)⟩
    refine lv_iload hx hb dL_law_814 (lv_at hl 11 rfl) ?_
    refine lv_aload_n hx hb dL_law_816 rfl (lv_at hl 2 rfl) ?_
    refine lv_iconst (v := (nI 2)) hx hb dL_law_817 (by decide) ?_
    obtain ⟨h1, hf⟩ := gi_of hf
    refine va_iald hx hb hK hP 0 0 rfl rfl h1 dL_law_818 ?_
    refine lv_icmp_ge (tgt := 952) hx hb dL_law_819 (by decide) (fun h2 => ?_) (fun h2 => ?_)
    · replace hf := if_t hf h2
      refine lv_lload hx hb dL_law_952 (lv_at hl 9 rfl) ?_
      refine lv_lload hx hb dL_law_954 (lv_at hl 10 rfl) ?_
      refine W.lcmp hx hb dL_law_956 ?_
      refine lv_if_eq (tgt := 962) hx hb dL_law_957 (by decide) (fun h3 => ?_) (fun h3 => ?_)
      · replace hf := if_t hf h3
        refine lv_iconst (v := (nI 5)) hx hb dL_law_962 (by decide) ?_
        refine mp_newI (N := 5) X hK hP hD hS hA (by decide) (by decide) (by decide) (show C + 1 ≤ 600000 by omega) (show S + 5 ≤ 7302250 by omega) dL_law_963 (fun aq H hP hD hS => ?_)
        replace hP : va_P D mp_cl ([(aq, mp_aI T 5 ((fun _ => nI 0))), (ah, mp_aI T 62 vh)] ++ aW T a i j f g) H := law_rot hP
        replace hD : va_D (law_A s) ([(aq, mp_aI T 5 ((fun _ => nI 0))), (ah, mp_aI T 62 vh)] ++ aW T a i j f g) := law_rotD hD
        have hCS : C + 1 + 0 ≤ room_1.cells ∧ S + 5 + 0 ≤ room_1.slots := ⟨(show C + 1 + 0 ≤ 600000 by omega), (show S + 5 + 0 ≤ 7302250 by omega)⟩
        refine lv_astore (lv' := [(18, .ref aq), (0, .ref b), (1, .ref (a 0)), (3, .ref ah), (4, .int z4), (5, .int z5), (6, .int z6), (8, .int z8), (10, .int z10), (16, .int z16), (20, .long z20), (22, .int z22)]) hx hb dL_law_965 hl (by decide) rfl (fun ls hl => ?_)
        refine lv_iconst (v := (nI 0)) hx hb dL_law_967 (by decide) ?_
        refine lv_istore (lv' := [(19, .int (nI 0)), (18, .ref aq), (0, .ref b), (1, .ref (a 0)), (3, .ref ah), (4, .int z4), (5, .int z5), (6, .int z6), (8, .int z8), (10, .int z10), (16, .int z16), (20, .long z20), (22, .int z22)]) hx hb dL_law_968 hl (by decide) rfl (fun ls hl => ?_)
        exact w_L_law_970 X hK hbl fu n1 xs vh hX cb sb hcb (K55) (hK55) fu z4 z5 z6 z8 z10 z16 (nI 0) σ M bm bo fa fb ((fun _ => nI 0)) hf _ _ _ _ _ _ _ _ _ _ hRel hP hD hS (by omega) (by omega) (lv_sub hl [2, 3, 4, 5, 6, 7, 8, 9, 10, 1, 0] rfl)
      · replace hf := if_f hf h3
        refine lv_iconst (v := (nI 0)) hx hb dL_law_960 (by decide) ?_
        exact absurd (Option.some.inj hf) (by decide)
    · replace hf := if_f hf h2
      refine lv_aload_n hx hb dL_law_822 rfl (lv_at hl 1 rfl) ?_
      refine lv_iload hx hb dL_law_823 (lv_at hl 11 rfl) ?_
      obtain ⟨⟨r5, u6, u7⟩, c4, hf⟩ := bd_of hf
      dsimp only at hf
      refine K_mix (Y := [(ah, mp_aI T 62 vh)]) (rest := []) X hK hRel c4 hP hD hS hl.1 (Nat.le_of_ble_eq_true rfl) dL_law_825 hCS (fun i j f g H locs hRel hP hD hS => ?_)
      refine lv_if_ne (tgt := 834) hx hb dL_law_828 (by decide) (fun h8 => ?_) (fun h8 => ?_)
      · replace hf := if_f hf h8
        refine lv_lload hx hb dL_law_834 (lv_at hl 9 rfl) ?_
        refine lv_aload_n hx hb dL_law_836 rfl (lv_at hl 1 rfl) ?_
        obtain ⟨r10, c9, hf⟩ := bd_of hf
        refine K_bottom (Y := [(ah, mp_aI T 62 vh)]) (rest := [.long z18]) X hK hRel c9 hP hD hS hl.1 (Nat.le_of_ble_eq_true rfl) dL_law_837 hCS (fun i j f g H locs hRel hP hD hS => ?_)
        refine lv_lmul hx hb dL_law_840 ?_
        refine lv_aload_n hx hb dL_law_841 rfl (lv_at hl 1 rfl) ?_
        obtain ⟨r12, c11, hf⟩ := bd_of hf
        refine K_top (Y := [(ah, mp_aI T 62 vh)]) (rest := [.long (z18 * r10)]) X hK hRel c11 hP hD hS hl.1 (Nat.le_of_ble_eq_true rfl) dL_law_842 hCS (fun i j f g H locs hRel hP hD hS => ?_)
        refine lv_lload hx hb dL_law_845 (lv_at hl 10 rfl) ?_
        refine lv_lmul hx hb dL_law_847 ?_
        refine lv_ladd hx hb dL_law_848 ?_
        refine lv_topl (fun y13 e13 => ?_)
        replace hf := lt_of e13 hf
        refine lv_lstore (lv' := [(18, .long y13), (0, .ref b), (1, .ref (a 0)), (3, .ref ah), (4, .int z4), (5, .int z5), (6, .int z6), (8, .int z8), (10, .int z10), (16, .int z16), (20, .long z20), (22, .int z22)]) hx hb dL_law_849 hl (by decide) rfl (fun ls hl => ?_)
        refine lv_lload hx hb dL_law_851 (lv_at hl 10 rfl) ?_
        refine lv_aload_n hx hb dL_law_853 rfl (lv_at hl 2 rfl) ?_
        obtain ⟨r15, c14, hf⟩ := bd_of hf
        refine K_bottom (Y := [(ah, mp_aI T 62 vh)]) (rest := [.long z20]) X hK hRel c14 hP hD hS hl.1 (Nat.le_of_ble_eq_true rfl) dL_law_854 hCS (fun i j f g H locs hRel hP hD hS => ?_)
        refine lv_lmul hx hb dL_law_857 ?_
        refine lv_topl (fun y16 e16 => ?_)
        replace hf := lt_of e16 hf
        refine lv_lstore (lv' := [(20, .long y16), (18, .long y13), (0, .ref b), (1, .ref (a 0)), (3, .ref ah), (4, .int z4), (5, .int z5), (6, .int z6), (8, .int z8), (10, .int z10), (16, .int z16), (22, .int z22)]) hx hb dL_law_858 hl (by decide) rfl (fun ls hl => ?_)
        refine lv_lload hx hb dL_law_860 (lv_at hl 1 rfl) ?_
        refine lv_lconst (v := (lN 1)) hx hb dL_law_862 (by decide) ?_
        refine W.lcmp hx hb dL_law_863 ?_
        refine lv_if_ge (tgt := 871) hx hb dL_law_864 (by decide) (fun h17 => ?_) (fun h17 => ?_)
        · replace hf := if_t hf h17
          refine lv_lload hx hb dL_law_871 (lv_at hl 1 rfl) ?_
          refine lv_lstore (lv' := [(23, .long y13), (20, .long y16), (18, .long y13), (0, .ref b), (1, .ref (a 0)), (3, .ref ah), (4, .int z4), (5, .int z5), (6, .int z6), (8, .int z8), (10, .int z10), (16, .int z16), (22, .int z22)]) hx hb dL_law_873 hl (by decide) rfl (fun ls hl => ?_)
          refine lv_lload hx hb dL_law_875 (lv_at hl 1 rfl) ?_
          refine lv_lstore (lv' := [(25, .long y16), (23, .long y13), (20, .long y16), (18, .long y13), (0, .ref b), (1, .ref (a 0)), (3, .ref ah), (4, .int z4), (5, .int z5), (6, .int z6), (8, .int z8), (10, .int z10), (16, .int z16), (22, .int z22)]) hx hb dL_law_877 hl (by decide) rfl (fun ls hl => ?_)
          exact w_L_law_879 X hK hbl fu n1 xs vh hX cb sb hcb (K55) (hK55) (f_L_law_814 fu n1 xs vh K55 n) (ih) fu z4 z5 z6 z8 z10 z16 y13 y16 z22 y13 y16 σ M bm bo u6 u7 hf _ _ _ _ _ _ _ _ _ hRel hP hD hS (by omega) (by omega) (lv_sub hl [4, 5, 6, 7, 8, 9, 10, 11, 12, 3, 2, 13, 1, 0] rfl)
        · replace hf := if_f hf h17
          refine lv_lconst (v := (lN 1)) hx hb dL_law_867 (by decide) ?_
          refine lv_goto (tgt := 873) hx hb dL_law_868 (by decide) ?_
          refine lv_lstore (lv' := [(23, .long (lN 1)), (20, .long y16), (18, .long y13), (0, .ref b), (1, .ref (a 0)), (3, .ref ah), (4, .int z4), (5, .int z5), (6, .int z6), (8, .int z8), (10, .int z10), (16, .int z16), (22, .int z22)]) hx hb dL_law_873 hl (by decide) rfl (fun ls hl => ?_)
          refine lv_lload hx hb dL_law_875 (lv_at hl 1 rfl) ?_
          refine lv_lstore (lv' := [(25, .long y16), (23, .long (lN 1)), (20, .long y16), (18, .long y13), (0, .ref b), (1, .ref (a 0)), (3, .ref ah), (4, .int z4), (5, .int z5), (6, .int z6), (8, .int z8), (10, .int z10), (16, .int z16), (22, .int z22)]) hx hb dL_law_877 hl (by decide) rfl (fun ls hl => ?_)
          exact w_L_law_879 X hK hbl fu n1 xs vh hX cb sb hcb (K55) (hK55) (f_L_law_814 fu n1 xs vh K55 n) (ih) fu z4 z5 z6 z8 z10 z16 y13 y16 z22 (lN 1) y16 σ M bm bo u6 u7 hf _ _ _ _ _ _ _ _ _ hRel hP hD hS (by omega) (by omega) (lv_sub hl [4, 5, 6, 7, 8, 9, 10, 11, 12, 3, 2, 13, 1, 0] rfl)
      · replace hf := if_t hf h8
        refine lv_goto (tgt := 946) hx hb dL_law_831 (by decide) ?_
        obtain ⟨y18, e18⟩ : ∃ y : Int32, y = z22 + (nI 1) := ⟨_, rfl⟩
        replace hf := lt_of e18 hf
        refine lv_iinc (v := y18) (lv' := [(22, .int y18), (0, .ref b), (1, .ref (a 0)), (3, .ref ah), (4, .int z4), (5, .int z5), (6, .int z6), (8, .int z8), (10, .int z10), (16, .int z16), (18, .long z18), (20, .long z20)]) hx hb dL_law_946 hl (k := 11) rfl (by rw [e18]; rfl) (by decide) rfl (fun ls hl => ?_)
        refine lv_goto (tgt := 814) hx hb dL_law_949 (by decide) ?_
        exact ih z4 z5 z6 z8 z10 z16 z18 z20 y18 σ M bm bo u6 u7 hf _ _ _ _ _ _ _ _ _ hRel hP hD hS (by omega) (by omega) (lv_sub hl [1, 2, 3, 4, 5, 6, 7, 8, 9, 10, 11, 0] rfl)

set_option maxHeartbeats 4000000 in
set_option maxRecDepth 100000 in
theorem w_L_law_798 {p : Program} {l : Launch} {e : Env} {s : State} {m : MethodId} {below : List Frame} {meth : Method} {c : Code} {D : va_G} {T : Nat → ClassId} {nm : String} {b ah : Nat} {a : Nat → Nat} (X : mp_X p s m meth c #[.ref b] RL nm cL_law 29 (some .boolean)) (hK : va_K D mp_cl (mp_ty T) s) (hbl : b < s.heap.size) (fu : Nat) (n1 : Nat) (xs : Nat → Int32) (vh : Nat → Int32) (hX : va_X b n1 xs s s.heap) (cb sb : Nat) (hcb : cb ≤ 600000 ∧ sb ≤ 7302250) (K55 : Int32 → Int32 → (Nat → Nat) → Option (Nat → Nat) → Nat → (Nat → Nat) → Int64 → Int64 → Option (Int32)) (hK55 : ∀ (z4 : Int32) (z5 : Int32) (σ : (Nat → Nat)) (M : Option (Nat → Nat)) (bm : Nat) (bo : (Nat → Nat)) (fa : Int64) (fb : Int64), K55 z4 z5 σ M bm bo fa fb = some (nI 1) → ∀ (H : Heap) (locs : List Loc) (ls : Array Slot) (i : Nat → Int32) (j : Nat → Int64) (f : Nat → Nat → Int32) (g : Nat → Nat → Int64) (C S : Nat), REL5 σ M bm bo fa fb i j f g → va_P D mp_cl ([(ah, mp_aI T 62 vh)] ++ aW T a i j f g) H → va_D (law_A s) ([(ah, mp_aI T 62 vh)] ++ aW T a i j f g) → va_S (law_A s) s.heap H locs → C ≤ cb → S ≤ sb → lv_has ls 29 [(0, .ref b), (1, .ref (a 0)), (3, .ref ah), (4, .int z4), (5, .int z5)] → W p l e room_1 s m #[.ref b] below meth c H locs C S (lw_Z below #[.ref b] s) (F0 m 55 ls [])) :
    ∀  (z4 : Int32) (z5 : Int32) (z6 : Int32) (z8 : Int32) (z10 : Int32) (z16 : Int32) (σ : (Nat → Nat)) (M : Option (Nat → Nat)) (bm : Nat) (bo : (Nat → Nat)) (fa : Int64) (fb : Int64), f_L_law_798 fu n1 xs vh K55 z4 z5 z6 z8 z10 z16 σ M bm bo fa fb = some (nI 1) → ∀ (H : Heap) (locs : List Loc) (ls : Array Slot) (i : Nat → Int32) (j : Nat → Int64) (f : Nat → Nat → Int32) (g : Nat → Nat → Int64) (C S : Nat), REL5 σ M bm bo fa fb i j f g → va_P D mp_cl ([(ah, mp_aI T 62 vh)] ++ aW T a i j f g) H → va_D (law_A s) ([(ah, mp_aI T 62 vh)] ++ aW T a i j f g) → va_S (law_A s) s.heap H locs → C + 1 ≤ cb → S + 5 ≤ sb → lv_has ls 29 [(0, .ref b), (1, .ref (a 0)), (3, .ref ah), (4, .int z4), (5, .int z5), (6, .int z6), (8, .int z8), (10, .int z10), (16, .int z16)] → W p l e room_1 s m #[.ref b] below meth c H locs C S (lw_Z below #[.ref b] s) (F0 m 798 ls []) := by
  have hx := X.1
  have hb := X.2.1
  have hml := X.2.2.1
  have hown := X.2.2.2.2.1
  have hts := X.2.2.2.2.2.1
  have hbA : ¬ law_A s b := Nat.not_le.mpr hbl
  have hA : ∀ q, s.heap.size ≤ q → law_A s q := fun q h => h
  intro z4 z5 z6 z8 z10 z16 σ M bm bo fa fb hf H locs ls i j f g C S hRel hP hD hS hC hC2 hl
  replace hf : bd_ (s_kept σ) (fun (r2 : Int32) => (if r2 < 0 then f_L_law_970 fu n1 xs vh (K55) fu z4 z5 z6 z8 z10 z16 (nI 0) σ M bm bo fa fb ((fun _ => nI 0)) else f_L_law_814 fu n1 xs vh (K55) fu z4 z5 z6 z8 z10 z16 (lN 0) (lN 1) (nI 0) σ M bm bo fa fb)) = some (nI 1) := hf
  have hCS : C + 0 ≤ room_1.cells ∧ S + 0 ≤ room_1.slots := ⟨(show C + 0 ≤ 600000 by omega), (show S + 0 ≤ 7302250 by omega)⟩
  refine lv_aload_n hx hb dL_law_798 rfl (lv_at hl 1 rfl) ?_
  obtain ⟨r2, c1, hf⟩ := bd_of hf
  refine K_kept (Y := [(ah, mp_aI T 62 vh)]) (rest := []) X hK hRel c1 hP hD hS hl.1 (Nat.le_of_ble_eq_true rfl) dL_law_799 hCS (fun i j f g H locs hRel hP hD hS => ?_)
  refine lv_if_lt (tgt := 962) hx hb dL_law_802 (by decide) (fun h3 => ?_) (fun h3 => ?_)
  · replace hf := if_t hf h3
    refine lv_iconst (v := (nI 5)) hx hb dL_law_962 (by decide) ?_
    refine mp_newI (N := 5) X hK hP hD hS hA (by decide) (by decide) (by decide) (show C + 1 ≤ 600000 by omega) (show S + 5 ≤ 7302250 by omega) dL_law_963 (fun aq H hP hD hS => ?_)
    replace hP : va_P D mp_cl ([(aq, mp_aI T 5 ((fun _ => nI 0))), (ah, mp_aI T 62 vh)] ++ aW T a i j f g) H := law_rot hP
    replace hD : va_D (law_A s) ([(aq, mp_aI T 5 ((fun _ => nI 0))), (ah, mp_aI T 62 vh)] ++ aW T a i j f g) := law_rotD hD
    have hCS : C + 1 + 0 ≤ room_1.cells ∧ S + 5 + 0 ≤ room_1.slots := ⟨(show C + 1 + 0 ≤ 600000 by omega), (show S + 5 + 0 ≤ 7302250 by omega)⟩
    refine lv_astore (lv' := [(18, .ref aq), (0, .ref b), (1, .ref (a 0)), (3, .ref ah), (4, .int z4), (5, .int z5), (6, .int z6), (8, .int z8), (10, .int z10), (16, .int z16)]) hx hb dL_law_965 hl (by decide) rfl (fun ls hl => ?_)
    refine lv_iconst (v := (nI 0)) hx hb dL_law_967 (by decide) ?_
    refine lv_istore (lv' := [(19, .int (nI 0)), (18, .ref aq), (0, .ref b), (1, .ref (a 0)), (3, .ref ah), (4, .int z4), (5, .int z5), (6, .int z6), (8, .int z8), (10, .int z10), (16, .int z16)]) hx hb dL_law_968 hl (by decide) rfl (fun ls hl => ?_)
    exact w_L_law_970 X hK hbl fu n1 xs vh hX cb sb hcb (K55) (hK55) fu z4 z5 z6 z8 z10 z16 (nI 0) σ M bm bo fa fb ((fun _ => nI 0)) hf _ _ _ _ _ _ _ _ _ _ hRel hP hD hS (by omega) (by omega) (lv_sub hl [2, 3, 4, 5, 6, 7, 8, 9, 10, 1, 0] rfl)
  · replace hf := if_f hf h3
    refine lv_lconst (v := (lN 0)) hx hb dL_law_805 (by decide) ?_
    refine lv_lstore (lv' := [(18, .long (lN 0)), (0, .ref b), (1, .ref (a 0)), (3, .ref ah), (4, .int z4), (5, .int z5), (6, .int z6), (8, .int z8), (10, .int z10), (16, .int z16)]) hx hb dL_law_806 hl (by decide) rfl (fun ls hl => ?_)
    refine lv_lconst (v := (lN 1)) hx hb dL_law_808 (by decide) ?_
    refine lv_lstore (lv' := [(20, .long (lN 1)), (18, .long (lN 0)), (0, .ref b), (1, .ref (a 0)), (3, .ref ah), (4, .int z4), (5, .int z5), (6, .int z6), (8, .int z8), (10, .int z10), (16, .int z16)]) hx hb dL_law_809 hl (by decide) rfl (fun ls hl => ?_)
    refine lv_iconst (v := (nI 0)) hx hb dL_law_811 (by decide) ?_
    refine lv_istore (lv' := [(22, .int (nI 0)), (20, .long (lN 1)), (18, .long (lN 0)), (0, .ref b), (1, .ref (a 0)), (3, .ref ah), (4, .int z4), (5, .int z5), (6, .int z6), (8, .int z8), (10, .int z10), (16, .int z16)]) hx hb dL_law_812 hl (by decide) rfl (fun ls hl => ?_)
    exact w_L_law_814 X hK hbl fu n1 xs vh hX cb sb hcb (K55) (hK55) fu z4 z5 z6 z8 z10 z16 (lN 0) (lN 1) (nI 0) σ M bm bo fa fb hf _ _ _ _ _ _ _ _ _ hRel hP hD hS (by omega) (by omega) (lv_sub hl [3, 4, 5, 6, 7, 8, 9, 10, 11, 2, 1, 0] rfl)

set_option maxHeartbeats 4000000 in
set_option maxRecDepth 100000 in
theorem w_L_law_751 {p : Program} {l : Launch} {e : Env} {s : State} {m : MethodId} {below : List Frame} {meth : Method} {c : Code} {D : va_G} {T : Nat → ClassId} {nm : String} {b ah : Nat} {a : Nat → Nat} (X : mp_X p s m meth c #[.ref b] RL nm cL_law 29 (some .boolean)) (hK : va_K D mp_cl (mp_ty T) s) (hbl : b < s.heap.size) (fu : Nat) (n1 : Nat) (xs : Nat → Int32) (vh : Nat → Int32) (hX : va_X b n1 xs s s.heap) (cb sb : Nat) (hcb : cb ≤ 600000 ∧ sb ≤ 7302250) (K55 : Int32 → Int32 → (Nat → Nat) → Option (Nat → Nat) → Nat → (Nat → Nat) → Int64 → Int64 → Option (Int32)) (hK55 : ∀ (z4 : Int32) (z5 : Int32) (σ : (Nat → Nat)) (M : Option (Nat → Nat)) (bm : Nat) (bo : (Nat → Nat)) (fa : Int64) (fb : Int64), K55 z4 z5 σ M bm bo fa fb = some (nI 1) → ∀ (H : Heap) (locs : List Loc) (ls : Array Slot) (i : Nat → Int32) (j : Nat → Int64) (f : Nat → Nat → Int32) (g : Nat → Nat → Int64) (C S : Nat), REL5 σ M bm bo fa fb i j f g → va_P D mp_cl ([(ah, mp_aI T 62 vh)] ++ aW T a i j f g) H → va_D (law_A s) ([(ah, mp_aI T 62 vh)] ++ aW T a i j f g) → va_S (law_A s) s.heap H locs → C ≤ cb → S ≤ sb → lv_has ls 29 [(0, .ref b), (1, .ref (a 0)), (3, .ref ah), (4, .int z4), (5, .int z5)] → W p l e room_1 s m #[.ref b] below meth c H locs C S (lw_Z below #[.ref b] s) (F0 m 55 ls [])) :
    ∀  (z4 : Int32) (z5 : Int32) (z6 : Int32) (z8 : Int32) (z9 : Int32) (z10 : Int32) (z16 : Int32) (σ : (Nat → Nat)) (M : Option (Nat → Nat)) (bm : Nat) (bo : (Nat → Nat)) (fa : Int64) (fb : Int64), f_L_law_751 fu n1 xs vh K55 z4 z5 z6 z8 z9 z10 z16 σ M bm bo fa fb = some (nI 1) → ∀ (H : Heap) (locs : List Loc) (ls : Array Slot) (i : Nat → Int32) (j : Nat → Int64) (f : Nat → Nat → Int32) (g : Nat → Nat → Int64) (C S : Nat), REL5 σ M bm bo fa fb i j f g → va_P D mp_cl ([(ah, mp_aI T 62 vh)] ++ aW T a i j f g) H → va_D (law_A s) ([(ah, mp_aI T 62 vh)] ++ aW T a i j f g) → va_S (law_A s) s.heap H locs → C + 1 ≤ cb → S + 5 ≤ sb → lv_has ls 29 [(0, .ref b), (1, .ref (a 0)), (3, .ref ah), (4, .int z4), (5, .int z5), (6, .int z6), (8, .int z8), (9, .int z9), (10, .int z10), (16, .int z16)] → W p l e room_1 s m #[.ref b] below meth c H locs C S (lw_Z below #[.ref b] s) (F0 m 751 ls []) := by
  have hx := X.1
  have hb := X.2.1
  have hml := X.2.2.1
  have hown := X.2.2.2.2.1
  have hts := X.2.2.2.2.2.1
  have hbA : ¬ law_A s b := Nat.not_le.mpr hbl
  have hA : ∀ q, s.heap.size ≤ q → law_A s q := fun q h => h
  intro z4 z5 z6 z8 z9 z10 z16 σ M bm bo fa fb hf H locs ls i j f g C S hRel hP hD hS hC hC2 hl
  replace hf : bd_ (s_hide z9 σ) (fun (r2 : Int32) => (if r2 < 0 then f_L_law_798 fu n1 xs vh (K55) z4 z5 z6 z8 z10 z16 σ M bm bo fa fb else bd_ (s_page r2 (nI 2) σ) (fun (r5 : Int32) => gi_ ((nI 36) + z9) 62 ((if r5 < (vh ((nI 36) + z9).toNatClampNeg) then some (nI 0) else bd_ (s_many (nI 8) σ) (fun (r9 : Int32) => (if ((r9 >>> (r2 &&& (31 : Int32))) &&& (nI 1)) = (nI 1) then some (nI 0) else f_L_law_798 fu n1 xs vh (K55) z4 z5 z6 z8 z10 z16 σ M bm bo fa fb))))))) = some (nI 1) := hf
  have hCS : C + 0 ≤ room_1.cells ∧ S + 0 ≤ room_1.slots := ⟨(show C + 0 ≤ 600000 by omega), (show S + 0 ≤ 7302250 by omega)⟩
  refine lv_aload_n hx hb dL_law_751 rfl (lv_at hl 1 rfl) ?_
  refine lv_iload hx hb dL_law_752 (lv_at hl 7 rfl) ?_
  obtain ⟨r2, c1, hf⟩ := bd_of hf
  refine K_hide (Y := [(ah, mp_aI T 62 vh)]) (rest := []) X hK hRel c1 hP hD hS hl.1 (Nat.le_of_ble_eq_true rfl) dL_law_754 hCS (fun i j f g H locs hRel hP hD hS => ?_)
  refine lv_istore (lv' := [(17, .int r2), (0, .ref b), (1, .ref (a 0)), (3, .ref ah), (4, .int z4), (5, .int z5), (6, .int z6), (8, .int z8), (9, .int z9), (10, .int z10), (16, .int z16)]) hx hb dL_law_757 hl (by decide) rfl (fun ls hl => ?_)
  refine lv_iload hx hb dL_law_759 (lv_at hl 0 rfl) ?_
  refine lv_if_lt (tgt := 798) hx hb dL_law_761 (by decide) (fun h3 => ?_) (fun h3 => ?_)
  · replace hf := if_t hf h3
    exact w_L_law_798 X hK hbl fu n1 xs vh hX cb sb hcb (K55) (hK55) z4 z5 z6 z8 z10 z16 σ M bm bo fa fb hf _ _ _ _ _ _ _ _ _ hRel hP hD hS (by omega) (by omega) (lv_sub hl [1, 2, 3, 4, 5, 6, 7, 9, 10] rfl)
  · replace hf := if_f hf h3
    refine lv_aload_n hx hb dL_law_764 rfl (lv_at hl 2 rfl) ?_
    refine lv_iload hx hb dL_law_765 (lv_at hl 0 rfl) ?_
    refine lv_iconst (v := (nI 2)) hx hb dL_law_767 (by decide) ?_
    obtain ⟨r5, c4, hf⟩ := bd_of hf
    refine K_page (Y := [(ah, mp_aI T 62 vh)]) (rest := []) X hK hRel c4 hP hD hS hl.1 (Nat.le_of_ble_eq_true rfl) dL_law_768 hCS (fun i j f g H locs hRel hP hD hS => ?_)
    refine lv_aload_n hx hb dL_law_771 rfl (lv_at hl 3 rfl) ?_
    refine lv_bipush (v := (nI 36)) hx hb dL_law_772 (by decide) ?_
    refine lv_iload hx hb dL_law_774 (lv_at hl 8 rfl) ?_
    refine lv_iadd hx hb dL_law_776 ?_
    obtain ⟨h6, hf⟩ := gi_of hf
    refine va_iald hx hb hK hP 0 0 rfl rfl h6 dL_law_777 ?_
    refine lv_icmp_lt (tgt := 796) hx hb dL_law_778 (by decide) (fun h7 => ?_) (fun h7 => ?_)
    · replace hf := if_t hf h7
      refine lv_iconst (v := (nI 0)) hx hb dL_law_796 (by decide) ?_
      exact absurd (Option.some.inj hf) (by decide)
    · replace hf := if_f hf h7
      refine lv_aload_n hx hb dL_law_781 rfl (lv_at hl 2 rfl) ?_
      refine lv_bipush (v := (nI 8)) hx hb dL_law_782 (by decide) ?_
      obtain ⟨r9, c8, hf⟩ := bd_of hf
      refine K_many (Y := [(ah, mp_aI T 62 vh)]) (rest := []) X hK hRel c8 hP hD hS hl.1 (Nat.le_of_ble_eq_true rfl) dL_law_784 hCS (fun i j f g H locs hRel hP hD hS => ?_)
      refine lv_iload hx hb dL_law_787 (lv_at hl 0 rfl) ?_
      refine lv_ishr hx hb dL_law_789 ?_
      refine lv_iconst (v := (nI 1)) hx hb dL_law_790 (by decide) ?_
      refine lv_iand hx hb dL_law_791 ?_
      refine lv_iconst (v := (nI 1)) hx hb dL_law_792 (by decide) ?_
      refine lv_icmp_ne (tgt := 798) hx hb dL_law_793 (by decide) (fun h10 => ?_) (fun h10 => ?_)
      · replace hf := if_f hf h10
        exact w_L_law_798 X hK hbl fu n1 xs vh hX cb sb hcb (K55) (hK55) z4 z5 z6 z8 z10 z16 σ M bm bo fa fb hf _ _ _ _ _ _ _ _ _ hRel hP hD hS (by omega) (by omega) (lv_sub hl [1, 2, 3, 4, 5, 6, 7, 9, 10] rfl)
      · replace hf := if_t hf h10
        refine lv_iconst (v := (nI 0)) hx hb dL_law_796 (by decide) ?_
        exact absurd (Option.some.inj hf) (by decide)

set_option maxHeartbeats 4000000 in
set_option maxRecDepth 100000 in
theorem w_L_law_720 {p : Program} {l : Launch} {e : Env} {s : State} {m : MethodId} {below : List Frame} {meth : Method} {c : Code} {D : va_G} {T : Nat → ClassId} {nm : String} {b ah : Nat} {a : Nat → Nat} (X : mp_X p s m meth c #[.ref b] RL nm cL_law 29 (some .boolean)) (hK : va_K D mp_cl (mp_ty T) s) (hbl : b < s.heap.size) (fu : Nat) (n1 : Nat) (xs : Nat → Int32) (vh : Nat → Int32) (hX : va_X b n1 xs s s.heap) (cb sb : Nat) (hcb : cb ≤ 600000 ∧ sb ≤ 7302250) (K55 : Int32 → Int32 → (Nat → Nat) → Option (Nat → Nat) → Nat → (Nat → Nat) → Int64 → Int64 → Option (Int32)) (hK55 : ∀ (z4 : Int32) (z5 : Int32) (σ : (Nat → Nat)) (M : Option (Nat → Nat)) (bm : Nat) (bo : (Nat → Nat)) (fa : Int64) (fb : Int64), K55 z4 z5 σ M bm bo fa fb = some (nI 1) → ∀ (H : Heap) (locs : List Loc) (ls : Array Slot) (i : Nat → Int32) (j : Nat → Int64) (f : Nat → Nat → Int32) (g : Nat → Nat → Int64) (C S : Nat), REL5 σ M bm bo fa fb i j f g → va_P D mp_cl ([(ah, mp_aI T 62 vh)] ++ aW T a i j f g) H → va_D (law_A s) ([(ah, mp_aI T 62 vh)] ++ aW T a i j f g) → va_S (law_A s) s.heap H locs → C ≤ cb → S ≤ sb → lv_has ls 29 [(0, .ref b), (1, .ref (a 0)), (3, .ref ah), (4, .int z4), (5, .int z5)] → W p l e room_1 s m #[.ref b] below meth c H locs C S (lw_Z below #[.ref b] s) (F0 m 55 ls [])) :
    ∀  (z4 : Int32) (z5 : Int32) (z6 : Int32) (z8 : Int32) (z9 : Int32) (z10 : Int32) (z13 : Int32) (z14 : Int32) (z16 : Int32) (σ : (Nat → Nat)) (M : Option (Nat → Nat)) (bm : Nat) (bo : (Nat → Nat)) (fa : Int64) (fb : Int64), f_L_law_720 fu n1 xs vh K55 z4 z5 z6 z8 z9 z10 z13 z14 z16 σ M bm bo fa fb = some (nI 1) → ∀ (H : Heap) (locs : List Loc) (ls : Array Slot) (i : Nat → Int32) (j : Nat → Int64) (f : Nat → Nat → Int32) (g : Nat → Nat → Int64) (C S : Nat), REL5 σ M bm bo fa fb i j f g → va_P D mp_cl ([(ah, mp_aI T 62 vh)] ++ aW T a i j f g) H → va_D (law_A s) ([(ah, mp_aI T 62 vh)] ++ aW T a i j f g) → va_S (law_A s) s.heap H locs → C + 1 ≤ cb → S + 5 ≤ sb → lv_has ls 29 [(0, .ref b), (1, .ref (a 0)), (3, .ref ah), (4, .int z4), (5, .int z5), (6, .int z6), (8, .int z8), (9, .int z9), (10, .int z10), (13, .int z13), (14, .int z14), (16, .int z16)] → W p l e room_1 s m #[.ref b] below meth c H locs C S (lw_Z below #[.ref b] s) (F0 m 720 ls []) := by
  have hx := X.1
  have hb := X.2.1
  have hml := X.2.2.1
  have hown := X.2.2.2.2.1
  have hts := X.2.2.2.2.2.1
  have hbA : ¬ law_A s b := Nat.not_le.mpr hbl
  have hA : ∀ q, s.heap.size ≤ q → law_A s q := fun q h => h
  intro z4 z5 z6 z8 z9 z10 z13 z14 z16 σ M bm bo fa fb hf H locs ls i j f g C S hRel hP hD hS hC hC2 hl
  replace hf : (if z14 < 0 then f_L_law_751 fu n1 xs vh (K55) z4 z5 z6 z8 z9 z10 z16 σ M bm bo fa fb else (if z16 = 0 then (if z13 < 0 then f_L_law_751 fu n1 xs vh (K55) z4 z5 z6 z8 z9 z10 z16 σ M bm bo fa fb else (if (nI 99) < z13 then f_L_law_751 fu n1 xs vh (K55) z4 z5 z6 z8 z9 z10 z16 σ M bm bo fa fb else (if z14 ≤ z13 then f_L_law_751 fu n1 xs vh (K55) z4 z5 z6 z8 z9 z10 z16 σ M bm bo fa fb else some (nI 0)))) else f_L_law_751 fu n1 xs vh (K55) z4 z5 z6 z8 z9 z10 z16 σ M bm bo fa fb)) = some (nI 1) := hf
  have hCS : C + 0 ≤ room_1.cells ∧ S + 0 ≤ room_1.slots := ⟨(show C + 0 ≤ 600000 by omega), (show S + 0 ≤ 7302250 by omega)⟩
  refine lv_iload hx hb dL_law_720 (lv_at hl 10 rfl) ?_
  refine lv_if_lt (tgt := 751) hx hb dL_law_722 (by decide) (fun h1 => ?_) (fun h1 => ?_)
  · replace hf := if_t hf h1
    exact w_L_law_751 X hK hbl fu n1 xs vh hX cb sb hcb (K55) (hK55) z4 z5 z6 z8 z9 z10 z16 σ M bm bo fa fb hf _ _ _ _ _ _ _ _ _ hRel hP hD hS (by omega) (by omega) (lv_sub hl [0, 1, 2, 3, 4, 5, 6, 7, 8, 11] rfl)
  · replace hf := if_f hf h1
    refine lv_iload hx hb dL_law_725 (lv_at hl 11 rfl) ?_
    refine lv_if_ne (tgt := 751) hx hb dL_law_727 (by decide) (fun h2 => ?_) (fun h2 => ?_)
    · replace hf := if_f hf h2
      exact w_L_law_751 X hK hbl fu n1 xs vh hX cb sb hcb (K55) (hK55) z4 z5 z6 z8 z9 z10 z16 σ M bm bo fa fb hf _ _ _ _ _ _ _ _ _ hRel hP hD hS (by omega) (by omega) (lv_sub hl [0, 1, 2, 3, 4, 5, 6, 7, 8, 11] rfl)
    · replace hf := if_t hf h2
      refine lv_iload hx hb dL_law_730 (lv_at hl 9 rfl) ?_
      refine lv_if_lt (tgt := 751) hx hb dL_law_732 (by decide) (fun h3 => ?_) (fun h3 => ?_)
      · replace hf := if_t hf h3
        exact w_L_law_751 X hK hbl fu n1 xs vh hX cb sb hcb (K55) (hK55) z4 z5 z6 z8 z9 z10 z16 σ M bm bo fa fb hf _ _ _ _ _ _ _ _ _ hRel hP hD hS (by omega) (by omega) (lv_sub hl [0, 1, 2, 3, 4, 5, 6, 7, 8, 11] rfl)
      · replace hf := if_f hf h3
        refine lv_iload hx hb dL_law_735 (lv_at hl 9 rfl) ?_
        refine lv_bipush (v := (nI 99)) hx hb dL_law_737 (by decide) ?_
        refine lv_icmp_gt (tgt := 751) hx hb dL_law_739 (by decide) (fun h4 => ?_) (fun h4 => ?_)
        · replace hf := if_t hf h4
          exact w_L_law_751 X hK hbl fu n1 xs vh hX cb sb hcb (K55) (hK55) z4 z5 z6 z8 z9 z10 z16 σ M bm bo fa fb hf _ _ _ _ _ _ _ _ _ hRel hP hD hS (by omega) (by omega) (lv_sub hl [0, 1, 2, 3, 4, 5, 6, 7, 8, 11] rfl)
        · replace hf := if_f hf h4
          refine lv_iload hx hb dL_law_742 (lv_at hl 10 rfl) ?_
          refine lv_iload hx hb dL_law_744 (lv_at hl 9 rfl) ?_
          refine lv_icmp_le (tgt := 751) hx hb dL_law_746 (by decide) (fun h5 => ?_) (fun h5 => ?_)
          · replace hf := if_t hf h5
            exact w_L_law_751 X hK hbl fu n1 xs vh hX cb sb hcb (K55) (hK55) z4 z5 z6 z8 z9 z10 z16 σ M bm bo fa fb hf _ _ _ _ _ _ _ _ _ hRel hP hD hS (by omega) (by omega) (lv_sub hl [0, 1, 2, 3, 4, 5, 6, 7, 8, 11] rfl)
          · replace hf := if_f hf h5
            refine lv_iconst (v := (nI 0)) hx hb dL_law_749 (by decide) ?_
            exact absurd (Option.some.inj hf) (by decide)

set_option maxHeartbeats 4000000 in
set_option maxRecDepth 100000 in
theorem w_L_law_646 {p : Program} {l : Launch} {e : Env} {s : State} {m : MethodId} {below : List Frame} {meth : Method} {c : Code} {D : va_G} {T : Nat → ClassId} {nm : String} {b ah : Nat} {a : Nat → Nat} (X : mp_X p s m meth c #[.ref b] RL nm cL_law 29 (some .boolean)) (hK : va_K D mp_cl (mp_ty T) s) (hbl : b < s.heap.size) (fu : Nat) (n1 : Nat) (xs : Nat → Int32) (vh : Nat → Int32) (hX : va_X b n1 xs s s.heap) (cb sb : Nat) (hcb : cb ≤ 600000 ∧ sb ≤ 7302250) (K55 : Int32 → Int32 → (Nat → Nat) → Option (Nat → Nat) → Nat → (Nat → Nat) → Int64 → Int64 → Option (Int32)) (hK55 : ∀ (z4 : Int32) (z5 : Int32) (σ : (Nat → Nat)) (M : Option (Nat → Nat)) (bm : Nat) (bo : (Nat → Nat)) (fa : Int64) (fb : Int64), K55 z4 z5 σ M bm bo fa fb = some (nI 1) → ∀ (H : Heap) (locs : List Loc) (ls : Array Slot) (i : Nat → Int32) (j : Nat → Int64) (f : Nat → Nat → Int32) (g : Nat → Nat → Int64) (C S : Nat), REL5 σ M bm bo fa fb i j f g → va_P D mp_cl ([(ah, mp_aI T 62 vh)] ++ aW T a i j f g) H → va_D (law_A s) ([(ah, mp_aI T 62 vh)] ++ aW T a i j f g) → va_S (law_A s) s.heap H locs → C ≤ cb → S ≤ sb → lv_has ls 29 [(0, .ref b), (1, .ref (a 0)), (3, .ref ah), (4, .int z4), (5, .int z5)] → W p l e room_1 s m #[.ref b] below meth c H locs C S (lw_Z below #[.ref b] s) (F0 m 55 ls [])) :
    ∀ (n : Nat) (z4 : Int32) (z5 : Int32) (z6 : Int32) (z8 : Int32) (z9 : Int32) (z10 : Int32) (z13 : Int32) (z14 : Int32) (z15 : Int32) (z16 : Int32) (z18 : Int32) (σ : (Nat → Nat)) (M : Option (Nat → Nat)) (bm : Nat) (bo : (Nat → Nat)) (fa : Int64) (fb : Int64) (va : (Nat → Int32)), f_L_law_646 fu n1 xs vh K55 n z4 z5 z6 z8 z9 z10 z13 z14 z15 z16 z18 σ M bm bo fa fb va = some (nI 1) → ∀ (H : Heap) (locs : List Loc) (ls : Array Slot) (i : Nat → Int32) (j : Nat → Int64) (f : Nat → Nat → Int32) (g : Nat → Nat → Int64) (C S : Nat) (aq : Nat), REL5 σ M bm bo fa fb i j f g → va_P D mp_cl ([(aq, mp_aI T 6 va), (ah, mp_aI T 62 vh)] ++ aW T a i j f g) H → va_D (law_A s) ([(aq, mp_aI T 6 va), (ah, mp_aI T 62 vh)] ++ aW T a i j f g) → va_S (law_A s) s.heap H locs → C + 1 ≤ cb → S + 5 ≤ sb → lv_has ls 29 [(0, .ref b), (1, .ref (a 0)), (3, .ref ah), (4, .int z4), (5, .int z5), (6, .int z6), (8, .int z8), (9, .int z9), (10, .int z10), (13, .int z13), (14, .int z14), (15, .int z15), (16, .int z16), (17, .ref aq), (18, .int z18)] → W p l e room_1 s m #[.ref b] below meth c H locs C S (lw_Z below #[.ref b] s) (F0 m 646 ls []) := by
  have hx := X.1
  have hb := X.2.1
  have hml := X.2.2.1
  have hown := X.2.2.2.2.1
  have hts := X.2.2.2.2.2.1
  have hbA : ¬ law_A s b := Nat.not_le.mpr hbl
  have hA : ∀ q, s.heap.size ≤ q → law_A s q := fun q h => h
  intro n
  induction n with
  | zero => intro z4 z5 z6 z8 z9 z10 z13 z14 z15 z16 z18 σ M bm bo fa fb va hf; exact absurd hf (by intro h; cases h)
  | succ n ih =>
    intro z4 z5 z6 z8 z9 z10 z13 z14 z15 z16 z18 σ M bm bo fa fb va hf H locs ls i j f g C S aq hRel hP hD hS hC hC2 hl
    replace hf : (if z15 ≤ z18 then bd_ (s_all σ) (fun (r3 : Int32) => (if r3 = z14 then bd_ (s_back M) (fun (z : (Int32) × ((Nat → Nat)) × (Option (Nat → Nat))) => match z with | (r6, u7, u8) => (if r6 = 0 then bd_ (s_all u7) (fun (r11 : Int32) => (if r11 = z13 then f_L_law_720 fu n1 xs vh (K55) z4 z5 z6 z8 z9 z10 z13 z14 z16 u7 u8 bm bo fa fb else some (nI 0))) else some (nI 0))) else some (nI 0))) else bd_ (s_orderAt z18 σ) (fun (r14 : Int32) => gi_ z18 6 ((if r14 = (va (z18).toNatClampNeg) then lt_ (z18 + (nI 1)) (fun (y17 : Int32) => f_L_law_646 fu n1 xs vh K55 n z4 z5 z6 z8 z9 z10 z13 z14 z15 z16 y17 σ M bm bo fa fb va) else bd_ (s_orderAt z18 σ) (fun (r19 : Int32) => gi_ z18 6 (bd_ (s_move r19 (va (z18).toNatClampNeg) σ) (fun (z : (Int32) × ((Nat → Nat))) => match z with | (r22, u23) => (if r22 = 0 then some (nI 0) else lt_ (z18 + (nI 1)) (fun (y25 : Int32) => f_L_law_646 fu n1 xs vh K55 n z4 z5 z6 z8 z9 z10 z13 z14 z15 z16 y25 u23 M bm bo fa fb va))))))))) = some (nI 1) := hf
    have hCS : C + 0 ≤ room_1.cells ∧ S + 0 ≤ room_1.slots := ⟨(show C + 0 ≤ 600000 by omega), (show S + 0 ≤ 7302250 by omega)⟩
    refine lv_iload hx hb dL_law_646 (lv_at hl 14 rfl) ?_
    refine lv_iload hx hb dL_law_648 (lv_at hl 11 rfl) ?_
    refine lv_icmp_ge (tgt := 693) hx hb dL_law_650 (by decide) (fun h1 => ?_) (fun h1 => ?_)
    · replace hf := if_t hf h1
      refine lv_aload_n hx hb dL_law_693 rfl (lv_at hl 1 rfl) ?_
      obtain ⟨r3, c2, hf⟩ := bd_of hf
      refine K_all (Y := [(aq, mp_aI T 6 va), (ah, mp_aI T 62 vh)]) (rest := []) X hK hRel c2 hP hD hS hl.1 (Nat.le_of_ble_eq_true rfl) dL_law_694 hCS (fun i j f g H locs hRel hP hD hS => ?_)
      refine lv_iload hx hb dL_law_697 (lv_at hl 10 rfl) ?_
      refine lv_icmp_ne (tgt := 718) hx hb dL_law_699 (by decide) (fun h4 => ?_) (fun h4 => ?_)
      · replace hf := if_f hf h4
        refine lv_iconst (v := (nI 0)) hx hb dL_law_718 (by decide) ?_
        exact absurd (Option.some.inj hf) (by decide)
      · replace hf := if_t hf h4
        refine lv_aload_n hx hb dL_law_702 rfl (lv_at hl 1 rfl) ?_
        obtain ⟨⟨r6, u7, u8⟩, c5, hf⟩ := bd_of hf
        dsimp only at hf
        refine K_back (Y := [(aq, mp_aI T 6 va), (ah, mp_aI T 62 vh)]) (rest := []) X hK hRel c5 hP hD hS hl.1 (Nat.le_of_ble_eq_true rfl) dL_law_703 hCS (fun i j f g H locs hRel hP hD hS => ?_)
        refine lv_if_ne (tgt := 718) hx hb dL_law_706 (by decide) (fun h9 => ?_) (fun h9 => ?_)
        · replace hf := if_f hf h9
          refine lv_iconst (v := (nI 0)) hx hb dL_law_718 (by decide) ?_
          exact absurd (Option.some.inj hf) (by decide)
        · replace hf := if_t hf h9
          refine lv_aload_n hx hb dL_law_709 rfl (lv_at hl 1 rfl) ?_
          obtain ⟨r11, c10, hf⟩ := bd_of hf
          refine K_all (Y := [(aq, mp_aI T 6 va), (ah, mp_aI T 62 vh)]) (rest := []) X hK hRel c10 hP hD hS hl.1 (Nat.le_of_ble_eq_true rfl) dL_law_710 hCS (fun i j f g H locs hRel hP hD hS => ?_)
          refine lv_iload hx hb dL_law_713 (lv_at hl 9 rfl) ?_
          refine lv_icmp_eq (tgt := 720) hx hb dL_law_715 (by decide) (fun h12 => ?_) (fun h12 => ?_)
          · replace hf := if_t hf h12
            exact w_L_law_720 X hK hbl fu n1 xs vh hX cb sb hcb (K55) (hK55) z4 z5 z6 z8 z9 z10 z13 z14 z16 u7 u8 bm bo fa fb hf _ _ _ _ _ _ _ _ _ hRel (law_right (Y := [(aq, mp_aI T 6 va)]) (ws := [(ah, mp_aI T 62 vh)] ++ aW T a i j f g) hP) (law_rightD (Y := [(aq, mp_aI T 6 va)]) (ws := [(ah, mp_aI T 62 vh)] ++ aW T a i j f g) hD) hS (by omega) (by omega) (lv_sub hl [0, 1, 2, 3, 4, 5, 6, 7, 8, 9, 10, 12] rfl)
          · replace hf := if_f hf h12
            refine lv_iconst (v := (nI 0)) hx hb dL_law_718 (by decide) ?_
            exact absurd (Option.some.inj hf) (by decide)
    · replace hf := if_f hf h1
      refine lv_aload_n hx hb dL_law_653 rfl (lv_at hl 1 rfl) ?_
      refine lv_iload hx hb dL_law_654 (lv_at hl 14 rfl) ?_
      obtain ⟨r14, c13, hf⟩ := bd_of hf
      refine K_orderAt (Y := [(aq, mp_aI T 6 va), (ah, mp_aI T 62 vh)]) (rest := []) X hK hRel c13 hP hD hS hl.1 (Nat.le_of_ble_eq_true rfl) dL_law_656 hCS (fun i j f g H locs hRel hP hD hS => ?_)
      refine lv_aload hx hb dL_law_659 (lv_at hl 13 rfl) ?_
      refine lv_iload hx hb dL_law_661 (lv_at hl 14 rfl) ?_
      obtain ⟨h15, hf⟩ := gi_of hf
      refine va_iald hx hb hK hP 0 0 rfl rfl h15 dL_law_663 ?_
      refine lv_icmp_eq (tgt := 687) hx hb dL_law_664 (by decide) (fun h16 => ?_) (fun h16 => ?_)
      · replace hf := if_t hf h16
        obtain ⟨y17, e17⟩ : ∃ y : Int32, y = z18 + (nI 1) := ⟨_, rfl⟩
        replace hf := lt_of e17 hf
        refine lv_iinc (v := y17) (lv' := [(18, .int y17), (0, .ref b), (1, .ref (a 0)), (3, .ref ah), (4, .int z4), (5, .int z5), (6, .int z6), (8, .int z8), (9, .int z9), (10, .int z10), (13, .int z13), (14, .int z14), (15, .int z15), (16, .int z16), (17, .ref aq)]) hx hb dL_law_687 hl (k := 14) rfl (by rw [e17]; rfl) (by decide) rfl (fun ls hl => ?_)
        refine lv_goto (tgt := 646) hx hb dL_law_690 (by decide) ?_
        exact ih z4 z5 z6 z8 z9 z10 z13 z14 z15 z16 y17 σ M bm bo fa fb va hf _ _ _ _ _ _ _ _ _ _ hRel hP hD hS (by omega) (by omega) (lv_sub hl [1, 2, 3, 4, 5, 6, 7, 8, 9, 10, 11, 12, 13, 14, 0] rfl)
      · replace hf := if_f hf h16
        refine lv_aload_n hx hb dL_law_667 rfl (lv_at hl 1 rfl) ?_
        refine lv_aload_n hx hb dL_law_668 rfl (lv_at hl 1 rfl) ?_
        refine lv_iload hx hb dL_law_669 (lv_at hl 14 rfl) ?_
        obtain ⟨r19, c18, hf⟩ := bd_of hf
        refine K_orderAt (Y := [(aq, mp_aI T 6 va), (ah, mp_aI T 62 vh)]) (rest := [.ref (a 0)]) X hK hRel c18 hP hD hS hl.1 (Nat.le_of_ble_eq_true rfl) dL_law_671 hCS (fun i j f g H locs hRel hP hD hS => ?_)
        refine lv_aload hx hb dL_law_674 (lv_at hl 13 rfl) ?_
        refine lv_iload hx hb dL_law_676 (lv_at hl 14 rfl) ?_
        obtain ⟨h20, hf⟩ := gi_of hf
        refine va_iald hx hb hK hP 0 0 rfl rfl h20 dL_law_678 ?_
        obtain ⟨⟨r22, u23⟩, c21, hf⟩ := bd_of hf
        dsimp only at hf
        refine K_move (Y := [(aq, mp_aI T 6 va), (ah, mp_aI T 62 vh)]) (rest := []) X hK hRel c21 hP hD hS hl.1 (Nat.le_of_ble_eq_true rfl) dL_law_679 hCS (fun i j f g H locs hRel hP hD hS => ?_)
        refine lv_if_ne (tgt := 687) hx hb dL_law_682 (by decide) (fun h24 => ?_) (fun h24 => ?_)
        · replace hf := if_f hf h24
          obtain ⟨y25, e25⟩ : ∃ y : Int32, y = z18 + (nI 1) := ⟨_, rfl⟩
          replace hf := lt_of e25 hf
          refine lv_iinc (v := y25) (lv' := [(18, .int y25), (0, .ref b), (1, .ref (a 0)), (3, .ref ah), (4, .int z4), (5, .int z5), (6, .int z6), (8, .int z8), (9, .int z9), (10, .int z10), (13, .int z13), (14, .int z14), (15, .int z15), (16, .int z16), (17, .ref aq)]) hx hb dL_law_687 hl (k := 14) rfl (by rw [e25]; rfl) (by decide) rfl (fun ls hl => ?_)
          refine lv_goto (tgt := 646) hx hb dL_law_690 (by decide) ?_
          exact ih z4 z5 z6 z8 z9 z10 z13 z14 z15 z16 y25 u23 M bm bo fa fb va hf _ _ _ _ _ _ _ _ _ _ hRel hP hD hS (by omega) (by omega) (lv_sub hl [1, 2, 3, 4, 5, 6, 7, 8, 9, 10, 11, 12, 13, 14, 0] rfl)
        · replace hf := if_t hf h24
          refine lv_iconst (v := (nI 0)) hx hb dL_law_685 (by decide) ?_
          exact absurd (Option.some.inj hf) (by decide)

set_option maxHeartbeats 4000000 in
set_option maxRecDepth 100000 in
theorem w_L_law_609 {p : Program} {l : Launch} {e : Env} {s : State} {m : MethodId} {below : List Frame} {meth : Method} {c : Code} {D : va_G} {T : Nat → ClassId} {nm : String} {b ah : Nat} {a : Nat → Nat} (X : mp_X p s m meth c #[.ref b] RL nm cL_law 29 (some .boolean)) (hK : va_K D mp_cl (mp_ty T) s) (hbl : b < s.heap.size) (fu : Nat) (n1 : Nat) (xs : Nat → Int32) (vh : Nat → Int32) (hX : va_X b n1 xs s s.heap) (cb sb : Nat) (hcb : cb ≤ 600000 ∧ sb ≤ 7302250) (K55 : Int32 → Int32 → (Nat → Nat) → Option (Nat → Nat) → Nat → (Nat → Nat) → Int64 → Int64 → Option (Int32)) (hK55 : ∀ (z4 : Int32) (z5 : Int32) (σ : (Nat → Nat)) (M : Option (Nat → Nat)) (bm : Nat) (bo : (Nat → Nat)) (fa : Int64) (fb : Int64), K55 z4 z5 σ M bm bo fa fb = some (nI 1) → ∀ (H : Heap) (locs : List Loc) (ls : Array Slot) (i : Nat → Int32) (j : Nat → Int64) (f : Nat → Nat → Int32) (g : Nat → Nat → Int64) (C S : Nat), REL5 σ M bm bo fa fb i j f g → va_P D mp_cl ([(ah, mp_aI T 62 vh)] ++ aW T a i j f g) H → va_D (law_A s) ([(ah, mp_aI T 62 vh)] ++ aW T a i j f g) → va_S (law_A s) s.heap H locs → C ≤ cb → S ≤ sb → lv_has ls 29 [(0, .ref b), (1, .ref (a 0)), (3, .ref ah), (4, .int z4), (5, .int z5)] → W p l e room_1 s m #[.ref b] below meth c H locs C S (lw_Z below #[.ref b] s) (F0 m 55 ls [])) :
    ∀ (n : Nat) (z4 : Int32) (z5 : Int32) (z6 : Int32) (z8 : Int32) (z9 : Int32) (z10 : Int32) (z13 : Int32) (z14 : Int32) (z15 : Int32) (z16 : Int32) (z18 : Int32) (σ : (Nat → Nat)) (M : Option (Nat → Nat)) (bm : Nat) (bo : (Nat → Nat)) (fa : Int64) (fb : Int64) (va : (Nat → Int32)), f_L_law_609 fu n1 xs vh K55 n z4 z5 z6 z8 z9 z10 z13 z14 z15 z16 z18 σ M bm bo fa fb va = some (nI 1) → ∀ (H : Heap) (locs : List Loc) (ls : Array Slot) (i : Nat → Int32) (j : Nat → Int64) (f : Nat → Nat → Int32) (g : Nat → Nat → Int64) (C S : Nat) (aq : Nat), REL5 σ M bm bo fa fb i j f g → va_P D mp_cl ([(aq, mp_aI T 6 va), (ah, mp_aI T 62 vh)] ++ aW T a i j f g) H → va_D (law_A s) ([(aq, mp_aI T 6 va), (ah, mp_aI T 62 vh)] ++ aW T a i j f g) → va_S (law_A s) s.heap H locs → C + 1 ≤ cb → S + 5 ≤ sb → lv_has ls 29 [(0, .ref b), (1, .ref (a 0)), (3, .ref ah), (4, .int z4), (5, .int z5), (6, .int z6), (8, .int z8), (9, .int z9), (10, .int z10), (13, .int z13), (14, .int z14), (15, .int z15), (16, .int z16), (17, .ref aq), (18, .int z18)] → W p l e room_1 s m #[.ref b] below meth c H locs C S (lw_Z below #[.ref b] s) (F0 m 609 ls []) := by
  have hx := X.1
  have hb := X.2.1
  have hml := X.2.2.1
  have hown := X.2.2.2.2.1
  have hts := X.2.2.2.2.2.1
  have hbA : ¬ law_A s b := Nat.not_le.mpr hbl
  have hA : ∀ q, s.heap.size ≤ q → law_A s q := fun q h => h
  intro n
  induction n with
  | zero => intro z4 z5 z6 z8 z9 z10 z13 z14 z15 z16 z18 σ M bm bo fa fb va hf; exact absurd hf (by intro h; cases h)
  | succ n ih =>
    intro z4 z5 z6 z8 z9 z10 z13 z14 z15 z16 z18 σ M bm bo fa fb va hf H locs ls i j f g C S aq hRel hP hD hS hC hC2 hl
    replace hf : (if z15 ≤ z18 then bd_ (s_mark σ M) (fun (z : (Int32) × (Option (Nat → Nat))) => match z with | (r3, u4) => (if r3 = (nI 1) then f_L_law_646 fu n1 xs vh (K55) fu z4 z5 z6 z8 z9 z10 z13 z14 z15 z16 (nI 0) σ u4 bm bo fa fb va else some (nI 0))) else bd_ (s_bestAt z18 bm bo) (fun (r7 : Int32) => gi_ z18 6 (lt_ (upd va (z18).toNatClampNeg r7) (fun (u9 : Nat → Int32) => lt_ (z18 + (nI 1)) (fun (y10 : Int32) => f_L_law_609 fu n1 xs vh K55 n z4 z5 z6 z8 z9 z10 z13 z14 z15 z16 y10 σ M bm bo fa fb u9))))) = some (nI 1) := hf
    have hCS : C + 0 ≤ room_1.cells ∧ S + 0 ≤ room_1.slots := ⟨(show C + 0 ≤ 600000 by omega), (show S + 0 ≤ 7302250 by omega)⟩
    refine lv_iload hx hb dL_law_609 (lv_at hl 14 rfl) ?_
    refine lv_iload hx hb dL_law_611 (lv_at hl 11 rfl) ?_
    refine lv_icmp_ge (tgt := 633) hx hb dL_law_613 (by decide) (fun h1 => ?_) (fun h1 => ?_)
    · replace hf := if_t hf h1
      refine lv_aload_n hx hb dL_law_633 rfl (lv_at hl 1 rfl) ?_
      obtain ⟨⟨r3, u4⟩, c2, hf⟩ := bd_of hf
      dsimp only at hf
      refine K_mark (Y := [(aq, mp_aI T 6 va), (ah, mp_aI T 62 vh)]) (rest := []) X hK hRel c2 hP hD hS hl.1 (Nat.le_of_ble_eq_true rfl) dL_law_634 hCS (fun i j f g H locs hRel hP hD hS => ?_)
      refine lv_iconst (v := (nI 1)) hx hb dL_law_637 (by decide) ?_
      refine lv_icmp_eq (tgt := 643) hx hb dL_law_638 (by decide) (fun h5 => ?_) (fun h5 => ?_)
      · replace hf := if_t hf h5
        refine lv_iconst (v := (nI 0)) hx hb dL_law_643 (by decide) ?_
        refine lv_istore (lv' := [(18, .int (nI 0)), (0, .ref b), (1, .ref (a 0)), (3, .ref ah), (4, .int z4), (5, .int z5), (6, .int z6), (8, .int z8), (9, .int z9), (10, .int z10), (13, .int z13), (14, .int z14), (15, .int z15), (16, .int z16), (17, .ref aq)]) hx hb dL_law_644 hl (by decide) rfl (fun ls hl => ?_)
        exact w_L_law_646 X hK hbl fu n1 xs vh hX cb sb hcb (K55) (hK55) fu z4 z5 z6 z8 z9 z10 z13 z14 z15 z16 (nI 0) σ u4 bm bo fa fb va hf _ _ _ _ _ _ _ _ _ _ hRel hP hD hS (by omega) (by omega) (lv_sub hl [1, 2, 3, 4, 5, 6, 7, 8, 9, 10, 11, 12, 13, 14, 0] rfl)
      · replace hf := if_f hf h5
        refine lv_iconst (v := (nI 0)) hx hb dL_law_641 (by decide) ?_
        exact absurd (Option.some.inj hf) (by decide)
    · replace hf := if_f hf h1
      refine lv_aload hx hb dL_law_616 (lv_at hl 13 rfl) ?_
      refine lv_iload hx hb dL_law_618 (lv_at hl 14 rfl) ?_
      refine lv_aload_n hx hb dL_law_620 rfl (lv_at hl 1 rfl) ?_
      refine lv_iload hx hb dL_law_621 (lv_at hl 14 rfl) ?_
      obtain ⟨r7, c6, hf⟩ := bd_of hf
      refine K_bestAt (Y := [(aq, mp_aI T 6 va), (ah, mp_aI T 62 vh)]) (rest := [.int z18, .ref aq]) X hK hRel c6 hP hD hS hl.1 (Nat.le_of_ble_eq_true rfl) dL_law_623 hCS (fun i j f g H locs hRel hP hD hS => ?_)
      obtain ⟨h8, hf⟩ := gi_of hf
      refine va_iast hx hb hK hP hD hS 0 0 rfl rfl h8 dL_law_626 (fun H locs hP hD hS => ?_)
      replace hP : va_P D mp_cl ([(aq, mp_aI T 6 (upd va (z18).toNatClampNeg r7)), (ah, mp_aI T 62 vh)] ++ aW T a i j f g) H := hP
      replace hD : va_D (law_A s) ([(aq, mp_aI T 6 (upd va (z18).toNatClampNeg r7)), (ah, mp_aI T 62 vh)] ++ aW T a i j f g) := hD
      obtain ⟨u9, q9⟩ : ∃ y : Nat → Int32, y = upd va (z18).toNatClampNeg r7 := ⟨_, rfl⟩
      replace hf := lt_of q9 hf
      rw [← q9] at hP hD
      obtain ⟨y10, e10⟩ : ∃ y : Int32, y = z18 + (nI 1) := ⟨_, rfl⟩
      replace hf := lt_of e10 hf
      refine lv_iinc (v := y10) (lv' := [(18, .int y10), (0, .ref b), (1, .ref (a 0)), (3, .ref ah), (4, .int z4), (5, .int z5), (6, .int z6), (8, .int z8), (9, .int z9), (10, .int z10), (13, .int z13), (14, .int z14), (15, .int z15), (16, .int z16), (17, .ref aq)]) hx hb dL_law_627 hl (k := 14) rfl (by rw [e10]; rfl) (by decide) rfl (fun ls hl => ?_)
      refine lv_goto (tgt := 609) hx hb dL_law_630 (by decide) ?_
      exact ih z4 z5 z6 z8 z9 z10 z13 z14 z15 z16 y10 σ M bm bo fa fb u9 hf _ _ _ _ _ _ _ _ _ _ hRel hP hD hS (by omega) (by omega) (lv_sub hl [1, 2, 3, 4, 5, 6, 7, 8, 9, 10, 11, 12, 13, 14, 0] rfl)

set_option maxHeartbeats 4000000 in
set_option maxRecDepth 100000 in
theorem w_L_law_563 {p : Program} {l : Launch} {e : Env} {s : State} {m : MethodId} {below : List Frame} {meth : Method} {c : Code} {D : va_G} {T : Nat → ClassId} {nm : String} {b ah : Nat} {a : Nat → Nat} (X : mp_X p s m meth c #[.ref b] RL nm cL_law 29 (some .boolean)) (hK : va_K D mp_cl (mp_ty T) s) (hbl : b < s.heap.size) (fu : Nat) (n1 : Nat) (xs : Nat → Int32) (vh : Nat → Int32) (hX : va_X b n1 xs s s.heap) (cb sb : Nat) (hcb : cb ≤ 600000 ∧ sb ≤ 7302250) (K55 : Int32 → Int32 → (Nat → Nat) → Option (Nat → Nat) → Nat → (Nat → Nat) → Int64 → Int64 → Option (Int32)) (hK55 : ∀ (z4 : Int32) (z5 : Int32) (σ : (Nat → Nat)) (M : Option (Nat → Nat)) (bm : Nat) (bo : (Nat → Nat)) (fa : Int64) (fb : Int64), K55 z4 z5 σ M bm bo fa fb = some (nI 1) → ∀ (H : Heap) (locs : List Loc) (ls : Array Slot) (i : Nat → Int32) (j : Nat → Int64) (f : Nat → Nat → Int32) (g : Nat → Nat → Int64) (C S : Nat), REL5 σ M bm bo fa fb i j f g → va_P D mp_cl ([(ah, mp_aI T 62 vh)] ++ aW T a i j f g) H → va_D (law_A s) ([(ah, mp_aI T 62 vh)] ++ aW T a i j f g) → va_S (law_A s) s.heap H locs → C ≤ cb → S ≤ sb → lv_has ls 29 [(0, .ref b), (1, .ref (a 0)), (3, .ref ah), (4, .int z4), (5, .int z5)] → W p l e room_1 s m #[.ref b] below meth c H locs C S (lw_Z below #[.ref b] s) (F0 m 55 ls [])) :
    ∀  (z4 : Int32) (z5 : Int32) (z6 : Int32) (z8 : Int32) (z9 : Int32) (z10 : Int32) (z13 : Int32) (σ : (Nat → Nat)) (M : Option (Nat → Nat)) (bm : Nat) (bo : (Nat → Nat)) (fa : Int64) (fb : Int64), f_L_law_563 fu n1 xs vh K55 z4 z5 z6 z8 z9 z10 z13 σ M bm bo fa fb = some (nI 1) → ∀ (H : Heap) (locs : List Loc) (ls : Array Slot) (i : Nat → Int32) (j : Nat → Int64) (f : Nat → Nat → Int32) (g : Nat → Nat → Int64) (C S : Nat), REL5 σ M bm bo fa fb i j f g → va_P D mp_cl ([(ah, mp_aI T 62 vh)] ++ aW T a i j f g) H → va_D (law_A s) ([(ah, mp_aI T 62 vh)] ++ aW T a i j f g) → va_S (law_A s) s.heap H locs → C + 2 ≤ cb → S + 11 ≤ sb → lv_has ls 29 [(0, .ref b), (1, .ref (a 0)), (3, .ref ah), (4, .int z4), (5, .int z5), (6, .int z6), (8, .int z8), (9, .int z9), (10, .int z10), (13, .int z13)] → W p l e room_1 s m #[.ref b] below meth c H locs C S (lw_Z below #[.ref b] s) (F0 m 563 ls []) := by
  have hx := X.1
  have hb := X.2.1
  have hml := X.2.2.1
  have hown := X.2.2.2.2.1
  have hts := X.2.2.2.2.2.1
  have hbA : ¬ law_A s b := Nat.not_le.mpr hbl
  have hA : ∀ q, s.heap.size ≤ q → law_A s q := fun q h => h
  intro z4 z5 z6 z8 z9 z10 z13 σ M bm bo fa fb hf H locs ls i j f g C S hRel hP hD hS hC hC2 hl
  replace hf : bd_ (s_bestOrder σ bm bo) (fun (z : (Int32) × (Nat) × ((Nat → Nat))) => match z with | (r2, u3, u4) => bd_ (s_many (nI 3) σ) (fun (r6 : Int32) => bd_ (s_many (nI 4) σ) (fun (r8 : Int32) => (if r2 ≤ 0 then f_L_law_720 fu n1 xs vh (K55) z4 z5 z6 z8 z9 z10 z13 r2 r8 σ M u3 u4 fa fb else (if (nI 60) ≤ r2 then f_L_law_720 fu n1 xs vh (K55) z4 z5 z6 z8 z9 z10 z13 r2 r8 σ M u3 u4 fa fb else (if r8 = 0 then f_L_law_609 fu n1 xs vh (K55) fu z4 z5 z6 z8 z9 z10 z13 r2 r6 r8 (nI 0) σ M u3 u4 fa fb ((fun _ => nI 0)) else f_L_law_720 fu n1 xs vh (K55) z4 z5 z6 z8 z9 z10 z13 r2 r8 σ M u3 u4 fa fb)))))) = some (nI 1) := hf
  have hCS : C + 0 ≤ room_1.cells ∧ S + 0 ≤ room_1.slots := ⟨(show C + 0 ≤ 600000 by omega), (show S + 0 ≤ 7302250 by omega)⟩
  refine lv_aload_n hx hb dL_law_563 rfl (lv_at hl 1 rfl) ?_
  obtain ⟨⟨r2, u3, u4⟩, c1, hf⟩ := bd_of hf
  dsimp only at hf
  refine K_bestOrder (Y := [(ah, mp_aI T 62 vh)]) (rest := []) X hK hRel c1 hP hD hS hl.1 (Nat.le_of_ble_eq_true rfl) dL_law_564 hCS (fun i j f g H locs hRel hP hD hS => ?_)
  refine lv_istore (lv' := [(14, .int r2), (0, .ref b), (1, .ref (a 0)), (3, .ref ah), (4, .int z4), (5, .int z5), (6, .int z6), (8, .int z8), (9, .int z9), (10, .int z10), (13, .int z13)]) hx hb dL_law_567 hl (by decide) rfl (fun ls hl => ?_)
  refine lv_aload_n hx hb dL_law_569 rfl (lv_at hl 2 rfl) ?_
  refine lv_iconst (v := (nI 3)) hx hb dL_law_570 (by decide) ?_
  obtain ⟨r6, c5, hf⟩ := bd_of hf
  refine K_many (Y := [(ah, mp_aI T 62 vh)]) (rest := []) X hK hRel c5 hP hD hS hl.1 (Nat.le_of_ble_eq_true rfl) dL_law_571 hCS (fun i j f g H locs hRel hP hD hS => ?_)
  refine lv_istore (lv' := [(15, .int r6), (14, .int r2), (0, .ref b), (1, .ref (a 0)), (3, .ref ah), (4, .int z4), (5, .int z5), (6, .int z6), (8, .int z8), (9, .int z9), (10, .int z10), (13, .int z13)]) hx hb dL_law_574 hl (by decide) rfl (fun ls hl => ?_)
  refine lv_aload_n hx hb dL_law_576 rfl (lv_at hl 3 rfl) ?_
  refine lv_iconst (v := (nI 4)) hx hb dL_law_577 (by decide) ?_
  obtain ⟨r8, c7, hf⟩ := bd_of hf
  refine K_many (Y := [(ah, mp_aI T 62 vh)]) (rest := []) X hK hRel c7 hP hD hS hl.1 (Nat.le_of_ble_eq_true rfl) dL_law_578 hCS (fun i j f g H locs hRel hP hD hS => ?_)
  refine lv_istore (lv' := [(16, .int r8), (15, .int r6), (14, .int r2), (0, .ref b), (1, .ref (a 0)), (3, .ref ah), (4, .int z4), (5, .int z5), (6, .int z6), (8, .int z8), (9, .int z9), (10, .int z10), (13, .int z13)]) hx hb dL_law_581 hl (by decide) rfl (fun ls hl => ?_)
  refine lv_iload hx hb dL_law_583 (lv_at hl 2 rfl) ?_
  refine lv_if_le (tgt := 720) hx hb dL_law_585 (by decide) (fun h9 => ?_) (fun h9 => ?_)
  · replace hf := if_t hf h9
    exact w_L_law_720 X hK hbl fu n1 xs vh hX cb sb hcb (K55) (hK55) z4 z5 z6 z8 z9 z10 z13 r2 r8 σ M u3 u4 fa fb hf _ _ _ _ _ _ _ _ _ hRel hP hD hS (by omega) (by omega) (lv_sub hl [3, 4, 5, 6, 7, 8, 9, 10, 11, 12, 2, 0] rfl)
  · replace hf := if_f hf h9
    refine lv_iload hx hb dL_law_588 (lv_at hl 2 rfl) ?_
    refine lv_bipush (v := (nI 60)) hx hb dL_law_590 (by decide) ?_
    refine lv_icmp_ge (tgt := 720) hx hb dL_law_592 (by decide) (fun h10 => ?_) (fun h10 => ?_)
    · replace hf := if_t hf h10
      exact w_L_law_720 X hK hbl fu n1 xs vh hX cb sb hcb (K55) (hK55) z4 z5 z6 z8 z9 z10 z13 r2 r8 σ M u3 u4 fa fb hf _ _ _ _ _ _ _ _ _ hRel hP hD hS (by omega) (by omega) (lv_sub hl [3, 4, 5, 6, 7, 8, 9, 10, 11, 12, 2, 0] rfl)
    · replace hf := if_f hf h10
      refine lv_iload hx hb dL_law_595 (lv_at hl 0 rfl) ?_
      refine lv_if_ne (tgt := 720) hx hb dL_law_597 (by decide) (fun h11 => ?_) (fun h11 => ?_)
      · replace hf := if_f hf h11
        exact w_L_law_720 X hK hbl fu n1 xs vh hX cb sb hcb (K55) (hK55) z4 z5 z6 z8 z9 z10 z13 r2 r8 σ M u3 u4 fa fb hf _ _ _ _ _ _ _ _ _ hRel hP hD hS (by omega) (by omega) (lv_sub hl [3, 4, 5, 6, 7, 8, 9, 10, 11, 12, 2, 0] rfl)
      · replace hf := if_t hf h11
        refine lv_bipush (v := (nI 6)) hx hb dL_law_600 (by decide) ?_
        refine mp_newI (N := 6) X hK hP hD hS hA (by decide) (by decide) (by decide) (show C + 1 ≤ 600000 by omega) (show S + 6 ≤ 7302250 by omega) dL_law_602 (fun aq H hP hD hS => ?_)
        replace hP : va_P D mp_cl ([(aq, mp_aI T 6 ((fun _ => nI 0))), (ah, mp_aI T 62 vh)] ++ aW T a i j f g) H := law_rot hP
        replace hD : va_D (law_A s) ([(aq, mp_aI T 6 ((fun _ => nI 0))), (ah, mp_aI T 62 vh)] ++ aW T a i j f g) := law_rotD hD
        have hCS : C + 1 + 0 ≤ room_1.cells ∧ S + 6 + 0 ≤ room_1.slots := ⟨(show C + 1 + 0 ≤ 600000 by omega), (show S + 6 + 0 ≤ 7302250 by omega)⟩
        refine lv_astore (lv' := [(17, .ref aq), (16, .int r8), (15, .int r6), (14, .int r2), (0, .ref b), (1, .ref (a 0)), (3, .ref ah), (4, .int z4), (5, .int z5), (6, .int z6), (8, .int z8), (9, .int z9), (10, .int z10), (13, .int z13)]) hx hb dL_law_604 hl (by decide) rfl (fun ls hl => ?_)
        refine lv_iconst (v := (nI 0)) hx hb dL_law_606 (by decide) ?_
        refine lv_istore (lv' := [(18, .int (nI 0)), (17, .ref aq), (16, .int r8), (15, .int r6), (14, .int r2), (0, .ref b), (1, .ref (a 0)), (3, .ref ah), (4, .int z4), (5, .int z5), (6, .int z6), (8, .int z8), (9, .int z9), (10, .int z10), (13, .int z13)]) hx hb dL_law_607 hl (by decide) rfl (fun ls hl => ?_)
        exact w_L_law_609 X hK hbl fu n1 xs vh hX cb sb hcb (K55) (hK55) fu z4 z5 z6 z8 z9 z10 z13 r2 r6 r8 (nI 0) σ M u3 u4 fa fb ((fun _ => nI 0)) hf _ _ _ _ _ _ _ _ _ _ hRel hP hD hS (by omega) (by omega) (lv_sub hl [5, 6, 7, 8, 9, 10, 11, 12, 13, 14, 4, 3, 2, 1, 0] rfl)

set_option maxHeartbeats 4000000 in
set_option maxRecDepth 100000 in
theorem w_L_law_508 {p : Program} {l : Launch} {e : Env} {s : State} {m : MethodId} {below : List Frame} {meth : Method} {c : Code} {D : va_G} {T : Nat → ClassId} {nm : String} {b ah : Nat} {a : Nat → Nat} (X : mp_X p s m meth c #[.ref b] RL nm cL_law 29 (some .boolean)) (hK : va_K D mp_cl (mp_ty T) s) (hbl : b < s.heap.size) (fu : Nat) (n1 : Nat) (xs : Nat → Int32) (vh : Nat → Int32) (hX : va_X b n1 xs s s.heap) (cb sb : Nat) (hcb : cb ≤ 600000 ∧ sb ≤ 7302250) (K55 : Int32 → Int32 → (Nat → Nat) → Option (Nat → Nat) → Nat → (Nat → Nat) → Int64 → Int64 → Option (Int32)) (hK55 : ∀ (z4 : Int32) (z5 : Int32) (σ : (Nat → Nat)) (M : Option (Nat → Nat)) (bm : Nat) (bo : (Nat → Nat)) (fa : Int64) (fb : Int64), K55 z4 z5 σ M bm bo fa fb = some (nI 1) → ∀ (H : Heap) (locs : List Loc) (ls : Array Slot) (i : Nat → Int32) (j : Nat → Int64) (f : Nat → Nat → Int32) (g : Nat → Nat → Int64) (C S : Nat), REL5 σ M bm bo fa fb i j f g → va_P D mp_cl ([(ah, mp_aI T 62 vh)] ++ aW T a i j f g) H → va_D (law_A s) ([(ah, mp_aI T 62 vh)] ++ aW T a i j f g) → va_S (law_A s) s.heap H locs → C ≤ cb → S ≤ sb → lv_has ls 29 [(0, .ref b), (1, .ref (a 0)), (3, .ref ah), (4, .int z4), (5, .int z5)] → W p l e room_1 s m #[.ref b] below meth c H locs C S (lw_Z below #[.ref b] s) (F0 m 55 ls [])) :
    ∀  (z4 : Int32) (z5 : Int32) (z6 : Int32) (z8 : Int32) (z9 : Int32) (z10 : Int32) (z11 : Int32) (z13 : Int32) (σ : (Nat → Nat)) (M : Option (Nat → Nat)) (bm : Nat) (bo : (Nat → Nat)) (fa : Int64) (fb : Int64), f_L_law_508 fu n1 xs vh K55 z4 z5 z6 z8 z9 z10 z11 z13 σ M bm bo fa fb = some (nI 1) → ∀ (H : Heap) (locs : List Loc) (ls : Array Slot) (i : Nat → Int32) (j : Nat → Int64) (f : Nat → Nat → Int32) (g : Nat → Nat → Int64) (C S : Nat), REL5 σ M bm bo fa fb i j f g → va_P D mp_cl ([(ah, mp_aI T 62 vh)] ++ aW T a i j f g) H → va_D (law_A s) ([(ah, mp_aI T 62 vh)] ++ aW T a i j f g) → va_S (law_A s) s.heap H locs → C + 2 ≤ cb → S + 11 ≤ sb → lv_has ls 29 [(0, .ref b), (1, .ref (a 0)), (3, .ref ah), (4, .int z4), (5, .int z5), (6, .int z6), (8, .int z8), (9, .int z9), (10, .int z10), (11, .int z11), (13, .int z13)] → W p l e room_1 s m #[.ref b] below meth c H locs C S (lw_Z below #[.ref b] s) (F0 m 508 ls []) := by
  have hx := X.1
  have hb := X.2.1
  have hml := X.2.2.1
  have hown := X.2.2.2.2.1
  have hts := X.2.2.2.2.2.1
  have hbA : ¬ law_A s b := Nat.not_le.mpr hbl
  have hA : ∀ q, s.heap.size ≤ q → law_A s q := fun q h => h
  intro z4 z5 z6 z8 z9 z10 z11 z13 σ M bm bo fa fb hf H locs ls i j f g C S hRel hP hD hS hC hC2 hl
  replace hf : (if z11 ≤ 0 then f_L_law_563 fu n1 xs vh (K55) z4 z5 z6 z8 z9 z10 z13 σ M bm bo fa fb else (if (nI 40) ≤ z11 then f_L_law_563 fu n1 xs vh (K55) z4 z5 z6 z8 z9 z10 z13 σ M bm bo fa fb else bd_ (s_mark σ M) (fun (z : (Int32) × (Option (Nat → Nat))) => match z with | (r4, u5) => (if r4 = (nI 1) then bd_ (s_turn z11 σ) (fun (z : (Int32) × ((Nat → Nat))) => match z with | (r8, u9) => (if r8 < z11 then some (nI 0) else bd_ (s_cell z10 (nI 3) u9) (fun (r12 : Int32) => (if ((r12 >>> (z9 &&& (31 : Int32))) &&& (nI 1)) = 0 then some (nI 0) else bd_ (s_back u5) (fun (z : (Int32) × ((Nat → Nat)) × (Option (Nat → Nat))) => match z with | (r15, u16, u17) => (if r15 = 0 then f_L_law_563 fu n1 xs vh (K55) z4 z5 z6 z8 z9 z10 z13 u16 u17 bm bo fa fb else some (nI 0))))))) else some (nI 0))))) = some (nI 1) := hf
  have hCS : C + 0 ≤ room_1.cells ∧ S + 0 ≤ room_1.slots := ⟨(show C + 0 ≤ 600000 by omega), (show S + 0 ≤ 7302250 by omega)⟩
  refine lv_iload hx hb dL_law_508 (lv_at hl 9 rfl) ?_
  refine lv_if_le (tgt := 563) hx hb dL_law_510 (by decide) (fun h1 => ?_) (fun h1 => ?_)
  · replace hf := if_t hf h1
    exact w_L_law_563 X hK hbl fu n1 xs vh hX cb sb hcb (K55) (hK55) z4 z5 z6 z8 z9 z10 z13 σ M bm bo fa fb hf _ _ _ _ _ _ _ _ _ hRel hP hD hS (by omega) (by omega) (lv_sub hl [0, 1, 2, 3, 4, 5, 6, 7, 8, 10] rfl)
  · replace hf := if_f hf h1
    refine lv_iload hx hb dL_law_513 (lv_at hl 9 rfl) ?_
    refine lv_bipush (v := (nI 40)) hx hb dL_law_515 (by decide) ?_
    refine lv_icmp_ge (tgt := 563) hx hb dL_law_517 (by decide) (fun h2 => ?_) (fun h2 => ?_)
    · replace hf := if_t hf h2
      exact w_L_law_563 X hK hbl fu n1 xs vh hX cb sb hcb (K55) (hK55) z4 z5 z6 z8 z9 z10 z13 σ M bm bo fa fb hf _ _ _ _ _ _ _ _ _ hRel hP hD hS (by omega) (by omega) (lv_sub hl [0, 1, 2, 3, 4, 5, 6, 7, 8, 10] rfl)
    · replace hf := if_f hf h2
      refine lv_aload_n hx hb dL_law_520 rfl (lv_at hl 1 rfl) ?_
      obtain ⟨⟨r4, u5⟩, c3, hf⟩ := bd_of hf
      dsimp only at hf
      refine K_mark (Y := [(ah, mp_aI T 62 vh)]) (rest := []) X hK hRel c3 hP hD hS hl.1 (Nat.le_of_ble_eq_true rfl) dL_law_521 hCS (fun i j f g H locs hRel hP hD hS => ?_)
      refine lv_iconst (v := (nI 1)) hx hb dL_law_524 (by decide) ?_
      refine lv_icmp_ne (tgt := 561) hx hb dL_law_525 (by decide) (fun h6 => ?_) (fun h6 => ?_)
      · replace hf := if_f hf h6
        refine lv_iconst (v := (nI 0)) hx hb dL_law_561 (by decide) ?_
        exact absurd (Option.some.inj hf) (by decide)
      · replace hf := if_t hf h6
        refine lv_aload_n hx hb dL_law_528 rfl (lv_at hl 1 rfl) ?_
        refine lv_iload hx hb dL_law_529 (lv_at hl 9 rfl) ?_
        obtain ⟨⟨r8, u9⟩, c7, hf⟩ := bd_of hf
        dsimp only at hf
        refine K_turn (Y := [(ah, mp_aI T 62 vh)]) (rest := []) X hK hRel c7 hP hD hS hl.1 (Nat.le_of_ble_eq_true rfl) dL_law_531 hCS (fun i j f g H locs hRel hP hD hS => ?_)
        refine lv_iload hx hb dL_law_534 (lv_at hl 9 rfl) ?_
        refine lv_icmp_lt (tgt := 561) hx hb dL_law_536 (by decide) (fun h10 => ?_) (fun h10 => ?_)
        · replace hf := if_t hf h10
          refine lv_iconst (v := (nI 0)) hx hb dL_law_561 (by decide) ?_
          exact absurd (Option.some.inj hf) (by decide)
        · replace hf := if_f hf h10
          refine lv_aload_n hx hb dL_law_539 rfl (lv_at hl 1 rfl) ?_
          refine lv_iload hx hb dL_law_540 (lv_at hl 8 rfl) ?_
          refine lv_iconst (v := (nI 3)) hx hb dL_law_542 (by decide) ?_
          obtain ⟨r12, c11, hf⟩ := bd_of hf
          refine K_cell (Y := [(ah, mp_aI T 62 vh)]) (rest := []) X hK hRel c11 hP hD hS hl.1 (Nat.le_of_ble_eq_true rfl) dL_law_543 hCS (fun i j f g H locs hRel hP hD hS => ?_)
          refine lv_iload hx hb dL_law_546 (lv_at hl 7 rfl) ?_
          refine lv_ishr hx hb dL_law_548 ?_
          refine lv_iconst (v := (nI 1)) hx hb dL_law_549 (by decide) ?_
          refine lv_iand hx hb dL_law_550 ?_
          refine lv_if_eq (tgt := 561) hx hb dL_law_551 (by decide) (fun h13 => ?_) (fun h13 => ?_)
          · replace hf := if_t hf h13
            refine lv_iconst (v := (nI 0)) hx hb dL_law_561 (by decide) ?_
            exact absurd (Option.some.inj hf) (by decide)
          · replace hf := if_f hf h13
            refine lv_aload_n hx hb dL_law_554 rfl (lv_at hl 1 rfl) ?_
            obtain ⟨⟨r15, u16, u17⟩, c14, hf⟩ := bd_of hf
            dsimp only at hf
            refine K_back (Y := [(ah, mp_aI T 62 vh)]) (rest := []) X hK hRel c14 hP hD hS hl.1 (Nat.le_of_ble_eq_true rfl) dL_law_555 hCS (fun i j f g H locs hRel hP hD hS => ?_)
            refine lv_if_eq (tgt := 563) hx hb dL_law_558 (by decide) (fun h18 => ?_) (fun h18 => ?_)
            · replace hf := if_t hf h18
              exact w_L_law_563 X hK hbl fu n1 xs vh hX cb sb hcb (K55) (hK55) z4 z5 z6 z8 z9 z10 z13 u16 u17 bm bo fa fb hf _ _ _ _ _ _ _ _ _ hRel hP hD hS (by omega) (by omega) (lv_sub hl [0, 1, 2, 3, 4, 5, 6, 7, 8, 10] rfl)
            · replace hf := if_f hf h18
              refine lv_iconst (v := (nI 0)) hx hb dL_law_561 (by decide) ?_
              exact absurd (Option.some.inj hf) (by decide)

