def k_X0_probeTill (T : Nat → ClassId) (a_ a_probe a_trial a_best a_probe_order a_probe_knows a_probe_made a_probe_sixteenths a_probe_dots a_probe_used a_probe_stands a_p1 a_p1_cellNames a_p1_secretNames a_p1_pageNames a_p1_speed a_p1_letters a_p1_room a_p1_now a_p1_rounds : Nat) (v_bestMany : Int32) (v_probe_inOrder : Int32) (v_probe_place : Int32) (v_probe_ill : Int32) (v_probe_shut : Int32) (v_probe_turns : Int32) (v_probe_madeInAll : Int32) (v_probe_dots : (Nat → Int32)) (v_probe_knows : (Nat → Int32)) (v_probe_made : (Nat → Int32)) (v_probe_order : (Nat → Int32)) (v_probe_stands : (Nat → Int32)) (v_probe_used : (Nat → Int32)) (v_p1_cells : Int32) (v_p1_secrets : Int32) (v_p1_pages : Int32) (v_p1_blind : Int32) (v_p1_rubs : Int32) (v_p1_letters : (Nat → Int32)) (v_p1_room : (Nat → Int32)) (v_p1_speed : (Nat → Int32)) : va_W := [(a_, oX0 a_probe a_trial a_best v_bestMany), (a_probe, oX7 a_probe_order v_probe_inOrder v_probe_place a_probe_knows a_probe_made a_probe_sixteenths a_probe_dots a_probe_used a_probe_stands v_probe_ill v_probe_shut v_probe_turns v_probe_madeInAll), (a_probe_dots, mp_aI T 36 v_probe_dots), (a_probe_knows, mp_aI T 8 v_probe_knows), (a_probe_made, mp_aI T 8 v_probe_made), (a_probe_order, mp_aI T 8 v_probe_order), (a_probe_stands, mp_aI T 6 v_probe_stands), (a_probe_used, mp_aI T 6 v_probe_used), (a_p1, oX1 v_p1_cells v_p1_secrets v_p1_pages a_p1_cellNames a_p1_secretNames a_p1_pageNames a_p1_speed v_p1_blind v_p1_rubs a_p1_letters a_p1_room a_p1_now a_p1_rounds), (a_p1_letters, mp_aI T 6 v_p1_letters), (a_p1_room, mp_aI T 6 v_p1_room), (a_p1_speed, mp_aI T 8 v_p1_speed)]
set_option maxHeartbeats 4000000 in
set_option maxRecDepth 100000 in
theorem w_X0_probeTill_6 {p : Program} {l : Launch} {e : Env} {s : State} {m : MethodId} {args : Array Value} {below : List Frame} {meth : Method} {c : Code} {D : va_G} {T : Nat → ClassId} {A : Nat → Prop} (X : mp_X p s m meth c args RX0 "probeTill" cX0_probeTill 7 (some .int)) (hK : va_K D mp_cl (mp_ty T) s) (hA : ∀ q, s.heap.size ≤ q → A q) (fu : Nat) (a_ a_probe a_trial a_best a_probe_order a_probe_knows a_probe_made a_probe_sixteenths a_probe_dots a_probe_used a_probe_stands a_p1 a_p1_cellNames a_p1_secretNames a_p1_pageNames a_p1_speed a_p1_letters a_p1_room a_p1_now a_p1_rounds : Nat) (v_bestMany : Int32) (v_p1_cells : Int32) (v_probe_inOrder : Int32) (v_probe_ill : Int32) (v_probe_shut : Int32) (v_probe_order : (Nat → Int32)) (v_p1_secrets : Int32) (v_p1_pages : Int32) (v_p1_blind : Int32) (v_p1_rubs : Int32) (v_p1_letters : (Nat → Int32)) (v_p1_room : (Nat → Int32)) (v_p1_speed : (Nat → Int32)) (r_ : Int32) (o_probe_place : Int32) (o_probe_turns : Int32) (o_probe_madeInAll : Int32) (o_probe_dots : (Nat → Int32)) (o_probe_knows : (Nat → Int32)) (o_probe_made : (Nat → Int32)) (o_probe_stands : (Nat → Int32)) (o_probe_used : (Nat → Int32)) :
    ∀ (n : Nat) (z2 : Int32) (z3 : Int32) (z4 : Int32) (z5 : Int32) (z6 : Int32) (v_probe_place : Int32) (v_probe_turns : Int32) (v_probe_madeInAll : Int32) (v_probe_dots : (Nat → Int32)) (v_probe_knows : (Nat → Int32)) (v_probe_made : (Nat → Int32)) (v_probe_stands : (Nat → Int32)) (v_probe_used : (Nat → Int32)), f_X0_probeTill_6 fu v_probe_inOrder v_probe_ill v_probe_shut v_probe_order v_p1_secrets v_p1_pages v_p1_blind v_p1_rubs v_p1_letters v_p1_room v_p1_speed  n z2 z3 z4 z5 z6 v_probe_place v_probe_turns v_probe_madeInAll v_probe_dots v_probe_knows v_probe_made v_probe_stands v_probe_used = some (r_, o_probe_place, o_probe_turns, o_probe_madeInAll, o_probe_dots, o_probe_knows, o_probe_made, o_probe_stands, o_probe_used) → ∀ (H : Heap) (locs : List Loc) (ls : Array Slot), va_P D mp_cl (k_X0_probeTill T a_ a_probe a_trial a_best a_probe_order a_probe_knows a_probe_made a_probe_sixteenths a_probe_dots a_probe_used a_probe_stands a_p1 a_p1_cellNames a_p1_secretNames a_p1_pageNames a_p1_speed a_p1_letters a_p1_room a_p1_now a_p1_rounds v_bestMany v_probe_inOrder v_probe_place v_probe_ill v_probe_shut v_probe_turns v_probe_madeInAll v_probe_dots v_probe_knows v_probe_made v_probe_order v_probe_stands v_probe_used v_p1_cells v_p1_secrets v_p1_pages v_p1_blind v_p1_rubs v_p1_letters v_p1_room v_p1_speed) H → va_D A (k_X0_probeTill T a_ a_probe a_trial a_best a_probe_order a_probe_knows a_probe_made a_probe_sixteenths a_probe_dots a_probe_used a_probe_stands a_p1 a_p1_cellNames a_p1_secretNames a_p1_pageNames a_p1_speed a_p1_letters a_p1_room a_p1_now a_p1_rounds v_bestMany v_probe_inOrder v_probe_place v_probe_ill v_probe_shut v_probe_turns v_probe_madeInAll v_probe_dots v_probe_knows v_probe_made v_probe_order v_probe_stands v_probe_used v_p1_cells v_p1_secrets v_p1_pages v_p1_blind v_p1_rubs v_p1_letters v_p1_room v_p1_speed) → va_S A s.heap H locs → lv_has ls 7 [(0, .ref a_), (1, .ref a_p1), (2, .int z2), (3, .int z3), (4, .int z4), (5, .int z5), (6, .int z6)] → W p l e ({ frames := 4, cells := 0, slots := 0, locals := 117 }) s m args below meth c H locs 0 0 (MQ below ((mp_Qi D r_ (k_X0_probeTill T a_ a_probe a_trial a_best a_probe_order a_probe_knows a_probe_made a_probe_sixteenths a_probe_dots a_probe_used a_probe_stands a_p1 a_p1_cellNames a_p1_secretNames a_p1_pageNames a_p1_speed a_p1_letters a_p1_room a_p1_now a_p1_rounds v_bestMany v_probe_inOrder o_probe_place v_probe_ill v_probe_shut o_probe_turns o_probe_madeInAll o_probe_dots o_probe_knows o_probe_made v_probe_order o_probe_stands o_probe_used v_p1_cells v_p1_secrets v_p1_pages v_p1_blind v_p1_rubs v_p1_letters v_p1_room v_p1_speed)) A) args s 0 0 A) (F0 m 6 ls []) := by
  have hx := X.1
  have hb := X.2.1
  have hml := X.2.2.1
  have hown := X.2.2.2.2.1
  have hts := X.2.2.2.2.2.1
  intro n
  induction n with
  | zero => intro z2 z3 z4 z5 z6 v_probe_place v_probe_turns v_probe_madeInAll v_probe_dots v_probe_knows v_probe_made v_probe_stands v_probe_used hf; exact absurd hf (by intro h; cases h)
  | succ n ih =>
    intro z2 z3 z4 z5 z6 v_probe_place v_probe_turns v_probe_madeInAll v_probe_dots v_probe_knows v_probe_made v_probe_stands v_probe_used hf H locs ls hP hD hS hl
    replace hf : (if z4 < z6 then some ((-1 : Int32), v_probe_place, v_probe_turns, v_probe_madeInAll, v_probe_dots, v_probe_knows, v_probe_made, v_probe_stands, v_probe_used) else bd_ (f_X7_isReached fu z2 z3 v_probe_knows) (fun (r2 : Int32) => (if r2 = 0 then (if z5 < v_probe_inOrder then bd_ (f_X7_pass fu v_probe_inOrder v_probe_place v_probe_ill v_probe_shut v_probe_turns v_probe_madeInAll v_probe_dots v_probe_knows v_probe_made v_probe_order v_probe_stands v_probe_used v_p1_secrets v_p1_pages v_p1_blind v_p1_rubs v_p1_letters v_p1_room v_p1_speed) (fun (z : Int32 × Int32 × Int32 × Int32 × (Nat → Int32) × (Nat → Int32) × (Nat → Int32) × (Nat → Int32) × (Nat → Int32)) => match z with | (r6, u7, u8, u9, u10, u11, u12, u13, u14) => (if r6 = 0 then lt_ (z5 + (nI 1)) (fun (y17 : Int32) => lt_ (z6 + (nI 1)) (fun (y18 : Int32) => f_X0_probeTill_6 fu v_probe_inOrder v_probe_ill v_probe_shut v_probe_order v_p1_secrets v_p1_pages v_p1_blind v_p1_rubs v_p1_letters v_p1_room v_p1_speed  n z2 z3 z4 y17 y18 u7 u8 u9 u10 u11 u12 u13 u14)) else lt_ (z6 + (nI 1)) (fun (y19 : Int32) => f_X0_probeTill_6 fu v_probe_inOrder v_probe_ill v_probe_shut v_probe_order v_p1_secrets v_p1_pages v_p1_blind v_p1_rubs v_p1_letters v_p1_room v_p1_speed  n z2 z3 z4 (nI 0) y19 u7 u8 u9 u10 u11 u12 u13 u14))) else some ((-1 : Int32), v_probe_place, v_probe_turns, v_probe_madeInAll, v_probe_dots, v_probe_knows, v_probe_made, v_probe_stands, v_probe_used)) else some (z6, v_probe_place, v_probe_turns, v_probe_madeInAll, v_probe_dots, v_probe_knows, v_probe_made, v_probe_stands, v_probe_used)))) = some (r_, o_probe_place, o_probe_turns, o_probe_madeInAll, o_probe_dots, o_probe_knows, o_probe_made, o_probe_stands, o_probe_used) := hf
    refine lv_iload hx hb dX0_probeTill_6 (lv_at hl 6 rfl) ?_
    refine lv_iload hx hb dX0_probeTill_8 (lv_at hl 4 rfl) ?_
    refine lv_icmp_gt (tgt := 69) hx hb dX0_probeTill_10 (by decide) (fun h1 => ?_) (fun h1 => ?_)
    · replace hf := if_t hf h1
      refine lv_iconst (v := (-1 : Int32)) hx hb dX0_probeTill_69 (by decide) ?_
      cases hf
      exact mp_reti X hP hS rfl dX0_probeTill_70
    · replace hf := if_f hf h1
      refine lv_aload_n hx hb dX0_probeTill_13 rfl (lv_at hl 0 rfl) ?_
      refine mp_get X fl_X0_12 hK hP 0 rfl rfl dX0_probeTill_14 ?_
      refine lv_iload_n hx hb dX0_probeTill_17 rfl (lv_at hl 2 rfl) ?_
      refine lv_iload_n hx hb dX0_probeTill_18 rfl (lv_at hl 3 rfl) ?_
      obtain ⟨r2, c3, hf⟩ := bd_of hf
      have hPc := hP.sub (ws' := (k_X7_isReached T a_probe a_probe_order a_probe_knows a_probe_made a_probe_sixteenths a_probe_dots a_probe_used a_probe_stands v_probe_inOrder v_probe_place v_probe_ill v_probe_shut v_probe_turns v_probe_madeInAll v_probe_knows)) [1, 3] rfl
      have hDc := (mp_D_of (w1 := (k_X0_probeTill T a_ a_probe a_trial a_best a_probe_order a_probe_knows a_probe_made a_probe_sixteenths a_probe_dots a_probe_used a_probe_stands a_p1 a_p1_cellNames a_p1_secretNames a_p1_pageNames a_p1_speed a_p1_letters a_p1_room a_p1_now a_p1_rounds v_bestMany v_probe_inOrder v_probe_place v_probe_ill v_probe_shut v_probe_turns v_probe_madeInAll v_probe_dots v_probe_knows v_probe_made v_probe_order v_probe_stands v_probe_used v_p1_cells v_p1_secrets v_p1_pages v_p1_blind v_p1_rubs v_p1_letters v_p1_room v_p1_speed)) hD rfl).sub (ws' := (k_X7_isReached T a_probe a_probe_order a_probe_knows a_probe_made a_probe_sixteenths a_probe_dots a_probe_used a_probe_stands v_probe_inOrder v_probe_place v_probe_ill v_probe_shut v_probe_turns v_probe_madeInAll v_probe_knows)) [1, 3] rfl rfl
      refine mp_calli (isC := [1, 3]) (wc := (k_X7_isReached T a_probe a_probe_order a_probe_knows a_probe_made a_probe_sixteenths a_probe_dots a_probe_used a_probe_stands v_probe_inOrder v_probe_place v_probe_ill v_probe_shut v_probe_turns v_probe_madeInAll v_probe_knows)) (w1 := (k_X7_isReached T a_probe a_probe_order a_probe_knows a_probe_made a_probe_sixteenths a_probe_dots a_probe_used a_probe_stands v_probe_inOrder v_probe_place v_probe_ill v_probe_shut v_probe_turns v_probe_madeInAll v_probe_knows)) hP (mp_D_of hD rfl) hS hA rfl rfl (mp_runV (As := [.int z2, .int z3]) (rest := []) X me_X7_isReached lk_X0_46 (c_X7_isReached l D T fu a_probe a_probe_order a_probe_knows a_probe_made a_probe_sixteenths a_probe_dots a_probe_used a_probe_stands z2 z3 v_probe_inOrder v_probe_place v_probe_ill v_probe_shut v_probe_turns v_probe_madeInAll v_probe_knows r2 c3) rfl rfl ⟨(Nat.le_of_ble_eq_true rfl), (Nat.le_of_ble_eq_true rfl)⟩ hK hPc hDc rfl rfl rfl rfl hl.1 rfl (Nat.le_of_ble_eq_true rfl) dX0_probeTill_19 ⟨Nat.zero_le _, Nat.zero_le _⟩) (fun H locs hP _ hS => ?_)
      replace hP : va_P D mp_cl (k_X0_probeTill T a_ a_probe a_trial a_best a_probe_order a_probe_knows a_probe_made a_probe_sixteenths a_probe_dots a_probe_used a_probe_stands a_p1 a_p1_cellNames a_p1_secretNames a_p1_pageNames a_p1_speed a_p1_letters a_p1_room a_p1_now a_p1_rounds v_bestMany v_probe_inOrder v_probe_place v_probe_ill v_probe_shut v_probe_turns v_probe_madeInAll v_probe_dots v_probe_knows v_probe_made v_probe_order v_probe_stands v_probe_used v_p1_cells v_p1_secrets v_p1_pages v_p1_blind v_p1_rubs v_p1_letters v_p1_room v_p1_speed) H := hP
      refine lv_if_eq (tgt := 28) hx hb dX0_probeTill_22 (by decide) (fun h4 => ?_) (fun h4 => ?_)
      · replace hf := if_t hf h4
        refine lv_iload hx hb dX0_probeTill_28 (lv_at hl 5 rfl) ?_
        refine lv_aload_n hx hb dX0_probeTill_30 rfl (lv_at hl 0 rfl) ?_
        refine mp_get X fl_X0_12 hK hP 0 rfl rfl dX0_probeTill_31 ?_
        refine mp_get X fl_X0_50 hK hP 1 rfl rfl dX0_probeTill_34 ?_
        refine lv_icmp_lt (tgt := 42) hx hb dX0_probeTill_37 (by decide) (fun h5 => ?_) (fun h5 => ?_)
        · replace hf := if_t hf h5
          refine lv_aload_n hx hb dX0_probeTill_42 rfl (lv_at hl 0 rfl) ?_
          refine mp_get X fl_X0_12 hK hP 0 rfl rfl dX0_probeTill_43 ?_
          refine lv_aload_n hx hb dX0_probeTill_46 rfl (lv_at hl 1 rfl) ?_
          obtain ⟨⟨r6, u7, u8, u9, u10, u11, u12, u13, u14⟩, c15, hf⟩ := bd_of hf
          dsimp only at hf
          have hPc := hP.sub (ws' := (k_X7_pass T a_probe a_probe_order a_probe_knows a_probe_made a_probe_sixteenths a_probe_dots a_probe_used a_probe_stands a_p1 a_p1_cellNames a_p1_secretNames a_p1_pageNames a_p1_speed a_p1_letters a_p1_room a_p1_now a_p1_rounds v_probe_inOrder v_probe_place v_probe_ill v_probe_shut v_probe_turns v_probe_madeInAll v_probe_dots v_probe_knows v_probe_made v_probe_order v_probe_stands v_probe_used v_p1_cells v_p1_secrets v_p1_pages v_p1_blind v_p1_rubs v_p1_letters v_p1_room v_p1_speed)) [1, 2, 3, 4, 5, 6, 7, 8, 9, 10, 11] rfl
          have hDc := (mp_D_of (w1 := (k_X0_probeTill T a_ a_probe a_trial a_best a_probe_order a_probe_knows a_probe_made a_probe_sixteenths a_probe_dots a_probe_used a_probe_stands a_p1 a_p1_cellNames a_p1_secretNames a_p1_pageNames a_p1_speed a_p1_letters a_p1_room a_p1_now a_p1_rounds v_bestMany v_probe_inOrder v_probe_place v_probe_ill v_probe_shut v_probe_turns v_probe_madeInAll v_probe_dots v_probe_knows v_probe_made v_probe_order v_probe_stands v_probe_used v_p1_cells v_p1_secrets v_p1_pages v_p1_blind v_p1_rubs v_p1_letters v_p1_room v_p1_speed)) hD rfl).sub (ws' := (k_X7_pass T a_probe a_probe_order a_probe_knows a_probe_made a_probe_sixteenths a_probe_dots a_probe_used a_probe_stands a_p1 a_p1_cellNames a_p1_secretNames a_p1_pageNames a_p1_speed a_p1_letters a_p1_room a_p1_now a_p1_rounds v_probe_inOrder v_probe_place v_probe_ill v_probe_shut v_probe_turns v_probe_madeInAll v_probe_dots v_probe_knows v_probe_made v_probe_order v_probe_stands v_probe_used v_p1_cells v_p1_secrets v_p1_pages v_p1_blind v_p1_rubs v_p1_letters v_p1_room v_p1_speed)) [1, 2, 3, 4, 5, 6, 7, 8, 9, 10, 11] rfl rfl
          refine mp_calli (isC := [1, 2, 3, 4, 5, 6, 7, 8, 9, 10, 11]) (wc := (k_X7_pass T a_probe a_probe_order a_probe_knows a_probe_made a_probe_sixteenths a_probe_dots a_probe_used a_probe_stands a_p1 a_p1_cellNames a_p1_secretNames a_p1_pageNames a_p1_speed a_p1_letters a_p1_room a_p1_now a_p1_rounds v_probe_inOrder v_probe_place v_probe_ill v_probe_shut v_probe_turns v_probe_madeInAll v_probe_dots v_probe_knows v_probe_made v_probe_order v_probe_stands v_probe_used v_p1_cells v_p1_secrets v_p1_pages v_p1_blind v_p1_rubs v_p1_letters v_p1_room v_p1_speed)) (w1 := (k_X7_pass T a_probe a_probe_order a_probe_knows a_probe_made a_probe_sixteenths a_probe_dots a_probe_used a_probe_stands a_p1 a_p1_cellNames a_p1_secretNames a_p1_pageNames a_p1_speed a_p1_letters a_p1_room a_p1_now a_p1_rounds v_probe_inOrder u7 v_probe_ill v_probe_shut u8 u9 u10 u11 u12 v_probe_order u13 u14 v_p1_cells v_p1_secrets v_p1_pages v_p1_blind v_p1_rubs v_p1_letters v_p1_room v_p1_speed)) hP (mp_D_of hD rfl) hS hA rfl rfl (mp_runV (As := [.ref a_p1]) (rest := []) X me_X7_pass lk_X0_53 (c_X7_pass l D T fu a_probe a_probe_order a_probe_knows a_probe_made a_probe_sixteenths a_probe_dots a_probe_used a_probe_stands a_p1 a_p1_cellNames a_p1_secretNames a_p1_pageNames a_p1_speed a_p1_letters a_p1_room a_p1_now a_p1_rounds v_p1_cells v_probe_inOrder v_probe_place v_probe_ill v_probe_shut v_probe_turns v_probe_madeInAll v_probe_dots v_probe_knows v_probe_made v_probe_order v_probe_stands v_probe_used v_p1_secrets v_p1_pages v_p1_blind v_p1_rubs v_p1_letters v_p1_room v_p1_speed r6 u7 u8 u9 u10 u11 u12 u13 u14 c15) rfl rfl ⟨(Nat.le_of_ble_eq_true rfl), (Nat.le_of_ble_eq_true rfl)⟩ hK hPc hDc rfl rfl rfl rfl hl.1 rfl (Nat.le_of_ble_eq_true rfl) dX0_probeTill_47 ⟨Nat.zero_le _, Nat.zero_le _⟩) (fun H locs hP _ hS => ?_)
          replace hP : va_P D mp_cl (k_X0_probeTill T a_ a_probe a_trial a_best a_probe_order a_probe_knows a_probe_made a_probe_sixteenths a_probe_dots a_probe_used a_probe_stands a_p1 a_p1_cellNames a_p1_secretNames a_p1_pageNames a_p1_speed a_p1_letters a_p1_room a_p1_now a_p1_rounds v_bestMany v_probe_inOrder u7 v_probe_ill v_probe_shut u8 u9 u10 u11 u12 v_probe_order u13 u14 v_p1_cells v_p1_secrets v_p1_pages v_p1_blind v_p1_rubs v_p1_letters v_p1_room v_p1_speed) H := hP
          refine lv_if_eq (tgt := 57) hx hb dX0_probeTill_50 (by decide) (fun h16 => ?_) (fun h16 => ?_)
          · replace hf := if_t hf h16
            refine lv_iload hx hb dX0_probeTill_57 (lv_at hl 5 rfl) ?_
            refine lv_iconst (v := (nI 1)) hx hb dX0_probeTill_59 (by decide) ?_
            refine lv_iadd hx hb dX0_probeTill_60 ?_
            refine lv_topi (fun y17 e17 => ?_)
            replace hf := lt_of e17 hf
            refine lv_istore (lv' := [(5, .int y17), (0, .ref a_), (1, .ref a_p1), (2, .int z2), (3, .int z3), (4, .int z4), (6, .int z6)]) hx hb dX0_probeTill_61 hl (by decide) rfl (fun ls hl => ?_)
            obtain ⟨y18, e18⟩ : ∃ y : Int32, y = z6 + (nI 1) := ⟨_, rfl⟩
            replace hf := lt_of e18 hf
            refine lv_iinc (v := y18) (lv' := [(6, .int y18), (5, .int y17), (0, .ref a_), (1, .ref a_p1), (2, .int z2), (3, .int z3), (4, .int z4)]) hx hb dX0_probeTill_63 hl (k := 6) rfl (by rw [e18]; rfl) (by decide) rfl (fun ls hl => ?_)
            refine lv_goto (tgt := 6) hx hb dX0_probeTill_66 (by decide) ?_
            exact ih z2 z3 z4 y17 y18 u7 u8 u9 u10 u11 u12 u13 u14 hf _ _ _ hP (mp_D_of hD rfl) hS (lv_sub hl [2, 3, 4, 5, 6, 1, 0] rfl)
          · replace hf := if_f hf h16
            refine lv_iconst (v := (nI 0)) hx hb dX0_probeTill_53 (by decide) ?_
            refine lv_goto (tgt := 61) hx hb dX0_probeTill_54 (by decide) ?_
            refine lv_istore (lv' := [(5, .int (nI 0)), (0, .ref a_), (1, .ref a_p1), (2, .int z2), (3, .int z3), (4, .int z4), (6, .int z6)]) hx hb dX0_probeTill_61 hl (by decide) rfl (fun ls hl => ?_)
            obtain ⟨y19, e19⟩ : ∃ y : Int32, y = z6 + (nI 1) := ⟨_, rfl⟩
            replace hf := lt_of e19 hf
            refine lv_iinc (v := y19) (lv' := [(6, .int y19), (5, .int (nI 0)), (0, .ref a_), (1, .ref a_p1), (2, .int z2), (3, .int z3), (4, .int z4)]) hx hb dX0_probeTill_63 hl (k := 6) rfl (by rw [e19]; rfl) (by decide) rfl (fun ls hl => ?_)
            refine lv_goto (tgt := 6) hx hb dX0_probeTill_66 (by decide) ?_
            exact ih z2 z3 z4 (nI 0) y19 u7 u8 u9 u10 u11 u12 u13 u14 hf _ _ _ hP (mp_D_of hD rfl) hS (lv_sub hl [2, 3, 4, 5, 6, 1, 0] rfl)
        · replace hf := if_f hf h5
          refine lv_iconst (v := (-1 : Int32)) hx hb dX0_probeTill_40 (by decide) ?_
          cases hf
          exact mp_reti X hP hS rfl dX0_probeTill_41
      · replace hf := if_f hf h4
        refine lv_iload hx hb dX0_probeTill_25 (lv_at hl 6 rfl) ?_
        cases hf
        exact mp_reti X hP hS rfl dX0_probeTill_27

set_option maxHeartbeats 4000000 in
set_option maxRecDepth 100000 in
theorem c_X0_probeTill (l : Launch) (D : va_G) (T : Nat → ClassId) (fu : Nat) (a_ a_probe a_trial a_best a_probe_order a_probe_knows a_probe_made a_probe_sixteenths a_probe_dots a_probe_used a_probe_stands a_p1 a_p1_cellNames a_p1_secretNames a_p1_pageNames a_p1_speed a_p1_letters a_p1_room a_p1_now a_p1_rounds : Nat) (x2 : Int32) (x3 : Int32) (x4 : Int32) (v_bestMany : Int32) (v_p1_cells : Int32) (v_probe_inOrder : Int32) (v_probe_place : Int32) (v_probe_ill : Int32) (v_probe_shut : Int32) (v_probe_turns : Int32) (v_probe_madeInAll : Int32) (v_probe_dots : (Nat → Int32)) (v_probe_knows : (Nat → Int32)) (v_probe_made : (Nat → Int32)) (v_probe_order : (Nat → Int32)) (v_probe_stands : (Nat → Int32)) (v_probe_used : (Nat → Int32)) (v_p1_secrets : Int32) (v_p1_pages : Int32) (v_p1_blind : Int32) (v_p1_rubs : Int32) (v_p1_letters : (Nat → Int32)) (v_p1_room : (Nat → Int32)) (v_p1_speed : (Nat → Int32)) (r_ : Int32) (o_probe_place : Int32) (o_probe_turns : Int32) (o_probe_madeInAll : Int32) (o_probe_dots : (Nat → Int32)) (o_probe_knows : (Nat → Int32)) (o_probe_made : (Nat → Int32)) (o_probe_stands : (Nat → Int32)) (o_probe_used : (Nat → Int32)) (hf : f_X0_probeTill fu x2 x3 x4 v_probe_inOrder v_probe_place v_probe_ill v_probe_shut v_probe_turns v_probe_madeInAll v_probe_dots v_probe_knows v_probe_made v_probe_order v_probe_stands v_probe_used v_p1_secrets v_p1_pages v_p1_blind v_p1_rubs v_p1_letters v_p1_room v_p1_speed = some (r_, o_probe_place, o_probe_turns, o_probe_madeInAll, o_probe_dots, o_probe_knows, o_probe_made, o_probe_stands, o_probe_used)) :
    mp_M l D T yX0_probeTill cX0_probeTill 7 (some .int) ({ frames := 4, cells := 0, slots := 0, locals := 117 }) 0 0 [.ref a_, .ref a_p1, .int x2, .int x3, .int x4] (k_X0_probeTill T a_ a_probe a_trial a_best a_probe_order a_probe_knows a_probe_made a_probe_sixteenths a_probe_dots a_probe_used a_probe_stands a_p1 a_p1_cellNames a_p1_secretNames a_p1_pageNames a_p1_speed a_p1_letters a_p1_room a_p1_now a_p1_rounds v_bestMany v_probe_inOrder v_probe_place v_probe_ill v_probe_shut v_probe_turns v_probe_madeInAll v_probe_dots v_probe_knows v_probe_made v_probe_order v_probe_stands v_probe_used v_p1_cells v_p1_secrets v_p1_pages v_p1_blind v_p1_rubs v_p1_letters v_p1_room v_p1_speed) (mp_Qi D r_ (k_X0_probeTill T a_ a_probe a_trial a_best a_probe_order a_probe_knows a_probe_made a_probe_sixteenths a_probe_dots a_probe_used a_probe_stands a_p1 a_p1_cellNames a_p1_secretNames a_p1_pageNames a_p1_speed a_p1_letters a_p1_room a_p1_now a_p1_rounds v_bestMany v_probe_inOrder o_probe_place v_probe_ill v_probe_shut o_probe_turns o_probe_madeInAll o_probe_dots o_probe_knows o_probe_made v_probe_order o_probe_stands o_probe_used v_p1_cells v_p1_secrets v_p1_pages v_p1_blind v_p1_rubs v_p1_letters v_p1_room v_p1_speed)) := by
  refine mp_of (by decide) (Nat.le_of_ble_eq_true rfl) rfl ?_
  intro p e s m args below meth c A ls X hK hP hD hS hA hl
  replace X : mp_X p s m meth c args RX0 "probeTill" cX0_probeTill 7 (some .int) := X
  have hx := X.1
  have hb := X.2.1
  have hml := X.2.2.1
  have hown := X.2.2.2.2.1
  have hts := X.2.2.2.2.2.1
  replace hl : lv_has ls 7 [(0, .ref a_), (1, .ref a_p1), (2, .int x2), (3, .int x3), (4, .int x4)] := hl
  replace hf : f_X0_probeTill_6 fu v_probe_inOrder v_probe_ill v_probe_shut v_probe_order v_p1_secrets v_p1_pages v_p1_blind v_p1_rubs v_p1_letters v_p1_room v_p1_speed  fu x2 x3 x4 (nI 0) (nI 0) v_probe_place v_probe_turns v_probe_madeInAll v_probe_dots v_probe_knows v_probe_made v_probe_stands v_probe_used = some (r_, o_probe_place, o_probe_turns, o_probe_madeInAll, o_probe_dots, o_probe_knows, o_probe_made, o_probe_stands, o_probe_used) := hf
  refine lv_iconst (v := (nI 0)) hx hb dX0_probeTill_0 (by decide) ?_
  refine lv_istore (lv' := [(5, .int (nI 0)), (0, .ref a_), (1, .ref a_p1), (2, .int x2), (3, .int x3), (4, .int x4)]) hx hb dX0_probeTill_1 hl (by decide) rfl (fun ls hl => ?_)
  refine lv_iconst (v := (nI 0)) hx hb dX0_probeTill_3 (by decide) ?_
  refine lv_istore (lv' := [(6, .int (nI 0)), (5, .int (nI 0)), (0, .ref a_), (1, .ref a_p1), (2, .int x2), (3, .int x3), (4, .int x4)]) hx hb dX0_probeTill_4 hl (by decide) rfl (fun ls hl => ?_)
  exact w_X0_probeTill_6 X hK hA  fu a_ a_probe a_trial a_best a_probe_order a_probe_knows a_probe_made a_probe_sixteenths a_probe_dots a_probe_used a_probe_stands a_p1 a_p1_cellNames a_p1_secretNames a_p1_pageNames a_p1_speed a_p1_letters a_p1_room a_p1_now a_p1_rounds v_bestMany v_p1_cells v_probe_inOrder v_probe_ill v_probe_shut v_probe_order v_p1_secrets v_p1_pages v_p1_blind v_p1_rubs v_p1_letters v_p1_room v_p1_speed r_ o_probe_place o_probe_turns o_probe_madeInAll o_probe_dots o_probe_knows o_probe_made o_probe_stands o_probe_used   fu x2 x3 x4 (nI 0) (nI 0) v_probe_place v_probe_turns v_probe_madeInAll v_probe_dots v_probe_knows v_probe_made v_probe_stands v_probe_used hf _ _ _ hP (mp_D_of hD rfl) hS (lv_sub hl [2, 3, 4, 5, 6, 1, 0] rfl)


def k_X0_turnsTill (T : Nat → ClassId) (a_ a_probe a_trial a_best a_probe_order a_probe_knows a_probe_made a_probe_sixteenths a_probe_dots a_probe_used a_probe_stands a_p1 a_p1_cellNames a_p1_secretNames a_p1_pageNames a_p1_speed a_p1_letters a_p1_room a_p1_now a_p1_rounds a_p1_now_order a_p1_now_knows a_p1_now_made a_p1_now_sixteenths a_p1_now_dots a_p1_now_used a_p1_now_stands : Nat) (v_bestMany : Int32) (v_probe_inOrder : Int32) (v_probe_place : Int32) (v_probe_ill : Int32) (v_probe_shut : Int32) (v_probe_turns : Int32) (v_probe_madeInAll : Int32) (v_probe_dots : (Nat → Int32)) (v_probe_knows : (Nat → Int32)) (v_probe_made : (Nat → Int32)) (v_probe_order : (Nat → Int32)) (v_probe_sixteenths : (Nat → Int32)) (v_probe_stands : (Nat → Int32)) (v_probe_used : (Nat → Int32)) (v_p1_cells : Int32) (v_p1_secrets : Int32) (v_p1_pages : Int32) (v_p1_blind : Int32) (v_p1_rubs : Int32) (v_p1_letters : (Nat → Int32)) (v_p1_now_inOrder : Int32) (v_p1_now_place : Int32) (v_p1_now_ill : Int32) (v_p1_now_shut : Int32) (v_p1_now_turns : Int32) (v_p1_now_madeInAll : Int32) (v_p1_now_dots : (Nat → Int32)) (v_p1_now_knows : (Nat → Int32)) (v_p1_now_made : (Nat → Int32)) (v_p1_now_order : (Nat → Int32)) (v_p1_now_sixteenths : (Nat → Int32)) (v_p1_now_stands : (Nat → Int32)) (v_p1_now_used : (Nat → Int32)) (v_p1_room : (Nat → Int32)) (v_p1_speed : (Nat → Int32)) : va_W := [(a_, oX0 a_probe a_trial a_best v_bestMany), (a_probe, oX7 a_probe_order v_probe_inOrder v_probe_place a_probe_knows a_probe_made a_probe_sixteenths a_probe_dots a_probe_used a_probe_stands v_probe_ill v_probe_shut v_probe_turns v_probe_madeInAll), (a_probe_dots, mp_aI T 36 v_probe_dots), (a_probe_knows, mp_aI T 8 v_probe_knows), (a_probe_made, mp_aI T 8 v_probe_made), (a_probe_order, mp_aI T 8 v_probe_order), (a_probe_sixteenths, mp_aI T 6 v_probe_sixteenths), (a_probe_stands, mp_aI T 6 v_probe_stands), (a_probe_used, mp_aI T 6 v_probe_used), (a_p1, oX1 v_p1_cells v_p1_secrets v_p1_pages a_p1_cellNames a_p1_secretNames a_p1_pageNames a_p1_speed v_p1_blind v_p1_rubs a_p1_letters a_p1_room a_p1_now a_p1_rounds), (a_p1_letters, mp_aI T 6 v_p1_letters), (a_p1_now, oX7 a_p1_now_order v_p1_now_inOrder v_p1_now_place a_p1_now_knows a_p1_now_made a_p1_now_sixteenths a_p1_now_dots a_p1_now_used a_p1_now_stands v_p1_now_ill v_p1_now_shut v_p1_now_turns v_p1_now_madeInAll), (a_p1_now_dots, mp_aI T 36 v_p1_now_dots), (a_p1_now_knows, mp_aI T 8 v_p1_now_knows), (a_p1_now_made, mp_aI T 8 v_p1_now_made), (a_p1_now_order, mp_aI T 8 v_p1_now_order), (a_p1_now_sixteenths, mp_aI T 6 v_p1_now_sixteenths), (a_p1_now_stands, mp_aI T 6 v_p1_now_stands), (a_p1_now_used, mp_aI T 6 v_p1_now_used), (a_p1_room, mp_aI T 6 v_p1_room), (a_p1_speed, mp_aI T 8 v_p1_speed)]
set_option maxHeartbeats 4000000 in
set_option maxRecDepth 100000 in
theorem c_X0_turnsTill (l : Launch) (D : va_G) (T : Nat → ClassId) (fu : Nat) (a_ a_probe a_trial a_best a_probe_order a_probe_knows a_probe_made a_probe_sixteenths a_probe_dots a_probe_used a_probe_stands a_p1 a_p1_cellNames a_p1_secretNames a_p1_pageNames a_p1_speed a_p1_letters a_p1_room a_p1_now a_p1_rounds a_p1_now_order a_p1_now_knows a_p1_now_made a_p1_now_sixteenths a_p1_now_dots a_p1_now_used a_p1_now_stands : Nat) (x2 : Int32) (x3 : Int32) (v_bestMany : Int32) (v_p1_cells : Int32) (v_probe_inOrder : Int32) (v_probe_place : Int32) (v_probe_ill : Int32) (v_probe_shut : Int32) (v_probe_turns : Int32) (v_probe_madeInAll : Int32) (v_probe_dots : (Nat → Int32)) (v_probe_knows : (Nat → Int32)) (v_probe_made : (Nat → Int32)) (v_probe_order : (Nat → Int32)) (v_probe_sixteenths : (Nat → Int32)) (v_probe_stands : (Nat → Int32)) (v_probe_used : (Nat → Int32)) (v_p1_secrets : Int32) (v_p1_pages : Int32) (v_p1_blind : Int32) (v_p1_rubs : Int32) (v_p1_letters : (Nat → Int32)) (v_p1_now_inOrder : Int32) (v_p1_now_place : Int32) (v_p1_now_ill : Int32) (v_p1_now_shut : Int32) (v_p1_now_turns : Int32) (v_p1_now_madeInAll : Int32) (v_p1_now_dots : (Nat → Int32)) (v_p1_now_knows : (Nat → Int32)) (v_p1_now_made : (Nat → Int32)) (v_p1_now_order : (Nat → Int32)) (v_p1_now_sixteenths : (Nat → Int32)) (v_p1_now_stands : (Nat → Int32)) (v_p1_now_used : (Nat → Int32)) (v_p1_room : (Nat → Int32)) (v_p1_speed : (Nat → Int32)) (r_ : Int32) (o_probe_inOrder : Int32) (o_probe_place : Int32) (o_probe_ill : Int32) (o_probe_shut : Int32) (o_probe_turns : Int32) (o_probe_madeInAll : Int32) (o_probe_dots : (Nat → Int32)) (o_probe_knows : (Nat → Int32)) (o_probe_made : (Nat → Int32)) (o_probe_order : (Nat → Int32)) (o_probe_sixteenths : (Nat → Int32)) (o_probe_stands : (Nat → Int32)) (o_probe_used : (Nat → Int32)) (hf : f_X0_turnsTill fu x2 x3 v_probe_inOrder v_probe_place v_probe_ill v_probe_shut v_probe_turns v_probe_madeInAll v_probe_dots v_probe_knows v_probe_made v_probe_order v_probe_sixteenths v_probe_stands v_probe_used v_p1_secrets v_p1_pages v_p1_blind v_p1_rubs v_p1_letters v_p1_now_inOrder v_p1_now_place v_p1_now_ill v_p1_now_shut v_p1_now_turns v_p1_now_madeInAll v_p1_now_dots v_p1_now_knows v_p1_now_made v_p1_now_order v_p1_now_sixteenths v_p1_now_stands v_p1_now_used v_p1_room v_p1_speed = some (r_, o_probe_inOrder, o_probe_place, o_probe_ill, o_probe_shut, o_probe_turns, o_probe_madeInAll, o_probe_dots, o_probe_knows, o_probe_made, o_probe_order, o_probe_sixteenths, o_probe_stands, o_probe_used)) :
    mp_M l D T yX0_turnsTill cX0_turnsTill 4 (some .int) ({ frames := 5, cells := 0, slots := 0, locals := 143 }) 0 0 [.ref a_, .ref a_p1, .int x2, .int x3] (k_X0_turnsTill T a_ a_probe a_trial a_best a_probe_order a_probe_knows a_probe_made a_probe_sixteenths a_probe_dots a_probe_used a_probe_stands a_p1 a_p1_cellNames a_p1_secretNames a_p1_pageNames a_p1_speed a_p1_letters a_p1_room a_p1_now a_p1_rounds a_p1_now_order a_p1_now_knows a_p1_now_made a_p1_now_sixteenths a_p1_now_dots a_p1_now_used a_p1_now_stands v_bestMany v_probe_inOrder v_probe_place v_probe_ill v_probe_shut v_probe_turns v_probe_madeInAll v_probe_dots v_probe_knows v_probe_made v_probe_order v_probe_sixteenths v_probe_stands v_probe_used v_p1_cells v_p1_secrets v_p1_pages v_p1_blind v_p1_rubs v_p1_letters v_p1_now_inOrder v_p1_now_place v_p1_now_ill v_p1_now_shut v_p1_now_turns v_p1_now_madeInAll v_p1_now_dots v_p1_now_knows v_p1_now_made v_p1_now_order v_p1_now_sixteenths v_p1_now_stands v_p1_now_used v_p1_room v_p1_speed) (mp_Qi D r_ (k_X0_turnsTill T a_ a_probe a_trial a_best a_probe_order a_probe_knows a_probe_made a_probe_sixteenths a_probe_dots a_probe_used a_probe_stands a_p1 a_p1_cellNames a_p1_secretNames a_p1_pageNames a_p1_speed a_p1_letters a_p1_room a_p1_now a_p1_rounds a_p1_now_order a_p1_now_knows a_p1_now_made a_p1_now_sixteenths a_p1_now_dots a_p1_now_used a_p1_now_stands v_bestMany o_probe_inOrder o_probe_place o_probe_ill o_probe_shut o_probe_turns o_probe_madeInAll o_probe_dots o_probe_knows o_probe_made o_probe_order o_probe_sixteenths o_probe_stands o_probe_used v_p1_cells v_p1_secrets v_p1_pages v_p1_blind v_p1_rubs v_p1_letters v_p1_now_inOrder v_p1_now_place v_p1_now_ill v_p1_now_shut v_p1_now_turns v_p1_now_madeInAll v_p1_now_dots v_p1_now_knows v_p1_now_made v_p1_now_order v_p1_now_sixteenths v_p1_now_stands v_p1_now_used v_p1_room v_p1_speed)) := by
  refine mp_of (by decide) (Nat.le_of_ble_eq_true rfl) rfl ?_
  intro p e s m args below meth c A ls X hK hP hD hS hA hl
  replace X : mp_X p s m meth c args RX0 "turnsTill" cX0_turnsTill 4 (some .int) := X
  have hx := X.1
  have hb := X.2.1
  have hml := X.2.2.1
  have hown := X.2.2.2.2.1
  have hts := X.2.2.2.2.2.1
  replace hl : lv_has ls 4 [(0, .ref a_), (1, .ref a_p1), (2, .int x2), (3, .int x3)] := hl
  replace hf : bd_ (f_X7_copyFrom v_probe_inOrder v_probe_place v_probe_ill v_probe_shut v_probe_turns v_probe_madeInAll v_probe_dots v_probe_knows v_probe_made v_probe_order v_probe_sixteenths v_probe_stands v_probe_used v_p1_now_inOrder v_p1_now_place v_p1_now_ill v_p1_now_shut v_p1_now_turns v_p1_now_madeInAll v_p1_now_dots v_p1_now_knows v_p1_now_made v_p1_now_order v_p1_now_sixteenths v_p1_now_stands v_p1_now_used) (fun (z : Int32 × Int32 × Int32 × Int32 × Int32 × Int32 × (Nat → Int32) × (Nat → Int32) × (Nat → Int32) × (Nat → Int32) × (Nat → Int32) × (Nat → Int32) × (Nat → Int32)) => match z with | (u1, u2, u3, u4, u5, u6, u7, u8, u9, u10, u11, u12, u13) => bd_ (f_X0_probeTill fu x2 x3 (nI 999) u1 u2 u3 u4 u5 u6 u7 u8 u9 u10 u12 u13 v_p1_secrets v_p1_pages v_p1_blind v_p1_rubs v_p1_letters v_p1_room v_p1_speed) (fun (z : Int32 × Int32 × Int32 × Int32 × (Nat → Int32) × (Nat → Int32) × (Nat → Int32) × (Nat → Int32) × (Nat → Int32)) => match z with | (r15, u16, u17, u18, u19, u20, u21, u22, u23) => some (r15, u1, u16, u3, u4, u17, u18, u19, u20, u21, u10, u11, u22, u23))) = some (r_, o_probe_inOrder, o_probe_place, o_probe_ill, o_probe_shut, o_probe_turns, o_probe_madeInAll, o_probe_dots, o_probe_knows, o_probe_made, o_probe_order, o_probe_sixteenths, o_probe_stands, o_probe_used) := hf
  refine lv_aload_n hx hb dX0_turnsTill_0 rfl (lv_at hl 0 rfl) ?_
  refine mp_get X fl_X0_12 hK hP 0 rfl rfl dX0_turnsTill_1 ?_
  refine lv_aload_n hx hb dX0_turnsTill_4 rfl (lv_at hl 1 rfl) ?_
  refine mp_get X fl_X0_29 hK hP 9 rfl rfl dX0_turnsTill_5 ?_
  obtain ⟨⟨u1, u2, u3, u4, u5, u6, u7, u8, u9, u10, u11, u12, u13⟩, c14, hf⟩ := bd_of hf
  dsimp only at hf
  have hPc := hP.sub (ws' := (k_X7_copyFrom T a_probe a_probe_order a_probe_knows a_probe_made a_probe_sixteenths a_probe_dots a_probe_used a_probe_stands a_p1_now a_p1_now_order a_p1_now_knows a_p1_now_made a_p1_now_sixteenths a_p1_now_dots a_p1_now_used a_p1_now_stands v_probe_inOrder v_probe_place v_probe_ill v_probe_shut v_probe_turns v_probe_madeInAll v_probe_dots v_probe_knows v_probe_made v_probe_order v_probe_sixteenths v_probe_stands v_probe_used v_p1_now_inOrder v_p1_now_place v_p1_now_ill v_p1_now_shut v_p1_now_turns v_p1_now_madeInAll v_p1_now_dots v_p1_now_knows v_p1_now_made v_p1_now_order v_p1_now_sixteenths v_p1_now_stands v_p1_now_used)) [1, 2, 3, 4, 5, 6, 7, 8, 11, 12, 13, 14, 15, 16, 17, 18] rfl
  have hDc := (mp_D_of (w1 := (k_X0_turnsTill T a_ a_probe a_trial a_best a_probe_order a_probe_knows a_probe_made a_probe_sixteenths a_probe_dots a_probe_used a_probe_stands a_p1 a_p1_cellNames a_p1_secretNames a_p1_pageNames a_p1_speed a_p1_letters a_p1_room a_p1_now a_p1_rounds a_p1_now_order a_p1_now_knows a_p1_now_made a_p1_now_sixteenths a_p1_now_dots a_p1_now_used a_p1_now_stands v_bestMany v_probe_inOrder v_probe_place v_probe_ill v_probe_shut v_probe_turns v_probe_madeInAll v_probe_dots v_probe_knows v_probe_made v_probe_order v_probe_sixteenths v_probe_stands v_probe_used v_p1_cells v_p1_secrets v_p1_pages v_p1_blind v_p1_rubs v_p1_letters v_p1_now_inOrder v_p1_now_place v_p1_now_ill v_p1_now_shut v_p1_now_turns v_p1_now_madeInAll v_p1_now_dots v_p1_now_knows v_p1_now_made v_p1_now_order v_p1_now_sixteenths v_p1_now_stands v_p1_now_used v_p1_room v_p1_speed)) hD rfl).sub (ws' := (k_X7_copyFrom T a_probe a_probe_order a_probe_knows a_probe_made a_probe_sixteenths a_probe_dots a_probe_used a_probe_stands a_p1_now a_p1_now_order a_p1_now_knows a_p1_now_made a_p1_now_sixteenths a_p1_now_dots a_p1_now_used a_p1_now_stands v_probe_inOrder v_probe_place v_probe_ill v_probe_shut v_probe_turns v_probe_madeInAll v_probe_dots v_probe_knows v_probe_made v_probe_order v_probe_sixteenths v_probe_stands v_probe_used v_p1_now_inOrder v_p1_now_place v_p1_now_ill v_p1_now_shut v_p1_now_turns v_p1_now_madeInAll v_p1_now_dots v_p1_now_knows v_p1_now_made v_p1_now_order v_p1_now_sixteenths v_p1_now_stands v_p1_now_used)) [1, 2, 3, 4, 5, 6, 7, 8, 11, 12, 13, 14, 15, 16, 17, 18] rfl rfl
  refine mp_callv (isC := [1, 2, 3, 4, 5, 6, 7, 8, 11, 12, 13, 14, 15, 16, 17, 18]) (wc := (k_X7_copyFrom T a_probe a_probe_order a_probe_knows a_probe_made a_probe_sixteenths a_probe_dots a_probe_used a_probe_stands a_p1_now a_p1_now_order a_p1_now_knows a_p1_now_made a_p1_now_sixteenths a_p1_now_dots a_p1_now_used a_p1_now_stands v_probe_inOrder v_probe_place v_probe_ill v_probe_shut v_probe_turns v_probe_madeInAll v_probe_dots v_probe_knows v_probe_made v_probe_order v_probe_sixteenths v_probe_stands v_probe_used v_p1_now_inOrder v_p1_now_place v_p1_now_ill v_p1_now_shut v_p1_now_turns v_p1_now_madeInAll v_p1_now_dots v_p1_now_knows v_p1_now_made v_p1_now_order v_p1_now_sixteenths v_p1_now_stands v_p1_now_used)) (w1 := (k_X7_copyFrom T a_probe a_probe_order a_probe_knows a_probe_made a_probe_sixteenths a_probe_dots a_probe_used a_probe_stands a_p1_now a_p1_now_order a_p1_now_knows a_p1_now_made a_p1_now_sixteenths a_p1_now_dots a_p1_now_used a_p1_now_stands u1 u2 u3 u4 u5 u6 u7 u8 u9 u10 u11 u12 u13 v_p1_now_inOrder v_p1_now_place v_p1_now_ill v_p1_now_shut v_p1_now_turns v_p1_now_madeInAll v_p1_now_dots v_p1_now_knows v_p1_now_made v_p1_now_order v_p1_now_sixteenths v_p1_now_stands v_p1_now_used)) hP (mp_D_of hD rfl) hS hA rfl rfl (mp_runV (As := [.ref a_p1_now]) (rest := []) X me_X7_copyFrom lk_X0_34 (c_X7_copyFrom l D T a_probe a_probe_order a_probe_knows a_probe_made a_probe_sixteenths a_probe_dots a_probe_used a_probe_stands a_p1_now a_p1_now_order a_p1_now_knows a_p1_now_made a_p1_now_sixteenths a_p1_now_dots a_p1_now_used a_p1_now_stands v_probe_inOrder v_probe_place v_probe_ill v_probe_shut v_probe_turns v_probe_madeInAll v_probe_dots v_probe_knows v_probe_made v_probe_order v_probe_sixteenths v_probe_stands v_probe_used v_p1_now_inOrder v_p1_now_place v_p1_now_ill v_p1_now_shut v_p1_now_turns v_p1_now_madeInAll v_p1_now_dots v_p1_now_knows v_p1_now_made v_p1_now_order v_p1_now_sixteenths v_p1_now_stands v_p1_now_used u1 u2 u3 u4 u5 u6 u7 u8 u9 u10 u11 u12 u13 c14) rfl rfl ⟨(Nat.le_of_ble_eq_true rfl), (Nat.le_of_ble_eq_true rfl)⟩ hK hPc hDc rfl rfl rfl rfl hl.1 rfl (Nat.le_of_ble_eq_true rfl) dX0_turnsTill_8 ⟨Nat.zero_le _, Nat.zero_le _⟩) (fun H locs hP _ hS => ?_)
  replace hP : va_P D mp_cl (k_X0_turnsTill T a_ a_probe a_trial a_best a_probe_order a_probe_knows a_probe_made a_probe_sixteenths a_probe_dots a_probe_used a_probe_stands a_p1 a_p1_cellNames a_p1_secretNames a_p1_pageNames a_p1_speed a_p1_letters a_p1_room a_p1_now a_p1_rounds a_p1_now_order a_p1_now_knows a_p1_now_made a_p1_now_sixteenths a_p1_now_dots a_p1_now_used a_p1_now_stands v_bestMany u1 u2 u3 u4 u5 u6 u7 u8 u9 u10 u11 u12 u13 v_p1_cells v_p1_secrets v_p1_pages v_p1_blind v_p1_rubs v_p1_letters v_p1_now_inOrder v_p1_now_place v_p1_now_ill v_p1_now_shut v_p1_now_turns v_p1_now_madeInAll v_p1_now_dots v_p1_now_knows v_p1_now_made v_p1_now_order v_p1_now_sixteenths v_p1_now_stands v_p1_now_used v_p1_room v_p1_speed) H := hP
  refine lv_aload_n hx hb dX0_turnsTill_11 rfl (lv_at hl 0 rfl) ?_
  refine lv_aload_n hx hb dX0_turnsTill_12 rfl (lv_at hl 1 rfl) ?_
  refine lv_iload_n hx hb dX0_turnsTill_13 rfl (lv_at hl 2 rfl) ?_
  refine lv_iload_n hx hb dX0_turnsTill_14 rfl (lv_at hl 3 rfl) ?_
  refine lv_sipush (v := (nI 999)) hx hb dX0_turnsTill_15 (by decide) ?_
  obtain ⟨⟨r15, u16, u17, u18, u19, u20, u21, u22, u23⟩, c24, hf⟩ := bd_of hf
  dsimp only at hf
  have hPc := hP.sub (ws' := (k_X0_probeTill T a_ a_probe a_trial a_best a_probe_order a_probe_knows a_probe_made a_probe_sixteenths a_probe_dots a_probe_used a_probe_stands a_p1 a_p1_cellNames a_p1_secretNames a_p1_pageNames a_p1_speed a_p1_letters a_p1_room a_p1_now a_p1_rounds v_bestMany u1 u2 u3 u4 u5 u6 u7 u8 u9 u10 u12 u13 v_p1_cells v_p1_secrets v_p1_pages v_p1_blind v_p1_rubs v_p1_letters v_p1_room v_p1_speed)) [0, 1, 2, 3, 4, 5, 7, 8, 9, 10, 19, 20] rfl
  have hDc := (mp_D_of (w1 := (k_X0_turnsTill T a_ a_probe a_trial a_best a_probe_order a_probe_knows a_probe_made a_probe_sixteenths a_probe_dots a_probe_used a_probe_stands a_p1 a_p1_cellNames a_p1_secretNames a_p1_pageNames a_p1_speed a_p1_letters a_p1_room a_p1_now a_p1_rounds a_p1_now_order a_p1_now_knows a_p1_now_made a_p1_now_sixteenths a_p1_now_dots a_p1_now_used a_p1_now_stands v_bestMany u1 u2 u3 u4 u5 u6 u7 u8 u9 u10 u11 u12 u13 v_p1_cells v_p1_secrets v_p1_pages v_p1_blind v_p1_rubs v_p1_letters v_p1_now_inOrder v_p1_now_place v_p1_now_ill v_p1_now_shut v_p1_now_turns v_p1_now_madeInAll v_p1_now_dots v_p1_now_knows v_p1_now_made v_p1_now_order v_p1_now_sixteenths v_p1_now_stands v_p1_now_used v_p1_room v_p1_speed)) hD rfl).sub (ws' := (k_X0_probeTill T a_ a_probe a_trial a_best a_probe_order a_probe_knows a_probe_made a_probe_sixteenths a_probe_dots a_probe_used a_probe_stands a_p1 a_p1_cellNames a_p1_secretNames a_p1_pageNames a_p1_speed a_p1_letters a_p1_room a_p1_now a_p1_rounds v_bestMany u1 u2 u3 u4 u5 u6 u7 u8 u9 u10 u12 u13 v_p1_cells v_p1_secrets v_p1_pages v_p1_blind v_p1_rubs v_p1_letters v_p1_room v_p1_speed)) [0, 1, 2, 3, 4, 5, 7, 8, 9, 10, 19, 20] rfl rfl
  refine mp_calli (isC := [0, 1, 2, 3, 4, 5, 7, 8, 9, 10, 19, 20]) (wc := (k_X0_probeTill T a_ a_probe a_trial a_best a_probe_order a_probe_knows a_probe_made a_probe_sixteenths a_probe_dots a_probe_used a_probe_stands a_p1 a_p1_cellNames a_p1_secretNames a_p1_pageNames a_p1_speed a_p1_letters a_p1_room a_p1_now a_p1_rounds v_bestMany u1 u2 u3 u4 u5 u6 u7 u8 u9 u10 u12 u13 v_p1_cells v_p1_secrets v_p1_pages v_p1_blind v_p1_rubs v_p1_letters v_p1_room v_p1_speed)) (w1 := (k_X0_probeTill T a_ a_probe a_trial a_best a_probe_order a_probe_knows a_probe_made a_probe_sixteenths a_probe_dots a_probe_used a_probe_stands a_p1 a_p1_cellNames a_p1_secretNames a_p1_pageNames a_p1_speed a_p1_letters a_p1_room a_p1_now a_p1_rounds v_bestMany u1 u16 u3 u4 u17 u18 u19 u20 u21 u10 u22 u23 v_p1_cells v_p1_secrets v_p1_pages v_p1_blind v_p1_rubs v_p1_letters v_p1_room v_p1_speed)) hP (mp_D_of hD rfl) hS hA rfl rfl (mp_runV (As := [.ref a_p1, .int x2, .int x3, .int (nI 999)]) (rest := []) X me_X0_probeTill lk_X0_38 (c_X0_probeTill l D T fu a_ a_probe a_trial a_best a_probe_order a_probe_knows a_probe_made a_probe_sixteenths a_probe_dots a_probe_used a_probe_stands a_p1 a_p1_cellNames a_p1_secretNames a_p1_pageNames a_p1_speed a_p1_letters a_p1_room a_p1_now a_p1_rounds x2 x3 (nI 999) v_bestMany v_p1_cells u1 u2 u3 u4 u5 u6 u7 u8 u9 u10 u12 u13 v_p1_secrets v_p1_pages v_p1_blind v_p1_rubs v_p1_letters v_p1_room v_p1_speed r15 u16 u17 u18 u19 u20 u21 u22 u23 c24) rfl rfl ⟨(Nat.le_of_ble_eq_true rfl), (Nat.le_of_ble_eq_true rfl)⟩ hK hPc hDc rfl rfl rfl rfl hl.1 rfl (Nat.le_of_ble_eq_true rfl) dX0_turnsTill_18 ⟨Nat.zero_le _, Nat.zero_le _⟩) (fun H locs hP _ hS => ?_)
  replace hP : va_P D mp_cl (k_X0_turnsTill T a_ a_probe a_trial a_best a_probe_order a_probe_knows a_probe_made a_probe_sixteenths a_probe_dots a_probe_used a_probe_stands a_p1 a_p1_cellNames a_p1_secretNames a_p1_pageNames a_p1_speed a_p1_letters a_p1_room a_p1_now a_p1_rounds a_p1_now_order a_p1_now_knows a_p1_now_made a_p1_now_sixteenths a_p1_now_dots a_p1_now_used a_p1_now_stands v_bestMany u1 u16 u3 u4 u17 u18 u19 u20 u21 u10 u11 u22 u23 v_p1_cells v_p1_secrets v_p1_pages v_p1_blind v_p1_rubs v_p1_letters v_p1_now_inOrder v_p1_now_place v_p1_now_ill v_p1_now_shut v_p1_now_turns v_p1_now_madeInAll v_p1_now_dots v_p1_now_knows v_p1_now_made v_p1_now_order v_p1_now_sixteenths v_p1_now_stands v_p1_now_used v_p1_room v_p1_speed) H := hP
  cases hf
  exact mp_reti X hP hS rfl dX0_turnsTill_21


def k_X0_behind (T : Nat → ClassId) (a_ a_probe a_trial a_best a_probe_order a_probe_knows a_probe_made a_probe_sixteenths a_probe_dots a_probe_used a_probe_stands a_p1 a_p1_cellNames a_p1_secretNames a_p1_pageNames a_p1_speed a_p1_letters a_p1_room a_p1_now a_p1_rounds a_p1_now_order a_p1_now_knows a_p1_now_made a_p1_now_sixteenths a_p1_now_dots a_p1_now_used a_p1_now_stands : Nat) (v_bestMany : Int32) (v_probe_inOrder : Int32) (v_probe_place : Int32) (v_probe_ill : Int32) (v_probe_shut : Int32) (v_probe_turns : Int32) (v_probe_madeInAll : Int32) (v_probe_dots : (Nat → Int32)) (v_probe_knows : (Nat → Int32)) (v_probe_made : (Nat → Int32)) (v_probe_order : (Nat → Int32)) (v_probe_sixteenths : (Nat → Int32)) (v_probe_stands : (Nat → Int32)) (v_probe_used : (Nat → Int32)) (v_p1_cells : Int32) (v_p1_secrets : Int32) (v_p1_pages : Int32) (v_p1_blind : Int32) (v_p1_rubs : Int32) (v_p1_letters : (Nat → Int32)) (v_p1_now_inOrder : Int32) (v_p1_now_place : Int32) (v_p1_now_ill : Int32) (v_p1_now_shut : Int32) (v_p1_now_turns : Int32) (v_p1_now_madeInAll : Int32) (v_p1_now_dots : (Nat → Int32)) (v_p1_now_knows : (Nat → Int32)) (v_p1_now_made : (Nat → Int32)) (v_p1_now_order : (Nat → Int32)) (v_p1_now_sixteenths : (Nat → Int32)) (v_p1_now_stands : (Nat → Int32)) (v_p1_now_used : (Nat → Int32)) (v_p1_room : (Nat → Int32)) (v_p1_speed : (Nat → Int32)) : va_W := [(a_, oX0 a_probe a_trial a_best v_bestMany), (a_probe, oX7 a_probe_order v_probe_inOrder v_probe_place a_probe_knows a_probe_made a_probe_sixteenths a_probe_dots a_probe_used a_probe_stands v_probe_ill v_probe_shut v_probe_turns v_probe_madeInAll), (a_probe_dots, mp_aI T 36 v_probe_dots), (a_probe_knows, mp_aI T 8 v_probe_knows), (a_probe_made, mp_aI T 8 v_probe_made), (a_probe_order, mp_aI T 8 v_probe_order), (a_probe_sixteenths, mp_aI T 6 v_probe_sixteenths), (a_probe_stands, mp_aI T 6 v_probe_stands), (a_probe_used, mp_aI T 6 v_probe_used), (a_p1, oX1 v_p1_cells v_p1_secrets v_p1_pages a_p1_cellNames a_p1_secretNames a_p1_pageNames a_p1_speed v_p1_blind v_p1_rubs a_p1_letters a_p1_room a_p1_now a_p1_rounds), (a_p1_letters, mp_aI T 6 v_p1_letters), (a_p1_now, oX7 a_p1_now_order v_p1_now_inOrder v_p1_now_place a_p1_now_knows a_p1_now_made a_p1_now_sixteenths a_p1_now_dots a_p1_now_used a_p1_now_stands v_p1_now_ill v_p1_now_shut v_p1_now_turns v_p1_now_madeInAll), (a_p1_now_dots, mp_aI T 36 v_p1_now_dots), (a_p1_now_knows, mp_aI T 8 v_p1_now_knows), (a_p1_now_made, mp_aI T 8 v_p1_now_made), (a_p1_now_order, mp_aI T 8 v_p1_now_order), (a_p1_now_sixteenths, mp_aI T 6 v_p1_now_sixteenths), (a_p1_now_stands, mp_aI T 6 v_p1_now_stands), (a_p1_now_used, mp_aI T 6 v_p1_now_used), (a_p1_room, mp_aI T 6 v_p1_room), (a_p1_speed, mp_aI T 8 v_p1_speed)]
set_option maxHeartbeats 4000000 in
set_option maxRecDepth 100000 in
theorem c_X0_behind (l : Launch) (D : va_G) (T : Nat → ClassId) (fu : Nat) (a_ a_probe a_trial a_best a_probe_order a_probe_knows a_probe_made a_probe_sixteenths a_probe_dots a_probe_used a_probe_stands a_p1 a_p1_cellNames a_p1_secretNames a_p1_pageNames a_p1_speed a_p1_letters a_p1_room a_p1_now a_p1_rounds a_p1_now_order a_p1_now_knows a_p1_now_made a_p1_now_sixteenths a_p1_now_dots a_p1_now_used a_p1_now_stands : Nat) (x2 : Int32) (v_bestMany : Int32) (v_p1_cells : Int32) (v_probe_inOrder : Int32) (v_probe_place : Int32) (v_probe_ill : Int32) (v_probe_shut : Int32) (v_probe_turns : Int32) (v_probe_madeInAll : Int32) (v_probe_dots : (Nat → Int32)) (v_probe_knows : (Nat → Int32)) (v_probe_made : (Nat → Int32)) (v_probe_order : (Nat → Int32)) (v_probe_sixteenths : (Nat → Int32)) (v_probe_stands : (Nat → Int32)) (v_probe_used : (Nat → Int32)) (v_p1_secrets : Int32) (v_p1_pages : Int32) (v_p1_blind : Int32) (v_p1_rubs : Int32) (v_p1_letters : (Nat → Int32)) (v_p1_now_inOrder : Int32) (v_p1_now_place : Int32) (v_p1_now_ill : Int32) (v_p1_now_shut : Int32) (v_p1_now_turns : Int32) (v_p1_now_madeInAll : Int32) (v_p1_now_dots : (Nat → Int32)) (v_p1_now_knows : (Nat → Int32)) (v_p1_now_made : (Nat → Int32)) (v_p1_now_order : (Nat → Int32)) (v_p1_now_sixteenths : (Nat → Int32)) (v_p1_now_stands : (Nat → Int32)) (v_p1_now_used : (Nat → Int32)) (v_p1_room : (Nat → Int32)) (v_p1_speed : (Nat → Int32)) (o_probe_inOrder : Int32) (o_probe_place : Int32) (o_probe_ill : Int32) (o_probe_shut : Int32) (o_probe_turns : Int32) (o_probe_madeInAll : Int32) (o_probe_dots : (Nat → Int32)) (o_probe_knows : (Nat → Int32)) (o_probe_made : (Nat → Int32)) (o_probe_order : (Nat → Int32)) (o_probe_sixteenths : (Nat → Int32)) (o_probe_stands : (Nat → Int32)) (o_probe_used : (Nat → Int32)) (hf : f_X0_behind fu x2 v_probe_inOrder v_probe_place v_probe_ill v_probe_shut v_probe_turns v_probe_madeInAll v_probe_dots v_probe_knows v_probe_made v_probe_order v_probe_sixteenths v_probe_stands v_probe_used v_p1_secrets v_p1_pages v_p1_blind v_p1_rubs v_p1_letters v_p1_now_inOrder v_p1_now_place v_p1_now_ill v_p1_now_shut v_p1_now_turns v_p1_now_madeInAll v_p1_now_dots v_p1_now_knows v_p1_now_made v_p1_now_order v_p1_now_sixteenths v_p1_now_stands v_p1_now_used v_p1_room v_p1_speed = some (o_probe_inOrder, o_probe_place, o_probe_ill, o_probe_shut, o_probe_turns, o_probe_madeInAll, o_probe_dots, o_probe_knows, o_probe_made, o_probe_order, o_probe_sixteenths, o_probe_stands, o_probe_used)) :
    mp_M l D T yX0_behind cX0_behind 3 (some (.object "MarginPlan$State")) ({ frames := 5, cells := 0, slots := 0, locals := 141 }) 0 0 [.ref a_, .ref a_p1, .int x2] (k_X0_behind T a_ a_probe a_trial a_best a_probe_order a_probe_knows a_probe_made a_probe_sixteenths a_probe_dots a_probe_used a_probe_stands a_p1 a_p1_cellNames a_p1_secretNames a_p1_pageNames a_p1_speed a_p1_letters a_p1_room a_p1_now a_p1_rounds a_p1_now_order a_p1_now_knows a_p1_now_made a_p1_now_sixteenths a_p1_now_dots a_p1_now_used a_p1_now_stands v_bestMany v_probe_inOrder v_probe_place v_probe_ill v_probe_shut v_probe_turns v_probe_madeInAll v_probe_dots v_probe_knows v_probe_made v_probe_order v_probe_sixteenths v_probe_stands v_probe_used v_p1_cells v_p1_secrets v_p1_pages v_p1_blind v_p1_rubs v_p1_letters v_p1_now_inOrder v_p1_now_place v_p1_now_ill v_p1_now_shut v_p1_now_turns v_p1_now_madeInAll v_p1_now_dots v_p1_now_knows v_p1_now_made v_p1_now_order v_p1_now_sixteenths v_p1_now_stands v_p1_now_used v_p1_room v_p1_speed) (mp_Qr D a_probe (k_X0_behind T a_ a_probe a_trial a_best a_probe_order a_probe_knows a_probe_made a_probe_sixteenths a_probe_dots a_probe_used a_probe_stands a_p1 a_p1_cellNames a_p1_secretNames a_p1_pageNames a_p1_speed a_p1_letters a_p1_room a_p1_now a_p1_rounds a_p1_now_order a_p1_now_knows a_p1_now_made a_p1_now_sixteenths a_p1_now_dots a_p1_now_used a_p1_now_stands v_bestMany o_probe_inOrder o_probe_place o_probe_ill o_probe_shut o_probe_turns o_probe_madeInAll o_probe_dots o_probe_knows o_probe_made o_probe_order o_probe_sixteenths o_probe_stands o_probe_used v_p1_cells v_p1_secrets v_p1_pages v_p1_blind v_p1_rubs v_p1_letters v_p1_now_inOrder v_p1_now_place v_p1_now_ill v_p1_now_shut v_p1_now_turns v_p1_now_madeInAll v_p1_now_dots v_p1_now_knows v_p1_now_made v_p1_now_order v_p1_now_sixteenths v_p1_now_stands v_p1_now_used v_p1_room v_p1_speed)) := by
  refine mp_of (by decide) (Nat.le_of_ble_eq_true rfl) rfl ?_
  intro p e s m args below meth c A ls X hK hP hD hS hA hl
  replace X : mp_X p s m meth c args RX0 "behind" cX0_behind 3 (some (.object "MarginPlan$State")) := X
  have hx := X.1
  have hb := X.2.1
  have hml := X.2.2.1
  have hown := X.2.2.2.2.1
  have hts := X.2.2.2.2.2.1
  replace hl : lv_has ls 3 [(0, .ref a_), (1, .ref a_p1), (2, .int x2)] := hl
  replace hf : bd_ (f_X7_copyFrom v_probe_inOrder v_probe_place v_probe_ill v_probe_shut v_probe_turns v_probe_madeInAll v_probe_dots v_probe_knows v_probe_made v_probe_order v_probe_sixteenths v_probe_stands v_probe_used v_p1_now_inOrder v_p1_now_place v_p1_now_ill v_p1_now_shut v_p1_now_turns v_p1_now_madeInAll v_p1_now_dots v_p1_now_knows v_p1_now_made v_p1_now_order v_p1_now_sixteenths v_p1_now_stands v_p1_now_used) (fun (z : Int32 × Int32 × Int32 × Int32 × Int32 × Int32 × (Nat → Int32) × (Nat → Int32) × (Nat → Int32) × (Nat → Int32) × (Nat → Int32) × (Nat → Int32) × (Nat → Int32)) => match z with | (u1, u2, u3, u4, u5, u6, u7, u8, u9, u10, u11, u12, u13) => bd_ (f_X7_passMany fu x2 u1 u2 u3 u4 u5 u6 u7 u8 u9 u10 u12 u13 v_p1_secrets v_p1_pages v_p1_blind v_p1_rubs v_p1_letters v_p1_room v_p1_speed) (fun (z : Int32 × Int32 × Int32 × (Nat → Int32) × (Nat → Int32) × (Nat → Int32) × (Nat → Int32) × (Nat → Int32)) => match z with | (u15, u16, u17, u18, u19, u20, u21, u22) => some (u1, u15, u3, u4, u16, u17, u18, u19, u20, u10, u11, u21, u22))) = some (o_probe_inOrder, o_probe_place, o_probe_ill, o_probe_shut, o_probe_turns, o_probe_madeInAll, o_probe_dots, o_probe_knows, o_probe_made, o_probe_order, o_probe_sixteenths, o_probe_stands, o_probe_used) := hf
  refine lv_aload_n hx hb dX0_behind_0 rfl (lv_at hl 0 rfl) ?_
  refine mp_get X fl_X0_12 hK hP 0 rfl rfl dX0_behind_1 ?_
  refine lv_aload_n hx hb dX0_behind_4 rfl (lv_at hl 1 rfl) ?_
  refine mp_get X fl_X0_29 hK hP 9 rfl rfl dX0_behind_5 ?_
  obtain ⟨⟨u1, u2, u3, u4, u5, u6, u7, u8, u9, u10, u11, u12, u13⟩, c14, hf⟩ := bd_of hf
  dsimp only at hf
  have hPc := hP.sub (ws' := (k_X7_copyFrom T a_probe a_probe_order a_probe_knows a_probe_made a_probe_sixteenths a_probe_dots a_probe_used a_probe_stands a_p1_now a_p1_now_order a_p1_now_knows a_p1_now_made a_p1_now_sixteenths a_p1_now_dots a_p1_now_used a_p1_now_stands v_probe_inOrder v_probe_place v_probe_ill v_probe_shut v_probe_turns v_probe_madeInAll v_probe_dots v_probe_knows v_probe_made v_probe_order v_probe_sixteenths v_probe_stands v_probe_used v_p1_now_inOrder v_p1_now_place v_p1_now_ill v_p1_now_shut v_p1_now_turns v_p1_now_madeInAll v_p1_now_dots v_p1_now_knows v_p1_now_made v_p1_now_order v_p1_now_sixteenths v_p1_now_stands v_p1_now_used)) [1, 2, 3, 4, 5, 6, 7, 8, 11, 12, 13, 14, 15, 16, 17, 18] rfl
  have hDc := (mp_D_of (w1 := (k_X0_behind T a_ a_probe a_trial a_best a_probe_order a_probe_knows a_probe_made a_probe_sixteenths a_probe_dots a_probe_used a_probe_stands a_p1 a_p1_cellNames a_p1_secretNames a_p1_pageNames a_p1_speed a_p1_letters a_p1_room a_p1_now a_p1_rounds a_p1_now_order a_p1_now_knows a_p1_now_made a_p1_now_sixteenths a_p1_now_dots a_p1_now_used a_p1_now_stands v_bestMany v_probe_inOrder v_probe_place v_probe_ill v_probe_shut v_probe_turns v_probe_madeInAll v_probe_dots v_probe_knows v_probe_made v_probe_order v_probe_sixteenths v_probe_stands v_probe_used v_p1_cells v_p1_secrets v_p1_pages v_p1_blind v_p1_rubs v_p1_letters v_p1_now_inOrder v_p1_now_place v_p1_now_ill v_p1_now_shut v_p1_now_turns v_p1_now_madeInAll v_p1_now_dots v_p1_now_knows v_p1_now_made v_p1_now_order v_p1_now_sixteenths v_p1_now_stands v_p1_now_used v_p1_room v_p1_speed)) hD rfl).sub (ws' := (k_X7_copyFrom T a_probe a_probe_order a_probe_knows a_probe_made a_probe_sixteenths a_probe_dots a_probe_used a_probe_stands a_p1_now a_p1_now_order a_p1_now_knows a_p1_now_made a_p1_now_sixteenths a_p1_now_dots a_p1_now_used a_p1_now_stands v_probe_inOrder v_probe_place v_probe_ill v_probe_shut v_probe_turns v_probe_madeInAll v_probe_dots v_probe_knows v_probe_made v_probe_order v_probe_sixteenths v_probe_stands v_probe_used v_p1_now_inOrder v_p1_now_place v_p1_now_ill v_p1_now_shut v_p1_now_turns v_p1_now_madeInAll v_p1_now_dots v_p1_now_knows v_p1_now_made v_p1_now_order v_p1_now_sixteenths v_p1_now_stands v_p1_now_used)) [1, 2, 3, 4, 5, 6, 7, 8, 11, 12, 13, 14, 15, 16, 17, 18] rfl rfl
  refine mp_callv (isC := [1, 2, 3, 4, 5, 6, 7, 8, 11, 12, 13, 14, 15, 16, 17, 18]) (wc := (k_X7_copyFrom T a_probe a_probe_order a_probe_knows a_probe_made a_probe_sixteenths a_probe_dots a_probe_used a_probe_stands a_p1_now a_p1_now_order a_p1_now_knows a_p1_now_made a_p1_now_sixteenths a_p1_now_dots a_p1_now_used a_p1_now_stands v_probe_inOrder v_probe_place v_probe_ill v_probe_shut v_probe_turns v_probe_madeInAll v_probe_dots v_probe_knows v_probe_made v_probe_order v_probe_sixteenths v_probe_stands v_probe_used v_p1_now_inOrder v_p1_now_place v_p1_now_ill v_p1_now_shut v_p1_now_turns v_p1_now_madeInAll v_p1_now_dots v_p1_now_knows v_p1_now_made v_p1_now_order v_p1_now_sixteenths v_p1_now_stands v_p1_now_used)) (w1 := (k_X7_copyFrom T a_probe a_probe_order a_probe_knows a_probe_made a_probe_sixteenths a_probe_dots a_probe_used a_probe_stands a_p1_now a_p1_now_order a_p1_now_knows a_p1_now_made a_p1_now_sixteenths a_p1_now_dots a_p1_now_used a_p1_now_stands u1 u2 u3 u4 u5 u6 u7 u8 u9 u10 u11 u12 u13 v_p1_now_inOrder v_p1_now_place v_p1_now_ill v_p1_now_shut v_p1_now_turns v_p1_now_madeInAll v_p1_now_dots v_p1_now_knows v_p1_now_made v_p1_now_order v_p1_now_sixteenths v_p1_now_stands v_p1_now_used)) hP (mp_D_of hD rfl) hS hA rfl rfl (mp_runV (As := [.ref a_p1_now]) (rest := []) X me_X7_copyFrom lk_X0_34 (c_X7_copyFrom l D T a_probe a_probe_order a_probe_knows a_probe_made a_probe_sixteenths a_probe_dots a_probe_used a_probe_stands a_p1_now a_p1_now_order a_p1_now_knows a_p1_now_made a_p1_now_sixteenths a_p1_now_dots a_p1_now_used a_p1_now_stands v_probe_inOrder v_probe_place v_probe_ill v_probe_shut v_probe_turns v_probe_madeInAll v_probe_dots v_probe_knows v_probe_made v_probe_order v_probe_sixteenths v_probe_stands v_probe_used v_p1_now_inOrder v_p1_now_place v_p1_now_ill v_p1_now_shut v_p1_now_turns v_p1_now_madeInAll v_p1_now_dots v_p1_now_knows v_p1_now_made v_p1_now_order v_p1_now_sixteenths v_p1_now_stands v_p1_now_used u1 u2 u3 u4 u5 u6 u7 u8 u9 u10 u11 u12 u13 c14) rfl rfl ⟨(Nat.le_of_ble_eq_true rfl), (Nat.le_of_ble_eq_true rfl)⟩ hK hPc hDc rfl rfl rfl rfl hl.1 rfl (Nat.le_of_ble_eq_true rfl) dX0_behind_8 ⟨Nat.zero_le _, Nat.zero_le _⟩) (fun H locs hP _ hS => ?_)
  replace hP : va_P D mp_cl (k_X0_behind T a_ a_probe a_trial a_best a_probe_order a_probe_knows a_probe_made a_probe_sixteenths a_probe_dots a_probe_used a_probe_stands a_p1 a_p1_cellNames a_p1_secretNames a_p1_pageNames a_p1_speed a_p1_letters a_p1_room a_p1_now a_p1_rounds a_p1_now_order a_p1_now_knows a_p1_now_made a_p1_now_sixteenths a_p1_now_dots a_p1_now_used a_p1_now_stands v_bestMany u1 u2 u3 u4 u5 u6 u7 u8 u9 u10 u11 u12 u13 v_p1_cells v_p1_secrets v_p1_pages v_p1_blind v_p1_rubs v_p1_letters v_p1_now_inOrder v_p1_now_place v_p1_now_ill v_p1_now_shut v_p1_now_turns v_p1_now_madeInAll v_p1_now_dots v_p1_now_knows v_p1_now_made v_p1_now_order v_p1_now_sixteenths v_p1_now_stands v_p1_now_used v_p1_room v_p1_speed) H := hP
  refine lv_aload_n hx hb dX0_behind_11 rfl (lv_at hl 0 rfl) ?_
  refine mp_get X fl_X0_12 hK hP 0 rfl rfl dX0_behind_12 ?_
  refine lv_aload_n hx hb dX0_behind_15 rfl (lv_at hl 1 rfl) ?_
  refine lv_iload_n hx hb dX0_behind_16 rfl (lv_at hl 2 rfl) ?_
  obtain ⟨⟨u15, u16, u17, u18, u19, u20, u21, u22⟩, c23, hf⟩ := bd_of hf
  dsimp only at hf
  have hPc := hP.sub (ws' := (k_X7_passMany T a_probe a_probe_order a_probe_knows a_probe_made a_probe_sixteenths a_probe_dots a_probe_used a_probe_stands a_p1 a_p1_cellNames a_p1_secretNames a_p1_pageNames a_p1_speed a_p1_letters a_p1_room a_p1_now a_p1_rounds u1 u2 u3 u4 u5 u6 u7 u8 u9 u10 u12 u13 v_p1_cells v_p1_secrets v_p1_pages v_p1_blind v_p1_rubs v_p1_letters v_p1_room v_p1_speed)) [1, 2, 3, 4, 5, 7, 8, 9, 10, 19, 20] rfl
  have hDc := (mp_D_of (w1 := (k_X0_behind T a_ a_probe a_trial a_best a_probe_order a_probe_knows a_probe_made a_probe_sixteenths a_probe_dots a_probe_used a_probe_stands a_p1 a_p1_cellNames a_p1_secretNames a_p1_pageNames a_p1_speed a_p1_letters a_p1_room a_p1_now a_p1_rounds a_p1_now_order a_p1_now_knows a_p1_now_made a_p1_now_sixteenths a_p1_now_dots a_p1_now_used a_p1_now_stands v_bestMany u1 u2 u3 u4 u5 u6 u7 u8 u9 u10 u11 u12 u13 v_p1_cells v_p1_secrets v_p1_pages v_p1_blind v_p1_rubs v_p1_letters v_p1_now_inOrder v_p1_now_place v_p1_now_ill v_p1_now_shut v_p1_now_turns v_p1_now_madeInAll v_p1_now_dots v_p1_now_knows v_p1_now_made v_p1_now_order v_p1_now_sixteenths v_p1_now_stands v_p1_now_used v_p1_room v_p1_speed)) hD rfl).sub (ws' := (k_X7_passMany T a_probe a_probe_order a_probe_knows a_probe_made a_probe_sixteenths a_probe_dots a_probe_used a_probe_stands a_p1 a_p1_cellNames a_p1_secretNames a_p1_pageNames a_p1_speed a_p1_letters a_p1_room a_p1_now a_p1_rounds u1 u2 u3 u4 u5 u6 u7 u8 u9 u10 u12 u13 v_p1_cells v_p1_secrets v_p1_pages v_p1_blind v_p1_rubs v_p1_letters v_p1_room v_p1_speed)) [1, 2, 3, 4, 5, 7, 8, 9, 10, 19, 20] rfl rfl
  refine mp_callv (isC := [1, 2, 3, 4, 5, 7, 8, 9, 10, 19, 20]) (wc := (k_X7_passMany T a_probe a_probe_order a_probe_knows a_probe_made a_probe_sixteenths a_probe_dots a_probe_used a_probe_stands a_p1 a_p1_cellNames a_p1_secretNames a_p1_pageNames a_p1_speed a_p1_letters a_p1_room a_p1_now a_p1_rounds u1 u2 u3 u4 u5 u6 u7 u8 u9 u10 u12 u13 v_p1_cells v_p1_secrets v_p1_pages v_p1_blind v_p1_rubs v_p1_letters v_p1_room v_p1_speed)) (w1 := (k_X7_passMany T a_probe a_probe_order a_probe_knows a_probe_made a_probe_sixteenths a_probe_dots a_probe_used a_probe_stands a_p1 a_p1_cellNames a_p1_secretNames a_p1_pageNames a_p1_speed a_p1_letters a_p1_room a_p1_now a_p1_rounds u1 u15 u3 u4 u16 u17 u18 u19 u20 u10 u21 u22 v_p1_cells v_p1_secrets v_p1_pages v_p1_blind v_p1_rubs v_p1_letters v_p1_room v_p1_speed)) hP (mp_D_of hD rfl) hS hA rfl rfl (mp_runV (As := [.ref a_p1, .int x2]) (rest := []) X me_X7_passMany lk_X0_42 (c_X7_passMany l D T fu a_probe a_probe_order a_probe_knows a_probe_made a_probe_sixteenths a_probe_dots a_probe_used a_probe_stands a_p1 a_p1_cellNames a_p1_secretNames a_p1_pageNames a_p1_speed a_p1_letters a_p1_room a_p1_now a_p1_rounds x2 v_p1_cells u1 u2 u3 u4 u5 u6 u7 u8 u9 u10 u12 u13 v_p1_secrets v_p1_pages v_p1_blind v_p1_rubs v_p1_letters v_p1_room v_p1_speed u15 u16 u17 u18 u19 u20 u21 u22 c23) rfl rfl ⟨(Nat.le_of_ble_eq_true rfl), (Nat.le_of_ble_eq_true rfl)⟩ hK hPc hDc rfl rfl rfl rfl hl.1 rfl (Nat.le_of_ble_eq_true rfl) dX0_behind_17 ⟨Nat.zero_le _, Nat.zero_le _⟩) (fun H locs hP _ hS => ?_)
  replace hP : va_P D mp_cl (k_X0_behind T a_ a_probe a_trial a_best a_probe_order a_probe_knows a_probe_made a_probe_sixteenths a_probe_dots a_probe_used a_probe_stands a_p1 a_p1_cellNames a_p1_secretNames a_p1_pageNames a_p1_speed a_p1_letters a_p1_room a_p1_now a_p1_rounds a_p1_now_order a_p1_now_knows a_p1_now_made a_p1_now_sixteenths a_p1_now_dots a_p1_now_used a_p1_now_stands v_bestMany u1 u15 u3 u4 u16 u17 u18 u19 u20 u10 u11 u21 u22 v_p1_cells v_p1_secrets v_p1_pages v_p1_blind v_p1_rubs v_p1_letters v_p1_now_inOrder v_p1_now_place v_p1_now_ill v_p1_now_shut v_p1_now_turns v_p1_now_madeInAll v_p1_now_dots v_p1_now_knows v_p1_now_made v_p1_now_order v_p1_now_sixteenths v_p1_now_stands v_p1_now_used v_p1_room v_p1_speed) H := hP
  refine lv_aload_n hx hb dX0_behind_20 rfl (lv_at hl 0 rfl) ?_
  refine mp_get X fl_X0_12 hK hP 0 rfl rfl dX0_behind_21 ?_
  cases hf
  exact mp_reta X hP hS dX0_behind_24


def k_X0_sortInto (T : Nat → ClassId) (a_ a_probe a_trial a_best a_p1 a_p1_order a_p1_knows a_p1_made a_p1_sixteenths a_p1_dots a_p1_used a_p1_stands : Nat) (v_bestMany : Int32) (v_trial : (Nat → Int32)) (v_p1_inOrder : Int32) (v_p1_place : Int32) (v_p1_ill : Int32) (v_p1_shut : Int32) (v_p1_turns : Int32) (v_p1_madeInAll : Int32) (v_p1_order : (Nat → Int32)) : va_W := [(a_, oX0 a_probe a_trial a_best v_bestMany), (a_trial, mp_aI T 8 v_trial), (a_p1, oX7 a_p1_order v_p1_inOrder v_p1_place a_p1_knows a_p1_made a_p1_sixteenths a_p1_dots a_p1_used a_p1_stands v_p1_ill v_p1_shut v_p1_turns v_p1_madeInAll), (a_p1_order, mp_aI T 8 v_p1_order)]
set_option maxHeartbeats 4000000 in
set_option maxRecDepth 100000 in
theorem w_X0_sortInto_4 {p : Program} {l : Launch} {e : Env} {s : State} {m : MethodId} {args : Array Value} {below : List Frame} {meth : Method} {c : Code} {D : va_G} {T : Nat → ClassId} {A : Nat → Prop} (X : mp_X p s m meth c args RX0 "sortInto" cX0_sortInto 4 none) (hK : va_K D mp_cl (mp_ty T) s) (hA : ∀ q, s.heap.size ≤ q → A q) (fu : Nat) (a_ a_probe a_trial a_best a_p1 a_p1_order a_p1_knows a_p1_made a_p1_sixteenths a_p1_dots a_p1_used a_p1_stands : Nat) (v_bestMany : Int32) (v_p1_place : Int32) (v_p1_ill : Int32) (v_p1_shut : Int32) (v_p1_turns : Int32) (v_p1_madeInAll : Int32) (v_p1_inOrder : Int32) (v_p1_order : (Nat → Int32)) (o_trial : (Nat → Int32)) :
    ∀ (n : Nat) (z2 : Int32) (z3 : Int32) (v_trial : (Nat → Int32)), f_X0_sortInto_4 fu v_p1_inOrder v_p1_order  n z2 z3 v_trial = some o_trial → ∀ (H : Heap) (locs : List Loc) (ls : Array Slot), va_P D mp_cl (k_X0_sortInto T a_ a_probe a_trial a_best a_p1 a_p1_order a_p1_knows a_p1_made a_p1_sixteenths a_p1_dots a_p1_used a_p1_stands v_bestMany v_trial v_p1_inOrder v_p1_place v_p1_ill v_p1_shut v_p1_turns v_p1_madeInAll v_p1_order) H → va_D A (k_X0_sortInto T a_ a_probe a_trial a_best a_p1 a_p1_order a_p1_knows a_p1_made a_p1_sixteenths a_p1_dots a_p1_used a_p1_stands v_bestMany v_trial v_p1_inOrder v_p1_place v_p1_ill v_p1_shut v_p1_turns v_p1_madeInAll v_p1_order) → va_S A s.heap H locs → lv_has ls 4 [(0, .ref a_), (1, .ref a_p1), (2, .int z2), (3, .int z3)] → W p l e ({ frames := 1, cells := 0, slots := 0, locals := 22 }) s m args below meth c H locs 0 0 (MQ below ((mp_Qv D (k_X0_sortInto T a_ a_probe a_trial a_best a_p1 a_p1_order a_p1_knows a_p1_made a_p1_sixteenths a_p1_dots a_p1_used a_p1_stands v_bestMany o_trial v_p1_inOrder v_p1_place v_p1_ill v_p1_shut v_p1_turns v_p1_madeInAll v_p1_order)) A) args s 0 0 A) (F0 m 4 ls []) := by
  have hx := X.1
  have hb := X.2.1
  have hml := X.2.2.1
  have hown := X.2.2.2.2.1
  have hts := X.2.2.2.2.2.1
  intro n
  induction n with
  | zero => intro z2 z3 v_trial hf; exact absurd hf (by intro h; cases h)
  | succ n ih =>
    intro z2 z3 v_trial hf H locs ls hP hD hS hl
    replace hf : (if (nI 8) ≤ z3 then some (v_trial) else bd_ (f_X7_placeOf fu z3 v_p1_inOrder v_p1_order) (fun (r2 : Int32) => (if r2 = (-1 : Int32) then lt_ (z3 + (nI 1)) (fun (y5 : Int32) => f_X0_sortInto_4 fu v_p1_inOrder v_p1_order  n z2 y5 v_trial) else gi_ z2 8 (lt_ (z2 + (nI 1)) (fun (y7 : Int32) => lt_ (z3 + (nI 1)) (fun (y8 : Int32) => f_X0_sortInto_4 fu v_p1_inOrder v_p1_order  n y7 y8 (upd v_trial (z2).toNatClampNeg z3))))))) = some o_trial := hf
    refine lv_iload_n hx hb dX0_sortInto_4 rfl (lv_at hl 3 rfl) ?_
    refine lv_bipush (v := (nI 8)) hx hb dX0_sortInto_5 (by decide) ?_
    refine lv_icmp_ge (tgt := 35) hx hb dX0_sortInto_7 (by decide) (fun h1 => ?_) (fun h1 => ?_)
    · replace hf := if_t hf h1
      cases hf
      exact mp_retv X hP hS dX0_sortInto_35
    · replace hf := if_f hf h1
      refine lv_aload_n hx hb dX0_sortInto_10 rfl (lv_at hl 1 rfl) ?_
      refine lv_iload_n hx hb dX0_sortInto_11 rfl (lv_at hl 3 rfl) ?_
      obtain ⟨r2, c3, hf⟩ := bd_of hf
      have hPc := hP.sub (ws' := (k_X7_placeOf T a_p1 a_p1_order a_p1_knows a_p1_made a_p1_sixteenths a_p1_dots a_p1_used a_p1_stands v_p1_inOrder v_p1_place v_p1_ill v_p1_shut v_p1_turns v_p1_madeInAll v_p1_order)) [2, 3] rfl
      have hDc := (mp_D_of (w1 := (k_X0_sortInto T a_ a_probe a_trial a_best a_p1 a_p1_order a_p1_knows a_p1_made a_p1_sixteenths a_p1_dots a_p1_used a_p1_stands v_bestMany v_trial v_p1_inOrder v_p1_place v_p1_ill v_p1_shut v_p1_turns v_p1_madeInAll v_p1_order)) hD rfl).sub (ws' := (k_X7_placeOf T a_p1 a_p1_order a_p1_knows a_p1_made a_p1_sixteenths a_p1_dots a_p1_used a_p1_stands v_p1_inOrder v_p1_place v_p1_ill v_p1_shut v_p1_turns v_p1_madeInAll v_p1_order)) [2, 3] rfl rfl
      refine mp_calli (isC := [2, 3]) (wc := (k_X7_placeOf T a_p1 a_p1_order a_p1_knows a_p1_made a_p1_sixteenths a_p1_dots a_p1_used a_p1_stands v_p1_inOrder v_p1_place v_p1_ill v_p1_shut v_p1_turns v_p1_madeInAll v_p1_order)) (w1 := (k_X7_placeOf T a_p1 a_p1_order a_p1_knows a_p1_made a_p1_sixteenths a_p1_dots a_p1_used a_p1_stands v_p1_inOrder v_p1_place v_p1_ill v_p1_shut v_p1_turns v_p1_madeInAll v_p1_order)) hP (mp_D_of hD rfl) hS hA rfl rfl (mp_runV (As := [.int z3]) (rest := []) X me_X7_placeOf lk_X0_81 (c_X7_placeOf l D T fu a_p1 a_p1_order a_p1_knows a_p1_made a_p1_sixteenths a_p1_dots a_p1_used a_p1_stands z3 v_p1_place v_p1_ill v_p1_shut v_p1_turns v_p1_madeInAll v_p1_inOrder v_p1_order r2 c3) rfl rfl ⟨(Nat.le_of_ble_eq_true rfl), (Nat.le_of_ble_eq_true rfl)⟩ hK hPc hDc rfl rfl rfl rfl hl.1 rfl (Nat.le_of_ble_eq_true rfl) dX0_sortInto_12 ⟨Nat.zero_le _, Nat.zero_le _⟩) (fun H locs hP _ hS => ?_)
      replace hP : va_P D mp_cl (k_X0_sortInto T a_ a_probe a_trial a_best a_p1 a_p1_order a_p1_knows a_p1_made a_p1_sixteenths a_p1_dots a_p1_used a_p1_stands v_bestMany v_trial v_p1_inOrder v_p1_place v_p1_ill v_p1_shut v_p1_turns v_p1_madeInAll v_p1_order) H := hP
      refine lv_iconst (v := (-1 : Int32)) hx hb dX0_sortInto_15 (by decide) ?_
      refine lv_icmp_eq (tgt := 29) hx hb dX0_sortInto_16 (by decide) (fun h4 => ?_) (fun h4 => ?_)
      · replace hf := if_t hf h4
        obtain ⟨y5, e5⟩ : ∃ y : Int32, y = z3 + (nI 1) := ⟨_, rfl⟩
        replace hf := lt_of e5 hf
        refine lv_iinc (v := y5) (lv' := [(3, .int y5), (0, .ref a_), (1, .ref a_p1), (2, .int z2)]) hx hb dX0_sortInto_29 hl (k := 3) rfl (by rw [e5]; rfl) (by decide) rfl (fun ls hl => ?_)
        refine lv_goto (tgt := 4) hx hb dX0_sortInto_32 (by decide) ?_
        exact ih z2 y5 v_trial hf _ _ _ hP (mp_D_of hD rfl) hS (lv_sub hl [1, 2, 3, 0] rfl)
      · replace hf := if_f hf h4
        refine lv_aload_n hx hb dX0_sortInto_19 rfl (lv_at hl 0 rfl) ?_
        refine mp_get X fl_X0_18 hK hP 0 rfl rfl dX0_sortInto_20 ?_
        refine lv_iload_n hx hb dX0_sortInto_23 rfl (lv_at hl 2 rfl) ?_
        refine lv_iload_n hx hb dX0_sortInto_24 rfl (lv_at hl 3 rfl) ?_
        obtain ⟨h6, hf⟩ := gi_of hf
        refine va_iast hx hb hK hP (mp_D_of hD rfl) hS 1 0 rfl rfl h6 dX0_sortInto_25 (fun H locs hP _ hS => ?_)
        replace hP : va_P D mp_cl (k_X0_sortInto T a_ a_probe a_trial a_best a_p1 a_p1_order a_p1_knows a_p1_made a_p1_sixteenths a_p1_dots a_p1_used a_p1_stands v_bestMany (upd v_trial (z2).toNatClampNeg z3) v_p1_inOrder v_p1_place v_p1_ill v_p1_shut v_p1_turns v_p1_madeInAll v_p1_order) H := hP
        obtain ⟨y7, e7⟩ : ∃ y : Int32, y = z2 + (nI 1) := ⟨_, rfl⟩
        replace hf := lt_of e7 hf
        refine lv_iinc (v := y7) (lv' := [(2, .int y7), (0, .ref a_), (1, .ref a_p1), (3, .int z3)]) hx hb dX0_sortInto_26 hl (k := 2) rfl (by rw [e7]; rfl) (by decide) rfl (fun ls hl => ?_)
        obtain ⟨y8, e8⟩ : ∃ y : Int32, y = z3 + (nI 1) := ⟨_, rfl⟩
        replace hf := lt_of e8 hf
        refine lv_iinc (v := y8) (lv' := [(3, .int y8), (2, .int y7), (0, .ref a_), (1, .ref a_p1)]) hx hb dX0_sortInto_29 hl (k := 3) rfl (by rw [e8]; rfl) (by decide) rfl (fun ls hl => ?_)
        refine lv_goto (tgt := 4) hx hb dX0_sortInto_32 (by decide) ?_
        exact ih y7 y8 (upd v_trial (z2).toNatClampNeg z3) hf _ _ _ hP (mp_D_of hD rfl) hS (lv_sub hl [2, 3, 1, 0] rfl)

set_option maxHeartbeats 4000000 in
set_option maxRecDepth 100000 in
theorem c_X0_sortInto (l : Launch) (D : va_G) (T : Nat → ClassId) (fu : Nat) (a_ a_probe a_trial a_best a_p1 a_p1_order a_p1_knows a_p1_made a_p1_sixteenths a_p1_dots a_p1_used a_p1_stands : Nat) (v_bestMany : Int32) (v_p1_place : Int32) (v_p1_ill : Int32) (v_p1_shut : Int32) (v_p1_turns : Int32) (v_p1_madeInAll : Int32) (v_trial : (Nat → Int32)) (v_p1_inOrder : Int32) (v_p1_order : (Nat → Int32)) (o_trial : (Nat → Int32)) (hf : f_X0_sortInto fu v_trial v_p1_inOrder v_p1_order = some o_trial) :
    mp_M l D T yX0_sortInto cX0_sortInto 4 none ({ frames := 1, cells := 0, slots := 0, locals := 22 }) 0 0 [.ref a_, .ref a_p1] (k_X0_sortInto T a_ a_probe a_trial a_best a_p1 a_p1_order a_p1_knows a_p1_made a_p1_sixteenths a_p1_dots a_p1_used a_p1_stands v_bestMany v_trial v_p1_inOrder v_p1_place v_p1_ill v_p1_shut v_p1_turns v_p1_madeInAll v_p1_order) (mp_Qv D (k_X0_sortInto T a_ a_probe a_trial a_best a_p1 a_p1_order a_p1_knows a_p1_made a_p1_sixteenths a_p1_dots a_p1_used a_p1_stands v_bestMany o_trial v_p1_inOrder v_p1_place v_p1_ill v_p1_shut v_p1_turns v_p1_madeInAll v_p1_order)) := by
  refine mp_of (by decide) (Nat.le_of_ble_eq_true rfl) rfl ?_
  intro p e s m args below meth c A ls X hK hP hD hS hA hl
  replace X : mp_X p s m meth c args RX0 "sortInto" cX0_sortInto 4 none := X
  have hx := X.1
  have hb := X.2.1
  have hml := X.2.2.1
  have hown := X.2.2.2.2.1
  have hts := X.2.2.2.2.2.1
  replace hl : lv_has ls 4 [(0, .ref a_), (1, .ref a_p1)] := hl
  replace hf : f_X0_sortInto_4 fu v_p1_inOrder v_p1_order  fu (nI 0) (nI 0) v_trial = some o_trial := hf
  refine lv_iconst (v := (nI 0)) hx hb dX0_sortInto_0 (by decide) ?_
  refine lv_istore_n (lv' := [(2, .int (nI 0)), (0, .ref a_), (1, .ref a_p1)]) hx hb dX0_sortInto_1 rfl hl (by decide) rfl (fun ls hl => ?_)
  refine lv_iconst (v := (nI 0)) hx hb dX0_sortInto_2 (by decide) ?_
  refine lv_istore_n (lv' := [(3, .int (nI 0)), (2, .int (nI 0)), (0, .ref a_), (1, .ref a_p1)]) hx hb dX0_sortInto_3 rfl hl (by decide) rfl (fun ls hl => ?_)
  exact w_X0_sortInto_4 X hK hA  fu a_ a_probe a_trial a_best a_p1 a_p1_order a_p1_knows a_p1_made a_p1_sixteenths a_p1_dots a_p1_used a_p1_stands v_bestMany v_p1_place v_p1_ill v_p1_shut v_p1_turns v_p1_madeInAll v_p1_inOrder v_p1_order o_trial   fu (nI 0) (nI 0) v_trial hf _ _ _ hP (mp_D_of hD rfl) hS (lv_sub hl [2, 3, 1, 0] rfl)


def k_X0_swap (T : Nat → ClassId) (a_ a_probe a_trial a_best : Nat) (v_bestMany : Int32) (v_trial : (Nat → Int32)) : va_W := [(a_, oX0 a_probe a_trial a_best v_bestMany), (a_trial, mp_aI T 8 v_trial)]
set_option maxHeartbeats 4000000 in
set_option maxRecDepth 100000 in
theorem c_X0_swap (l : Launch) (D : va_G) (T : Nat → ClassId) (a_ a_probe a_trial a_best : Nat) (x1 : Int32) (x2 : Int32) (v_bestMany : Int32) (v_trial : (Nat → Int32)) (o_trial : (Nat → Int32)) (hf : f_X0_swap x1 x2 v_trial = some o_trial) :
    mp_M l D T yX0_swap cX0_swap 4 none ({ frames := 0, cells := 0, slots := 0, locals := 0 }) 0 0 [.ref a_, .int x1, .int x2] (k_X0_swap T a_ a_probe a_trial a_best v_bestMany v_trial) (mp_Qv D (k_X0_swap T a_ a_probe a_trial a_best v_bestMany o_trial)) := by
  refine mp_of (by decide) (Nat.le_of_ble_eq_true rfl) rfl ?_
  intro p e s m args below meth c A ls X hK hP hD hS hA hl
  replace X : mp_X p s m meth c args RX0 "swap" cX0_swap 4 none := X
  have hx := X.1
  have hb := X.2.1
  have hml := X.2.2.1
  have hown := X.2.2.2.2.1
  have hts := X.2.2.2.2.2.1
  replace hl : lv_has ls 4 [(0, .ref a_), (1, .int x1), (2, .int x2)] := hl
  replace hf : gi_ x1 8 (lt_ (v_trial (x1).toNatClampNeg) (fun (y2 : Int32) => gi_ x2 8 (lt_ (v_trial (x2).toNatClampNeg) (fun (y4 : Int32) => gi_ x1 8 (gi_ x2 8 (some (upd (upd v_trial (x1).toNatClampNeg y4) (x2).toNatClampNeg y2))))))) = some o_trial := hf
  refine lv_aload_n hx hb dX0_swap_0 rfl (lv_at hl 0 rfl) ?_
  refine mp_get X fl_X0_18 hK hP 0 rfl rfl dX0_swap_1 ?_
  refine lv_iload_n hx hb dX0_swap_4 rfl (lv_at hl 1 rfl) ?_
  obtain ⟨h1, hf⟩ := gi_of hf
  refine va_iald hx hb hK hP 1 0 rfl rfl h1 dX0_swap_5 ?_
  refine lv_topi (fun y2 e2 => ?_)
  replace hf := lt_of e2 hf
  refine lv_istore_n (lv' := [(3, .int y2), (0, .ref a_), (1, .int x1), (2, .int x2)]) hx hb dX0_swap_6 rfl hl (by decide) rfl (fun ls hl => ?_)
  refine lv_aload_n hx hb dX0_swap_7 rfl (lv_at hl 1 rfl) ?_
  refine mp_get X fl_X0_18 hK hP 0 rfl rfl dX0_swap_8 ?_
  refine lv_iload_n hx hb dX0_swap_11 rfl (lv_at hl 2 rfl) ?_
  refine lv_aload_n hx hb dX0_swap_12 rfl (lv_at hl 1 rfl) ?_
  refine mp_get X fl_X0_18 hK hP 0 rfl rfl dX0_swap_13 ?_
  refine lv_iload_n hx hb dX0_swap_16 rfl (lv_at hl 3 rfl) ?_
  obtain ⟨h3, hf⟩ := gi_of hf
  refine va_iald hx hb hK hP 1 0 rfl rfl h3 dX0_swap_17 ?_
  refine lv_topi (fun y4 e4 => ?_)
  replace hf := lt_of e4 hf
  obtain ⟨h5, hf⟩ := gi_of hf
  refine va_iast hx hb hK hP (mp_D_of hD rfl) hS 1 0 rfl rfl h5 dX0_swap_18 (fun H locs hP _ hS => ?_)
  replace hP : va_P D mp_cl (k_X0_swap T a_ a_probe a_trial a_best v_bestMany (upd v_trial (x1).toNatClampNeg y4)) H := hP
  refine lv_aload_n hx hb dX0_swap_19 rfl (lv_at hl 1 rfl) ?_
  refine mp_get X fl_X0_18 hK hP 0 rfl rfl dX0_swap_20 ?_
  refine lv_iload_n hx hb dX0_swap_23 rfl (lv_at hl 3 rfl) ?_
  refine lv_iload_n hx hb dX0_swap_24 rfl (lv_at hl 0 rfl) ?_
  obtain ⟨h6, hf⟩ := gi_of hf
  refine va_iast hx hb hK hP (mp_D_of hD rfl) hS 1 0 rfl rfl h6 dX0_swap_25 (fun H locs hP _ hS => ?_)
  replace hP : va_P D mp_cl (k_X0_swap T a_ a_probe a_trial a_best v_bestMany (upd (upd v_trial (x1).toNatClampNeg y4) (x2).toNatClampNeg y2)) H := hP
  cases hf
  exact mp_retv X hP hS dX0_swap_26


def k_X0_permute (T : Nat → ClassId) (a_ a_probe a_trial a_best : Nat) (v_bestMany : Int32) (v_trial : (Nat → Int32)) : va_W := [(a_, oX0 a_probe a_trial a_best v_bestMany), (a_trial, mp_aI T 8 v_trial)]
set_option maxHeartbeats 4000000 in
set_option maxRecDepth 100000 in
theorem w_X0_permute_85 {p : Program} {l : Launch} {e : Env} {s : State} {m : MethodId} {args : Array Value} {below : List Frame} {meth : Method} {c : Code} {D : va_G} {T : Nat → ClassId} {A : Nat → Prop} (X : mp_X p s m meth c args RX0 "permute" cX0_permute 6 (some .boolean)) (hK : va_K D mp_cl (mp_ty T) s) (hA : ∀ q, s.heap.size ≤ q → A q) (fu : Nat) (a_ a_probe a_trial a_best : Nat) (v_bestMany : Int32) (r_ : Int32) (o_trial : (Nat → Int32)) :
    ∀ (n : Nat) (z4 : Int32) (z5 : Int32) (v_trial : (Nat → Int32)), f_X0_permute_85 fu   n z4 z5 v_trial = some (r_, o_trial) → ∀ (H : Heap) (locs : List Loc) (ls : Array Slot), va_P D mp_cl (k_X0_permute T a_ a_probe a_trial a_best v_bestMany v_trial) H → va_D A (k_X0_permute T a_ a_probe a_trial a_best v_bestMany v_trial) → va_S A s.heap H locs → lv_has ls 6 [(0, .ref a_), (4, .int z4), (5, .int z5)] → W p l e ({ frames := 1, cells := 0, slots := 0, locals := 23 }) s m args below meth c H locs 0 0 (MQ below ((mp_Qi D r_ (k_X0_permute T a_ a_probe a_trial a_best v_bestMany o_trial)) A) args s 0 0 A) (F0 m 85 ls []) := by
  have hx := X.1
  have hb := X.2.1
  have hml := X.2.2.1
  have hown := X.2.2.2.2.1
  have hts := X.2.2.2.2.2.1
  intro n
  induction n with
  | zero => intro z4 z5 v_trial hf; exact absurd hf (by intro h; cases h)
  | succ n ih =>
    intro z4 z5 v_trial hf H locs ls hP hD hS hl
    replace hf : (if z5 ≤ z4 then some ((nI 1), v_trial) else bd_ (f_X0_swap z4 z5 v_trial) (fun (u2 : (Nat → Int32)) => lt_ (z4 + (nI 1)) (fun (y4 : Int32) => lt_ (z5 + (-1 : Int32)) (fun (y5 : Int32) => f_X0_permute_85 fu   n y4 y5 u2)))) = some (r_, o_trial) := hf
    refine lv_iload hx hb dX0_permute_85 (lv_at hl 1 rfl) ?_
    refine lv_iload hx hb dX0_permute_87 (lv_at hl 2 rfl) ?_
    refine lv_icmp_ge (tgt := 109) hx hb dX0_permute_89 (by decide) (fun h1 => ?_) (fun h1 => ?_)
    · replace hf := if_t hf h1
      refine lv_iconst (v := (nI 1)) hx hb dX0_permute_109 (by decide) ?_
      cases hf
      exact mp_retz X hP hS rfl (Or.inr rfl) dX0_permute_110
    · replace hf := if_f hf h1
      refine lv_aload_n hx hb dX0_permute_92 rfl (lv_at hl 0 rfl) ?_
      refine lv_iload hx hb dX0_permute_93 (lv_at hl 1 rfl) ?_
      refine lv_iload hx hb dX0_permute_95 (lv_at hl 2 rfl) ?_
      obtain ⟨u2, c3, hf⟩ := bd_of hf
      have hPc := hP.sub (ws' := (k_X0_swap T a_ a_probe a_trial a_best v_bestMany v_trial)) [0, 1] rfl
      have hDc := (mp_D_of (w1 := (k_X0_permute T a_ a_probe a_trial a_best v_bestMany v_trial)) hD rfl).sub (ws' := (k_X0_swap T a_ a_probe a_trial a_best v_bestMany v_trial)) [0, 1] rfl rfl
      refine mp_callv (isC := [0, 1]) (wc := (k_X0_swap T a_ a_probe a_trial a_best v_bestMany v_trial)) (w1 := (k_X0_swap T a_ a_probe a_trial a_best v_bestMany u2)) hP (mp_D_of hD rfl) hS hA rfl rfl (mp_runV (As := [.int z4, .int z5]) (rest := []) X me_X0_swap lk_X0_85 (c_X0_swap l D T a_ a_probe a_trial a_best z4 z5 v_bestMany v_trial u2 c3) rfl rfl ⟨(Nat.le_of_ble_eq_true rfl), (Nat.le_of_ble_eq_true rfl)⟩ hK hPc hDc rfl rfl rfl rfl hl.1 rfl (Nat.le_of_ble_eq_true rfl) dX0_permute_97 ⟨Nat.zero_le _, Nat.zero_le _⟩) (fun H locs hP _ hS => ?_)
      replace hP : va_P D mp_cl (k_X0_permute T a_ a_probe a_trial a_best v_bestMany u2) H := hP
      obtain ⟨y4, e4⟩ : ∃ y : Int32, y = z4 + (nI 1) := ⟨_, rfl⟩
      replace hf := lt_of e4 hf
      refine lv_iinc (v := y4) (lv' := [(4, .int y4), (0, .ref a_), (5, .int z5)]) hx hb dX0_permute_100 hl (k := 1) rfl (by rw [e4]; rfl) (by decide) rfl (fun ls hl => ?_)
      obtain ⟨y5, e5⟩ : ∃ y : Int32, y = z5 + (-1 : Int32) := ⟨_, rfl⟩
      replace hf := lt_of e5 hf
      refine lv_iinc (v := y5) (lv' := [(5, .int y5), (4, .int y4), (0, .ref a_)]) hx hb dX0_permute_103 hl (k := 2) rfl (by rw [e5]; rfl) (by decide) rfl (fun ls hl => ?_)
      refine lv_goto (tgt := 85) hx hb dX0_permute_106 (by decide) ?_
      exact ih y4 y5 u2 hf _ _ _ hP (mp_D_of hD rfl) hS (lv_sub hl [2, 1, 0] rfl)

set_option maxHeartbeats 4000000 in
set_option maxRecDepth 100000 in
theorem w_X0_permute_69 {p : Program} {l : Launch} {e : Env} {s : State} {m : MethodId} {args : Array Value} {below : List Frame} {meth : Method} {c : Code} {D : va_G} {T : Nat → ClassId} {A : Nat → Prop} (X : mp_X p s m meth c args RX0 "permute" cX0_permute 6 (some .boolean)) (hK : va_K D mp_cl (mp_ty T) s) (hA : ∀ q, s.heap.size ≤ q → A q) (fu : Nat) (a_ a_probe a_trial a_best : Nat) (v_bestMany : Int32) (r_ : Int32) (o_trial : (Nat → Int32)) :
    ∀  (z1 : Int32) (z2 : Int32) (z3 : Int32) (v_trial : (Nat → Int32)), f_X0_permute_69 fu   z1 z2 z3 v_trial = some (r_, o_trial) → ∀ (H : Heap) (locs : List Loc) (ls : Array Slot), va_P D mp_cl (k_X0_permute T a_ a_probe a_trial a_best v_bestMany v_trial) H → va_D A (k_X0_permute T a_ a_probe a_trial a_best v_bestMany v_trial) → va_S A s.heap H locs → lv_has ls 6 [(0, .ref a_), (1, .int z1), (2, .int z2), (3, .int z3)] → W p l e ({ frames := 1, cells := 0, slots := 0, locals := 23 }) s m args below meth c H locs 0 0 (MQ below ((mp_Qi D r_ (k_X0_permute T a_ a_probe a_trial a_best v_bestMany o_trial)) A) args s 0 0 A) (F0 m 69 ls []) := by
  have hx := X.1
  have hb := X.2.1
  have hml := X.2.2.1
  have hown := X.2.2.2.2.1
  have hts := X.2.2.2.2.2.1
  intro z1 z2 z3 v_trial hf H locs ls hP hD hS hl
  replace hf : bd_ (f_X0_swap z2 z3 v_trial) (fun (u1 : (Nat → Int32)) => lt_ (z2 + (nI 1)) (fun (y3 : Int32) => lt_ (z1 - (nI 1)) (fun (y4 : Int32) => f_X0_permute_85 fu   fu y3 y4 u1))) = some (r_, o_trial) := hf
  refine lv_aload_n hx hb dX0_permute_69 rfl (lv_at hl 0 rfl) ?_
  refine lv_iload_n hx hb dX0_permute_70 rfl (lv_at hl 2 rfl) ?_
  refine lv_iload_n hx hb dX0_permute_71 rfl (lv_at hl 3 rfl) ?_
  obtain ⟨u1, c2, hf⟩ := bd_of hf
  have hPc := hP.sub (ws' := (k_X0_swap T a_ a_probe a_trial a_best v_bestMany v_trial)) [0, 1] rfl
  have hDc := (mp_D_of (w1 := (k_X0_permute T a_ a_probe a_trial a_best v_bestMany v_trial)) hD rfl).sub (ws' := (k_X0_swap T a_ a_probe a_trial a_best v_bestMany v_trial)) [0, 1] rfl rfl
  refine mp_callv (isC := [0, 1]) (wc := (k_X0_swap T a_ a_probe a_trial a_best v_bestMany v_trial)) (w1 := (k_X0_swap T a_ a_probe a_trial a_best v_bestMany u1)) hP (mp_D_of hD rfl) hS hA rfl rfl (mp_runV (As := [.int z2, .int z3]) (rest := []) X me_X0_swap lk_X0_85 (c_X0_swap l D T a_ a_probe a_trial a_best z2 z3 v_bestMany v_trial u1 c2) rfl rfl ⟨(Nat.le_of_ble_eq_true rfl), (Nat.le_of_ble_eq_true rfl)⟩ hK hPc hDc rfl rfl rfl rfl hl.1 rfl (Nat.le_of_ble_eq_true rfl) dX0_permute_72 ⟨Nat.zero_le _, Nat.zero_le _⟩) (fun H locs hP _ hS => ?_)
  replace hP : va_P D mp_cl (k_X0_permute T a_ a_probe a_trial a_best v_bestMany u1) H := hP
  refine lv_iload_n hx hb dX0_permute_75 rfl (lv_at hl 2 rfl) ?_
  refine lv_iconst (v := (nI 1)) hx hb dX0_permute_76 (by decide) ?_
  refine lv_iadd hx hb dX0_permute_77 ?_
  refine lv_topi (fun y3 e3 => ?_)
  replace hf := lt_of e3 hf
  refine lv_istore (lv' := [(4, .int y3), (0, .ref a_), (1, .int z1), (2, .int z2), (3, .int z3)]) hx hb dX0_permute_78 hl (by decide) rfl (fun ls hl => ?_)
  refine lv_iload_n hx hb dX0_permute_80 rfl (lv_at hl 2 rfl) ?_
  refine lv_iconst (v := (nI 1)) hx hb dX0_permute_81 (by decide) ?_
  refine lv_isub hx hb dX0_permute_82 ?_
  refine lv_topi (fun y4 e4 => ?_)
  replace hf := lt_of e4 hf
  refine lv_istore (lv' := [(5, .int y4), (4, .int y3), (0, .ref a_), (1, .int z1), (2, .int z2), (3, .int z3)]) hx hb dX0_permute_83 hl (by decide) rfl (fun ls hl => ?_)
  exact w_X0_permute_85 X hK hA  fu a_ a_probe a_trial a_best v_bestMany r_ o_trial   fu y3 y4 u1 hf _ _ _ hP (mp_D_of hD rfl) hS (lv_sub hl [2, 1, 0] rfl)

set_option maxHeartbeats 4000000 in
set_option maxRecDepth 100000 in
theorem w_X0_permute_41 {p : Program} {l : Launch} {e : Env} {s : State} {m : MethodId} {args : Array Value} {below : List Frame} {meth : Method} {c : Code} {D : va_G} {T : Nat → ClassId} {A : Nat → Prop} (X : mp_X p s m meth c args RX0 "permute" cX0_permute 6 (some .boolean)) (hK : va_K D mp_cl (mp_ty T) s) (hA : ∀ q, s.heap.size ≤ q → A q) (fu : Nat) (a_ a_probe a_trial a_best : Nat) (v_bestMany : Int32) (r_ : Int32) (o_trial : (Nat → Int32)) :
    ∀ (n : Nat) (z1 : Int32) (z2 : Int32) (z3 : Int32) (v_trial : (Nat → Int32)), f_X0_permute_41 fu   n z1 z2 z3 v_trial = some (r_, o_trial) → ∀ (H : Heap) (locs : List Loc) (ls : Array Slot), va_P D mp_cl (k_X0_permute T a_ a_probe a_trial a_best v_bestMany v_trial) H → va_D A (k_X0_permute T a_ a_probe a_trial a_best v_bestMany v_trial) → va_S A s.heap H locs → lv_has ls 6 [(0, .ref a_), (1, .int z1), (2, .int z2), (3, .int z3)] → W p l e ({ frames := 1, cells := 0, slots := 0, locals := 23 }) s m args below meth c H locs 0 0 (MQ below ((mp_Qi D r_ (k_X0_permute T a_ a_probe a_trial a_best v_bestMany o_trial)) A) args s 0 0 A) (F0 m 41 ls []) := by
  have hx := X.1
  have hb := X.2.1
  have hml := X.2.2.1
  have hown := X.2.2.2.2.1
  have hts := X.2.2.2.2.2.1
  intro n
  induction n with
  | zero => intro z1 z2 z3 v_trial hf; exact absurd hf (by intro h; cases h)
  | succ n ih =>
    intro z1 z2 z3 v_trial hf H locs ls hP hD hS hl
    replace hf : (if z3 ≤ (z2 + (nI 1)) then f_X0_permute_69 fu   z1 z2 z3 v_trial else gi_ z3 8 (gi_ z2 8 ((if (v_trial (z2).toNatClampNeg) ≤ (v_trial (z3).toNatClampNeg) then f_X0_permute_69 fu   z1 z2 z3 v_trial else lt_ (z3 + (-1 : Int32)) (fun (y5 : Int32) => f_X0_permute_41 fu   n z1 z2 y5 v_trial))))) = some (r_, o_trial) := hf
    refine lv_iload_n hx hb dX0_permute_41 rfl (lv_at hl 3 rfl) ?_
    refine lv_iload_n hx hb dX0_permute_42 rfl (lv_at hl 2 rfl) ?_
    refine lv_iconst (v := (nI 1)) hx hb dX0_permute_43 (by decide) ?_
    refine lv_iadd hx hb dX0_permute_44 ?_
    refine lv_icmp_le (tgt := 69) hx hb dX0_permute_45 (by decide) (fun h1 => ?_) (fun h1 => ?_)
    · replace hf := if_t hf h1
      exact w_X0_permute_69 X hK hA  fu a_ a_probe a_trial a_best v_bestMany r_ o_trial   z1 z2 z3 v_trial hf _ _ _ hP (mp_D_of hD rfl) hS (lv_sub hl [0, 1, 2, 3] rfl)
    · replace hf := if_f hf h1
      refine lv_aload_n hx hb dX0_permute_48 rfl (lv_at hl 0 rfl) ?_
      refine mp_get X fl_X0_18 hK hP 0 rfl rfl dX0_permute_49 ?_
      refine lv_iload_n hx hb dX0_permute_52 rfl (lv_at hl 3 rfl) ?_
      obtain ⟨h2, hf⟩ := gi_of hf
      refine va_iald hx hb hK hP 1 0 rfl rfl h2 dX0_permute_53 ?_
      refine lv_aload_n hx hb dX0_permute_54 rfl (lv_at hl 0 rfl) ?_
      refine mp_get X fl_X0_18 hK hP 0 rfl rfl dX0_permute_55 ?_
      refine lv_iload_n hx hb dX0_permute_58 rfl (lv_at hl 2 rfl) ?_
      obtain ⟨h3, hf⟩ := gi_of hf
      refine va_iald hx hb hK hP 1 0 rfl rfl h3 dX0_permute_59 ?_
      refine lv_icmp_ge (tgt := 69) hx hb dX0_permute_60 (by decide) (fun h4 => ?_) (fun h4 => ?_)
      · replace hf := if_t hf h4
        exact w_X0_permute_69 X hK hA  fu a_ a_probe a_trial a_best v_bestMany r_ o_trial   z1 z2 z3 v_trial hf _ _ _ hP (mp_D_of hD rfl) hS (lv_sub hl [0, 1, 2, 3] rfl)
      · replace hf := if_f hf h4
        obtain ⟨y5, e5⟩ : ∃ y : Int32, y = z3 + (-1 : Int32) := ⟨_, rfl⟩
        replace hf := lt_of e5 hf
        refine lv_iinc (v := y5) (lv' := [(3, .int y5), (0, .ref a_), (1, .int z1), (2, .int z2)]) hx hb dX0_permute_63 hl (k := 3) rfl (by rw [e5]; rfl) (by decide) rfl (fun ls hl => ?_)
        refine lv_goto (tgt := 41) hx hb dX0_permute_66 (by decide) ?_
        exact ih z1 z2 y5 v_trial hf _ _ _ hP (mp_D_of hD rfl) hS (lv_sub hl [1, 2, 3, 0] rfl)

set_option maxHeartbeats 4000000 in
set_option maxRecDepth 100000 in
theorem w_X0_permute_4 {p : Program} {l : Launch} {e : Env} {s : State} {m : MethodId} {args : Array Value} {below : List Frame} {meth : Method} {c : Code} {D : va_G} {T : Nat → ClassId} {A : Nat → Prop} (X : mp_X p s m meth c args RX0 "permute" cX0_permute 6 (some .boolean)) (hK : va_K D mp_cl (mp_ty T) s) (hA : ∀ q, s.heap.size ≤ q → A q) (fu : Nat) (a_ a_probe a_trial a_best : Nat) (v_bestMany : Int32) (r_ : Int32) (o_trial : (Nat → Int32)) :
    ∀ (n : Nat) (z1 : Int32) (z2 : Int32) (v_trial : (Nat → Int32)), f_X0_permute_4 fu   n z1 z2 v_trial = some (r_, o_trial) → ∀ (H : Heap) (locs : List Loc) (ls : Array Slot), va_P D mp_cl (k_X0_permute T a_ a_probe a_trial a_best v_bestMany v_trial) H → va_D A (k_X0_permute T a_ a_probe a_trial a_best v_bestMany v_trial) → va_S A s.heap H locs → lv_has ls 6 [(0, .ref a_), (1, .int z1), (2, .int z2)] → W p l e ({ frames := 1, cells := 0, slots := 0, locals := 23 }) s m args below meth c H locs 0 0 (MQ below ((mp_Qi D r_ (k_X0_permute T a_ a_probe a_trial a_best v_bestMany o_trial)) A) args s 0 0 A) (F0 m 4 ls []) := by
  have hx := X.1
  have hb := X.2.1
  have hml := X.2.2.1
  have hown := X.2.2.2.2.1
  have hts := X.2.2.2.2.2.1
  intro n
  induction n with
  | zero => intro z1 z2 v_trial hf; exact absurd hf (by intro h; cases h)
  | succ n ih =>
    intro z1 z2 v_trial hf H locs ls hP hD hS hl
    replace hf : (if z2 < 0 then (if 0 ≤ z2 then lt_ (z1 - (nI 1)) (fun (y3 : Int32) => f_X0_permute_41 fu   fu z1 z2 y3 v_trial) else some ((nI 0), v_trial)) else gi_ z2 8 (gi_ (z2 + (nI 1)) 8 ((if (v_trial (z2).toNatClampNeg) ≤ (v_trial (z2 + (nI 1)).toNatClampNeg) then (if 0 ≤ z2 then lt_ (z1 - (nI 1)) (fun (y8 : Int32) => f_X0_permute_41 fu   fu z1 z2 y8 v_trial) else some ((nI 0), v_trial)) else lt_ (z2 + (-1 : Int32)) (fun (y9 : Int32) => f_X0_permute_4 fu   n z1 y9 v_trial))))) = some (r_, o_trial) := hf
    refine lv_iload_n hx hb dX0_permute_4 rfl (lv_at hl 2 rfl) ?_
    refine lv_if_lt (tgt := 31) hx hb dX0_permute_5 (by decide) (fun h1 => ?_) (fun h1 => ?_)
    · replace hf := if_t hf h1
      refine lv_iload_n hx hb dX0_permute_31 rfl (lv_at hl 2 rfl) ?_
      refine lv_if_ge (tgt := 37) hx hb dX0_permute_32 (by decide) (fun h2 => ?_) (fun h2 => ?_)
      · replace hf := if_t hf h2
        refine lv_iload_n hx hb dX0_permute_37 rfl (lv_at hl 1 rfl) ?_
        refine lv_iconst (v := (nI 1)) hx hb dX0_permute_38 (by decide) ?_
        refine lv_isub hx hb dX0_permute_39 ?_
        refine lv_topi (fun y3 e3 => ?_)
        replace hf := lt_of e3 hf
        refine lv_istore_n (lv' := [(3, .int y3), (0, .ref a_), (1, .int z1), (2, .int z2)]) hx hb dX0_permute_40 rfl hl (by decide) rfl (fun ls hl => ?_)
        exact w_X0_permute_41 X hK hA  fu a_ a_probe a_trial a_best v_bestMany r_ o_trial   fu z1 z2 y3 v_trial hf _ _ _ hP (mp_D_of hD rfl) hS (lv_sub hl [1, 2, 3, 0] rfl)
      · replace hf := if_f hf h2
        refine lv_iconst (v := (nI 0)) hx hb dX0_permute_35 (by decide) ?_
        cases hf
        exact mp_retz X hP hS rfl (Or.inl rfl) dX0_permute_36
    · replace hf := if_f hf h1
      refine lv_aload_n hx hb dX0_permute_8 rfl (lv_at hl 0 rfl) ?_
      refine mp_get X fl_X0_18 hK hP 0 rfl rfl dX0_permute_9 ?_
      refine lv_iload_n hx hb dX0_permute_12 rfl (lv_at hl 2 rfl) ?_
      obtain ⟨h4, hf⟩ := gi_of hf
      refine va_iald hx hb hK hP 1 0 rfl rfl h4 dX0_permute_13 ?_
      refine lv_aload_n hx hb dX0_permute_14 rfl (lv_at hl 0 rfl) ?_
      refine mp_get X fl_X0_18 hK hP 0 rfl rfl dX0_permute_15 ?_
      refine lv_iload_n hx hb dX0_permute_18 rfl (lv_at hl 2 rfl) ?_
      refine lv_iconst (v := (nI 1)) hx hb dX0_permute_19 (by decide) ?_
      refine lv_iadd hx hb dX0_permute_20 ?_
      obtain ⟨h5, hf⟩ := gi_of hf
      refine va_iald hx hb hK hP 1 0 rfl rfl h5 dX0_permute_21 ?_
      refine lv_icmp_le (tgt := 31) hx hb dX0_permute_22 (by decide) (fun h6 => ?_) (fun h6 => ?_)
      · replace hf := if_t hf h6
        refine lv_iload_n hx hb dX0_permute_31 rfl (lv_at hl 2 rfl) ?_
        refine lv_if_ge (tgt := 37) hx hb dX0_permute_32 (by decide) (fun h7 => ?_) (fun h7 => ?_)
        · replace hf := if_t hf h7
          refine lv_iload_n hx hb dX0_permute_37 rfl (lv_at hl 1 rfl) ?_
          refine lv_iconst (v := (nI 1)) hx hb dX0_permute_38 (by decide) ?_
          refine lv_isub hx hb dX0_permute_39 ?_
          refine lv_topi (fun y8 e8 => ?_)
          replace hf := lt_of e8 hf
          refine lv_istore_n (lv' := [(3, .int y8), (0, .ref a_), (1, .int z1), (2, .int z2)]) hx hb dX0_permute_40 rfl hl (by decide) rfl (fun ls hl => ?_)
          exact w_X0_permute_41 X hK hA  fu a_ a_probe a_trial a_best v_bestMany r_ o_trial   fu z1 z2 y8 v_trial hf _ _ _ hP (mp_D_of hD rfl) hS (lv_sub hl [1, 2, 3, 0] rfl)
        · replace hf := if_f hf h7
          refine lv_iconst (v := (nI 0)) hx hb dX0_permute_35 (by decide) ?_
          cases hf
          exact mp_retz X hP hS rfl (Or.inl rfl) dX0_permute_36
      · replace hf := if_f hf h6
        obtain ⟨y9, e9⟩ : ∃ y : Int32, y = z2 + (-1 : Int32) := ⟨_, rfl⟩
        replace hf := lt_of e9 hf
        refine lv_iinc (v := y9) (lv' := [(2, .int y9), (0, .ref a_), (1, .int z1)]) hx hb dX0_permute_25 hl (k := 2) rfl (by rw [e9]; rfl) (by decide) rfl (fun ls hl => ?_)
        refine lv_goto (tgt := 4) hx hb dX0_permute_28 (by decide) ?_
        exact ih z1 y9 v_trial hf _ _ _ hP (mp_D_of hD rfl) hS (lv_sub hl [1, 2, 0] rfl)

set_option maxHeartbeats 4000000 in
set_option maxRecDepth 100000 in
theorem c_X0_permute (l : Launch) (D : va_G) (T : Nat → ClassId) (fu : Nat) (a_ a_probe a_trial a_best : Nat) (x1 : Int32) (v_bestMany : Int32) (v_trial : (Nat → Int32)) (r_ : Int32) (o_trial : (Nat → Int32)) (hf : f_X0_permute fu x1 v_trial = some (r_, o_trial)) :
    mp_M l D T yX0_permute cX0_permute 6 (some .boolean) ({ frames := 1, cells := 0, slots := 0, locals := 23 }) 0 0 [.ref a_, .int x1] (k_X0_permute T a_ a_probe a_trial a_best v_bestMany v_trial) (mp_Qi D r_ (k_X0_permute T a_ a_probe a_trial a_best v_bestMany o_trial)) := by
  refine mp_of (by decide) (Nat.le_of_ble_eq_true rfl) rfl ?_
  intro p e s m args below meth c A ls X hK hP hD hS hA hl
  replace X : mp_X p s m meth c args RX0 "permute" cX0_permute 6 (some .boolean) := X
  have hx := X.1
  have hb := X.2.1
  have hml := X.2.2.1
  have hown := X.2.2.2.2.1
  have hts := X.2.2.2.2.2.1
  replace hl : lv_has ls 6 [(0, .ref a_), (1, .int x1)] := hl
  replace hf : lt_ (x1 - (nI 2)) (fun (y1 : Int32) => f_X0_permute_4 fu   fu x1 y1 v_trial) = some (r_, o_trial) := hf
  refine lv_iload_n hx hb dX0_permute_0 rfl (lv_at hl 1 rfl) ?_
  refine lv_iconst (v := (nI 2)) hx hb dX0_permute_1 (by decide) ?_
  refine lv_isub hx hb dX0_permute_2 ?_
  refine lv_topi (fun y1 e1 => ?_)
  replace hf := lt_of e1 hf
  refine lv_istore_n (lv' := [(2, .int y1), (0, .ref a_), (1, .int x1)]) hx hb dX0_permute_3 rfl hl (by decide) rfl (fun ls hl => ?_)
  exact w_X0_permute_4 X hK hA  fu a_ a_probe a_trial a_best v_bestMany r_ o_trial   fu x1 y1 v_trial hf _ _ _ hP (mp_D_of hD rfl) hS (lv_sub hl [1, 2, 0] rfl)


def k_X0_seekBest (T : Nat → ClassId) (a_ a_probe a_trial a_best a_probe_order a_probe_knows a_probe_made a_probe_sixteenths a_probe_dots a_probe_used a_probe_stands a_p1 a_p1_cellNames a_p1_secretNames a_p1_pageNames a_p1_speed a_p1_letters a_p1_room a_p1_now a_p1_rounds a_p1_now_order a_p1_now_knows a_p1_now_made a_p1_now_sixteenths a_p1_now_dots a_p1_now_used a_p1_now_stands : Nat) (v_bestMany : Int32) (v_best : (Nat → Int32)) (v_probe_inOrder : Int32) (v_probe_place : Int32) (v_probe_ill : Int32) (v_probe_shut : Int32) (v_probe_turns : Int32) (v_probe_madeInAll : Int32) (v_probe_dots : (Nat → Int32)) (v_probe_knows : (Nat → Int32)) (v_probe_made : (Nat → Int32)) (v_probe_order : (Nat → Int32)) (v_probe_sixteenths : (Nat → Int32)) (v_probe_stands : (Nat → Int32)) (v_probe_used : (Nat → Int32)) (v_trial : (Nat → Int32)) (v_p1_cells : Int32) (v_p1_secrets : Int32) (v_p1_pages : Int32) (v_p1_blind : Int32) (v_p1_rubs : Int32) (v_p1_letters : (Nat → Int32)) (v_p1_now_inOrder : Int32) (v_p1_now_place : Int32) (v_p1_now_ill : Int32) (v_p1_now_shut : Int32) (v_p1_now_turns : Int32) (v_p1_now_madeInAll : Int32) (v_p1_now_dots : (Nat → Int32)) (v_p1_now_knows : (Nat → Int32)) (v_p1_now_made : (Nat → Int32)) (v_p1_now_order : (Nat → Int32)) (v_p1_now_sixteenths : (Nat → Int32)) (v_p1_now_stands : (Nat → Int32)) (v_p1_now_used : (Nat → Int32)) (v_p1_room : (Nat → Int32)) (v_p1_speed : (Nat → Int32)) : va_W := [(a_, oX0 a_probe a_trial a_best v_bestMany), (a_best, mp_aI T 6 v_best), (a_probe, oX7 a_probe_order v_probe_inOrder v_probe_place a_probe_knows a_probe_made a_probe_sixteenths a_probe_dots a_probe_used a_probe_stands v_probe_ill v_probe_shut v_probe_turns v_probe_madeInAll), (a_probe_dots, mp_aI T 36 v_probe_dots), (a_probe_knows, mp_aI T 8 v_probe_knows), (a_probe_made, mp_aI T 8 v_probe_made), (a_probe_order, mp_aI T 8 v_probe_order), (a_probe_sixteenths, mp_aI T 6 v_probe_sixteenths), (a_probe_stands, mp_aI T 6 v_probe_stands), (a_probe_used, mp_aI T 6 v_probe_used), (a_trial, mp_aI T 8 v_trial), (a_p1, oX1 v_p1_cells v_p1_secrets v_p1_pages a_p1_cellNames a_p1_secretNames a_p1_pageNames a_p1_speed v_p1_blind v_p1_rubs a_p1_letters a_p1_room a_p1_now a_p1_rounds), (a_p1_letters, mp_aI T 6 v_p1_letters), (a_p1_now, oX7 a_p1_now_order v_p1_now_inOrder v_p1_now_place a_p1_now_knows a_p1_now_made a_p1_now_sixteenths a_p1_now_dots a_p1_now_used a_p1_now_stands v_p1_now_ill v_p1_now_shut v_p1_now_turns v_p1_now_madeInAll), (a_p1_now_dots, mp_aI T 36 v_p1_now_dots), (a_p1_now_knows, mp_aI T 8 v_p1_now_knows), (a_p1_now_made, mp_aI T 8 v_p1_now_made), (a_p1_now_order, mp_aI T 8 v_p1_now_order), (a_p1_now_sixteenths, mp_aI T 6 v_p1_now_sixteenths), (a_p1_now_stands, mp_aI T 6 v_p1_now_stands), (a_p1_now_used, mp_aI T 6 v_p1_now_used), (a_p1_room, mp_aI T 6 v_p1_room), (a_p1_speed, mp_aI T 8 v_p1_speed)]
set_option maxHeartbeats 4000000 in
set_option maxRecDepth 100000 in
theorem w_X0_seekBest_33 {p : Program} {l : Launch} {e : Env} {s : State} {m : MethodId} {args : Array Value} {below : List Frame} {meth : Method} {c : Code} {D : va_G} {T : Nat → ClassId} {A : Nat → Prop} (X : mp_X p s m meth c args RX0 "seekBest" cX0_seekBest 7 (some .int)) (hK : va_K D mp_cl (mp_ty T) s) (hA : ∀ q, s.heap.size ≤ q → A q) (fu : Nat) (a_ a_probe a_trial a_best a_probe_order a_probe_knows a_probe_made a_probe_sixteenths a_probe_dots a_probe_used a_probe_stands a_p1 a_p1_cellNames a_p1_secretNames a_p1_pageNames a_p1_speed a_p1_letters a_p1_room a_p1_now a_p1_rounds a_p1_now_order a_p1_now_knows a_p1_now_made a_p1_now_sixteenths a_p1_now_dots a_p1_now_used a_p1_now_stands : Nat) (v_p1_cells : Int32) (v_p1_secrets : Int32) (v_p1_pages : Int32) (v_p1_blind : Int32) (v_p1_rubs : Int32) (v_p1_letters : (Nat → Int32)) (v_p1_now_inOrder : Int32) (v_p1_now_place : Int32) (v_p1_now_ill : Int32) (v_p1_now_shut : Int32) (v_p1_now_turns : Int32) (v_p1_now_madeInAll : Int32) (v_p1_now_dots : (Nat → Int32)) (v_p1_now_knows : (Nat → Int32)) (v_p1_now_made : (Nat → Int32)) (v_p1_now_order : (Nat → Int32)) (v_p1_now_sixteenths : (Nat → Int32)) (v_p1_now_stands : (Nat → Int32)) (v_p1_now_used : (Nat → Int32)) (v_p1_room : (Nat → Int32)) (v_p1_speed : (Nat → Int32)) (r_ : Int32) (o_bestMany : Int32) (o_best : (Nat → Int32)) (o_probe_inOrder : Int32) (o_probe_place : Int32) (o_probe_ill : Int32) (o_probe_shut : Int32) (o_probe_turns : Int32) (o_probe_madeInAll : Int32) (o_probe_dots : (Nat → Int32)) (o_probe_knows : (Nat → Int32)) (o_probe_made : (Nat → Int32)) (o_probe_order : (Nat → Int32)) (o_probe_sixteenths : (Nat → Int32)) (o_probe_stands : (Nat → Int32)) (o_probe_used : (Nat → Int32)) (o_trial : (Nat → Int32)) :
    ∀ (n : Nat) (z2 : Int32) (z3 : Int32) (z4 : Int32) (z5 : Int32) (v_bestMany : Int32) (v_best : (Nat → Int32)) (v_probe_inOrder : Int32) (v_probe_place : Int32) (v_probe_ill : Int32) (v_probe_shut : Int32) (v_probe_turns : Int32) (v_probe_madeInAll : Int32) (v_probe_dots : (Nat → Int32)) (v_probe_knows : (Nat → Int32)) (v_probe_made : (Nat → Int32)) (v_probe_order : (Nat → Int32)) (v_probe_sixteenths : (Nat → Int32)) (v_probe_stands : (Nat → Int32)) (v_probe_used : (Nat → Int32)) (v_trial : (Nat → Int32)), f_X0_seekBest_33 fu v_p1_cells v_p1_secrets v_p1_pages v_p1_blind v_p1_rubs v_p1_letters v_p1_now_inOrder v_p1_now_place v_p1_now_ill v_p1_now_shut v_p1_now_turns v_p1_now_madeInAll v_p1_now_dots v_p1_now_knows v_p1_now_made v_p1_now_order v_p1_now_sixteenths v_p1_now_stands v_p1_now_used v_p1_room v_p1_speed  n z2 z3 z4 z5 v_bestMany v_best v_probe_inOrder v_probe_place v_probe_ill v_probe_shut v_probe_turns v_probe_madeInAll v_probe_dots v_probe_knows v_probe_made v_probe_order v_probe_sixteenths v_probe_stands v_probe_used v_trial = some (r_, o_bestMany, o_best, o_probe_inOrder, o_probe_place, o_probe_ill, o_probe_shut, o_probe_turns, o_probe_madeInAll, o_probe_dots, o_probe_knows, o_probe_made, o_probe_order, o_probe_sixteenths, o_probe_stands, o_probe_used, o_trial) → ∀ (H : Heap) (locs : List Loc) (ls : Array Slot), va_P D mp_cl (k_X0_seekBest T a_ a_probe a_trial a_best a_probe_order a_probe_knows a_probe_made a_probe_sixteenths a_probe_dots a_probe_used a_probe_stands a_p1 a_p1_cellNames a_p1_secretNames a_p1_pageNames a_p1_speed a_p1_letters a_p1_room a_p1_now a_p1_rounds a_p1_now_order a_p1_now_knows a_p1_now_made a_p1_now_sixteenths a_p1_now_dots a_p1_now_used a_p1_now_stands v_bestMany v_best v_probe_inOrder v_probe_place v_probe_ill v_probe_shut v_probe_turns v_probe_madeInAll v_probe_dots v_probe_knows v_probe_made v_probe_order v_probe_sixteenths v_probe_stands v_probe_used v_trial v_p1_cells v_p1_secrets v_p1_pages v_p1_blind v_p1_rubs v_p1_letters v_p1_now_inOrder v_p1_now_place v_p1_now_ill v_p1_now_shut v_p1_now_turns v_p1_now_madeInAll v_p1_now_dots v_p1_now_knows v_p1_now_made v_p1_now_order v_p1_now_sixteenths v_p1_now_stands v_p1_now_used v_p1_room v_p1_speed) H → va_D A (k_X0_seekBest T a_ a_probe a_trial a_best a_probe_order a_probe_knows a_probe_made a_probe_sixteenths a_probe_dots a_probe_used a_probe_stands a_p1 a_p1_cellNames a_p1_secretNames a_p1_pageNames a_p1_speed a_p1_letters a_p1_room a_p1_now a_p1_rounds a_p1_now_order a_p1_now_knows a_p1_now_made a_p1_now_sixteenths a_p1_now_dots a_p1_now_used a_p1_now_stands v_bestMany v_best v_probe_inOrder v_probe_place v_probe_ill v_probe_shut v_probe_turns v_probe_madeInAll v_probe_dots v_probe_knows v_probe_made v_probe_order v_probe_sixteenths v_probe_stands v_probe_used v_trial v_p1_cells v_p1_secrets v_p1_pages v_p1_blind v_p1_rubs v_p1_letters v_p1_now_inOrder v_p1_now_place v_p1_now_ill v_p1_now_shut v_p1_now_turns v_p1_now_madeInAll v_p1_now_dots v_p1_now_knows v_p1_now_made v_p1_now_order v_p1_now_sixteenths v_p1_now_stands v_p1_now_used v_p1_room v_p1_speed) → va_S A s.heap H locs → lv_has ls 7 [(0, .ref a_), (1, .ref a_p1), (2, .int z2), (3, .int z3), (4, .int z4), (5, .int z5)] → W p l e ({ frames := 5, cells := 0, slots := 0, locals := 143 }) s m args below meth c H locs 0 0 (MQ below ((mp_Qi D r_ (k_X0_seekBest T a_ a_probe a_trial a_best a_probe_order a_probe_knows a_probe_made a_probe_sixteenths a_probe_dots a_probe_used a_probe_stands a_p1 a_p1_cellNames a_p1_secretNames a_p1_pageNames a_p1_speed a_p1_letters a_p1_room a_p1_now a_p1_rounds a_p1_now_order a_p1_now_knows a_p1_now_made a_p1_now_sixteenths a_p1_now_dots a_p1_now_used a_p1_now_stands o_bestMany o_best o_probe_inOrder o_probe_place o_probe_ill o_probe_shut o_probe_turns o_probe_madeInAll o_probe_dots o_probe_knows o_probe_made o_probe_order o_probe_sixteenths o_probe_stands o_probe_used o_trial v_p1_cells v_p1_secrets v_p1_pages v_p1_blind v_p1_rubs v_p1_letters v_p1_now_inOrder v_p1_now_place v_p1_now_ill v_p1_now_shut v_p1_now_turns v_p1_now_madeInAll v_p1_now_dots v_p1_now_knows v_p1_now_made v_p1_now_order v_p1_now_sixteenths v_p1_now_stands v_p1_now_used v_p1_room v_p1_speed)) A) args s 0 0 A) (F0 m 33 ls []) := by
  have hx := X.1
  have hb := X.2.1
  have hml := X.2.2.1
  have hown := X.2.2.2.2.1
  have hts := X.2.2.2.2.2.1
  intro n
  induction n with
  | zero => intro z2 z3 z4 z5 v_bestMany v_best v_probe_inOrder v_probe_place v_probe_ill v_probe_shut v_probe_turns v_probe_madeInAll v_probe_dots v_probe_knows v_probe_made v_probe_order v_probe_sixteenths v_probe_stands v_probe_used v_trial hf; exact absurd hf (by intro h; cases h)
  | succ n ih =>
    intro z2 z3 z4 z5 v_bestMany v_best v_probe_inOrder v_probe_place v_probe_ill v_probe_shut v_probe_turns v_probe_madeInAll v_probe_dots v_probe_knows v_probe_made v_probe_order v_probe_sixteenths v_probe_stands v_probe_used v_trial hf H locs ls hP hD hS hl
    replace hf : (if (nI 720) ≤ z5 then (if z3 ≤ (nI 99) then some (z3, v_bestMany, v_best, v_probe_inOrder, v_probe_place, v_probe_ill, v_probe_shut, v_probe_turns, v_probe_madeInAll, v_probe_dots, v_probe_knows, v_probe_made, v_probe_order, v_probe_sixteenths, v_probe_stands, v_probe_used, v_trial) else some ((-1 : Int32), v_bestMany, v_best, v_probe_inOrder, v_probe_place, v_probe_ill, v_probe_shut, v_probe_turns, v_probe_madeInAll, v_probe_dots, v_probe_knows, v_probe_made, v_probe_order, v_probe_sixteenths, v_probe_stands, v_probe_used, v_trial)) else (if z4 = 0 then (if z3 ≤ (nI 99) then some (z3, v_bestMany, v_best, v_probe_inOrder, v_probe_place, v_probe_ill, v_probe_shut, v_probe_turns, v_probe_madeInAll, v_probe_dots, v_probe_knows, v_probe_made, v_probe_order, v_probe_sixteenths, v_probe_stands, v_probe_used, v_trial) else some ((-1 : Int32), v_bestMany, v_best, v_probe_inOrder, v_probe_place, v_probe_ill, v_probe_shut, v_probe_turns, v_probe_madeInAll, v_probe_dots, v_probe_knows, v_probe_made, v_probe_order, v_probe_sixteenths, v_probe_stands, v_probe_used, v_trial)) else (if z3 ≤ 0 then (if z3 ≤ (nI 99) then some (z3, v_bestMany, v_best, v_probe_inOrder, v_probe_place, v_probe_ill, v_probe_shut, v_probe_turns, v_probe_madeInAll, v_probe_dots, v_probe_knows, v_probe_made, v_probe_order, v_probe_sixteenths, v_probe_stands, v_probe_used, v_trial) else some ((-1 : Int32), v_bestMany, v_best, v_probe_inOrder, v_probe_place, v_probe_ill, v_probe_shut, v_probe_turns, v_probe_madeInAll, v_probe_dots, v_probe_knows, v_probe_made, v_probe_order, v_probe_sixteenths, v_probe_stands, v_probe_used, v_trial)) else bd_ (f_X7_copyFrom v_probe_inOrder v_probe_place v_probe_ill v_probe_shut v_probe_turns v_probe_madeInAll v_probe_dots v_probe_knows v_probe_made v_probe_order v_probe_sixteenths v_probe_stands v_probe_used v_p1_now_inOrder v_p1_now_place v_p1_now_ill v_p1_now_shut v_p1_now_turns v_p1_now_madeInAll v_p1_now_dots v_p1_now_knows v_p1_now_made v_p1_now_order v_p1_now_sixteenths v_p1_now_stands v_p1_now_used) (fun (z : Int32 × Int32 × Int32 × Int32 × Int32 × Int32 × (Nat → Int32) × (Nat → Int32) × (Nat → Int32) × (Nat → Int32) × (Nat → Int32) × (Nat → Int32) × (Nat → Int32)) => match z with | (u7, u8, u9, u10, u11, u12, u13, u14, u15, u16, u17, u18, u19) => bd_ (f_X7_orderAnew 8 u7 u8 u16 v_trial) (fun (z : Int32 × (Nat → Int32)) => match z with | (u21, u22) => bd_ (f_X1_seeing v_p1_cells v_p1_blind) (fun (r24 : Int32) => bd_ (f_X1_allSecrets v_p1_secrets) (fun (r26 : Int32) => bd_ (f_X0_probeTill fu r24 r26 (z3 - (nI 1)) u7 u21 u9 u10 u11 u12 u13 u14 u15 u22 u18 u19 v_p1_secrets v_p1_pages v_p1_blind v_p1_rubs v_p1_letters v_p1_room v_p1_speed) (fun (z : Int32 × Int32 × Int32 × Int32 × (Nat → Int32) × (Nat → Int32) × (Nat → Int32) × (Nat → Int32) × (Nat → Int32)) => match z with | (r28, u29, u30, u31, u32, u33, u34, u35, u36) => (if r28 = (-1 : Int32) then bd_ (f_X0_permute fu z2 v_trial) (fun (z : Int32 × (Nat → Int32)) => match z with | (r39, u40) => lt_ (z5 + (nI 1)) (fun (y42 : Int32) => f_X0_seekBest_33 fu v_p1_cells v_p1_secrets v_p1_pages v_p1_blind v_p1_rubs v_p1_letters v_p1_now_inOrder v_p1_now_place v_p1_now_ill v_p1_now_shut v_p1_now_turns v_p1_now_madeInAll v_p1_now_dots v_p1_now_knows v_p1_now_made v_p1_now_order v_p1_now_sixteenths v_p1_now_stands v_p1_now_used v_p1_room v_p1_speed  n z2 z3 r39 y42 v_bestMany v_best u7 u29 u9 u10 u30 u31 u32 u33 u34 u22 u17 u35 u36 u40)) else gc_ (nI 0) (nI 0) z2 8 6 (bd_ (f_X0_permute fu z2 v_trial) (fun (z : Int32 × (Nat → Int32)) => match z with | (r44, u45) => lt_ (z5 + (nI 1)) (fun (y47 : Int32) => f_X0_seekBest_33 fu v_p1_cells v_p1_secrets v_p1_pages v_p1_blind v_p1_rubs v_p1_letters v_p1_now_inOrder v_p1_now_place v_p1_now_ill v_p1_now_shut v_p1_now_turns v_p1_now_madeInAll v_p1_now_dots v_p1_now_knows v_p1_now_made v_p1_now_order v_p1_now_sixteenths v_p1_now_stands v_p1_now_used v_p1_room v_p1_speed  n z2 r28 r44 y47 z2 (va_cpy v_trial v_best ((nI 0)).toNatClampNeg ((nI 0)).toNatClampNeg (z2).toNatClampNeg) u7 u29 u9 u10 u30 u31 u32 u33 u34 u22 u17 u35 u36 u45)))))))))))) = some (r_, o_bestMany, o_best, o_probe_inOrder, o_probe_place, o_probe_ill, o_probe_shut, o_probe_turns, o_probe_madeInAll, o_probe_dots, o_probe_knows, o_probe_made, o_probe_order, o_probe_sixteenths, o_probe_stands, o_probe_used, o_trial) := hf
    refine lv_iload hx hb dX0_seekBest_33 (lv_at hl 5 rfl) ?_
    refine lv_sipush (v := (nI 720)) hx hb dX0_seekBest_35 (by decide) ?_
    refine lv_icmp_ge (tgt := 131) hx hb dX0_seekBest_38 (by decide) (fun h1 => ?_) (fun h1 => ?_)
    · replace hf := if_t hf h1
      refine lv_iload_n hx hb dX0_seekBest_131 rfl (lv_at hl 3 rfl) ?_
      refine lv_bipush (v := (nI 99)) hx hb dX0_seekBest_132 (by decide) ?_
      refine lv_icmp_le (tgt := 141) hx hb dX0_seekBest_134 (by decide) (fun h2 => ?_) (fun h2 => ?_)
      · replace hf := if_t hf h2
        refine lv_iload_n hx hb dX0_seekBest_141 rfl (lv_at hl 3 rfl) ?_
        cases hf
        exact mp_reti X hP hS rfl dX0_seekBest_142
      · replace hf := if_f hf h2
        refine lv_iconst (v := (-1 : Int32)) hx hb dX0_seekBest_137 (by decide) ?_
        refine lv_goto (tgt := 142) hx hb dX0_seekBest_138 (by decide) ?_
        cases hf
        exact mp_reti X hP hS rfl dX0_seekBest_142
    · replace hf := if_f hf h1
      refine lv_iload hx hb dX0_seekBest_41 (lv_at hl 4 rfl) ?_
      refine lv_if_eq (tgt := 131) hx hb dX0_seekBest_43 (by decide) (fun h3 => ?_) (fun h3 => ?_)
      · replace hf := if_t hf h3
        refine lv_iload_n hx hb dX0_seekBest_131 rfl (lv_at hl 3 rfl) ?_
        refine lv_bipush (v := (nI 99)) hx hb dX0_seekBest_132 (by decide) ?_
        refine lv_icmp_le (tgt := 141) hx hb dX0_seekBest_134 (by decide) (fun h4 => ?_) (fun h4 => ?_)
        · replace hf := if_t hf h4
          refine lv_iload_n hx hb dX0_seekBest_141 rfl (lv_at hl 3 rfl) ?_
          cases hf
          exact mp_reti X hP hS rfl dX0_seekBest_142
        · replace hf := if_f hf h4
          refine lv_iconst (v := (-1 : Int32)) hx hb dX0_seekBest_137 (by decide) ?_
          refine lv_goto (tgt := 142) hx hb dX0_seekBest_138 (by decide) ?_
          cases hf
          exact mp_reti X hP hS rfl dX0_seekBest_142
      · replace hf := if_f hf h3
        refine lv_iload_n hx hb dX0_seekBest_46 rfl (lv_at hl 3 rfl) ?_
        refine lv_if_le (tgt := 131) hx hb dX0_seekBest_47 (by decide) (fun h5 => ?_) (fun h5 => ?_)
        · replace hf := if_t hf h5
          refine lv_iload_n hx hb dX0_seekBest_131 rfl (lv_at hl 3 rfl) ?_
          refine lv_bipush (v := (nI 99)) hx hb dX0_seekBest_132 (by decide) ?_
          refine lv_icmp_le (tgt := 141) hx hb dX0_seekBest_134 (by decide) (fun h6 => ?_) (fun h6 => ?_)
          · replace hf := if_t hf h6
            refine lv_iload_n hx hb dX0_seekBest_141 rfl (lv_at hl 3 rfl) ?_
            cases hf
            exact mp_reti X hP hS rfl dX0_seekBest_142
          · replace hf := if_f hf h6
            refine lv_iconst (v := (-1 : Int32)) hx hb dX0_seekBest_137 (by decide) ?_
            refine lv_goto (tgt := 142) hx hb dX0_seekBest_138 (by decide) ?_
            cases hf
            exact mp_reti X hP hS rfl dX0_seekBest_142
        · replace hf := if_f hf h5
          refine lv_aload_n hx hb dX0_seekBest_50 rfl (lv_at hl 0 rfl) ?_
          refine mp_get X fl_X0_12 hK hP 0 rfl rfl dX0_seekBest_51 ?_
          refine lv_aload_n hx hb dX0_seekBest_54 rfl (lv_at hl 1 rfl) ?_
          refine mp_get X fl_X0_29 hK hP 11 rfl rfl dX0_seekBest_55 ?_
          obtain ⟨⟨u7, u8, u9, u10, u11, u12, u13, u14, u15, u16, u17, u18, u19⟩, c20, hf⟩ := bd_of hf
          dsimp only at hf
          have hPc := hP.sub (ws' := (k_X7_copyFrom T a_probe a_probe_order a_probe_knows a_probe_made a_probe_sixteenths a_probe_dots a_probe_used a_probe_stands a_p1_now a_p1_now_order a_p1_now_knows a_p1_now_made a_p1_now_sixteenths a_p1_now_dots a_p1_now_used a_p1_now_stands v_probe_inOrder v_probe_place v_probe_ill v_probe_shut v_probe_turns v_probe_madeInAll v_probe_dots v_probe_knows v_probe_made v_probe_order v_probe_sixteenths v_probe_stands v_probe_used v_p1_now_inOrder v_p1_now_place v_p1_now_ill v_p1_now_shut v_p1_now_turns v_p1_now_madeInAll v_p1_now_dots v_p1_now_knows v_p1_now_made v_p1_now_order v_p1_now_sixteenths v_p1_now_stands v_p1_now_used)) [2, 3, 4, 5, 6, 7, 8, 9, 13, 14, 15, 16, 17, 18, 19, 20] rfl
          have hDc := (mp_D_of (w1 := (k_X0_seekBest T a_ a_probe a_trial a_best a_probe_order a_probe_knows a_probe_made a_probe_sixteenths a_probe_dots a_probe_used a_probe_stands a_p1 a_p1_cellNames a_p1_secretNames a_p1_pageNames a_p1_speed a_p1_letters a_p1_room a_p1_now a_p1_rounds a_p1_now_order a_p1_now_knows a_p1_now_made a_p1_now_sixteenths a_p1_now_dots a_p1_now_used a_p1_now_stands v_bestMany v_best v_probe_inOrder v_probe_place v_probe_ill v_probe_shut v_probe_turns v_probe_madeInAll v_probe_dots v_probe_knows v_probe_made v_probe_order v_probe_sixteenths v_probe_stands v_probe_used v_trial v_p1_cells v_p1_secrets v_p1_pages v_p1_blind v_p1_rubs v_p1_letters v_p1_now_inOrder v_p1_now_place v_p1_now_ill v_p1_now_shut v_p1_now_turns v_p1_now_madeInAll v_p1_now_dots v_p1_now_knows v_p1_now_made v_p1_now_order v_p1_now_sixteenths v_p1_now_stands v_p1_now_used v_p1_room v_p1_speed)) hD rfl).sub (ws' := (k_X7_copyFrom T a_probe a_probe_order a_probe_knows a_probe_made a_probe_sixteenths a_probe_dots a_probe_used a_probe_stands a_p1_now a_p1_now_order a_p1_now_knows a_p1_now_made a_p1_now_sixteenths a_p1_now_dots a_p1_now_used a_p1_now_stands v_probe_inOrder v_probe_place v_probe_ill v_probe_shut v_probe_turns v_probe_madeInAll v_probe_dots v_probe_knows v_probe_made v_probe_order v_probe_sixteenths v_probe_stands v_probe_used v_p1_now_inOrder v_p1_now_place v_p1_now_ill v_p1_now_shut v_p1_now_turns v_p1_now_madeInAll v_p1_now_dots v_p1_now_knows v_p1_now_made v_p1_now_order v_p1_now_sixteenths v_p1_now_stands v_p1_now_used)) [2, 3, 4, 5, 6, 7, 8, 9, 13, 14, 15, 16, 17, 18, 19, 20] rfl rfl
          refine mp_callv (isC := [2, 3, 4, 5, 6, 7, 8, 9, 13, 14, 15, 16, 17, 18, 19, 20]) (wc := (k_X7_copyFrom T a_probe a_probe_order a_probe_knows a_probe_made a_probe_sixteenths a_probe_dots a_probe_used a_probe_stands a_p1_now a_p1_now_order a_p1_now_knows a_p1_now_made a_p1_now_sixteenths a_p1_now_dots a_p1_now_used a_p1_now_stands v_probe_inOrder v_probe_place v_probe_ill v_probe_shut v_probe_turns v_probe_madeInAll v_probe_dots v_probe_knows v_probe_made v_probe_order v_probe_sixteenths v_probe_stands v_probe_used v_p1_now_inOrder v_p1_now_place v_p1_now_ill v_p1_now_shut v_p1_now_turns v_p1_now_madeInAll v_p1_now_dots v_p1_now_knows v_p1_now_made v_p1_now_order v_p1_now_sixteenths v_p1_now_stands v_p1_now_used)) (w1 := (k_X7_copyFrom T a_probe a_probe_order a_probe_knows a_probe_made a_probe_sixteenths a_probe_dots a_probe_used a_probe_stands a_p1_now a_p1_now_order a_p1_now_knows a_p1_now_made a_p1_now_sixteenths a_p1_now_dots a_p1_now_used a_p1_now_stands u7 u8 u9 u10 u11 u12 u13 u14 u15 u16 u17 u18 u19 v_p1_now_inOrder v_p1_now_place v_p1_now_ill v_p1_now_shut v_p1_now_turns v_p1_now_madeInAll v_p1_now_dots v_p1_now_knows v_p1_now_made v_p1_now_order v_p1_now_sixteenths v_p1_now_stands v_p1_now_used)) hP (mp_D_of hD rfl) hS hA rfl rfl (mp_runV (As := [.ref a_p1_now]) (rest := []) X me_X7_copyFrom lk_X0_34 (c_X7_copyFrom l D T a_probe a_probe_order a_probe_knows a_probe_made a_probe_sixteenths a_probe_dots a_probe_used a_probe_stands a_p1_now a_p1_now_order a_p1_now_knows a_p1_now_made a_p1_now_sixteenths a_p1_now_dots a_p1_now_used a_p1_now_stands v_probe_inOrder v_probe_place v_probe_ill v_probe_shut v_probe_turns v_probe_madeInAll v_probe_dots v_probe_knows v_probe_made v_probe_order v_probe_sixteenths v_probe_stands v_probe_used v_p1_now_inOrder v_p1_now_place v_p1_now_ill v_p1_now_shut v_p1_now_turns v_p1_now_madeInAll v_p1_now_dots v_p1_now_knows v_p1_now_made v_p1_now_order v_p1_now_sixteenths v_p1_now_stands v_p1_now_used u7 u8 u9 u10 u11 u12 u13 u14 u15 u16 u17 u18 u19 c20) rfl rfl ⟨(Nat.le_of_ble_eq_true rfl), (Nat.le_of_ble_eq_true rfl)⟩ hK hPc hDc rfl rfl rfl rfl hl.1 rfl (Nat.le_of_ble_eq_true rfl) dX0_seekBest_58 ⟨Nat.zero_le _, Nat.zero_le _⟩) (fun H locs hP _ hS => ?_)
          replace hP : va_P D mp_cl (k_X0_seekBest T a_ a_probe a_trial a_best a_probe_order a_probe_knows a_probe_made a_probe_sixteenths a_probe_dots a_probe_used a_probe_stands a_p1 a_p1_cellNames a_p1_secretNames a_p1_pageNames a_p1_speed a_p1_letters a_p1_room a_p1_now a_p1_rounds a_p1_now_order a_p1_now_knows a_p1_now_made a_p1_now_sixteenths a_p1_now_dots a_p1_now_used a_p1_now_stands v_bestMany v_best u7 u8 u9 u10 u11 u12 u13 u14 u15 u16 u17 u18 u19 v_trial v_p1_cells v_p1_secrets v_p1_pages v_p1_blind v_p1_rubs v_p1_letters v_p1_now_inOrder v_p1_now_place v_p1_now_ill v_p1_now_shut v_p1_now_turns v_p1_now_madeInAll v_p1_now_dots v_p1_now_knows v_p1_now_made v_p1_now_order v_p1_now_sixteenths v_p1_now_stands v_p1_now_used v_p1_room v_p1_speed) H := hP
          refine lv_aload_n hx hb dX0_seekBest_61 rfl (lv_at hl 0 rfl) ?_
          refine mp_get X fl_X0_12 hK hP 0 rfl rfl dX0_seekBest_62 ?_
          refine lv_aload_n hx hb dX0_seekBest_65 rfl (lv_at hl 0 rfl) ?_
          refine mp_get X fl_X0_18 hK hP 0 rfl rfl dX0_seekBest_66 ?_
          obtain ⟨⟨u21, u22⟩, c23, hf⟩ := bd_of hf
          dsimp only at hf
          have hPc := hP.sub (ws' := (k_X7_orderAnew T a_probe a_probe_order a_probe_knows a_probe_made a_probe_sixteenths a_probe_dots a_probe_used a_probe_stands a_trial 8 u7 u8 u9 u10 u11 u12 u16 v_trial)) [2, 6, 10] rfl
          have hDc := (mp_D_of (w1 := (k_X0_seekBest T a_ a_probe a_trial a_best a_probe_order a_probe_knows a_probe_made a_probe_sixteenths a_probe_dots a_probe_used a_probe_stands a_p1 a_p1_cellNames a_p1_secretNames a_p1_pageNames a_p1_speed a_p1_letters a_p1_room a_p1_now a_p1_rounds a_p1_now_order a_p1_now_knows a_p1_now_made a_p1_now_sixteenths a_p1_now_dots a_p1_now_used a_p1_now_stands v_bestMany v_best u7 u8 u9 u10 u11 u12 u13 u14 u15 u16 u17 u18 u19 v_trial v_p1_cells v_p1_secrets v_p1_pages v_p1_blind v_p1_rubs v_p1_letters v_p1_now_inOrder v_p1_now_place v_p1_now_ill v_p1_now_shut v_p1_now_turns v_p1_now_madeInAll v_p1_now_dots v_p1_now_knows v_p1_now_made v_p1_now_order v_p1_now_sixteenths v_p1_now_stands v_p1_now_used v_p1_room v_p1_speed)) hD rfl).sub (ws' := (k_X7_orderAnew T a_probe a_probe_order a_probe_knows a_probe_made a_probe_sixteenths a_probe_dots a_probe_used a_probe_stands a_trial 8 u7 u8 u9 u10 u11 u12 u16 v_trial)) [2, 6, 10] rfl rfl
          refine mp_callv (isC := [2, 6, 10]) (wc := (k_X7_orderAnew T a_probe a_probe_order a_probe_knows a_probe_made a_probe_sixteenths a_probe_dots a_probe_used a_probe_stands a_trial 8 u7 u8 u9 u10 u11 u12 u16 v_trial)) (w1 := (k_X7_orderAnew T a_probe a_probe_order a_probe_knows a_probe_made a_probe_sixteenths a_probe_dots a_probe_used a_probe_stands a_trial 8 u7 u21 u9 u10 u11 u12 u22 v_trial)) hP (mp_D_of hD rfl) hS hA rfl rfl (mp_runV (As := [.ref a_trial]) (rest := []) X me_X7_orderAnew lk_X0_60 (c_X7_orderAnew l D T a_probe a_probe_order a_probe_knows a_probe_made a_probe_sixteenths a_probe_dots a_probe_used a_probe_stands a_trial 8 u9 u10 u11 u12 u7 u8 u16 v_trial u21 u22 c23) rfl rfl ⟨(Nat.le_of_ble_eq_true rfl), (Nat.le_of_ble_eq_true rfl)⟩ hK hPc hDc rfl rfl rfl rfl hl.1 rfl (Nat.le_of_ble_eq_true rfl) dX0_seekBest_69 ⟨Nat.zero_le _, Nat.zero_le _⟩) (fun H locs hP _ hS => ?_)
          replace hP : va_P D mp_cl (k_X0_seekBest T a_ a_probe a_trial a_best a_probe_order a_probe_knows a_probe_made a_probe_sixteenths a_probe_dots a_probe_used a_probe_stands a_p1 a_p1_cellNames a_p1_secretNames a_p1_pageNames a_p1_speed a_p1_letters a_p1_room a_p1_now a_p1_rounds a_p1_now_order a_p1_now_knows a_p1_now_made a_p1_now_sixteenths a_p1_now_dots a_p1_now_used a_p1_now_stands v_bestMany v_best u7 u21 u9 u10 u11 u12 u13 u14 u15 u22 u17 u18 u19 v_trial v_p1_cells v_p1_secrets v_p1_pages v_p1_blind v_p1_rubs v_p1_letters v_p1_now_inOrder v_p1_now_place v_p1_now_ill v_p1_now_shut v_p1_now_turns v_p1_now_madeInAll v_p1_now_dots v_p1_now_knows v_p1_now_made v_p1_now_order v_p1_now_sixteenths v_p1_now_stands v_p1_now_used v_p1_room v_p1_speed) H := hP
          refine lv_aload_n hx hb dX0_seekBest_72 rfl (lv_at hl 0 rfl) ?_
          refine lv_aload_n hx hb dX0_seekBest_73 rfl (lv_at hl 1 rfl) ?_
          refine lv_aload_n hx hb dX0_seekBest_74 rfl (lv_at hl 1 rfl) ?_
          obtain ⟨r24, c25, hf⟩ := bd_of hf
          have hPc := hP.sub (ws' := (k_X1_seeing T a_p1 a_p1_cellNames a_p1_secretNames a_p1_pageNames a_p1_speed a_p1_letters a_p1_room a_p1_now a_p1_rounds v_p1_cells v_p1_secrets v_p1_pages v_p1_blind v_p1_rubs)) [11] rfl
          have hDc := (mp_D_of (w1 := (k_X0_seekBest T a_ a_probe a_trial a_best a_probe_order a_probe_knows a_probe_made a_probe_sixteenths a_probe_dots a_probe_used a_probe_stands a_p1 a_p1_cellNames a_p1_secretNames a_p1_pageNames a_p1_speed a_p1_letters a_p1_room a_p1_now a_p1_rounds a_p1_now_order a_p1_now_knows a_p1_now_made a_p1_now_sixteenths a_p1_now_dots a_p1_now_used a_p1_now_stands v_bestMany v_best u7 u21 u9 u10 u11 u12 u13 u14 u15 u22 u17 u18 u19 v_trial v_p1_cells v_p1_secrets v_p1_pages v_p1_blind v_p1_rubs v_p1_letters v_p1_now_inOrder v_p1_now_place v_p1_now_ill v_p1_now_shut v_p1_now_turns v_p1_now_madeInAll v_p1_now_dots v_p1_now_knows v_p1_now_made v_p1_now_order v_p1_now_sixteenths v_p1_now_stands v_p1_now_used v_p1_room v_p1_speed)) hD rfl).sub (ws' := (k_X1_seeing T a_p1 a_p1_cellNames a_p1_secretNames a_p1_pageNames a_p1_speed a_p1_letters a_p1_room a_p1_now a_p1_rounds v_p1_cells v_p1_secrets v_p1_pages v_p1_blind v_p1_rubs)) [11] rfl rfl
          refine mp_calli (isC := [11]) (wc := (k_X1_seeing T a_p1 a_p1_cellNames a_p1_secretNames a_p1_pageNames a_p1_speed a_p1_letters a_p1_room a_p1_now a_p1_rounds v_p1_cells v_p1_secrets v_p1_pages v_p1_blind v_p1_rubs)) (w1 := (k_X1_seeing T a_p1 a_p1_cellNames a_p1_secretNames a_p1_pageNames a_p1_speed a_p1_letters a_p1_room a_p1_now a_p1_rounds v_p1_cells v_p1_secrets v_p1_pages v_p1_blind v_p1_rubs)) hP (mp_D_of hD rfl) hS hA rfl rfl (mp_runV (As := []) (rest := [.ref a_p1, .ref a_]) X me_X1_seeing lk_X0_64 (c_X1_seeing l D T a_p1 a_p1_cellNames a_p1_secretNames a_p1_pageNames a_p1_speed a_p1_letters a_p1_room a_p1_now a_p1_rounds v_p1_secrets v_p1_pages v_p1_rubs v_p1_cells v_p1_blind r24 c25) rfl rfl ⟨(Nat.le_of_ble_eq_true rfl), (Nat.le_of_ble_eq_true rfl)⟩ hK hPc hDc rfl rfl rfl rfl hl.1 rfl (Nat.le_of_ble_eq_true rfl) dX0_seekBest_75 ⟨Nat.zero_le _, Nat.zero_le _⟩) (fun H locs hP _ hS => ?_)
          replace hP : va_P D mp_cl (k_X0_seekBest T a_ a_probe a_trial a_best a_probe_order a_probe_knows a_probe_made a_probe_sixteenths a_probe_dots a_probe_used a_probe_stands a_p1 a_p1_cellNames a_p1_secretNames a_p1_pageNames a_p1_speed a_p1_letters a_p1_room a_p1_now a_p1_rounds a_p1_now_order a_p1_now_knows a_p1_now_made a_p1_now_sixteenths a_p1_now_dots a_p1_now_used a_p1_now_stands v_bestMany v_best u7 u21 u9 u10 u11 u12 u13 u14 u15 u22 u17 u18 u19 v_trial v_p1_cells v_p1_secrets v_p1_pages v_p1_blind v_p1_rubs v_p1_letters v_p1_now_inOrder v_p1_now_place v_p1_now_ill v_p1_now_shut v_p1_now_turns v_p1_now_madeInAll v_p1_now_dots v_p1_now_knows v_p1_now_made v_p1_now_order v_p1_now_sixteenths v_p1_now_stands v_p1_now_used v_p1_room v_p1_speed) H := hP
          refine lv_aload_n hx hb dX0_seekBest_78 rfl (lv_at hl 1 rfl) ?_
          obtain ⟨r26, c27, hf⟩ := bd_of hf
          have hPc := hP.sub (ws' := (k_X1_allSecrets T a_p1 a_p1_cellNames a_p1_secretNames a_p1_pageNames a_p1_speed a_p1_letters a_p1_room a_p1_now a_p1_rounds v_p1_cells v_p1_secrets v_p1_pages v_p1_blind v_p1_rubs)) [11] rfl
          have hDc := (mp_D_of (w1 := (k_X0_seekBest T a_ a_probe a_trial a_best a_probe_order a_probe_knows a_probe_made a_probe_sixteenths a_probe_dots a_probe_used a_probe_stands a_p1 a_p1_cellNames a_p1_secretNames a_p1_pageNames a_p1_speed a_p1_letters a_p1_room a_p1_now a_p1_rounds a_p1_now_order a_p1_now_knows a_p1_now_made a_p1_now_sixteenths a_p1_now_dots a_p1_now_used a_p1_now_stands v_bestMany v_best u7 u21 u9 u10 u11 u12 u13 u14 u15 u22 u17 u18 u19 v_trial v_p1_cells v_p1_secrets v_p1_pages v_p1_blind v_p1_rubs v_p1_letters v_p1_now_inOrder v_p1_now_place v_p1_now_ill v_p1_now_shut v_p1_now_turns v_p1_now_madeInAll v_p1_now_dots v_p1_now_knows v_p1_now_made v_p1_now_order v_p1_now_sixteenths v_p1_now_stands v_p1_now_used v_p1_room v_p1_speed)) hD rfl).sub (ws' := (k_X1_allSecrets T a_p1 a_p1_cellNames a_p1_secretNames a_p1_pageNames a_p1_speed a_p1_letters a_p1_room a_p1_now a_p1_rounds v_p1_cells v_p1_secrets v_p1_pages v_p1_blind v_p1_rubs)) [11] rfl rfl
          refine mp_calli (isC := [11]) (wc := (k_X1_allSecrets T a_p1 a_p1_cellNames a_p1_secretNames a_p1_pageNames a_p1_speed a_p1_letters a_p1_room a_p1_now a_p1_rounds v_p1_cells v_p1_secrets v_p1_pages v_p1_blind v_p1_rubs)) (w1 := (k_X1_allSecrets T a_p1 a_p1_cellNames a_p1_secretNames a_p1_pageNames a_p1_speed a_p1_letters a_p1_room a_p1_now a_p1_rounds v_p1_cells v_p1_secrets v_p1_pages v_p1_blind v_p1_rubs)) hP (mp_D_of hD rfl) hS hA rfl rfl (mp_runV (As := []) (rest := [.int r24, .ref a_p1, .ref a_]) X me_X1_allSecrets lk_X0_68 (c_X1_allSecrets l D T a_p1 a_p1_cellNames a_p1_secretNames a_p1_pageNames a_p1_speed a_p1_letters a_p1_room a_p1_now a_p1_rounds v_p1_cells v_p1_pages v_p1_blind v_p1_rubs v_p1_secrets r26 c27) rfl rfl ⟨(Nat.le_of_ble_eq_true rfl), (Nat.le_of_ble_eq_true rfl)⟩ hK hPc hDc rfl rfl rfl rfl hl.1 rfl (Nat.le_of_ble_eq_true rfl) dX0_seekBest_79 ⟨Nat.zero_le _, Nat.zero_le _⟩) (fun H locs hP _ hS => ?_)
          replace hP : va_P D mp_cl (k_X0_seekBest T a_ a_probe a_trial a_best a_probe_order a_probe_knows a_probe_made a_probe_sixteenths a_probe_dots a_probe_used a_probe_stands a_p1 a_p1_cellNames a_p1_secretNames a_p1_pageNames a_p1_speed a_p1_letters a_p1_room a_p1_now a_p1_rounds a_p1_now_order a_p1_now_knows a_p1_now_made a_p1_now_sixteenths a_p1_now_dots a_p1_now_used a_p1_now_stands v_bestMany v_best u7 u21 u9 u10 u11 u12 u13 u14 u15 u22 u17 u18 u19 v_trial v_p1_cells v_p1_secrets v_p1_pages v_p1_blind v_p1_rubs v_p1_letters v_p1_now_inOrder v_p1_now_place v_p1_now_ill v_p1_now_shut v_p1_now_turns v_p1_now_madeInAll v_p1_now_dots v_p1_now_knows v_p1_now_made v_p1_now_order v_p1_now_sixteenths v_p1_now_stands v_p1_now_used v_p1_room v_p1_speed) H := hP
          refine lv_iload_n hx hb dX0_seekBest_82 rfl (lv_at hl 3 rfl) ?_
          refine lv_iconst (v := (nI 1)) hx hb dX0_seekBest_83 (by decide) ?_
          refine lv_isub hx hb dX0_seekBest_84 ?_
          obtain ⟨⟨r28, u29, u30, u31, u32, u33, u34, u35, u36⟩, c37, hf⟩ := bd_of hf
          dsimp only at hf
          have hPc := hP.sub (ws' := (k_X0_probeTill T a_ a_probe a_trial a_best a_probe_order a_probe_knows a_probe_made a_probe_sixteenths a_probe_dots a_probe_used a_probe_stands a_p1 a_p1_cellNames a_p1_secretNames a_p1_pageNames a_p1_speed a_p1_letters a_p1_room a_p1_now a_p1_rounds v_bestMany u7 u21 u9 u10 u11 u12 u13 u14 u15 u22 u18 u19 v_p1_cells v_p1_secrets v_p1_pages v_p1_blind v_p1_rubs v_p1_letters v_p1_room v_p1_speed)) [0, 2, 3, 4, 5, 6, 8, 9, 11, 12, 21, 22] rfl
          have hDc := (mp_D_of (w1 := (k_X0_seekBest T a_ a_probe a_trial a_best a_probe_order a_probe_knows a_probe_made a_probe_sixteenths a_probe_dots a_probe_used a_probe_stands a_p1 a_p1_cellNames a_p1_secretNames a_p1_pageNames a_p1_speed a_p1_letters a_p1_room a_p1_now a_p1_rounds a_p1_now_order a_p1_now_knows a_p1_now_made a_p1_now_sixteenths a_p1_now_dots a_p1_now_used a_p1_now_stands v_bestMany v_best u7 u21 u9 u10 u11 u12 u13 u14 u15 u22 u17 u18 u19 v_trial v_p1_cells v_p1_secrets v_p1_pages v_p1_blind v_p1_rubs v_p1_letters v_p1_now_inOrder v_p1_now_place v_p1_now_ill v_p1_now_shut v_p1_now_turns v_p1_now_madeInAll v_p1_now_dots v_p1_now_knows v_p1_now_made v_p1_now_order v_p1_now_sixteenths v_p1_now_stands v_p1_now_used v_p1_room v_p1_speed)) hD rfl).sub (ws' := (k_X0_probeTill T a_ a_probe a_trial a_best a_probe_order a_probe_knows a_probe_made a_probe_sixteenths a_probe_dots a_probe_used a_probe_stands a_p1 a_p1_cellNames a_p1_secretNames a_p1_pageNames a_p1_speed a_p1_letters a_p1_room a_p1_now a_p1_rounds v_bestMany u7 u21 u9 u10 u11 u12 u13 u14 u15 u22 u18 u19 v_p1_cells v_p1_secrets v_p1_pages v_p1_blind v_p1_rubs v_p1_letters v_p1_room v_p1_speed)) [0, 2, 3, 4, 5, 6, 8, 9, 11, 12, 21, 22] rfl rfl
          refine mp_calli (isC := [0, 2, 3, 4, 5, 6, 8, 9, 11, 12, 21, 22]) (wc := (k_X0_probeTill T a_ a_probe a_trial a_best a_probe_order a_probe_knows a_probe_made a_probe_sixteenths a_probe_dots a_probe_used a_probe_stands a_p1 a_p1_cellNames a_p1_secretNames a_p1_pageNames a_p1_speed a_p1_letters a_p1_room a_p1_now a_p1_rounds v_bestMany u7 u21 u9 u10 u11 u12 u13 u14 u15 u22 u18 u19 v_p1_cells v_p1_secrets v_p1_pages v_p1_blind v_p1_rubs v_p1_letters v_p1_room v_p1_speed)) (w1 := (k_X0_probeTill T a_ a_probe a_trial a_best a_probe_order a_probe_knows a_probe_made a_probe_sixteenths a_probe_dots a_probe_used a_probe_stands a_p1 a_p1_cellNames a_p1_secretNames a_p1_pageNames a_p1_speed a_p1_letters a_p1_room a_p1_now a_p1_rounds v_bestMany u7 u29 u9 u10 u30 u31 u32 u33 u34 u22 u35 u36 v_p1_cells v_p1_secrets v_p1_pages v_p1_blind v_p1_rubs v_p1_letters v_p1_room v_p1_speed)) hP (mp_D_of hD rfl) hS hA rfl rfl (mp_runV (As := [.ref a_p1, .int r24, .int r26, .int (z3 - (nI 1))]) (rest := []) X me_X0_probeTill lk_X0_38 (c_X0_probeTill l D T fu a_ a_probe a_trial a_best a_probe_order a_probe_knows a_probe_made a_probe_sixteenths a_probe_dots a_probe_used a_probe_stands a_p1 a_p1_cellNames a_p1_secretNames a_p1_pageNames a_p1_speed a_p1_letters a_p1_room a_p1_now a_p1_rounds r24 r26 (z3 - (nI 1)) v_bestMany v_p1_cells u7 u21 u9 u10 u11 u12 u13 u14 u15 u22 u18 u19 v_p1_secrets v_p1_pages v_p1_blind v_p1_rubs v_p1_letters v_p1_room v_p1_speed r28 u29 u30 u31 u32 u33 u34 u35 u36 c37) rfl rfl ⟨(Nat.le_of_ble_eq_true rfl), (Nat.le_of_ble_eq_true rfl)⟩ hK hPc hDc rfl rfl rfl rfl hl.1 rfl (Nat.le_of_ble_eq_true rfl) dX0_seekBest_85 ⟨Nat.zero_le _, Nat.zero_le _⟩) (fun H locs hP _ hS => ?_)
          replace hP : va_P D mp_cl (k_X0_seekBest T a_ a_probe a_trial a_best a_probe_order a_probe_knows a_probe_made a_probe_sixteenths a_probe_dots a_probe_used a_probe_stands a_p1 a_p1_cellNames a_p1_secretNames a_p1_pageNames a_p1_speed a_p1_letters a_p1_room a_p1_now a_p1_rounds a_p1_now_order a_p1_now_knows a_p1_now_made a_p1_now_sixteenths a_p1_now_dots a_p1_now_used a_p1_now_stands v_bestMany v_best u7 u29 u9 u10 u30 u31 u32 u33 u34 u22 u17 u35 u36 v_trial v_p1_cells v_p1_secrets v_p1_pages v_p1_blind v_p1_rubs v_p1_letters v_p1_now_inOrder v_p1_now_place v_p1_now_ill v_p1_now_shut v_p1_now_turns v_p1_now_madeInAll v_p1_now_dots v_p1_now_knows v_p1_now_made v_p1_now_order v_p1_now_sixteenths v_p1_now_stands v_p1_now_used v_p1_room v_p1_speed) H := hP
          refine lv_istore (lv' := [(6, .int r28), (0, .ref a_), (1, .ref a_p1), (2, .int z2), (3, .int z3), (4, .int z4), (5, .int z5)]) hx hb dX0_seekBest_88 hl (by decide) rfl (fun ls hl => ?_)
          refine lv_iload hx hb dX0_seekBest_90 (lv_at hl 0 rfl) ?_
          refine lv_iconst (v := (-1 : Int32)) hx hb dX0_seekBest_92 (by decide) ?_
          refine lv_icmp_eq (tgt := 118) hx hb dX0_seekBest_93 (by decide) (fun h38 => ?_) (fun h38 => ?_)
          · replace hf := if_t hf h38
            refine lv_aload_n hx hb dX0_seekBest_118 rfl (lv_at hl 1 rfl) ?_
            refine lv_iload_n hx hb dX0_seekBest_119 rfl (lv_at hl 3 rfl) ?_
            obtain ⟨⟨r39, u40⟩, c41, hf⟩ := bd_of hf
            dsimp only at hf
            have hPc := hP.sub (ws' := (k_X0_permute T a_ a_probe a_trial a_best v_bestMany v_trial)) [0, 10] rfl
            have hDc := (mp_D_of (w1 := (k_X0_seekBest T a_ a_probe a_trial a_best a_probe_order a_probe_knows a_probe_made a_probe_sixteenths a_probe_dots a_probe_used a_probe_stands a_p1 a_p1_cellNames a_p1_secretNames a_p1_pageNames a_p1_speed a_p1_letters a_p1_room a_p1_now a_p1_rounds a_p1_now_order a_p1_now_knows a_p1_now_made a_p1_now_sixteenths a_p1_now_dots a_p1_now_used a_p1_now_stands v_bestMany v_best u7 u29 u9 u10 u30 u31 u32 u33 u34 u22 u17 u35 u36 v_trial v_p1_cells v_p1_secrets v_p1_pages v_p1_blind v_p1_rubs v_p1_letters v_p1_now_inOrder v_p1_now_place v_p1_now_ill v_p1_now_shut v_p1_now_turns v_p1_now_madeInAll v_p1_now_dots v_p1_now_knows v_p1_now_made v_p1_now_order v_p1_now_sixteenths v_p1_now_stands v_p1_now_used v_p1_room v_p1_speed)) hD rfl).sub (ws' := (k_X0_permute T a_ a_probe a_trial a_best v_bestMany v_trial)) [0, 10] rfl rfl
            refine mp_calli (isC := [0, 10]) (wc := (k_X0_permute T a_ a_probe a_trial a_best v_bestMany v_trial)) (w1 := (k_X0_permute T a_ a_probe a_trial a_best v_bestMany u40)) hP (mp_D_of hD rfl) hS hA rfl rfl (mp_runV (As := [.int z2]) (rest := []) X me_X0_permute lk_X0_77 (c_X0_permute l D T fu a_ a_probe a_trial a_best z2 v_bestMany v_trial r39 u40 c41) rfl rfl ⟨(Nat.le_of_ble_eq_true rfl), (Nat.le_of_ble_eq_true rfl)⟩ hK hPc hDc rfl rfl rfl rfl hl.1 rfl (Nat.le_of_ble_eq_true rfl) dX0_seekBest_120 ⟨Nat.zero_le _, Nat.zero_le _⟩) (fun H locs hP _ hS => ?_)
            replace hP : va_P D mp_cl (k_X0_seekBest T a_ a_probe a_trial a_best a_probe_order a_probe_knows a_probe_made a_probe_sixteenths a_probe_dots a_probe_used a_probe_stands a_p1 a_p1_cellNames a_p1_secretNames a_p1_pageNames a_p1_speed a_p1_letters a_p1_room a_p1_now a_p1_rounds a_p1_now_order a_p1_now_knows a_p1_now_made a_p1_now_sixteenths a_p1_now_dots a_p1_now_used a_p1_now_stands v_bestMany v_best u7 u29 u9 u10 u30 u31 u32 u33 u34 u22 u17 u35 u36 u40 v_p1_cells v_p1_secrets v_p1_pages v_p1_blind v_p1_rubs v_p1_letters v_p1_now_inOrder v_p1_now_place v_p1_now_ill v_p1_now_shut v_p1_now_turns v_p1_now_madeInAll v_p1_now_dots v_p1_now_knows v_p1_now_made v_p1_now_order v_p1_now_sixteenths v_p1_now_stands v_p1_now_used v_p1_room v_p1_speed) H := hP
            refine lv_istore (lv' := [(4, .int r39), (6, .int r28), (0, .ref a_), (1, .ref a_p1), (2, .int z2), (3, .int z3), (5, .int z5)]) hx hb dX0_seekBest_123 hl (by decide) rfl (fun ls hl => ?_)
            obtain ⟨y42, e42⟩ : ∃ y : Int32, y = z5 + (nI 1) := ⟨_, rfl⟩
            replace hf := lt_of e42 hf
            refine lv_iinc (v := y42) (lv' := [(5, .int y42), (4, .int r39), (6, .int r28), (0, .ref a_), (1, .ref a_p1), (2, .int z2), (3, .int z3)]) hx hb dX0_seekBest_125 hl (k := 6) rfl (by rw [e42]; rfl) (by decide) rfl (fun ls hl => ?_)
            refine lv_goto (tgt := 33) hx hb dX0_seekBest_128 (by decide) ?_
            exact ih z2 z3 r39 y42 v_bestMany v_best u7 u29 u9 u10 u30 u31 u32 u33 u34 u22 u17 u35 u36 u40 hf _ _ _ hP (mp_D_of hD rfl) hS (lv_sub hl [3, 4, 5, 6, 1, 0] rfl)
          · replace hf := if_f hf h38
            refine lv_iload hx hb dX0_seekBest_96 (lv_at hl 0 rfl) ?_
            refine lv_istore_n (lv' := [(3, .int r28), (6, .int r28), (0, .ref a_), (1, .ref a_p1), (2, .int z2), (4, .int z4), (5, .int z5)]) hx hb dX0_seekBest_98 rfl hl (by decide) rfl (fun ls hl => ?_)
            refine lv_aload_n hx hb dX0_seekBest_99 rfl (lv_at hl 2 rfl) ?_
            refine lv_iload_n hx hb dX0_seekBest_100 rfl (lv_at hl 4 rfl) ?_
            refine mp_putf X fl_X0_25 fp_X0 rfl hK hP (mp_D_of hD rfl) hS 0 rfl rfl rfl (Nat.le_of_ble_eq_true rfl) dX0_seekBest_101 (fun H locs hP _ hS => ?_)
            replace hP : va_P D mp_cl (k_X0_seekBest T a_ a_probe a_trial a_best a_probe_order a_probe_knows a_probe_made a_probe_sixteenths a_probe_dots a_probe_used a_probe_stands a_p1 a_p1_cellNames a_p1_secretNames a_p1_pageNames a_p1_speed a_p1_letters a_p1_room a_p1_now a_p1_rounds a_p1_now_order a_p1_now_knows a_p1_now_made a_p1_now_sixteenths a_p1_now_dots a_p1_now_used a_p1_now_stands z2 v_best u7 u29 u9 u10 u30 u31 u32 u33 u34 u22 u17 u35 u36 v_trial v_p1_cells v_p1_secrets v_p1_pages v_p1_blind v_p1_rubs v_p1_letters v_p1_now_inOrder v_p1_now_place v_p1_now_ill v_p1_now_shut v_p1_now_turns v_p1_now_madeInAll v_p1_now_dots v_p1_now_knows v_p1_now_made v_p1_now_order v_p1_now_sixteenths v_p1_now_stands v_p1_now_used v_p1_room v_p1_speed) H := hP
            refine lv_aload_n hx hb dX0_seekBest_104 rfl (lv_at hl 2 rfl) ?_
            refine mp_get X fl_X0_18 hK hP 0 rfl rfl dX0_seekBest_105 ?_
            refine lv_iconst (v := (nI 0)) hx hb dX0_seekBest_108 (by decide) ?_
            refine lv_aload_n hx hb dX0_seekBest_109 rfl (lv_at hl 2 rfl) ?_
            refine mp_get X fl_X0_22 hK hP 0 rfl rfl dX0_seekBest_110 ?_
            refine lv_iconst (v := (nI 0)) hx hb dX0_seekBest_113 (by decide) ?_
            refine lv_iload_n hx hb dX0_seekBest_114 rfl (lv_at hl 4 rfl) ?_
            obtain ⟨h43, hf⟩ := gc_of hf
            refine va_copyi hx hb (hml.trans hl.1.symm) hown (hts _ lk_X0_71_ac) (hts _ ac_nat) (hts _ ac_stat) (hts _ ac_ini) hK hP (mp_D_of hD rfl) hS 10 1 0 0 rfl rfl rfl rfl rfl h43.1 h43.2.1 h43.2.2.1 h43.2.2.2.1 h43.2.2.2.2 (fun _ _ => rfl) (Nat.le_of_ble_eq_true rfl) (Nat.le_of_ble_eq_true rfl) dX0_seekBest_115 (fun H locs hP _ hS => ?_)
            replace hP : va_P D mp_cl (k_X0_seekBest T a_ a_probe a_trial a_best a_probe_order a_probe_knows a_probe_made a_probe_sixteenths a_probe_dots a_probe_used a_probe_stands a_p1 a_p1_cellNames a_p1_secretNames a_p1_pageNames a_p1_speed a_p1_letters a_p1_room a_p1_now a_p1_rounds a_p1_now_order a_p1_now_knows a_p1_now_made a_p1_now_sixteenths a_p1_now_dots a_p1_now_used a_p1_now_stands z2 (va_cpy v_trial v_best ((nI 0)).toNatClampNeg ((nI 0)).toNatClampNeg (z2).toNatClampNeg) u7 u29 u9 u10 u30 u31 u32 u33 u34 u22 u17 u35 u36 v_trial v_p1_cells v_p1_secrets v_p1_pages v_p1_blind v_p1_rubs v_p1_letters v_p1_now_inOrder v_p1_now_place v_p1_now_ill v_p1_now_shut v_p1_now_turns v_p1_now_madeInAll v_p1_now_dots v_p1_now_knows v_p1_now_made v_p1_now_order v_p1_now_sixteenths v_p1_now_stands v_p1_now_used v_p1_room v_p1_speed) H := hP
            refine lv_aload_n hx hb dX0_seekBest_118 rfl (lv_at hl 2 rfl) ?_
            refine lv_iload_n hx hb dX0_seekBest_119 rfl (lv_at hl 4 rfl) ?_
            obtain ⟨⟨r44, u45⟩, c46, hf⟩ := bd_of hf
            dsimp only at hf
            have hPc := hP.sub (ws' := (k_X0_permute T a_ a_probe a_trial a_best z2 v_trial)) [0, 10] rfl
            have hDc := (mp_D_of (w1 := (k_X0_seekBest T a_ a_probe a_trial a_best a_probe_order a_probe_knows a_probe_made a_probe_sixteenths a_probe_dots a_probe_used a_probe_stands a_p1 a_p1_cellNames a_p1_secretNames a_p1_pageNames a_p1_speed a_p1_letters a_p1_room a_p1_now a_p1_rounds a_p1_now_order a_p1_now_knows a_p1_now_made a_p1_now_sixteenths a_p1_now_dots a_p1_now_used a_p1_now_stands z2 (va_cpy v_trial v_best ((nI 0)).toNatClampNeg ((nI 0)).toNatClampNeg (z2).toNatClampNeg) u7 u29 u9 u10 u30 u31 u32 u33 u34 u22 u17 u35 u36 v_trial v_p1_cells v_p1_secrets v_p1_pages v_p1_blind v_p1_rubs v_p1_letters v_p1_now_inOrder v_p1_now_place v_p1_now_ill v_p1_now_shut v_p1_now_turns v_p1_now_madeInAll v_p1_now_dots v_p1_now_knows v_p1_now_made v_p1_now_order v_p1_now_sixteenths v_p1_now_stands v_p1_now_used v_p1_room v_p1_speed)) hD rfl).sub (ws' := (k_X0_permute T a_ a_probe a_trial a_best z2 v_trial)) [0, 10] rfl rfl
            refine mp_calli (isC := [0, 10]) (wc := (k_X0_permute T a_ a_probe a_trial a_best z2 v_trial)) (w1 := (k_X0_permute T a_ a_probe a_trial a_best z2 u45)) hP (mp_D_of hD rfl) hS hA rfl rfl (mp_runV (As := [.int z2]) (rest := []) X me_X0_permute lk_X0_77 (c_X0_permute l D T fu a_ a_probe a_trial a_best z2 z2 v_trial r44 u45 c46) rfl rfl ⟨(Nat.le_of_ble_eq_true rfl), (Nat.le_of_ble_eq_true rfl)⟩ hK hPc hDc rfl rfl rfl rfl hl.1 rfl (Nat.le_of_ble_eq_true rfl) dX0_seekBest_120 ⟨Nat.zero_le _, Nat.zero_le _⟩) (fun H locs hP _ hS => ?_)
            replace hP : va_P D mp_cl (k_X0_seekBest T a_ a_probe a_trial a_best a_probe_order a_probe_knows a_probe_made a_probe_sixteenths a_probe_dots a_probe_used a_probe_stands a_p1 a_p1_cellNames a_p1_secretNames a_p1_pageNames a_p1_speed a_p1_letters a_p1_room a_p1_now a_p1_rounds a_p1_now_order a_p1_now_knows a_p1_now_made a_p1_now_sixteenths a_p1_now_dots a_p1_now_used a_p1_now_stands z2 (va_cpy v_trial v_best ((nI 0)).toNatClampNeg ((nI 0)).toNatClampNeg (z2).toNatClampNeg) u7 u29 u9 u10 u30 u31 u32 u33 u34 u22 u17 u35 u36 u45 v_p1_cells v_p1_secrets v_p1_pages v_p1_blind v_p1_rubs v_p1_letters v_p1_now_inOrder v_p1_now_place v_p1_now_ill v_p1_now_shut v_p1_now_turns v_p1_now_madeInAll v_p1_now_dots v_p1_now_knows v_p1_now_made v_p1_now_order v_p1_now_sixteenths v_p1_now_stands v_p1_now_used v_p1_room v_p1_speed) H := hP
            refine lv_istore (lv' := [(4, .int r44), (3, .int r28), (6, .int r28), (0, .ref a_), (1, .ref a_p1), (2, .int z2), (5, .int z5)]) hx hb dX0_seekBest_123 hl (by decide) rfl (fun ls hl => ?_)
            obtain ⟨y47, e47⟩ : ∃ y : Int32, y = z5 + (nI 1) := ⟨_, rfl⟩
            replace hf := lt_of e47 hf
            refine lv_iinc (v := y47) (lv' := [(5, .int y47), (4, .int r44), (3, .int r28), (6, .int r28), (0, .ref a_), (1, .ref a_p1), (2, .int z2)]) hx hb dX0_seekBest_125 hl (k := 6) rfl (by rw [e47]; rfl) (by decide) rfl (fun ls hl => ?_)
            refine lv_goto (tgt := 33) hx hb dX0_seekBest_128 (by decide) ?_
            exact ih z2 r28 r44 y47 z2 (va_cpy v_trial v_best ((nI 0)).toNatClampNeg ((nI 0)).toNatClampNeg (z2).toNatClampNeg) u7 u29 u9 u10 u30 u31 u32 u33 u34 u22 u17 u35 u36 u45 hf _ _ _ hP (mp_D_of hD rfl) hS (lv_sub hl [4, 5, 6, 2, 1, 0] rfl)

set_option maxHeartbeats 4000000 in
set_option maxRecDepth 100000 in
theorem c_X0_seekBest (l : Launch) (D : va_G) (T : Nat → ClassId) (fu : Nat) (a_ a_probe a_trial a_best a_probe_order a_probe_knows a_probe_made a_probe_sixteenths a_probe_dots a_probe_used a_probe_stands a_p1 a_p1_cellNames a_p1_secretNames a_p1_pageNames a_p1_speed a_p1_letters a_p1_room a_p1_now a_p1_rounds a_p1_now_order a_p1_now_knows a_p1_now_made a_p1_now_sixteenths a_p1_now_dots a_p1_now_used a_p1_now_stands : Nat) (v_bestMany : Int32) (v_best : (Nat → Int32)) (v_probe_inOrder : Int32) (v_probe_place : Int32) (v_probe_ill : Int32) (v_probe_shut : Int32) (v_probe_turns : Int32) (v_probe_madeInAll : Int32) (v_probe_dots : (Nat → Int32)) (v_probe_knows : (Nat → Int32)) (v_probe_made : (Nat → Int32)) (v_probe_order : (Nat → Int32)) (v_probe_sixteenths : (Nat → Int32)) (v_probe_stands : (Nat → Int32)) (v_probe_used : (Nat → Int32)) (v_trial : (Nat → Int32)) (v_p1_cells : Int32) (v_p1_secrets : Int32) (v_p1_pages : Int32) (v_p1_blind : Int32) (v_p1_rubs : Int32) (v_p1_letters : (Nat → Int32)) (v_p1_now_inOrder : Int32) (v_p1_now_place : Int32) (v_p1_now_ill : Int32) (v_p1_now_shut : Int32) (v_p1_now_turns : Int32) (v_p1_now_madeInAll : Int32) (v_p1_now_dots : (Nat → Int32)) (v_p1_now_knows : (Nat → Int32)) (v_p1_now_made : (Nat → Int32)) (v_p1_now_order : (Nat → Int32)) (v_p1_now_sixteenths : (Nat → Int32)) (v_p1_now_stands : (Nat → Int32)) (v_p1_now_used : (Nat → Int32)) (v_p1_room : (Nat → Int32)) (v_p1_speed : (Nat → Int32)) (r_ : Int32) (o_bestMany : Int32) (o_best : (Nat → Int32)) (o_probe_inOrder : Int32) (o_probe_place : Int32) (o_probe_ill : Int32) (o_probe_shut : Int32) (o_probe_turns : Int32) (o_probe_madeInAll : Int32) (o_probe_dots : (Nat → Int32)) (o_probe_knows : (Nat → Int32)) (o_probe_made : (Nat → Int32)) (o_probe_order : (Nat → Int32)) (o_probe_sixteenths : (Nat → Int32)) (o_probe_stands : (Nat → Int32)) (o_probe_used : (Nat → Int32)) (o_trial : (Nat → Int32)) (hf : f_X0_seekBest fu v_bestMany v_best v_probe_inOrder v_probe_place v_probe_ill v_probe_shut v_probe_turns v_probe_madeInAll v_probe_dots v_probe_knows v_probe_made v_probe_order v_probe_sixteenths v_probe_stands v_probe_used v_trial v_p1_cells v_p1_secrets v_p1_pages v_p1_blind v_p1_rubs v_p1_letters v_p1_now_inOrder v_p1_now_place v_p1_now_ill v_p1_now_shut v_p1_now_turns v_p1_now_madeInAll v_p1_now_dots v_p1_now_knows v_p1_now_made v_p1_now_order v_p1_now_sixteenths v_p1_now_stands v_p1_now_used v_p1_room v_p1_speed = some (r_, o_bestMany, o_best, o_probe_inOrder, o_probe_place, o_probe_ill, o_probe_shut, o_probe_turns, o_probe_madeInAll, o_probe_dots, o_probe_knows, o_probe_made, o_probe_order, o_probe_sixteenths, o_probe_stands, o_probe_used, o_trial)) :
    mp_M l D T yX0_seekBest cX0_seekBest 7 (some .int) ({ frames := 5, cells := 0, slots := 0, locals := 143 }) 0 0 [.ref a_, .ref a_p1] (k_X0_seekBest T a_ a_probe a_trial a_best a_probe_order a_probe_knows a_probe_made a_probe_sixteenths a_probe_dots a_probe_used a_probe_stands a_p1 a_p1_cellNames a_p1_secretNames a_p1_pageNames a_p1_speed a_p1_letters a_p1_room a_p1_now a_p1_rounds a_p1_now_order a_p1_now_knows a_p1_now_made a_p1_now_sixteenths a_p1_now_dots a_p1_now_used a_p1_now_stands v_bestMany v_best v_probe_inOrder v_probe_place v_probe_ill v_probe_shut v_probe_turns v_probe_madeInAll v_probe_dots v_probe_knows v_probe_made v_probe_order v_probe_sixteenths v_probe_stands v_probe_used v_trial v_p1_cells v_p1_secrets v_p1_pages v_p1_blind v_p1_rubs v_p1_letters v_p1_now_inOrder v_p1_now_place v_p1_now_ill v_p1_now_shut v_p1_now_turns v_p1_now_madeInAll v_p1_now_dots v_p1_now_knows v_p1_now_made v_p1_now_order v_p1_now_sixteenths v_p1_now_stands v_p1_now_used v_p1_room v_p1_speed) (mp_Qi D r_ (k_X0_seekBest T a_ a_probe a_trial a_best a_probe_order a_probe_knows a_probe_made a_probe_sixteenths a_probe_dots a_probe_used a_probe_stands a_p1 a_p1_cellNames a_p1_secretNames a_p1_pageNames a_p1_speed a_p1_letters a_p1_room a_p1_now a_p1_rounds a_p1_now_order a_p1_now_knows a_p1_now_made a_p1_now_sixteenths a_p1_now_dots a_p1_now_used a_p1_now_stands o_bestMany o_best o_probe_inOrder o_probe_place o_probe_ill o_probe_shut o_probe_turns o_probe_madeInAll o_probe_dots o_probe_knows o_probe_made o_probe_order o_probe_sixteenths o_probe_stands o_probe_used o_trial v_p1_cells v_p1_secrets v_p1_pages v_p1_blind v_p1_rubs v_p1_letters v_p1_now_inOrder v_p1_now_place v_p1_now_ill v_p1_now_shut v_p1_now_turns v_p1_now_madeInAll v_p1_now_dots v_p1_now_knows v_p1_now_made v_p1_now_order v_p1_now_sixteenths v_p1_now_stands v_p1_now_used v_p1_room v_p1_speed)) := by
  refine mp_of (by decide) (Nat.le_of_ble_eq_true rfl) rfl ?_
  intro p e s m args below meth c A ls X hK hP hD hS hA hl
  replace X : mp_X p s m meth c args RX0 "seekBest" cX0_seekBest 7 (some .int) := X
  have hx := X.1
  have hb := X.2.1
  have hml := X.2.2.1
  have hown := X.2.2.2.2.1
  have hts := X.2.2.2.2.2.1
  replace hl : lv_has ls 7 [(0, .ref a_), (1, .ref a_p1)] := hl
  replace hf : (if v_p1_now_inOrder ≤ (nI 6) then bd_ (f_X0_sortInto fu v_trial v_p1_now_inOrder v_p1_now_order) (fun (u2 : (Nat → Int32)) => f_X0_seekBest_33 fu v_p1_cells v_p1_secrets v_p1_pages v_p1_blind v_p1_rubs v_p1_letters v_p1_now_inOrder v_p1_now_place v_p1_now_ill v_p1_now_shut v_p1_now_turns v_p1_now_madeInAll v_p1_now_dots v_p1_now_knows v_p1_now_made v_p1_now_order v_p1_now_sixteenths v_p1_now_stands v_p1_now_used v_p1_room v_p1_speed  fu v_p1_now_inOrder (nI 100) (nI 1) (nI 0) v_bestMany v_best v_probe_inOrder v_probe_place v_probe_ill v_probe_shut v_probe_turns v_probe_madeInAll v_probe_dots v_probe_knows v_probe_made v_probe_order v_probe_sixteenths v_probe_stands v_probe_used u2) else some ((-1 : Int32), v_bestMany, v_best, v_probe_inOrder, v_probe_place, v_probe_ill, v_probe_shut, v_probe_turns, v_probe_madeInAll, v_probe_dots, v_probe_knows, v_probe_made, v_probe_order, v_probe_sixteenths, v_probe_stands, v_probe_used, v_trial)) = some (r_, o_bestMany, o_best, o_probe_inOrder, o_probe_place, o_probe_ill, o_probe_shut, o_probe_turns, o_probe_madeInAll, o_probe_dots, o_probe_knows, o_probe_made, o_probe_order, o_probe_sixteenths, o_probe_stands, o_probe_used, o_trial) := hf
  refine lv_aload_n hx hb dX0_seekBest_0 rfl (lv_at hl 1 rfl) ?_
  refine mp_get X fl_X0_29 hK hP 11 rfl rfl dX0_seekBest_1 ?_
  refine mp_get X fl_X0_50 hK hP 13 rfl rfl dX0_seekBest_4 ?_
  refine lv_istore_n (lv' := [(2, .int v_p1_now_inOrder), (0, .ref a_), (1, .ref a_p1)]) hx hb dX0_seekBest_7 rfl hl (by decide) rfl (fun ls hl => ?_)
  refine lv_iload_n hx hb dX0_seekBest_8 rfl (lv_at hl 0 rfl) ?_
  refine lv_bipush (v := (nI 6)) hx hb dX0_seekBest_9 (by decide) ?_
  refine lv_icmp_le (tgt := 16) hx hb dX0_seekBest_11 (by decide) (fun h1 => ?_) (fun h1 => ?_)
  · replace hf := if_t hf h1
    refine lv_aload_n hx hb dX0_seekBest_16 rfl (lv_at hl 1 rfl) ?_
    refine lv_aload_n hx hb dX0_seekBest_17 rfl (lv_at hl 2 rfl) ?_
    refine mp_get X fl_X0_29 hK hP 11 rfl rfl dX0_seekBest_18 ?_
    obtain ⟨u2, c3, hf⟩ := bd_of hf
    have hPc := hP.sub (ws' := (k_X0_sortInto T a_ a_probe a_trial a_best a_p1_now a_p1_now_order a_p1_now_knows a_p1_now_made a_p1_now_sixteenths a_p1_now_dots a_p1_now_used a_p1_now_stands v_bestMany v_trial v_p1_now_inOrder v_p1_now_place v_p1_now_ill v_p1_now_shut v_p1_now_turns v_p1_now_madeInAll v_p1_now_order)) [0, 10, 13, 17] rfl
    have hDc := (mp_D_of (w1 := (k_X0_seekBest T a_ a_probe a_trial a_best a_probe_order a_probe_knows a_probe_made a_probe_sixteenths a_probe_dots a_probe_used a_probe_stands a_p1 a_p1_cellNames a_p1_secretNames a_p1_pageNames a_p1_speed a_p1_letters a_p1_room a_p1_now a_p1_rounds a_p1_now_order a_p1_now_knows a_p1_now_made a_p1_now_sixteenths a_p1_now_dots a_p1_now_used a_p1_now_stands v_bestMany v_best v_probe_inOrder v_probe_place v_probe_ill v_probe_shut v_probe_turns v_probe_madeInAll v_probe_dots v_probe_knows v_probe_made v_probe_order v_probe_sixteenths v_probe_stands v_probe_used v_trial v_p1_cells v_p1_secrets v_p1_pages v_p1_blind v_p1_rubs v_p1_letters v_p1_now_inOrder v_p1_now_place v_p1_now_ill v_p1_now_shut v_p1_now_turns v_p1_now_madeInAll v_p1_now_dots v_p1_now_knows v_p1_now_made v_p1_now_order v_p1_now_sixteenths v_p1_now_stands v_p1_now_used v_p1_room v_p1_speed)) hD rfl).sub (ws' := (k_X0_sortInto T a_ a_probe a_trial a_best a_p1_now a_p1_now_order a_p1_now_knows a_p1_now_made a_p1_now_sixteenths a_p1_now_dots a_p1_now_used a_p1_now_stands v_bestMany v_trial v_p1_now_inOrder v_p1_now_place v_p1_now_ill v_p1_now_shut v_p1_now_turns v_p1_now_madeInAll v_p1_now_order)) [0, 10, 13, 17] rfl rfl
    refine mp_callv (isC := [0, 10, 13, 17]) (wc := (k_X0_sortInto T a_ a_probe a_trial a_best a_p1_now a_p1_now_order a_p1_now_knows a_p1_now_made a_p1_now_sixteenths a_p1_now_dots a_p1_now_used a_p1_now_stands v_bestMany v_trial v_p1_now_inOrder v_p1_now_place v_p1_now_ill v_p1_now_shut v_p1_now_turns v_p1_now_madeInAll v_p1_now_order)) (w1 := (k_X0_sortInto T a_ a_probe a_trial a_best a_p1_now a_p1_now_order a_p1_now_knows a_p1_now_made a_p1_now_sixteenths a_p1_now_dots a_p1_now_used a_p1_now_stands v_bestMany u2 v_p1_now_inOrder v_p1_now_place v_p1_now_ill v_p1_now_shut v_p1_now_turns v_p1_now_madeInAll v_p1_now_order)) hP (mp_D_of hD rfl) hS hA rfl rfl (mp_runV (As := [.ref a_p1_now]) (rest := []) X me_X0_sortInto lk_X0_57 (c_X0_sortInto l D T fu a_ a_probe a_trial a_best a_p1_now a_p1_now_order a_p1_now_knows a_p1_now_made a_p1_now_sixteenths a_p1_now_dots a_p1_now_used a_p1_now_stands v_bestMany v_p1_now_place v_p1_now_ill v_p1_now_shut v_p1_now_turns v_p1_now_madeInAll v_trial v_p1_now_inOrder v_p1_now_order u2 c3) rfl rfl ⟨(Nat.le_of_ble_eq_true rfl), (Nat.le_of_ble_eq_true rfl)⟩ hK hPc hDc rfl rfl rfl rfl hl.1 rfl (Nat.le_of_ble_eq_true rfl) dX0_seekBest_21 ⟨Nat.zero_le _, Nat.zero_le _⟩) (fun H locs hP _ hS => ?_)
    replace hP : va_P D mp_cl (k_X0_seekBest T a_ a_probe a_trial a_best a_probe_order a_probe_knows a_probe_made a_probe_sixteenths a_probe_dots a_probe_used a_probe_stands a_p1 a_p1_cellNames a_p1_secretNames a_p1_pageNames a_p1_speed a_p1_letters a_p1_room a_p1_now a_p1_rounds a_p1_now_order a_p1_now_knows a_p1_now_made a_p1_now_sixteenths a_p1_now_dots a_p1_now_used a_p1_now_stands v_bestMany v_best v_probe_inOrder v_probe_place v_probe_ill v_probe_shut v_probe_turns v_probe_madeInAll v_probe_dots v_probe_knows v_probe_made v_probe_order v_probe_sixteenths v_probe_stands v_probe_used u2 v_p1_cells v_p1_secrets v_p1_pages v_p1_blind v_p1_rubs v_p1_letters v_p1_now_inOrder v_p1_now_place v_p1_now_ill v_p1_now_shut v_p1_now_turns v_p1_now_madeInAll v_p1_now_dots v_p1_now_knows v_p1_now_made v_p1_now_order v_p1_now_sixteenths v_p1_now_stands v_p1_now_used v_p1_room v_p1_speed) H := hP
    refine lv_bipush (v := (nI 100)) hx hb dX0_seekBest_24 (by decide) ?_
    refine lv_istore_n (lv' := [(3, .int (nI 100)), (2, .int v_p1_now_inOrder), (0, .ref a_), (1, .ref a_p1)]) hx hb dX0_seekBest_26 rfl hl (by decide) rfl (fun ls hl => ?_)
    refine lv_iconst (v := (nI 1)) hx hb dX0_seekBest_27 (by decide) ?_
    refine lv_istore (lv' := [(4, .int (nI 1)), (3, .int (nI 100)), (2, .int v_p1_now_inOrder), (0, .ref a_), (1, .ref a_p1)]) hx hb dX0_seekBest_28 hl (by decide) rfl (fun ls hl => ?_)
    refine lv_iconst (v := (nI 0)) hx hb dX0_seekBest_30 (by decide) ?_
    refine lv_istore (lv' := [(5, .int (nI 0)), (4, .int (nI 1)), (3, .int (nI 100)), (2, .int v_p1_now_inOrder), (0, .ref a_), (1, .ref a_p1)]) hx hb dX0_seekBest_31 hl (by decide) rfl (fun ls hl => ?_)
    exact w_X0_seekBest_33 X hK hA  fu a_ a_probe a_trial a_best a_probe_order a_probe_knows a_probe_made a_probe_sixteenths a_probe_dots a_probe_used a_probe_stands a_p1 a_p1_cellNames a_p1_secretNames a_p1_pageNames a_p1_speed a_p1_letters a_p1_room a_p1_now a_p1_rounds a_p1_now_order a_p1_now_knows a_p1_now_made a_p1_now_sixteenths a_p1_now_dots a_p1_now_used a_p1_now_stands v_p1_cells v_p1_secrets v_p1_pages v_p1_blind v_p1_rubs v_p1_letters v_p1_now_inOrder v_p1_now_place v_p1_now_ill v_p1_now_shut v_p1_now_turns v_p1_now_madeInAll v_p1_now_dots v_p1_now_knows v_p1_now_made v_p1_now_order v_p1_now_sixteenths v_p1_now_stands v_p1_now_used v_p1_room v_p1_speed r_ o_bestMany o_best o_probe_inOrder o_probe_place o_probe_ill o_probe_shut o_probe_turns o_probe_madeInAll o_probe_dots o_probe_knows o_probe_made o_probe_order o_probe_sixteenths o_probe_stands o_probe_used o_trial   fu v_p1_now_inOrder (nI 100) (nI 1) (nI 0) v_bestMany v_best v_probe_inOrder v_probe_place v_probe_ill v_probe_shut v_probe_turns v_probe_madeInAll v_probe_dots v_probe_knows v_probe_made v_probe_order v_probe_sixteenths v_probe_stands v_probe_used u2 hf _ _ _ hP (mp_D_of hD rfl) hS (lv_sub hl [4, 5, 3, 2, 1, 0] rfl)
  · replace hf := if_f hf h1
    refine lv_iconst (v := (-1 : Int32)) hx hb dX0_seekBest_14 (by decide) ?_
    cases hf
    exact mp_reti X hP hS rfl dX0_seekBest_15


def k_X3_tellTo (T : Nat → ClassId) (a_ a_loopsLeft a_probe a_p1 : Nat) (n1 : Nat) (v_steps : Int32) (v_missed : Int32) (v_turns : Int32) (v_made : Int32) (v_found : Int32) (v_left : Int32) (v_seed : Int32) (v_p1 : (Nat → Int32)) : va_W := [(a_, oX3 v_steps v_missed v_turns v_made v_found v_left v_seed a_loopsLeft a_probe), (a_p1, mp_aI T n1 v_p1)]
set_option maxHeartbeats 4000000 in
set_option maxRecDepth 100000 in
theorem c_X3_tellTo (l : Launch) (D : va_G) (T : Nat → ClassId) (a_ a_loopsLeft a_probe a_p1 : Nat) (n1 : Nat) (v_steps : Int32) (v_seed : Int32) (v_missed : Int32) (v_turns : Int32) (v_made : Int32) (v_found : Int32) (v_left : Int32) (v_p1 : (Nat → Int32)) (o_p1 : (Nat → Int32)) (hf : f_X3_tellTo n1 v_missed v_turns v_made v_found v_left v_p1 = some o_p1) :
    mp_M l D T yX3_tellTo cX3_tellTo 2 none ({ frames := 0, cells := 0, slots := 0, locals := 0 }) 0 0 [.ref a_, .ref a_p1] (k_X3_tellTo T a_ a_loopsLeft a_probe a_p1 n1 v_steps v_missed v_turns v_made v_found v_left v_seed v_p1) (mp_Qv D (k_X3_tellTo T a_ a_loopsLeft a_probe a_p1 n1 v_steps v_missed v_turns v_made v_found v_left v_seed o_p1)) := by
  refine mp_of (by decide) (Nat.le_of_ble_eq_true rfl) rfl ?_
  intro p e s m args below meth c A ls X hK hP hD hS hA hl
  replace X : mp_X p s m meth c args RX3 "tellTo" cX3_tellTo 2 none := X
  have hx := X.1
  have hb := X.2.1
  have hml := X.2.2.1
  have hown := X.2.2.2.2.1
  have hts := X.2.2.2.2.2.1
  replace hl : lv_has ls 2 [(0, .ref a_), (1, .ref a_p1)] := hl
  replace hf : gi_ (nI 0) n1 (gi_ (nI 1) n1 (gi_ (nI 2) n1 (gi_ (nI 3) n1 (gi_ (nI 4) n1 (some (upd (upd (upd (upd (upd v_p1 ((nI 0)).toNatClampNeg v_missed) ((nI 1)).toNatClampNeg v_turns) ((nI 2)).toNatClampNeg v_made) ((nI 3)).toNatClampNeg v_found) ((nI 4)).toNatClampNeg v_left)))))) = some o_p1 := hf
  refine lv_aload_n hx hb dX3_tellTo_0 rfl (lv_at hl 1 rfl) ?_
  refine lv_iconst (v := (nI 0)) hx hb dX3_tellTo_1 (by decide) ?_
  refine lv_aload_n hx hb dX3_tellTo_2 rfl (lv_at hl 0 rfl) ?_
  refine mp_get X fl_X3_15 hK hP 0 rfl rfl dX3_tellTo_3 ?_
  obtain ⟨h1, hf⟩ := gi_of hf
  refine va_iast hx hb hK hP (mp_D_of hD rfl) hS 1 0 rfl rfl h1 dX3_tellTo_6 (fun H locs hP _ hS => ?_)
  replace hP : va_P D mp_cl (k_X3_tellTo T a_ a_loopsLeft a_probe a_p1 n1 v_steps v_missed v_turns v_made v_found v_left v_seed (upd v_p1 ((nI 0)).toNatClampNeg v_missed)) H := hP
  refine lv_aload_n hx hb dX3_tellTo_7 rfl (lv_at hl 1 rfl) ?_
  refine lv_iconst (v := (nI 1)) hx hb dX3_tellTo_8 (by decide) ?_
  refine lv_aload_n hx hb dX3_tellTo_9 rfl (lv_at hl 0 rfl) ?_
  refine mp_get X fl_X3_18 hK hP 0 rfl rfl dX3_tellTo_10 ?_
  obtain ⟨h2, hf⟩ := gi_of hf
  refine va_iast hx hb hK hP (mp_D_of hD rfl) hS 1 0 rfl rfl h2 dX3_tellTo_13 (fun H locs hP _ hS => ?_)
  replace hP : va_P D mp_cl (k_X3_tellTo T a_ a_loopsLeft a_probe a_p1 n1 v_steps v_missed v_turns v_made v_found v_left v_seed (upd (upd v_p1 ((nI 0)).toNatClampNeg v_missed) ((nI 1)).toNatClampNeg v_turns)) H := hP
  refine lv_aload_n hx hb dX3_tellTo_14 rfl (lv_at hl 1 rfl) ?_
  refine lv_iconst (v := (nI 2)) hx hb dX3_tellTo_15 (by decide) ?_
  refine lv_aload_n hx hb dX3_tellTo_16 rfl (lv_at hl 0 rfl) ?_
  refine mp_get X fl_X3_21 hK hP 0 rfl rfl dX3_tellTo_17 ?_
  obtain ⟨h3, hf⟩ := gi_of hf
  refine va_iast hx hb hK hP (mp_D_of hD rfl) hS 1 0 rfl rfl h3 dX3_tellTo_20 (fun H locs hP _ hS => ?_)
  replace hP : va_P D mp_cl (k_X3_tellTo T a_ a_loopsLeft a_probe a_p1 n1 v_steps v_missed v_turns v_made v_found v_left v_seed (upd (upd (upd v_p1 ((nI 0)).toNatClampNeg v_missed) ((nI 1)).toNatClampNeg v_turns) ((nI 2)).toNatClampNeg v_made)) H := hP
  refine lv_aload_n hx hb dX3_tellTo_21 rfl (lv_at hl 1 rfl) ?_
  refine lv_iconst (v := (nI 3)) hx hb dX3_tellTo_22 (by decide) ?_
  refine lv_aload_n hx hb dX3_tellTo_23 rfl (lv_at hl 0 rfl) ?_
  refine mp_get X fl_X3_24 hK hP 0 rfl rfl dX3_tellTo_24 ?_
  obtain ⟨h4, hf⟩ := gi_of hf
  refine va_iast hx hb hK hP (mp_D_of hD rfl) hS 1 0 rfl rfl h4 dX3_tellTo_27 (fun H locs hP _ hS => ?_)
  replace hP : va_P D mp_cl (k_X3_tellTo T a_ a_loopsLeft a_probe a_p1 n1 v_steps v_missed v_turns v_made v_found v_left v_seed (upd (upd (upd (upd v_p1 ((nI 0)).toNatClampNeg v_missed) ((nI 1)).toNatClampNeg v_turns) ((nI 2)).toNatClampNeg v_made) ((nI 3)).toNatClampNeg v_found)) H := hP
  refine lv_aload_n hx hb dX3_tellTo_28 rfl (lv_at hl 1 rfl) ?_
  refine lv_iconst (v := (nI 4)) hx hb dX3_tellTo_29 (by decide) ?_
  refine lv_aload_n hx hb dX3_tellTo_30 rfl (lv_at hl 0 rfl) ?_
  refine mp_get X fl_X3_27 hK hP 0 rfl rfl dX3_tellTo_31 ?_
  obtain ⟨h5, hf⟩ := gi_of hf
  refine va_iast hx hb hK hP (mp_D_of hD rfl) hS 1 0 rfl rfl h5 dX3_tellTo_34 (fun H locs hP _ hS => ?_)
  replace hP : va_P D mp_cl (k_X3_tellTo T a_ a_loopsLeft a_probe a_p1 n1 v_steps v_missed v_turns v_made v_found v_left v_seed (upd (upd (upd (upd (upd v_p1 ((nI 0)).toNatClampNeg v_missed) ((nI 1)).toNatClampNeg v_turns) ((nI 2)).toNatClampNeg v_made) ((nI 3)).toNatClampNeg v_found) ((nI 4)).toNatClampNeg v_left)) H := hP
  cases hf
  exact mp_retv X hP hS dX3_tellTo_35


def k_X3_probeOf (T : Nat → ClassId) (a_ a_loopsLeft a_probe a_probe_order a_probe_knows a_probe_made a_probe_sixteenths a_probe_dots a_probe_used a_probe_stands a_p1 a_p1_cellNames a_p1_secretNames a_p1_pageNames a_p1_speed a_p1_letters a_p1_room a_p1_now a_p1_rounds a_p1_now_order a_p1_now_knows a_p1_now_made a_p1_now_sixteenths a_p1_now_dots a_p1_now_used a_p1_now_stands : Nat) (v_steps : Int32) (v_missed : Int32) (v_turns : Int32) (v_made : Int32) (v_found : Int32) (v_left : Int32) (v_seed : Int32) (v_probe_inOrder : Int32) (v_probe_place : Int32) (v_probe_ill : Int32) (v_probe_shut : Int32) (v_probe_turns : Int32) (v_probe_madeInAll : Int32) (v_probe_dots : (Nat → Int32)) (v_probe_knows : (Nat → Int32)) (v_probe_made : (Nat → Int32)) (v_probe_order : (Nat → Int32)) (v_probe_sixteenths : (Nat → Int32)) (v_probe_stands : (Nat → Int32)) (v_probe_used : (Nat → Int32)) (v_p1_cells : Int32) (v_p1_secrets : Int32) (v_p1_pages : Int32) (v_p1_blind : Int32) (v_p1_rubs : Int32) (v_p1_now_inOrder : Int32) (v_p1_now_place : Int32) (v_p1_now_ill : Int32) (v_p1_now_shut : Int32) (v_p1_now_turns : Int32) (v_p1_now_madeInAll : Int32) (v_p1_now_dots : (Nat → Int32)) (v_p1_now_knows : (Nat → Int32)) (v_p1_now_made : (Nat → Int32)) (v_p1_now_order : (Nat → Int32)) (v_p1_now_sixteenths : (Nat → Int32)) (v_p1_now_stands : (Nat → Int32)) (v_p1_now_used : (Nat → Int32)) : va_W := [(a_, oX3 v_steps v_missed v_turns v_made v_found v_left v_seed a_loopsLeft a_probe), (a_probe, oX7 a_probe_order v_probe_inOrder v_probe_place a_probe_knows a_probe_made a_probe_sixteenths a_probe_dots a_probe_used a_probe_stands v_probe_ill v_probe_shut v_probe_turns v_probe_madeInAll), (a_probe_dots, mp_aI T 36 v_probe_dots), (a_probe_knows, mp_aI T 8 v_probe_knows), (a_probe_made, mp_aI T 8 v_probe_made), (a_probe_order, mp_aI T 8 v_probe_order), (a_probe_sixteenths, mp_aI T 6 v_probe_sixteenths), (a_probe_stands, mp_aI T 6 v_probe_stands), (a_probe_used, mp_aI T 6 v_probe_used), (a_p1, oX1 v_p1_cells v_p1_secrets v_p1_pages a_p1_cellNames a_p1_secretNames a_p1_pageNames a_p1_speed v_p1_blind v_p1_rubs a_p1_letters a_p1_room a_p1_now a_p1_rounds), (a_p1_now, oX7 a_p1_now_order v_p1_now_inOrder v_p1_now_place a_p1_now_knows a_p1_now_made a_p1_now_sixteenths a_p1_now_dots a_p1_now_used a_p1_now_stands v_p1_now_ill v_p1_now_shut v_p1_now_turns v_p1_now_madeInAll), (a_p1_now_dots, mp_aI T 36 v_p1_now_dots), (a_p1_now_knows, mp_aI T 8 v_p1_now_knows), (a_p1_now_made, mp_aI T 8 v_p1_now_made), (a_p1_now_order, mp_aI T 8 v_p1_now_order), (a_p1_now_sixteenths, mp_aI T 6 v_p1_now_sixteenths), (a_p1_now_stands, mp_aI T 6 v_p1_now_stands), (a_p1_now_used, mp_aI T 6 v_p1_now_used)]
set_option maxHeartbeats 4000000 in
set_option maxRecDepth 100000 in
theorem c_X3_probeOf (l : Launch) (D : va_G) (T : Nat → ClassId) (a_ a_loopsLeft a_probe a_probe_order a_probe_knows a_probe_made a_probe_sixteenths a_probe_dots a_probe_used a_probe_stands a_p1 a_p1_cellNames a_p1_secretNames a_p1_pageNames a_p1_speed a_p1_letters a_p1_room a_p1_now a_p1_rounds a_p1_now_order a_p1_now_knows a_p1_now_made a_p1_now_sixteenths a_p1_now_dots a_p1_now_used a_p1_now_stands : Nat) (v_steps : Int32) (v_missed : Int32) (v_turns : Int32) (v_made : Int32) (v_found : Int32) (v_left : Int32) (v_seed : Int32) (v_p1_cells : Int32) (v_p1_secrets : Int32) (v_p1_pages : Int32) (v_p1_blind : Int32) (v_p1_rubs : Int32) (v_probe_inOrder : Int32) (v_probe_place : Int32) (v_probe_ill : Int32) (v_probe_shut : Int32) (v_probe_turns : Int32) (v_probe_madeInAll : Int32) (v_probe_dots : (Nat → Int32)) (v_probe_knows : (Nat → Int32)) (v_probe_made : (Nat → Int32)) (v_probe_order : (Nat → Int32)) (v_probe_sixteenths : (Nat → Int32)) (v_probe_stands : (Nat → Int32)) (v_probe_used : (Nat → Int32)) (v_p1_now_inOrder : Int32) (v_p1_now_place : Int32) (v_p1_now_ill : Int32) (v_p1_now_shut : Int32) (v_p1_now_turns : Int32) (v_p1_now_madeInAll : Int32) (v_p1_now_dots : (Nat → Int32)) (v_p1_now_knows : (Nat → Int32)) (v_p1_now_made : (Nat → Int32)) (v_p1_now_order : (Nat → Int32)) (v_p1_now_sixteenths : (Nat → Int32)) (v_p1_now_stands : (Nat → Int32)) (v_p1_now_used : (Nat → Int32)) (o_probe_inOrder : Int32) (o_probe_place : Int32) (o_probe_ill : Int32) (o_probe_shut : Int32) (o_probe_turns : Int32) (o_probe_madeInAll : Int32) (o_probe_dots : (Nat → Int32)) (o_probe_knows : (Nat → Int32)) (o_probe_made : (Nat → Int32)) (o_probe_order : (Nat → Int32)) (o_probe_sixteenths : (Nat → Int32)) (o_probe_stands : (Nat → Int32)) (o_probe_used : (Nat → Int32)) (hf : f_X3_probeOf v_probe_inOrder v_probe_place v_probe_ill v_probe_shut v_probe_turns v_probe_madeInAll v_probe_dots v_probe_knows v_probe_made v_probe_order v_probe_sixteenths v_probe_stands v_probe_used v_p1_now_inOrder v_p1_now_place v_p1_now_ill v_p1_now_shut v_p1_now_turns v_p1_now_madeInAll v_p1_now_dots v_p1_now_knows v_p1_now_made v_p1_now_order v_p1_now_sixteenths v_p1_now_stands v_p1_now_used = some (o_probe_inOrder, o_probe_place, o_probe_ill, o_probe_shut, o_probe_turns, o_probe_madeInAll, o_probe_dots, o_probe_knows, o_probe_made, o_probe_order, o_probe_sixteenths, o_probe_stands, o_probe_used)) :
    mp_M l D T yX3_probeOf cX3_probeOf 2 (some (.object "MarginPlan$State")) ({ frames := 2, cells := 0, slots := 0, locals := 61 }) 0 0 [.ref a_, .ref a_p1] (k_X3_probeOf T a_ a_loopsLeft a_probe a_probe_order a_probe_knows a_probe_made a_probe_sixteenths a_probe_dots a_probe_used a_probe_stands a_p1 a_p1_cellNames a_p1_secretNames a_p1_pageNames a_p1_speed a_p1_letters a_p1_room a_p1_now a_p1_rounds a_p1_now_order a_p1_now_knows a_p1_now_made a_p1_now_sixteenths a_p1_now_dots a_p1_now_used a_p1_now_stands v_steps v_missed v_turns v_made v_found v_left v_seed v_probe_inOrder v_probe_place v_probe_ill v_probe_shut v_probe_turns v_probe_madeInAll v_probe_dots v_probe_knows v_probe_made v_probe_order v_probe_sixteenths v_probe_stands v_probe_used v_p1_cells v_p1_secrets v_p1_pages v_p1_blind v_p1_rubs v_p1_now_inOrder v_p1_now_place v_p1_now_ill v_p1_now_shut v_p1_now_turns v_p1_now_madeInAll v_p1_now_dots v_p1_now_knows v_p1_now_made v_p1_now_order v_p1_now_sixteenths v_p1_now_stands v_p1_now_used) (mp_Qr D a_probe (k_X3_probeOf T a_ a_loopsLeft a_probe a_probe_order a_probe_knows a_probe_made a_probe_sixteenths a_probe_dots a_probe_used a_probe_stands a_p1 a_p1_cellNames a_p1_secretNames a_p1_pageNames a_p1_speed a_p1_letters a_p1_room a_p1_now a_p1_rounds a_p1_now_order a_p1_now_knows a_p1_now_made a_p1_now_sixteenths a_p1_now_dots a_p1_now_used a_p1_now_stands v_steps v_missed v_turns v_made v_found v_left v_seed o_probe_inOrder o_probe_place o_probe_ill o_probe_shut o_probe_turns o_probe_madeInAll o_probe_dots o_probe_knows o_probe_made o_probe_order o_probe_sixteenths o_probe_stands o_probe_used v_p1_cells v_p1_secrets v_p1_pages v_p1_blind v_p1_rubs v_p1_now_inOrder v_p1_now_place v_p1_now_ill v_p1_now_shut v_p1_now_turns v_p1_now_madeInAll v_p1_now_dots v_p1_now_knows v_p1_now_made v_p1_now_order v_p1_now_sixteenths v_p1_now_stands v_p1_now_used)) := by
  refine mp_of (by decide) (Nat.le_of_ble_eq_true rfl) rfl ?_
  intro p e s m args below meth c A ls X hK hP hD hS hA hl
  replace X : mp_X p s m meth c args RX3 "probeOf" cX3_probeOf 2 (some (.object "MarginPlan$State")) := X
  have hx := X.1
  have hb := X.2.1
  have hml := X.2.2.1
  have hown := X.2.2.2.2.1
  have hts := X.2.2.2.2.2.1
  replace hl : lv_has ls 2 [(0, .ref a_), (1, .ref a_p1)] := hl
  replace hf : bd_ (f_X7_copyFrom v_probe_inOrder v_probe_place v_probe_ill v_probe_shut v_probe_turns v_probe_madeInAll v_probe_dots v_probe_knows v_probe_made v_probe_order v_probe_sixteenths v_probe_stands v_probe_used v_p1_now_inOrder v_p1_now_place v_p1_now_ill v_p1_now_shut v_p1_now_turns v_p1_now_madeInAll v_p1_now_dots v_p1_now_knows v_p1_now_made v_p1_now_order v_p1_now_sixteenths v_p1_now_stands v_p1_now_used) (fun (z : Int32 × Int32 × Int32 × Int32 × Int32 × Int32 × (Nat → Int32) × (Nat → Int32) × (Nat → Int32) × (Nat → Int32) × (Nat → Int32) × (Nat → Int32) × (Nat → Int32)) => match z with | (u1, u2, u3, u4, u5, u6, u7, u8, u9, u10, u11, u12, u13) => some (u1, u2, u3, u4, u5, u6, u7, u8, u9, u10, u11, u12, u13)) = some (o_probe_inOrder, o_probe_place, o_probe_ill, o_probe_shut, o_probe_turns, o_probe_madeInAll, o_probe_dots, o_probe_knows, o_probe_made, o_probe_order, o_probe_sixteenths, o_probe_stands, o_probe_used) := hf
  refine lv_aload_n hx hb dX3_probeOf_0 rfl (lv_at hl 0 rfl) ?_
  refine mp_get X fl_X3_42 hK hP 0 rfl rfl dX3_probeOf_1 ?_
  refine lv_aload_n hx hb dX3_probeOf_4 rfl (lv_at hl 1 rfl) ?_
  refine mp_get X fl_X3_46 hK hP 9 rfl rfl dX3_probeOf_5 ?_
  obtain ⟨⟨u1, u2, u3, u4, u5, u6, u7, u8, u9, u10, u11, u12, u13⟩, c14, hf⟩ := bd_of hf
  dsimp only at hf
  have hPc := hP.sub (ws' := (k_X7_copyFrom T a_probe a_probe_order a_probe_knows a_probe_made a_probe_sixteenths a_probe_dots a_probe_used a_probe_stands a_p1_now a_p1_now_order a_p1_now_knows a_p1_now_made a_p1_now_sixteenths a_p1_now_dots a_p1_now_used a_p1_now_stands v_probe_inOrder v_probe_place v_probe_ill v_probe_shut v_probe_turns v_probe_madeInAll v_probe_dots v_probe_knows v_probe_made v_probe_order v_probe_sixteenths v_probe_stands v_probe_used v_p1_now_inOrder v_p1_now_place v_p1_now_ill v_p1_now_shut v_p1_now_turns v_p1_now_madeInAll v_p1_now_dots v_p1_now_knows v_p1_now_made v_p1_now_order v_p1_now_sixteenths v_p1_now_stands v_p1_now_used)) [1, 2, 3, 4, 5, 6, 7, 8, 10, 11, 12, 13, 14, 15, 16, 17] rfl
  have hDc := (mp_D_of (w1 := (k_X3_probeOf T a_ a_loopsLeft a_probe a_probe_order a_probe_knows a_probe_made a_probe_sixteenths a_probe_dots a_probe_used a_probe_stands a_p1 a_p1_cellNames a_p1_secretNames a_p1_pageNames a_p1_speed a_p1_letters a_p1_room a_p1_now a_p1_rounds a_p1_now_order a_p1_now_knows a_p1_now_made a_p1_now_sixteenths a_p1_now_dots a_p1_now_used a_p1_now_stands v_steps v_missed v_turns v_made v_found v_left v_seed v_probe_inOrder v_probe_place v_probe_ill v_probe_shut v_probe_turns v_probe_madeInAll v_probe_dots v_probe_knows v_probe_made v_probe_order v_probe_sixteenths v_probe_stands v_probe_used v_p1_cells v_p1_secrets v_p1_pages v_p1_blind v_p1_rubs v_p1_now_inOrder v_p1_now_place v_p1_now_ill v_p1_now_shut v_p1_now_turns v_p1_now_madeInAll v_p1_now_dots v_p1_now_knows v_p1_now_made v_p1_now_order v_p1_now_sixteenths v_p1_now_stands v_p1_now_used)) hD rfl).sub (ws' := (k_X7_copyFrom T a_probe a_probe_order a_probe_knows a_probe_made a_probe_sixteenths a_probe_dots a_probe_used a_probe_stands a_p1_now a_p1_now_order a_p1_now_knows a_p1_now_made a_p1_now_sixteenths a_p1_now_dots a_p1_now_used a_p1_now_stands v_probe_inOrder v_probe_place v_probe_ill v_probe_shut v_probe_turns v_probe_madeInAll v_probe_dots v_probe_knows v_probe_made v_probe_order v_probe_sixteenths v_probe_stands v_probe_used v_p1_now_inOrder v_p1_now_place v_p1_now_ill v_p1_now_shut v_p1_now_turns v_p1_now_madeInAll v_p1_now_dots v_p1_now_knows v_p1_now_made v_p1_now_order v_p1_now_sixteenths v_p1_now_stands v_p1_now_used)) [1, 2, 3, 4, 5, 6, 7, 8, 10, 11, 12, 13, 14, 15, 16, 17] rfl rfl
  refine mp_callv (isC := [1, 2, 3, 4, 5, 6, 7, 8, 10, 11, 12, 13, 14, 15, 16, 17]) (wc := (k_X7_copyFrom T a_probe a_probe_order a_probe_knows a_probe_made a_probe_sixteenths a_probe_dots a_probe_used a_probe_stands a_p1_now a_p1_now_order a_p1_now_knows a_p1_now_made a_p1_now_sixteenths a_p1_now_dots a_p1_now_used a_p1_now_stands v_probe_inOrder v_probe_place v_probe_ill v_probe_shut v_probe_turns v_probe_madeInAll v_probe_dots v_probe_knows v_probe_made v_probe_order v_probe_sixteenths v_probe_stands v_probe_used v_p1_now_inOrder v_p1_now_place v_p1_now_ill v_p1_now_shut v_p1_now_turns v_p1_now_madeInAll v_p1_now_dots v_p1_now_knows v_p1_now_made v_p1_now_order v_p1_now_sixteenths v_p1_now_stands v_p1_now_used)) (w1 := (k_X7_copyFrom T a_probe a_probe_order a_probe_knows a_probe_made a_probe_sixteenths a_probe_dots a_probe_used a_probe_stands a_p1_now a_p1_now_order a_p1_now_knows a_p1_now_made a_p1_now_sixteenths a_p1_now_dots a_p1_now_used a_p1_now_stands u1 u2 u3 u4 u5 u6 u7 u8 u9 u10 u11 u12 u13 v_p1_now_inOrder v_p1_now_place v_p1_now_ill v_p1_now_shut v_p1_now_turns v_p1_now_madeInAll v_p1_now_dots v_p1_now_knows v_p1_now_made v_p1_now_order v_p1_now_sixteenths v_p1_now_stands v_p1_now_used)) hP (mp_D_of hD rfl) hS hA rfl rfl (mp_runV (As := [.ref a_p1_now]) (rest := []) X me_X7_copyFrom lk_X3_51 (c_X7_copyFrom l D T a_probe a_probe_order a_probe_knows a_probe_made a_probe_sixteenths a_probe_dots a_probe_used a_probe_stands a_p1_now a_p1_now_order a_p1_now_knows a_p1_now_made a_p1_now_sixteenths a_p1_now_dots a_p1_now_used a_p1_now_stands v_probe_inOrder v_probe_place v_probe_ill v_probe_shut v_probe_turns v_probe_madeInAll v_probe_dots v_probe_knows v_probe_made v_probe_order v_probe_sixteenths v_probe_stands v_probe_used v_p1_now_inOrder v_p1_now_place v_p1_now_ill v_p1_now_shut v_p1_now_turns v_p1_now_madeInAll v_p1_now_dots v_p1_now_knows v_p1_now_made v_p1_now_order v_p1_now_sixteenths v_p1_now_stands v_p1_now_used u1 u2 u3 u4 u5 u6 u7 u8 u9 u10 u11 u12 u13 c14) rfl rfl ⟨(Nat.le_of_ble_eq_true rfl), (Nat.le_of_ble_eq_true rfl)⟩ hK hPc hDc rfl rfl rfl rfl hl.1 rfl (Nat.le_of_ble_eq_true rfl) dX3_probeOf_8 ⟨Nat.zero_le _, Nat.zero_le _⟩) (fun H locs hP _ hS => ?_)
  replace hP : va_P D mp_cl (k_X3_probeOf T a_ a_loopsLeft a_probe a_probe_order a_probe_knows a_probe_made a_probe_sixteenths a_probe_dots a_probe_used a_probe_stands a_p1 a_p1_cellNames a_p1_secretNames a_p1_pageNames a_p1_speed a_p1_letters a_p1_room a_p1_now a_p1_rounds a_p1_now_order a_p1_now_knows a_p1_now_made a_p1_now_sixteenths a_p1_now_dots a_p1_now_used a_p1_now_stands v_steps v_missed v_turns v_made v_found v_left v_seed u1 u2 u3 u4 u5 u6 u7 u8 u9 u10 u11 u12 u13 v_p1_cells v_p1_secrets v_p1_pages v_p1_blind v_p1_rubs v_p1_now_inOrder v_p1_now_place v_p1_now_ill v_p1_now_shut v_p1_now_turns v_p1_now_madeInAll v_p1_now_dots v_p1_now_knows v_p1_now_made v_p1_now_order v_p1_now_sixteenths v_p1_now_stands v_p1_now_used) H := hP
  refine lv_aload_n hx hb dX3_probeOf_11 rfl (lv_at hl 0 rfl) ?_
  refine mp_get X fl_X3_42 hK hP 0 rfl rfl dX3_probeOf_12 ?_
  cases hf
  exact mp_reta X hP hS dX3_probeOf_15


def k_X3_behindEnd (T : Nat → ClassId) (a_ a_loopsLeft a_probe a_p1 a_p1_code a_p1_one a_p1_other a_p1_mate : Nat) (v_steps : Int32) (v_missed : Int32) (v_turns : Int32) (v_made : Int32) (v_found : Int32) (v_left : Int32) (v_seed : Int32) (v_loopsLeft : (Nat → Int32)) (v_p1_present : Int32) (v_p1_steps : Int32) (v_p1_size : Int32) (v_p1_code : (Nat → Int32)) (v_p1_mate : (Nat → Int32)) : va_W := [(a_, oX3 v_steps v_missed v_turns v_made v_found v_left v_seed a_loopsLeft a_probe), (a_loopsLeft, mp_aI T 60 v_loopsLeft), (a_p1, oX5 v_p1_present v_p1_steps v_p1_size a_p1_code a_p1_one a_p1_other a_p1_mate), (a_p1_code, mp_aI T 60 v_p1_code), (a_p1_mate, mp_aI T 60 v_p1_mate)]
set_option maxHeartbeats 4000000 in
set_option maxRecDepth 100000 in
theorem c_X3_behindEnd (l : Launch) (D : va_G) (T : Nat → ClassId) (a_ a_loopsLeft a_probe a_p1 a_p1_code a_p1_one a_p1_other a_p1_mate : Nat) (x2 : Int32) (v_steps : Int32) (v_missed : Int32) (v_turns : Int32) (v_made : Int32) (v_found : Int32) (v_left : Int32) (v_seed : Int32) (v_p1_present : Int32) (v_p1_steps : Int32) (v_p1_size : Int32) (v_loopsLeft : (Nat → Int32)) (v_p1_code : (Nat → Int32)) (v_p1_mate : (Nat → Int32)) (r_ : Int32) (o_loopsLeft : (Nat → Int32)) (hf : f_X3_behindEnd x2 v_loopsLeft v_p1_code v_p1_mate = some (r_, o_loopsLeft)) :
    mp_M l D T yX3_behindEnd cX3_behindEnd 4 (some .int) ({ frames := 0, cells := 0, slots := 0, locals := 0 }) 0 0 [.ref a_, .ref a_p1, .int x2] (k_X3_behindEnd T a_ a_loopsLeft a_probe a_p1 a_p1_code a_p1_one a_p1_other a_p1_mate v_steps v_missed v_turns v_made v_found v_left v_seed v_loopsLeft v_p1_present v_p1_steps v_p1_size v_p1_code v_p1_mate) (mp_Qi D r_ (k_X3_behindEnd T a_ a_loopsLeft a_probe a_p1 a_p1_code a_p1_one a_p1_other a_p1_mate v_steps v_missed v_turns v_made v_found v_left v_seed o_loopsLeft v_p1_present v_p1_steps v_p1_size v_p1_code v_p1_mate)) := by
  refine mp_of (by decide) (Nat.le_of_ble_eq_true rfl) rfl ?_
  intro p e s m args below meth c A ls X hK hP hD hS hA hl
  replace X : mp_X p s m meth c args RX3 "behindEnd" cX3_behindEnd 4 (some .int) := X
  have hx := X.1
  have hb := X.2.1
  have hml := X.2.2.1
  have hown := X.2.2.2.2.1
  have hts := X.2.2.2.2.2.1
  replace hl : lv_has ls 4 [(0, .ref a_), (1, .ref a_p1), (2, .int x2)] := hl
  replace hf : gi_ x2 60 (lt_ (v_p1_mate (x2).toNatClampNeg) (fun (y2 : Int32) => (if y2 < 0 then some (x2 + (nI 1), v_loopsLeft) else gi_ y2 60 ((if (v_p1_code (y2).toNatClampNeg) = (nI 21) then gi_ y2 60 (lt_ ((v_loopsLeft (y2).toNatClampNeg) - (nI 1)) (fun (y7 : Int32) => gi_ y2 60 (gi_ y2 60 ((if ((upd v_loopsLeft (y2).toNatClampNeg y7) (y2).toNatClampNeg) ≤ 0 then some (x2 + (nI 1), upd v_loopsLeft (y2).toNatClampNeg y7) else some (y2 + (nI 1), upd v_loopsLeft (y2).toNatClampNeg y7)))))) else some (x2 + (nI 1), v_loopsLeft)))))) = some (r_, o_loopsLeft) := hf
  refine lv_aload_n hx hb dX3_behindEnd_0 rfl (lv_at hl 1 rfl) ?_
  refine mp_get X fl_X3_78 hK hP 2 rfl rfl dX3_behindEnd_1 ?_
  refine lv_iload_n hx hb dX3_behindEnd_4 rfl (lv_at hl 2 rfl) ?_
  obtain ⟨h1, hf⟩ := gi_of hf
  refine va_iald hx hb hK hP 4 0 rfl rfl h1 dX3_behindEnd_5 ?_
  refine lv_topi (fun y2 e2 => ?_)
  replace hf := lt_of e2 hf
  refine lv_istore_n (lv' := [(3, .int y2), (0, .ref a_), (1, .ref a_p1), (2, .int x2)]) hx hb dX3_behindEnd_6 rfl hl (by decide) rfl (fun ls hl => ?_)
  refine lv_iload_n hx hb dX3_behindEnd_7 rfl (lv_at hl 0 rfl) ?_
  refine lv_if_lt (tgt := 22) hx hb dX3_behindEnd_8 (by decide) (fun h3 => ?_) (fun h3 => ?_)
  · replace hf := if_t hf h3
    refine lv_iload_n hx hb dX3_behindEnd_22 rfl (lv_at hl 3 rfl) ?_
    refine lv_iconst (v := (nI 1)) hx hb dX3_behindEnd_23 (by decide) ?_
    refine lv_iadd hx hb dX3_behindEnd_24 ?_
    cases hf
    exact mp_reti X hP hS rfl dX3_behindEnd_25
  · replace hf := if_f hf h3
    refine lv_aload_n hx hb dX3_behindEnd_11 rfl (lv_at hl 2 rfl) ?_
    refine mp_get X fl_X3_67 hK hP 2 rfl rfl dX3_behindEnd_12 ?_
    refine lv_iload_n hx hb dX3_behindEnd_15 rfl (lv_at hl 0 rfl) ?_
    obtain ⟨h4, hf⟩ := gi_of hf
    refine va_iald hx hb hK hP 3 0 rfl rfl h4 dX3_behindEnd_16 ?_
    refine lv_bipush (v := (nI 21)) hx hb dX3_behindEnd_17 (by decide) ?_
    refine lv_icmp_eq (tgt := 26) hx hb dX3_behindEnd_19 (by decide) (fun h5 => ?_) (fun h5 => ?_)
    · replace hf := if_t hf h5
      refine lv_aload_n hx hb dX3_behindEnd_26 rfl (lv_at hl 1 rfl) ?_
      refine mp_get X fl_X3_35 hK hP 0 rfl rfl dX3_behindEnd_27 ?_
      refine lv_iload_n hx hb dX3_behindEnd_30 rfl (lv_at hl 0 rfl) ?_
      refine lv_dup2_11 hx hb dX3_behindEnd_31 rfl rfl ?_
      obtain ⟨h6, hf⟩ := gi_of hf
      refine va_iald hx hb hK hP 1 0 rfl rfl h6 dX3_behindEnd_32 ?_
      refine lv_iconst (v := (nI 1)) hx hb dX3_behindEnd_33 (by decide) ?_
      refine lv_isub hx hb dX3_behindEnd_34 ?_
      refine lv_topi (fun y7 e7 => ?_)
      replace hf := lt_of e7 hf
      obtain ⟨h8, hf⟩ := gi_of hf
      refine va_iast hx hb hK hP (mp_D_of hD rfl) hS 1 0 rfl rfl h8 dX3_behindEnd_35 (fun H locs hP _ hS => ?_)
      replace hP : va_P D mp_cl (k_X3_behindEnd T a_ a_loopsLeft a_probe a_p1 a_p1_code a_p1_one a_p1_other a_p1_mate v_steps v_missed v_turns v_made v_found v_left v_seed (upd v_loopsLeft (y2).toNatClampNeg y7) v_p1_present v_p1_steps v_p1_size v_p1_code v_p1_mate) H := hP
      refine lv_aload_n hx hb dX3_behindEnd_36 rfl (lv_at hl 1 rfl) ?_
      refine mp_get X fl_X3_35 hK hP 0 rfl rfl dX3_behindEnd_37 ?_
      refine lv_iload_n hx hb dX3_behindEnd_40 rfl (lv_at hl 0 rfl) ?_
      obtain ⟨h9, hf⟩ := gi_of hf
      refine va_iald hx hb hK hP 1 0 rfl rfl h9 dX3_behindEnd_41 ?_
      refine lv_if_le (tgt := 51) hx hb dX3_behindEnd_42 (by decide) (fun h10 => ?_) (fun h10 => ?_)
      · replace hf := if_t hf h10
        refine lv_iload_n hx hb dX3_behindEnd_51 rfl (lv_at hl 3 rfl) ?_
        refine lv_iconst (v := (nI 1)) hx hb dX3_behindEnd_52 (by decide) ?_
        refine lv_iadd hx hb dX3_behindEnd_53 ?_
        cases hf
        exact mp_reti X hP hS rfl dX3_behindEnd_54
      · replace hf := if_f hf h10
        refine lv_iload_n hx hb dX3_behindEnd_45 rfl (lv_at hl 0 rfl) ?_
        refine lv_iconst (v := (nI 1)) hx hb dX3_behindEnd_46 (by decide) ?_
        refine lv_iadd hx hb dX3_behindEnd_47 ?_
        refine lv_goto (tgt := 54) hx hb dX3_behindEnd_48 (by decide) ?_
        cases hf
        exact mp_reti X hP hS rfl dX3_behindEnd_54
    · replace hf := if_f hf h5
      refine lv_iload_n hx hb dX3_behindEnd_22 rfl (lv_at hl 3 rfl) ?_
      refine lv_iconst (v := (nI 1)) hx hb dX3_behindEnd_23 (by decide) ?_
      refine lv_iadd hx hb dX3_behindEnd_24 ?_
      cases hf
      exact mp_reti X hP hS rfl dX3_behindEnd_25


def k_X3_holds (T : Nat → ClassId) (a_p1 a_p1_cellNames a_p1_secretNames a_p1_pageNames a_p1_speed a_p1_letters a_p1_room a_p1_now a_p1_rounds a_p1_rounds_code a_p1_rounds_one a_p1_rounds_other a_p1_rounds_mate a_p2 a_p2_order a_p2_knows a_p2_made a_p2_sixteenths a_p2_dots a_p2_used a_p2_stands : Nat) (v_p1_cells : Int32) (v_p1_secrets : Int32) (v_p1_pages : Int32) (v_p1_blind : Int32) (v_p1_rubs : Int32) (v_p1_room : (Nat → Int32)) (v_p1_rounds_present : Int32) (v_p1_rounds_steps : Int32) (v_p1_rounds_size : Int32) (v_p1_rounds_code : (Nat → Int32)) (v_p1_rounds_one : (Nat → Int32)) (v_p1_rounds_other : (Nat → Int32)) (v_p2_inOrder : Int32) (v_p2_place : Int32) (v_p2_ill : Int32) (v_p2_shut : Int32) (v_p2_turns : Int32) (v_p2_madeInAll : Int32) (v_p2_knows : (Nat → Int32)) (v_p2_used : (Nat → Int32)) : va_W := [(a_p1, oX1 v_p1_cells v_p1_secrets v_p1_pages a_p1_cellNames a_p1_secretNames a_p1_pageNames a_p1_speed v_p1_blind v_p1_rubs a_p1_letters a_p1_room a_p1_now a_p1_rounds), (a_p1_room, mp_aI T 6 v_p1_room), (a_p1_rounds, oX5 v_p1_rounds_present v_p1_rounds_steps v_p1_rounds_size a_p1_rounds_code a_p1_rounds_one a_p1_rounds_other a_p1_rounds_mate), (a_p1_rounds_code, mp_aI T 60 v_p1_rounds_code), (a_p1_rounds_one, mp_aI T 60 v_p1_rounds_one), (a_p1_rounds_other, mp_aI T 60 v_p1_rounds_other), (a_p2, oX7 a_p2_order v_p2_inOrder v_p2_place a_p2_knows a_p2_made a_p2_sixteenths a_p2_dots a_p2_used a_p2_stands v_p2_ill v_p2_shut v_p2_turns v_p2_madeInAll), (a_p2_knows, mp_aI T 8 v_p2_knows), (a_p2_used, mp_aI T 6 v_p2_used)]
set_option maxHeartbeats 4000000 in
set_option maxRecDepth 100000 in
theorem c_X3_holds (l : Launch) (D : va_G) (T : Nat → ClassId) (fu : Nat) (a_p1 a_p1_cellNames a_p1_secretNames a_p1_pageNames a_p1_speed a_p1_letters a_p1_room a_p1_now a_p1_rounds a_p1_rounds_code a_p1_rounds_one a_p1_rounds_other a_p1_rounds_mate a_p2 a_p2_order a_p2_knows a_p2_made a_p2_sixteenths a_p2_dots a_p2_used a_p2_stands : Nat) (x3 : Int32) (v_p1_secrets : Int32) (v_p1_pages : Int32) (v_p1_rubs : Int32) (v_p1_rounds_present : Int32) (v_p1_rounds_steps : Int32) (v_p1_rounds_size : Int32) (v_p2_inOrder : Int32) (v_p2_place : Int32) (v_p2_ill : Int32) (v_p2_shut : Int32) (v_p2_turns : Int32) (v_p2_madeInAll : Int32) (v_p1_cells : Int32) (v_p1_blind : Int32) (v_p1_room : (Nat → Int32)) (v_p1_rounds_code : (Nat → Int32)) (v_p1_rounds_one : (Nat → Int32)) (v_p1_rounds_other : (Nat → Int32)) (v_p2_knows : (Nat → Int32)) (v_p2_used : (Nat → Int32)) (r_ : Int32) (hf : f_X3_holds fu x3 v_p1_cells v_p1_blind v_p1_room v_p1_rounds_code v_p1_rounds_one v_p1_rounds_other v_p2_knows v_p2_used = some r_) :
    mp_M l D T yX3_holds cX3_holds 4 (some .boolean) ({ frames := 2, cells := 0, slots := 0, locals := 44 }) 0 0 [.ref a_p1, .ref a_p2, .int x3] (k_X3_holds T a_p1 a_p1_cellNames a_p1_secretNames a_p1_pageNames a_p1_speed a_p1_letters a_p1_room a_p1_now a_p1_rounds a_p1_rounds_code a_p1_rounds_one a_p1_rounds_other a_p1_rounds_mate a_p2 a_p2_order a_p2_knows a_p2_made a_p2_sixteenths a_p2_dots a_p2_used a_p2_stands v_p1_cells v_p1_secrets v_p1_pages v_p1_blind v_p1_rubs v_p1_room v_p1_rounds_present v_p1_rounds_steps v_p1_rounds_size v_p1_rounds_code v_p1_rounds_one v_p1_rounds_other v_p2_inOrder v_p2_place v_p2_ill v_p2_shut v_p2_turns v_p2_madeInAll v_p2_knows v_p2_used) (mp_Qi D r_ (k_X3_holds T a_p1 a_p1_cellNames a_p1_secretNames a_p1_pageNames a_p1_speed a_p1_letters a_p1_room a_p1_now a_p1_rounds a_p1_rounds_code a_p1_rounds_one a_p1_rounds_other a_p1_rounds_mate a_p2 a_p2_order a_p2_knows a_p2_made a_p2_sixteenths a_p2_dots a_p2_used a_p2_stands v_p1_cells v_p1_secrets v_p1_pages v_p1_blind v_p1_rubs v_p1_room v_p1_rounds_present v_p1_rounds_steps v_p1_rounds_size v_p1_rounds_code v_p1_rounds_one v_p1_rounds_other v_p2_inOrder v_p2_place v_p2_ill v_p2_shut v_p2_turns v_p2_madeInAll v_p2_knows v_p2_used)) := by
  refine mp_of (by decide) (Nat.le_of_ble_eq_true rfl) rfl ?_
  intro p e s m args below meth c A ls X hK hP hD hS hA hl
  replace X : mp_X p s m meth c args RX3 "holds" cX3_holds 4 (some .boolean) := X
  have hx := X.1
  have hb := X.2.1
  have hml := X.2.2.1
  have hown := X.2.2.2.2.1
  have hts := X.2.2.2.2.2.1
  replace hl : lv_has ls 4 [(0, .ref a_p1), (1, .ref a_p2), (2, .int x3)] := hl
  replace hf : gi_ x3 60 (lt_ (v_p1_rounds_one (x3).toNatClampNeg) (fun (y2 : Int32) => gi_ x3 60 ((if (v_p1_rounds_code (x3).toNatClampNeg) = (nI 8) then gi_ y2 8 (gi_ x3 60 (bd_ (f_X7_has (v_p2_knows (y2).toNatClampNeg) (v_p1_rounds_other (x3).toNatClampNeg)) (fun (r7 : Int32) => gd_ (r7 = 0 ∨ r7 = 1) (some (r7))))) else (if (v_p1_rounds_code (x3).toNatClampNeg) = (nI 19) then bd_ (f_X7_freeOf y2 v_p2_used v_p1_room) (fun (r11 : Int32) => (if r11 = 0 then some ((nI 1)) else some ((nI 0)))) else bd_ (f_X1_seeing v_p1_cells v_p1_blind) (fun (r14 : Int32) => bd_ (f_X7_isReached fu r14 ((nI 1) <<< (y2 &&& (31 : Int32))) v_p2_knows) (fun (r16 : Int32) => gd_ (r16 = 0 ∨ r16 = 1) (some (r16))))))))) = some r_ := hf
  refine lv_aload_n hx hb dX3_holds_0 rfl (lv_at hl 0 rfl) ?_
  refine mp_get X fl_X3_55 hK hP 0 rfl rfl dX3_holds_1 ?_
  refine mp_get X fl_X3_81 hK hP 2 rfl rfl dX3_holds_4 ?_
  refine lv_iload_n hx hb dX3_holds_7 rfl (lv_at hl 2 rfl) ?_
  obtain ⟨h1, hf⟩ := gi_of hf
  refine va_iald hx hb hK hP 4 0 rfl rfl h1 dX3_holds_8 ?_
  refine lv_topi (fun y2 e2 => ?_)
  replace hf := lt_of e2 hf
  refine lv_istore_n (lv' := [(3, .int y2), (0, .ref a_p1), (1, .ref a_p2), (2, .int x3)]) hx hb dX3_holds_9 rfl hl (by decide) rfl (fun ls hl => ?_)
  refine lv_aload_n hx hb dX3_holds_10 rfl (lv_at hl 1 rfl) ?_
  refine mp_get X fl_X3_55 hK hP 0 rfl rfl dX3_holds_11 ?_
  refine mp_get X fl_X3_67 hK hP 2 rfl rfl dX3_holds_14 ?_
  refine lv_iload_n hx hb dX3_holds_17 rfl (lv_at hl 3 rfl) ?_
  obtain ⟨h3, hf⟩ := gi_of hf
  refine va_iald hx hb hK hP 3 0 rfl rfl h3 dX3_holds_18 ?_
  by_cases h4 : (v_p1_rounds_code (x3).toNatClampNeg) = (nI 8)
  · replace hf := if_t hf h4
    refine lv_lookup (off := 25) (tgt := 44) hx hb dX3_holds_19 (by decide) (by rw [h4]; decide) (by decide) ?_
    refine lv_aload_n hx hb dX3_holds_44 rfl (lv_at hl 2 rfl) ?_
    refine mp_get X fl_X3_113 hK hP 6 rfl rfl dX3_holds_45 ?_
    refine lv_iload_n hx hb dX3_holds_48 rfl (lv_at hl 0 rfl) ?_
    obtain ⟨h5, hf⟩ := gi_of hf
    refine va_iald hx hb hK hP 7 0 rfl rfl h5 dX3_holds_49 ?_
    refine lv_aload_n hx hb dX3_holds_50 rfl (lv_at hl 1 rfl) ?_
    refine mp_get X fl_X3_55 hK hP 0 rfl rfl dX3_holds_51 ?_
    refine mp_get X fl_X3_94 hK hP 2 rfl rfl dX3_holds_54 ?_
    refine lv_iload_n hx hb dX3_holds_57 rfl (lv_at hl 3 rfl) ?_
    obtain ⟨h6, hf⟩ := gi_of hf
    refine va_iald hx hb hK hP 5 0 rfl rfl h6 dX3_holds_58 ?_
    obtain ⟨r7, c8, hf⟩ := bd_of hf
    have hPc := hP.sub (ws' := (k_X7_has T )) [] rfl
    have hDc := (mp_D_of (w1 := (k_X3_holds T a_p1 a_p1_cellNames a_p1_secretNames a_p1_pageNames a_p1_speed a_p1_letters a_p1_room a_p1_now a_p1_rounds a_p1_rounds_code a_p1_rounds_one a_p1_rounds_other a_p1_rounds_mate a_p2 a_p2_order a_p2_knows a_p2_made a_p2_sixteenths a_p2_dots a_p2_used a_p2_stands v_p1_cells v_p1_secrets v_p1_pages v_p1_blind v_p1_rubs v_p1_room v_p1_rounds_present v_p1_rounds_steps v_p1_rounds_size v_p1_rounds_code v_p1_rounds_one v_p1_rounds_other v_p2_inOrder v_p2_place v_p2_ill v_p2_shut v_p2_turns v_p2_madeInAll v_p2_knows v_p2_used)) hD rfl).sub (ws' := (k_X7_has T )) [] rfl rfl
    refine mp_calli (isC := []) (wc := (k_X7_has T )) (w1 := (k_X7_has T )) hP (mp_D_of hD rfl) hS hA rfl rfl (mp_runS (As := [.int (v_p2_knows (y2).toNatClampNeg), .int (v_p1_rounds_other (x3).toNatClampNeg)]) (rest := []) X me_X7_has lk_X3_116 (c_X7_has l D T (v_p2_knows (y2).toNatClampNeg) (v_p1_rounds_other (x3).toNatClampNeg) r7 c8) rfl rfl ⟨(Nat.le_of_ble_eq_true rfl), (Nat.le_of_ble_eq_true rfl)⟩ hK hPc hDc rfl hl.1 rfl (Nat.le_of_ble_eq_true rfl) dX3_holds_59 ⟨Nat.zero_le _, Nat.zero_le _⟩) (fun H locs hP _ hS => ?_)
    replace hP : va_P D mp_cl (k_X3_holds T a_p1 a_p1_cellNames a_p1_secretNames a_p1_pageNames a_p1_speed a_p1_letters a_p1_room a_p1_now a_p1_rounds a_p1_rounds_code a_p1_rounds_one a_p1_rounds_other a_p1_rounds_mate a_p2 a_p2_order a_p2_knows a_p2_made a_p2_sixteenths a_p2_dots a_p2_used a_p2_stands v_p1_cells v_p1_secrets v_p1_pages v_p1_blind v_p1_rubs v_p1_room v_p1_rounds_present v_p1_rounds_steps v_p1_rounds_size v_p1_rounds_code v_p1_rounds_one v_p1_rounds_other v_p2_inOrder v_p2_place v_p2_ill v_p2_shut v_p2_turns v_p2_madeInAll v_p2_knows v_p2_used) H := hP
    obtain ⟨h9, hf⟩ := gd_of hf
    cases hf
    exact mp_retz X hP hS rfl h9 dX3_holds_62
  replace hf := if_f hf h4
  by_cases h10 : (v_p1_rounds_code (x3).toNatClampNeg) = (nI 19)
  · replace hf := if_t hf h10
    refine lv_lookup (off := 44) (tgt := 63) hx hb dX3_holds_19 (by decide) (by rw [h10]; decide) (by decide) ?_
    refine lv_aload_n hx hb dX3_holds_63 rfl (lv_at hl 2 rfl) ?_
    refine lv_aload_n hx hb dX3_holds_64 rfl (lv_at hl 1 rfl) ?_
    refine lv_iload_n hx hb dX3_holds_65 rfl (lv_at hl 0 rfl) ?_
    obtain ⟨r11, c12, hf⟩ := bd_of hf
    have hPc := hP.sub (ws' := (k_X7_freeOf T a_p2 a_p2_order a_p2_knows a_p2_made a_p2_sixteenths a_p2_dots a_p2_used a_p2_stands a_p1 a_p1_cellNames a_p1_secretNames a_p1_pageNames a_p1_speed a_p1_letters a_p1_room a_p1_now a_p1_rounds v_p2_inOrder v_p2_place v_p2_ill v_p2_shut v_p2_turns v_p2_madeInAll v_p2_used v_p1_cells v_p1_secrets v_p1_pages v_p1_blind v_p1_rubs v_p1_room)) [6, 8, 0, 1] rfl
    have hDc := (mp_D_of (w1 := (k_X3_holds T a_p1 a_p1_cellNames a_p1_secretNames a_p1_pageNames a_p1_speed a_p1_letters a_p1_room a_p1_now a_p1_rounds a_p1_rounds_code a_p1_rounds_one a_p1_rounds_other a_p1_rounds_mate a_p2 a_p2_order a_p2_knows a_p2_made a_p2_sixteenths a_p2_dots a_p2_used a_p2_stands v_p1_cells v_p1_secrets v_p1_pages v_p1_blind v_p1_rubs v_p1_room v_p1_rounds_present v_p1_rounds_steps v_p1_rounds_size v_p1_rounds_code v_p1_rounds_one v_p1_rounds_other v_p2_inOrder v_p2_place v_p2_ill v_p2_shut v_p2_turns v_p2_madeInAll v_p2_knows v_p2_used)) hD rfl).sub (ws' := (k_X7_freeOf T a_p2 a_p2_order a_p2_knows a_p2_made a_p2_sixteenths a_p2_dots a_p2_used a_p2_stands a_p1 a_p1_cellNames a_p1_secretNames a_p1_pageNames a_p1_speed a_p1_letters a_p1_room a_p1_now a_p1_rounds v_p2_inOrder v_p2_place v_p2_ill v_p2_shut v_p2_turns v_p2_madeInAll v_p2_used v_p1_cells v_p1_secrets v_p1_pages v_p1_blind v_p1_rubs v_p1_room)) [6, 8, 0, 1] rfl rfl
    refine mp_calli (isC := [6, 8, 0, 1]) (wc := (k_X7_freeOf T a_p2 a_p2_order a_p2_knows a_p2_made a_p2_sixteenths a_p2_dots a_p2_used a_p2_stands a_p1 a_p1_cellNames a_p1_secretNames a_p1_pageNames a_p1_speed a_p1_letters a_p1_room a_p1_now a_p1_rounds v_p2_inOrder v_p2_place v_p2_ill v_p2_shut v_p2_turns v_p2_madeInAll v_p2_used v_p1_cells v_p1_secrets v_p1_pages v_p1_blind v_p1_rubs v_p1_room)) (w1 := (k_X7_freeOf T a_p2 a_p2_order a_p2_knows a_p2_made a_p2_sixteenths a_p2_dots a_p2_used a_p2_stands a_p1 a_p1_cellNames a_p1_secretNames a_p1_pageNames a_p1_speed a_p1_letters a_p1_room a_p1_now a_p1_rounds v_p2_inOrder v_p2_place v_p2_ill v_p2_shut v_p2_turns v_p2_madeInAll v_p2_used v_p1_cells v_p1_secrets v_p1_pages v_p1_blind v_p1_rubs v_p1_room)) hP (mp_D_of hD rfl) hS hA rfl rfl (mp_runV (As := [.ref a_p1, .int y2]) (rest := []) X me_X7_freeOf lk_X3_119 (c_X7_freeOf l D T a_p2 a_p2_order a_p2_knows a_p2_made a_p2_sixteenths a_p2_dots a_p2_used a_p2_stands a_p1 a_p1_cellNames a_p1_secretNames a_p1_pageNames a_p1_speed a_p1_letters a_p1_room a_p1_now a_p1_rounds y2 v_p2_inOrder v_p2_place v_p2_ill v_p2_shut v_p2_turns v_p2_madeInAll v_p1_cells v_p1_secrets v_p1_pages v_p1_blind v_p1_rubs v_p2_used v_p1_room r11 c12) rfl rfl ⟨(Nat.le_of_ble_eq_true rfl), (Nat.le_of_ble_eq_true rfl)⟩ hK hPc hDc rfl rfl rfl rfl hl.1 rfl (Nat.le_of_ble_eq_true rfl) dX3_holds_66 ⟨Nat.zero_le _, Nat.zero_le _⟩) (fun H locs hP _ hS => ?_)
    replace hP : va_P D mp_cl (k_X3_holds T a_p1 a_p1_cellNames a_p1_secretNames a_p1_pageNames a_p1_speed a_p1_letters a_p1_room a_p1_now a_p1_rounds a_p1_rounds_code a_p1_rounds_one a_p1_rounds_other a_p1_rounds_mate a_p2 a_p2_order a_p2_knows a_p2_made a_p2_sixteenths a_p2_dots a_p2_used a_p2_stands v_p1_cells v_p1_secrets v_p1_pages v_p1_blind v_p1_rubs v_p1_room v_p1_rounds_present v_p1_rounds_steps v_p1_rounds_size v_p1_rounds_code v_p1_rounds_one v_p1_rounds_other v_p2_inOrder v_p2_place v_p2_ill v_p2_shut v_p2_turns v_p2_madeInAll v_p2_knows v_p2_used) H := hP
    refine lv_if_ne (tgt := 76) hx hb dX3_holds_69 (by decide) (fun h13 => ?_) (fun h13 => ?_)
    · replace hf := if_f hf h13
      refine lv_iconst (v := (nI 0)) hx hb dX3_holds_76 (by decide) ?_
      cases hf
      exact mp_retz X hP hS rfl (Or.inl rfl) dX3_holds_77
    · replace hf := if_t hf h13
      refine lv_iconst (v := (nI 1)) hx hb dX3_holds_72 (by decide) ?_
      refine lv_goto (tgt := 77) hx hb dX3_holds_73 (by decide) ?_
      cases hf
      exact mp_retz X hP hS rfl (Or.inr rfl) dX3_holds_77
  replace hf := if_f hf h10
  refine lv_lookup (off := 59) (tgt := 78) hx hb dX3_holds_19 (by decide) (by simp only [Op.lookupswitch.offset, List.find?]; simp [show ¬ ((8 : Int) = (v_p1_rounds_code (x3).toNatClampNeg).toInt) from fun e => h4 (Int32.toInt_inj.mp e.symm), show ¬ ((19 : Int) = (v_p1_rounds_code (x3).toNatClampNeg).toInt) from fun e => h10 (Int32.toInt_inj.mp e.symm)]) (by decide) ?_
  refine lv_aload_n hx hb dX3_holds_78 rfl (lv_at hl 2 rfl) ?_
  refine lv_aload_n hx hb dX3_holds_79 rfl (lv_at hl 1 rfl) ?_
  obtain ⟨r14, c15, hf⟩ := bd_of hf
  have hPc := hP.sub (ws' := (k_X1_seeing T a_p1 a_p1_cellNames a_p1_secretNames a_p1_pageNames a_p1_speed a_p1_letters a_p1_room a_p1_now a_p1_rounds v_p1_cells v_p1_secrets v_p1_pages v_p1_blind v_p1_rubs)) [0] rfl
  have hDc := (mp_D_of (w1 := (k_X3_holds T a_p1 a_p1_cellNames a_p1_secretNames a_p1_pageNames a_p1_speed a_p1_letters a_p1_room a_p1_now a_p1_rounds a_p1_rounds_code a_p1_rounds_one a_p1_rounds_other a_p1_rounds_mate a_p2 a_p2_order a_p2_knows a_p2_made a_p2_sixteenths a_p2_dots a_p2_used a_p2_stands v_p1_cells v_p1_secrets v_p1_pages v_p1_blind v_p1_rubs v_p1_room v_p1_rounds_present v_p1_rounds_steps v_p1_rounds_size v_p1_rounds_code v_p1_rounds_one v_p1_rounds_other v_p2_inOrder v_p2_place v_p2_ill v_p2_shut v_p2_turns v_p2_madeInAll v_p2_knows v_p2_used)) hD rfl).sub (ws' := (k_X1_seeing T a_p1 a_p1_cellNames a_p1_secretNames a_p1_pageNames a_p1_speed a_p1_letters a_p1_room a_p1_now a_p1_rounds v_p1_cells v_p1_secrets v_p1_pages v_p1_blind v_p1_rubs)) [0] rfl rfl
  refine mp_calli (isC := [0]) (wc := (k_X1_seeing T a_p1 a_p1_cellNames a_p1_secretNames a_p1_pageNames a_p1_speed a_p1_letters a_p1_room a_p1_now a_p1_rounds v_p1_cells v_p1_secrets v_p1_pages v_p1_blind v_p1_rubs)) (w1 := (k_X1_seeing T a_p1 a_p1_cellNames a_p1_secretNames a_p1_pageNames a_p1_speed a_p1_letters a_p1_room a_p1_now a_p1_rounds v_p1_cells v_p1_secrets v_p1_pages v_p1_blind v_p1_rubs)) hP (mp_D_of hD rfl) hS hA rfl rfl (mp_runV (As := []) (rest := [.ref a_p2]) X me_X1_seeing lk_X3_123 (c_X1_seeing l D T a_p1 a_p1_cellNames a_p1_secretNames a_p1_pageNames a_p1_speed a_p1_letters a_p1_room a_p1_now a_p1_rounds v_p1_secrets v_p1_pages v_p1_rubs v_p1_cells v_p1_blind r14 c15) rfl rfl ⟨(Nat.le_of_ble_eq_true rfl), (Nat.le_of_ble_eq_true rfl)⟩ hK hPc hDc rfl rfl rfl rfl hl.1 rfl (Nat.le_of_ble_eq_true rfl) dX3_holds_80 ⟨Nat.zero_le _, Nat.zero_le _⟩) (fun H locs hP _ hS => ?_)
  replace hP : va_P D mp_cl (k_X3_holds T a_p1 a_p1_cellNames a_p1_secretNames a_p1_pageNames a_p1_speed a_p1_letters a_p1_room a_p1_now a_p1_rounds a_p1_rounds_code a_p1_rounds_one a_p1_rounds_other a_p1_rounds_mate a_p2 a_p2_order a_p2_knows a_p2_made a_p2_sixteenths a_p2_dots a_p2_used a_p2_stands v_p1_cells v_p1_secrets v_p1_pages v_p1_blind v_p1_rubs v_p1_room v_p1_rounds_present v_p1_rounds_steps v_p1_rounds_size v_p1_rounds_code v_p1_rounds_one v_p1_rounds_other v_p2_inOrder v_p2_place v_p2_ill v_p2_shut v_p2_turns v_p2_madeInAll v_p2_knows v_p2_used) H := hP
  refine lv_iconst (v := (nI 1)) hx hb dX3_holds_83 (by decide) ?_
  refine lv_iload_n hx hb dX3_holds_84 rfl (lv_at hl 0 rfl) ?_
  refine lv_ishl hx hb dX3_holds_85 ?_
  obtain ⟨r16, c17, hf⟩ := bd_of hf
  have hPc := hP.sub (ws' := (k_X7_isReached T a_p2 a_p2_order a_p2_knows a_p2_made a_p2_sixteenths a_p2_dots a_p2_used a_p2_stands v_p2_inOrder v_p2_place v_p2_ill v_p2_shut v_p2_turns v_p2_madeInAll v_p2_knows)) [6, 7] rfl
  have hDc := (mp_D_of (w1 := (k_X3_holds T a_p1 a_p1_cellNames a_p1_secretNames a_p1_pageNames a_p1_speed a_p1_letters a_p1_room a_p1_now a_p1_rounds a_p1_rounds_code a_p1_rounds_one a_p1_rounds_other a_p1_rounds_mate a_p2 a_p2_order a_p2_knows a_p2_made a_p2_sixteenths a_p2_dots a_p2_used a_p2_stands v_p1_cells v_p1_secrets v_p1_pages v_p1_blind v_p1_rubs v_p1_room v_p1_rounds_present v_p1_rounds_steps v_p1_rounds_size v_p1_rounds_code v_p1_rounds_one v_p1_rounds_other v_p2_inOrder v_p2_place v_p2_ill v_p2_shut v_p2_turns v_p2_madeInAll v_p2_knows v_p2_used)) hD rfl).sub (ws' := (k_X7_isReached T a_p2 a_p2_order a_p2_knows a_p2_made a_p2_sixteenths a_p2_dots a_p2_used a_p2_stands v_p2_inOrder v_p2_place v_p2_ill v_p2_shut v_p2_turns v_p2_madeInAll v_p2_knows)) [6, 7] rfl rfl
  refine mp_calli (isC := [6, 7]) (wc := (k_X7_isReached T a_p2 a_p2_order a_p2_knows a_p2_made a_p2_sixteenths a_p2_dots a_p2_used a_p2_stands v_p2_inOrder v_p2_place v_p2_ill v_p2_shut v_p2_turns v_p2_madeInAll v_p2_knows)) (w1 := (k_X7_isReached T a_p2 a_p2_order a_p2_knows a_p2_made a_p2_sixteenths a_p2_dots a_p2_used a_p2_stands v_p2_inOrder v_p2_place v_p2_ill v_p2_shut v_p2_turns v_p2_madeInAll v_p2_knows)) hP (mp_D_of hD rfl) hS hA rfl rfl (mp_runV (As := [.int r14, .int ((nI 1) <<< (y2 &&& (31 : Int32)))]) (rest := []) X me_X7_isReached lk_X3_127 (c_X7_isReached l D T fu a_p2 a_p2_order a_p2_knows a_p2_made a_p2_sixteenths a_p2_dots a_p2_used a_p2_stands r14 ((nI 1) <<< (y2 &&& (31 : Int32))) v_p2_inOrder v_p2_place v_p2_ill v_p2_shut v_p2_turns v_p2_madeInAll v_p2_knows r16 c17) rfl rfl ⟨(Nat.le_of_ble_eq_true rfl), (Nat.le_of_ble_eq_true rfl)⟩ hK hPc hDc rfl rfl rfl rfl hl.1 rfl (Nat.le_of_ble_eq_true rfl) dX3_holds_86 ⟨Nat.zero_le _, Nat.zero_le _⟩) (fun H locs hP _ hS => ?_)
  replace hP : va_P D mp_cl (k_X3_holds T a_p1 a_p1_cellNames a_p1_secretNames a_p1_pageNames a_p1_speed a_p1_letters a_p1_room a_p1_now a_p1_rounds a_p1_rounds_code a_p1_rounds_one a_p1_rounds_other a_p1_rounds_mate a_p2 a_p2_order a_p2_knows a_p2_made a_p2_sixteenths a_p2_dots a_p2_used a_p2_stands v_p1_cells v_p1_secrets v_p1_pages v_p1_blind v_p1_rubs v_p1_room v_p1_rounds_present v_p1_rounds_steps v_p1_rounds_size v_p1_rounds_code v_p1_rounds_one v_p1_rounds_other v_p2_inOrder v_p2_place v_p2_ill v_p2_shut v_p2_turns v_p2_madeInAll v_p2_knows v_p2_used) H := hP
  obtain ⟨h18, hf⟩ := gd_of hf
  cases hf
  exact mp_retz X hP hS rfl h18 dX3_holds_89


def k_X3_drawSixteenth (T : Nat → ClassId) (a_ a_loopsLeft a_probe : Nat) (v_steps : Int32) (v_missed : Int32) (v_turns : Int32) (v_made : Int32) (v_found : Int32) (v_left : Int32) (v_seed : Int32) : va_W := [(a_, oX3 v_steps v_missed v_turns v_made v_found v_left v_seed a_loopsLeft a_probe)]
set_option maxHeartbeats 4000000 in
set_option maxRecDepth 100000 in
theorem c_X3_drawSixteenth (l : Launch) (D : va_G) (T : Nat → ClassId) (a_ a_loopsLeft a_probe : Nat) (v_steps : Int32) (v_missed : Int32) (v_turns : Int32) (v_made : Int32) (v_found : Int32) (v_left : Int32) (v_seed : Int32) (r_ : Int32) (o_seed : Int32) (hf : f_X3_drawSixteenth v_seed = some (r_, o_seed)) :
    mp_M l D T yX3_drawSixteenth cX3_drawSixteenth 1 (some .int) ({ frames := 0, cells := 0, slots := 0, locals := 0 }) 0 0 [.ref a_] (k_X3_drawSixteenth T a_ a_loopsLeft a_probe v_steps v_missed v_turns v_made v_found v_left v_seed) (mp_Qi D r_ (k_X3_drawSixteenth T a_ a_loopsLeft a_probe v_steps v_missed v_turns v_made v_found v_left o_seed)) := by
  refine mp_of (by decide) (Nat.le_of_ble_eq_true rfl) rfl ?_
  intro p e s m args below meth c A ls X hK hP hD hS hA hl
  replace X : mp_X p s m meth c args RX3 "drawSixteenth" cX3_drawSixteenth 1 (some .int) := X
  have hx := X.1
  have hb := X.2.1
  have hml := X.2.2.1
  have hown := X.2.2.2.2.1
  have hts := X.2.2.2.2.2.1
  replace hl : lv_has ls 1 [(0, .ref a_)] := hl
  replace hf : lt_ (((v_seed * (nI 2969)) + (nI 10651)) - ((v_seed * (nI 2969)) + (nI 10651)) / (nI 65536) * (nI 65536)) (fun (y1 : Int32) => some ((y1 / (nI 8)) - (y1 / (nI 8)) / (nI 16) * (nI 16), y1)) = some (r_, o_seed) := hf
  refine lv_aload_n hx hb dX3_drawSixteenth_0 rfl (lv_at hl 0 rfl) ?_
  refine lv_aload_n hx hb dX3_drawSixteenth_1 rfl (lv_at hl 0 rfl) ?_
  refine mp_get X fl_X3_30 hK hP 0 rfl rfl dX3_drawSixteenth_2 ?_
  refine lv_sipush (v := (nI 2969)) hx hb dX3_drawSixteenth_5 (by decide) ?_
  refine lv_imul hx hb dX3_drawSixteenth_8 ?_
  refine lv_sipush (v := (nI 10651)) hx hb dX3_drawSixteenth_9 (by decide) ?_
  refine lv_iadd hx hb dX3_drawSixteenth_12 ?_
  refine lv_ldc (v := (nI 65536)) hx hb hown (hts _ (cw_X3_139)) dX3_drawSixteenth_13 ?_
  refine lv_irem hx hb dX3_drawSixteenth_15 (by decide) ?_
  refine lv_topi (fun y1 e1 => ?_)
  replace hf := lt_of e1 hf
  refine mp_putf X fl_X3_30 fp_X3 rfl hK hP (mp_D_of hD rfl) hS 0 rfl rfl rfl (Nat.le_of_ble_eq_true rfl) dX3_drawSixteenth_16 (fun H locs hP _ hS => ?_)
  replace hP : va_P D mp_cl (k_X3_drawSixteenth T a_ a_loopsLeft a_probe v_steps v_missed v_turns v_made v_found v_left y1) H := hP
  refine lv_aload_n hx hb dX3_drawSixteenth_19 rfl (lv_at hl 0 rfl) ?_
  refine mp_get X fl_X3_30 hK hP 0 rfl rfl dX3_drawSixteenth_20 ?_
  refine lv_bipush (v := (nI 8)) hx hb dX3_drawSixteenth_23 (by decide) ?_
  refine lv_idiv hx hb dX3_drawSixteenth_25 (by decide) ?_
  refine lv_bipush (v := (nI 16)) hx hb dX3_drawSixteenth_26 (by decide) ?_
  refine lv_irem hx hb dX3_drawSixteenth_28 (by decide) ?_
  cases hf
  exact mp_reti X hP hS rfl dX3_drawSixteenth_29


def k_X3_searches (T : Nat → ClassId) (a_ a_loopsLeft a_probe a_p1 a_p1_cellNames a_p1_secretNames a_p1_pageNames a_p1_speed a_p1_letters a_p1_room a_p1_now a_p1_rounds a_p2 a_p2_order a_p2_knows a_p2_made a_p2_sixteenths a_p2_dots a_p2_used a_p2_stands : Nat) (v_steps : Int32) (v_missed : Int32) (v_turns : Int32) (v_made : Int32) (v_found : Int32) (v_left : Int32) (v_seed : Int32) (v_p1_cells : Int32) (v_p1_secrets : Int32) (v_p1_pages : Int32) (v_p1_blind : Int32) (v_p1_rubs : Int32) (v_p2_inOrder : Int32) (v_p2_place : Int32) (v_p2_ill : Int32) (v_p2_shut : Int32) (v_p2_turns : Int32) (v_p2_madeInAll : Int32) (v_p2_dots : (Nat → Int32)) (v_p2_sixteenths : (Nat → Int32)) (v_p2_stands : (Nat → Int32)) (v_p2_used : (Nat → Int32)) : va_W := [(a_, oX3 v_steps v_missed v_turns v_made v_found v_left v_seed a_loopsLeft a_probe), (a_p1, oX1 v_p1_cells v_p1_secrets v_p1_pages a_p1_cellNames a_p1_secretNames a_p1_pageNames a_p1_speed v_p1_blind v_p1_rubs a_p1_letters a_p1_room a_p1_now a_p1_rounds), (a_p2, oX7 a_p2_order v_p2_inOrder v_p2_place a_p2_knows a_p2_made a_p2_sixteenths a_p2_dots a_p2_used a_p2_stands v_p2_ill v_p2_shut v_p2_turns v_p2_madeInAll), (a_p2_dots, mp_aI T 36 v_p2_dots), (a_p2_sixteenths, mp_aI T 6 v_p2_sixteenths), (a_p2_stands, mp_aI T 6 v_p2_stands), (a_p2_used, mp_aI T 6 v_p2_used)]
set_option maxHeartbeats 4000000 in
set_option maxRecDepth 100000 in
theorem w_X3_searches_5 {p : Program} {l : Launch} {e : Env} {s : State} {m : MethodId} {args : Array Value} {below : List Frame} {meth : Method} {c : Code} {D : va_G} {T : Nat → ClassId} {A : Nat → Prop} (X : mp_X p s m meth c args RX3 "searches" cX3_searches 5 (some .boolean)) (hK : va_K D mp_cl (mp_ty T) s) (hA : ∀ q, s.heap.size ≤ q → A q) (fu : Nat) (a_ a_loopsLeft a_probe a_p1 a_p1_cellNames a_p1_secretNames a_p1_pageNames a_p1_speed a_p1_letters a_p1_room a_p1_now a_p1_rounds a_p2 a_p2_order a_p2_knows a_p2_made a_p2_sixteenths a_p2_dots a_p2_used a_p2_stands : Nat) (v_steps : Int32) (v_missed : Int32) (v_turns : Int32) (v_made : Int32) (v_left : Int32) (v_p1_cells : Int32) (v_p1_secrets : Int32) (v_p1_blind : Int32) (v_p1_rubs : Int32) (v_p2_inOrder : Int32) (v_p2_place : Int32) (v_p2_ill : Int32) (v_p2_turns : Int32) (v_p2_madeInAll : Int32) (v_p1_pages : Int32) (v_p2_shut : Int32) (v_p2_sixteenths : (Nat → Int32)) (r_ : Int32) (o_found : Int32) (o_seed : Int32) (o_p2_dots : (Nat → Int32)) (o_p2_stands : (Nat → Int32)) (o_p2_used : (Nat → Int32)) :
    ∀ (n : Nat) (z3 : Int32) (z4 : Int32) (v_found : Int32) (v_seed : Int32) (v_p2_dots : (Nat → Int32)) (v_p2_stands : (Nat → Int32)) (v_p2_used : (Nat → Int32)), f_X3_searches_5 fu v_p1_pages v_p2_shut v_p2_sixteenths  n z3 z4 v_found v_seed v_p2_dots v_p2_stands v_p2_used = some (r_, o_found, o_seed, o_p2_dots, o_p2_stands, o_p2_used) → ∀ (H : Heap) (locs : List Loc) (ls : Array Slot), va_P D mp_cl (k_X3_searches T a_ a_loopsLeft a_probe a_p1 a_p1_cellNames a_p1_secretNames a_p1_pageNames a_p1_speed a_p1_letters a_p1_room a_p1_now a_p1_rounds a_p2 a_p2_order a_p2_knows a_p2_made a_p2_sixteenths a_p2_dots a_p2_used a_p2_stands v_steps v_missed v_turns v_made v_found v_left v_seed v_p1_cells v_p1_secrets v_p1_pages v_p1_blind v_p1_rubs v_p2_inOrder v_p2_place v_p2_ill v_p2_shut v_p2_turns v_p2_madeInAll v_p2_dots v_p2_sixteenths v_p2_stands v_p2_used) H → va_D A (k_X3_searches T a_ a_loopsLeft a_probe a_p1 a_p1_cellNames a_p1_secretNames a_p1_pageNames a_p1_speed a_p1_letters a_p1_room a_p1_now a_p1_rounds a_p2 a_p2_order a_p2_knows a_p2_made a_p2_sixteenths a_p2_dots a_p2_used a_p2_stands v_steps v_missed v_turns v_made v_found v_left v_seed v_p1_cells v_p1_secrets v_p1_pages v_p1_blind v_p1_rubs v_p2_inOrder v_p2_place v_p2_ill v_p2_shut v_p2_turns v_p2_madeInAll v_p2_dots v_p2_sixteenths v_p2_stands v_p2_used) → va_S A s.heap H locs → lv_has ls 5 [(0, .ref a_), (1, .ref a_p1), (2, .ref a_p2), (3, .int z3), (4, .int z4)] → W p l e ({ frames := 1, cells := 0, slots := 0, locals := 23 }) s m args below meth c H locs 0 0 (MQ below ((mp_Qi D r_ (k_X3_searches T a_ a_loopsLeft a_probe a_p1 a_p1_cellNames a_p1_secretNames a_p1_pageNames a_p1_speed a_p1_letters a_p1_room a_p1_now a_p1_rounds a_p2 a_p2_order a_p2_knows a_p2_made a_p2_sixteenths a_p2_dots a_p2_used a_p2_stands v_steps v_missed v_turns v_made o_found v_left o_seed v_p1_cells v_p1_secrets v_p1_pages v_p1_blind v_p1_rubs v_p2_inOrder v_p2_place v_p2_ill v_p2_shut v_p2_turns v_p2_madeInAll o_p2_dots v_p2_sixteenths o_p2_stands o_p2_used)) A) args s 0 0 A) (F0 m 5 ls []) := by
  have hx := X.1
  have hb := X.2.1
  have hml := X.2.2.1
  have hown := X.2.2.2.2.1
  have hts := X.2.2.2.2.2.1
  intro n
  induction n with
  | zero => intro z3 z4 v_found v_seed v_p2_dots v_p2_stands v_p2_used hf; exact absurd hf (by intro h; cases h)
  | succ n ih =>
    intro z3 z4 v_found v_seed v_p2_dots v_p2_stands v_p2_used hf H locs ls hP hD hS hl
    replace hf : (if v_p1_pages ≤ z4 then lt_ (v_found + z3) (fun (y2 : Int32) => (if z3 ≤ 0 then some ((nI 0), y2, v_seed, v_p2_dots, v_p2_stands, v_p2_used) else some ((nI 1), y2, v_seed, v_p2_dots, v_p2_stands, v_p2_used))) else bd_ (f_X7_has v_p2_shut z4) (fun (r4 : Int32) => (if r4 = 0 then bd_ (f_X3_drawSixteenth v_seed) (fun (z : Int32 × Int32) => match z with | (r8, u9) => gi_ z4 6 ((if (v_p2_sixteenths (z4).toNatClampNeg) ≤ r8 then lt_ (z4 + (nI 1)) (fun (y13 : Int32) => f_X3_searches_5 fu v_p1_pages v_p2_shut v_p2_sixteenths  n z3 y13 v_found u9 v_p2_dots v_p2_stands v_p2_used) else bd_ (f_X7_erasePage fu z4 v_p2_dots v_p2_stands v_p2_used) (fun (z : Int32 × (Nat → Int32) × (Nat → Int32) × (Nat → Int32)) => match z with | (r14, u15, u16, u17) => lt_ (z3 + r14) (fun (y19 : Int32) => lt_ (z4 + (nI 1)) (fun (y20 : Int32) => f_X3_searches_5 fu v_p1_pages v_p2_shut v_p2_sixteenths  n y19 y20 v_found u9 u15 u16 u17)))))) else lt_ (z4 + (nI 1)) (fun (y7 : Int32) => f_X3_searches_5 fu v_p1_pages v_p2_shut v_p2_sixteenths  n z3 y7 v_found v_seed v_p2_dots v_p2_stands v_p2_used)))) = some (r_, o_found, o_seed, o_p2_dots, o_p2_stands, o_p2_used) := hf
    refine lv_iload hx hb dX3_searches_5 (lv_at hl 4 rfl) ?_
    refine lv_aload_n hx hb dX3_searches_7 rfl (lv_at hl 1 rfl) ?_
    refine mp_get X fl_X3_130 hK hP 1 rfl rfl dX3_searches_8 ?_
    refine lv_icmp_ge (tgt := 55) hx hb dX3_searches_11 (by decide) (fun h1 => ?_) (fun h1 => ?_)
    · replace hf := if_t hf h1
      refine lv_aload_n hx hb dX3_searches_55 rfl (lv_at hl 0 rfl) ?_
      refine lv_dup hx hb dX3_searches_56 rfl ?_
      refine mp_get X fl_X3_24 hK hP 0 rfl rfl dX3_searches_57 ?_
      refine lv_iload_n hx hb dX3_searches_60 rfl (lv_at hl 3 rfl) ?_
      refine lv_iadd hx hb dX3_searches_61 ?_
      refine lv_topi (fun y2 e2 => ?_)
      replace hf := lt_of e2 hf
      refine mp_putf X fl_X3_24 fp_X3 rfl hK hP (mp_D_of hD rfl) hS 0 rfl rfl rfl (Nat.le_of_ble_eq_true rfl) dX3_searches_62 (fun H locs hP _ hS => ?_)
      replace hP : va_P D mp_cl (k_X3_searches T a_ a_loopsLeft a_probe a_p1 a_p1_cellNames a_p1_secretNames a_p1_pageNames a_p1_speed a_p1_letters a_p1_room a_p1_now a_p1_rounds a_p2 a_p2_order a_p2_knows a_p2_made a_p2_sixteenths a_p2_dots a_p2_used a_p2_stands v_steps v_missed v_turns v_made y2 v_left v_seed v_p1_cells v_p1_secrets v_p1_pages v_p1_blind v_p1_rubs v_p2_inOrder v_p2_place v_p2_ill v_p2_shut v_p2_turns v_p2_madeInAll v_p2_dots v_p2_sixteenths v_p2_stands v_p2_used) H := hP
      refine lv_iload_n hx hb dX3_searches_65 rfl (lv_at hl 3 rfl) ?_
      refine lv_if_le (tgt := 73) hx hb dX3_searches_66 (by decide) (fun h3 => ?_) (fun h3 => ?_)
      · replace hf := if_t hf h3
        refine lv_iconst (v := (nI 0)) hx hb dX3_searches_73 (by decide) ?_
        cases hf
        exact mp_retz X hP hS rfl (Or.inl rfl) dX3_searches_74
      · replace hf := if_f hf h3
        refine lv_iconst (v := (nI 1)) hx hb dX3_searches_69 (by decide) ?_
        refine lv_goto (tgt := 74) hx hb dX3_searches_70 (by decide) ?_
        cases hf
        exact mp_retz X hP hS rfl (Or.inr rfl) dX3_searches_74
    · replace hf := if_f hf h1
      refine lv_aload_n hx hb dX3_searches_14 rfl (lv_at hl 2 rfl) ?_
      refine mp_get X fl_X3_91 hK hP 2 rfl rfl dX3_searches_15 ?_
      refine lv_iload hx hb dX3_searches_18 (lv_at hl 4 rfl) ?_
      obtain ⟨r4, c5, hf⟩ := bd_of hf
      have hPc := hP.sub (ws' := (k_X7_has T )) [] rfl
      have hDc := (mp_D_of (w1 := (k_X3_searches T a_ a_loopsLeft a_probe a_p1 a_p1_cellNames a_p1_secretNames a_p1_pageNames a_p1_speed a_p1_letters a_p1_room a_p1_now a_p1_rounds a_p2 a_p2_order a_p2_knows a_p2_made a_p2_sixteenths a_p2_dots a_p2_used a_p2_stands v_steps v_missed v_turns v_made v_found v_left v_seed v_p1_cells v_p1_secrets v_p1_pages v_p1_blind v_p1_rubs v_p2_inOrder v_p2_place v_p2_ill v_p2_shut v_p2_turns v_p2_madeInAll v_p2_dots v_p2_sixteenths v_p2_stands v_p2_used)) hD rfl).sub (ws' := (k_X7_has T )) [] rfl rfl
      refine mp_calli (isC := []) (wc := (k_X7_has T )) (w1 := (k_X7_has T )) hP (mp_D_of hD rfl) hS hA rfl rfl (mp_runS (As := [.int v_p2_shut, .int z4]) (rest := []) X me_X7_has lk_X3_116 (c_X7_has l D T v_p2_shut z4 r4 c5) rfl rfl ⟨(Nat.le_of_ble_eq_true rfl), (Nat.le_of_ble_eq_true rfl)⟩ hK hPc hDc rfl hl.1 rfl (Nat.le_of_ble_eq_true rfl) dX3_searches_20 ⟨Nat.zero_le _, Nat.zero_le _⟩) (fun H locs hP _ hS => ?_)
      replace hP : va_P D mp_cl (k_X3_searches T a_ a_loopsLeft a_probe a_p1 a_p1_cellNames a_p1_secretNames a_p1_pageNames a_p1_speed a_p1_letters a_p1_room a_p1_now a_p1_rounds a_p2 a_p2_order a_p2_knows a_p2_made a_p2_sixteenths a_p2_dots a_p2_used a_p2_stands v_steps v_missed v_turns v_made v_found v_left v_seed v_p1_cells v_p1_secrets v_p1_pages v_p1_blind v_p1_rubs v_p2_inOrder v_p2_place v_p2_ill v_p2_shut v_p2_turns v_p2_madeInAll v_p2_dots v_p2_sixteenths v_p2_stands v_p2_used) H := hP
      refine lv_if_ne (tgt := 49) hx hb dX3_searches_23 (by decide) (fun h6 => ?_) (fun h6 => ?_)
      · replace hf := if_f hf h6
        obtain ⟨y7, e7⟩ : ∃ y : Int32, y = z4 + (nI 1) := ⟨_, rfl⟩
        replace hf := lt_of e7 hf
        refine lv_iinc (v := y7) (lv' := [(4, .int y7), (0, .ref a_), (1, .ref a_p1), (2, .ref a_p2), (3, .int z3)]) hx hb dX3_searches_49 hl (k := 4) rfl (by rw [e7]; rfl) (by decide) rfl (fun ls hl => ?_)
        refine lv_goto (tgt := 5) hx hb dX3_searches_52 (by decide) ?_
        exact ih z3 y7 v_found v_seed v_p2_dots v_p2_stands v_p2_used hf _ _ _ hP (mp_D_of hD rfl) hS (lv_sub hl [1, 2, 3, 4, 0] rfl)
      · replace hf := if_t hf h6
        refine lv_aload_n hx hb dX3_searches_26 rfl (lv_at hl 0 rfl) ?_
        obtain ⟨⟨r8, u9⟩, c10, hf⟩ := bd_of hf
        dsimp only at hf
        have hPc := hP.sub (ws' := (k_X3_drawSixteenth T a_ a_loopsLeft a_probe v_steps v_missed v_turns v_made v_found v_left v_seed)) [0] rfl
        have hDc := (mp_D_of (w1 := (k_X3_searches T a_ a_loopsLeft a_probe a_p1 a_p1_cellNames a_p1_secretNames a_p1_pageNames a_p1_speed a_p1_letters a_p1_room a_p1_now a_p1_rounds a_p2 a_p2_order a_p2_knows a_p2_made a_p2_sixteenths a_p2_dots a_p2_used a_p2_stands v_steps v_missed v_turns v_made v_found v_left v_seed v_p1_cells v_p1_secrets v_p1_pages v_p1_blind v_p1_rubs v_p2_inOrder v_p2_place v_p2_ill v_p2_shut v_p2_turns v_p2_madeInAll v_p2_dots v_p2_sixteenths v_p2_stands v_p2_used)) hD rfl).sub (ws' := (k_X3_drawSixteenth T a_ a_loopsLeft a_probe v_steps v_missed v_turns v_made v_found v_left v_seed)) [0] rfl rfl
        refine mp_calli (isC := [0]) (wc := (k_X3_drawSixteenth T a_ a_loopsLeft a_probe v_steps v_missed v_turns v_made v_found v_left v_seed)) (w1 := (k_X3_drawSixteenth T a_ a_loopsLeft a_probe v_steps v_missed v_turns v_made v_found v_left u9)) hP (mp_D_of hD rfl) hS hA rfl rfl (mp_runV (As := []) (rest := []) X me_X3_drawSixteenth lk_X3_133 (c_X3_drawSixteenth l D T a_ a_loopsLeft a_probe v_steps v_missed v_turns v_made v_found v_left v_seed r8 u9 c10) rfl rfl ⟨(Nat.le_of_ble_eq_true rfl), (Nat.le_of_ble_eq_true rfl)⟩ hK hPc hDc rfl rfl rfl rfl hl.1 rfl (Nat.le_of_ble_eq_true rfl) dX3_searches_27 ⟨Nat.zero_le _, Nat.zero_le _⟩) (fun H locs hP _ hS => ?_)
        replace hP : va_P D mp_cl (k_X3_searches T a_ a_loopsLeft a_probe a_p1 a_p1_cellNames a_p1_secretNames a_p1_pageNames a_p1_speed a_p1_letters a_p1_room a_p1_now a_p1_rounds a_p2 a_p2_order a_p2_knows a_p2_made a_p2_sixteenths a_p2_dots a_p2_used a_p2_stands v_steps v_missed v_turns v_made v_found v_left u9 v_p1_cells v_p1_secrets v_p1_pages v_p1_blind v_p1_rubs v_p2_inOrder v_p2_place v_p2_ill v_p2_shut v_p2_turns v_p2_madeInAll v_p2_dots v_p2_sixteenths v_p2_stands v_p2_used) H := hP
        refine lv_aload_n hx hb dX3_searches_30 rfl (lv_at hl 2 rfl) ?_
        refine mp_get X fl_X3_136 hK hP 2 rfl rfl dX3_searches_31 ?_
        refine lv_iload hx hb dX3_searches_34 (lv_at hl 4 rfl) ?_
        obtain ⟨h11, hf⟩ := gi_of hf
        refine va_iald hx hb hK hP 4 0 rfl rfl h11 dX3_searches_36 ?_
        refine lv_icmp_ge (tgt := 49) hx hb dX3_searches_37 (by decide) (fun h12 => ?_) (fun h12 => ?_)
        · replace hf := if_t hf h12
          obtain ⟨y13, e13⟩ : ∃ y : Int32, y = z4 + (nI 1) := ⟨_, rfl⟩
          replace hf := lt_of e13 hf
          refine lv_iinc (v := y13) (lv' := [(4, .int y13), (0, .ref a_), (1, .ref a_p1), (2, .ref a_p2), (3, .int z3)]) hx hb dX3_searches_49 hl (k := 4) rfl (by rw [e13]; rfl) (by decide) rfl (fun ls hl => ?_)
          refine lv_goto (tgt := 5) hx hb dX3_searches_52 (by decide) ?_
          exact ih z3 y13 v_found u9 v_p2_dots v_p2_stands v_p2_used hf _ _ _ hP (mp_D_of hD rfl) hS (lv_sub hl [1, 2, 3, 4, 0] rfl)
        · replace hf := if_f hf h12
          refine lv_iload_n hx hb dX3_searches_40 rfl (lv_at hl 3 rfl) ?_
          refine lv_aload_n hx hb dX3_searches_41 rfl (lv_at hl 2 rfl) ?_
          refine lv_iload hx hb dX3_searches_42 (lv_at hl 4 rfl) ?_
          obtain ⟨⟨r14, u15, u16, u17⟩, c18, hf⟩ := bd_of hf
          dsimp only at hf
          have hPc := hP.sub (ws' := (k_X7_erasePage T a_p2 a_p2_order a_p2_knows a_p2_made a_p2_sixteenths a_p2_dots a_p2_used a_p2_stands v_p2_inOrder v_p2_place v_p2_ill v_p2_shut v_p2_turns v_p2_madeInAll v_p2_dots v_p2_stands v_p2_used)) [2, 3, 5, 6] rfl
          have hDc := (mp_D_of (w1 := (k_X3_searches T a_ a_loopsLeft a_probe a_p1 a_p1_cellNames a_p1_secretNames a_p1_pageNames a_p1_speed a_p1_letters a_p1_room a_p1_now a_p1_rounds a_p2 a_p2_order a_p2_knows a_p2_made a_p2_sixteenths a_p2_dots a_p2_used a_p2_stands v_steps v_missed v_turns v_made v_found v_left u9 v_p1_cells v_p1_secrets v_p1_pages v_p1_blind v_p1_rubs v_p2_inOrder v_p2_place v_p2_ill v_p2_shut v_p2_turns v_p2_madeInAll v_p2_dots v_p2_sixteenths v_p2_stands v_p2_used)) hD rfl).sub (ws' := (k_X7_erasePage T a_p2 a_p2_order a_p2_knows a_p2_made a_p2_sixteenths a_p2_dots a_p2_used a_p2_stands v_p2_inOrder v_p2_place v_p2_ill v_p2_shut v_p2_turns v_p2_madeInAll v_p2_dots v_p2_stands v_p2_used)) [2, 3, 5, 6] rfl rfl
          refine mp_calli (isC := [2, 3, 5, 6]) (wc := (k_X7_erasePage T a_p2 a_p2_order a_p2_knows a_p2_made a_p2_sixteenths a_p2_dots a_p2_used a_p2_stands v_p2_inOrder v_p2_place v_p2_ill v_p2_shut v_p2_turns v_p2_madeInAll v_p2_dots v_p2_stands v_p2_used)) (w1 := (k_X7_erasePage T a_p2 a_p2_order a_p2_knows a_p2_made a_p2_sixteenths a_p2_dots a_p2_used a_p2_stands v_p2_inOrder v_p2_place v_p2_ill v_p2_shut v_p2_turns v_p2_madeInAll u15 u16 u17)) hP (mp_D_of hD rfl) hS hA rfl rfl (mp_runV (As := [.int z4]) (rest := [.int z3]) X me_X7_erasePage lk_X3_101 (c_X7_erasePage l D T fu a_p2 a_p2_order a_p2_knows a_p2_made a_p2_sixteenths a_p2_dots a_p2_used a_p2_stands z4 v_p2_inOrder v_p2_place v_p2_ill v_p2_shut v_p2_turns v_p2_madeInAll v_p2_dots v_p2_stands v_p2_used r14 u15 u16 u17 c18) rfl rfl ⟨(Nat.le_of_ble_eq_true rfl), (Nat.le_of_ble_eq_true rfl)⟩ hK hPc hDc rfl rfl rfl rfl hl.1 rfl (Nat.le_of_ble_eq_true rfl) dX3_searches_44 ⟨Nat.zero_le _, Nat.zero_le _⟩) (fun H locs hP _ hS => ?_)
          replace hP : va_P D mp_cl (k_X3_searches T a_ a_loopsLeft a_probe a_p1 a_p1_cellNames a_p1_secretNames a_p1_pageNames a_p1_speed a_p1_letters a_p1_room a_p1_now a_p1_rounds a_p2 a_p2_order a_p2_knows a_p2_made a_p2_sixteenths a_p2_dots a_p2_used a_p2_stands v_steps v_missed v_turns v_made v_found v_left u9 v_p1_cells v_p1_secrets v_p1_pages v_p1_blind v_p1_rubs v_p2_inOrder v_p2_place v_p2_ill v_p2_shut v_p2_turns v_p2_madeInAll u15 v_p2_sixteenths u16 u17) H := hP
          refine lv_iadd hx hb dX3_searches_47 ?_
          refine lv_topi (fun y19 e19 => ?_)
          replace hf := lt_of e19 hf
          refine lv_istore_n (lv' := [(3, .int y19), (0, .ref a_), (1, .ref a_p1), (2, .ref a_p2), (4, .int z4)]) hx hb dX3_searches_48 rfl hl (by decide) rfl (fun ls hl => ?_)
          obtain ⟨y20, e20⟩ : ∃ y : Int32, y = z4 + (nI 1) := ⟨_, rfl⟩
          replace hf := lt_of e20 hf
          refine lv_iinc (v := y20) (lv' := [(4, .int y20), (3, .int y19), (0, .ref a_), (1, .ref a_p1), (2, .ref a_p2)]) hx hb dX3_searches_49 hl (k := 4) rfl (by rw [e20]; rfl) (by decide) rfl (fun ls hl => ?_)
          refine lv_goto (tgt := 5) hx hb dX3_searches_52 (by decide) ?_
          exact ih y19 y20 v_found u9 u15 u16 u17 hf _ _ _ hP (mp_D_of hD rfl) hS (lv_sub hl [2, 3, 4, 1, 0] rfl)

set_option maxHeartbeats 4000000 in
set_option maxRecDepth 100000 in
theorem c_X3_searches (l : Launch) (D : va_G) (T : Nat → ClassId) (fu : Nat) (a_ a_loopsLeft a_probe a_p1 a_p1_cellNames a_p1_secretNames a_p1_pageNames a_p1_speed a_p1_letters a_p1_room a_p1_now a_p1_rounds a_p2 a_p2_order a_p2_knows a_p2_made a_p2_sixteenths a_p2_dots a_p2_used a_p2_stands : Nat) (v_steps : Int32) (v_missed : Int32) (v_turns : Int32) (v_made : Int32) (v_left : Int32) (v_p1_cells : Int32) (v_p1_secrets : Int32) (v_p1_blind : Int32) (v_p1_rubs : Int32) (v_p2_inOrder : Int32) (v_p2_place : Int32) (v_p2_ill : Int32) (v_p2_turns : Int32) (v_p2_madeInAll : Int32) (v_found : Int32) (v_seed : Int32) (v_p1_pages : Int32) (v_p2_shut : Int32) (v_p2_dots : (Nat → Int32)) (v_p2_sixteenths : (Nat → Int32)) (v_p2_stands : (Nat → Int32)) (v_p2_used : (Nat → Int32)) (r_ : Int32) (o_found : Int32) (o_seed : Int32) (o_p2_dots : (Nat → Int32)) (o_p2_stands : (Nat → Int32)) (o_p2_used : (Nat → Int32)) (hf : f_X3_searches fu v_found v_seed v_p1_pages v_p2_shut v_p2_dots v_p2_sixteenths v_p2_stands v_p2_used = some (r_, o_found, o_seed, o_p2_dots, o_p2_stands, o_p2_used)) :
    mp_M l D T yX3_searches cX3_searches 5 (some .boolean) ({ frames := 1, cells := 0, slots := 0, locals := 23 }) 0 0 [.ref a_, .ref a_p1, .ref a_p2] (k_X3_searches T a_ a_loopsLeft a_probe a_p1 a_p1_cellNames a_p1_secretNames a_p1_pageNames a_p1_speed a_p1_letters a_p1_room a_p1_now a_p1_rounds a_p2 a_p2_order a_p2_knows a_p2_made a_p2_sixteenths a_p2_dots a_p2_used a_p2_stands v_steps v_missed v_turns v_made v_found v_left v_seed v_p1_cells v_p1_secrets v_p1_pages v_p1_blind v_p1_rubs v_p2_inOrder v_p2_place v_p2_ill v_p2_shut v_p2_turns v_p2_madeInAll v_p2_dots v_p2_sixteenths v_p2_stands v_p2_used) (mp_Qi D r_ (k_X3_searches T a_ a_loopsLeft a_probe a_p1 a_p1_cellNames a_p1_secretNames a_p1_pageNames a_p1_speed a_p1_letters a_p1_room a_p1_now a_p1_rounds a_p2 a_p2_order a_p2_knows a_p2_made a_p2_sixteenths a_p2_dots a_p2_used a_p2_stands v_steps v_missed v_turns v_made o_found v_left o_seed v_p1_cells v_p1_secrets v_p1_pages v_p1_blind v_p1_rubs v_p2_inOrder v_p2_place v_p2_ill v_p2_shut v_p2_turns v_p2_madeInAll o_p2_dots v_p2_sixteenths o_p2_stands o_p2_used)) := by
  refine mp_of (by decide) (Nat.le_of_ble_eq_true rfl) rfl ?_
  intro p e s m args below meth c A ls X hK hP hD hS hA hl
  replace X : mp_X p s m meth c args RX3 "searches" cX3_searches 5 (some .boolean) := X
  have hx := X.1
  have hb := X.2.1
  have hml := X.2.2.1
  have hown := X.2.2.2.2.1
  have hts := X.2.2.2.2.2.1
  replace hl : lv_has ls 5 [(0, .ref a_), (1, .ref a_p1), (2, .ref a_p2)] := hl
  replace hf : f_X3_searches_5 fu v_p1_pages v_p2_shut v_p2_sixteenths  fu (nI 0) (nI 0) v_found v_seed v_p2_dots v_p2_stands v_p2_used = some (r_, o_found, o_seed, o_p2_dots, o_p2_stands, o_p2_used) := hf
  refine lv_iconst (v := (nI 0)) hx hb dX3_searches_0 (by decide) ?_
  refine lv_istore_n (lv' := [(3, .int (nI 0)), (0, .ref a_), (1, .ref a_p1), (2, .ref a_p2)]) hx hb dX3_searches_1 rfl hl (by decide) rfl (fun ls hl => ?_)
  refine lv_iconst (v := (nI 0)) hx hb dX3_searches_2 (by decide) ?_
  refine lv_istore (lv' := [(4, .int (nI 0)), (3, .int (nI 0)), (0, .ref a_), (1, .ref a_p1), (2, .ref a_p2)]) hx hb dX3_searches_3 hl (by decide) rfl (fun ls hl => ?_)
  exact w_X3_searches_5 X hK hA  fu a_ a_loopsLeft a_probe a_p1 a_p1_cellNames a_p1_secretNames a_p1_pageNames a_p1_speed a_p1_letters a_p1_room a_p1_now a_p1_rounds a_p2 a_p2_order a_p2_knows a_p2_made a_p2_sixteenths a_p2_dots a_p2_used a_p2_stands v_steps v_missed v_turns v_made v_left v_p1_cells v_p1_secrets v_p1_blind v_p1_rubs v_p2_inOrder v_p2_place v_p2_ill v_p2_turns v_p2_madeInAll v_p1_pages v_p2_shut v_p2_sixteenths r_ o_found o_seed o_p2_dots o_p2_stands o_p2_used   fu (nI 0) (nI 0) v_found v_seed v_p2_dots v_p2_stands v_p2_used hf _ _ _ hP (mp_D_of hD rfl) hS (lv_sub hl [2, 3, 4, 1, 0] rfl)


def k_X3_takeStep (T : Nat → ClassId) (a_ a_loopsLeft a_probe a_p1 a_p1_cellNames a_p1_secretNames a_p1_pageNames a_p1_speed a_p1_letters a_p1_room a_p1_now a_p1_rounds a_p1_rounds_code a_p1_rounds_one a_p1_rounds_other a_p1_rounds_mate a_p2 a_p2_order a_p2_knows a_p2_made a_p2_sixteenths a_p2_dots a_p2_used a_p2_stands : Nat) (v_steps : Int32) (v_missed : Int32) (v_turns : Int32) (v_made : Int32) (v_found : Int32) (v_left : Int32) (v_seed : Int32) (v_loopsLeft : (Nat → Int32)) (v_p1_cells : Int32) (v_p1_secrets : Int32) (v_p1_pages : Int32) (v_p1_blind : Int32) (v_p1_rubs : Int32) (v_p1_letters : (Nat → Int32)) (v_p1_room : (Nat → Int32)) (v_p1_rounds_present : Int32) (v_p1_rounds_steps : Int32) (v_p1_rounds_size : Int32) (v_p1_rounds_code : (Nat → Int32)) (v_p1_rounds_mate : (Nat → Int32)) (v_p1_rounds_one : (Nat → Int32)) (v_p1_rounds_other : (Nat → Int32)) (v_p1_speed : (Nat → Int32)) (v_p2_inOrder : Int32) (v_p2_place : Int32) (v_p2_ill : Int32) (v_p2_shut : Int32) (v_p2_turns : Int32) (v_p2_madeInAll : Int32) (v_p2_dots : (Nat → Int32)) (v_p2_knows : (Nat → Int32)) (v_p2_made : (Nat → Int32)) (v_p2_order : (Nat → Int32)) (v_p2_sixteenths : (Nat → Int32)) (v_p2_stands : (Nat → Int32)) (v_p2_used : (Nat → Int32)) : va_W := [(a_, oX3 v_steps v_missed v_turns v_made v_found v_left v_seed a_loopsLeft a_probe), (a_loopsLeft, mp_aI T 60 v_loopsLeft), (a_p1, oX1 v_p1_cells v_p1_secrets v_p1_pages a_p1_cellNames a_p1_secretNames a_p1_pageNames a_p1_speed v_p1_blind v_p1_rubs a_p1_letters a_p1_room a_p1_now a_p1_rounds), (a_p1_letters, mp_aI T 6 v_p1_letters), (a_p1_room, mp_aI T 6 v_p1_room), (a_p1_rounds, oX5 v_p1_rounds_present v_p1_rounds_steps v_p1_rounds_size a_p1_rounds_code a_p1_rounds_one a_p1_rounds_other a_p1_rounds_mate), (a_p1_rounds_code, mp_aI T 60 v_p1_rounds_code), (a_p1_rounds_mate, mp_aI T 60 v_p1_rounds_mate), (a_p1_rounds_one, mp_aI T 60 v_p1_rounds_one), (a_p1_rounds_other, mp_aI T 60 v_p1_rounds_other), (a_p1_speed, mp_aI T 8 v_p1_speed), (a_p2, oX7 a_p2_order v_p2_inOrder v_p2_place a_p2_knows a_p2_made a_p2_sixteenths a_p2_dots a_p2_used a_p2_stands v_p2_ill v_p2_shut v_p2_turns v_p2_madeInAll), (a_p2_dots, mp_aI T 36 v_p2_dots), (a_p2_knows, mp_aI T 8 v_p2_knows), (a_p2_made, mp_aI T 8 v_p2_made), (a_p2_order, mp_aI T 8 v_p2_order), (a_p2_sixteenths, mp_aI T 6 v_p2_sixteenths), (a_p2_stands, mp_aI T 6 v_p2_stands), (a_p2_used, mp_aI T 6 v_p2_used)]
set_option maxHeartbeats 4000000 in
set_option maxRecDepth 100000 in
theorem w_X3_takeStep_274 {p : Program} {l : Launch} {e : Env} {s : State} {m : MethodId} {args : Array Value} {below : List Frame} {meth : Method} {c : Code} {D : va_G} {T : Nat → ClassId} {A : Nat → Prop} (X : mp_X p s m meth c args RX3 "takeStep" cX3_takeStep 8 (some .int)) (hK : va_K D mp_cl (mp_ty T) s) (hA : ∀ q, s.heap.size ≤ q → A q) (fu : Nat) (a_ a_loopsLeft a_probe a_p1 a_p1_cellNames a_p1_secretNames a_p1_pageNames a_p1_speed a_p1_letters a_p1_room a_p1_now a_p1_rounds a_p1_rounds_code a_p1_rounds_one a_p1_rounds_other a_p1_rounds_mate a_p2 a_p2_order a_p2_knows a_p2_made a_p2_sixteenths a_p2_dots a_p2_used a_p2_stands : Nat) (v_steps : Int32) (v_turns : Int32) (v_made : Int32) (v_left : Int32) (v_p1_rounds_present : Int32) (v_p1_rounds_steps : Int32) (v_p1_cells : Int32) (v_p1_secrets : Int32) (v_p1_pages : Int32) (v_p1_blind : Int32) (v_p1_rubs : Int32) (v_p1_letters : (Nat → Int32)) (v_p1_room : (Nat → Int32)) (v_p1_rounds_size : Int32) (v_p1_rounds_code : (Nat → Int32)) (v_p1_rounds_mate : (Nat → Int32)) (v_p1_rounds_one : (Nat → Int32)) (v_p1_rounds_other : (Nat → Int32)) (v_p1_speed : (Nat → Int32)) (v_p2_inOrder : Int32) (v_p2_sixteenths : (Nat → Int32)) (r_ : Int32) (o_missed : Int32) (o_found : Int32) (o_seed : Int32) (o_loopsLeft : (Nat → Int32)) (o_p2_place : Int32) (o_p2_ill : Int32) (o_p2_shut : Int32) (o_p2_turns : Int32) (o_p2_madeInAll : Int32) (o_p2_dots : (Nat → Int32)) (o_p2_knows : (Nat → Int32)) (o_p2_made : (Nat → Int32)) (o_p2_order : (Nat → Int32)) (o_p2_stands : (Nat → Int32)) (o_p2_used : (Nat → Int32)) :
    ∀  (z6 : Int32) (z7 : Int32) (v_missed : Int32) (v_found : Int32) (v_seed : Int32) (v_loopsLeft : (Nat → Int32)) (v_p2_place : Int32) (v_p2_ill : Int32) (v_p2_shut : Int32) (v_p2_turns : Int32) (v_p2_madeInAll : Int32) (v_p2_dots : (Nat → Int32)) (v_p2_knows : (Nat → Int32)) (v_p2_made : (Nat → Int32)) (v_p2_order : (Nat → Int32)) (v_p2_stands : (Nat → Int32)) (v_p2_used : (Nat → Int32)), f_X3_takeStep_274 fu v_p1_cells v_p1_secrets v_p1_pages v_p1_blind v_p1_rubs v_p1_letters v_p1_room v_p1_rounds_size v_p1_rounds_code v_p1_rounds_mate v_p1_rounds_one v_p1_rounds_other v_p1_speed v_p2_inOrder v_p2_sixteenths  z6 z7 v_missed v_found v_seed v_loopsLeft v_p2_place v_p2_ill v_p2_shut v_p2_turns v_p2_madeInAll v_p2_dots v_p2_knows v_p2_made v_p2_order v_p2_stands v_p2_used = some (r_, o_missed, o_found, o_seed, o_loopsLeft, o_p2_place, o_p2_ill, o_p2_shut, o_p2_turns, o_p2_madeInAll, o_p2_dots, o_p2_knows, o_p2_made, o_p2_order, o_p2_stands, o_p2_used) → ∀ (H : Heap) (locs : List Loc) (ls : Array Slot), va_P D mp_cl (k_X3_takeStep T a_ a_loopsLeft a_probe a_p1 a_p1_cellNames a_p1_secretNames a_p1_pageNames a_p1_speed a_p1_letters a_p1_room a_p1_now a_p1_rounds a_p1_rounds_code a_p1_rounds_one a_p1_rounds_other a_p1_rounds_mate a_p2 a_p2_order a_p2_knows a_p2_made a_p2_sixteenths a_p2_dots a_p2_used a_p2_stands v_steps v_missed v_turns v_made v_found v_left v_seed v_loopsLeft v_p1_cells v_p1_secrets v_p1_pages v_p1_blind v_p1_rubs v_p1_letters v_p1_room v_p1_rounds_present v_p1_rounds_steps v_p1_rounds_size v_p1_rounds_code v_p1_rounds_mate v_p1_rounds_one v_p1_rounds_other v_p1_speed v_p2_inOrder v_p2_place v_p2_ill v_p2_shut v_p2_turns v_p2_madeInAll v_p2_dots v_p2_knows v_p2_made v_p2_order v_p2_sixteenths v_p2_stands v_p2_used) H → va_D A (k_X3_takeStep T a_ a_loopsLeft a_probe a_p1 a_p1_cellNames a_p1_secretNames a_p1_pageNames a_p1_speed a_p1_letters a_p1_room a_p1_now a_p1_rounds a_p1_rounds_code a_p1_rounds_one a_p1_rounds_other a_p1_rounds_mate a_p2 a_p2_order a_p2_knows a_p2_made a_p2_sixteenths a_p2_dots a_p2_used a_p2_stands v_steps v_missed v_turns v_made v_found v_left v_seed v_loopsLeft v_p1_cells v_p1_secrets v_p1_pages v_p1_blind v_p1_rubs v_p1_letters v_p1_room v_p1_rounds_present v_p1_rounds_steps v_p1_rounds_size v_p1_rounds_code v_p1_rounds_mate v_p1_rounds_one v_p1_rounds_other v_p1_speed v_p2_inOrder v_p2_place v_p2_ill v_p2_shut v_p2_turns v_p2_madeInAll v_p2_dots v_p2_knows v_p2_made v_p2_order v_p2_sixteenths v_p2_stands v_p2_used) → va_S A s.heap H locs → lv_has ls 8 [(0, .ref a_), (6, .int z6), (7, .int z7)] → W p l e ({ frames := 5, cells := 0, slots := 0, locals := 141 }) s m args below meth c H locs 0 0 (MQ below ((mp_Qi D r_ (k_X3_takeStep T a_ a_loopsLeft a_probe a_p1 a_p1_cellNames a_p1_secretNames a_p1_pageNames a_p1_speed a_p1_letters a_p1_room a_p1_now a_p1_rounds a_p1_rounds_code a_p1_rounds_one a_p1_rounds_other a_p1_rounds_mate a_p2 a_p2_order a_p2_knows a_p2_made a_p2_sixteenths a_p2_dots a_p2_used a_p2_stands v_steps o_missed v_turns v_made o_found v_left o_seed o_loopsLeft v_p1_cells v_p1_secrets v_p1_pages v_p1_blind v_p1_rubs v_p1_letters v_p1_room v_p1_rounds_present v_p1_rounds_steps v_p1_rounds_size v_p1_rounds_code v_p1_rounds_mate v_p1_rounds_one v_p1_rounds_other v_p1_speed v_p2_inOrder o_p2_place o_p2_ill o_p2_shut o_p2_turns o_p2_madeInAll o_p2_dots o_p2_knows o_p2_made o_p2_order v_p2_sixteenths o_p2_stands o_p2_used)) A) args s 0 0 A) (F0 m 274 ls []) := by
  have hx := X.1
  have hb := X.2.1
  have hml := X.2.2.1
  have hown := X.2.2.2.2.1
  have hts := X.2.2.2.2.2.1
  intro z6 z7 v_missed v_found v_seed v_loopsLeft v_p2_place v_p2_ill v_p2_shut v_p2_turns v_p2_madeInAll v_p2_dots v_p2_knows v_p2_made v_p2_order v_p2_stands v_p2_used hf H locs ls hP hD hS hl
  replace hf : (if z7 = 0 then lt_ (v_missed + (nI 1)) (fun (y2 : Int32) => some (z6, y2, v_found, v_seed, v_loopsLeft, v_p2_place, v_p2_ill, v_p2_shut, v_p2_turns, v_p2_madeInAll, v_p2_dots, v_p2_knows, v_p2_made, v_p2_order, v_p2_stands, v_p2_used)) else lt_ (v_missed + (nI 0)) (fun (y3 : Int32) => some (z6, y3, v_found, v_seed, v_loopsLeft, v_p2_place, v_p2_ill, v_p2_shut, v_p2_turns, v_p2_madeInAll, v_p2_dots, v_p2_knows, v_p2_made, v_p2_order, v_p2_stands, v_p2_used))) = some (r_, o_missed, o_found, o_seed, o_loopsLeft, o_p2_place, o_p2_ill, o_p2_shut, o_p2_turns, o_p2_madeInAll, o_p2_dots, o_p2_knows, o_p2_made, o_p2_order, o_p2_stands, o_p2_used) := hf
  refine lv_aload_n hx hb dX3_takeStep_274 rfl (lv_at hl 0 rfl) ?_
  refine lv_dup hx hb dX3_takeStep_275 rfl ?_
  refine mp_get X fl_X3_15 hK hP 0 rfl rfl dX3_takeStep_276 ?_
  refine lv_iload hx hb dX3_takeStep_279 (lv_at hl 2 rfl) ?_
  refine lv_if_eq (tgt := 288) hx hb dX3_takeStep_281 (by decide) (fun h1 => ?_) (fun h1 => ?_)
  · replace hf := if_t hf h1
    refine lv_iconst (v := (nI 1)) hx hb dX3_takeStep_288 (by decide) ?_
    refine lv_iadd hx hb dX3_takeStep_289 ?_
    refine lv_topi (fun y2 e2 => ?_)
    replace hf := lt_of e2 hf
    refine mp_putf X fl_X3_15 fp_X3 rfl hK hP (mp_D_of hD rfl) hS 0 rfl rfl rfl (Nat.le_of_ble_eq_true rfl) dX3_takeStep_290 (fun H locs hP _ hS => ?_)
    replace hP : va_P D mp_cl (k_X3_takeStep T a_ a_loopsLeft a_probe a_p1 a_p1_cellNames a_p1_secretNames a_p1_pageNames a_p1_speed a_p1_letters a_p1_room a_p1_now a_p1_rounds a_p1_rounds_code a_p1_rounds_one a_p1_rounds_other a_p1_rounds_mate a_p2 a_p2_order a_p2_knows a_p2_made a_p2_sixteenths a_p2_dots a_p2_used a_p2_stands v_steps y2 v_turns v_made v_found v_left v_seed v_loopsLeft v_p1_cells v_p1_secrets v_p1_pages v_p1_blind v_p1_rubs v_p1_letters v_p1_room v_p1_rounds_present v_p1_rounds_steps v_p1_rounds_size v_p1_rounds_code v_p1_rounds_mate v_p1_rounds_one v_p1_rounds_other v_p1_speed v_p2_inOrder v_p2_place v_p2_ill v_p2_shut v_p2_turns v_p2_madeInAll v_p2_dots v_p2_knows v_p2_made v_p2_order v_p2_sixteenths v_p2_stands v_p2_used) H := hP
    refine lv_iload hx hb dX3_takeStep_293 (lv_at hl 1 rfl) ?_
    cases hf
    exact mp_reti X hP hS rfl dX3_takeStep_295
  · replace hf := if_f hf h1
    refine lv_iconst (v := (nI 0)) hx hb dX3_takeStep_284 (by decide) ?_
    refine lv_goto (tgt := 289) hx hb dX3_takeStep_285 (by decide) ?_
    refine lv_iadd hx hb dX3_takeStep_289 ?_
    refine lv_topi (fun y3 e3 => ?_)
    replace hf := lt_of e3 hf
    refine mp_putf X fl_X3_15 fp_X3 rfl hK hP (mp_D_of hD rfl) hS 0 rfl rfl rfl (Nat.le_of_ble_eq_true rfl) dX3_takeStep_290 (fun H locs hP _ hS => ?_)
    replace hP : va_P D mp_cl (k_X3_takeStep T a_ a_loopsLeft a_probe a_p1 a_p1_cellNames a_p1_secretNames a_p1_pageNames a_p1_speed a_p1_letters a_p1_room a_p1_now a_p1_rounds a_p1_rounds_code a_p1_rounds_one a_p1_rounds_other a_p1_rounds_mate a_p2 a_p2_order a_p2_knows a_p2_made a_p2_sixteenths a_p2_dots a_p2_used a_p2_stands v_steps y3 v_turns v_made v_found v_left v_seed v_loopsLeft v_p1_cells v_p1_secrets v_p1_pages v_p1_blind v_p1_rubs v_p1_letters v_p1_room v_p1_rounds_present v_p1_rounds_steps v_p1_rounds_size v_p1_rounds_code v_p1_rounds_mate v_p1_rounds_one v_p1_rounds_other v_p1_speed v_p2_inOrder v_p2_place v_p2_ill v_p2_shut v_p2_turns v_p2_madeInAll v_p2_dots v_p2_knows v_p2_made v_p2_order v_p2_sixteenths v_p2_stands v_p2_used) H := hP
    refine lv_iload hx hb dX3_takeStep_293 (lv_at hl 1 rfl) ?_
    cases hf
    exact mp_reti X hP hS rfl dX3_takeStep_295

set_option maxHeartbeats 4000000 in
set_option maxRecDepth 100000 in
theorem w_X3_takeStep_153 {p : Program} {l : Launch} {e : Env} {s : State} {m : MethodId} {args : Array Value} {below : List Frame} {meth : Method} {c : Code} {D : va_G} {T : Nat → ClassId} {A : Nat → Prop} (X : mp_X p s m meth c args RX3 "takeStep" cX3_takeStep 8 (some .int)) (hK : va_K D mp_cl (mp_ty T) s) (hA : ∀ q, s.heap.size ≤ q → A q) (fu : Nat) (a_ a_loopsLeft a_probe a_p1 a_p1_cellNames a_p1_secretNames a_p1_pageNames a_p1_speed a_p1_letters a_p1_room a_p1_now a_p1_rounds a_p1_rounds_code a_p1_rounds_one a_p1_rounds_other a_p1_rounds_mate a_p2 a_p2_order a_p2_knows a_p2_made a_p2_sixteenths a_p2_dots a_p2_used a_p2_stands : Nat) (v_steps : Int32) (v_turns : Int32) (v_made : Int32) (v_left : Int32) (v_p1_rounds_present : Int32) (v_p1_rounds_steps : Int32) (v_p1_cells : Int32) (v_p1_secrets : Int32) (v_p1_pages : Int32) (v_p1_blind : Int32) (v_p1_rubs : Int32) (v_p1_letters : (Nat → Int32)) (v_p1_room : (Nat → Int32)) (v_p1_rounds_size : Int32) (v_p1_rounds_code : (Nat → Int32)) (v_p1_rounds_mate : (Nat → Int32)) (v_p1_rounds_one : (Nat → Int32)) (v_p1_rounds_other : (Nat → Int32)) (v_p1_speed : (Nat → Int32)) (v_p2_inOrder : Int32) (v_p2_sixteenths : (Nat → Int32)) (r_ : Int32) (o_missed : Int32) (o_found : Int32) (o_seed : Int32) (o_loopsLeft : (Nat → Int32)) (o_p2_place : Int32) (o_p2_ill : Int32) (o_p2_shut : Int32) (o_p2_turns : Int32) (o_p2_madeInAll : Int32) (o_p2_dots : (Nat → Int32)) (o_p2_knows : (Nat → Int32)) (o_p2_made : (Nat → Int32)) (o_p2_order : (Nat → Int32)) (o_p2_stands : (Nat → Int32)) (o_p2_used : (Nat → Int32)) :
    ∀  (z7 : Int32) (w0 : Int32) (v_missed : Int32) (v_found : Int32) (v_seed : Int32) (v_loopsLeft : (Nat → Int32)) (v_p2_place : Int32) (v_p2_ill : Int32) (v_p2_shut : Int32) (v_p2_turns : Int32) (v_p2_madeInAll : Int32) (v_p2_dots : (Nat → Int32)) (v_p2_knows : (Nat → Int32)) (v_p2_made : (Nat → Int32)) (v_p2_order : (Nat → Int32)) (v_p2_stands : (Nat → Int32)) (v_p2_used : (Nat → Int32)), f_X3_takeStep_153 fu v_p1_cells v_p1_secrets v_p1_pages v_p1_blind v_p1_rubs v_p1_letters v_p1_room v_p1_rounds_size v_p1_rounds_code v_p1_rounds_mate v_p1_rounds_one v_p1_rounds_other v_p1_speed v_p2_inOrder v_p2_sixteenths  z7 w0 v_missed v_found v_seed v_loopsLeft v_p2_place v_p2_ill v_p2_shut v_p2_turns v_p2_madeInAll v_p2_dots v_p2_knows v_p2_made v_p2_order v_p2_stands v_p2_used = some (r_, o_missed, o_found, o_seed, o_loopsLeft, o_p2_place, o_p2_ill, o_p2_shut, o_p2_turns, o_p2_madeInAll, o_p2_dots, o_p2_knows, o_p2_made, o_p2_order, o_p2_stands, o_p2_used) → ∀ (H : Heap) (locs : List Loc) (ls : Array Slot), va_P D mp_cl (k_X3_takeStep T a_ a_loopsLeft a_probe a_p1 a_p1_cellNames a_p1_secretNames a_p1_pageNames a_p1_speed a_p1_letters a_p1_room a_p1_now a_p1_rounds a_p1_rounds_code a_p1_rounds_one a_p1_rounds_other a_p1_rounds_mate a_p2 a_p2_order a_p2_knows a_p2_made a_p2_sixteenths a_p2_dots a_p2_used a_p2_stands v_steps v_missed v_turns v_made v_found v_left v_seed v_loopsLeft v_p1_cells v_p1_secrets v_p1_pages v_p1_blind v_p1_rubs v_p1_letters v_p1_room v_p1_rounds_present v_p1_rounds_steps v_p1_rounds_size v_p1_rounds_code v_p1_rounds_mate v_p1_rounds_one v_p1_rounds_other v_p1_speed v_p2_inOrder v_p2_place v_p2_ill v_p2_shut v_p2_turns v_p2_madeInAll v_p2_dots v_p2_knows v_p2_made v_p2_order v_p2_sixteenths v_p2_stands v_p2_used) H → va_D A (k_X3_takeStep T a_ a_loopsLeft a_probe a_p1 a_p1_cellNames a_p1_secretNames a_p1_pageNames a_p1_speed a_p1_letters a_p1_room a_p1_now a_p1_rounds a_p1_rounds_code a_p1_rounds_one a_p1_rounds_other a_p1_rounds_mate a_p2 a_p2_order a_p2_knows a_p2_made a_p2_sixteenths a_p2_dots a_p2_used a_p2_stands v_steps v_missed v_turns v_made v_found v_left v_seed v_loopsLeft v_p1_cells v_p1_secrets v_p1_pages v_p1_blind v_p1_rubs v_p1_letters v_p1_room v_p1_rounds_present v_p1_rounds_steps v_p1_rounds_size v_p1_rounds_code v_p1_rounds_mate v_p1_rounds_one v_p1_rounds_other v_p1_speed v_p2_inOrder v_p2_place v_p2_ill v_p2_shut v_p2_turns v_p2_madeInAll v_p2_dots v_p2_knows v_p2_made v_p2_order v_p2_sixteenths v_p2_stands v_p2_used) → va_S A s.heap H locs → lv_has ls 8 [(0, .ref a_), (7, .int z7)] → W p l e ({ frames := 5, cells := 0, slots := 0, locals := 141 }) s m args below meth c H locs 0 0 (MQ below ((mp_Qi D r_ (k_X3_takeStep T a_ a_loopsLeft a_probe a_p1 a_p1_cellNames a_p1_secretNames a_p1_pageNames a_p1_speed a_p1_letters a_p1_room a_p1_now a_p1_rounds a_p1_rounds_code a_p1_rounds_one a_p1_rounds_other a_p1_rounds_mate a_p2 a_p2_order a_p2_knows a_p2_made a_p2_sixteenths a_p2_dots a_p2_used a_p2_stands v_steps o_missed v_turns v_made o_found v_left o_seed o_loopsLeft v_p1_cells v_p1_secrets v_p1_pages v_p1_blind v_p1_rubs v_p1_letters v_p1_room v_p1_rounds_present v_p1_rounds_steps v_p1_rounds_size v_p1_rounds_code v_p1_rounds_mate v_p1_rounds_one v_p1_rounds_other v_p1_speed v_p2_inOrder o_p2_place o_p2_ill o_p2_shut o_p2_turns o_p2_madeInAll o_p2_dots o_p2_knows o_p2_made o_p2_order v_p2_sixteenths o_p2_stands o_p2_used)) A) args s 0 0 A) (F0 m 153 ls [.int w0]) := by
  have hx := X.1
  have hb := X.2.1
  have hml := X.2.2.1
  have hown := X.2.2.2.2.1
  have hts := X.2.2.2.2.2.1
  intro z7 w0 v_missed v_found v_seed v_loopsLeft v_p2_place v_p2_ill v_p2_shut v_p2_turns v_p2_madeInAll v_p2_dots v_p2_knows v_p2_made v_p2_order v_p2_stands v_p2_used hf H locs ls hP hD hS hl
  replace hf : f_X3_takeStep_274 fu v_p1_cells v_p1_secrets v_p1_pages v_p1_blind v_p1_rubs v_p1_letters v_p1_room v_p1_rounds_size v_p1_rounds_code v_p1_rounds_mate v_p1_rounds_one v_p1_rounds_other v_p1_speed v_p2_inOrder v_p2_sixteenths  w0 z7 v_missed v_found v_seed v_loopsLeft v_p2_place v_p2_ill v_p2_shut v_p2_turns v_p2_madeInAll v_p2_dots v_p2_knows v_p2_made v_p2_order v_p2_stands v_p2_used = some (r_, o_missed, o_found, o_seed, o_loopsLeft, o_p2_place, o_p2_ill, o_p2_shut, o_p2_turns, o_p2_madeInAll, o_p2_dots, o_p2_knows, o_p2_made, o_p2_order, o_p2_stands, o_p2_used) := hf
  refine lv_istore (lv' := [(6, .int w0), (0, .ref a_), (7, .int z7)]) hx hb dX3_takeStep_153 hl (by decide) rfl (fun ls hl => ?_)
  refine lv_goto (tgt := 274) hx hb dX3_takeStep_155 (by decide) ?_
  exact w_X3_takeStep_274 X hK hA  fu a_ a_loopsLeft a_probe a_p1 a_p1_cellNames a_p1_secretNames a_p1_pageNames a_p1_speed a_p1_letters a_p1_room a_p1_now a_p1_rounds a_p1_rounds_code a_p1_rounds_one a_p1_rounds_other a_p1_rounds_mate a_p2 a_p2_order a_p2_knows a_p2_made a_p2_sixteenths a_p2_dots a_p2_used a_p2_stands v_steps v_turns v_made v_left v_p1_rounds_present v_p1_rounds_steps v_p1_cells v_p1_secrets v_p1_pages v_p1_blind v_p1_rubs v_p1_letters v_p1_room v_p1_rounds_size v_p1_rounds_code v_p1_rounds_mate v_p1_rounds_one v_p1_rounds_other v_p1_speed v_p2_inOrder v_p2_sixteenths r_ o_missed o_found o_seed o_loopsLeft o_p2_place o_p2_ill o_p2_shut o_p2_turns o_p2_madeInAll o_p2_dots o_p2_knows o_p2_made o_p2_order o_p2_stands o_p2_used   w0 z7 v_missed v_found v_seed v_loopsLeft v_p2_place v_p2_ill v_p2_shut v_p2_turns v_p2_madeInAll v_p2_dots v_p2_knows v_p2_made v_p2_order v_p2_stands v_p2_used hf _ _ _ hP (mp_D_of hD rfl) hS (lv_sub hl [1, 0, 2] rfl)

set_option maxHeartbeats 4000000 in
set_option maxRecDepth 100000 in
theorem w_X3_takeStep_260 {p : Program} {l : Launch} {e : Env} {s : State} {m : MethodId} {args : Array Value} {below : List Frame} {meth : Method} {c : Code} {D : va_G} {T : Nat → ClassId} {A : Nat → Prop} (X : mp_X p s m meth c args RX3 "takeStep" cX3_takeStep 8 (some .int)) (hK : va_K D mp_cl (mp_ty T) s) (hA : ∀ q, s.heap.size ≤ q → A q) (fu : Nat) (a_ a_loopsLeft a_probe a_p1 a_p1_cellNames a_p1_secretNames a_p1_pageNames a_p1_speed a_p1_letters a_p1_room a_p1_now a_p1_rounds a_p1_rounds_code a_p1_rounds_one a_p1_rounds_other a_p1_rounds_mate a_p2 a_p2_order a_p2_knows a_p2_made a_p2_sixteenths a_p2_dots a_p2_used a_p2_stands : Nat) (v_steps : Int32) (v_turns : Int32) (v_made : Int32) (v_left : Int32) (v_p1_rounds_present : Int32) (v_p1_rounds_steps : Int32) (v_p1_cells : Int32) (v_p1_secrets : Int32) (v_p1_pages : Int32) (v_p1_blind : Int32) (v_p1_rubs : Int32) (v_p1_letters : (Nat → Int32)) (v_p1_room : (Nat → Int32)) (v_p1_rounds_size : Int32) (v_p1_rounds_code : (Nat → Int32)) (v_p1_rounds_mate : (Nat → Int32)) (v_p1_rounds_one : (Nat → Int32)) (v_p1_rounds_other : (Nat → Int32)) (v_p1_speed : (Nat → Int32)) (v_p2_inOrder : Int32) (v_p2_sixteenths : (Nat → Int32)) (r_ : Int32) (o_missed : Int32) (o_found : Int32) (o_seed : Int32) (o_loopsLeft : (Nat → Int32)) (o_p2_place : Int32) (o_p2_ill : Int32) (o_p2_shut : Int32) (o_p2_turns : Int32) (o_p2_madeInAll : Int32) (o_p2_dots : (Nat → Int32)) (o_p2_knows : (Nat → Int32)) (o_p2_made : (Nat → Int32)) (o_p2_order : (Nat → Int32)) (o_p2_stands : (Nat → Int32)) (o_p2_used : (Nat → Int32)) :
    ∀  (z6 : Int32) (z7 : Int32) (w2 : Int32) (v_missed : Int32) (v_found : Int32) (v_seed : Int32) (v_loopsLeft : (Nat → Int32)) (v_p2_place : Int32) (v_p2_ill : Int32) (v_p2_shut : Int32) (v_p2_turns : Int32) (v_p2_madeInAll : Int32) (v_p2_dots : (Nat → Int32)) (v_p2_knows : (Nat → Int32)) (v_p2_made : (Nat → Int32)) (v_p2_order : (Nat → Int32)) (v_p2_stands : (Nat → Int32)) (v_p2_used : (Nat → Int32)), f_X3_takeStep_260 fu v_p1_cells v_p1_secrets v_p1_pages v_p1_blind v_p1_rubs v_p1_letters v_p1_room v_p1_rounds_size v_p1_rounds_code v_p1_rounds_mate v_p1_rounds_one v_p1_rounds_other v_p1_speed v_p2_inOrder v_p2_sixteenths  z6 z7 w2 v_missed v_found v_seed v_loopsLeft v_p2_place v_p2_ill v_p2_shut v_p2_turns v_p2_madeInAll v_p2_dots v_p2_knows v_p2_made v_p2_order v_p2_stands v_p2_used = some (r_, o_missed, o_found, o_seed, o_loopsLeft, o_p2_place, o_p2_ill, o_p2_shut, o_p2_turns, o_p2_madeInAll, o_p2_dots, o_p2_knows, o_p2_made, o_p2_order, o_p2_stands, o_p2_used) → ∀ (H : Heap) (locs : List Loc) (ls : Array Slot), va_P D mp_cl (k_X3_takeStep T a_ a_loopsLeft a_probe a_p1 a_p1_cellNames a_p1_secretNames a_p1_pageNames a_p1_speed a_p1_letters a_p1_room a_p1_now a_p1_rounds a_p1_rounds_code a_p1_rounds_one a_p1_rounds_other a_p1_rounds_mate a_p2 a_p2_order a_p2_knows a_p2_made a_p2_sixteenths a_p2_dots a_p2_used a_p2_stands v_steps v_missed v_turns v_made v_found v_left v_seed v_loopsLeft v_p1_cells v_p1_secrets v_p1_pages v_p1_blind v_p1_rubs v_p1_letters v_p1_room v_p1_rounds_present v_p1_rounds_steps v_p1_rounds_size v_p1_rounds_code v_p1_rounds_mate v_p1_rounds_one v_p1_rounds_other v_p1_speed v_p2_inOrder v_p2_place v_p2_ill v_p2_shut v_p2_turns v_p2_madeInAll v_p2_dots v_p2_knows v_p2_made v_p2_order v_p2_sixteenths v_p2_stands v_p2_used) H → va_D A (k_X3_takeStep T a_ a_loopsLeft a_probe a_p1 a_p1_cellNames a_p1_secretNames a_p1_pageNames a_p1_speed a_p1_letters a_p1_room a_p1_now a_p1_rounds a_p1_rounds_code a_p1_rounds_one a_p1_rounds_other a_p1_rounds_mate a_p2 a_p2_order a_p2_knows a_p2_made a_p2_sixteenths a_p2_dots a_p2_used a_p2_stands v_steps v_missed v_turns v_made v_found v_left v_seed v_loopsLeft v_p1_cells v_p1_secrets v_p1_pages v_p1_blind v_p1_rubs v_p1_letters v_p1_room v_p1_rounds_present v_p1_rounds_steps v_p1_rounds_size v_p1_rounds_code v_p1_rounds_mate v_p1_rounds_one v_p1_rounds_other v_p1_speed v_p2_inOrder v_p2_place v_p2_ill v_p2_shut v_p2_turns v_p2_madeInAll v_p2_dots v_p2_knows v_p2_made v_p2_order v_p2_sixteenths v_p2_stands v_p2_used) → va_S A s.heap H locs → lv_has ls 8 [(0, .ref a_), (6, .int z6), (7, .int z7)] → W p l e ({ frames := 5, cells := 0, slots := 0, locals := 141 }) s m args below meth c H locs 0 0 (MQ below ((mp_Qi D r_ (k_X3_takeStep T a_ a_loopsLeft a_probe a_p1 a_p1_cellNames a_p1_secretNames a_p1_pageNames a_p1_speed a_p1_letters a_p1_room a_p1_now a_p1_rounds a_p1_rounds_code a_p1_rounds_one a_p1_rounds_other a_p1_rounds_mate a_p2 a_p2_order a_p2_knows a_p2_made a_p2_sixteenths a_p2_dots a_p2_used a_p2_stands v_steps o_missed v_turns v_made o_found v_left o_seed o_loopsLeft v_p1_cells v_p1_secrets v_p1_pages v_p1_blind v_p1_rubs v_p1_letters v_p1_room v_p1_rounds_present v_p1_rounds_steps v_p1_rounds_size v_p1_rounds_code v_p1_rounds_mate v_p1_rounds_one v_p1_rounds_other v_p1_speed v_p2_inOrder o_p2_place o_p2_ill o_p2_shut o_p2_turns o_p2_madeInAll o_p2_dots o_p2_knows o_p2_made o_p2_order v_p2_sixteenths o_p2_stands o_p2_used)) A) args s 0 0 A) (F0 m 260 ls [.int w2, .ref a_p1, .ref a_p2]) := by
  have hx := X.1
  have hb := X.2.1
  have hml := X.2.2.1
  have hown := X.2.2.2.2.1
  have hts := X.2.2.2.2.2.1
  intro z6 z7 w2 v_missed v_found v_seed v_loopsLeft v_p2_place v_p2_ill v_p2_shut v_p2_turns v_p2_madeInAll v_p2_dots v_p2_knows v_p2_made v_p2_order v_p2_stands v_p2_used hf H locs ls hP hD hS hl
  replace hf : bd_ (f_X7_passMany fu w2 v_p2_inOrder v_p2_place v_p2_ill v_p2_shut v_p2_turns v_p2_madeInAll v_p2_dots v_p2_knows v_p2_made v_p2_order v_p2_stands v_p2_used v_p1_secrets v_p1_pages v_p1_blind v_p1_rubs v_p1_letters v_p1_room v_p1_speed) (fun (z : Int32 × Int32 × Int32 × (Nat → Int32) × (Nat → Int32) × (Nat → Int32) × (Nat → Int32) × (Nat → Int32)) => match z with | (u1, u2, u3, u4, u5, u6, u7, u8) => f_X3_takeStep_274 fu v_p1_cells v_p1_secrets v_p1_pages v_p1_blind v_p1_rubs v_p1_letters v_p1_room v_p1_rounds_size v_p1_rounds_code v_p1_rounds_mate v_p1_rounds_one v_p1_rounds_other v_p1_speed v_p2_inOrder v_p2_sixteenths  z6 z7 v_missed v_found v_seed v_loopsLeft u1 v_p2_ill v_p2_shut u2 u3 u4 u5 u6 v_p2_order u7 u8) = some (r_, o_missed, o_found, o_seed, o_loopsLeft, o_p2_place, o_p2_ill, o_p2_shut, o_p2_turns, o_p2_madeInAll, o_p2_dots, o_p2_knows, o_p2_made, o_p2_order, o_p2_stands, o_p2_used) := hf
  obtain ⟨⟨u1, u2, u3, u4, u5, u6, u7, u8⟩, c9, hf⟩ := bd_of hf
  dsimp only at hf
  have hPc := hP.sub (ws' := (k_X7_passMany T a_p2 a_p2_order a_p2_knows a_p2_made a_p2_sixteenths a_p2_dots a_p2_used a_p2_stands a_p1 a_p1_cellNames a_p1_secretNames a_p1_pageNames a_p1_speed a_p1_letters a_p1_room a_p1_now a_p1_rounds v_p2_inOrder v_p2_place v_p2_ill v_p2_shut v_p2_turns v_p2_madeInAll v_p2_dots v_p2_knows v_p2_made v_p2_order v_p2_stands v_p2_used v_p1_cells v_p1_secrets v_p1_pages v_p1_blind v_p1_rubs v_p1_letters v_p1_room v_p1_speed)) [11, 12, 13, 14, 15, 17, 18, 2, 3, 4, 10] rfl
  have hDc := (mp_D_of (w1 := (k_X3_takeStep T a_ a_loopsLeft a_probe a_p1 a_p1_cellNames a_p1_secretNames a_p1_pageNames a_p1_speed a_p1_letters a_p1_room a_p1_now a_p1_rounds a_p1_rounds_code a_p1_rounds_one a_p1_rounds_other a_p1_rounds_mate a_p2 a_p2_order a_p2_knows a_p2_made a_p2_sixteenths a_p2_dots a_p2_used a_p2_stands v_steps v_missed v_turns v_made v_found v_left v_seed v_loopsLeft v_p1_cells v_p1_secrets v_p1_pages v_p1_blind v_p1_rubs v_p1_letters v_p1_room v_p1_rounds_present v_p1_rounds_steps v_p1_rounds_size v_p1_rounds_code v_p1_rounds_mate v_p1_rounds_one v_p1_rounds_other v_p1_speed v_p2_inOrder v_p2_place v_p2_ill v_p2_shut v_p2_turns v_p2_madeInAll v_p2_dots v_p2_knows v_p2_made v_p2_order v_p2_sixteenths v_p2_stands v_p2_used)) hD rfl).sub (ws' := (k_X7_passMany T a_p2 a_p2_order a_p2_knows a_p2_made a_p2_sixteenths a_p2_dots a_p2_used a_p2_stands a_p1 a_p1_cellNames a_p1_secretNames a_p1_pageNames a_p1_speed a_p1_letters a_p1_room a_p1_now a_p1_rounds v_p2_inOrder v_p2_place v_p2_ill v_p2_shut v_p2_turns v_p2_madeInAll v_p2_dots v_p2_knows v_p2_made v_p2_order v_p2_stands v_p2_used v_p1_cells v_p1_secrets v_p1_pages v_p1_blind v_p1_rubs v_p1_letters v_p1_room v_p1_speed)) [11, 12, 13, 14, 15, 17, 18, 2, 3, 4, 10] rfl rfl
  refine mp_callv (isC := [11, 12, 13, 14, 15, 17, 18, 2, 3, 4, 10]) (wc := (k_X7_passMany T a_p2 a_p2_order a_p2_knows a_p2_made a_p2_sixteenths a_p2_dots a_p2_used a_p2_stands a_p1 a_p1_cellNames a_p1_secretNames a_p1_pageNames a_p1_speed a_p1_letters a_p1_room a_p1_now a_p1_rounds v_p2_inOrder v_p2_place v_p2_ill v_p2_shut v_p2_turns v_p2_madeInAll v_p2_dots v_p2_knows v_p2_made v_p2_order v_p2_stands v_p2_used v_p1_cells v_p1_secrets v_p1_pages v_p1_blind v_p1_rubs v_p1_letters v_p1_room v_p1_speed)) (w1 := (k_X7_passMany T a_p2 a_p2_order a_p2_knows a_p2_made a_p2_sixteenths a_p2_dots a_p2_used a_p2_stands a_p1 a_p1_cellNames a_p1_secretNames a_p1_pageNames a_p1_speed a_p1_letters a_p1_room a_p1_now a_p1_rounds v_p2_inOrder u1 v_p2_ill v_p2_shut u2 u3 u4 u5 u6 v_p2_order u7 u8 v_p1_cells v_p1_secrets v_p1_pages v_p1_blind v_p1_rubs v_p1_letters v_p1_room v_p1_speed)) hP (mp_D_of hD rfl) hS hA rfl rfl (mp_runV (As := [.ref a_p1, .int w2]) (rest := []) X me_X7_passMany lk_X3_105 (c_X7_passMany l D T fu a_p2 a_p2_order a_p2_knows a_p2_made a_p2_sixteenths a_p2_dots a_p2_used a_p2_stands a_p1 a_p1_cellNames a_p1_secretNames a_p1_pageNames a_p1_speed a_p1_letters a_p1_room a_p1_now a_p1_rounds w2 v_p1_cells v_p2_inOrder v_p2_place v_p2_ill v_p2_shut v_p2_turns v_p2_madeInAll v_p2_dots v_p2_knows v_p2_made v_p2_order v_p2_stands v_p2_used v_p1_secrets v_p1_pages v_p1_blind v_p1_rubs v_p1_letters v_p1_room v_p1_speed u1 u2 u3 u4 u5 u6 u7 u8 c9) rfl rfl ⟨(Nat.le_of_ble_eq_true rfl), (Nat.le_of_ble_eq_true rfl)⟩ hK hPc hDc rfl rfl rfl rfl hl.1 rfl (Nat.le_of_ble_eq_true rfl) dX3_takeStep_260 ⟨Nat.zero_le _, Nat.zero_le _⟩) (fun H locs hP _ hS => ?_)
  replace hP : va_P D mp_cl (k_X3_takeStep T a_ a_loopsLeft a_probe a_p1 a_p1_cellNames a_p1_secretNames a_p1_pageNames a_p1_speed a_p1_letters a_p1_room a_p1_now a_p1_rounds a_p1_rounds_code a_p1_rounds_one a_p1_rounds_other a_p1_rounds_mate a_p2 a_p2_order a_p2_knows a_p2_made a_p2_sixteenths a_p2_dots a_p2_used a_p2_stands v_steps v_missed v_turns v_made v_found v_left v_seed v_loopsLeft v_p1_cells v_p1_secrets v_p1_pages v_p1_blind v_p1_rubs v_p1_letters v_p1_room v_p1_rounds_present v_p1_rounds_steps v_p1_rounds_size v_p1_rounds_code v_p1_rounds_mate v_p1_rounds_one v_p1_rounds_other v_p1_speed v_p2_inOrder u1 v_p2_ill v_p2_shut u2 u3 u4 u5 u6 v_p2_order v_p2_sixteenths u7 u8) H := hP
  refine lv_goto (tgt := 274) hx hb dX3_takeStep_263 (by decide) ?_
  exact w_X3_takeStep_274 X hK hA  fu a_ a_loopsLeft a_probe a_p1 a_p1_cellNames a_p1_secretNames a_p1_pageNames a_p1_speed a_p1_letters a_p1_room a_p1_now a_p1_rounds a_p1_rounds_code a_p1_rounds_one a_p1_rounds_other a_p1_rounds_mate a_p2 a_p2_order a_p2_knows a_p2_made a_p2_sixteenths a_p2_dots a_p2_used a_p2_stands v_steps v_turns v_made v_left v_p1_rounds_present v_p1_rounds_steps v_p1_cells v_p1_secrets v_p1_pages v_p1_blind v_p1_rubs v_p1_letters v_p1_room v_p1_rounds_size v_p1_rounds_code v_p1_rounds_mate v_p1_rounds_one v_p1_rounds_other v_p1_speed v_p2_inOrder v_p2_sixteenths r_ o_missed o_found o_seed o_loopsLeft o_p2_place o_p2_ill o_p2_shut o_p2_turns o_p2_madeInAll o_p2_dots o_p2_knows o_p2_made o_p2_order o_p2_stands o_p2_used   z6 z7 v_missed v_found v_seed v_loopsLeft u1 v_p2_ill v_p2_shut u2 u3 u4 u5 u6 v_p2_order u7 u8 hf _ _ _ hP (mp_D_of hD rfl) hS (lv_sub hl [0, 1, 2] rfl)

set_option maxHeartbeats 4000000 in
set_option maxRecDepth 100000 in
theorem w_X3_takeStep_245 {p : Program} {l : Launch} {e : Env} {s : State} {m : MethodId} {args : Array Value} {below : List Frame} {meth : Method} {c : Code} {D : va_G} {T : Nat → ClassId} {A : Nat → Prop} (X : mp_X p s m meth c args RX3 "takeStep" cX3_takeStep 8 (some .int)) (hK : va_K D mp_cl (mp_ty T) s) (hA : ∀ q, s.heap.size ≤ q → A q) (fu : Nat) (a_ a_loopsLeft a_probe a_p1 a_p1_cellNames a_p1_secretNames a_p1_pageNames a_p1_speed a_p1_letters a_p1_room a_p1_now a_p1_rounds a_p1_rounds_code a_p1_rounds_one a_p1_rounds_other a_p1_rounds_mate a_p2 a_p2_order a_p2_knows a_p2_made a_p2_sixteenths a_p2_dots a_p2_used a_p2_stands : Nat) (v_steps : Int32) (v_turns : Int32) (v_made : Int32) (v_left : Int32) (v_p1_rounds_present : Int32) (v_p1_rounds_steps : Int32) (v_p1_cells : Int32) (v_p1_secrets : Int32) (v_p1_pages : Int32) (v_p1_blind : Int32) (v_p1_rubs : Int32) (v_p1_letters : (Nat → Int32)) (v_p1_room : (Nat → Int32)) (v_p1_rounds_size : Int32) (v_p1_rounds_code : (Nat → Int32)) (v_p1_rounds_mate : (Nat → Int32)) (v_p1_rounds_one : (Nat → Int32)) (v_p1_rounds_other : (Nat → Int32)) (v_p1_speed : (Nat → Int32)) (v_p2_inOrder : Int32) (v_p2_sixteenths : (Nat → Int32)) (r_ : Int32) (o_missed : Int32) (o_found : Int32) (o_seed : Int32) (o_loopsLeft : (Nat → Int32)) (o_p2_place : Int32) (o_p2_ill : Int32) (o_p2_shut : Int32) (o_p2_turns : Int32) (o_p2_madeInAll : Int32) (o_p2_dots : (Nat → Int32)) (o_p2_knows : (Nat → Int32)) (o_p2_made : (Nat → Int32)) (o_p2_order : (Nat → Int32)) (o_p2_stands : (Nat → Int32)) (o_p2_used : (Nat → Int32)) :
    ∀  (z5 : Int32) (z6 : Int32) (w0 : Int32) (v_missed : Int32) (v_found : Int32) (v_seed : Int32) (v_loopsLeft : (Nat → Int32)) (v_p2_place : Int32) (v_p2_ill : Int32) (v_p2_shut : Int32) (v_p2_turns : Int32) (v_p2_madeInAll : Int32) (v_p2_dots : (Nat → Int32)) (v_p2_knows : (Nat → Int32)) (v_p2_made : (Nat → Int32)) (v_p2_order : (Nat → Int32)) (v_p2_stands : (Nat → Int32)) (v_p2_used : (Nat → Int32)), f_X3_takeStep_245 fu v_p1_cells v_p1_secrets v_p1_pages v_p1_blind v_p1_rubs v_p1_letters v_p1_room v_p1_rounds_size v_p1_rounds_code v_p1_rounds_mate v_p1_rounds_one v_p1_rounds_other v_p1_speed v_p2_inOrder v_p2_sixteenths  z5 z6 w0 v_missed v_found v_seed v_loopsLeft v_p2_place v_p2_ill v_p2_shut v_p2_turns v_p2_madeInAll v_p2_dots v_p2_knows v_p2_made v_p2_order v_p2_stands v_p2_used = some (r_, o_missed, o_found, o_seed, o_loopsLeft, o_p2_place, o_p2_ill, o_p2_shut, o_p2_turns, o_p2_madeInAll, o_p2_dots, o_p2_knows, o_p2_made, o_p2_order, o_p2_stands, o_p2_used) → ∀ (H : Heap) (locs : List Loc) (ls : Array Slot), va_P D mp_cl (k_X3_takeStep T a_ a_loopsLeft a_probe a_p1 a_p1_cellNames a_p1_secretNames a_p1_pageNames a_p1_speed a_p1_letters a_p1_room a_p1_now a_p1_rounds a_p1_rounds_code a_p1_rounds_one a_p1_rounds_other a_p1_rounds_mate a_p2 a_p2_order a_p2_knows a_p2_made a_p2_sixteenths a_p2_dots a_p2_used a_p2_stands v_steps v_missed v_turns v_made v_found v_left v_seed v_loopsLeft v_p1_cells v_p1_secrets v_p1_pages v_p1_blind v_p1_rubs v_p1_letters v_p1_room v_p1_rounds_present v_p1_rounds_steps v_p1_rounds_size v_p1_rounds_code v_p1_rounds_mate v_p1_rounds_one v_p1_rounds_other v_p1_speed v_p2_inOrder v_p2_place v_p2_ill v_p2_shut v_p2_turns v_p2_madeInAll v_p2_dots v_p2_knows v_p2_made v_p2_order v_p2_sixteenths v_p2_stands v_p2_used) H → va_D A (k_X3_takeStep T a_ a_loopsLeft a_probe a_p1 a_p1_cellNames a_p1_secretNames a_p1_pageNames a_p1_speed a_p1_letters a_p1_room a_p1_now a_p1_rounds a_p1_rounds_code a_p1_rounds_one a_p1_rounds_other a_p1_rounds_mate a_p2 a_p2_order a_p2_knows a_p2_made a_p2_sixteenths a_p2_dots a_p2_used a_p2_stands v_steps v_missed v_turns v_made v_found v_left v_seed v_loopsLeft v_p1_cells v_p1_secrets v_p1_pages v_p1_blind v_p1_rubs v_p1_letters v_p1_room v_p1_rounds_present v_p1_rounds_steps v_p1_rounds_size v_p1_rounds_code v_p1_rounds_mate v_p1_rounds_one v_p1_rounds_other v_p1_speed v_p2_inOrder v_p2_place v_p2_ill v_p2_shut v_p2_turns v_p2_madeInAll v_p2_dots v_p2_knows v_p2_made v_p2_order v_p2_sixteenths v_p2_stands v_p2_used) → va_S A s.heap H locs → lv_has ls 8 [(0, .ref a_), (1, .ref a_p1), (2, .ref a_p2), (5, .int z5), (6, .int z6)] → W p l e ({ frames := 5, cells := 0, slots := 0, locals := 141 }) s m args below meth c H locs 0 0 (MQ below ((mp_Qi D r_ (k_X3_takeStep T a_ a_loopsLeft a_probe a_p1 a_p1_cellNames a_p1_secretNames a_p1_pageNames a_p1_speed a_p1_letters a_p1_room a_p1_now a_p1_rounds a_p1_rounds_code a_p1_rounds_one a_p1_rounds_other a_p1_rounds_mate a_p2 a_p2_order a_p2_knows a_p2_made a_p2_sixteenths a_p2_dots a_p2_used a_p2_stands v_steps o_missed v_turns v_made o_found v_left o_seed o_loopsLeft v_p1_cells v_p1_secrets v_p1_pages v_p1_blind v_p1_rubs v_p1_letters v_p1_room v_p1_rounds_present v_p1_rounds_steps v_p1_rounds_size v_p1_rounds_code v_p1_rounds_mate v_p1_rounds_one v_p1_rounds_other v_p1_speed v_p2_inOrder o_p2_place o_p2_ill o_p2_shut o_p2_turns o_p2_madeInAll o_p2_dots o_p2_knows o_p2_made o_p2_order v_p2_sixteenths o_p2_stands o_p2_used)) A) args s 0 0 A) (F0 m 245 ls [.int w0]) := by
  have hx := X.1
  have hb := X.2.1
  have hml := X.2.2.1
  have hown := X.2.2.2.2.1
  have hts := X.2.2.2.2.2.1
  intro z5 z6 w0 v_missed v_found v_seed v_loopsLeft v_p2_place v_p2_ill v_p2_shut v_p2_turns v_p2_madeInAll v_p2_dots v_p2_knows v_p2_made v_p2_order v_p2_stands v_p2_used hf H locs ls hP hD hS hl
  replace hf : (if w0 = 0 then f_X3_takeStep_260 fu v_p1_cells v_p1_secrets v_p1_pages v_p1_blind v_p1_rubs v_p1_letters v_p1_room v_p1_rounds_size v_p1_rounds_code v_p1_rounds_mate v_p1_rounds_one v_p1_rounds_other v_p1_speed v_p2_inOrder v_p2_sixteenths  z6 w0 (nI 0) v_missed v_found v_seed v_loopsLeft v_p2_place v_p2_ill v_p2_shut v_p2_turns v_p2_madeInAll v_p2_dots v_p2_knows v_p2_made v_p2_order v_p2_stands v_p2_used else f_X3_takeStep_260 fu v_p1_cells v_p1_secrets v_p1_pages v_p1_blind v_p1_rubs v_p1_letters v_p1_room v_p1_rounds_size v_p1_rounds_code v_p1_rounds_mate v_p1_rounds_one v_p1_rounds_other v_p1_speed v_p2_inOrder v_p2_sixteenths  z6 w0 z5 v_missed v_found v_seed v_loopsLeft v_p2_place v_p2_ill v_p2_shut v_p2_turns v_p2_madeInAll v_p2_dots v_p2_knows v_p2_made v_p2_order v_p2_stands v_p2_used) = some (r_, o_missed, o_found, o_seed, o_loopsLeft, o_p2_place, o_p2_ill, o_p2_shut, o_p2_turns, o_p2_madeInAll, o_p2_dots, o_p2_knows, o_p2_made, o_p2_order, o_p2_stands, o_p2_used) := hf
  refine lv_istore (lv' := [(7, .int w0), (0, .ref a_), (1, .ref a_p1), (2, .ref a_p2), (5, .int z5), (6, .int z6)]) hx hb dX3_takeStep_245 hl (by decide) rfl (fun ls hl => ?_)
  refine lv_aload_n hx hb dX3_takeStep_247 rfl (lv_at hl 3 rfl) ?_
  refine lv_aload_n hx hb dX3_takeStep_248 rfl (lv_at hl 2 rfl) ?_
  refine lv_iload hx hb dX3_takeStep_249 (lv_at hl 0 rfl) ?_
  refine lv_if_eq (tgt := 259) hx hb dX3_takeStep_251 (by decide) (fun h1 => ?_) (fun h1 => ?_)
  · replace hf := if_t hf h1
    refine lv_iconst (v := (nI 0)) hx hb dX3_takeStep_259 (by decide) ?_
    exact w_X3_takeStep_260 X hK hA  fu a_ a_loopsLeft a_probe a_p1 a_p1_cellNames a_p1_secretNames a_p1_pageNames a_p1_speed a_p1_letters a_p1_room a_p1_now a_p1_rounds a_p1_rounds_code a_p1_rounds_one a_p1_rounds_other a_p1_rounds_mate a_p2 a_p2_order a_p2_knows a_p2_made a_p2_sixteenths a_p2_dots a_p2_used a_p2_stands v_steps v_turns v_made v_left v_p1_rounds_present v_p1_rounds_steps v_p1_cells v_p1_secrets v_p1_pages v_p1_blind v_p1_rubs v_p1_letters v_p1_room v_p1_rounds_size v_p1_rounds_code v_p1_rounds_mate v_p1_rounds_one v_p1_rounds_other v_p1_speed v_p2_inOrder v_p2_sixteenths r_ o_missed o_found o_seed o_loopsLeft o_p2_place o_p2_ill o_p2_shut o_p2_turns o_p2_madeInAll o_p2_dots o_p2_knows o_p2_made o_p2_order o_p2_stands o_p2_used   z6 w0 (nI 0) v_missed v_found v_seed v_loopsLeft v_p2_place v_p2_ill v_p2_shut v_p2_turns v_p2_madeInAll v_p2_dots v_p2_knows v_p2_made v_p2_order v_p2_stands v_p2_used hf _ _ _ hP (mp_D_of hD rfl) hS (lv_sub hl [1, 5, 0] rfl)
  · replace hf := if_f hf h1
    refine lv_iload hx hb dX3_takeStep_254 (lv_at hl 4 rfl) ?_
    refine lv_goto (tgt := 260) hx hb dX3_takeStep_256 (by decide) ?_
    exact w_X3_takeStep_260 X hK hA  fu a_ a_loopsLeft a_probe a_p1 a_p1_cellNames a_p1_secretNames a_p1_pageNames a_p1_speed a_p1_letters a_p1_room a_p1_now a_p1_rounds a_p1_rounds_code a_p1_rounds_one a_p1_rounds_other a_p1_rounds_mate a_p2 a_p2_order a_p2_knows a_p2_made a_p2_sixteenths a_p2_dots a_p2_used a_p2_stands v_steps v_turns v_made v_left v_p1_rounds_present v_p1_rounds_steps v_p1_cells v_p1_secrets v_p1_pages v_p1_blind v_p1_rubs v_p1_letters v_p1_room v_p1_rounds_size v_p1_rounds_code v_p1_rounds_mate v_p1_rounds_one v_p1_rounds_other v_p1_speed v_p2_inOrder v_p2_sixteenths r_ o_missed o_found o_seed o_loopsLeft o_p2_place o_p2_ill o_p2_shut o_p2_turns o_p2_madeInAll o_p2_dots o_p2_knows o_p2_made o_p2_order o_p2_stands o_p2_used   z6 w0 z5 v_missed v_found v_seed v_loopsLeft v_p2_place v_p2_ill v_p2_shut v_p2_turns v_p2_madeInAll v_p2_dots v_p2_knows v_p2_made v_p2_order v_p2_stands v_p2_used hf _ _ _ hP (mp_D_of hD rfl) hS (lv_sub hl [1, 5, 0] rfl)

set_option maxHeartbeats 4000000 in
set_option maxRecDepth 100000 in
theorem w_X3_takeStep_222 {p : Program} {l : Launch} {e : Env} {s : State} {m : MethodId} {args : Array Value} {below : List Frame} {meth : Method} {c : Code} {D : va_G} {T : Nat → ClassId} {A : Nat → Prop} (X : mp_X p s m meth c args RX3 "takeStep" cX3_takeStep 8 (some .int)) (hK : va_K D mp_cl (mp_ty T) s) (hA : ∀ q, s.heap.size ≤ q → A q) (fu : Nat) (a_ a_loopsLeft a_probe a_p1 a_p1_cellNames a_p1_secretNames a_p1_pageNames a_p1_speed a_p1_letters a_p1_room a_p1_now a_p1_rounds a_p1_rounds_code a_p1_rounds_one a_p1_rounds_other a_p1_rounds_mate a_p2 a_p2_order a_p2_knows a_p2_made a_p2_sixteenths a_p2_dots a_p2_used a_p2_stands : Nat) (v_steps : Int32) (v_turns : Int32) (v_made : Int32) (v_left : Int32) (v_p1_rounds_present : Int32) (v_p1_rounds_steps : Int32) (v_p1_cells : Int32) (v_p1_secrets : Int32) (v_p1_pages : Int32) (v_p1_blind : Int32) (v_p1_rubs : Int32) (v_p1_letters : (Nat → Int32)) (v_p1_room : (Nat → Int32)) (v_p1_rounds_size : Int32) (v_p1_rounds_code : (Nat → Int32)) (v_p1_rounds_mate : (Nat → Int32)) (v_p1_rounds_one : (Nat → Int32)) (v_p1_rounds_other : (Nat → Int32)) (v_p1_speed : (Nat → Int32)) (v_p2_inOrder : Int32) (v_p2_sixteenths : (Nat → Int32)) (r_ : Int32) (o_missed : Int32) (o_found : Int32) (o_seed : Int32) (o_loopsLeft : (Nat → Int32)) (o_p2_place : Int32) (o_p2_ill : Int32) (o_p2_shut : Int32) (o_p2_turns : Int32) (o_p2_madeInAll : Int32) (o_p2_dots : (Nat → Int32)) (o_p2_knows : (Nat → Int32)) (o_p2_made : (Nat → Int32)) (o_p2_order : (Nat → Int32)) (o_p2_stands : (Nat → Int32)) (o_p2_used : (Nat → Int32)) :
    ∀  (z6 : Int32) (w0 : Int32) (v_missed : Int32) (v_found : Int32) (v_seed : Int32) (v_loopsLeft : (Nat → Int32)) (v_p2_place : Int32) (v_p2_ill : Int32) (v_p2_shut : Int32) (v_p2_turns : Int32) (v_p2_madeInAll : Int32) (v_p2_dots : (Nat → Int32)) (v_p2_knows : (Nat → Int32)) (v_p2_made : (Nat → Int32)) (v_p2_order : (Nat → Int32)) (v_p2_stands : (Nat → Int32)) (v_p2_used : (Nat → Int32)), f_X3_takeStep_222 fu v_p1_cells v_p1_secrets v_p1_pages v_p1_blind v_p1_rubs v_p1_letters v_p1_room v_p1_rounds_size v_p1_rounds_code v_p1_rounds_mate v_p1_rounds_one v_p1_rounds_other v_p1_speed v_p2_inOrder v_p2_sixteenths  z6 w0 v_missed v_found v_seed v_loopsLeft v_p2_place v_p2_ill v_p2_shut v_p2_turns v_p2_madeInAll v_p2_dots v_p2_knows v_p2_made v_p2_order v_p2_stands v_p2_used = some (r_, o_missed, o_found, o_seed, o_loopsLeft, o_p2_place, o_p2_ill, o_p2_shut, o_p2_turns, o_p2_madeInAll, o_p2_dots, o_p2_knows, o_p2_made, o_p2_order, o_p2_stands, o_p2_used) → ∀ (H : Heap) (locs : List Loc) (ls : Array Slot), va_P D mp_cl (k_X3_takeStep T a_ a_loopsLeft a_probe a_p1 a_p1_cellNames a_p1_secretNames a_p1_pageNames a_p1_speed a_p1_letters a_p1_room a_p1_now a_p1_rounds a_p1_rounds_code a_p1_rounds_one a_p1_rounds_other a_p1_rounds_mate a_p2 a_p2_order a_p2_knows a_p2_made a_p2_sixteenths a_p2_dots a_p2_used a_p2_stands v_steps v_missed v_turns v_made v_found v_left v_seed v_loopsLeft v_p1_cells v_p1_secrets v_p1_pages v_p1_blind v_p1_rubs v_p1_letters v_p1_room v_p1_rounds_present v_p1_rounds_steps v_p1_rounds_size v_p1_rounds_code v_p1_rounds_mate v_p1_rounds_one v_p1_rounds_other v_p1_speed v_p2_inOrder v_p2_place v_p2_ill v_p2_shut v_p2_turns v_p2_madeInAll v_p2_dots v_p2_knows v_p2_made v_p2_order v_p2_sixteenths v_p2_stands v_p2_used) H → va_D A (k_X3_takeStep T a_ a_loopsLeft a_probe a_p1 a_p1_cellNames a_p1_secretNames a_p1_pageNames a_p1_speed a_p1_letters a_p1_room a_p1_now a_p1_rounds a_p1_rounds_code a_p1_rounds_one a_p1_rounds_other a_p1_rounds_mate a_p2 a_p2_order a_p2_knows a_p2_made a_p2_sixteenths a_p2_dots a_p2_used a_p2_stands v_steps v_missed v_turns v_made v_found v_left v_seed v_loopsLeft v_p1_cells v_p1_secrets v_p1_pages v_p1_blind v_p1_rubs v_p1_letters v_p1_room v_p1_rounds_present v_p1_rounds_steps v_p1_rounds_size v_p1_rounds_code v_p1_rounds_mate v_p1_rounds_one v_p1_rounds_other v_p1_speed v_p2_inOrder v_p2_place v_p2_ill v_p2_shut v_p2_turns v_p2_madeInAll v_p2_dots v_p2_knows v_p2_made v_p2_order v_p2_sixteenths v_p2_stands v_p2_used) → va_S A s.heap H locs → lv_has ls 8 [(0, .ref a_), (6, .int z6)] → W p l e ({ frames := 5, cells := 0, slots := 0, locals := 141 }) s m args below meth c H locs 0 0 (MQ below ((mp_Qi D r_ (k_X3_takeStep T a_ a_loopsLeft a_probe a_p1 a_p1_cellNames a_p1_secretNames a_p1_pageNames a_p1_speed a_p1_letters a_p1_room a_p1_now a_p1_rounds a_p1_rounds_code a_p1_rounds_one a_p1_rounds_other a_p1_rounds_mate a_p2 a_p2_order a_p2_knows a_p2_made a_p2_sixteenths a_p2_dots a_p2_used a_p2_stands v_steps o_missed v_turns v_made o_found v_left o_seed o_loopsLeft v_p1_cells v_p1_secrets v_p1_pages v_p1_blind v_p1_rubs v_p1_letters v_p1_room v_p1_rounds_present v_p1_rounds_steps v_p1_rounds_size v_p1_rounds_code v_p1_rounds_mate v_p1_rounds_one v_p1_rounds_other v_p1_speed v_p2_inOrder o_p2_place o_p2_ill o_p2_shut o_p2_turns o_p2_madeInAll o_p2_dots o_p2_knows o_p2_made o_p2_order v_p2_sixteenths o_p2_stands o_p2_used)) A) args s 0 0 A) (F0 m 222 ls [.int w0]) := by
  have hx := X.1
  have hb := X.2.1
  have hml := X.2.2.1
  have hown := X.2.2.2.2.1
  have hts := X.2.2.2.2.2.1
  intro z6 w0 v_missed v_found v_seed v_loopsLeft v_p2_place v_p2_ill v_p2_shut v_p2_turns v_p2_madeInAll v_p2_dots v_p2_knows v_p2_made v_p2_order v_p2_stands v_p2_used hf H locs ls hP hD hS hl
  replace hf : f_X3_takeStep_274 fu v_p1_cells v_p1_secrets v_p1_pages v_p1_blind v_p1_rubs v_p1_letters v_p1_room v_p1_rounds_size v_p1_rounds_code v_p1_rounds_mate v_p1_rounds_one v_p1_rounds_other v_p1_speed v_p2_inOrder v_p2_sixteenths  z6 w0 v_missed v_found v_seed v_loopsLeft v_p2_place v_p2_ill v_p2_shut v_p2_turns v_p2_madeInAll v_p2_dots v_p2_knows v_p2_made v_p2_order v_p2_stands v_p2_used = some (r_, o_missed, o_found, o_seed, o_loopsLeft, o_p2_place, o_p2_ill, o_p2_shut, o_p2_turns, o_p2_madeInAll, o_p2_dots, o_p2_knows, o_p2_made, o_p2_order, o_p2_stands, o_p2_used) := hf
  refine lv_istore (lv' := [(7, .int w0), (0, .ref a_), (6, .int z6)]) hx hb dX3_takeStep_222 hl (by decide) rfl (fun ls hl => ?_)
  refine lv_goto (tgt := 274) hx hb dX3_takeStep_224 (by decide) ?_
  exact w_X3_takeStep_274 X hK hA  fu a_ a_loopsLeft a_probe a_p1 a_p1_cellNames a_p1_secretNames a_p1_pageNames a_p1_speed a_p1_letters a_p1_room a_p1_now a_p1_rounds a_p1_rounds_code a_p1_rounds_one a_p1_rounds_other a_p1_rounds_mate a_p2 a_p2_order a_p2_knows a_p2_made a_p2_sixteenths a_p2_dots a_p2_used a_p2_stands v_steps v_turns v_made v_left v_p1_rounds_present v_p1_rounds_steps v_p1_cells v_p1_secrets v_p1_pages v_p1_blind v_p1_rubs v_p1_letters v_p1_room v_p1_rounds_size v_p1_rounds_code v_p1_rounds_mate v_p1_rounds_one v_p1_rounds_other v_p1_speed v_p2_inOrder v_p2_sixteenths r_ o_missed o_found o_seed o_loopsLeft o_p2_place o_p2_ill o_p2_shut o_p2_turns o_p2_madeInAll o_p2_dots o_p2_knows o_p2_made o_p2_order o_p2_stands o_p2_used   z6 w0 v_missed v_found v_seed v_loopsLeft v_p2_place v_p2_ill v_p2_shut v_p2_turns v_p2_madeInAll v_p2_dots v_p2_knows v_p2_made v_p2_order v_p2_stands v_p2_used hf _ _ _ hP (mp_D_of hD rfl) hS (lv_sub hl [1, 2, 0] rfl)

set_option maxHeartbeats 4000000 in
set_option maxRecDepth 100000 in
theorem c_X3_takeStep (l : Launch) (D : va_G) (T : Nat → ClassId) (fu : Nat) (a_ a_loopsLeft a_probe a_p1 a_p1_cellNames a_p1_secretNames a_p1_pageNames a_p1_speed a_p1_letters a_p1_room a_p1_now a_p1_rounds a_p1_rounds_code a_p1_rounds_one a_p1_rounds_other a_p1_rounds_mate a_p2 a_p2_order a_p2_knows a_p2_made a_p2_sixteenths a_p2_dots a_p2_used a_p2_stands : Nat) (x3 : Int32) (v_steps : Int32) (v_turns : Int32) (v_made : Int32) (v_left : Int32) (v_p1_rounds_present : Int32) (v_p1_rounds_steps : Int32) (v_missed : Int32) (v_found : Int32) (v_seed : Int32) (v_loopsLeft : (Nat → Int32)) (v_p1_cells : Int32) (v_p1_secrets : Int32) (v_p1_pages : Int32) (v_p1_blind : Int32) (v_p1_rubs : Int32) (v_p1_letters : (Nat → Int32)) (v_p1_room : (Nat → Int32)) (v_p1_rounds_size : Int32) (v_p1_rounds_code : (Nat → Int32)) (v_p1_rounds_mate : (Nat → Int32)) (v_p1_rounds_one : (Nat → Int32)) (v_p1_rounds_other : (Nat → Int32)) (v_p1_speed : (Nat → Int32)) (v_p2_inOrder : Int32) (v_p2_place : Int32) (v_p2_ill : Int32) (v_p2_shut : Int32) (v_p2_turns : Int32) (v_p2_madeInAll : Int32) (v_p2_dots : (Nat → Int32)) (v_p2_knows : (Nat → Int32)) (v_p2_made : (Nat → Int32)) (v_p2_order : (Nat → Int32)) (v_p2_sixteenths : (Nat → Int32)) (v_p2_stands : (Nat → Int32)) (v_p2_used : (Nat → Int32)) (r_ : Int32) (o_missed : Int32) (o_found : Int32) (o_seed : Int32) (o_loopsLeft : (Nat → Int32)) (o_p2_place : Int32) (o_p2_ill : Int32) (o_p2_shut : Int32) (o_p2_turns : Int32) (o_p2_madeInAll : Int32) (o_p2_dots : (Nat → Int32)) (o_p2_knows : (Nat → Int32)) (o_p2_made : (Nat → Int32)) (o_p2_order : (Nat → Int32)) (o_p2_stands : (Nat → Int32)) (o_p2_used : (Nat → Int32)) (hf : f_X3_takeStep fu x3 v_missed v_found v_seed v_loopsLeft v_p1_cells v_p1_secrets v_p1_pages v_p1_blind v_p1_rubs v_p1_letters v_p1_room v_p1_rounds_size v_p1_rounds_code v_p1_rounds_mate v_p1_rounds_one v_p1_rounds_other v_p1_speed v_p2_inOrder v_p2_place v_p2_ill v_p2_shut v_p2_turns v_p2_madeInAll v_p2_dots v_p2_knows v_p2_made v_p2_order v_p2_sixteenths v_p2_stands v_p2_used = some (r_, o_missed, o_found, o_seed, o_loopsLeft, o_p2_place, o_p2_ill, o_p2_shut, o_p2_turns, o_p2_madeInAll, o_p2_dots, o_p2_knows, o_p2_made, o_p2_order, o_p2_stands, o_p2_used)) :
    mp_M l D T yX3_takeStep cX3_takeStep 8 (some .int) ({ frames := 5, cells := 0, slots := 0, locals := 141 }) 0 0 [.ref a_, .ref a_p1, .ref a_p2, .int x3] (k_X3_takeStep T a_ a_loopsLeft a_probe a_p1 a_p1_cellNames a_p1_secretNames a_p1_pageNames a_p1_speed a_p1_letters a_p1_room a_p1_now a_p1_rounds a_p1_rounds_code a_p1_rounds_one a_p1_rounds_other a_p1_rounds_mate a_p2 a_p2_order a_p2_knows a_p2_made a_p2_sixteenths a_p2_dots a_p2_used a_p2_stands v_steps v_missed v_turns v_made v_found v_left v_seed v_loopsLeft v_p1_cells v_p1_secrets v_p1_pages v_p1_blind v_p1_rubs v_p1_letters v_p1_room v_p1_rounds_present v_p1_rounds_steps v_p1_rounds_size v_p1_rounds_code v_p1_rounds_mate v_p1_rounds_one v_p1_rounds_other v_p1_speed v_p2_inOrder v_p2_place v_p2_ill v_p2_shut v_p2_turns v_p2_madeInAll v_p2_dots v_p2_knows v_p2_made v_p2_order v_p2_sixteenths v_p2_stands v_p2_used) (mp_Qi D r_ (k_X3_takeStep T a_ a_loopsLeft a_probe a_p1 a_p1_cellNames a_p1_secretNames a_p1_pageNames a_p1_speed a_p1_letters a_p1_room a_p1_now a_p1_rounds a_p1_rounds_code a_p1_rounds_one a_p1_rounds_other a_p1_rounds_mate a_p2 a_p2_order a_p2_knows a_p2_made a_p2_sixteenths a_p2_dots a_p2_used a_p2_stands v_steps o_missed v_turns v_made o_found v_left o_seed o_loopsLeft v_p1_cells v_p1_secrets v_p1_pages v_p1_blind v_p1_rubs v_p1_letters v_p1_room v_p1_rounds_present v_p1_rounds_steps v_p1_rounds_size v_p1_rounds_code v_p1_rounds_mate v_p1_rounds_one v_p1_rounds_other v_p1_speed v_p2_inOrder o_p2_place o_p2_ill o_p2_shut o_p2_turns o_p2_madeInAll o_p2_dots o_p2_knows o_p2_made o_p2_order v_p2_sixteenths o_p2_stands o_p2_used)) := by
  refine mp_of (by decide) (Nat.le_of_ble_eq_true rfl) rfl ?_
  intro p e s m args below meth c A ls X hK hP hD hS hA hl
  replace X : mp_X p s m meth c args RX3 "takeStep" cX3_takeStep 8 (some .int) := X
  have hx := X.1
  have hb := X.2.1
  have hml := X.2.2.1
  have hown := X.2.2.2.2.1
  have hts := X.2.2.2.2.2.1
  replace hl : lv_has ls 8 [(0, .ref a_), (1, .ref a_p1), (2, .ref a_p2), (3, .int x3)] := hl
  replace hf : gi_ x3 60 (lt_ (v_p1_rounds_one (x3).toNatClampNeg) (fun (y2 : Int32) => lt_ (x3 + (nI 1)) (fun (y3 : Int32) => gi_ x3 60 ((if (v_p1_rounds_code (x3).toNatClampNeg) = (nI 8) then bd_ (f_X3_holds fu x3 v_p1_cells v_p1_blind v_p1_room v_p1_rounds_code v_p1_rounds_one v_p1_rounds_other v_p2_knows v_p2_used) (fun (r6 : Int32) => (if r6 = 0 then gi_ x3 60 (f_X3_takeStep_153 fu v_p1_cells v_p1_secrets v_p1_pages v_p1_blind v_p1_rubs v_p1_letters v_p1_room v_p1_rounds_size v_p1_rounds_code v_p1_rounds_mate v_p1_rounds_one v_p1_rounds_other v_p1_speed v_p2_inOrder v_p2_sixteenths  (nI 1) ((v_p1_rounds_mate (x3).toNatClampNeg) + (nI 1)) v_missed v_found v_seed v_loopsLeft v_p2_place v_p2_ill v_p2_shut v_p2_turns v_p2_madeInAll v_p2_dots v_p2_knows v_p2_made v_p2_order v_p2_stands v_p2_used) else f_X3_takeStep_153 fu v_p1_cells v_p1_secrets v_p1_pages v_p1_blind v_p1_rubs v_p1_letters v_p1_room v_p1_rounds_size v_p1_rounds_code v_p1_rounds_mate v_p1_rounds_one v_p1_rounds_other v_p1_speed v_p2_inOrder v_p2_sixteenths  (nI 1) (x3 + (nI 1)) v_missed v_found v_seed v_loopsLeft v_p2_place v_p2_ill v_p2_shut v_p2_turns v_p2_madeInAll v_p2_dots v_p2_knows v_p2_made v_p2_order v_p2_stands v_p2_used)) else (if (v_p1_rounds_code (x3).toNatClampNeg) = (nI 9) then bd_ (f_X3_searches fu v_found v_seed v_p1_pages v_p2_shut v_p2_dots v_p2_sixteenths v_p2_stands v_p2_used) (fun (z : Int32 × Int32 × Int32 × (Nat → Int32) × (Nat → Int32) × (Nat → Int32)) => match z with | (r11, u12, u13, u14, u15, u16) => f_X3_takeStep_274 fu v_p1_cells v_p1_secrets v_p1_pages v_p1_blind v_p1_rubs v_p1_letters v_p1_room v_p1_rounds_size v_p1_rounds_code v_p1_rounds_mate v_p1_rounds_one v_p1_rounds_other v_p1_speed v_p2_inOrder v_p2_sixteenths  y3 r11 v_missed u12 u13 v_loopsLeft v_p2_place v_p2_ill v_p2_shut v_p2_turns v_p2_madeInAll u14 v_p2_knows v_p2_made v_p2_order u15 u16) else (if (v_p1_rounds_code (x3).toNatClampNeg) = (nI 10) then bd_ (f_X3_searches fu v_found v_seed v_p1_pages v_p2_shut v_p2_dots v_p2_sixteenths v_p2_stands v_p2_used) (fun (z : Int32 × Int32 × Int32 × (Nat → Int32) × (Nat → Int32) × (Nat → Int32)) => match z with | (r19, u20, u21, u22, u23, u24) => f_X3_takeStep_274 fu v_p1_cells v_p1_secrets v_p1_pages v_p1_blind v_p1_rubs v_p1_letters v_p1_room v_p1_rounds_size v_p1_rounds_code v_p1_rounds_mate v_p1_rounds_one v_p1_rounds_other v_p1_speed v_p2_inOrder v_p2_sixteenths  y3 r19 v_missed u20 u21 v_loopsLeft v_p2_place v_p2_ill v_p2_shut v_p2_turns v_p2_madeInAll u22 v_p2_knows v_p2_made v_p2_order u23 u24) else (if (v_p1_rounds_code (x3).toNatClampNeg) = (nI 11) then bd_ (f_X3_searches fu v_found v_seed v_p1_pages v_p2_shut v_p2_dots v_p2_sixteenths v_p2_stands v_p2_used) (fun (z : Int32 × Int32 × Int32 × (Nat → Int32) × (Nat → Int32) × (Nat → Int32)) => match z with | (r27, u28, u29, u30, u31, u32) => f_X3_takeStep_274 fu v_p1_cells v_p1_secrets v_p1_pages v_p1_blind v_p1_rubs v_p1_letters v_p1_room v_p1_rounds_size v_p1_rounds_code v_p1_rounds_mate v_p1_rounds_one v_p1_rounds_other v_p1_speed v_p2_inOrder v_p2_sixteenths  y3 r27 v_missed u28 u29 v_loopsLeft v_p2_place v_p2_ill v_p2_shut v_p2_turns v_p2_madeInAll u30 v_p2_knows v_p2_made v_p2_order u31 u32) else (if (v_p1_rounds_code (x3).toNatClampNeg) = (nI 12) then (if (nI 9999) < (v_p2_turns + y2) then f_X3_takeStep_245 fu v_p1_cells v_p1_secrets v_p1_pages v_p1_blind v_p1_rubs v_p1_letters v_p1_room v_p1_rounds_size v_p1_rounds_code v_p1_rounds_mate v_p1_rounds_one v_p1_rounds_other v_p1_speed v_p2_inOrder v_p2_sixteenths  y2 y3 (nI 0) v_missed v_found v_seed v_loopsLeft v_p2_place v_p2_ill v_p2_shut v_p2_turns v_p2_madeInAll v_p2_dots v_p2_knows v_p2_made v_p2_order v_p2_stands v_p2_used else f_X3_takeStep_245 fu v_p1_cells v_p1_secrets v_p1_pages v_p1_blind v_p1_rubs v_p1_letters v_p1_room v_p1_rounds_size v_p1_rounds_code v_p1_rounds_mate v_p1_rounds_one v_p1_rounds_other v_p1_speed v_p2_inOrder v_p2_sixteenths  y2 y3 (nI 1) v_missed v_found v_seed v_loopsLeft v_p2_place v_p2_ill v_p2_shut v_p2_turns v_p2_madeInAll v_p2_dots v_p2_knows v_p2_made v_p2_order v_p2_stands v_p2_used) else (if (v_p1_rounds_code (x3).toNatClampNeg) = (nI 13) then lt_ (v_p2_ill ^^^ ((nI 1) <<< (y2 &&& (31 : Int32)))) (fun (y37 : Int32) => f_X3_takeStep_274 fu v_p1_cells v_p1_secrets v_p1_pages v_p1_blind v_p1_rubs v_p1_letters v_p1_room v_p1_rounds_size v_p1_rounds_code v_p1_rounds_mate v_p1_rounds_one v_p1_rounds_other v_p1_speed v_p2_inOrder v_p2_sixteenths  y3 (nI 1) v_missed v_found v_seed v_loopsLeft v_p2_place y37 v_p2_shut v_p2_turns v_p2_madeInAll v_p2_dots v_p2_knows v_p2_made v_p2_order v_p2_stands v_p2_used) else (if (v_p1_rounds_code (x3).toNatClampNeg) = (nI 14) then gi_ x3 60 (bd_ (f_X7_swapPlaces fu y2 (v_p1_rounds_other (x3).toNatClampNeg) v_p2_inOrder v_p2_order) (fun (z : Int32 × (Nat → Int32)) => match z with | (r40, u41) => f_X3_takeStep_274 fu v_p1_cells v_p1_secrets v_p1_pages v_p1_blind v_p1_rubs v_p1_letters v_p1_room v_p1_rounds_size v_p1_rounds_code v_p1_rounds_mate v_p1_rounds_one v_p1_rounds_other v_p1_speed v_p2_inOrder v_p2_sixteenths  y3 r40 v_missed v_found v_seed v_loopsLeft v_p2_place v_p2_ill v_p2_shut v_p2_turns v_p2_madeInAll v_p2_dots v_p2_knows v_p2_made u41 v_p2_stands v_p2_used)) else (if (v_p1_rounds_code (x3).toNatClampNeg) = (nI 15) then bd_ (f_X7_erasePage fu y2 v_p2_dots v_p2_stands v_p2_used) (fun (z : Int32 × (Nat → Int32) × (Nat → Int32) × (Nat → Int32)) => match z with | (r44, u45, u46, u47) => (if r44 ≤ 0 then f_X3_takeStep_222 fu v_p1_cells v_p1_secrets v_p1_pages v_p1_blind v_p1_rubs v_p1_letters v_p1_room v_p1_rounds_size v_p1_rounds_code v_p1_rounds_mate v_p1_rounds_one v_p1_rounds_other v_p1_speed v_p2_inOrder v_p2_sixteenths  y3 (nI 0) v_missed v_found v_seed v_loopsLeft v_p2_place v_p2_ill v_p2_shut v_p2_turns v_p2_madeInAll u45 v_p2_knows v_p2_made v_p2_order u46 u47 else f_X3_takeStep_222 fu v_p1_cells v_p1_secrets v_p1_pages v_p1_blind v_p1_rubs v_p1_letters v_p1_room v_p1_rounds_size v_p1_rounds_code v_p1_rounds_mate v_p1_rounds_one v_p1_rounds_other v_p1_speed v_p2_inOrder v_p2_sixteenths  y3 (nI 1) v_missed v_found v_seed v_loopsLeft v_p2_place v_p2_ill v_p2_shut v_p2_turns v_p2_madeInAll u45 v_p2_knows v_p2_made v_p2_order u46 u47)) else (if (v_p1_rounds_code (x3).toNatClampNeg) = (nI 16) then lt_ (v_p2_shut ^^^ ((nI 1) <<< (y2 &&& (31 : Int32)))) (fun (y51 : Int32) => f_X3_takeStep_274 fu v_p1_cells v_p1_secrets v_p1_pages v_p1_blind v_p1_rubs v_p1_letters v_p1_room v_p1_rounds_size v_p1_rounds_code v_p1_rounds_mate v_p1_rounds_one v_p1_rounds_other v_p1_speed v_p2_inOrder v_p2_sixteenths  y3 (nI 1) v_missed v_found v_seed v_loopsLeft v_p2_place v_p2_ill y51 v_p2_turns v_p2_madeInAll v_p2_dots v_p2_knows v_p2_made v_p2_order v_p2_stands v_p2_used) else (if (v_p1_rounds_code (x3).toNatClampNeg) = (nI 17) then bd_ (f_X3_searches fu v_found v_seed v_p1_pages v_p2_shut v_p2_dots v_p2_sixteenths v_p2_stands v_p2_used) (fun (z : Int32 × Int32 × Int32 × (Nat → Int32) × (Nat → Int32) × (Nat → Int32)) => match z with | (r53, u54, u55, u56, u57, u58) => f_X3_takeStep_274 fu v_p1_cells v_p1_secrets v_p1_pages v_p1_blind v_p1_rubs v_p1_letters v_p1_room v_p1_rounds_size v_p1_rounds_code v_p1_rounds_mate v_p1_rounds_one v_p1_rounds_other v_p1_speed v_p2_inOrder v_p2_sixteenths  y3 r53 v_missed u54 u55 v_loopsLeft v_p2_place v_p2_ill v_p2_shut v_p2_turns v_p2_madeInAll u56 v_p2_knows v_p2_made v_p2_order u57 u58) else (if (v_p1_rounds_code (x3).toNatClampNeg) = (nI 18) then bd_ (f_X3_searches fu v_found v_seed v_p1_pages v_p2_shut v_p2_dots v_p2_sixteenths v_p2_stands v_p2_used) (fun (z : Int32 × Int32 × Int32 × (Nat → Int32) × (Nat → Int32) × (Nat → Int32)) => match z with | (r61, u62, u63, u64, u65, u66) => f_X3_takeStep_274 fu v_p1_cells v_p1_secrets v_p1_pages v_p1_blind v_p1_rubs v_p1_letters v_p1_room v_p1_rounds_size v_p1_rounds_code v_p1_rounds_mate v_p1_rounds_one v_p1_rounds_other v_p1_speed v_p2_inOrder v_p2_sixteenths  y3 r61 v_missed u62 u63 v_loopsLeft v_p2_place v_p2_ill v_p2_shut v_p2_turns v_p2_madeInAll u64 v_p2_knows v_p2_made v_p2_order u65 u66) else (if (v_p1_rounds_code (x3).toNatClampNeg) = (nI 19) then bd_ (f_X3_holds fu x3 v_p1_cells v_p1_blind v_p1_room v_p1_rounds_code v_p1_rounds_one v_p1_rounds_other v_p2_knows v_p2_used) (fun (r69 : Int32) => (if r69 = 0 then gi_ x3 60 (f_X3_takeStep_153 fu v_p1_cells v_p1_secrets v_p1_pages v_p1_blind v_p1_rubs v_p1_letters v_p1_room v_p1_rounds_size v_p1_rounds_code v_p1_rounds_mate v_p1_rounds_one v_p1_rounds_other v_p1_speed v_p2_inOrder v_p2_sixteenths  (nI 1) ((v_p1_rounds_mate (x3).toNatClampNeg) + (nI 1)) v_missed v_found v_seed v_loopsLeft v_p2_place v_p2_ill v_p2_shut v_p2_turns v_p2_madeInAll v_p2_dots v_p2_knows v_p2_made v_p2_order v_p2_stands v_p2_used) else f_X3_takeStep_153 fu v_p1_cells v_p1_secrets v_p1_pages v_p1_blind v_p1_rubs v_p1_letters v_p1_room v_p1_rounds_size v_p1_rounds_code v_p1_rounds_mate v_p1_rounds_one v_p1_rounds_other v_p1_speed v_p2_inOrder v_p2_sixteenths  (nI 1) (x3 + (nI 1)) v_missed v_found v_seed v_loopsLeft v_p2_place v_p2_ill v_p2_shut v_p2_turns v_p2_madeInAll v_p2_dots v_p2_knows v_p2_made v_p2_order v_p2_stands v_p2_used)) else (if (v_p1_rounds_code (x3).toNatClampNeg) = (nI 20) then bd_ (f_X3_holds fu x3 v_p1_cells v_p1_blind v_p1_room v_p1_rounds_code v_p1_rounds_one v_p1_rounds_other v_p2_knows v_p2_used) (fun (r74 : Int32) => (if r74 = 0 then gi_ x3 60 (f_X3_takeStep_153 fu v_p1_cells v_p1_secrets v_p1_pages v_p1_blind v_p1_rubs v_p1_letters v_p1_room v_p1_rounds_size v_p1_rounds_code v_p1_rounds_mate v_p1_rounds_one v_p1_rounds_other v_p1_speed v_p2_inOrder v_p2_sixteenths  (nI 1) ((v_p1_rounds_mate (x3).toNatClampNeg) + (nI 1)) v_missed v_found v_seed v_loopsLeft v_p2_place v_p2_ill v_p2_shut v_p2_turns v_p2_madeInAll v_p2_dots v_p2_knows v_p2_made v_p2_order v_p2_stands v_p2_used) else f_X3_takeStep_153 fu v_p1_cells v_p1_secrets v_p1_pages v_p1_blind v_p1_rubs v_p1_letters v_p1_room v_p1_rounds_size v_p1_rounds_code v_p1_rounds_mate v_p1_rounds_one v_p1_rounds_other v_p1_speed v_p2_inOrder v_p2_sixteenths  (nI 1) (x3 + (nI 1)) v_missed v_found v_seed v_loopsLeft v_p2_place v_p2_ill v_p2_shut v_p2_turns v_p2_madeInAll v_p2_dots v_p2_knows v_p2_made v_p2_order v_p2_stands v_p2_used)) else (if (v_p1_rounds_code (x3).toNatClampNeg) = (nI 21) then gi_ x3 60 (f_X3_takeStep_274 fu v_p1_cells v_p1_secrets v_p1_pages v_p1_blind v_p1_rubs v_p1_letters v_p1_room v_p1_rounds_size v_p1_rounds_code v_p1_rounds_mate v_p1_rounds_one v_p1_rounds_other v_p1_speed v_p2_inOrder v_p2_sixteenths  y3 (nI 1) v_missed v_found v_seed (upd v_loopsLeft (x3).toNatClampNeg y2) v_p2_place v_p2_ill v_p2_shut v_p2_turns v_p2_madeInAll v_p2_dots v_p2_knows v_p2_made v_p2_order v_p2_stands v_p2_used) else (if (v_p1_rounds_code (x3).toNatClampNeg) = (nI 22) then bd_ (f_X3_searches fu v_found v_seed v_p1_pages v_p2_shut v_p2_dots v_p2_sixteenths v_p2_stands v_p2_used) (fun (z : Int32 × Int32 × Int32 × (Nat → Int32) × (Nat → Int32) × (Nat → Int32)) => match z with | (r81, u82, u83, u84, u85, u86) => f_X3_takeStep_274 fu v_p1_cells v_p1_secrets v_p1_pages v_p1_blind v_p1_rubs v_p1_letters v_p1_room v_p1_rounds_size v_p1_rounds_code v_p1_rounds_mate v_p1_rounds_one v_p1_rounds_other v_p1_speed v_p2_inOrder v_p2_sixteenths  y3 r81 v_missed u82 u83 v_loopsLeft v_p2_place v_p2_ill v_p2_shut v_p2_turns v_p2_madeInAll u84 v_p2_knows v_p2_made v_p2_order u85 u86) else (if (v_p1_rounds_code (x3).toNatClampNeg) = (nI 23) then f_X3_takeStep_274 fu v_p1_cells v_p1_secrets v_p1_pages v_p1_blind v_p1_rubs v_p1_letters v_p1_room v_p1_rounds_size v_p1_rounds_code v_p1_rounds_mate v_p1_rounds_one v_p1_rounds_other v_p1_speed v_p2_inOrder v_p2_sixteenths  v_p1_rounds_size (nI 1) v_missed v_found v_seed v_loopsLeft v_p2_place v_p2_ill v_p2_shut v_p2_turns v_p2_madeInAll v_p2_dots v_p2_knows v_p2_made v_p2_order v_p2_stands v_p2_used else bd_ (f_X3_searches fu v_found v_seed v_p1_pages v_p2_shut v_p2_dots v_p2_sixteenths v_p2_stands v_p2_used) (fun (z : Int32 × Int32 × Int32 × (Nat → Int32) × (Nat → Int32) × (Nat → Int32)) => match z with | (r89, u90, u91, u92, u93, u94) => f_X3_takeStep_274 fu v_p1_cells v_p1_secrets v_p1_pages v_p1_blind v_p1_rubs v_p1_letters v_p1_room v_p1_rounds_size v_p1_rounds_code v_p1_rounds_mate v_p1_rounds_one v_p1_rounds_other v_p1_speed v_p2_inOrder v_p2_sixteenths  y3 r89 v_missed u90 u91 v_loopsLeft v_p2_place v_p2_ill v_p2_shut v_p2_turns v_p2_madeInAll u92 v_p2_knows v_p2_made v_p2_order u93 u94))))))))))))))))))))) = some (r_, o_missed, o_found, o_seed, o_loopsLeft, o_p2_place, o_p2_ill, o_p2_shut, o_p2_turns, o_p2_madeInAll, o_p2_dots, o_p2_knows, o_p2_made, o_p2_order, o_p2_stands, o_p2_used) := hf
  refine lv_aload_n hx hb dX3_takeStep_0 rfl (lv_at hl 1 rfl) ?_
  refine mp_get X fl_X3_55 hK hP 2 rfl rfl dX3_takeStep_1 ?_
  refine lv_astore (lv' := [(4, .ref a_p1_rounds), (0, .ref a_), (1, .ref a_p1), (2, .ref a_p2), (3, .int x3)]) hx hb dX3_takeStep_4 hl (by decide) rfl (fun ls hl => ?_)
  refine lv_aload hx hb dX3_takeStep_6 (lv_at hl 0 rfl) ?_
  refine mp_get X fl_X3_81 hK hP 5 rfl rfl dX3_takeStep_8 ?_
  refine lv_iload_n hx hb dX3_takeStep_11 rfl (lv_at hl 4 rfl) ?_
  obtain ⟨h1, hf⟩ := gi_of hf
  refine va_iald hx hb hK hP 8 0 rfl rfl h1 dX3_takeStep_12 ?_
  refine lv_topi (fun y2 e2 => ?_)
  replace hf := lt_of e2 hf
  refine lv_istore (lv' := [(5, .int y2), (4, .ref a_p1_rounds), (0, .ref a_), (1, .ref a_p1), (2, .ref a_p2), (3, .int x3)]) hx hb dX3_takeStep_13 hl (by decide) rfl (fun ls hl => ?_)
  refine lv_iload_n hx hb dX3_takeStep_15 rfl (lv_at hl 5 rfl) ?_
  refine lv_iconst (v := (nI 1)) hx hb dX3_takeStep_16 (by decide) ?_
  refine lv_iadd hx hb dX3_takeStep_17 ?_
  refine lv_topi (fun y3 e3 => ?_)
  replace hf := lt_of e3 hf
  refine lv_istore (lv' := [(6, .int y3), (5, .int y2), (4, .ref a_p1_rounds), (0, .ref a_), (1, .ref a_p1), (2, .ref a_p2), (3, .int x3)]) hx hb dX3_takeStep_18 hl (by decide) rfl (fun ls hl => ?_)
  refine lv_iconst (v := (nI 1)) hx hb dX3_takeStep_20 (by decide) ?_
  refine lv_istore (lv' := [(7, .int (nI 1)), (6, .int y3), (5, .int y2), (4, .ref a_p1_rounds), (0, .ref a_), (1, .ref a_p1), (2, .ref a_p2), (3, .int x3)]) hx hb dX3_takeStep_21 hl (by decide) rfl (fun ls hl => ?_)
  refine lv_aload hx hb dX3_takeStep_23 (lv_at hl 3 rfl) ?_
  refine mp_get X fl_X3_67 hK hP 5 rfl rfl dX3_takeStep_25 ?_
  refine lv_iload_n hx hb dX3_takeStep_28 rfl (lv_at hl 7 rfl) ?_
  obtain ⟨h4, hf⟩ := gi_of hf
  refine va_iald hx hb hK hP 6 0 rfl rfl h4 dX3_takeStep_29 ?_
  by_cases h5 : (v_p1_rounds_code (x3).toNatClampNeg) = (nI 8)
  · replace hf := if_t hf h5
    refine lv_tableIn (off := 99) (tgt := 129) hx hb dX3_takeStep_30 (by rw [h5]; decide) (by rw [h5]; decide) (by rw [h5]; decide) (by decide) ?_
    refine lv_aload_n hx hb dX3_takeStep_129 rfl (lv_at hl 5 rfl) ?_
    refine lv_aload_n hx hb dX3_takeStep_130 rfl (lv_at hl 6 rfl) ?_
    refine lv_iload_n hx hb dX3_takeStep_131 rfl (lv_at hl 7 rfl) ?_
    obtain ⟨r6, c7, hf⟩ := bd_of hf
    have hPc := hP.sub (ws' := (k_X3_holds T a_p1 a_p1_cellNames a_p1_secretNames a_p1_pageNames a_p1_speed a_p1_letters a_p1_room a_p1_now a_p1_rounds a_p1_rounds_code a_p1_rounds_one a_p1_rounds_other a_p1_rounds_mate a_p2 a_p2_order a_p2_knows a_p2_made a_p2_sixteenths a_p2_dots a_p2_used a_p2_stands v_p1_cells v_p1_secrets v_p1_pages v_p1_blind v_p1_rubs v_p1_room v_p1_rounds_present v_p1_rounds_steps v_p1_rounds_size v_p1_rounds_code v_p1_rounds_one v_p1_rounds_other v_p2_inOrder v_p2_place v_p2_ill v_p2_shut v_p2_turns v_p2_madeInAll v_p2_knows v_p2_used)) [2, 4, 5, 6, 8, 9, 11, 13, 18] rfl
    have hDc := (mp_D_of (w1 := (k_X3_takeStep T a_ a_loopsLeft a_probe a_p1 a_p1_cellNames a_p1_secretNames a_p1_pageNames a_p1_speed a_p1_letters a_p1_room a_p1_now a_p1_rounds a_p1_rounds_code a_p1_rounds_one a_p1_rounds_other a_p1_rounds_mate a_p2 a_p2_order a_p2_knows a_p2_made a_p2_sixteenths a_p2_dots a_p2_used a_p2_stands v_steps v_missed v_turns v_made v_found v_left v_seed v_loopsLeft v_p1_cells v_p1_secrets v_p1_pages v_p1_blind v_p1_rubs v_p1_letters v_p1_room v_p1_rounds_present v_p1_rounds_steps v_p1_rounds_size v_p1_rounds_code v_p1_rounds_mate v_p1_rounds_one v_p1_rounds_other v_p1_speed v_p2_inOrder v_p2_place v_p2_ill v_p2_shut v_p2_turns v_p2_madeInAll v_p2_dots v_p2_knows v_p2_made v_p2_order v_p2_sixteenths v_p2_stands v_p2_used)) hD rfl).sub (ws' := (k_X3_holds T a_p1 a_p1_cellNames a_p1_secretNames a_p1_pageNames a_p1_speed a_p1_letters a_p1_room a_p1_now a_p1_rounds a_p1_rounds_code a_p1_rounds_one a_p1_rounds_other a_p1_rounds_mate a_p2 a_p2_order a_p2_knows a_p2_made a_p2_sixteenths a_p2_dots a_p2_used a_p2_stands v_p1_cells v_p1_secrets v_p1_pages v_p1_blind v_p1_rubs v_p1_room v_p1_rounds_present v_p1_rounds_steps v_p1_rounds_size v_p1_rounds_code v_p1_rounds_one v_p1_rounds_other v_p2_inOrder v_p2_place v_p2_ill v_p2_shut v_p2_turns v_p2_madeInAll v_p2_knows v_p2_used)) [2, 4, 5, 6, 8, 9, 11, 13, 18] rfl rfl
    refine mp_calli (isC := [2, 4, 5, 6, 8, 9, 11, 13, 18]) (wc := (k_X3_holds T a_p1 a_p1_cellNames a_p1_secretNames a_p1_pageNames a_p1_speed a_p1_letters a_p1_room a_p1_now a_p1_rounds a_p1_rounds_code a_p1_rounds_one a_p1_rounds_other a_p1_rounds_mate a_p2 a_p2_order a_p2_knows a_p2_made a_p2_sixteenths a_p2_dots a_p2_used a_p2_stands v_p1_cells v_p1_secrets v_p1_pages v_p1_blind v_p1_rubs v_p1_room v_p1_rounds_present v_p1_rounds_steps v_p1_rounds_size v_p1_rounds_code v_p1_rounds_one v_p1_rounds_other v_p2_inOrder v_p2_place v_p2_ill v_p2_shut v_p2_turns v_p2_madeInAll v_p2_knows v_p2_used)) (w1 := (k_X3_holds T a_p1 a_p1_cellNames a_p1_secretNames a_p1_pageNames a_p1_speed a_p1_letters a_p1_room a_p1_now a_p1_rounds a_p1_rounds_code a_p1_rounds_one a_p1_rounds_other a_p1_rounds_mate a_p2 a_p2_order a_p2_knows a_p2_made a_p2_sixteenths a_p2_dots a_p2_used a_p2_stands v_p1_cells v_p1_secrets v_p1_pages v_p1_blind v_p1_rubs v_p1_room v_p1_rounds_present v_p1_rounds_steps v_p1_rounds_size v_p1_rounds_code v_p1_rounds_one v_p1_rounds_other v_p2_inOrder v_p2_place v_p2_ill v_p2_shut v_p2_turns v_p2_madeInAll v_p2_knows v_p2_used)) hP (mp_D_of hD rfl) hS hA rfl rfl (mp_runS (As := [.ref a_p1, .ref a_p2, .int x3]) (rest := []) X me_X3_holds lk_X3_84 (c_X3_holds l D T fu a_p1 a_p1_cellNames a_p1_secretNames a_p1_pageNames a_p1_speed a_p1_letters a_p1_room a_p1_now a_p1_rounds a_p1_rounds_code a_p1_rounds_one a_p1_rounds_other a_p1_rounds_mate a_p2 a_p2_order a_p2_knows a_p2_made a_p2_sixteenths a_p2_dots a_p2_used a_p2_stands x3 v_p1_secrets v_p1_pages v_p1_rubs v_p1_rounds_present v_p1_rounds_steps v_p1_rounds_size v_p2_inOrder v_p2_place v_p2_ill v_p2_shut v_p2_turns v_p2_madeInAll v_p1_cells v_p1_blind v_p1_room v_p1_rounds_code v_p1_rounds_one v_p1_rounds_other v_p2_knows v_p2_used r6 c7) rfl rfl ⟨(Nat.le_of_ble_eq_true rfl), (Nat.le_of_ble_eq_true rfl)⟩ hK hPc hDc rfl hl.1 rfl (Nat.le_of_ble_eq_true rfl) dX3_takeStep_132 ⟨Nat.zero_le _, Nat.zero_le _⟩) (fun H locs hP _ hS => ?_)
    replace hP : va_P D mp_cl (k_X3_takeStep T a_ a_loopsLeft a_probe a_p1 a_p1_cellNames a_p1_secretNames a_p1_pageNames a_p1_speed a_p1_letters a_p1_room a_p1_now a_p1_rounds a_p1_rounds_code a_p1_rounds_one a_p1_rounds_other a_p1_rounds_mate a_p2 a_p2_order a_p2_knows a_p2_made a_p2_sixteenths a_p2_dots a_p2_used a_p2_stands v_steps v_missed v_turns v_made v_found v_left v_seed v_loopsLeft v_p1_cells v_p1_secrets v_p1_pages v_p1_blind v_p1_rubs v_p1_letters v_p1_room v_p1_rounds_present v_p1_rounds_steps v_p1_rounds_size v_p1_rounds_code v_p1_rounds_mate v_p1_rounds_one v_p1_rounds_other v_p1_speed v_p2_inOrder v_p2_place v_p2_ill v_p2_shut v_p2_turns v_p2_madeInAll v_p2_dots v_p2_knows v_p2_made v_p2_order v_p2_sixteenths v_p2_stands v_p2_used) H := hP
    refine lv_if_eq (tgt := 144) hx hb dX3_takeStep_135 (by decide) (fun h8 => ?_) (fun h8 => ?_)
    · replace hf := if_t hf h8
      refine lv_aload hx hb dX3_takeStep_144 (lv_at hl 3 rfl) ?_
      refine mp_get X fl_X3_78 hK hP 5 rfl rfl dX3_takeStep_146 ?_
      refine lv_iload_n hx hb dX3_takeStep_149 rfl (lv_at hl 7 rfl) ?_
      obtain ⟨h9, hf⟩ := gi_of hf
      refine va_iald hx hb hK hP 7 0 rfl rfl h9 dX3_takeStep_150 ?_
      refine lv_iconst (v := (nI 1)) hx hb dX3_takeStep_151 (by decide) ?_
      refine lv_iadd hx hb dX3_takeStep_152 ?_
      exact w_X3_takeStep_153 X hK hA  fu a_ a_loopsLeft a_probe a_p1 a_p1_cellNames a_p1_secretNames a_p1_pageNames a_p1_speed a_p1_letters a_p1_room a_p1_now a_p1_rounds a_p1_rounds_code a_p1_rounds_one a_p1_rounds_other a_p1_rounds_mate a_p2 a_p2_order a_p2_knows a_p2_made a_p2_sixteenths a_p2_dots a_p2_used a_p2_stands v_steps v_turns v_made v_left v_p1_rounds_present v_p1_rounds_steps v_p1_cells v_p1_secrets v_p1_pages v_p1_blind v_p1_rubs v_p1_letters v_p1_room v_p1_rounds_size v_p1_rounds_code v_p1_rounds_mate v_p1_rounds_one v_p1_rounds_other v_p1_speed v_p2_inOrder v_p2_sixteenths r_ o_missed o_found o_seed o_loopsLeft o_p2_place o_p2_ill o_p2_shut o_p2_turns o_p2_madeInAll o_p2_dots o_p2_knows o_p2_made o_p2_order o_p2_stands o_p2_used   (nI 1) ((v_p1_rounds_mate (x3).toNatClampNeg) + (nI 1)) v_missed v_found v_seed v_loopsLeft v_p2_place v_p2_ill v_p2_shut v_p2_turns v_p2_madeInAll v_p2_dots v_p2_knows v_p2_made v_p2_order v_p2_stands v_p2_used hf _ _ _ hP (mp_D_of hD rfl) hS (lv_sub hl [4, 0] rfl)
    · replace hf := if_f hf h8
      refine lv_iload_n hx hb dX3_takeStep_138 rfl (lv_at hl 7 rfl) ?_
      refine lv_iconst (v := (nI 1)) hx hb dX3_takeStep_139 (by decide) ?_
      refine lv_iadd hx hb dX3_takeStep_140 ?_
      refine lv_goto (tgt := 153) hx hb dX3_takeStep_141 (by decide) ?_
      exact w_X3_takeStep_153 X hK hA  fu a_ a_loopsLeft a_probe a_p1 a_p1_cellNames a_p1_secretNames a_p1_pageNames a_p1_speed a_p1_letters a_p1_room a_p1_now a_p1_rounds a_p1_rounds_code a_p1_rounds_one a_p1_rounds_other a_p1_rounds_mate a_p2 a_p2_order a_p2_knows a_p2_made a_p2_sixteenths a_p2_dots a_p2_used a_p2_stands v_steps v_turns v_made v_left v_p1_rounds_present v_p1_rounds_steps v_p1_cells v_p1_secrets v_p1_pages v_p1_blind v_p1_rubs v_p1_letters v_p1_room v_p1_rounds_size v_p1_rounds_code v_p1_rounds_mate v_p1_rounds_one v_p1_rounds_other v_p1_speed v_p2_inOrder v_p2_sixteenths r_ o_missed o_found o_seed o_loopsLeft o_p2_place o_p2_ill o_p2_shut o_p2_turns o_p2_madeInAll o_p2_dots o_p2_knows o_p2_made o_p2_order o_p2_stands o_p2_used   (nI 1) (x3 + (nI 1)) v_missed v_found v_seed v_loopsLeft v_p2_place v_p2_ill v_p2_shut v_p2_turns v_p2_madeInAll v_p2_dots v_p2_knows v_p2_made v_p2_order v_p2_stands v_p2_used hf _ _ _ hP (mp_D_of hD rfl) hS (lv_sub hl [4, 0] rfl)
  replace hf := if_f hf h5
  by_cases h10 : (v_p1_rounds_code (x3).toNatClampNeg) = (nI 9)
  · replace hf := if_t hf h10
    refine lv_tableIn (off := 236) (tgt := 266) hx hb dX3_takeStep_30 (by rw [h10]; decide) (by rw [h10]; decide) (by rw [h10]; decide) (by decide) ?_
    refine lv_aload_n hx hb dX3_takeStep_266 rfl (lv_at hl 4 rfl) ?_
    refine lv_aload_n hx hb dX3_takeStep_267 rfl (lv_at hl 5 rfl) ?_
    refine lv_aload_n hx hb dX3_takeStep_268 rfl (lv_at hl 6 rfl) ?_
    obtain ⟨⟨r11, u12, u13, u14, u15, u16⟩, c17, hf⟩ := bd_of hf
    dsimp only at hf
    have hPc := hP.sub (ws' := (k_X3_searches T a_ a_loopsLeft a_probe a_p1 a_p1_cellNames a_p1_secretNames a_p1_pageNames a_p1_speed a_p1_letters a_p1_room a_p1_now a_p1_rounds a_p2 a_p2_order a_p2_knows a_p2_made a_p2_sixteenths a_p2_dots a_p2_used a_p2_stands v_steps v_missed v_turns v_made v_found v_left v_seed v_p1_cells v_p1_secrets v_p1_pages v_p1_blind v_p1_rubs v_p2_inOrder v_p2_place v_p2_ill v_p2_shut v_p2_turns v_p2_madeInAll v_p2_dots v_p2_sixteenths v_p2_stands v_p2_used)) [0, 2, 11, 12, 16, 17, 18] rfl
    have hDc := (mp_D_of (w1 := (k_X3_takeStep T a_ a_loopsLeft a_probe a_p1 a_p1_cellNames a_p1_secretNames a_p1_pageNames a_p1_speed a_p1_letters a_p1_room a_p1_now a_p1_rounds a_p1_rounds_code a_p1_rounds_one a_p1_rounds_other a_p1_rounds_mate a_p2 a_p2_order a_p2_knows a_p2_made a_p2_sixteenths a_p2_dots a_p2_used a_p2_stands v_steps v_missed v_turns v_made v_found v_left v_seed v_loopsLeft v_p1_cells v_p1_secrets v_p1_pages v_p1_blind v_p1_rubs v_p1_letters v_p1_room v_p1_rounds_present v_p1_rounds_steps v_p1_rounds_size v_p1_rounds_code v_p1_rounds_mate v_p1_rounds_one v_p1_rounds_other v_p1_speed v_p2_inOrder v_p2_place v_p2_ill v_p2_shut v_p2_turns v_p2_madeInAll v_p2_dots v_p2_knows v_p2_made v_p2_order v_p2_sixteenths v_p2_stands v_p2_used)) hD rfl).sub (ws' := (k_X3_searches T a_ a_loopsLeft a_probe a_p1 a_p1_cellNames a_p1_secretNames a_p1_pageNames a_p1_speed a_p1_letters a_p1_room a_p1_now a_p1_rounds a_p2 a_p2_order a_p2_knows a_p2_made a_p2_sixteenths a_p2_dots a_p2_used a_p2_stands v_steps v_missed v_turns v_made v_found v_left v_seed v_p1_cells v_p1_secrets v_p1_pages v_p1_blind v_p1_rubs v_p2_inOrder v_p2_place v_p2_ill v_p2_shut v_p2_turns v_p2_madeInAll v_p2_dots v_p2_sixteenths v_p2_stands v_p2_used)) [0, 2, 11, 12, 16, 17, 18] rfl rfl
    refine mp_calli (isC := [0, 2, 11, 12, 16, 17, 18]) (wc := (k_X3_searches T a_ a_loopsLeft a_probe a_p1 a_p1_cellNames a_p1_secretNames a_p1_pageNames a_p1_speed a_p1_letters a_p1_room a_p1_now a_p1_rounds a_p2 a_p2_order a_p2_knows a_p2_made a_p2_sixteenths a_p2_dots a_p2_used a_p2_stands v_steps v_missed v_turns v_made v_found v_left v_seed v_p1_cells v_p1_secrets v_p1_pages v_p1_blind v_p1_rubs v_p2_inOrder v_p2_place v_p2_ill v_p2_shut v_p2_turns v_p2_madeInAll v_p2_dots v_p2_sixteenths v_p2_stands v_p2_used)) (w1 := (k_X3_searches T a_ a_loopsLeft a_probe a_p1 a_p1_cellNames a_p1_secretNames a_p1_pageNames a_p1_speed a_p1_letters a_p1_room a_p1_now a_p1_rounds a_p2 a_p2_order a_p2_knows a_p2_made a_p2_sixteenths a_p2_dots a_p2_used a_p2_stands v_steps v_missed v_turns v_made u12 v_left u13 v_p1_cells v_p1_secrets v_p1_pages v_p1_blind v_p1_rubs v_p2_inOrder v_p2_place v_p2_ill v_p2_shut v_p2_turns v_p2_madeInAll u14 v_p2_sixteenths u15 u16)) hP (mp_D_of hD rfl) hS hA rfl rfl (mp_runV (As := [.ref a_p1, .ref a_p2]) (rest := []) X me_X3_searches lk_X3_109 (c_X3_searches l D T fu a_ a_loopsLeft a_probe a_p1 a_p1_cellNames a_p1_secretNames a_p1_pageNames a_p1_speed a_p1_letters a_p1_room a_p1_now a_p1_rounds a_p2 a_p2_order a_p2_knows a_p2_made a_p2_sixteenths a_p2_dots a_p2_used a_p2_stands v_steps v_missed v_turns v_made v_left v_p1_cells v_p1_secrets v_p1_blind v_p1_rubs v_p2_inOrder v_p2_place v_p2_ill v_p2_turns v_p2_madeInAll v_found v_seed v_p1_pages v_p2_shut v_p2_dots v_p2_sixteenths v_p2_stands v_p2_used r11 u12 u13 u14 u15 u16 c17) rfl rfl ⟨(Nat.le_of_ble_eq_true rfl), (Nat.le_of_ble_eq_true rfl)⟩ hK hPc hDc rfl rfl rfl rfl hl.1 rfl (Nat.le_of_ble_eq_true rfl) dX3_takeStep_269 ⟨Nat.zero_le _, Nat.zero_le _⟩) (fun H locs hP _ hS => ?_)
    replace hP : va_P D mp_cl (k_X3_takeStep T a_ a_loopsLeft a_probe a_p1 a_p1_cellNames a_p1_secretNames a_p1_pageNames a_p1_speed a_p1_letters a_p1_room a_p1_now a_p1_rounds a_p1_rounds_code a_p1_rounds_one a_p1_rounds_other a_p1_rounds_mate a_p2 a_p2_order a_p2_knows a_p2_made a_p2_sixteenths a_p2_dots a_p2_used a_p2_stands v_steps v_missed v_turns v_made u12 v_left u13 v_loopsLeft v_p1_cells v_p1_secrets v_p1_pages v_p1_blind v_p1_rubs v_p1_letters v_p1_room v_p1_rounds_present v_p1_rounds_steps v_p1_rounds_size v_p1_rounds_code v_p1_rounds_mate v_p1_rounds_one v_p1_rounds_other v_p1_speed v_p2_inOrder v_p2_place v_p2_ill v_p2_shut v_p2_turns v_p2_madeInAll u14 v_p2_knows v_p2_made v_p2_order v_p2_sixteenths u15 u16) H := hP
    refine lv_istore (lv' := [(7, .int r11), (6, .int y3), (5, .int y2), (4, .ref a_p1_rounds), (0, .ref a_), (1, .ref a_p1), (2, .ref a_p2), (3, .int x3)]) hx hb dX3_takeStep_272 hl (by decide) rfl (fun ls hl => ?_)
    exact w_X3_takeStep_274 X hK hA  fu a_ a_loopsLeft a_probe a_p1 a_p1_cellNames a_p1_secretNames a_p1_pageNames a_p1_speed a_p1_letters a_p1_room a_p1_now a_p1_rounds a_p1_rounds_code a_p1_rounds_one a_p1_rounds_other a_p1_rounds_mate a_p2 a_p2_order a_p2_knows a_p2_made a_p2_sixteenths a_p2_dots a_p2_used a_p2_stands v_steps v_turns v_made v_left v_p1_rounds_present v_p1_rounds_steps v_p1_cells v_p1_secrets v_p1_pages v_p1_blind v_p1_rubs v_p1_letters v_p1_room v_p1_rounds_size v_p1_rounds_code v_p1_rounds_mate v_p1_rounds_one v_p1_rounds_other v_p1_speed v_p2_inOrder v_p2_sixteenths r_ o_missed o_found o_seed o_loopsLeft o_p2_place o_p2_ill o_p2_shut o_p2_turns o_p2_madeInAll o_p2_dots o_p2_knows o_p2_made o_p2_order o_p2_stands o_p2_used   y3 r11 v_missed u12 u13 v_loopsLeft v_p2_place v_p2_ill v_p2_shut v_p2_turns v_p2_madeInAll u14 v_p2_knows v_p2_made v_p2_order u15 u16 hf _ _ _ hP (mp_D_of hD rfl) hS (lv_sub hl [4, 1, 0] rfl)
  replace hf := if_f hf h10
  by_cases h18 : (v_p1_rounds_code (x3).toNatClampNeg) = (nI 10)
  · replace hf := if_t hf h18
    refine lv_tableIn (off := 236) (tgt := 266) hx hb dX3_takeStep_30 (by rw [h18]; decide) (by rw [h18]; decide) (by rw [h18]; decide) (by decide) ?_
    refine lv_aload_n hx hb dX3_takeStep_266 rfl (lv_at hl 4 rfl) ?_
    refine lv_aload_n hx hb dX3_takeStep_267 rfl (lv_at hl 5 rfl) ?_
    refine lv_aload_n hx hb dX3_takeStep_268 rfl (lv_at hl 6 rfl) ?_
    obtain ⟨⟨r19, u20, u21, u22, u23, u24⟩, c25, hf⟩ := bd_of hf
    dsimp only at hf
    have hPc := hP.sub (ws' := (k_X3_searches T a_ a_loopsLeft a_probe a_p1 a_p1_cellNames a_p1_secretNames a_p1_pageNames a_p1_speed a_p1_letters a_p1_room a_p1_now a_p1_rounds a_p2 a_p2_order a_p2_knows a_p2_made a_p2_sixteenths a_p2_dots a_p2_used a_p2_stands v_steps v_missed v_turns v_made v_found v_left v_seed v_p1_cells v_p1_secrets v_p1_pages v_p1_blind v_p1_rubs v_p2_inOrder v_p2_place v_p2_ill v_p2_shut v_p2_turns v_p2_madeInAll v_p2_dots v_p2_sixteenths v_p2_stands v_p2_used)) [0, 2, 11, 12, 16, 17, 18] rfl
    have hDc := (mp_D_of (w1 := (k_X3_takeStep T a_ a_loopsLeft a_probe a_p1 a_p1_cellNames a_p1_secretNames a_p1_pageNames a_p1_speed a_p1_letters a_p1_room a_p1_now a_p1_rounds a_p1_rounds_code a_p1_rounds_one a_p1_rounds_other a_p1_rounds_mate a_p2 a_p2_order a_p2_knows a_p2_made a_p2_sixteenths a_p2_dots a_p2_used a_p2_stands v_steps v_missed v_turns v_made v_found v_left v_seed v_loopsLeft v_p1_cells v_p1_secrets v_p1_pages v_p1_blind v_p1_rubs v_p1_letters v_p1_room v_p1_rounds_present v_p1_rounds_steps v_p1_rounds_size v_p1_rounds_code v_p1_rounds_mate v_p1_rounds_one v_p1_rounds_other v_p1_speed v_p2_inOrder v_p2_place v_p2_ill v_p2_shut v_p2_turns v_p2_madeInAll v_p2_dots v_p2_knows v_p2_made v_p2_order v_p2_sixteenths v_p2_stands v_p2_used)) hD rfl).sub (ws' := (k_X3_searches T a_ a_loopsLeft a_probe a_p1 a_p1_cellNames a_p1_secretNames a_p1_pageNames a_p1_speed a_p1_letters a_p1_room a_p1_now a_p1_rounds a_p2 a_p2_order a_p2_knows a_p2_made a_p2_sixteenths a_p2_dots a_p2_used a_p2_stands v_steps v_missed v_turns v_made v_found v_left v_seed v_p1_cells v_p1_secrets v_p1_pages v_p1_blind v_p1_rubs v_p2_inOrder v_p2_place v_p2_ill v_p2_shut v_p2_turns v_p2_madeInAll v_p2_dots v_p2_sixteenths v_p2_stands v_p2_used)) [0, 2, 11, 12, 16, 17, 18] rfl rfl
    refine mp_calli (isC := [0, 2, 11, 12, 16, 17, 18]) (wc := (k_X3_searches T a_ a_loopsLeft a_probe a_p1 a_p1_cellNames a_p1_secretNames a_p1_pageNames a_p1_speed a_p1_letters a_p1_room a_p1_now a_p1_rounds a_p2 a_p2_order a_p2_knows a_p2_made a_p2_sixteenths a_p2_dots a_p2_used a_p2_stands v_steps v_missed v_turns v_made v_found v_left v_seed v_p1_cells v_p1_secrets v_p1_pages v_p1_blind v_p1_rubs v_p2_inOrder v_p2_place v_p2_ill v_p2_shut v_p2_turns v_p2_madeInAll v_p2_dots v_p2_sixteenths v_p2_stands v_p2_used)) (w1 := (k_X3_searches T a_ a_loopsLeft a_probe a_p1 a_p1_cellNames a_p1_secretNames a_p1_pageNames a_p1_speed a_p1_letters a_p1_room a_p1_now a_p1_rounds a_p2 a_p2_order a_p2_knows a_p2_made a_p2_sixteenths a_p2_dots a_p2_used a_p2_stands v_steps v_missed v_turns v_made u20 v_left u21 v_p1_cells v_p1_secrets v_p1_pages v_p1_blind v_p1_rubs v_p2_inOrder v_p2_place v_p2_ill v_p2_shut v_p2_turns v_p2_madeInAll u22 v_p2_sixteenths u23 u24)) hP (mp_D_of hD rfl) hS hA rfl rfl (mp_runV (As := [.ref a_p1, .ref a_p2]) (rest := []) X me_X3_searches lk_X3_109 (c_X3_searches l D T fu a_ a_loopsLeft a_probe a_p1 a_p1_cellNames a_p1_secretNames a_p1_pageNames a_p1_speed a_p1_letters a_p1_room a_p1_now a_p1_rounds a_p2 a_p2_order a_p2_knows a_p2_made a_p2_sixteenths a_p2_dots a_p2_used a_p2_stands v_steps v_missed v_turns v_made v_left v_p1_cells v_p1_secrets v_p1_blind v_p1_rubs v_p2_inOrder v_p2_place v_p2_ill v_p2_turns v_p2_madeInAll v_found v_seed v_p1_pages v_p2_shut v_p2_dots v_p2_sixteenths v_p2_stands v_p2_used r19 u20 u21 u22 u23 u24 c25) rfl rfl ⟨(Nat.le_of_ble_eq_true rfl), (Nat.le_of_ble_eq_true rfl)⟩ hK hPc hDc rfl rfl rfl rfl hl.1 rfl (Nat.le_of_ble_eq_true rfl) dX3_takeStep_269 ⟨Nat.zero_le _, Nat.zero_le _⟩) (fun H locs hP _ hS => ?_)
    replace hP : va_P D mp_cl (k_X3_takeStep T a_ a_loopsLeft a_probe a_p1 a_p1_cellNames a_p1_secretNames a_p1_pageNames a_p1_speed a_p1_letters a_p1_room a_p1_now a_p1_rounds a_p1_rounds_code a_p1_rounds_one a_p1_rounds_other a_p1_rounds_mate a_p2 a_p2_order a_p2_knows a_p2_made a_p2_sixteenths a_p2_dots a_p2_used a_p2_stands v_steps v_missed v_turns v_made u20 v_left u21 v_loopsLeft v_p1_cells v_p1_secrets v_p1_pages v_p1_blind v_p1_rubs v_p1_letters v_p1_room v_p1_rounds_present v_p1_rounds_steps v_p1_rounds_size v_p1_rounds_code v_p1_rounds_mate v_p1_rounds_one v_p1_rounds_other v_p1_speed v_p2_inOrder v_p2_place v_p2_ill v_p2_shut v_p2_turns v_p2_madeInAll u22 v_p2_knows v_p2_made v_p2_order v_p2_sixteenths u23 u24) H := hP
    refine lv_istore (lv' := [(7, .int r19), (6, .int y3), (5, .int y2), (4, .ref a_p1_rounds), (0, .ref a_), (1, .ref a_p1), (2, .ref a_p2), (3, .int x3)]) hx hb dX3_takeStep_272 hl (by decide) rfl (fun ls hl => ?_)
    exact w_X3_takeStep_274 X hK hA  fu a_ a_loopsLeft a_probe a_p1 a_p1_cellNames a_p1_secretNames a_p1_pageNames a_p1_speed a_p1_letters a_p1_room a_p1_now a_p1_rounds a_p1_rounds_code a_p1_rounds_one a_p1_rounds_other a_p1_rounds_mate a_p2 a_p2_order a_p2_knows a_p2_made a_p2_sixteenths a_p2_dots a_p2_used a_p2_stands v_steps v_turns v_made v_left v_p1_rounds_present v_p1_rounds_steps v_p1_cells v_p1_secrets v_p1_pages v_p1_blind v_p1_rubs v_p1_letters v_p1_room v_p1_rounds_size v_p1_rounds_code v_p1_rounds_mate v_p1_rounds_one v_p1_rounds_other v_p1_speed v_p2_inOrder v_p2_sixteenths r_ o_missed o_found o_seed o_loopsLeft o_p2_place o_p2_ill o_p2_shut o_p2_turns o_p2_madeInAll o_p2_dots o_p2_knows o_p2_made o_p2_order o_p2_stands o_p2_used   y3 r19 v_missed u20 u21 v_loopsLeft v_p2_place v_p2_ill v_p2_shut v_p2_turns v_p2_madeInAll u22 v_p2_knows v_p2_made v_p2_order u23 u24 hf _ _ _ hP (mp_D_of hD rfl) hS (lv_sub hl [4, 1, 0] rfl)
  replace hf := if_f hf h18
  by_cases h26 : (v_p1_rounds_code (x3).toNatClampNeg) = (nI 11)
  · replace hf := if_t hf h26
    refine lv_tableIn (off := 236) (tgt := 266) hx hb dX3_takeStep_30 (by rw [h26]; decide) (by rw [h26]; decide) (by rw [h26]; decide) (by decide) ?_
    refine lv_aload_n hx hb dX3_takeStep_266 rfl (lv_at hl 4 rfl) ?_
    refine lv_aload_n hx hb dX3_takeStep_267 rfl (lv_at hl 5 rfl) ?_
    refine lv_aload_n hx hb dX3_takeStep_268 rfl (lv_at hl 6 rfl) ?_
    obtain ⟨⟨r27, u28, u29, u30, u31, u32⟩, c33, hf⟩ := bd_of hf
    dsimp only at hf
    have hPc := hP.sub (ws' := (k_X3_searches T a_ a_loopsLeft a_probe a_p1 a_p1_cellNames a_p1_secretNames a_p1_pageNames a_p1_speed a_p1_letters a_p1_room a_p1_now a_p1_rounds a_p2 a_p2_order a_p2_knows a_p2_made a_p2_sixteenths a_p2_dots a_p2_used a_p2_stands v_steps v_missed v_turns v_made v_found v_left v_seed v_p1_cells v_p1_secrets v_p1_pages v_p1_blind v_p1_rubs v_p2_inOrder v_p2_place v_p2_ill v_p2_shut v_p2_turns v_p2_madeInAll v_p2_dots v_p2_sixteenths v_p2_stands v_p2_used)) [0, 2, 11, 12, 16, 17, 18] rfl
    have hDc := (mp_D_of (w1 := (k_X3_takeStep T a_ a_loopsLeft a_probe a_p1 a_p1_cellNames a_p1_secretNames a_p1_pageNames a_p1_speed a_p1_letters a_p1_room a_p1_now a_p1_rounds a_p1_rounds_code a_p1_rounds_one a_p1_rounds_other a_p1_rounds_mate a_p2 a_p2_order a_p2_knows a_p2_made a_p2_sixteenths a_p2_dots a_p2_used a_p2_stands v_steps v_missed v_turns v_made v_found v_left v_seed v_loopsLeft v_p1_cells v_p1_secrets v_p1_pages v_p1_blind v_p1_rubs v_p1_letters v_p1_room v_p1_rounds_present v_p1_rounds_steps v_p1_rounds_size v_p1_rounds_code v_p1_rounds_mate v_p1_rounds_one v_p1_rounds_other v_p1_speed v_p2_inOrder v_p2_place v_p2_ill v_p2_shut v_p2_turns v_p2_madeInAll v_p2_dots v_p2_knows v_p2_made v_p2_order v_p2_sixteenths v_p2_stands v_p2_used)) hD rfl).sub (ws' := (k_X3_searches T a_ a_loopsLeft a_probe a_p1 a_p1_cellNames a_p1_secretNames a_p1_pageNames a_p1_speed a_p1_letters a_p1_room a_p1_now a_p1_rounds a_p2 a_p2_order a_p2_knows a_p2_made a_p2_sixteenths a_p2_dots a_p2_used a_p2_stands v_steps v_missed v_turns v_made v_found v_left v_seed v_p1_cells v_p1_secrets v_p1_pages v_p1_blind v_p1_rubs v_p2_inOrder v_p2_place v_p2_ill v_p2_shut v_p2_turns v_p2_madeInAll v_p2_dots v_p2_sixteenths v_p2_stands v_p2_used)) [0, 2, 11, 12, 16, 17, 18] rfl rfl
    refine mp_calli (isC := [0, 2, 11, 12, 16, 17, 18]) (wc := (k_X3_searches T a_ a_loopsLeft a_probe a_p1 a_p1_cellNames a_p1_secretNames a_p1_pageNames a_p1_speed a_p1_letters a_p1_room a_p1_now a_p1_rounds a_p2 a_p2_order a_p2_knows a_p2_made a_p2_sixteenths a_p2_dots a_p2_used a_p2_stands v_steps v_missed v_turns v_made v_found v_left v_seed v_p1_cells v_p1_secrets v_p1_pages v_p1_blind v_p1_rubs v_p2_inOrder v_p2_place v_p2_ill v_p2_shut v_p2_turns v_p2_madeInAll v_p2_dots v_p2_sixteenths v_p2_stands v_p2_used)) (w1 := (k_X3_searches T a_ a_loopsLeft a_probe a_p1 a_p1_cellNames a_p1_secretNames a_p1_pageNames a_p1_speed a_p1_letters a_p1_room a_p1_now a_p1_rounds a_p2 a_p2_order a_p2_knows a_p2_made a_p2_sixteenths a_p2_dots a_p2_used a_p2_stands v_steps v_missed v_turns v_made u28 v_left u29 v_p1_cells v_p1_secrets v_p1_pages v_p1_blind v_p1_rubs v_p2_inOrder v_p2_place v_p2_ill v_p2_shut v_p2_turns v_p2_madeInAll u30 v_p2_sixteenths u31 u32)) hP (mp_D_of hD rfl) hS hA rfl rfl (mp_runV (As := [.ref a_p1, .ref a_p2]) (rest := []) X me_X3_searches lk_X3_109 (c_X3_searches l D T fu a_ a_loopsLeft a_probe a_p1 a_p1_cellNames a_p1_secretNames a_p1_pageNames a_p1_speed a_p1_letters a_p1_room a_p1_now a_p1_rounds a_p2 a_p2_order a_p2_knows a_p2_made a_p2_sixteenths a_p2_dots a_p2_used a_p2_stands v_steps v_missed v_turns v_made v_left v_p1_cells v_p1_secrets v_p1_blind v_p1_rubs v_p2_inOrder v_p2_place v_p2_ill v_p2_turns v_p2_madeInAll v_found v_seed v_p1_pages v_p2_shut v_p2_dots v_p2_sixteenths v_p2_stands v_p2_used r27 u28 u29 u30 u31 u32 c33) rfl rfl ⟨(Nat.le_of_ble_eq_true rfl), (Nat.le_of_ble_eq_true rfl)⟩ hK hPc hDc rfl rfl rfl rfl hl.1 rfl (Nat.le_of_ble_eq_true rfl) dX3_takeStep_269 ⟨Nat.zero_le _, Nat.zero_le _⟩) (fun H locs hP _ hS => ?_)
    replace hP : va_P D mp_cl (k_X3_takeStep T a_ a_loopsLeft a_probe a_p1 a_p1_cellNames a_p1_secretNames a_p1_pageNames a_p1_speed a_p1_letters a_p1_room a_p1_now a_p1_rounds a_p1_rounds_code a_p1_rounds_one a_p1_rounds_other a_p1_rounds_mate a_p2 a_p2_order a_p2_knows a_p2_made a_p2_sixteenths a_p2_dots a_p2_used a_p2_stands v_steps v_missed v_turns v_made u28 v_left u29 v_loopsLeft v_p1_cells v_p1_secrets v_p1_pages v_p1_blind v_p1_rubs v_p1_letters v_p1_room v_p1_rounds_present v_p1_rounds_steps v_p1_rounds_size v_p1_rounds_code v_p1_rounds_mate v_p1_rounds_one v_p1_rounds_other v_p1_speed v_p2_inOrder v_p2_place v_p2_ill v_p2_shut v_p2_turns v_p2_madeInAll u30 v_p2_knows v_p2_made v_p2_order v_p2_sixteenths u31 u32) H := hP
    refine lv_istore (lv' := [(7, .int r27), (6, .int y3), (5, .int y2), (4, .ref a_p1_rounds), (0, .ref a_), (1, .ref a_p1), (2, .ref a_p2), (3, .int x3)]) hx hb dX3_takeStep_272 hl (by decide) rfl (fun ls hl => ?_)
    exact w_X3_takeStep_274 X hK hA  fu a_ a_loopsLeft a_probe a_p1 a_p1_cellNames a_p1_secretNames a_p1_pageNames a_p1_speed a_p1_letters a_p1_room a_p1_now a_p1_rounds a_p1_rounds_code a_p1_rounds_one a_p1_rounds_other a_p1_rounds_mate a_p2 a_p2_order a_p2_knows a_p2_made a_p2_sixteenths a_p2_dots a_p2_used a_p2_stands v_steps v_turns v_made v_left v_p1_rounds_present v_p1_rounds_steps v_p1_cells v_p1_secrets v_p1_pages v_p1_blind v_p1_rubs v_p1_letters v_p1_room v_p1_rounds_size v_p1_rounds_code v_p1_rounds_mate v_p1_rounds_one v_p1_rounds_other v_p1_speed v_p2_inOrder v_p2_sixteenths r_ o_missed o_found o_seed o_loopsLeft o_p2_place o_p2_ill o_p2_shut o_p2_turns o_p2_madeInAll o_p2_dots o_p2_knows o_p2_made o_p2_order o_p2_stands o_p2_used   y3 r27 v_missed u28 u29 v_loopsLeft v_p2_place v_p2_ill v_p2_shut v_p2_turns v_p2_madeInAll u30 v_p2_knows v_p2_made v_p2_order u31 u32 hf _ _ _ hP (mp_D_of hD rfl) hS (lv_sub hl [4, 1, 0] rfl)
  replace hf := if_f hf h26
  by_cases h34 : (v_p1_rounds_code (x3).toNatClampNeg) = (nI 12)
  · replace hf := if_t hf h34
    refine lv_tableIn (off := 197) (tgt := 227) hx hb dX3_takeStep_30 (by rw [h34]; decide) (by rw [h34]; decide) (by rw [h34]; decide) (by decide) ?_
    refine lv_aload_n hx hb dX3_takeStep_227 rfl (lv_at hl 6 rfl) ?_
    refine mp_get X fl_X3_59 hK hP 11 rfl rfl dX3_takeStep_228 ?_
    refine lv_iload hx hb dX3_takeStep_231 (lv_at hl 2 rfl) ?_
    refine lv_iadd hx hb dX3_takeStep_233 ?_
    refine lv_sipush (v := (nI 9999)) hx hb dX3_takeStep_234 (by decide) ?_
    refine lv_icmp_gt (tgt := 244) hx hb dX3_takeStep_237 (by decide) (fun h35 => ?_) (fun h35 => ?_)
    · replace hf := if_t hf h35
      refine lv_iconst (v := (nI 0)) hx hb dX3_takeStep_244 (by decide) ?_
      exact w_X3_takeStep_245 X hK hA  fu a_ a_loopsLeft a_probe a_p1 a_p1_cellNames a_p1_secretNames a_p1_pageNames a_p1_speed a_p1_letters a_p1_room a_p1_now a_p1_rounds a_p1_rounds_code a_p1_rounds_one a_p1_rounds_other a_p1_rounds_mate a_p2 a_p2_order a_p2_knows a_p2_made a_p2_sixteenths a_p2_dots a_p2_used a_p2_stands v_steps v_turns v_made v_left v_p1_rounds_present v_p1_rounds_steps v_p1_cells v_p1_secrets v_p1_pages v_p1_blind v_p1_rubs v_p1_letters v_p1_room v_p1_rounds_size v_p1_rounds_code v_p1_rounds_mate v_p1_rounds_one v_p1_rounds_other v_p1_speed v_p2_inOrder v_p2_sixteenths r_ o_missed o_found o_seed o_loopsLeft o_p2_place o_p2_ill o_p2_shut o_p2_turns o_p2_madeInAll o_p2_dots o_p2_knows o_p2_made o_p2_order o_p2_stands o_p2_used   y2 y3 (nI 0) v_missed v_found v_seed v_loopsLeft v_p2_place v_p2_ill v_p2_shut v_p2_turns v_p2_madeInAll v_p2_dots v_p2_knows v_p2_made v_p2_order v_p2_stands v_p2_used hf _ _ _ hP (mp_D_of hD rfl) hS (lv_sub hl [4, 5, 6, 2, 1] rfl)
    · replace hf := if_f hf h35
      refine lv_iconst (v := (nI 1)) hx hb dX3_takeStep_240 (by decide) ?_
      refine lv_goto (tgt := 245) hx hb dX3_takeStep_241 (by decide) ?_
      exact w_X3_takeStep_245 X hK hA  fu a_ a_loopsLeft a_probe a_p1 a_p1_cellNames a_p1_secretNames a_p1_pageNames a_p1_speed a_p1_letters a_p1_room a_p1_now a_p1_rounds a_p1_rounds_code a_p1_rounds_one a_p1_rounds_other a_p1_rounds_mate a_p2 a_p2_order a_p2_knows a_p2_made a_p2_sixteenths a_p2_dots a_p2_used a_p2_stands v_steps v_turns v_made v_left v_p1_rounds_present v_p1_rounds_steps v_p1_cells v_p1_secrets v_p1_pages v_p1_blind v_p1_rubs v_p1_letters v_p1_room v_p1_rounds_size v_p1_rounds_code v_p1_rounds_mate v_p1_rounds_one v_p1_rounds_other v_p1_speed v_p2_inOrder v_p2_sixteenths r_ o_missed o_found o_seed o_loopsLeft o_p2_place o_p2_ill o_p2_shut o_p2_turns o_p2_madeInAll o_p2_dots o_p2_knows o_p2_made o_p2_order o_p2_stands o_p2_used   y2 y3 (nI 1) v_missed v_found v_seed v_loopsLeft v_p2_place v_p2_ill v_p2_shut v_p2_turns v_p2_madeInAll v_p2_dots v_p2_knows v_p2_made v_p2_order v_p2_stands v_p2_used hf _ _ _ hP (mp_D_of hD rfl) hS (lv_sub hl [4, 5, 6, 2, 1] rfl)
  replace hf := if_f hf h34
  by_cases h36 : (v_p1_rounds_code (x3).toNatClampNeg) = (nI 13)
  · replace hf := if_t hf h36
    refine lv_tableIn (off := 128) (tgt := 158) hx hb dX3_takeStep_30 (by rw [h36]; decide) (by rw [h36]; decide) (by rw [h36]; decide) (by decide) ?_
    refine lv_aload_n hx hb dX3_takeStep_158 rfl (lv_at hl 6 rfl) ?_
    refine lv_dup hx hb dX3_takeStep_159 rfl ?_
    refine mp_get X fl_X3_88 hK hP 11 rfl rfl dX3_takeStep_160 ?_
    refine lv_iconst (v := (nI 1)) hx hb dX3_takeStep_163 (by decide) ?_
    refine lv_iload hx hb dX3_takeStep_164 (lv_at hl 2 rfl) ?_
    refine lv_ishl hx hb dX3_takeStep_166 ?_
    refine lv_ixor hx hb dX3_takeStep_167 ?_
    refine lv_topi (fun y37 e37 => ?_)
    replace hf := lt_of e37 hf
    refine mp_putf X fl_X3_88 fp_X7 rfl hK hP (mp_D_of hD rfl) hS 11 rfl rfl rfl (Nat.le_of_ble_eq_true rfl) dX3_takeStep_168 (fun H locs hP _ hS => ?_)
    replace hP : va_P D mp_cl (k_X3_takeStep T a_ a_loopsLeft a_probe a_p1 a_p1_cellNames a_p1_secretNames a_p1_pageNames a_p1_speed a_p1_letters a_p1_room a_p1_now a_p1_rounds a_p1_rounds_code a_p1_rounds_one a_p1_rounds_other a_p1_rounds_mate a_p2 a_p2_order a_p2_knows a_p2_made a_p2_sixteenths a_p2_dots a_p2_used a_p2_stands v_steps v_missed v_turns v_made v_found v_left v_seed v_loopsLeft v_p1_cells v_p1_secrets v_p1_pages v_p1_blind v_p1_rubs v_p1_letters v_p1_room v_p1_rounds_present v_p1_rounds_steps v_p1_rounds_size v_p1_rounds_code v_p1_rounds_mate v_p1_rounds_one v_p1_rounds_other v_p1_speed v_p2_inOrder v_p2_place y37 v_p2_shut v_p2_turns v_p2_madeInAll v_p2_dots v_p2_knows v_p2_made v_p2_order v_p2_sixteenths v_p2_stands v_p2_used) H := hP
    refine lv_goto (tgt := 274) hx hb dX3_takeStep_171 (by decide) ?_
    exact w_X3_takeStep_274 X hK hA  fu a_ a_loopsLeft a_probe a_p1 a_p1_cellNames a_p1_secretNames a_p1_pageNames a_p1_speed a_p1_letters a_p1_room a_p1_now a_p1_rounds a_p1_rounds_code a_p1_rounds_one a_p1_rounds_other a_p1_rounds_mate a_p2 a_p2_order a_p2_knows a_p2_made a_p2_sixteenths a_p2_dots a_p2_used a_p2_stands v_steps v_turns v_made v_left v_p1_rounds_present v_p1_rounds_steps v_p1_cells v_p1_secrets v_p1_pages v_p1_blind v_p1_rubs v_p1_letters v_p1_room v_p1_rounds_size v_p1_rounds_code v_p1_rounds_mate v_p1_rounds_one v_p1_rounds_other v_p1_speed v_p2_inOrder v_p2_sixteenths r_ o_missed o_found o_seed o_loopsLeft o_p2_place o_p2_ill o_p2_shut o_p2_turns o_p2_madeInAll o_p2_dots o_p2_knows o_p2_made o_p2_order o_p2_stands o_p2_used   y3 (nI 1) v_missed v_found v_seed v_loopsLeft v_p2_place y37 v_p2_shut v_p2_turns v_p2_madeInAll v_p2_dots v_p2_knows v_p2_made v_p2_order v_p2_stands v_p2_used hf _ _ _ hP (mp_D_of hD rfl) hS (lv_sub hl [4, 1, 0] rfl)
  replace hf := if_f hf h36
  by_cases h38 : (v_p1_rounds_code (x3).toNatClampNeg) = (nI 14)
  · replace hf := if_t hf h38
    refine lv_tableIn (off := 160) (tgt := 190) hx hb dX3_takeStep_30 (by rw [h38]; decide) (by rw [h38]; decide) (by rw [h38]; decide) (by decide) ?_
    refine lv_aload_n hx hb dX3_takeStep_190 rfl (lv_at hl 6 rfl) ?_
    refine lv_iload hx hb dX3_takeStep_191 (lv_at hl 2 rfl) ?_
    refine lv_aload hx hb dX3_takeStep_193 (lv_at hl 3 rfl) ?_
    refine mp_get X fl_X3_94 hK hP 5 rfl rfl dX3_takeStep_195 ?_
    refine lv_iload_n hx hb dX3_takeStep_198 rfl (lv_at hl 7 rfl) ?_
    obtain ⟨h39, hf⟩ := gi_of hf
    refine va_iald hx hb hK hP 9 0 rfl rfl h39 dX3_takeStep_199 ?_
    obtain ⟨⟨r40, u41⟩, c42, hf⟩ := bd_of hf
    dsimp only at hf
    have hPc := hP.sub (ws' := (k_X7_swapPlaces T a_p2 a_p2_order a_p2_knows a_p2_made a_p2_sixteenths a_p2_dots a_p2_used a_p2_stands v_p2_inOrder v_p2_place v_p2_ill v_p2_shut v_p2_turns v_p2_madeInAll v_p2_order)) [11, 15] rfl
    have hDc := (mp_D_of (w1 := (k_X3_takeStep T a_ a_loopsLeft a_probe a_p1 a_p1_cellNames a_p1_secretNames a_p1_pageNames a_p1_speed a_p1_letters a_p1_room a_p1_now a_p1_rounds a_p1_rounds_code a_p1_rounds_one a_p1_rounds_other a_p1_rounds_mate a_p2 a_p2_order a_p2_knows a_p2_made a_p2_sixteenths a_p2_dots a_p2_used a_p2_stands v_steps v_missed v_turns v_made v_found v_left v_seed v_loopsLeft v_p1_cells v_p1_secrets v_p1_pages v_p1_blind v_p1_rubs v_p1_letters v_p1_room v_p1_rounds_present v_p1_rounds_steps v_p1_rounds_size v_p1_rounds_code v_p1_rounds_mate v_p1_rounds_one v_p1_rounds_other v_p1_speed v_p2_inOrder v_p2_place v_p2_ill v_p2_shut v_p2_turns v_p2_madeInAll v_p2_dots v_p2_knows v_p2_made v_p2_order v_p2_sixteenths v_p2_stands v_p2_used)) hD rfl).sub (ws' := (k_X7_swapPlaces T a_p2 a_p2_order a_p2_knows a_p2_made a_p2_sixteenths a_p2_dots a_p2_used a_p2_stands v_p2_inOrder v_p2_place v_p2_ill v_p2_shut v_p2_turns v_p2_madeInAll v_p2_order)) [11, 15] rfl rfl
    refine mp_calli (isC := [11, 15]) (wc := (k_X7_swapPlaces T a_p2 a_p2_order a_p2_knows a_p2_made a_p2_sixteenths a_p2_dots a_p2_used a_p2_stands v_p2_inOrder v_p2_place v_p2_ill v_p2_shut v_p2_turns v_p2_madeInAll v_p2_order)) (w1 := (k_X7_swapPlaces T a_p2 a_p2_order a_p2_knows a_p2_made a_p2_sixteenths a_p2_dots a_p2_used a_p2_stands v_p2_inOrder v_p2_place v_p2_ill v_p2_shut v_p2_turns v_p2_madeInAll u41)) hP (mp_D_of hD rfl) hS hA rfl rfl (mp_runV (As := [.int y2, .int (v_p1_rounds_other (x3).toNatClampNeg)]) (rest := []) X me_X7_swapPlaces lk_X3_97 (c_X7_swapPlaces l D T fu a_p2 a_p2_order a_p2_knows a_p2_made a_p2_sixteenths a_p2_dots a_p2_used a_p2_stands y2 (v_p1_rounds_other (x3).toNatClampNeg) v_p2_place v_p2_ill v_p2_shut v_p2_turns v_p2_madeInAll v_p2_inOrder v_p2_order r40 u41 c42) rfl rfl ⟨(Nat.le_of_ble_eq_true rfl), (Nat.le_of_ble_eq_true rfl)⟩ hK hPc hDc rfl rfl rfl rfl hl.1 rfl (Nat.le_of_ble_eq_true rfl) dX3_takeStep_200 ⟨Nat.zero_le _, Nat.zero_le _⟩) (fun H locs hP _ hS => ?_)
    replace hP : va_P D mp_cl (k_X3_takeStep T a_ a_loopsLeft a_probe a_p1 a_p1_cellNames a_p1_secretNames a_p1_pageNames a_p1_speed a_p1_letters a_p1_room a_p1_now a_p1_rounds a_p1_rounds_code a_p1_rounds_one a_p1_rounds_other a_p1_rounds_mate a_p2 a_p2_order a_p2_knows a_p2_made a_p2_sixteenths a_p2_dots a_p2_used a_p2_stands v_steps v_missed v_turns v_made v_found v_left v_seed v_loopsLeft v_p1_cells v_p1_secrets v_p1_pages v_p1_blind v_p1_rubs v_p1_letters v_p1_room v_p1_rounds_present v_p1_rounds_steps v_p1_rounds_size v_p1_rounds_code v_p1_rounds_mate v_p1_rounds_one v_p1_rounds_other v_p1_speed v_p2_inOrder v_p2_place v_p2_ill v_p2_shut v_p2_turns v_p2_madeInAll v_p2_dots v_p2_knows v_p2_made u41 v_p2_sixteenths v_p2_stands v_p2_used) H := hP
    refine lv_istore (lv' := [(7, .int r40), (6, .int y3), (5, .int y2), (4, .ref a_p1_rounds), (0, .ref a_), (1, .ref a_p1), (2, .ref a_p2), (3, .int x3)]) hx hb dX3_takeStep_203 hl (by decide) rfl (fun ls hl => ?_)
    refine lv_goto (tgt := 274) hx hb dX3_takeStep_205 (by decide) ?_
    exact w_X3_takeStep_274 X hK hA  fu a_ a_loopsLeft a_probe a_p1 a_p1_cellNames a_p1_secretNames a_p1_pageNames a_p1_speed a_p1_letters a_p1_room a_p1_now a_p1_rounds a_p1_rounds_code a_p1_rounds_one a_p1_rounds_other a_p1_rounds_mate a_p2 a_p2_order a_p2_knows a_p2_made a_p2_sixteenths a_p2_dots a_p2_used a_p2_stands v_steps v_turns v_made v_left v_p1_rounds_present v_p1_rounds_steps v_p1_cells v_p1_secrets v_p1_pages v_p1_blind v_p1_rubs v_p1_letters v_p1_room v_p1_rounds_size v_p1_rounds_code v_p1_rounds_mate v_p1_rounds_one v_p1_rounds_other v_p1_speed v_p2_inOrder v_p2_sixteenths r_ o_missed o_found o_seed o_loopsLeft o_p2_place o_p2_ill o_p2_shut o_p2_turns o_p2_madeInAll o_p2_dots o_p2_knows o_p2_made o_p2_order o_p2_stands o_p2_used   y3 r40 v_missed v_found v_seed v_loopsLeft v_p2_place v_p2_ill v_p2_shut v_p2_turns v_p2_madeInAll v_p2_dots v_p2_knows v_p2_made u41 v_p2_stands v_p2_used hf _ _ _ hP (mp_D_of hD rfl) hS (lv_sub hl [4, 1, 0] rfl)
  replace hf := if_f hf h38
  by_cases h43 : (v_p1_rounds_code (x3).toNatClampNeg) = (nI 15)
  · replace hf := if_t hf h43
    refine lv_tableIn (off := 178) (tgt := 208) hx hb dX3_takeStep_30 (by rw [h43]; decide) (by rw [h43]; decide) (by rw [h43]; decide) (by decide) ?_
    refine lv_aload_n hx hb dX3_takeStep_208 rfl (lv_at hl 6 rfl) ?_
    refine lv_iload hx hb dX3_takeStep_209 (lv_at hl 2 rfl) ?_
    obtain ⟨⟨r44, u45, u46, u47⟩, c48, hf⟩ := bd_of hf
    dsimp only at hf
    have hPc := hP.sub (ws' := (k_X7_erasePage T a_p2 a_p2_order a_p2_knows a_p2_made a_p2_sixteenths a_p2_dots a_p2_used a_p2_stands v_p2_inOrder v_p2_place v_p2_ill v_p2_shut v_p2_turns v_p2_madeInAll v_p2_dots v_p2_stands v_p2_used)) [11, 12, 17, 18] rfl
    have hDc := (mp_D_of (w1 := (k_X3_takeStep T a_ a_loopsLeft a_probe a_p1 a_p1_cellNames a_p1_secretNames a_p1_pageNames a_p1_speed a_p1_letters a_p1_room a_p1_now a_p1_rounds a_p1_rounds_code a_p1_rounds_one a_p1_rounds_other a_p1_rounds_mate a_p2 a_p2_order a_p2_knows a_p2_made a_p2_sixteenths a_p2_dots a_p2_used a_p2_stands v_steps v_missed v_turns v_made v_found v_left v_seed v_loopsLeft v_p1_cells v_p1_secrets v_p1_pages v_p1_blind v_p1_rubs v_p1_letters v_p1_room v_p1_rounds_present v_p1_rounds_steps v_p1_rounds_size v_p1_rounds_code v_p1_rounds_mate v_p1_rounds_one v_p1_rounds_other v_p1_speed v_p2_inOrder v_p2_place v_p2_ill v_p2_shut v_p2_turns v_p2_madeInAll v_p2_dots v_p2_knows v_p2_made v_p2_order v_p2_sixteenths v_p2_stands v_p2_used)) hD rfl).sub (ws' := (k_X7_erasePage T a_p2 a_p2_order a_p2_knows a_p2_made a_p2_sixteenths a_p2_dots a_p2_used a_p2_stands v_p2_inOrder v_p2_place v_p2_ill v_p2_shut v_p2_turns v_p2_madeInAll v_p2_dots v_p2_stands v_p2_used)) [11, 12, 17, 18] rfl rfl
    refine mp_calli (isC := [11, 12, 17, 18]) (wc := (k_X7_erasePage T a_p2 a_p2_order a_p2_knows a_p2_made a_p2_sixteenths a_p2_dots a_p2_used a_p2_stands v_p2_inOrder v_p2_place v_p2_ill v_p2_shut v_p2_turns v_p2_madeInAll v_p2_dots v_p2_stands v_p2_used)) (w1 := (k_X7_erasePage T a_p2 a_p2_order a_p2_knows a_p2_made a_p2_sixteenths a_p2_dots a_p2_used a_p2_stands v_p2_inOrder v_p2_place v_p2_ill v_p2_shut v_p2_turns v_p2_madeInAll u45 u46 u47)) hP (mp_D_of hD rfl) hS hA rfl rfl (mp_runV (As := [.int y2]) (rest := []) X me_X7_erasePage lk_X3_101 (c_X7_erasePage l D T fu a_p2 a_p2_order a_p2_knows a_p2_made a_p2_sixteenths a_p2_dots a_p2_used a_p2_stands y2 v_p2_inOrder v_p2_place v_p2_ill v_p2_shut v_p2_turns v_p2_madeInAll v_p2_dots v_p2_stands v_p2_used r44 u45 u46 u47 c48) rfl rfl ⟨(Nat.le_of_ble_eq_true rfl), (Nat.le_of_ble_eq_true rfl)⟩ hK hPc hDc rfl rfl rfl rfl hl.1 rfl (Nat.le_of_ble_eq_true rfl) dX3_takeStep_211 ⟨Nat.zero_le _, Nat.zero_le _⟩) (fun H locs hP _ hS => ?_)
    replace hP : va_P D mp_cl (k_X3_takeStep T a_ a_loopsLeft a_probe a_p1 a_p1_cellNames a_p1_secretNames a_p1_pageNames a_p1_speed a_p1_letters a_p1_room a_p1_now a_p1_rounds a_p1_rounds_code a_p1_rounds_one a_p1_rounds_other a_p1_rounds_mate a_p2 a_p2_order a_p2_knows a_p2_made a_p2_sixteenths a_p2_dots a_p2_used a_p2_stands v_steps v_missed v_turns v_made v_found v_left v_seed v_loopsLeft v_p1_cells v_p1_secrets v_p1_pages v_p1_blind v_p1_rubs v_p1_letters v_p1_room v_p1_rounds_present v_p1_rounds_steps v_p1_rounds_size v_p1_rounds_code v_p1_rounds_mate v_p1_rounds_one v_p1_rounds_other v_p1_speed v_p2_inOrder v_p2_place v_p2_ill v_p2_shut v_p2_turns v_p2_madeInAll u45 v_p2_knows v_p2_made v_p2_order v_p2_sixteenths u46 u47) H := hP
    refine lv_if_le (tgt := 221) hx hb dX3_takeStep_214 (by decide) (fun h49 => ?_) (fun h49 => ?_)
    · replace hf := if_t hf h49
      refine lv_iconst (v := (nI 0)) hx hb dX3_takeStep_221 (by decide) ?_
      exact w_X3_takeStep_222 X hK hA  fu a_ a_loopsLeft a_probe a_p1 a_p1_cellNames a_p1_secretNames a_p1_pageNames a_p1_speed a_p1_letters a_p1_room a_p1_now a_p1_rounds a_p1_rounds_code a_p1_rounds_one a_p1_rounds_other a_p1_rounds_mate a_p2 a_p2_order a_p2_knows a_p2_made a_p2_sixteenths a_p2_dots a_p2_used a_p2_stands v_steps v_turns v_made v_left v_p1_rounds_present v_p1_rounds_steps v_p1_cells v_p1_secrets v_p1_pages v_p1_blind v_p1_rubs v_p1_letters v_p1_room v_p1_rounds_size v_p1_rounds_code v_p1_rounds_mate v_p1_rounds_one v_p1_rounds_other v_p1_speed v_p2_inOrder v_p2_sixteenths r_ o_missed o_found o_seed o_loopsLeft o_p2_place o_p2_ill o_p2_shut o_p2_turns o_p2_madeInAll o_p2_dots o_p2_knows o_p2_made o_p2_order o_p2_stands o_p2_used   y3 (nI 0) v_missed v_found v_seed v_loopsLeft v_p2_place v_p2_ill v_p2_shut v_p2_turns v_p2_madeInAll u45 v_p2_knows v_p2_made v_p2_order u46 u47 hf _ _ _ hP (mp_D_of hD rfl) hS (lv_sub hl [4, 1] rfl)
    · replace hf := if_f hf h49
      refine lv_iconst (v := (nI 1)) hx hb dX3_takeStep_217 (by decide) ?_
      refine lv_goto (tgt := 222) hx hb dX3_takeStep_218 (by decide) ?_
      exact w_X3_takeStep_222 X hK hA  fu a_ a_loopsLeft a_probe a_p1 a_p1_cellNames a_p1_secretNames a_p1_pageNames a_p1_speed a_p1_letters a_p1_room a_p1_now a_p1_rounds a_p1_rounds_code a_p1_rounds_one a_p1_rounds_other a_p1_rounds_mate a_p2 a_p2_order a_p2_knows a_p2_made a_p2_sixteenths a_p2_dots a_p2_used a_p2_stands v_steps v_turns v_made v_left v_p1_rounds_present v_p1_rounds_steps v_p1_cells v_p1_secrets v_p1_pages v_p1_blind v_p1_rubs v_p1_letters v_p1_room v_p1_rounds_size v_p1_rounds_code v_p1_rounds_mate v_p1_rounds_one v_p1_rounds_other v_p1_speed v_p2_inOrder v_p2_sixteenths r_ o_missed o_found o_seed o_loopsLeft o_p2_place o_p2_ill o_p2_shut o_p2_turns o_p2_madeInAll o_p2_dots o_p2_knows o_p2_made o_p2_order o_p2_stands o_p2_used   y3 (nI 1) v_missed v_found v_seed v_loopsLeft v_p2_place v_p2_ill v_p2_shut v_p2_turns v_p2_madeInAll u45 v_p2_knows v_p2_made v_p2_order u46 u47 hf _ _ _ hP (mp_D_of hD rfl) hS (lv_sub hl [4, 1] rfl)
  replace hf := if_f hf h43
  by_cases h50 : (v_p1_rounds_code (x3).toNatClampNeg) = (nI 16)
  · replace hf := if_t hf h50
    refine lv_tableIn (off := 144) (tgt := 174) hx hb dX3_takeStep_30 (by rw [h50]; decide) (by rw [h50]; decide) (by rw [h50]; decide) (by decide) ?_
    refine lv_aload_n hx hb dX3_takeStep_174 rfl (lv_at hl 6 rfl) ?_
    refine lv_dup hx hb dX3_takeStep_175 rfl ?_
    refine mp_get X fl_X3_91 hK hP 11 rfl rfl dX3_takeStep_176 ?_
    refine lv_iconst (v := (nI 1)) hx hb dX3_takeStep_179 (by decide) ?_
    refine lv_iload hx hb dX3_takeStep_180 (lv_at hl 2 rfl) ?_
    refine lv_ishl hx hb dX3_takeStep_182 ?_
    refine lv_ixor hx hb dX3_takeStep_183 ?_
    refine lv_topi (fun y51 e51 => ?_)
    replace hf := lt_of e51 hf
    refine mp_putf X fl_X3_91 fp_X7 rfl hK hP (mp_D_of hD rfl) hS 11 rfl rfl rfl (Nat.le_of_ble_eq_true rfl) dX3_takeStep_184 (fun H locs hP _ hS => ?_)
    replace hP : va_P D mp_cl (k_X3_takeStep T a_ a_loopsLeft a_probe a_p1 a_p1_cellNames a_p1_secretNames a_p1_pageNames a_p1_speed a_p1_letters a_p1_room a_p1_now a_p1_rounds a_p1_rounds_code a_p1_rounds_one a_p1_rounds_other a_p1_rounds_mate a_p2 a_p2_order a_p2_knows a_p2_made a_p2_sixteenths a_p2_dots a_p2_used a_p2_stands v_steps v_missed v_turns v_made v_found v_left v_seed v_loopsLeft v_p1_cells v_p1_secrets v_p1_pages v_p1_blind v_p1_rubs v_p1_letters v_p1_room v_p1_rounds_present v_p1_rounds_steps v_p1_rounds_size v_p1_rounds_code v_p1_rounds_mate v_p1_rounds_one v_p1_rounds_other v_p1_speed v_p2_inOrder v_p2_place v_p2_ill y51 v_p2_turns v_p2_madeInAll v_p2_dots v_p2_knows v_p2_made v_p2_order v_p2_sixteenths v_p2_stands v_p2_used) H := hP
    refine lv_goto (tgt := 274) hx hb dX3_takeStep_187 (by decide) ?_
    exact w_X3_takeStep_274 X hK hA  fu a_ a_loopsLeft a_probe a_p1 a_p1_cellNames a_p1_secretNames a_p1_pageNames a_p1_speed a_p1_letters a_p1_room a_p1_now a_p1_rounds a_p1_rounds_code a_p1_rounds_one a_p1_rounds_other a_p1_rounds_mate a_p2 a_p2_order a_p2_knows a_p2_made a_p2_sixteenths a_p2_dots a_p2_used a_p2_stands v_steps v_turns v_made v_left v_p1_rounds_present v_p1_rounds_steps v_p1_cells v_p1_secrets v_p1_pages v_p1_blind v_p1_rubs v_p1_letters v_p1_room v_p1_rounds_size v_p1_rounds_code v_p1_rounds_mate v_p1_rounds_one v_p1_rounds_other v_p1_speed v_p2_inOrder v_p2_sixteenths r_ o_missed o_found o_seed o_loopsLeft o_p2_place o_p2_ill o_p2_shut o_p2_turns o_p2_madeInAll o_p2_dots o_p2_knows o_p2_made o_p2_order o_p2_stands o_p2_used   y3 (nI 1) v_missed v_found v_seed v_loopsLeft v_p2_place v_p2_ill y51 v_p2_turns v_p2_madeInAll v_p2_dots v_p2_knows v_p2_made v_p2_order v_p2_stands v_p2_used hf _ _ _ hP (mp_D_of hD rfl) hS (lv_sub hl [4, 1, 0] rfl)
  replace hf := if_f hf h50
  by_cases h52 : (v_p1_rounds_code (x3).toNatClampNeg) = (nI 17)
  · replace hf := if_t hf h52
    refine lv_tableIn (off := 236) (tgt := 266) hx hb dX3_takeStep_30 (by rw [h52]; decide) (by rw [h52]; decide) (by rw [h52]; decide) (by decide) ?_
    refine lv_aload_n hx hb dX3_takeStep_266 rfl (lv_at hl 4 rfl) ?_
    refine lv_aload_n hx hb dX3_takeStep_267 rfl (lv_at hl 5 rfl) ?_
    refine lv_aload_n hx hb dX3_takeStep_268 rfl (lv_at hl 6 rfl) ?_
    obtain ⟨⟨r53, u54, u55, u56, u57, u58⟩, c59, hf⟩ := bd_of hf
    dsimp only at hf
    have hPc := hP.sub (ws' := (k_X3_searches T a_ a_loopsLeft a_probe a_p1 a_p1_cellNames a_p1_secretNames a_p1_pageNames a_p1_speed a_p1_letters a_p1_room a_p1_now a_p1_rounds a_p2 a_p2_order a_p2_knows a_p2_made a_p2_sixteenths a_p2_dots a_p2_used a_p2_stands v_steps v_missed v_turns v_made v_found v_left v_seed v_p1_cells v_p1_secrets v_p1_pages v_p1_blind v_p1_rubs v_p2_inOrder v_p2_place v_p2_ill v_p2_shut v_p2_turns v_p2_madeInAll v_p2_dots v_p2_sixteenths v_p2_stands v_p2_used)) [0, 2, 11, 12, 16, 17, 18] rfl
    have hDc := (mp_D_of (w1 := (k_X3_takeStep T a_ a_loopsLeft a_probe a_p1 a_p1_cellNames a_p1_secretNames a_p1_pageNames a_p1_speed a_p1_letters a_p1_room a_p1_now a_p1_rounds a_p1_rounds_code a_p1_rounds_one a_p1_rounds_other a_p1_rounds_mate a_p2 a_p2_order a_p2_knows a_p2_made a_p2_sixteenths a_p2_dots a_p2_used a_p2_stands v_steps v_missed v_turns v_made v_found v_left v_seed v_loopsLeft v_p1_cells v_p1_secrets v_p1_pages v_p1_blind v_p1_rubs v_p1_letters v_p1_room v_p1_rounds_present v_p1_rounds_steps v_p1_rounds_size v_p1_rounds_code v_p1_rounds_mate v_p1_rounds_one v_p1_rounds_other v_p1_speed v_p2_inOrder v_p2_place v_p2_ill v_p2_shut v_p2_turns v_p2_madeInAll v_p2_dots v_p2_knows v_p2_made v_p2_order v_p2_sixteenths v_p2_stands v_p2_used)) hD rfl).sub (ws' := (k_X3_searches T a_ a_loopsLeft a_probe a_p1 a_p1_cellNames a_p1_secretNames a_p1_pageNames a_p1_speed a_p1_letters a_p1_room a_p1_now a_p1_rounds a_p2 a_p2_order a_p2_knows a_p2_made a_p2_sixteenths a_p2_dots a_p2_used a_p2_stands v_steps v_missed v_turns v_made v_found v_left v_seed v_p1_cells v_p1_secrets v_p1_pages v_p1_blind v_p1_rubs v_p2_inOrder v_p2_place v_p2_ill v_p2_shut v_p2_turns v_p2_madeInAll v_p2_dots v_p2_sixteenths v_p2_stands v_p2_used)) [0, 2, 11, 12, 16, 17, 18] rfl rfl
    refine mp_calli (isC := [0, 2, 11, 12, 16, 17, 18]) (wc := (k_X3_searches T a_ a_loopsLeft a_probe a_p1 a_p1_cellNames a_p1_secretNames a_p1_pageNames a_p1_speed a_p1_letters a_p1_room a_p1_now a_p1_rounds a_p2 a_p2_order a_p2_knows a_p2_made a_p2_sixteenths a_p2_dots a_p2_used a_p2_stands v_steps v_missed v_turns v_made v_found v_left v_seed v_p1_cells v_p1_secrets v_p1_pages v_p1_blind v_p1_rubs v_p2_inOrder v_p2_place v_p2_ill v_p2_shut v_p2_turns v_p2_madeInAll v_p2_dots v_p2_sixteenths v_p2_stands v_p2_used)) (w1 := (k_X3_searches T a_ a_loopsLeft a_probe a_p1 a_p1_cellNames a_p1_secretNames a_p1_pageNames a_p1_speed a_p1_letters a_p1_room a_p1_now a_p1_rounds a_p2 a_p2_order a_p2_knows a_p2_made a_p2_sixteenths a_p2_dots a_p2_used a_p2_stands v_steps v_missed v_turns v_made u54 v_left u55 v_p1_cells v_p1_secrets v_p1_pages v_p1_blind v_p1_rubs v_p2_inOrder v_p2_place v_p2_ill v_p2_shut v_p2_turns v_p2_madeInAll u56 v_p2_sixteenths u57 u58)) hP (mp_D_of hD rfl) hS hA rfl rfl (mp_runV (As := [.ref a_p1, .ref a_p2]) (rest := []) X me_X3_searches lk_X3_109 (c_X3_searches l D T fu a_ a_loopsLeft a_probe a_p1 a_p1_cellNames a_p1_secretNames a_p1_pageNames a_p1_speed a_p1_letters a_p1_room a_p1_now a_p1_rounds a_p2 a_p2_order a_p2_knows a_p2_made a_p2_sixteenths a_p2_dots a_p2_used a_p2_stands v_steps v_missed v_turns v_made v_left v_p1_cells v_p1_secrets v_p1_blind v_p1_rubs v_p2_inOrder v_p2_place v_p2_ill v_p2_turns v_p2_madeInAll v_found v_seed v_p1_pages v_p2_shut v_p2_dots v_p2_sixteenths v_p2_stands v_p2_used r53 u54 u55 u56 u57 u58 c59) rfl rfl ⟨(Nat.le_of_ble_eq_true rfl), (Nat.le_of_ble_eq_true rfl)⟩ hK hPc hDc rfl rfl rfl rfl hl.1 rfl (Nat.le_of_ble_eq_true rfl) dX3_takeStep_269 ⟨Nat.zero_le _, Nat.zero_le _⟩) (fun H locs hP _ hS => ?_)
    replace hP : va_P D mp_cl (k_X3_takeStep T a_ a_loopsLeft a_probe a_p1 a_p1_cellNames a_p1_secretNames a_p1_pageNames a_p1_speed a_p1_letters a_p1_room a_p1_now a_p1_rounds a_p1_rounds_code a_p1_rounds_one a_p1_rounds_other a_p1_rounds_mate a_p2 a_p2_order a_p2_knows a_p2_made a_p2_sixteenths a_p2_dots a_p2_used a_p2_stands v_steps v_missed v_turns v_made u54 v_left u55 v_loopsLeft v_p1_cells v_p1_secrets v_p1_pages v_p1_blind v_p1_rubs v_p1_letters v_p1_room v_p1_rounds_present v_p1_rounds_steps v_p1_rounds_size v_p1_rounds_code v_p1_rounds_mate v_p1_rounds_one v_p1_rounds_other v_p1_speed v_p2_inOrder v_p2_place v_p2_ill v_p2_shut v_p2_turns v_p2_madeInAll u56 v_p2_knows v_p2_made v_p2_order v_p2_sixteenths u57 u58) H := hP
    refine lv_istore (lv' := [(7, .int r53), (6, .int y3), (5, .int y2), (4, .ref a_p1_rounds), (0, .ref a_), (1, .ref a_p1), (2, .ref a_p2), (3, .int x3)]) hx hb dX3_takeStep_272 hl (by decide) rfl (fun ls hl => ?_)
    exact w_X3_takeStep_274 X hK hA  fu a_ a_loopsLeft a_probe a_p1 a_p1_cellNames a_p1_secretNames a_p1_pageNames a_p1_speed a_p1_letters a_p1_room a_p1_now a_p1_rounds a_p1_rounds_code a_p1_rounds_one a_p1_rounds_other a_p1_rounds_mate a_p2 a_p2_order a_p2_knows a_p2_made a_p2_sixteenths a_p2_dots a_p2_used a_p2_stands v_steps v_turns v_made v_left v_p1_rounds_present v_p1_rounds_steps v_p1_cells v_p1_secrets v_p1_pages v_p1_blind v_p1_rubs v_p1_letters v_p1_room v_p1_rounds_size v_p1_rounds_code v_p1_rounds_mate v_p1_rounds_one v_p1_rounds_other v_p1_speed v_p2_inOrder v_p2_sixteenths r_ o_missed o_found o_seed o_loopsLeft o_p2_place o_p2_ill o_p2_shut o_p2_turns o_p2_madeInAll o_p2_dots o_p2_knows o_p2_made o_p2_order o_p2_stands o_p2_used   y3 r53 v_missed u54 u55 v_loopsLeft v_p2_place v_p2_ill v_p2_shut v_p2_turns v_p2_madeInAll u56 v_p2_knows v_p2_made v_p2_order u57 u58 hf _ _ _ hP (mp_D_of hD rfl) hS (lv_sub hl [4, 1, 0] rfl)
  replace hf := if_f hf h52
  by_cases h60 : (v_p1_rounds_code (x3).toNatClampNeg) = (nI 18)
  · replace hf := if_t hf h60
    refine lv_tableIn (off := 236) (tgt := 266) hx hb dX3_takeStep_30 (by rw [h60]; decide) (by rw [h60]; decide) (by rw [h60]; decide) (by decide) ?_
    refine lv_aload_n hx hb dX3_takeStep_266 rfl (lv_at hl 4 rfl) ?_
    refine lv_aload_n hx hb dX3_takeStep_267 rfl (lv_at hl 5 rfl) ?_
    refine lv_aload_n hx hb dX3_takeStep_268 rfl (lv_at hl 6 rfl) ?_
    obtain ⟨⟨r61, u62, u63, u64, u65, u66⟩, c67, hf⟩ := bd_of hf
    dsimp only at hf
    have hPc := hP.sub (ws' := (k_X3_searches T a_ a_loopsLeft a_probe a_p1 a_p1_cellNames a_p1_secretNames a_p1_pageNames a_p1_speed a_p1_letters a_p1_room a_p1_now a_p1_rounds a_p2 a_p2_order a_p2_knows a_p2_made a_p2_sixteenths a_p2_dots a_p2_used a_p2_stands v_steps v_missed v_turns v_made v_found v_left v_seed v_p1_cells v_p1_secrets v_p1_pages v_p1_blind v_p1_rubs v_p2_inOrder v_p2_place v_p2_ill v_p2_shut v_p2_turns v_p2_madeInAll v_p2_dots v_p2_sixteenths v_p2_stands v_p2_used)) [0, 2, 11, 12, 16, 17, 18] rfl
    have hDc := (mp_D_of (w1 := (k_X3_takeStep T a_ a_loopsLeft a_probe a_p1 a_p1_cellNames a_p1_secretNames a_p1_pageNames a_p1_speed a_p1_letters a_p1_room a_p1_now a_p1_rounds a_p1_rounds_code a_p1_rounds_one a_p1_rounds_other a_p1_rounds_mate a_p2 a_p2_order a_p2_knows a_p2_made a_p2_sixteenths a_p2_dots a_p2_used a_p2_stands v_steps v_missed v_turns v_made v_found v_left v_seed v_loopsLeft v_p1_cells v_p1_secrets v_p1_pages v_p1_blind v_p1_rubs v_p1_letters v_p1_room v_p1_rounds_present v_p1_rounds_steps v_p1_rounds_size v_p1_rounds_code v_p1_rounds_mate v_p1_rounds_one v_p1_rounds_other v_p1_speed v_p2_inOrder v_p2_place v_p2_ill v_p2_shut v_p2_turns v_p2_madeInAll v_p2_dots v_p2_knows v_p2_made v_p2_order v_p2_sixteenths v_p2_stands v_p2_used)) hD rfl).sub (ws' := (k_X3_searches T a_ a_loopsLeft a_probe a_p1 a_p1_cellNames a_p1_secretNames a_p1_pageNames a_p1_speed a_p1_letters a_p1_room a_p1_now a_p1_rounds a_p2 a_p2_order a_p2_knows a_p2_made a_p2_sixteenths a_p2_dots a_p2_used a_p2_stands v_steps v_missed v_turns v_made v_found v_left v_seed v_p1_cells v_p1_secrets v_p1_pages v_p1_blind v_p1_rubs v_p2_inOrder v_p2_place v_p2_ill v_p2_shut v_p2_turns v_p2_madeInAll v_p2_dots v_p2_sixteenths v_p2_stands v_p2_used)) [0, 2, 11, 12, 16, 17, 18] rfl rfl
    refine mp_calli (isC := [0, 2, 11, 12, 16, 17, 18]) (wc := (k_X3_searches T a_ a_loopsLeft a_probe a_p1 a_p1_cellNames a_p1_secretNames a_p1_pageNames a_p1_speed a_p1_letters a_p1_room a_p1_now a_p1_rounds a_p2 a_p2_order a_p2_knows a_p2_made a_p2_sixteenths a_p2_dots a_p2_used a_p2_stands v_steps v_missed v_turns v_made v_found v_left v_seed v_p1_cells v_p1_secrets v_p1_pages v_p1_blind v_p1_rubs v_p2_inOrder v_p2_place v_p2_ill v_p2_shut v_p2_turns v_p2_madeInAll v_p2_dots v_p2_sixteenths v_p2_stands v_p2_used)) (w1 := (k_X3_searches T a_ a_loopsLeft a_probe a_p1 a_p1_cellNames a_p1_secretNames a_p1_pageNames a_p1_speed a_p1_letters a_p1_room a_p1_now a_p1_rounds a_p2 a_p2_order a_p2_knows a_p2_made a_p2_sixteenths a_p2_dots a_p2_used a_p2_stands v_steps v_missed v_turns v_made u62 v_left u63 v_p1_cells v_p1_secrets v_p1_pages v_p1_blind v_p1_rubs v_p2_inOrder v_p2_place v_p2_ill v_p2_shut v_p2_turns v_p2_madeInAll u64 v_p2_sixteenths u65 u66)) hP (mp_D_of hD rfl) hS hA rfl rfl (mp_runV (As := [.ref a_p1, .ref a_p2]) (rest := []) X me_X3_searches lk_X3_109 (c_X3_searches l D T fu a_ a_loopsLeft a_probe a_p1 a_p1_cellNames a_p1_secretNames a_p1_pageNames a_p1_speed a_p1_letters a_p1_room a_p1_now a_p1_rounds a_p2 a_p2_order a_p2_knows a_p2_made a_p2_sixteenths a_p2_dots a_p2_used a_p2_stands v_steps v_missed v_turns v_made v_left v_p1_cells v_p1_secrets v_p1_blind v_p1_rubs v_p2_inOrder v_p2_place v_p2_ill v_p2_turns v_p2_madeInAll v_found v_seed v_p1_pages v_p2_shut v_p2_dots v_p2_sixteenths v_p2_stands v_p2_used r61 u62 u63 u64 u65 u66 c67) rfl rfl ⟨(Nat.le_of_ble_eq_true rfl), (Nat.le_of_ble_eq_true rfl)⟩ hK hPc hDc rfl rfl rfl rfl hl.1 rfl (Nat.le_of_ble_eq_true rfl) dX3_takeStep_269 ⟨Nat.zero_le _, Nat.zero_le _⟩) (fun H locs hP _ hS => ?_)
    replace hP : va_P D mp_cl (k_X3_takeStep T a_ a_loopsLeft a_probe a_p1 a_p1_cellNames a_p1_secretNames a_p1_pageNames a_p1_speed a_p1_letters a_p1_room a_p1_now a_p1_rounds a_p1_rounds_code a_p1_rounds_one a_p1_rounds_other a_p1_rounds_mate a_p2 a_p2_order a_p2_knows a_p2_made a_p2_sixteenths a_p2_dots a_p2_used a_p2_stands v_steps v_missed v_turns v_made u62 v_left u63 v_loopsLeft v_p1_cells v_p1_secrets v_p1_pages v_p1_blind v_p1_rubs v_p1_letters v_p1_room v_p1_rounds_present v_p1_rounds_steps v_p1_rounds_size v_p1_rounds_code v_p1_rounds_mate v_p1_rounds_one v_p1_rounds_other v_p1_speed v_p2_inOrder v_p2_place v_p2_ill v_p2_shut v_p2_turns v_p2_madeInAll u64 v_p2_knows v_p2_made v_p2_order v_p2_sixteenths u65 u66) H := hP
    refine lv_istore (lv' := [(7, .int r61), (6, .int y3), (5, .int y2), (4, .ref a_p1_rounds), (0, .ref a_), (1, .ref a_p1), (2, .ref a_p2), (3, .int x3)]) hx hb dX3_takeStep_272 hl (by decide) rfl (fun ls hl => ?_)
    exact w_X3_takeStep_274 X hK hA  fu a_ a_loopsLeft a_probe a_p1 a_p1_cellNames a_p1_secretNames a_p1_pageNames a_p1_speed a_p1_letters a_p1_room a_p1_now a_p1_rounds a_p1_rounds_code a_p1_rounds_one a_p1_rounds_other a_p1_rounds_mate a_p2 a_p2_order a_p2_knows a_p2_made a_p2_sixteenths a_p2_dots a_p2_used a_p2_stands v_steps v_turns v_made v_left v_p1_rounds_present v_p1_rounds_steps v_p1_cells v_p1_secrets v_p1_pages v_p1_blind v_p1_rubs v_p1_letters v_p1_room v_p1_rounds_size v_p1_rounds_code v_p1_rounds_mate v_p1_rounds_one v_p1_rounds_other v_p1_speed v_p2_inOrder v_p2_sixteenths r_ o_missed o_found o_seed o_loopsLeft o_p2_place o_p2_ill o_p2_shut o_p2_turns o_p2_madeInAll o_p2_dots o_p2_knows o_p2_made o_p2_order o_p2_stands o_p2_used   y3 r61 v_missed u62 u63 v_loopsLeft v_p2_place v_p2_ill v_p2_shut v_p2_turns v_p2_madeInAll u64 v_p2_knows v_p2_made v_p2_order u65 u66 hf _ _ _ hP (mp_D_of hD rfl) hS (lv_sub hl [4, 1, 0] rfl)
  replace hf := if_f hf h60
  by_cases h68 : (v_p1_rounds_code (x3).toNatClampNeg) = (nI 19)
  · replace hf := if_t hf h68
    refine lv_tableIn (off := 99) (tgt := 129) hx hb dX3_takeStep_30 (by rw [h68]; decide) (by rw [h68]; decide) (by rw [h68]; decide) (by decide) ?_
    refine lv_aload_n hx hb dX3_takeStep_129 rfl (lv_at hl 5 rfl) ?_
    refine lv_aload_n hx hb dX3_takeStep_130 rfl (lv_at hl 6 rfl) ?_
    refine lv_iload_n hx hb dX3_takeStep_131 rfl (lv_at hl 7 rfl) ?_
    obtain ⟨r69, c70, hf⟩ := bd_of hf
    have hPc := hP.sub (ws' := (k_X3_holds T a_p1 a_p1_cellNames a_p1_secretNames a_p1_pageNames a_p1_speed a_p1_letters a_p1_room a_p1_now a_p1_rounds a_p1_rounds_code a_p1_rounds_one a_p1_rounds_other a_p1_rounds_mate a_p2 a_p2_order a_p2_knows a_p2_made a_p2_sixteenths a_p2_dots a_p2_used a_p2_stands v_p1_cells v_p1_secrets v_p1_pages v_p1_blind v_p1_rubs v_p1_room v_p1_rounds_present v_p1_rounds_steps v_p1_rounds_size v_p1_rounds_code v_p1_rounds_one v_p1_rounds_other v_p2_inOrder v_p2_place v_p2_ill v_p2_shut v_p2_turns v_p2_madeInAll v_p2_knows v_p2_used)) [2, 4, 5, 6, 8, 9, 11, 13, 18] rfl
    have hDc := (mp_D_of (w1 := (k_X3_takeStep T a_ a_loopsLeft a_probe a_p1 a_p1_cellNames a_p1_secretNames a_p1_pageNames a_p1_speed a_p1_letters a_p1_room a_p1_now a_p1_rounds a_p1_rounds_code a_p1_rounds_one a_p1_rounds_other a_p1_rounds_mate a_p2 a_p2_order a_p2_knows a_p2_made a_p2_sixteenths a_p2_dots a_p2_used a_p2_stands v_steps v_missed v_turns v_made v_found v_left v_seed v_loopsLeft v_p1_cells v_p1_secrets v_p1_pages v_p1_blind v_p1_rubs v_p1_letters v_p1_room v_p1_rounds_present v_p1_rounds_steps v_p1_rounds_size v_p1_rounds_code v_p1_rounds_mate v_p1_rounds_one v_p1_rounds_other v_p1_speed v_p2_inOrder v_p2_place v_p2_ill v_p2_shut v_p2_turns v_p2_madeInAll v_p2_dots v_p2_knows v_p2_made v_p2_order v_p2_sixteenths v_p2_stands v_p2_used)) hD rfl).sub (ws' := (k_X3_holds T a_p1 a_p1_cellNames a_p1_secretNames a_p1_pageNames a_p1_speed a_p1_letters a_p1_room a_p1_now a_p1_rounds a_p1_rounds_code a_p1_rounds_one a_p1_rounds_other a_p1_rounds_mate a_p2 a_p2_order a_p2_knows a_p2_made a_p2_sixteenths a_p2_dots a_p2_used a_p2_stands v_p1_cells v_p1_secrets v_p1_pages v_p1_blind v_p1_rubs v_p1_room v_p1_rounds_present v_p1_rounds_steps v_p1_rounds_size v_p1_rounds_code v_p1_rounds_one v_p1_rounds_other v_p2_inOrder v_p2_place v_p2_ill v_p2_shut v_p2_turns v_p2_madeInAll v_p2_knows v_p2_used)) [2, 4, 5, 6, 8, 9, 11, 13, 18] rfl rfl
    refine mp_calli (isC := [2, 4, 5, 6, 8, 9, 11, 13, 18]) (wc := (k_X3_holds T a_p1 a_p1_cellNames a_p1_secretNames a_p1_pageNames a_p1_speed a_p1_letters a_p1_room a_p1_now a_p1_rounds a_p1_rounds_code a_p1_rounds_one a_p1_rounds_other a_p1_rounds_mate a_p2 a_p2_order a_p2_knows a_p2_made a_p2_sixteenths a_p2_dots a_p2_used a_p2_stands v_p1_cells v_p1_secrets v_p1_pages v_p1_blind v_p1_rubs v_p1_room v_p1_rounds_present v_p1_rounds_steps v_p1_rounds_size v_p1_rounds_code v_p1_rounds_one v_p1_rounds_other v_p2_inOrder v_p2_place v_p2_ill v_p2_shut v_p2_turns v_p2_madeInAll v_p2_knows v_p2_used)) (w1 := (k_X3_holds T a_p1 a_p1_cellNames a_p1_secretNames a_p1_pageNames a_p1_speed a_p1_letters a_p1_room a_p1_now a_p1_rounds a_p1_rounds_code a_p1_rounds_one a_p1_rounds_other a_p1_rounds_mate a_p2 a_p2_order a_p2_knows a_p2_made a_p2_sixteenths a_p2_dots a_p2_used a_p2_stands v_p1_cells v_p1_secrets v_p1_pages v_p1_blind v_p1_rubs v_p1_room v_p1_rounds_present v_p1_rounds_steps v_p1_rounds_size v_p1_rounds_code v_p1_rounds_one v_p1_rounds_other v_p2_inOrder v_p2_place v_p2_ill v_p2_shut v_p2_turns v_p2_madeInAll v_p2_knows v_p2_used)) hP (mp_D_of hD rfl) hS hA rfl rfl (mp_runS (As := [.ref a_p1, .ref a_p2, .int x3]) (rest := []) X me_X3_holds lk_X3_84 (c_X3_holds l D T fu a_p1 a_p1_cellNames a_p1_secretNames a_p1_pageNames a_p1_speed a_p1_letters a_p1_room a_p1_now a_p1_rounds a_p1_rounds_code a_p1_rounds_one a_p1_rounds_other a_p1_rounds_mate a_p2 a_p2_order a_p2_knows a_p2_made a_p2_sixteenths a_p2_dots a_p2_used a_p2_stands x3 v_p1_secrets v_p1_pages v_p1_rubs v_p1_rounds_present v_p1_rounds_steps v_p1_rounds_size v_p2_inOrder v_p2_place v_p2_ill v_p2_shut v_p2_turns v_p2_madeInAll v_p1_cells v_p1_blind v_p1_room v_p1_rounds_code v_p1_rounds_one v_p1_rounds_other v_p2_knows v_p2_used r69 c70) rfl rfl ⟨(Nat.le_of_ble_eq_true rfl), (Nat.le_of_ble_eq_true rfl)⟩ hK hPc hDc rfl hl.1 rfl (Nat.le_of_ble_eq_true rfl) dX3_takeStep_132 ⟨Nat.zero_le _, Nat.zero_le _⟩) (fun H locs hP _ hS => ?_)
    replace hP : va_P D mp_cl (k_X3_takeStep T a_ a_loopsLeft a_probe a_p1 a_p1_cellNames a_p1_secretNames a_p1_pageNames a_p1_speed a_p1_letters a_p1_room a_p1_now a_p1_rounds a_p1_rounds_code a_p1_rounds_one a_p1_rounds_other a_p1_rounds_mate a_p2 a_p2_order a_p2_knows a_p2_made a_p2_sixteenths a_p2_dots a_p2_used a_p2_stands v_steps v_missed v_turns v_made v_found v_left v_seed v_loopsLeft v_p1_cells v_p1_secrets v_p1_pages v_p1_blind v_p1_rubs v_p1_letters v_p1_room v_p1_rounds_present v_p1_rounds_steps v_p1_rounds_size v_p1_rounds_code v_p1_rounds_mate v_p1_rounds_one v_p1_rounds_other v_p1_speed v_p2_inOrder v_p2_place v_p2_ill v_p2_shut v_p2_turns v_p2_madeInAll v_p2_dots v_p2_knows v_p2_made v_p2_order v_p2_sixteenths v_p2_stands v_p2_used) H := hP
    refine lv_if_eq (tgt := 144) hx hb dX3_takeStep_135 (by decide) (fun h71 => ?_) (fun h71 => ?_)
    · replace hf := if_t hf h71
      refine lv_aload hx hb dX3_takeStep_144 (lv_at hl 3 rfl) ?_
      refine mp_get X fl_X3_78 hK hP 5 rfl rfl dX3_takeStep_146 ?_
      refine lv_iload_n hx hb dX3_takeStep_149 rfl (lv_at hl 7 rfl) ?_
      obtain ⟨h72, hf⟩ := gi_of hf
      refine va_iald hx hb hK hP 7 0 rfl rfl h72 dX3_takeStep_150 ?_
      refine lv_iconst (v := (nI 1)) hx hb dX3_takeStep_151 (by decide) ?_
      refine lv_iadd hx hb dX3_takeStep_152 ?_
      exact w_X3_takeStep_153 X hK hA  fu a_ a_loopsLeft a_probe a_p1 a_p1_cellNames a_p1_secretNames a_p1_pageNames a_p1_speed a_p1_letters a_p1_room a_p1_now a_p1_rounds a_p1_rounds_code a_p1_rounds_one a_p1_rounds_other a_p1_rounds_mate a_p2 a_p2_order a_p2_knows a_p2_made a_p2_sixteenths a_p2_dots a_p2_used a_p2_stands v_steps v_turns v_made v_left v_p1_rounds_present v_p1_rounds_steps v_p1_cells v_p1_secrets v_p1_pages v_p1_blind v_p1_rubs v_p1_letters v_p1_room v_p1_rounds_size v_p1_rounds_code v_p1_rounds_mate v_p1_rounds_one v_p1_rounds_other v_p1_speed v_p2_inOrder v_p2_sixteenths r_ o_missed o_found o_seed o_loopsLeft o_p2_place o_p2_ill o_p2_shut o_p2_turns o_p2_madeInAll o_p2_dots o_p2_knows o_p2_made o_p2_order o_p2_stands o_p2_used   (nI 1) ((v_p1_rounds_mate (x3).toNatClampNeg) + (nI 1)) v_missed v_found v_seed v_loopsLeft v_p2_place v_p2_ill v_p2_shut v_p2_turns v_p2_madeInAll v_p2_dots v_p2_knows v_p2_made v_p2_order v_p2_stands v_p2_used hf _ _ _ hP (mp_D_of hD rfl) hS (lv_sub hl [4, 0] rfl)
    · replace hf := if_f hf h71
      refine lv_iload_n hx hb dX3_takeStep_138 rfl (lv_at hl 7 rfl) ?_
      refine lv_iconst (v := (nI 1)) hx hb dX3_takeStep_139 (by decide) ?_
      refine lv_iadd hx hb dX3_takeStep_140 ?_
      refine lv_goto (tgt := 153) hx hb dX3_takeStep_141 (by decide) ?_
      exact w_X3_takeStep_153 X hK hA  fu a_ a_loopsLeft a_probe a_p1 a_p1_cellNames a_p1_secretNames a_p1_pageNames a_p1_speed a_p1_letters a_p1_room a_p1_now a_p1_rounds a_p1_rounds_code a_p1_rounds_one a_p1_rounds_other a_p1_rounds_mate a_p2 a_p2_order a_p2_knows a_p2_made a_p2_sixteenths a_p2_dots a_p2_used a_p2_stands v_steps v_turns v_made v_left v_p1_rounds_present v_p1_rounds_steps v_p1_cells v_p1_secrets v_p1_pages v_p1_blind v_p1_rubs v_p1_letters v_p1_room v_p1_rounds_size v_p1_rounds_code v_p1_rounds_mate v_p1_rounds_one v_p1_rounds_other v_p1_speed v_p2_inOrder v_p2_sixteenths r_ o_missed o_found o_seed o_loopsLeft o_p2_place o_p2_ill o_p2_shut o_p2_turns o_p2_madeInAll o_p2_dots o_p2_knows o_p2_made o_p2_order o_p2_stands o_p2_used   (nI 1) (x3 + (nI 1)) v_missed v_found v_seed v_loopsLeft v_p2_place v_p2_ill v_p2_shut v_p2_turns v_p2_madeInAll v_p2_dots v_p2_knows v_p2_made v_p2_order v_p2_stands v_p2_used hf _ _ _ hP (mp_D_of hD rfl) hS (lv_sub hl [4, 0] rfl)
  replace hf := if_f hf h68
  by_cases h73 : (v_p1_rounds_code (x3).toNatClampNeg) = (nI 20)
  · replace hf := if_t hf h73
    refine lv_tableIn (off := 99) (tgt := 129) hx hb dX3_takeStep_30 (by rw [h73]; decide) (by rw [h73]; decide) (by rw [h73]; decide) (by decide) ?_
    refine lv_aload_n hx hb dX3_takeStep_129 rfl (lv_at hl 5 rfl) ?_
    refine lv_aload_n hx hb dX3_takeStep_130 rfl (lv_at hl 6 rfl) ?_
    refine lv_iload_n hx hb dX3_takeStep_131 rfl (lv_at hl 7 rfl) ?_
    obtain ⟨r74, c75, hf⟩ := bd_of hf
    have hPc := hP.sub (ws' := (k_X3_holds T a_p1 a_p1_cellNames a_p1_secretNames a_p1_pageNames a_p1_speed a_p1_letters a_p1_room a_p1_now a_p1_rounds a_p1_rounds_code a_p1_rounds_one a_p1_rounds_other a_p1_rounds_mate a_p2 a_p2_order a_p2_knows a_p2_made a_p2_sixteenths a_p2_dots a_p2_used a_p2_stands v_p1_cells v_p1_secrets v_p1_pages v_p1_blind v_p1_rubs v_p1_room v_p1_rounds_present v_p1_rounds_steps v_p1_rounds_size v_p1_rounds_code v_p1_rounds_one v_p1_rounds_other v_p2_inOrder v_p2_place v_p2_ill v_p2_shut v_p2_turns v_p2_madeInAll v_p2_knows v_p2_used)) [2, 4, 5, 6, 8, 9, 11, 13, 18] rfl
    have hDc := (mp_D_of (w1 := (k_X3_takeStep T a_ a_loopsLeft a_probe a_p1 a_p1_cellNames a_p1_secretNames a_p1_pageNames a_p1_speed a_p1_letters a_p1_room a_p1_now a_p1_rounds a_p1_rounds_code a_p1_rounds_one a_p1_rounds_other a_p1_rounds_mate a_p2 a_p2_order a_p2_knows a_p2_made a_p2_sixteenths a_p2_dots a_p2_used a_p2_stands v_steps v_missed v_turns v_made v_found v_left v_seed v_loopsLeft v_p1_cells v_p1_secrets v_p1_pages v_p1_blind v_p1_rubs v_p1_letters v_p1_room v_p1_rounds_present v_p1_rounds_steps v_p1_rounds_size v_p1_rounds_code v_p1_rounds_mate v_p1_rounds_one v_p1_rounds_other v_p1_speed v_p2_inOrder v_p2_place v_p2_ill v_p2_shut v_p2_turns v_p2_madeInAll v_p2_dots v_p2_knows v_p2_made v_p2_order v_p2_sixteenths v_p2_stands v_p2_used)) hD rfl).sub (ws' := (k_X3_holds T a_p1 a_p1_cellNames a_p1_secretNames a_p1_pageNames a_p1_speed a_p1_letters a_p1_room a_p1_now a_p1_rounds a_p1_rounds_code a_p1_rounds_one a_p1_rounds_other a_p1_rounds_mate a_p2 a_p2_order a_p2_knows a_p2_made a_p2_sixteenths a_p2_dots a_p2_used a_p2_stands v_p1_cells v_p1_secrets v_p1_pages v_p1_blind v_p1_rubs v_p1_room v_p1_rounds_present v_p1_rounds_steps v_p1_rounds_size v_p1_rounds_code v_p1_rounds_one v_p1_rounds_other v_p2_inOrder v_p2_place v_p2_ill v_p2_shut v_p2_turns v_p2_madeInAll v_p2_knows v_p2_used)) [2, 4, 5, 6, 8, 9, 11, 13, 18] rfl rfl
    refine mp_calli (isC := [2, 4, 5, 6, 8, 9, 11, 13, 18]) (wc := (k_X3_holds T a_p1 a_p1_cellNames a_p1_secretNames a_p1_pageNames a_p1_speed a_p1_letters a_p1_room a_p1_now a_p1_rounds a_p1_rounds_code a_p1_rounds_one a_p1_rounds_other a_p1_rounds_mate a_p2 a_p2_order a_p2_knows a_p2_made a_p2_sixteenths a_p2_dots a_p2_used a_p2_stands v_p1_cells v_p1_secrets v_p1_pages v_p1_blind v_p1_rubs v_p1_room v_p1_rounds_present v_p1_rounds_steps v_p1_rounds_size v_p1_rounds_code v_p1_rounds_one v_p1_rounds_other v_p2_inOrder v_p2_place v_p2_ill v_p2_shut v_p2_turns v_p2_madeInAll v_p2_knows v_p2_used)) (w1 := (k_X3_holds T a_p1 a_p1_cellNames a_p1_secretNames a_p1_pageNames a_p1_speed a_p1_letters a_p1_room a_p1_now a_p1_rounds a_p1_rounds_code a_p1_rounds_one a_p1_rounds_other a_p1_rounds_mate a_p2 a_p2_order a_p2_knows a_p2_made a_p2_sixteenths a_p2_dots a_p2_used a_p2_stands v_p1_cells v_p1_secrets v_p1_pages v_p1_blind v_p1_rubs v_p1_room v_p1_rounds_present v_p1_rounds_steps v_p1_rounds_size v_p1_rounds_code v_p1_rounds_one v_p1_rounds_other v_p2_inOrder v_p2_place v_p2_ill v_p2_shut v_p2_turns v_p2_madeInAll v_p2_knows v_p2_used)) hP (mp_D_of hD rfl) hS hA rfl rfl (mp_runS (As := [.ref a_p1, .ref a_p2, .int x3]) (rest := []) X me_X3_holds lk_X3_84 (c_X3_holds l D T fu a_p1 a_p1_cellNames a_p1_secretNames a_p1_pageNames a_p1_speed a_p1_letters a_p1_room a_p1_now a_p1_rounds a_p1_rounds_code a_p1_rounds_one a_p1_rounds_other a_p1_rounds_mate a_p2 a_p2_order a_p2_knows a_p2_made a_p2_sixteenths a_p2_dots a_p2_used a_p2_stands x3 v_p1_secrets v_p1_pages v_p1_rubs v_p1_rounds_present v_p1_rounds_steps v_p1_rounds_size v_p2_inOrder v_p2_place v_p2_ill v_p2_shut v_p2_turns v_p2_madeInAll v_p1_cells v_p1_blind v_p1_room v_p1_rounds_code v_p1_rounds_one v_p1_rounds_other v_p2_knows v_p2_used r74 c75) rfl rfl ⟨(Nat.le_of_ble_eq_true rfl), (Nat.le_of_ble_eq_true rfl)⟩ hK hPc hDc rfl hl.1 rfl (Nat.le_of_ble_eq_true rfl) dX3_takeStep_132 ⟨Nat.zero_le _, Nat.zero_le _⟩) (fun H locs hP _ hS => ?_)
    replace hP : va_P D mp_cl (k_X3_takeStep T a_ a_loopsLeft a_probe a_p1 a_p1_cellNames a_p1_secretNames a_p1_pageNames a_p1_speed a_p1_letters a_p1_room a_p1_now a_p1_rounds a_p1_rounds_code a_p1_rounds_one a_p1_rounds_other a_p1_rounds_mate a_p2 a_p2_order a_p2_knows a_p2_made a_p2_sixteenths a_p2_dots a_p2_used a_p2_stands v_steps v_missed v_turns v_made v_found v_left v_seed v_loopsLeft v_p1_cells v_p1_secrets v_p1_pages v_p1_blind v_p1_rubs v_p1_letters v_p1_room v_p1_rounds_present v_p1_rounds_steps v_p1_rounds_size v_p1_rounds_code v_p1_rounds_mate v_p1_rounds_one v_p1_rounds_other v_p1_speed v_p2_inOrder v_p2_place v_p2_ill v_p2_shut v_p2_turns v_p2_madeInAll v_p2_dots v_p2_knows v_p2_made v_p2_order v_p2_sixteenths v_p2_stands v_p2_used) H := hP
    refine lv_if_eq (tgt := 144) hx hb dX3_takeStep_135 (by decide) (fun h76 => ?_) (fun h76 => ?_)
    · replace hf := if_t hf h76
      refine lv_aload hx hb dX3_takeStep_144 (lv_at hl 3 rfl) ?_
      refine mp_get X fl_X3_78 hK hP 5 rfl rfl dX3_takeStep_146 ?_
      refine lv_iload_n hx hb dX3_takeStep_149 rfl (lv_at hl 7 rfl) ?_
      obtain ⟨h77, hf⟩ := gi_of hf
      refine va_iald hx hb hK hP 7 0 rfl rfl h77 dX3_takeStep_150 ?_
      refine lv_iconst (v := (nI 1)) hx hb dX3_takeStep_151 (by decide) ?_
      refine lv_iadd hx hb dX3_takeStep_152 ?_
      exact w_X3_takeStep_153 X hK hA  fu a_ a_loopsLeft a_probe a_p1 a_p1_cellNames a_p1_secretNames a_p1_pageNames a_p1_speed a_p1_letters a_p1_room a_p1_now a_p1_rounds a_p1_rounds_code a_p1_rounds_one a_p1_rounds_other a_p1_rounds_mate a_p2 a_p2_order a_p2_knows a_p2_made a_p2_sixteenths a_p2_dots a_p2_used a_p2_stands v_steps v_turns v_made v_left v_p1_rounds_present v_p1_rounds_steps v_p1_cells v_p1_secrets v_p1_pages v_p1_blind v_p1_rubs v_p1_letters v_p1_room v_p1_rounds_size v_p1_rounds_code v_p1_rounds_mate v_p1_rounds_one v_p1_rounds_other v_p1_speed v_p2_inOrder v_p2_sixteenths r_ o_missed o_found o_seed o_loopsLeft o_p2_place o_p2_ill o_p2_shut o_p2_turns o_p2_madeInAll o_p2_dots o_p2_knows o_p2_made o_p2_order o_p2_stands o_p2_used   (nI 1) ((v_p1_rounds_mate (x3).toNatClampNeg) + (nI 1)) v_missed v_found v_seed v_loopsLeft v_p2_place v_p2_ill v_p2_shut v_p2_turns v_p2_madeInAll v_p2_dots v_p2_knows v_p2_made v_p2_order v_p2_stands v_p2_used hf _ _ _ hP (mp_D_of hD rfl) hS (lv_sub hl [4, 0] rfl)
    · replace hf := if_f hf h76
      refine lv_iload_n hx hb dX3_takeStep_138 rfl (lv_at hl 7 rfl) ?_
      refine lv_iconst (v := (nI 1)) hx hb dX3_takeStep_139 (by decide) ?_
      refine lv_iadd hx hb dX3_takeStep_140 ?_
      refine lv_goto (tgt := 153) hx hb dX3_takeStep_141 (by decide) ?_
      exact w_X3_takeStep_153 X hK hA  fu a_ a_loopsLeft a_probe a_p1 a_p1_cellNames a_p1_secretNames a_p1_pageNames a_p1_speed a_p1_letters a_p1_room a_p1_now a_p1_rounds a_p1_rounds_code a_p1_rounds_one a_p1_rounds_other a_p1_rounds_mate a_p2 a_p2_order a_p2_knows a_p2_made a_p2_sixteenths a_p2_dots a_p2_used a_p2_stands v_steps v_turns v_made v_left v_p1_rounds_present v_p1_rounds_steps v_p1_cells v_p1_secrets v_p1_pages v_p1_blind v_p1_rubs v_p1_letters v_p1_room v_p1_rounds_size v_p1_rounds_code v_p1_rounds_mate v_p1_rounds_one v_p1_rounds_other v_p1_speed v_p2_inOrder v_p2_sixteenths r_ o_missed o_found o_seed o_loopsLeft o_p2_place o_p2_ill o_p2_shut o_p2_turns o_p2_madeInAll o_p2_dots o_p2_knows o_p2_made o_p2_order o_p2_stands o_p2_used   (nI 1) (x3 + (nI 1)) v_missed v_found v_seed v_loopsLeft v_p2_place v_p2_ill v_p2_shut v_p2_turns v_p2_madeInAll v_p2_dots v_p2_knows v_p2_made v_p2_order v_p2_stands v_p2_used hf _ _ _ hP (mp_D_of hD rfl) hS (lv_sub hl [4, 0] rfl)
  replace hf := if_f hf h73
  by_cases h78 : (v_p1_rounds_code (x3).toNatClampNeg) = (nI 21)
  · replace hf := if_t hf h78
    refine lv_tableIn (off := 88) (tgt := 118) hx hb dX3_takeStep_30 (by rw [h78]; decide) (by rw [h78]; decide) (by rw [h78]; decide) (by decide) ?_
    refine lv_aload_n hx hb dX3_takeStep_118 rfl (lv_at hl 4 rfl) ?_
    refine mp_get X fl_X3_35 hK hP 0 rfl rfl dX3_takeStep_119 ?_
    refine lv_iload_n hx hb dX3_takeStep_122 rfl (lv_at hl 7 rfl) ?_
    refine lv_iload hx hb dX3_takeStep_123 (lv_at hl 2 rfl) ?_
    obtain ⟨h79, hf⟩ := gi_of hf
    refine va_iast hx hb hK hP (mp_D_of hD rfl) hS 1 0 rfl rfl h79 dX3_takeStep_125 (fun H locs hP _ hS => ?_)
    replace hP : va_P D mp_cl (k_X3_takeStep T a_ a_loopsLeft a_probe a_p1 a_p1_cellNames a_p1_secretNames a_p1_pageNames a_p1_speed a_p1_letters a_p1_room a_p1_now a_p1_rounds a_p1_rounds_code a_p1_rounds_one a_p1_rounds_other a_p1_rounds_mate a_p2 a_p2_order a_p2_knows a_p2_made a_p2_sixteenths a_p2_dots a_p2_used a_p2_stands v_steps v_missed v_turns v_made v_found v_left v_seed (upd v_loopsLeft (x3).toNatClampNeg y2) v_p1_cells v_p1_secrets v_p1_pages v_p1_blind v_p1_rubs v_p1_letters v_p1_room v_p1_rounds_present v_p1_rounds_steps v_p1_rounds_size v_p1_rounds_code v_p1_rounds_mate v_p1_rounds_one v_p1_rounds_other v_p1_speed v_p2_inOrder v_p2_place v_p2_ill v_p2_shut v_p2_turns v_p2_madeInAll v_p2_dots v_p2_knows v_p2_made v_p2_order v_p2_sixteenths v_p2_stands v_p2_used) H := hP
    refine lv_goto (tgt := 274) hx hb dX3_takeStep_126 (by decide) ?_
    exact w_X3_takeStep_274 X hK hA  fu a_ a_loopsLeft a_probe a_p1 a_p1_cellNames a_p1_secretNames a_p1_pageNames a_p1_speed a_p1_letters a_p1_room a_p1_now a_p1_rounds a_p1_rounds_code a_p1_rounds_one a_p1_rounds_other a_p1_rounds_mate a_p2 a_p2_order a_p2_knows a_p2_made a_p2_sixteenths a_p2_dots a_p2_used a_p2_stands v_steps v_turns v_made v_left v_p1_rounds_present v_p1_rounds_steps v_p1_cells v_p1_secrets v_p1_pages v_p1_blind v_p1_rubs v_p1_letters v_p1_room v_p1_rounds_size v_p1_rounds_code v_p1_rounds_mate v_p1_rounds_one v_p1_rounds_other v_p1_speed v_p2_inOrder v_p2_sixteenths r_ o_missed o_found o_seed o_loopsLeft o_p2_place o_p2_ill o_p2_shut o_p2_turns o_p2_madeInAll o_p2_dots o_p2_knows o_p2_made o_p2_order o_p2_stands o_p2_used   y3 (nI 1) v_missed v_found v_seed (upd v_loopsLeft (x3).toNatClampNeg y2) v_p2_place v_p2_ill v_p2_shut v_p2_turns v_p2_madeInAll v_p2_dots v_p2_knows v_p2_made v_p2_order v_p2_stands v_p2_used hf _ _ _ hP (mp_D_of hD rfl) hS (lv_sub hl [4, 1, 0] rfl)
  replace hf := if_f hf h78
  by_cases h80 : (v_p1_rounds_code (x3).toNatClampNeg) = (nI 22)
  · replace hf := if_t hf h80
    refine lv_tableIn (off := 236) (tgt := 266) hx hb dX3_takeStep_30 (by rw [h80]; decide) (by rw [h80]; decide) (by rw [h80]; decide) (by decide) ?_
    refine lv_aload_n hx hb dX3_takeStep_266 rfl (lv_at hl 4 rfl) ?_
    refine lv_aload_n hx hb dX3_takeStep_267 rfl (lv_at hl 5 rfl) ?_
    refine lv_aload_n hx hb dX3_takeStep_268 rfl (lv_at hl 6 rfl) ?_
    obtain ⟨⟨r81, u82, u83, u84, u85, u86⟩, c87, hf⟩ := bd_of hf
    dsimp only at hf
    have hPc := hP.sub (ws' := (k_X3_searches T a_ a_loopsLeft a_probe a_p1 a_p1_cellNames a_p1_secretNames a_p1_pageNames a_p1_speed a_p1_letters a_p1_room a_p1_now a_p1_rounds a_p2 a_p2_order a_p2_knows a_p2_made a_p2_sixteenths a_p2_dots a_p2_used a_p2_stands v_steps v_missed v_turns v_made v_found v_left v_seed v_p1_cells v_p1_secrets v_p1_pages v_p1_blind v_p1_rubs v_p2_inOrder v_p2_place v_p2_ill v_p2_shut v_p2_turns v_p2_madeInAll v_p2_dots v_p2_sixteenths v_p2_stands v_p2_used)) [0, 2, 11, 12, 16, 17, 18] rfl
    have hDc := (mp_D_of (w1 := (k_X3_takeStep T a_ a_loopsLeft a_probe a_p1 a_p1_cellNames a_p1_secretNames a_p1_pageNames a_p1_speed a_p1_letters a_p1_room a_p1_now a_p1_rounds a_p1_rounds_code a_p1_rounds_one a_p1_rounds_other a_p1_rounds_mate a_p2 a_p2_order a_p2_knows a_p2_made a_p2_sixteenths a_p2_dots a_p2_used a_p2_stands v_steps v_missed v_turns v_made v_found v_left v_seed v_loopsLeft v_p1_cells v_p1_secrets v_p1_pages v_p1_blind v_p1_rubs v_p1_letters v_p1_room v_p1_rounds_present v_p1_rounds_steps v_p1_rounds_size v_p1_rounds_code v_p1_rounds_mate v_p1_rounds_one v_p1_rounds_other v_p1_speed v_p2_inOrder v_p2_place v_p2_ill v_p2_shut v_p2_turns v_p2_madeInAll v_p2_dots v_p2_knows v_p2_made v_p2_order v_p2_sixteenths v_p2_stands v_p2_used)) hD rfl).sub (ws' := (k_X3_searches T a_ a_loopsLeft a_probe a_p1 a_p1_cellNames a_p1_secretNames a_p1_pageNames a_p1_speed a_p1_letters a_p1_room a_p1_now a_p1_rounds a_p2 a_p2_order a_p2_knows a_p2_made a_p2_sixteenths a_p2_dots a_p2_used a_p2_stands v_steps v_missed v_turns v_made v_found v_left v_seed v_p1_cells v_p1_secrets v_p1_pages v_p1_blind v_p1_rubs v_p2_inOrder v_p2_place v_p2_ill v_p2_shut v_p2_turns v_p2_madeInAll v_p2_dots v_p2_sixteenths v_p2_stands v_p2_used)) [0, 2, 11, 12, 16, 17, 18] rfl rfl
    refine mp_calli (isC := [0, 2, 11, 12, 16, 17, 18]) (wc := (k_X3_searches T a_ a_loopsLeft a_probe a_p1 a_p1_cellNames a_p1_secretNames a_p1_pageNames a_p1_speed a_p1_letters a_p1_room a_p1_now a_p1_rounds a_p2 a_p2_order a_p2_knows a_p2_made a_p2_sixteenths a_p2_dots a_p2_used a_p2_stands v_steps v_missed v_turns v_made v_found v_left v_seed v_p1_cells v_p1_secrets v_p1_pages v_p1_blind v_p1_rubs v_p2_inOrder v_p2_place v_p2_ill v_p2_shut v_p2_turns v_p2_madeInAll v_p2_dots v_p2_sixteenths v_p2_stands v_p2_used)) (w1 := (k_X3_searches T a_ a_loopsLeft a_probe a_p1 a_p1_cellNames a_p1_secretNames a_p1_pageNames a_p1_speed a_p1_letters a_p1_room a_p1_now a_p1_rounds a_p2 a_p2_order a_p2_knows a_p2_made a_p2_sixteenths a_p2_dots a_p2_used a_p2_stands v_steps v_missed v_turns v_made u82 v_left u83 v_p1_cells v_p1_secrets v_p1_pages v_p1_blind v_p1_rubs v_p2_inOrder v_p2_place v_p2_ill v_p2_shut v_p2_turns v_p2_madeInAll u84 v_p2_sixteenths u85 u86)) hP (mp_D_of hD rfl) hS hA rfl rfl (mp_runV (As := [.ref a_p1, .ref a_p2]) (rest := []) X me_X3_searches lk_X3_109 (c_X3_searches l D T fu a_ a_loopsLeft a_probe a_p1 a_p1_cellNames a_p1_secretNames a_p1_pageNames a_p1_speed a_p1_letters a_p1_room a_p1_now a_p1_rounds a_p2 a_p2_order a_p2_knows a_p2_made a_p2_sixteenths a_p2_dots a_p2_used a_p2_stands v_steps v_missed v_turns v_made v_left v_p1_cells v_p1_secrets v_p1_blind v_p1_rubs v_p2_inOrder v_p2_place v_p2_ill v_p2_turns v_p2_madeInAll v_found v_seed v_p1_pages v_p2_shut v_p2_dots v_p2_sixteenths v_p2_stands v_p2_used r81 u82 u83 u84 u85 u86 c87) rfl rfl ⟨(Nat.le_of_ble_eq_true rfl), (Nat.le_of_ble_eq_true rfl)⟩ hK hPc hDc rfl rfl rfl rfl hl.1 rfl (Nat.le_of_ble_eq_true rfl) dX3_takeStep_269 ⟨Nat.zero_le _, Nat.zero_le _⟩) (fun H locs hP _ hS => ?_)
    replace hP : va_P D mp_cl (k_X3_takeStep T a_ a_loopsLeft a_probe a_p1 a_p1_cellNames a_p1_secretNames a_p1_pageNames a_p1_speed a_p1_letters a_p1_room a_p1_now a_p1_rounds a_p1_rounds_code a_p1_rounds_one a_p1_rounds_other a_p1_rounds_mate a_p2 a_p2_order a_p2_knows a_p2_made a_p2_sixteenths a_p2_dots a_p2_used a_p2_stands v_steps v_missed v_turns v_made u82 v_left u83 v_loopsLeft v_p1_cells v_p1_secrets v_p1_pages v_p1_blind v_p1_rubs v_p1_letters v_p1_room v_p1_rounds_present v_p1_rounds_steps v_p1_rounds_size v_p1_rounds_code v_p1_rounds_mate v_p1_rounds_one v_p1_rounds_other v_p1_speed v_p2_inOrder v_p2_place v_p2_ill v_p2_shut v_p2_turns v_p2_madeInAll u84 v_p2_knows v_p2_made v_p2_order v_p2_sixteenths u85 u86) H := hP
    refine lv_istore (lv' := [(7, .int r81), (6, .int y3), (5, .int y2), (4, .ref a_p1_rounds), (0, .ref a_), (1, .ref a_p1), (2, .ref a_p2), (3, .int x3)]) hx hb dX3_takeStep_272 hl (by decide) rfl (fun ls hl => ?_)
    exact w_X3_takeStep_274 X hK hA  fu a_ a_loopsLeft a_probe a_p1 a_p1_cellNames a_p1_secretNames a_p1_pageNames a_p1_speed a_p1_letters a_p1_room a_p1_now a_p1_rounds a_p1_rounds_code a_p1_rounds_one a_p1_rounds_other a_p1_rounds_mate a_p2 a_p2_order a_p2_knows a_p2_made a_p2_sixteenths a_p2_dots a_p2_used a_p2_stands v_steps v_turns v_made v_left v_p1_rounds_present v_p1_rounds_steps v_p1_cells v_p1_secrets v_p1_pages v_p1_blind v_p1_rubs v_p1_letters v_p1_room v_p1_rounds_size v_p1_rounds_code v_p1_rounds_mate v_p1_rounds_one v_p1_rounds_other v_p1_speed v_p2_inOrder v_p2_sixteenths r_ o_missed o_found o_seed o_loopsLeft o_p2_place o_p2_ill o_p2_shut o_p2_turns o_p2_madeInAll o_p2_dots o_p2_knows o_p2_made o_p2_order o_p2_stands o_p2_used   y3 r81 v_missed u82 u83 v_loopsLeft v_p2_place v_p2_ill v_p2_shut v_p2_turns v_p2_madeInAll u84 v_p2_knows v_p2_made v_p2_order u85 u86 hf _ _ _ hP (mp_D_of hD rfl) hS (lv_sub hl [4, 1, 0] rfl)
  replace hf := if_f hf h80
  by_cases h88 : (v_p1_rounds_code (x3).toNatClampNeg) = (nI 23)
  · replace hf := if_t hf h88
    refine lv_tableIn (off := 78) (tgt := 108) hx hb dX3_takeStep_30 (by rw [h88]; decide) (by rw [h88]; decide) (by rw [h88]; decide) (by decide) ?_
    refine lv_aload hx hb dX3_takeStep_108 (lv_at hl 3 rfl) ?_
    refine mp_get X fl_X3_64 hK hP 5 rfl rfl dX3_takeStep_110 ?_
    refine lv_istore (lv' := [(6, .int v_p1_rounds_size), (7, .int (nI 1)), (5, .int y2), (4, .ref a_p1_rounds), (0, .ref a_), (1, .ref a_p1), (2, .ref a_p2), (3, .int x3)]) hx hb dX3_takeStep_113 hl (by decide) rfl (fun ls hl => ?_)
    refine lv_goto (tgt := 274) hx hb dX3_takeStep_115 (by decide) ?_
    exact w_X3_takeStep_274 X hK hA  fu a_ a_loopsLeft a_probe a_p1 a_p1_cellNames a_p1_secretNames a_p1_pageNames a_p1_speed a_p1_letters a_p1_room a_p1_now a_p1_rounds a_p1_rounds_code a_p1_rounds_one a_p1_rounds_other a_p1_rounds_mate a_p2 a_p2_order a_p2_knows a_p2_made a_p2_sixteenths a_p2_dots a_p2_used a_p2_stands v_steps v_turns v_made v_left v_p1_rounds_present v_p1_rounds_steps v_p1_cells v_p1_secrets v_p1_pages v_p1_blind v_p1_rubs v_p1_letters v_p1_room v_p1_rounds_size v_p1_rounds_code v_p1_rounds_mate v_p1_rounds_one v_p1_rounds_other v_p1_speed v_p2_inOrder v_p2_sixteenths r_ o_missed o_found o_seed o_loopsLeft o_p2_place o_p2_ill o_p2_shut o_p2_turns o_p2_madeInAll o_p2_dots o_p2_knows o_p2_made o_p2_order o_p2_stands o_p2_used   v_p1_rounds_size (nI 1) v_missed v_found v_seed v_loopsLeft v_p2_place v_p2_ill v_p2_shut v_p2_turns v_p2_madeInAll v_p2_dots v_p2_knows v_p2_made v_p2_order v_p2_stands v_p2_used hf _ _ _ hP (mp_D_of hD rfl) hS (lv_sub hl [4, 0, 1] rfl)
  replace hf := if_f hf h88
  refine lv_tableOut (tgt := 266) hx hb dX3_takeStep_30 (sw_out (8) 16 (fun k hk => match k, hk with | 0, _ => fun e => h5 (Int32.toInt_inj.mp e) | 1, _ => fun e => h10 (Int32.toInt_inj.mp e) | 2, _ => fun e => h18 (Int32.toInt_inj.mp e) | 3, _ => fun e => h26 (Int32.toInt_inj.mp e) | 4, _ => fun e => h34 (Int32.toInt_inj.mp e) | 5, _ => fun e => h36 (Int32.toInt_inj.mp e) | 6, _ => fun e => h38 (Int32.toInt_inj.mp e) | 7, _ => fun e => h43 (Int32.toInt_inj.mp e) | 8, _ => fun e => h50 (Int32.toInt_inj.mp e) | 9, _ => fun e => h52 (Int32.toInt_inj.mp e) | 10, _ => fun e => h60 (Int32.toInt_inj.mp e) | 11, _ => fun e => h68 (Int32.toInt_inj.mp e) | 12, _ => fun e => h73 (Int32.toInt_inj.mp e) | 13, _ => fun e => h78 (Int32.toInt_inj.mp e) | 14, _ => fun e => h80 (Int32.toInt_inj.mp e) | 15, _ => fun e => h88 (Int32.toInt_inj.mp e) | k + 16, hk => absurd hk (by omega)) (by decide)) (by decide) ?_
  refine lv_aload_n hx hb dX3_takeStep_266 rfl (lv_at hl 4 rfl) ?_
  refine lv_aload_n hx hb dX3_takeStep_267 rfl (lv_at hl 5 rfl) ?_
  refine lv_aload_n hx hb dX3_takeStep_268 rfl (lv_at hl 6 rfl) ?_
  obtain ⟨⟨r89, u90, u91, u92, u93, u94⟩, c95, hf⟩ := bd_of hf
  dsimp only at hf
  have hPc := hP.sub (ws' := (k_X3_searches T a_ a_loopsLeft a_probe a_p1 a_p1_cellNames a_p1_secretNames a_p1_pageNames a_p1_speed a_p1_letters a_p1_room a_p1_now a_p1_rounds a_p2 a_p2_order a_p2_knows a_p2_made a_p2_sixteenths a_p2_dots a_p2_used a_p2_stands v_steps v_missed v_turns v_made v_found v_left v_seed v_p1_cells v_p1_secrets v_p1_pages v_p1_blind v_p1_rubs v_p2_inOrder v_p2_place v_p2_ill v_p2_shut v_p2_turns v_p2_madeInAll v_p2_dots v_p2_sixteenths v_p2_stands v_p2_used)) [0, 2, 11, 12, 16, 17, 18] rfl
  have hDc := (mp_D_of (w1 := (k_X3_takeStep T a_ a_loopsLeft a_probe a_p1 a_p1_cellNames a_p1_secretNames a_p1_pageNames a_p1_speed a_p1_letters a_p1_room a_p1_now a_p1_rounds a_p1_rounds_code a_p1_rounds_one a_p1_rounds_other a_p1_rounds_mate a_p2 a_p2_order a_p2_knows a_p2_made a_p2_sixteenths a_p2_dots a_p2_used a_p2_stands v_steps v_missed v_turns v_made v_found v_left v_seed v_loopsLeft v_p1_cells v_p1_secrets v_p1_pages v_p1_blind v_p1_rubs v_p1_letters v_p1_room v_p1_rounds_present v_p1_rounds_steps v_p1_rounds_size v_p1_rounds_code v_p1_rounds_mate v_p1_rounds_one v_p1_rounds_other v_p1_speed v_p2_inOrder v_p2_place v_p2_ill v_p2_shut v_p2_turns v_p2_madeInAll v_p2_dots v_p2_knows v_p2_made v_p2_order v_p2_sixteenths v_p2_stands v_p2_used)) hD rfl).sub (ws' := (k_X3_searches T a_ a_loopsLeft a_probe a_p1 a_p1_cellNames a_p1_secretNames a_p1_pageNames a_p1_speed a_p1_letters a_p1_room a_p1_now a_p1_rounds a_p2 a_p2_order a_p2_knows a_p2_made a_p2_sixteenths a_p2_dots a_p2_used a_p2_stands v_steps v_missed v_turns v_made v_found v_left v_seed v_p1_cells v_p1_secrets v_p1_pages v_p1_blind v_p1_rubs v_p2_inOrder v_p2_place v_p2_ill v_p2_shut v_p2_turns v_p2_madeInAll v_p2_dots v_p2_sixteenths v_p2_stands v_p2_used)) [0, 2, 11, 12, 16, 17, 18] rfl rfl
  refine mp_calli (isC := [0, 2, 11, 12, 16, 17, 18]) (wc := (k_X3_searches T a_ a_loopsLeft a_probe a_p1 a_p1_cellNames a_p1_secretNames a_p1_pageNames a_p1_speed a_p1_letters a_p1_room a_p1_now a_p1_rounds a_p2 a_p2_order a_p2_knows a_p2_made a_p2_sixteenths a_p2_dots a_p2_used a_p2_stands v_steps v_missed v_turns v_made v_found v_left v_seed v_p1_cells v_p1_secrets v_p1_pages v_p1_blind v_p1_rubs v_p2_inOrder v_p2_place v_p2_ill v_p2_shut v_p2_turns v_p2_madeInAll v_p2_dots v_p2_sixteenths v_p2_stands v_p2_used)) (w1 := (k_X3_searches T a_ a_loopsLeft a_probe a_p1 a_p1_cellNames a_p1_secretNames a_p1_pageNames a_p1_speed a_p1_letters a_p1_room a_p1_now a_p1_rounds a_p2 a_p2_order a_p2_knows a_p2_made a_p2_sixteenths a_p2_dots a_p2_used a_p2_stands v_steps v_missed v_turns v_made u90 v_left u91 v_p1_cells v_p1_secrets v_p1_pages v_p1_blind v_p1_rubs v_p2_inOrder v_p2_place v_p2_ill v_p2_shut v_p2_turns v_p2_madeInAll u92 v_p2_sixteenths u93 u94)) hP (mp_D_of hD rfl) hS hA rfl rfl (mp_runV (As := [.ref a_p1, .ref a_p2]) (rest := []) X me_X3_searches lk_X3_109 (c_X3_searches l D T fu a_ a_loopsLeft a_probe a_p1 a_p1_cellNames a_p1_secretNames a_p1_pageNames a_p1_speed a_p1_letters a_p1_room a_p1_now a_p1_rounds a_p2 a_p2_order a_p2_knows a_p2_made a_p2_sixteenths a_p2_dots a_p2_used a_p2_stands v_steps v_missed v_turns v_made v_left v_p1_cells v_p1_secrets v_p1_blind v_p1_rubs v_p2_inOrder v_p2_place v_p2_ill v_p2_turns v_p2_madeInAll v_found v_seed v_p1_pages v_p2_shut v_p2_dots v_p2_sixteenths v_p2_stands v_p2_used r89 u90 u91 u92 u93 u94 c95) rfl rfl ⟨(Nat.le_of_ble_eq_true rfl), (Nat.le_of_ble_eq_true rfl)⟩ hK hPc hDc rfl rfl rfl rfl hl.1 rfl (Nat.le_of_ble_eq_true rfl) dX3_takeStep_269 ⟨Nat.zero_le _, Nat.zero_le _⟩) (fun H locs hP _ hS => ?_)
  replace hP : va_P D mp_cl (k_X3_takeStep T a_ a_loopsLeft a_probe a_p1 a_p1_cellNames a_p1_secretNames a_p1_pageNames a_p1_speed a_p1_letters a_p1_room a_p1_now a_p1_rounds a_p1_rounds_code a_p1_rounds_one a_p1_rounds_other a_p1_rounds_mate a_p2 a_p2_order a_p2_knows a_p2_made a_p2_sixteenths a_p2_dots a_p2_used a_p2_stands v_steps v_missed v_turns v_made u90 v_left u91 v_loopsLeft v_p1_cells v_p1_secrets v_p1_pages v_p1_blind v_p1_rubs v_p1_letters v_p1_room v_p1_rounds_present v_p1_rounds_steps v_p1_rounds_size v_p1_rounds_code v_p1_rounds_mate v_p1_rounds_one v_p1_rounds_other v_p1_speed v_p2_inOrder v_p2_place v_p2_ill v_p2_shut v_p2_turns v_p2_madeInAll u92 v_p2_knows v_p2_made v_p2_order v_p2_sixteenths u93 u94) H := hP
  refine lv_istore (lv' := [(7, .int r89), (6, .int y3), (5, .int y2), (4, .ref a_p1_rounds), (0, .ref a_), (1, .ref a_p1), (2, .ref a_p2), (3, .int x3)]) hx hb dX3_takeStep_272 hl (by decide) rfl (fun ls hl => ?_)
  exact w_X3_takeStep_274 X hK hA  fu a_ a_loopsLeft a_probe a_p1 a_p1_cellNames a_p1_secretNames a_p1_pageNames a_p1_speed a_p1_letters a_p1_room a_p1_now a_p1_rounds a_p1_rounds_code a_p1_rounds_one a_p1_rounds_other a_p1_rounds_mate a_p2 a_p2_order a_p2_knows a_p2_made a_p2_sixteenths a_p2_dots a_p2_used a_p2_stands v_steps v_turns v_made v_left v_p1_rounds_present v_p1_rounds_steps v_p1_cells v_p1_secrets v_p1_pages v_p1_blind v_p1_rubs v_p1_letters v_p1_room v_p1_rounds_size v_p1_rounds_code v_p1_rounds_mate v_p1_rounds_one v_p1_rounds_other v_p1_speed v_p2_inOrder v_p2_sixteenths r_ o_missed o_found o_seed o_loopsLeft o_p2_place o_p2_ill o_p2_shut o_p2_turns o_p2_madeInAll o_p2_dots o_p2_knows o_p2_made o_p2_order o_p2_stands o_p2_used   y3 r89 v_missed u90 u91 v_loopsLeft v_p2_place v_p2_ill v_p2_shut v_p2_turns v_p2_madeInAll u92 v_p2_knows v_p2_made v_p2_order u93 u94 hf _ _ _ hP (mp_D_of hD rfl) hS (lv_sub hl [4, 1, 0] rfl)


def k_X3_run (T : Nat → ClassId) (a_ a_loopsLeft a_probe a_p1 a_p1_cellNames a_p1_secretNames a_p1_pageNames a_p1_speed a_p1_letters a_p1_room a_p1_now a_p1_rounds a_p1_rounds_code a_p1_rounds_one a_p1_rounds_other a_p1_rounds_mate a_p2 a_p2_order a_p2_knows a_p2_made a_p2_sixteenths a_p2_dots a_p2_used a_p2_stands : Nat) (v_steps : Int32) (v_missed : Int32) (v_turns : Int32) (v_made : Int32) (v_found : Int32) (v_left : Int32) (v_seed : Int32) (v_loopsLeft : (Nat → Int32)) (v_p1_cells : Int32) (v_p1_secrets : Int32) (v_p1_pages : Int32) (v_p1_blind : Int32) (v_p1_rubs : Int32) (v_p1_letters : (Nat → Int32)) (v_p1_room : (Nat → Int32)) (v_p1_rounds_present : Int32) (v_p1_rounds_steps : Int32) (v_p1_rounds_size : Int32) (v_p1_rounds_code : (Nat → Int32)) (v_p1_rounds_mate : (Nat → Int32)) (v_p1_rounds_one : (Nat → Int32)) (v_p1_rounds_other : (Nat → Int32)) (v_p1_speed : (Nat → Int32)) (v_p2_inOrder : Int32) (v_p2_place : Int32) (v_p2_ill : Int32) (v_p2_shut : Int32) (v_p2_turns : Int32) (v_p2_madeInAll : Int32) (v_p2_dots : (Nat → Int32)) (v_p2_knows : (Nat → Int32)) (v_p2_made : (Nat → Int32)) (v_p2_order : (Nat → Int32)) (v_p2_sixteenths : (Nat → Int32)) (v_p2_stands : (Nat → Int32)) (v_p2_used : (Nat → Int32)) : va_W := [(a_, oX3 v_steps v_missed v_turns v_made v_found v_left v_seed a_loopsLeft a_probe), (a_loopsLeft, mp_aI T 60 v_loopsLeft), (a_p1, oX1 v_p1_cells v_p1_secrets v_p1_pages a_p1_cellNames a_p1_secretNames a_p1_pageNames a_p1_speed v_p1_blind v_p1_rubs a_p1_letters a_p1_room a_p1_now a_p1_rounds), (a_p1_letters, mp_aI T 6 v_p1_letters), (a_p1_room, mp_aI T 6 v_p1_room), (a_p1_rounds, oX5 v_p1_rounds_present v_p1_rounds_steps v_p1_rounds_size a_p1_rounds_code a_p1_rounds_one a_p1_rounds_other a_p1_rounds_mate), (a_p1_rounds_code, mp_aI T 60 v_p1_rounds_code), (a_p1_rounds_mate, mp_aI T 60 v_p1_rounds_mate), (a_p1_rounds_one, mp_aI T 60 v_p1_rounds_one), (a_p1_rounds_other, mp_aI T 60 v_p1_rounds_other), (a_p1_speed, mp_aI T 8 v_p1_speed), (a_p2, oX7 a_p2_order v_p2_inOrder v_p2_place a_p2_knows a_p2_made a_p2_sixteenths a_p2_dots a_p2_used a_p2_stands v_p2_ill v_p2_shut v_p2_turns v_p2_madeInAll), (a_p2_dots, mp_aI T 36 v_p2_dots), (a_p2_knows, mp_aI T 8 v_p2_knows), (a_p2_made, mp_aI T 8 v_p2_made), (a_p2_order, mp_aI T 8 v_p2_order), (a_p2_sixteenths, mp_aI T 6 v_p2_sixteenths), (a_p2_stands, mp_aI T 6 v_p2_stands), (a_p2_used, mp_aI T 6 v_p2_used)]
set_option maxHeartbeats 4000000 in
set_option maxRecDepth 100000 in
theorem w_X3_run_143 {p : Program} {l : Launch} {e : Env} {s : State} {m : MethodId} {args : Array Value} {below : List Frame} {meth : Method} {c : Code} {D : va_G} {T : Nat → ClassId} {A : Nat → Prop} (X : mp_X p s m meth c args RX3 "run" cX3_run 9 none) (hK : va_K D mp_cl (mp_ty T) s) (hA : ∀ q, s.heap.size ≤ q → A q) (fu : Nat) (a_ a_loopsLeft a_probe a_p1 a_p1_cellNames a_p1_secretNames a_p1_pageNames a_p1_speed a_p1_letters a_p1_room a_p1_now a_p1_rounds a_p1_rounds_code a_p1_rounds_one a_p1_rounds_other a_p1_rounds_mate a_p2 a_p2_order a_p2_knows a_p2_made a_p2_sixteenths a_p2_dots a_p2_used a_p2_stands : Nat) (v_p1_rounds_present : Int32) (v_p1_rounds_steps : Int32) (v_p1_cells : Int32) (v_p1_secrets : Int32) (v_p1_pages : Int32) (v_p1_blind : Int32) (v_p1_rubs : Int32) (v_p1_letters : (Nat → Int32)) (v_p1_room : (Nat → Int32)) (v_p1_rounds_size : Int32) (v_p1_rounds_code : (Nat → Int32)) (v_p1_rounds_mate : (Nat → Int32)) (v_p1_rounds_one : (Nat → Int32)) (v_p1_rounds_other : (Nat → Int32)) (v_p1_speed : (Nat → Int32)) (v_p2_inOrder : Int32) (v_p2_sixteenths : (Nat → Int32)) (o_steps : Int32) (o_missed : Int32) (o_turns : Int32) (o_made : Int32) (o_found : Int32) (o_left : Int32) (o_seed : Int32) (o_loopsLeft : (Nat → Int32)) (o_p2_place : Int32) (o_p2_ill : Int32) (o_p2_shut : Int32) (o_p2_turns : Int32) (o_p2_madeInAll : Int32) (o_p2_dots : (Nat → Int32)) (o_p2_knows : (Nat → Int32)) (o_p2_made : (Nat → Int32)) (o_p2_order : (Nat → Int32)) (o_p2_stands : (Nat → Int32)) (o_p2_used : (Nat → Int32)) :
    ∀  (z5 : Int32) (z6 : Int32) (v_steps : Int32) (v_missed : Int32) (v_turns : Int32) (v_made : Int32) (v_found : Int32) (v_left : Int32) (v_seed : Int32) (v_loopsLeft : (Nat → Int32)) (v_p2_place : Int32) (v_p2_ill : Int32) (v_p2_shut : Int32) (v_p2_turns : Int32) (v_p2_madeInAll : Int32) (v_p2_dots : (Nat → Int32)) (v_p2_knows : (Nat → Int32)) (v_p2_made : (Nat → Int32)) (v_p2_order : (Nat → Int32)) (v_p2_stands : (Nat → Int32)) (v_p2_used : (Nat → Int32)), f_X3_run_143 fu v_p1_cells v_p1_secrets v_p1_pages v_p1_blind v_p1_rubs v_p1_letters v_p1_room v_p1_rounds_size v_p1_rounds_code v_p1_rounds_mate v_p1_rounds_one v_p1_rounds_other v_p1_speed v_p2_inOrder v_p2_sixteenths  z5 z6 v_steps v_missed v_turns v_made v_found v_left v_seed v_loopsLeft v_p2_place v_p2_ill v_p2_shut v_p2_turns v_p2_madeInAll v_p2_dots v_p2_knows v_p2_made v_p2_order v_p2_stands v_p2_used = some (o_steps, o_missed, o_turns, o_made, o_found, o_left, o_seed, o_loopsLeft, o_p2_place, o_p2_ill, o_p2_shut, o_p2_turns, o_p2_madeInAll, o_p2_dots, o_p2_knows, o_p2_made, o_p2_order, o_p2_stands, o_p2_used) → ∀ (H : Heap) (locs : List Loc) (ls : Array Slot), va_P D mp_cl (k_X3_run T a_ a_loopsLeft a_probe a_p1 a_p1_cellNames a_p1_secretNames a_p1_pageNames a_p1_speed a_p1_letters a_p1_room a_p1_now a_p1_rounds a_p1_rounds_code a_p1_rounds_one a_p1_rounds_other a_p1_rounds_mate a_p2 a_p2_order a_p2_knows a_p2_made a_p2_sixteenths a_p2_dots a_p2_used a_p2_stands v_steps v_missed v_turns v_made v_found v_left v_seed v_loopsLeft v_p1_cells v_p1_secrets v_p1_pages v_p1_blind v_p1_rubs v_p1_letters v_p1_room v_p1_rounds_present v_p1_rounds_steps v_p1_rounds_size v_p1_rounds_code v_p1_rounds_mate v_p1_rounds_one v_p1_rounds_other v_p1_speed v_p2_inOrder v_p2_place v_p2_ill v_p2_shut v_p2_turns v_p2_madeInAll v_p2_dots v_p2_knows v_p2_made v_p2_order v_p2_sixteenths v_p2_stands v_p2_used) H → va_D A (k_X3_run T a_ a_loopsLeft a_probe a_p1 a_p1_cellNames a_p1_secretNames a_p1_pageNames a_p1_speed a_p1_letters a_p1_room a_p1_now a_p1_rounds a_p1_rounds_code a_p1_rounds_one a_p1_rounds_other a_p1_rounds_mate a_p2 a_p2_order a_p2_knows a_p2_made a_p2_sixteenths a_p2_dots a_p2_used a_p2_stands v_steps v_missed v_turns v_made v_found v_left v_seed v_loopsLeft v_p1_cells v_p1_secrets v_p1_pages v_p1_blind v_p1_rubs v_p1_letters v_p1_room v_p1_rounds_present v_p1_rounds_steps v_p1_rounds_size v_p1_rounds_code v_p1_rounds_mate v_p1_rounds_one v_p1_rounds_other v_p1_speed v_p2_inOrder v_p2_place v_p2_ill v_p2_shut v_p2_turns v_p2_madeInAll v_p2_dots v_p2_knows v_p2_made v_p2_order v_p2_sixteenths v_p2_stands v_p2_used) → va_S A s.heap H locs → lv_has ls 9 [(0, .ref a_), (2, .ref a_p2), (5, .int z5), (6, .int z6)] → W p l e ({ frames := 6, cells := 0, slots := 0, locals := 168 }) s m args below meth c H locs 0 0 (MQ below ((mp_Qv D (k_X3_run T a_ a_loopsLeft a_probe a_p1 a_p1_cellNames a_p1_secretNames a_p1_pageNames a_p1_speed a_p1_letters a_p1_room a_p1_now a_p1_rounds a_p1_rounds_code a_p1_rounds_one a_p1_rounds_other a_p1_rounds_mate a_p2 a_p2_order a_p2_knows a_p2_made a_p2_sixteenths a_p2_dots a_p2_used a_p2_stands o_steps o_missed o_turns o_made o_found o_left o_seed o_loopsLeft v_p1_cells v_p1_secrets v_p1_pages v_p1_blind v_p1_rubs v_p1_letters v_p1_room v_p1_rounds_present v_p1_rounds_steps v_p1_rounds_size v_p1_rounds_code v_p1_rounds_mate v_p1_rounds_one v_p1_rounds_other v_p1_speed v_p2_inOrder o_p2_place o_p2_ill o_p2_shut o_p2_turns o_p2_madeInAll o_p2_dots o_p2_knows o_p2_made o_p2_order v_p2_sixteenths o_p2_stands o_p2_used)) A) args s 0 0 A) (F0 m 143 ls []) := by
  have hx := X.1
  have hb := X.2.1
  have hml := X.2.2.1
  have hown := X.2.2.2.2.1
  have hts := X.2.2.2.2.2.1
  intro z5 z6 v_steps v_missed v_turns v_made v_found v_left v_seed v_loopsLeft v_p2_place v_p2_ill v_p2_shut v_p2_turns v_p2_madeInAll v_p2_dots v_p2_knows v_p2_made v_p2_order v_p2_stands v_p2_used hf H locs ls hP hD hS hl
  replace hf : lt_ (v_p2_turns - z5) (fun (y1 : Int32) => lt_ (v_p2_madeInAll - z6) (fun (y2 : Int32) => some (v_steps, v_missed, y1, y2, v_found, v_left, v_seed, v_loopsLeft, v_p2_place, v_p2_ill, v_p2_shut, v_p2_turns, v_p2_madeInAll, v_p2_dots, v_p2_knows, v_p2_made, v_p2_order, v_p2_stands, v_p2_used))) = some (o_steps, o_missed, o_turns, o_made, o_found, o_left, o_seed, o_loopsLeft, o_p2_place, o_p2_ill, o_p2_shut, o_p2_turns, o_p2_madeInAll, o_p2_dots, o_p2_knows, o_p2_made, o_p2_order, o_p2_stands, o_p2_used) := hf
  refine lv_aload_n hx hb dX3_run_143 rfl (lv_at hl 0 rfl) ?_
  refine lv_aload_n hx hb dX3_run_144 rfl (lv_at hl 1 rfl) ?_
  refine mp_get X fl_X3_59 hK hP 11 rfl rfl dX3_run_145 ?_
  refine lv_iload hx hb dX3_run_148 (lv_at hl 2 rfl) ?_
  refine lv_isub hx hb dX3_run_150 ?_
  refine lv_topi (fun y1 e1 => ?_)
  replace hf := lt_of e1 hf
  refine mp_putf X fl_X3_18 fp_X3 rfl hK hP (mp_D_of hD rfl) hS 0 rfl rfl rfl (Nat.le_of_ble_eq_true rfl) dX3_run_151 (fun H locs hP _ hS => ?_)
  replace hP : va_P D mp_cl (k_X3_run T a_ a_loopsLeft a_probe a_p1 a_p1_cellNames a_p1_secretNames a_p1_pageNames a_p1_speed a_p1_letters a_p1_room a_p1_now a_p1_rounds a_p1_rounds_code a_p1_rounds_one a_p1_rounds_other a_p1_rounds_mate a_p2 a_p2_order a_p2_knows a_p2_made a_p2_sixteenths a_p2_dots a_p2_used a_p2_stands v_steps v_missed y1 v_made v_found v_left v_seed v_loopsLeft v_p1_cells v_p1_secrets v_p1_pages v_p1_blind v_p1_rubs v_p1_letters v_p1_room v_p1_rounds_present v_p1_rounds_steps v_p1_rounds_size v_p1_rounds_code v_p1_rounds_mate v_p1_rounds_one v_p1_rounds_other v_p1_speed v_p2_inOrder v_p2_place v_p2_ill v_p2_shut v_p2_turns v_p2_madeInAll v_p2_dots v_p2_knows v_p2_made v_p2_order v_p2_sixteenths v_p2_stands v_p2_used) H := hP
  refine lv_aload_n hx hb dX3_run_154 rfl (lv_at hl 0 rfl) ?_
  refine lv_aload_n hx hb dX3_run_155 rfl (lv_at hl 1 rfl) ?_
  refine mp_get X fl_X3_60 hK hP 11 rfl rfl dX3_run_156 ?_
  refine lv_iload hx hb dX3_run_159 (lv_at hl 3 rfl) ?_
  refine lv_isub hx hb dX3_run_161 ?_
  refine lv_topi (fun y2 e2 => ?_)
  replace hf := lt_of e2 hf
  refine mp_putf X fl_X3_21 fp_X3 rfl hK hP (mp_D_of hD rfl) hS 0 rfl rfl rfl (Nat.le_of_ble_eq_true rfl) dX3_run_162 (fun H locs hP _ hS => ?_)
  replace hP : va_P D mp_cl (k_X3_run T a_ a_loopsLeft a_probe a_p1 a_p1_cellNames a_p1_secretNames a_p1_pageNames a_p1_speed a_p1_letters a_p1_room a_p1_now a_p1_rounds a_p1_rounds_code a_p1_rounds_one a_p1_rounds_other a_p1_rounds_mate a_p2 a_p2_order a_p2_knows a_p2_made a_p2_sixteenths a_p2_dots a_p2_used a_p2_stands v_steps v_missed y1 y2 v_found v_left v_seed v_loopsLeft v_p1_cells v_p1_secrets v_p1_pages v_p1_blind v_p1_rubs v_p1_letters v_p1_room v_p1_rounds_present v_p1_rounds_steps v_p1_rounds_size v_p1_rounds_code v_p1_rounds_mate v_p1_rounds_one v_p1_rounds_other v_p1_speed v_p2_inOrder v_p2_place v_p2_ill v_p2_shut v_p2_turns v_p2_madeInAll v_p2_dots v_p2_knows v_p2_made v_p2_order v_p2_sixteenths v_p2_stands v_p2_used) H := hP
  cases hf
  exact mp_retv X hP hS dX3_run_165

set_option maxHeartbeats 4000000 in
set_option maxRecDepth 100000 in
theorem w_X3_run_49 {p : Program} {l : Launch} {e : Env} {s : State} {m : MethodId} {args : Array Value} {below : List Frame} {meth : Method} {c : Code} {D : va_G} {T : Nat → ClassId} {A : Nat → Prop} (X : mp_X p s m meth c args RX3 "run" cX3_run 9 none) (hK : va_K D mp_cl (mp_ty T) s) (hA : ∀ q, s.heap.size ≤ q → A q) (fu : Nat) (a_ a_loopsLeft a_probe a_p1 a_p1_cellNames a_p1_secretNames a_p1_pageNames a_p1_speed a_p1_letters a_p1_room a_p1_now a_p1_rounds a_p1_rounds_code a_p1_rounds_one a_p1_rounds_other a_p1_rounds_mate a_p2 a_p2_order a_p2_knows a_p2_made a_p2_sixteenths a_p2_dots a_p2_used a_p2_stands : Nat) (v_p1_rounds_present : Int32) (v_p1_rounds_steps : Int32) (v_p1_cells : Int32) (v_p1_secrets : Int32) (v_p1_pages : Int32) (v_p1_blind : Int32) (v_p1_rubs : Int32) (v_p1_letters : (Nat → Int32)) (v_p1_room : (Nat → Int32)) (v_p1_rounds_size : Int32) (v_p1_rounds_code : (Nat → Int32)) (v_p1_rounds_mate : (Nat → Int32)) (v_p1_rounds_one : (Nat → Int32)) (v_p1_rounds_other : (Nat → Int32)) (v_p1_speed : (Nat → Int32)) (v_p2_inOrder : Int32) (v_p2_sixteenths : (Nat → Int32)) (o_steps : Int32) (o_missed : Int32) (o_turns : Int32) (o_made : Int32) (o_found : Int32) (o_left : Int32) (o_seed : Int32) (o_loopsLeft : (Nat → Int32)) (o_p2_place : Int32) (o_p2_ill : Int32) (o_p2_shut : Int32) (o_p2_turns : Int32) (o_p2_madeInAll : Int32) (o_p2_dots : (Nat → Int32)) (o_p2_knows : (Nat → Int32)) (o_p2_made : (Nat → Int32)) (o_p2_order : (Nat → Int32)) (o_p2_stands : (Nat → Int32)) (o_p2_used : (Nat → Int32)) :
    ∀ (n : Nat) (z5 : Int32) (z6 : Int32) (z7 : Int32) (z8 : Int32) (v_steps : Int32) (v_missed : Int32) (v_turns : Int32) (v_made : Int32) (v_found : Int32) (v_left : Int32) (v_seed : Int32) (v_loopsLeft : (Nat → Int32)) (v_p2_place : Int32) (v_p2_ill : Int32) (v_p2_shut : Int32) (v_p2_turns : Int32) (v_p2_madeInAll : Int32) (v_p2_dots : (Nat → Int32)) (v_p2_knows : (Nat → Int32)) (v_p2_made : (Nat → Int32)) (v_p2_order : (Nat → Int32)) (v_p2_stands : (Nat → Int32)) (v_p2_used : (Nat → Int32)), f_X3_run_49 fu v_p1_cells v_p1_secrets v_p1_pages v_p1_blind v_p1_rubs v_p1_letters v_p1_room v_p1_rounds_size v_p1_rounds_code v_p1_rounds_mate v_p1_rounds_one v_p1_rounds_other v_p1_speed v_p2_inOrder v_p2_sixteenths  n z5 z6 z7 z8 v_steps v_missed v_turns v_made v_found v_left v_seed v_loopsLeft v_p2_place v_p2_ill v_p2_shut v_p2_turns v_p2_madeInAll v_p2_dots v_p2_knows v_p2_made v_p2_order v_p2_stands v_p2_used = some (o_steps, o_missed, o_turns, o_made, o_found, o_left, o_seed, o_loopsLeft, o_p2_place, o_p2_ill, o_p2_shut, o_p2_turns, o_p2_madeInAll, o_p2_dots, o_p2_knows, o_p2_made, o_p2_order, o_p2_stands, o_p2_used) → ∀ (H : Heap) (locs : List Loc) (ls : Array Slot), va_P D mp_cl (k_X3_run T a_ a_loopsLeft a_probe a_p1 a_p1_cellNames a_p1_secretNames a_p1_pageNames a_p1_speed a_p1_letters a_p1_room a_p1_now a_p1_rounds a_p1_rounds_code a_p1_rounds_one a_p1_rounds_other a_p1_rounds_mate a_p2 a_p2_order a_p2_knows a_p2_made a_p2_sixteenths a_p2_dots a_p2_used a_p2_stands v_steps v_missed v_turns v_made v_found v_left v_seed v_loopsLeft v_p1_cells v_p1_secrets v_p1_pages v_p1_blind v_p1_rubs v_p1_letters v_p1_room v_p1_rounds_present v_p1_rounds_steps v_p1_rounds_size v_p1_rounds_code v_p1_rounds_mate v_p1_rounds_one v_p1_rounds_other v_p1_speed v_p2_inOrder v_p2_place v_p2_ill v_p2_shut v_p2_turns v_p2_madeInAll v_p2_dots v_p2_knows v_p2_made v_p2_order v_p2_sixteenths v_p2_stands v_p2_used) H → va_D A (k_X3_run T a_ a_loopsLeft a_probe a_p1 a_p1_cellNames a_p1_secretNames a_p1_pageNames a_p1_speed a_p1_letters a_p1_room a_p1_now a_p1_rounds a_p1_rounds_code a_p1_rounds_one a_p1_rounds_other a_p1_rounds_mate a_p2 a_p2_order a_p2_knows a_p2_made a_p2_sixteenths a_p2_dots a_p2_used a_p2_stands v_steps v_missed v_turns v_made v_found v_left v_seed v_loopsLeft v_p1_cells v_p1_secrets v_p1_pages v_p1_blind v_p1_rubs v_p1_letters v_p1_room v_p1_rounds_present v_p1_rounds_steps v_p1_rounds_size v_p1_rounds_code v_p1_rounds_mate v_p1_rounds_one v_p1_rounds_other v_p1_speed v_p2_inOrder v_p2_place v_p2_ill v_p2_shut v_p2_turns v_p2_madeInAll v_p2_dots v_p2_knows v_p2_made v_p2_order v_p2_sixteenths v_p2_stands v_p2_used) → va_S A s.heap H locs → lv_has ls 9 [(0, .ref a_), (1, .ref a_p1), (2, .ref a_p2), (4, .ref a_p1_rounds), (5, .int z5), (6, .int z6), (7, .int z7), (8, .int z8)] → W p l e ({ frames := 6, cells := 0, slots := 0, locals := 168 }) s m args below meth c H locs 0 0 (MQ below ((mp_Qv D (k_X3_run T a_ a_loopsLeft a_probe a_p1 a_p1_cellNames a_p1_secretNames a_p1_pageNames a_p1_speed a_p1_letters a_p1_room a_p1_now a_p1_rounds a_p1_rounds_code a_p1_rounds_one a_p1_rounds_other a_p1_rounds_mate a_p2 a_p2_order a_p2_knows a_p2_made a_p2_sixteenths a_p2_dots a_p2_used a_p2_stands o_steps o_missed o_turns o_made o_found o_left o_seed o_loopsLeft v_p1_cells v_p1_secrets v_p1_pages v_p1_blind v_p1_rubs v_p1_letters v_p1_room v_p1_rounds_present v_p1_rounds_steps v_p1_rounds_size v_p1_rounds_code v_p1_rounds_mate v_p1_rounds_one v_p1_rounds_other v_p1_speed v_p2_inOrder o_p2_place o_p2_ill o_p2_shut o_p2_turns o_p2_madeInAll o_p2_dots o_p2_knows o_p2_made o_p2_order v_p2_sixteenths o_p2_stands o_p2_used)) A) args s 0 0 A) (F0 m 49 ls []) := by
  have hx := X.1
  have hb := X.2.1
  have hml := X.2.2.1
  have hown := X.2.2.2.2.1
  have hts := X.2.2.2.2.2.1
  intro n
  induction n with
  | zero => intro z5 z6 z7 z8 v_steps v_missed v_turns v_made v_found v_left v_seed v_loopsLeft v_p2_place v_p2_ill v_p2_shut v_p2_turns v_p2_madeInAll v_p2_dots v_p2_knows v_p2_made v_p2_order v_p2_stands v_p2_used hf; exact absurd hf (by intro h; cases h)
  | succ n ih =>
    intro z5 z6 z7 z8 v_steps v_missed v_turns v_made v_found v_left v_seed v_loopsLeft v_p2_place v_p2_ill v_p2_shut v_p2_turns v_p2_madeInAll v_p2_dots v_p2_knows v_p2_made v_p2_order v_p2_stands v_p2_used hf H locs ls hP hD hS hl
    replace hf : (if (nI 1000000) ≤ z8 then f_X3_run_143 fu v_p1_cells v_p1_secrets v_p1_pages v_p1_blind v_p1_rubs v_p1_letters v_p1_room v_p1_rounds_size v_p1_rounds_code v_p1_rounds_mate v_p1_rounds_one v_p1_rounds_other v_p1_speed v_p2_inOrder v_p2_sixteenths  z5 z6 v_steps v_missed v_turns v_made v_found v_left v_seed v_loopsLeft v_p2_place v_p2_ill v_p2_shut v_p2_turns v_p2_madeInAll v_p2_dots v_p2_knows v_p2_made v_p2_order v_p2_stands v_p2_used else (if v_p1_rounds_size ≤ z7 then f_X3_run_143 fu v_p1_cells v_p1_secrets v_p1_pages v_p1_blind v_p1_rubs v_p1_letters v_p1_room v_p1_rounds_size v_p1_rounds_code v_p1_rounds_mate v_p1_rounds_one v_p1_rounds_other v_p1_speed v_p2_inOrder v_p2_sixteenths  z5 z6 v_steps v_missed v_turns v_made v_found v_left v_seed v_loopsLeft v_p2_place v_p2_ill v_p2_shut v_p2_turns v_p2_madeInAll v_p2_dots v_p2_knows v_p2_made v_p2_order v_p2_stands v_p2_used else gi_ z7 60 ((if (v_p1_rounds_code (z7).toNatClampNeg) = (nI 22) then bd_ (f_X3_behindEnd z7 v_loopsLeft v_p1_rounds_code v_p1_rounds_mate) (fun (z : Int32 × (Nat → Int32)) => match z with | (r26, u27) => lt_ (z8 + (nI 1)) (fun (y29 : Int32) => f_X3_run_49 fu v_p1_cells v_p1_secrets v_p1_pages v_p1_blind v_p1_rubs v_p1_letters v_p1_room v_p1_rounds_size v_p1_rounds_code v_p1_rounds_mate v_p1_rounds_one v_p1_rounds_other v_p1_speed v_p2_inOrder v_p2_sixteenths  n z5 z6 r26 y29 v_steps v_missed v_turns v_made v_found v_left v_seed u27 v_p2_place v_p2_ill v_p2_shut v_p2_turns v_p2_madeInAll v_p2_dots v_p2_knows v_p2_made v_p2_order v_p2_stands v_p2_used)) else (if v_steps < (nI 300) then lt_ (v_steps + (nI 1)) (fun (y6 : Int32) => bd_ (f_X3_takeStep fu z7 v_missed v_found v_seed v_loopsLeft v_p1_cells v_p1_secrets v_p1_pages v_p1_blind v_p1_rubs v_p1_letters v_p1_room v_p1_rounds_size v_p1_rounds_code v_p1_rounds_mate v_p1_rounds_one v_p1_rounds_other v_p1_speed v_p2_inOrder v_p2_place v_p2_ill v_p2_shut v_p2_turns v_p2_madeInAll v_p2_dots v_p2_knows v_p2_made v_p2_order v_p2_sixteenths v_p2_stands v_p2_used) (fun (z : Int32 × Int32 × Int32 × Int32 × (Nat → Int32) × Int32 × Int32 × Int32 × Int32 × Int32 × (Nat → Int32) × (Nat → Int32) × (Nat → Int32) × (Nat → Int32) × (Nat → Int32) × (Nat → Int32)) => match z with | (r7, u8, u9, u10, u11, u12, u13, u14, u15, u16, u17, u18, u19, u20, u21, u22) => lt_ (z8 + (nI 1)) (fun (y24 : Int32) => f_X3_run_49 fu v_p1_cells v_p1_secrets v_p1_pages v_p1_blind v_p1_rubs v_p1_letters v_p1_room v_p1_rounds_size v_p1_rounds_code v_p1_rounds_mate v_p1_rounds_one v_p1_rounds_other v_p1_speed v_p2_inOrder v_p2_sixteenths  n z5 z6 r7 y24 y6 u8 v_turns v_made u9 v_left u10 u11 u12 u13 u14 u15 u16 u17 u18 u19 u20 u21 u22))) else lt_ (z8 + (nI 1)) (fun (y25 : Int32) => f_X3_run_49 fu v_p1_cells v_p1_secrets v_p1_pages v_p1_blind v_p1_rubs v_p1_letters v_p1_room v_p1_rounds_size v_p1_rounds_code v_p1_rounds_mate v_p1_rounds_one v_p1_rounds_other v_p1_speed v_p2_inOrder v_p2_sixteenths  n z5 z6 v_p1_rounds_size y25 v_steps v_missed v_turns v_made v_found (nI 1) v_seed v_loopsLeft v_p2_place v_p2_ill v_p2_shut v_p2_turns v_p2_madeInAll v_p2_dots v_p2_knows v_p2_made v_p2_order v_p2_stands v_p2_used)))))) = some (o_steps, o_missed, o_turns, o_made, o_found, o_left, o_seed, o_loopsLeft, o_p2_place, o_p2_ill, o_p2_shut, o_p2_turns, o_p2_madeInAll, o_p2_dots, o_p2_knows, o_p2_made, o_p2_order, o_p2_stands, o_p2_used) := hf
    refine lv_iload hx hb dX3_run_49 (lv_at hl 7 rfl) ?_
    refine lv_ldc (v := (nI 1000000)) hx hb hown (hts _ (cw_X3_63)) dX3_run_51 ?_
    refine lv_icmp_ge (tgt := 143) hx hb dX3_run_53 (by decide) (fun h1 => ?_) (fun h1 => ?_)
    · replace hf := if_t hf h1
      exact w_X3_run_143 X hK hA  fu a_ a_loopsLeft a_probe a_p1 a_p1_cellNames a_p1_secretNames a_p1_pageNames a_p1_speed a_p1_letters a_p1_room a_p1_now a_p1_rounds a_p1_rounds_code a_p1_rounds_one a_p1_rounds_other a_p1_rounds_mate a_p2 a_p2_order a_p2_knows a_p2_made a_p2_sixteenths a_p2_dots a_p2_used a_p2_stands v_p1_rounds_present v_p1_rounds_steps v_p1_cells v_p1_secrets v_p1_pages v_p1_blind v_p1_rubs v_p1_letters v_p1_room v_p1_rounds_size v_p1_rounds_code v_p1_rounds_mate v_p1_rounds_one v_p1_rounds_other v_p1_speed v_p2_inOrder v_p2_sixteenths o_steps o_missed o_turns o_made o_found o_left o_seed o_loopsLeft o_p2_place o_p2_ill o_p2_shut o_p2_turns o_p2_madeInAll o_p2_dots o_p2_knows o_p2_made o_p2_order o_p2_stands o_p2_used   z5 z6 v_steps v_missed v_turns v_made v_found v_left v_seed v_loopsLeft v_p2_place v_p2_ill v_p2_shut v_p2_turns v_p2_madeInAll v_p2_dots v_p2_knows v_p2_made v_p2_order v_p2_stands v_p2_used hf _ _ _ hP (mp_D_of hD rfl) hS (lv_sub hl [0, 2, 4, 5] rfl)
    · replace hf := if_f hf h1
      refine lv_iload hx hb dX3_run_56 (lv_at hl 6 rfl) ?_
      refine lv_aload hx hb dX3_run_58 (lv_at hl 3 rfl) ?_
      refine mp_get X fl_X3_64 hK hP 5 rfl rfl dX3_run_60 ?_
      refine lv_icmp_ge (tgt := 143) hx hb dX3_run_63 (by decide) (fun h2 => ?_) (fun h2 => ?_)
      · replace hf := if_t hf h2
        exact w_X3_run_143 X hK hA  fu a_ a_loopsLeft a_probe a_p1 a_p1_cellNames a_p1_secretNames a_p1_pageNames a_p1_speed a_p1_letters a_p1_room a_p1_now a_p1_rounds a_p1_rounds_code a_p1_rounds_one a_p1_rounds_other a_p1_rounds_mate a_p2 a_p2_order a_p2_knows a_p2_made a_p2_sixteenths a_p2_dots a_p2_used a_p2_stands v_p1_rounds_present v_p1_rounds_steps v_p1_cells v_p1_secrets v_p1_pages v_p1_blind v_p1_rubs v_p1_letters v_p1_room v_p1_rounds_size v_p1_rounds_code v_p1_rounds_mate v_p1_rounds_one v_p1_rounds_other v_p1_speed v_p2_inOrder v_p2_sixteenths o_steps o_missed o_turns o_made o_found o_left o_seed o_loopsLeft o_p2_place o_p2_ill o_p2_shut o_p2_turns o_p2_madeInAll o_p2_dots o_p2_knows o_p2_made o_p2_order o_p2_stands o_p2_used   z5 z6 v_steps v_missed v_turns v_made v_found v_left v_seed v_loopsLeft v_p2_place v_p2_ill v_p2_shut v_p2_turns v_p2_madeInAll v_p2_dots v_p2_knows v_p2_made v_p2_order v_p2_stands v_p2_used hf _ _ _ hP (mp_D_of hD rfl) hS (lv_sub hl [0, 2, 4, 5] rfl)
      · replace hf := if_f hf h2
        refine lv_aload hx hb dX3_run_66 (lv_at hl 3 rfl) ?_
        refine mp_get X fl_X3_67 hK hP 5 rfl rfl dX3_run_68 ?_
        refine lv_iload hx hb dX3_run_71 (lv_at hl 6 rfl) ?_
        obtain ⟨h3, hf⟩ := gi_of hf
        refine va_iald hx hb hK hP 6 0 rfl rfl h3 dX3_run_73 ?_
        refine lv_bipush (v := (nI 22)) hx hb dX3_run_74 (by decide) ?_
        refine lv_icmp_ne (tgt := 92) hx hb dX3_run_76 (by decide) (fun h4 => ?_) (fun h4 => ?_)
        · replace hf := if_f hf h4
          refine lv_aload_n hx hb dX3_run_92 rfl (lv_at hl 0 rfl) ?_
          refine mp_get X fl_X3_9 hK hP 0 rfl rfl dX3_run_93 ?_
          refine lv_sipush (v := (nI 300)) hx hb dX3_run_96 (by decide) ?_
          refine lv_icmp_lt (tgt := 117) hx hb dX3_run_99 (by decide) (fun h5 => ?_) (fun h5 => ?_)
          · replace hf := if_t hf h5
            refine lv_aload_n hx hb dX3_run_117 rfl (lv_at hl 0 rfl) ?_
            refine lv_dup hx hb dX3_run_118 rfl ?_
            refine mp_get X fl_X3_9 hK hP 0 rfl rfl dX3_run_119 ?_
            refine lv_iconst (v := (nI 1)) hx hb dX3_run_122 (by decide) ?_
            refine lv_iadd hx hb dX3_run_123 ?_
            refine lv_topi (fun y6 e6 => ?_)
            replace hf := lt_of e6 hf
            refine mp_putf X fl_X3_9 fp_X3 rfl hK hP (mp_D_of hD rfl) hS 0 rfl rfl rfl (Nat.le_of_ble_eq_true rfl) dX3_run_124 (fun H locs hP _ hS => ?_)
            replace hP : va_P D mp_cl (k_X3_run T a_ a_loopsLeft a_probe a_p1 a_p1_cellNames a_p1_secretNames a_p1_pageNames a_p1_speed a_p1_letters a_p1_room a_p1_now a_p1_rounds a_p1_rounds_code a_p1_rounds_one a_p1_rounds_other a_p1_rounds_mate a_p2 a_p2_order a_p2_knows a_p2_made a_p2_sixteenths a_p2_dots a_p2_used a_p2_stands y6 v_missed v_turns v_made v_found v_left v_seed v_loopsLeft v_p1_cells v_p1_secrets v_p1_pages v_p1_blind v_p1_rubs v_p1_letters v_p1_room v_p1_rounds_present v_p1_rounds_steps v_p1_rounds_size v_p1_rounds_code v_p1_rounds_mate v_p1_rounds_one v_p1_rounds_other v_p1_speed v_p2_inOrder v_p2_place v_p2_ill v_p2_shut v_p2_turns v_p2_madeInAll v_p2_dots v_p2_knows v_p2_made v_p2_order v_p2_sixteenths v_p2_stands v_p2_used) H := hP
            refine lv_aload_n hx hb dX3_run_127 rfl (lv_at hl 0 rfl) ?_
            refine lv_aload_n hx hb dX3_run_128 rfl (lv_at hl 1 rfl) ?_
            refine lv_aload_n hx hb dX3_run_129 rfl (lv_at hl 2 rfl) ?_
            refine lv_iload hx hb dX3_run_130 (lv_at hl 6 rfl) ?_
            obtain ⟨⟨r7, u8, u9, u10, u11, u12, u13, u14, u15, u16, u17, u18, u19, u20, u21, u22⟩, c23, hf⟩ := bd_of hf
            dsimp only at hf
            have hPc := hP.sub (ws' := (k_X3_takeStep T a_ a_loopsLeft a_probe a_p1 a_p1_cellNames a_p1_secretNames a_p1_pageNames a_p1_speed a_p1_letters a_p1_room a_p1_now a_p1_rounds a_p1_rounds_code a_p1_rounds_one a_p1_rounds_other a_p1_rounds_mate a_p2 a_p2_order a_p2_knows a_p2_made a_p2_sixteenths a_p2_dots a_p2_used a_p2_stands y6 v_missed v_turns v_made v_found v_left v_seed v_loopsLeft v_p1_cells v_p1_secrets v_p1_pages v_p1_blind v_p1_rubs v_p1_letters v_p1_room v_p1_rounds_present v_p1_rounds_steps v_p1_rounds_size v_p1_rounds_code v_p1_rounds_mate v_p1_rounds_one v_p1_rounds_other v_p1_speed v_p2_inOrder v_p2_place v_p2_ill v_p2_shut v_p2_turns v_p2_madeInAll v_p2_dots v_p2_knows v_p2_made v_p2_order v_p2_sixteenths v_p2_stands v_p2_used)) [0, 1, 2, 3, 4, 5, 6, 7, 8, 9, 10, 11, 12, 13, 14, 15, 16, 17, 18] rfl
            have hDc := (mp_D_of (w1 := (k_X3_run T a_ a_loopsLeft a_probe a_p1 a_p1_cellNames a_p1_secretNames a_p1_pageNames a_p1_speed a_p1_letters a_p1_room a_p1_now a_p1_rounds a_p1_rounds_code a_p1_rounds_one a_p1_rounds_other a_p1_rounds_mate a_p2 a_p2_order a_p2_knows a_p2_made a_p2_sixteenths a_p2_dots a_p2_used a_p2_stands y6 v_missed v_turns v_made v_found v_left v_seed v_loopsLeft v_p1_cells v_p1_secrets v_p1_pages v_p1_blind v_p1_rubs v_p1_letters v_p1_room v_p1_rounds_present v_p1_rounds_steps v_p1_rounds_size v_p1_rounds_code v_p1_rounds_mate v_p1_rounds_one v_p1_rounds_other v_p1_speed v_p2_inOrder v_p2_place v_p2_ill v_p2_shut v_p2_turns v_p2_madeInAll v_p2_dots v_p2_knows v_p2_made v_p2_order v_p2_sixteenths v_p2_stands v_p2_used)) hD rfl).sub (ws' := (k_X3_takeStep T a_ a_loopsLeft a_probe a_p1 a_p1_cellNames a_p1_secretNames a_p1_pageNames a_p1_speed a_p1_letters a_p1_room a_p1_now a_p1_rounds a_p1_rounds_code a_p1_rounds_one a_p1_rounds_other a_p1_rounds_mate a_p2 a_p2_order a_p2_knows a_p2_made a_p2_sixteenths a_p2_dots a_p2_used a_p2_stands y6 v_missed v_turns v_made v_found v_left v_seed v_loopsLeft v_p1_cells v_p1_secrets v_p1_pages v_p1_blind v_p1_rubs v_p1_letters v_p1_room v_p1_rounds_present v_p1_rounds_steps v_p1_rounds_size v_p1_rounds_code v_p1_rounds_mate v_p1_rounds_one v_p1_rounds_other v_p1_speed v_p2_inOrder v_p2_place v_p2_ill v_p2_shut v_p2_turns v_p2_madeInAll v_p2_dots v_p2_knows v_p2_made v_p2_order v_p2_sixteenths v_p2_stands v_p2_used)) [0, 1, 2, 3, 4, 5, 6, 7, 8, 9, 10, 11, 12, 13, 14, 15, 16, 17, 18] rfl rfl
            refine mp_calli (isC := [0, 1, 2, 3, 4, 5, 6, 7, 8, 9, 10, 11, 12, 13, 14, 15, 16, 17, 18]) (wc := (k_X3_takeStep T a_ a_loopsLeft a_probe a_p1 a_p1_cellNames a_p1_secretNames a_p1_pageNames a_p1_speed a_p1_letters a_p1_room a_p1_now a_p1_rounds a_p1_rounds_code a_p1_rounds_one a_p1_rounds_other a_p1_rounds_mate a_p2 a_p2_order a_p2_knows a_p2_made a_p2_sixteenths a_p2_dots a_p2_used a_p2_stands y6 v_missed v_turns v_made v_found v_left v_seed v_loopsLeft v_p1_cells v_p1_secrets v_p1_pages v_p1_blind v_p1_rubs v_p1_letters v_p1_room v_p1_rounds_present v_p1_rounds_steps v_p1_rounds_size v_p1_rounds_code v_p1_rounds_mate v_p1_rounds_one v_p1_rounds_other v_p1_speed v_p2_inOrder v_p2_place v_p2_ill v_p2_shut v_p2_turns v_p2_madeInAll v_p2_dots v_p2_knows v_p2_made v_p2_order v_p2_sixteenths v_p2_stands v_p2_used)) (w1 := (k_X3_takeStep T a_ a_loopsLeft a_probe a_p1 a_p1_cellNames a_p1_secretNames a_p1_pageNames a_p1_speed a_p1_letters a_p1_room a_p1_now a_p1_rounds a_p1_rounds_code a_p1_rounds_one a_p1_rounds_other a_p1_rounds_mate a_p2 a_p2_order a_p2_knows a_p2_made a_p2_sixteenths a_p2_dots a_p2_used a_p2_stands y6 u8 v_turns v_made u9 v_left u10 u11 v_p1_cells v_p1_secrets v_p1_pages v_p1_blind v_p1_rubs v_p1_letters v_p1_room v_p1_rounds_present v_p1_rounds_steps v_p1_rounds_size v_p1_rounds_code v_p1_rounds_mate v_p1_rounds_one v_p1_rounds_other v_p1_speed v_p2_inOrder u12 u13 u14 u15 u16 u17 u18 u19 u20 v_p2_sixteenths u21 u22)) hP (mp_D_of hD rfl) hS hA rfl rfl (mp_runV (As := [.ref a_p1, .ref a_p2, .int z7]) (rest := []) X me_X3_takeStep lk_X3_74 (c_X3_takeStep l D T fu a_ a_loopsLeft a_probe a_p1 a_p1_cellNames a_p1_secretNames a_p1_pageNames a_p1_speed a_p1_letters a_p1_room a_p1_now a_p1_rounds a_p1_rounds_code a_p1_rounds_one a_p1_rounds_other a_p1_rounds_mate a_p2 a_p2_order a_p2_knows a_p2_made a_p2_sixteenths a_p2_dots a_p2_used a_p2_stands z7 y6 v_turns v_made v_left v_p1_rounds_present v_p1_rounds_steps v_missed v_found v_seed v_loopsLeft v_p1_cells v_p1_secrets v_p1_pages v_p1_blind v_p1_rubs v_p1_letters v_p1_room v_p1_rounds_size v_p1_rounds_code v_p1_rounds_mate v_p1_rounds_one v_p1_rounds_other v_p1_speed v_p2_inOrder v_p2_place v_p2_ill v_p2_shut v_p2_turns v_p2_madeInAll v_p2_dots v_p2_knows v_p2_made v_p2_order v_p2_sixteenths v_p2_stands v_p2_used r7 u8 u9 u10 u11 u12 u13 u14 u15 u16 u17 u18 u19 u20 u21 u22 c23) rfl rfl ⟨(Nat.le_of_ble_eq_true rfl), (Nat.le_of_ble_eq_true rfl)⟩ hK hPc hDc rfl rfl rfl rfl hl.1 rfl (Nat.le_of_ble_eq_true rfl) dX3_run_132 ⟨Nat.zero_le _, Nat.zero_le _⟩) (fun H locs hP _ hS => ?_)
            replace hP : va_P D mp_cl (k_X3_run T a_ a_loopsLeft a_probe a_p1 a_p1_cellNames a_p1_secretNames a_p1_pageNames a_p1_speed a_p1_letters a_p1_room a_p1_now a_p1_rounds a_p1_rounds_code a_p1_rounds_one a_p1_rounds_other a_p1_rounds_mate a_p2 a_p2_order a_p2_knows a_p2_made a_p2_sixteenths a_p2_dots a_p2_used a_p2_stands y6 u8 v_turns v_made u9 v_left u10 u11 v_p1_cells v_p1_secrets v_p1_pages v_p1_blind v_p1_rubs v_p1_letters v_p1_room v_p1_rounds_present v_p1_rounds_steps v_p1_rounds_size v_p1_rounds_code v_p1_rounds_mate v_p1_rounds_one v_p1_rounds_other v_p1_speed v_p2_inOrder u12 u13 u14 u15 u16 u17 u18 u19 u20 v_p2_sixteenths u21 u22) H := hP
            refine lv_istore (lv' := [(7, .int r7), (0, .ref a_), (1, .ref a_p1), (2, .ref a_p2), (4, .ref a_p1_rounds), (5, .int z5), (6, .int z6), (8, .int z8)]) hx hb dX3_run_135 hl (by decide) rfl (fun ls hl => ?_)
            obtain ⟨y24, e24⟩ : ∃ y : Int32, y = z8 + (nI 1) := ⟨_, rfl⟩
            replace hf := lt_of e24 hf
            refine lv_iinc (v := y24) (lv' := [(8, .int y24), (7, .int r7), (0, .ref a_), (1, .ref a_p1), (2, .ref a_p2), (4, .ref a_p1_rounds), (5, .int z5), (6, .int z6)]) hx hb dX3_run_137 hl (k := 7) rfl (by rw [e24]; rfl) (by decide) rfl (fun ls hl => ?_)
            refine lv_goto (tgt := 49) hx hb dX3_run_140 (by decide) ?_
            exact ih z5 z6 r7 y24 y6 u8 v_turns v_made u9 v_left u10 u11 u12 u13 u14 u15 u16 u17 u18 u19 u20 u21 u22 hf _ _ _ hP (mp_D_of hD rfl) hS (lv_sub hl [2, 3, 4, 5, 6, 7, 1, 0] rfl)
          · replace hf := if_f hf h5
            refine lv_aload_n hx hb dX3_run_102 rfl (lv_at hl 0 rfl) ?_
            refine lv_iconst (v := (nI 1)) hx hb dX3_run_103 (by decide) ?_
            refine mp_putf X fl_X3_27 fp_X3 rfl hK hP (mp_D_of hD rfl) hS 0 rfl rfl rfl (Nat.le_of_ble_eq_true rfl) dX3_run_104 (fun H locs hP _ hS => ?_)
            replace hP : va_P D mp_cl (k_X3_run T a_ a_loopsLeft a_probe a_p1 a_p1_cellNames a_p1_secretNames a_p1_pageNames a_p1_speed a_p1_letters a_p1_room a_p1_now a_p1_rounds a_p1_rounds_code a_p1_rounds_one a_p1_rounds_other a_p1_rounds_mate a_p2 a_p2_order a_p2_knows a_p2_made a_p2_sixteenths a_p2_dots a_p2_used a_p2_stands v_steps v_missed v_turns v_made v_found (nI 1) v_seed v_loopsLeft v_p1_cells v_p1_secrets v_p1_pages v_p1_blind v_p1_rubs v_p1_letters v_p1_room v_p1_rounds_present v_p1_rounds_steps v_p1_rounds_size v_p1_rounds_code v_p1_rounds_mate v_p1_rounds_one v_p1_rounds_other v_p1_speed v_p2_inOrder v_p2_place v_p2_ill v_p2_shut v_p2_turns v_p2_madeInAll v_p2_dots v_p2_knows v_p2_made v_p2_order v_p2_sixteenths v_p2_stands v_p2_used) H := hP
            refine lv_aload hx hb dX3_run_107 (lv_at hl 3 rfl) ?_
            refine mp_get X fl_X3_64 hK hP 5 rfl rfl dX3_run_109 ?_
            refine lv_istore (lv' := [(7, .int v_p1_rounds_size), (0, .ref a_), (1, .ref a_p1), (2, .ref a_p2), (4, .ref a_p1_rounds), (5, .int z5), (6, .int z6), (8, .int z8)]) hx hb dX3_run_112 hl (by decide) rfl (fun ls hl => ?_)
            refine lv_goto (tgt := 137) hx hb dX3_run_114 (by decide) ?_
            obtain ⟨y25, e25⟩ : ∃ y : Int32, y = z8 + (nI 1) := ⟨_, rfl⟩
            replace hf := lt_of e25 hf
            refine lv_iinc (v := y25) (lv' := [(8, .int y25), (7, .int v_p1_rounds_size), (0, .ref a_), (1, .ref a_p1), (2, .ref a_p2), (4, .ref a_p1_rounds), (5, .int z5), (6, .int z6)]) hx hb dX3_run_137 hl (k := 7) rfl (by rw [e25]; rfl) (by decide) rfl (fun ls hl => ?_)
            refine lv_goto (tgt := 49) hx hb dX3_run_140 (by decide) ?_
            exact ih z5 z6 v_p1_rounds_size y25 v_steps v_missed v_turns v_made v_found (nI 1) v_seed v_loopsLeft v_p2_place v_p2_ill v_p2_shut v_p2_turns v_p2_madeInAll v_p2_dots v_p2_knows v_p2_made v_p2_order v_p2_stands v_p2_used hf _ _ _ hP (mp_D_of hD rfl) hS (lv_sub hl [2, 3, 4, 5, 6, 7, 1, 0] rfl)
        · replace hf := if_t hf h4
          refine lv_aload_n hx hb dX3_run_79 rfl (lv_at hl 0 rfl) ?_
          refine lv_aload hx hb dX3_run_80 (lv_at hl 3 rfl) ?_
          refine lv_iload hx hb dX3_run_82 (lv_at hl 6 rfl) ?_
          obtain ⟨⟨r26, u27⟩, c28, hf⟩ := bd_of hf
          dsimp only at hf
          have hPc := hP.sub (ws' := (k_X3_behindEnd T a_ a_loopsLeft a_probe a_p1_rounds a_p1_rounds_code a_p1_rounds_one a_p1_rounds_other a_p1_rounds_mate v_steps v_missed v_turns v_made v_found v_left v_seed v_loopsLeft v_p1_rounds_present v_p1_rounds_steps v_p1_rounds_size v_p1_rounds_code v_p1_rounds_mate)) [0, 1, 5, 6, 7] rfl
          have hDc := (mp_D_of (w1 := (k_X3_run T a_ a_loopsLeft a_probe a_p1 a_p1_cellNames a_p1_secretNames a_p1_pageNames a_p1_speed a_p1_letters a_p1_room a_p1_now a_p1_rounds a_p1_rounds_code a_p1_rounds_one a_p1_rounds_other a_p1_rounds_mate a_p2 a_p2_order a_p2_knows a_p2_made a_p2_sixteenths a_p2_dots a_p2_used a_p2_stands v_steps v_missed v_turns v_made v_found v_left v_seed v_loopsLeft v_p1_cells v_p1_secrets v_p1_pages v_p1_blind v_p1_rubs v_p1_letters v_p1_room v_p1_rounds_present v_p1_rounds_steps v_p1_rounds_size v_p1_rounds_code v_p1_rounds_mate v_p1_rounds_one v_p1_rounds_other v_p1_speed v_p2_inOrder v_p2_place v_p2_ill v_p2_shut v_p2_turns v_p2_madeInAll v_p2_dots v_p2_knows v_p2_made v_p2_order v_p2_sixteenths v_p2_stands v_p2_used)) hD rfl).sub (ws' := (k_X3_behindEnd T a_ a_loopsLeft a_probe a_p1_rounds a_p1_rounds_code a_p1_rounds_one a_p1_rounds_other a_p1_rounds_mate v_steps v_missed v_turns v_made v_found v_left v_seed v_loopsLeft v_p1_rounds_present v_p1_rounds_steps v_p1_rounds_size v_p1_rounds_code v_p1_rounds_mate)) [0, 1, 5, 6, 7] rfl rfl
          refine mp_calli (isC := [0, 1, 5, 6, 7]) (wc := (k_X3_behindEnd T a_ a_loopsLeft a_probe a_p1_rounds a_p1_rounds_code a_p1_rounds_one a_p1_rounds_other a_p1_rounds_mate v_steps v_missed v_turns v_made v_found v_left v_seed v_loopsLeft v_p1_rounds_present v_p1_rounds_steps v_p1_rounds_size v_p1_rounds_code v_p1_rounds_mate)) (w1 := (k_X3_behindEnd T a_ a_loopsLeft a_probe a_p1_rounds a_p1_rounds_code a_p1_rounds_one a_p1_rounds_other a_p1_rounds_mate v_steps v_missed v_turns v_made v_found v_left v_seed u27 v_p1_rounds_present v_p1_rounds_steps v_p1_rounds_size v_p1_rounds_code v_p1_rounds_mate)) hP (mp_D_of hD rfl) hS hA rfl rfl (mp_runV (As := [.ref a_p1_rounds, .int z7]) (rest := []) X me_X3_behindEnd lk_X3_70 (c_X3_behindEnd l D T a_ a_loopsLeft a_probe a_p1_rounds a_p1_rounds_code a_p1_rounds_one a_p1_rounds_other a_p1_rounds_mate z7 v_steps v_missed v_turns v_made v_found v_left v_seed v_p1_rounds_present v_p1_rounds_steps v_p1_rounds_size v_loopsLeft v_p1_rounds_code v_p1_rounds_mate r26 u27 c28) rfl rfl ⟨(Nat.le_of_ble_eq_true rfl), (Nat.le_of_ble_eq_true rfl)⟩ hK hPc hDc rfl rfl rfl rfl hl.1 rfl (Nat.le_of_ble_eq_true rfl) dX3_run_84 ⟨Nat.zero_le _, Nat.zero_le _⟩) (fun H locs hP _ hS => ?_)
          replace hP : va_P D mp_cl (k_X3_run T a_ a_loopsLeft a_probe a_p1 a_p1_cellNames a_p1_secretNames a_p1_pageNames a_p1_speed a_p1_letters a_p1_room a_p1_now a_p1_rounds a_p1_rounds_code a_p1_rounds_one a_p1_rounds_other a_p1_rounds_mate a_p2 a_p2_order a_p2_knows a_p2_made a_p2_sixteenths a_p2_dots a_p2_used a_p2_stands v_steps v_missed v_turns v_made v_found v_left v_seed u27 v_p1_cells v_p1_secrets v_p1_pages v_p1_blind v_p1_rubs v_p1_letters v_p1_room v_p1_rounds_present v_p1_rounds_steps v_p1_rounds_size v_p1_rounds_code v_p1_rounds_mate v_p1_rounds_one v_p1_rounds_other v_p1_speed v_p2_inOrder v_p2_place v_p2_ill v_p2_shut v_p2_turns v_p2_madeInAll v_p2_dots v_p2_knows v_p2_made v_p2_order v_p2_sixteenths v_p2_stands v_p2_used) H := hP
          refine lv_istore (lv' := [(7, .int r26), (0, .ref a_), (1, .ref a_p1), (2, .ref a_p2), (4, .ref a_p1_rounds), (5, .int z5), (6, .int z6), (8, .int z8)]) hx hb dX3_run_87 hl (by decide) rfl (fun ls hl => ?_)
          refine lv_goto (tgt := 137) hx hb dX3_run_89 (by decide) ?_
          obtain ⟨y29, e29⟩ : ∃ y : Int32, y = z8 + (nI 1) := ⟨_, rfl⟩
          replace hf := lt_of e29 hf
          refine lv_iinc (v := y29) (lv' := [(8, .int y29), (7, .int r26), (0, .ref a_), (1, .ref a_p1), (2, .ref a_p2), (4, .ref a_p1_rounds), (5, .int z5), (6, .int z6)]) hx hb dX3_run_137 hl (k := 7) rfl (by rw [e29]; rfl) (by decide) rfl (fun ls hl => ?_)
          refine lv_goto (tgt := 49) hx hb dX3_run_140 (by decide) ?_
          exact ih z5 z6 r26 y29 v_steps v_missed v_turns v_made v_found v_left v_seed u27 v_p2_place v_p2_ill v_p2_shut v_p2_turns v_p2_madeInAll v_p2_dots v_p2_knows v_p2_made v_p2_order v_p2_stands v_p2_used hf _ _ _ hP (mp_D_of hD rfl) hS (lv_sub hl [2, 3, 4, 5, 6, 7, 1, 0] rfl)

set_option maxHeartbeats 4000000 in
set_option maxRecDepth 100000 in
theorem c_X3_run (l : Launch) (D : va_G) (T : Nat → ClassId) (fu : Nat) (a_ a_loopsLeft a_probe a_p1 a_p1_cellNames a_p1_secretNames a_p1_pageNames a_p1_speed a_p1_letters a_p1_room a_p1_now a_p1_rounds a_p1_rounds_code a_p1_rounds_one a_p1_rounds_other a_p1_rounds_mate a_p2 a_p2_order a_p2_knows a_p2_made a_p2_sixteenths a_p2_dots a_p2_used a_p2_stands : Nat) (x3 : Int32) (v_p1_rounds_present : Int32) (v_p1_rounds_steps : Int32) (v_steps : Int32) (v_missed : Int32) (v_turns : Int32) (v_made : Int32) (v_found : Int32) (v_left : Int32) (v_seed : Int32) (v_loopsLeft : (Nat → Int32)) (v_p1_cells : Int32) (v_p1_secrets : Int32) (v_p1_pages : Int32) (v_p1_blind : Int32) (v_p1_rubs : Int32) (v_p1_letters : (Nat → Int32)) (v_p1_room : (Nat → Int32)) (v_p1_rounds_size : Int32) (v_p1_rounds_code : (Nat → Int32)) (v_p1_rounds_mate : (Nat → Int32)) (v_p1_rounds_one : (Nat → Int32)) (v_p1_rounds_other : (Nat → Int32)) (v_p1_speed : (Nat → Int32)) (v_p2_inOrder : Int32) (v_p2_place : Int32) (v_p2_ill : Int32) (v_p2_shut : Int32) (v_p2_turns : Int32) (v_p2_madeInAll : Int32) (v_p2_dots : (Nat → Int32)) (v_p2_knows : (Nat → Int32)) (v_p2_made : (Nat → Int32)) (v_p2_order : (Nat → Int32)) (v_p2_sixteenths : (Nat → Int32)) (v_p2_stands : (Nat → Int32)) (v_p2_used : (Nat → Int32)) (o_steps : Int32) (o_missed : Int32) (o_turns : Int32) (o_made : Int32) (o_found : Int32) (o_left : Int32) (o_seed : Int32) (o_loopsLeft : (Nat → Int32)) (o_p2_place : Int32) (o_p2_ill : Int32) (o_p2_shut : Int32) (o_p2_turns : Int32) (o_p2_madeInAll : Int32) (o_p2_dots : (Nat → Int32)) (o_p2_knows : (Nat → Int32)) (o_p2_made : (Nat → Int32)) (o_p2_order : (Nat → Int32)) (o_p2_stands : (Nat → Int32)) (o_p2_used : (Nat → Int32)) (hf : f_X3_run fu x3 v_steps v_missed v_turns v_made v_found v_left v_seed v_loopsLeft v_p1_cells v_p1_secrets v_p1_pages v_p1_blind v_p1_rubs v_p1_letters v_p1_room v_p1_rounds_size v_p1_rounds_code v_p1_rounds_mate v_p1_rounds_one v_p1_rounds_other v_p1_speed v_p2_inOrder v_p2_place v_p2_ill v_p2_shut v_p2_turns v_p2_madeInAll v_p2_dots v_p2_knows v_p2_made v_p2_order v_p2_sixteenths v_p2_stands v_p2_used = some (o_steps, o_missed, o_turns, o_made, o_found, o_left, o_seed, o_loopsLeft, o_p2_place, o_p2_ill, o_p2_shut, o_p2_turns, o_p2_madeInAll, o_p2_dots, o_p2_knows, o_p2_made, o_p2_order, o_p2_stands, o_p2_used)) :
    mp_M l D T yX3_run cX3_run 9 none ({ frames := 6, cells := 0, slots := 0, locals := 168 }) 0 0 [.ref a_, .ref a_p1, .ref a_p2, .int x3] (k_X3_run T a_ a_loopsLeft a_probe a_p1 a_p1_cellNames a_p1_secretNames a_p1_pageNames a_p1_speed a_p1_letters a_p1_room a_p1_now a_p1_rounds a_p1_rounds_code a_p1_rounds_one a_p1_rounds_other a_p1_rounds_mate a_p2 a_p2_order a_p2_knows a_p2_made a_p2_sixteenths a_p2_dots a_p2_used a_p2_stands v_steps v_missed v_turns v_made v_found v_left v_seed v_loopsLeft v_p1_cells v_p1_secrets v_p1_pages v_p1_blind v_p1_rubs v_p1_letters v_p1_room v_p1_rounds_present v_p1_rounds_steps v_p1_rounds_size v_p1_rounds_code v_p1_rounds_mate v_p1_rounds_one v_p1_rounds_other v_p1_speed v_p2_inOrder v_p2_place v_p2_ill v_p2_shut v_p2_turns v_p2_madeInAll v_p2_dots v_p2_knows v_p2_made v_p2_order v_p2_sixteenths v_p2_stands v_p2_used) (mp_Qv D (k_X3_run T a_ a_loopsLeft a_probe a_p1 a_p1_cellNames a_p1_secretNames a_p1_pageNames a_p1_speed a_p1_letters a_p1_room a_p1_now a_p1_rounds a_p1_rounds_code a_p1_rounds_one a_p1_rounds_other a_p1_rounds_mate a_p2 a_p2_order a_p2_knows a_p2_made a_p2_sixteenths a_p2_dots a_p2_used a_p2_stands o_steps o_missed o_turns o_made o_found o_left o_seed o_loopsLeft v_p1_cells v_p1_secrets v_p1_pages v_p1_blind v_p1_rubs v_p1_letters v_p1_room v_p1_rounds_present v_p1_rounds_steps v_p1_rounds_size v_p1_rounds_code v_p1_rounds_mate v_p1_rounds_one v_p1_rounds_other v_p1_speed v_p2_inOrder o_p2_place o_p2_ill o_p2_shut o_p2_turns o_p2_madeInAll o_p2_dots o_p2_knows o_p2_made o_p2_order v_p2_sixteenths o_p2_stands o_p2_used)) := by
  refine mp_of (by decide) (Nat.le_of_ble_eq_true rfl) rfl ?_
  intro p e s m args below meth c A ls X hK hP hD hS hA hl
  replace X : mp_X p s m meth c args RX3 "run" cX3_run 9 none := X
  have hx := X.1
  have hb := X.2.1
  have hml := X.2.2.1
  have hown := X.2.2.2.2.1
  have hts := X.2.2.2.2.2.1
  replace hl : lv_has ls 9 [(0, .ref a_), (1, .ref a_p1), (2, .ref a_p2), (3, .int x3)] := hl
  replace hf : f_X3_run_49 fu v_p1_cells v_p1_secrets v_p1_pages v_p1_blind v_p1_rubs v_p1_letters v_p1_room v_p1_rounds_size v_p1_rounds_code v_p1_rounds_mate v_p1_rounds_one v_p1_rounds_other v_p1_speed v_p2_inOrder v_p2_sixteenths  fu v_p2_turns v_p2_madeInAll (nI 0) (nI 0) (nI 0) (nI 0) v_turns v_made (nI 0) (nI 0) x3 v_loopsLeft v_p2_place v_p2_ill v_p2_shut v_p2_turns v_p2_madeInAll v_p2_dots v_p2_knows v_p2_made v_p2_order v_p2_stands v_p2_used = some (o_steps, o_missed, o_turns, o_made, o_found, o_left, o_seed, o_loopsLeft, o_p2_place, o_p2_ill, o_p2_shut, o_p2_turns, o_p2_madeInAll, o_p2_dots, o_p2_knows, o_p2_made, o_p2_order, o_p2_stands, o_p2_used) := hf
  refine lv_aload_n hx hb dX3_run_0 rfl (lv_at hl 1 rfl) ?_
  refine mp_get X fl_X3_55 hK hP 2 rfl rfl dX3_run_1 ?_
  refine lv_astore (lv' := [(4, .ref a_p1_rounds), (0, .ref a_), (1, .ref a_p1), (2, .ref a_p2), (3, .int x3)]) hx hb dX3_run_4 hl (by decide) rfl (fun ls hl => ?_)
  refine lv_aload_n hx hb dX3_run_6 rfl (lv_at hl 1 rfl) ?_
  refine lv_iload_n hx hb dX3_run_7 rfl (lv_at hl 4 rfl) ?_
  refine mp_putf X fl_X3_30 fp_X3 rfl hK hP (mp_D_of hD rfl) hS 0 rfl rfl rfl (Nat.le_of_ble_eq_true rfl) dX3_run_8 (fun H locs hP _ hS => ?_)
  replace hP : va_P D mp_cl (k_X3_run T a_ a_loopsLeft a_probe a_p1 a_p1_cellNames a_p1_secretNames a_p1_pageNames a_p1_speed a_p1_letters a_p1_room a_p1_now a_p1_rounds a_p1_rounds_code a_p1_rounds_one a_p1_rounds_other a_p1_rounds_mate a_p2 a_p2_order a_p2_knows a_p2_made a_p2_sixteenths a_p2_dots a_p2_used a_p2_stands v_steps v_missed v_turns v_made v_found v_left x3 v_loopsLeft v_p1_cells v_p1_secrets v_p1_pages v_p1_blind v_p1_rubs v_p1_letters v_p1_room v_p1_rounds_present v_p1_rounds_steps v_p1_rounds_size v_p1_rounds_code v_p1_rounds_mate v_p1_rounds_one v_p1_rounds_other v_p1_speed v_p2_inOrder v_p2_place v_p2_ill v_p2_shut v_p2_turns v_p2_madeInAll v_p2_dots v_p2_knows v_p2_made v_p2_order v_p2_sixteenths v_p2_stands v_p2_used) H := hP
  refine lv_aload_n hx hb dX3_run_11 rfl (lv_at hl 1 rfl) ?_
  refine lv_iconst (v := (nI 0)) hx hb dX3_run_12 (by decide) ?_
  refine mp_putf X fl_X3_9 fp_X3 rfl hK hP (mp_D_of hD rfl) hS 0 rfl rfl rfl (Nat.le_of_ble_eq_true rfl) dX3_run_13 (fun H locs hP _ hS => ?_)
  replace hP : va_P D mp_cl (k_X3_run T a_ a_loopsLeft a_probe a_p1 a_p1_cellNames a_p1_secretNames a_p1_pageNames a_p1_speed a_p1_letters a_p1_room a_p1_now a_p1_rounds a_p1_rounds_code a_p1_rounds_one a_p1_rounds_other a_p1_rounds_mate a_p2 a_p2_order a_p2_knows a_p2_made a_p2_sixteenths a_p2_dots a_p2_used a_p2_stands (nI 0) v_missed v_turns v_made v_found v_left x3 v_loopsLeft v_p1_cells v_p1_secrets v_p1_pages v_p1_blind v_p1_rubs v_p1_letters v_p1_room v_p1_rounds_present v_p1_rounds_steps v_p1_rounds_size v_p1_rounds_code v_p1_rounds_mate v_p1_rounds_one v_p1_rounds_other v_p1_speed v_p2_inOrder v_p2_place v_p2_ill v_p2_shut v_p2_turns v_p2_madeInAll v_p2_dots v_p2_knows v_p2_made v_p2_order v_p2_sixteenths v_p2_stands v_p2_used) H := hP
  refine lv_aload_n hx hb dX3_run_16 rfl (lv_at hl 1 rfl) ?_
  refine lv_iconst (v := (nI 0)) hx hb dX3_run_17 (by decide) ?_
  refine mp_putf X fl_X3_15 fp_X3 rfl hK hP (mp_D_of hD rfl) hS 0 rfl rfl rfl (Nat.le_of_ble_eq_true rfl) dX3_run_18 (fun H locs hP _ hS => ?_)
  replace hP : va_P D mp_cl (k_X3_run T a_ a_loopsLeft a_probe a_p1 a_p1_cellNames a_p1_secretNames a_p1_pageNames a_p1_speed a_p1_letters a_p1_room a_p1_now a_p1_rounds a_p1_rounds_code a_p1_rounds_one a_p1_rounds_other a_p1_rounds_mate a_p2 a_p2_order a_p2_knows a_p2_made a_p2_sixteenths a_p2_dots a_p2_used a_p2_stands (nI 0) (nI 0) v_turns v_made v_found v_left x3 v_loopsLeft v_p1_cells v_p1_secrets v_p1_pages v_p1_blind v_p1_rubs v_p1_letters v_p1_room v_p1_rounds_present v_p1_rounds_steps v_p1_rounds_size v_p1_rounds_code v_p1_rounds_mate v_p1_rounds_one v_p1_rounds_other v_p1_speed v_p2_inOrder v_p2_place v_p2_ill v_p2_shut v_p2_turns v_p2_madeInAll v_p2_dots v_p2_knows v_p2_made v_p2_order v_p2_sixteenths v_p2_stands v_p2_used) H := hP
  refine lv_aload_n hx hb dX3_run_21 rfl (lv_at hl 1 rfl) ?_
  refine lv_iconst (v := (nI 0)) hx hb dX3_run_22 (by decide) ?_
  refine mp_putf X fl_X3_24 fp_X3 rfl hK hP (mp_D_of hD rfl) hS 0 rfl rfl rfl (Nat.le_of_ble_eq_true rfl) dX3_run_23 (fun H locs hP _ hS => ?_)
  replace hP : va_P D mp_cl (k_X3_run T a_ a_loopsLeft a_probe a_p1 a_p1_cellNames a_p1_secretNames a_p1_pageNames a_p1_speed a_p1_letters a_p1_room a_p1_now a_p1_rounds a_p1_rounds_code a_p1_rounds_one a_p1_rounds_other a_p1_rounds_mate a_p2 a_p2_order a_p2_knows a_p2_made a_p2_sixteenths a_p2_dots a_p2_used a_p2_stands (nI 0) (nI 0) v_turns v_made (nI 0) v_left x3 v_loopsLeft v_p1_cells v_p1_secrets v_p1_pages v_p1_blind v_p1_rubs v_p1_letters v_p1_room v_p1_rounds_present v_p1_rounds_steps v_p1_rounds_size v_p1_rounds_code v_p1_rounds_mate v_p1_rounds_one v_p1_rounds_other v_p1_speed v_p2_inOrder v_p2_place v_p2_ill v_p2_shut v_p2_turns v_p2_madeInAll v_p2_dots v_p2_knows v_p2_made v_p2_order v_p2_sixteenths v_p2_stands v_p2_used) H := hP
  refine lv_aload_n hx hb dX3_run_26 rfl (lv_at hl 1 rfl) ?_
  refine lv_iconst (v := (nI 0)) hx hb dX3_run_27 (by decide) ?_
  refine mp_putf X fl_X3_27 fp_X3 rfl hK hP (mp_D_of hD rfl) hS 0 rfl rfl rfl (Nat.le_of_ble_eq_true rfl) dX3_run_28 (fun H locs hP _ hS => ?_)
  replace hP : va_P D mp_cl (k_X3_run T a_ a_loopsLeft a_probe a_p1 a_p1_cellNames a_p1_secretNames a_p1_pageNames a_p1_speed a_p1_letters a_p1_room a_p1_now a_p1_rounds a_p1_rounds_code a_p1_rounds_one a_p1_rounds_other a_p1_rounds_mate a_p2 a_p2_order a_p2_knows a_p2_made a_p2_sixteenths a_p2_dots a_p2_used a_p2_stands (nI 0) (nI 0) v_turns v_made (nI 0) (nI 0) x3 v_loopsLeft v_p1_cells v_p1_secrets v_p1_pages v_p1_blind v_p1_rubs v_p1_letters v_p1_room v_p1_rounds_present v_p1_rounds_steps v_p1_rounds_size v_p1_rounds_code v_p1_rounds_mate v_p1_rounds_one v_p1_rounds_other v_p1_speed v_p2_inOrder v_p2_place v_p2_ill v_p2_shut v_p2_turns v_p2_madeInAll v_p2_dots v_p2_knows v_p2_made v_p2_order v_p2_sixteenths v_p2_stands v_p2_used) H := hP
  refine lv_aload_n hx hb dX3_run_31 rfl (lv_at hl 3 rfl) ?_
  refine mp_get X fl_X3_59 hK hP 11 rfl rfl dX3_run_32 ?_
  refine lv_istore (lv' := [(5, .int v_p2_turns), (4, .ref a_p1_rounds), (0, .ref a_), (1, .ref a_p1), (2, .ref a_p2), (3, .int x3)]) hx hb dX3_run_35 hl (by decide) rfl (fun ls hl => ?_)
  refine lv_aload_n hx hb dX3_run_37 rfl (lv_at hl 4 rfl) ?_
  refine mp_get X fl_X3_60 hK hP 11 rfl rfl dX3_run_38 ?_
  refine lv_istore (lv' := [(6, .int v_p2_madeInAll), (5, .int v_p2_turns), (4, .ref a_p1_rounds), (0, .ref a_), (1, .ref a_p1), (2, .ref a_p2), (3, .int x3)]) hx hb dX3_run_41 hl (by decide) rfl (fun ls hl => ?_)
  refine lv_iconst (v := (nI 0)) hx hb dX3_run_43 (by decide) ?_
  refine lv_istore (lv' := [(7, .int (nI 0)), (6, .int v_p2_madeInAll), (5, .int v_p2_turns), (4, .ref a_p1_rounds), (0, .ref a_), (1, .ref a_p1), (2, .ref a_p2), (3, .int x3)]) hx hb dX3_run_44 hl (by decide) rfl (fun ls hl => ?_)
  refine lv_iconst (v := (nI 0)) hx hb dX3_run_46 (by decide) ?_
  refine lv_istore (lv' := [(8, .int (nI 0)), (7, .int (nI 0)), (6, .int v_p2_madeInAll), (5, .int v_p2_turns), (4, .ref a_p1_rounds), (0, .ref a_), (1, .ref a_p1), (2, .ref a_p2), (3, .int x3)]) hx hb dX3_run_47 hl (by decide) rfl (fun ls hl => ?_)
  exact w_X3_run_49 X hK hA  fu a_ a_loopsLeft a_probe a_p1 a_p1_cellNames a_p1_secretNames a_p1_pageNames a_p1_speed a_p1_letters a_p1_room a_p1_now a_p1_rounds a_p1_rounds_code a_p1_rounds_one a_p1_rounds_other a_p1_rounds_mate a_p2 a_p2_order a_p2_knows a_p2_made a_p2_sixteenths a_p2_dots a_p2_used a_p2_stands v_p1_rounds_present v_p1_rounds_steps v_p1_cells v_p1_secrets v_p1_pages v_p1_blind v_p1_rubs v_p1_letters v_p1_room v_p1_rounds_size v_p1_rounds_code v_p1_rounds_mate v_p1_rounds_one v_p1_rounds_other v_p1_speed v_p2_inOrder v_p2_sixteenths o_steps o_missed o_turns o_made o_found o_left o_seed o_loopsLeft o_p2_place o_p2_ill o_p2_shut o_p2_turns o_p2_madeInAll o_p2_dots o_p2_knows o_p2_made o_p2_order o_p2_stands o_p2_used   fu v_p2_turns v_p2_madeInAll (nI 0) (nI 0) (nI 0) (nI 0) v_turns v_made (nI 0) (nI 0) x3 v_loopsLeft v_p2_place v_p2_ill v_p2_shut v_p2_turns v_p2_madeInAll v_p2_dots v_p2_knows v_p2_made v_p2_order v_p2_stands v_p2_used hf _ _ _ hP (mp_D_of hD rfl) hS (lv_sub hl [5, 6, 7, 4, 3, 2, 1, 0] rfl)


def k_X4_commonDivisor (T : Nat → ClassId) : va_W := []
set_option maxHeartbeats 4000000 in
set_option maxRecDepth 100000 in
theorem w_X4_commonDivisor_9 {p : Program} {l : Launch} {e : Env} {s : State} {m : MethodId} {args : Array Value} {below : List Frame} {meth : Method} {c : Code} {D : va_G} {T : Nat → ClassId} {A : Nat → Prop} (X : mp_X p s m meth c args RX4 "commonDivisor" cX4_commonDivisor 11 (some .long)) (hK : va_K D mp_cl (mp_ty T) s) (hA : ∀ q, s.heap.size ≤ q → A q) (fu : Nat) (r_ : Int64) :
    ∀ (n : Nat) (z4 : Int64) (z6 : Int64) (z8 : Int32), f_X4_commonDivisor_9 fu   n z4 z6 z8 = some r_ → ∀ (H : Heap) (locs : List Loc) (ls : Array Slot), va_P D mp_cl (k_X4_commonDivisor T ) H → va_D A (k_X4_commonDivisor T ) → va_S A s.heap H locs → lv_has ls 11 [(4, .long z4), (6, .long z6), (8, .int z8)] → W p l e ({ frames := 0, cells := 0, slots := 0, locals := 0 }) s m args below meth c H locs 0 0 (MQ below ((mp_Ql D r_ (k_X4_commonDivisor T )) A) args s 0 0 A) (F0 m 9 ls []) := by
  have hx := X.1
  have hb := X.2.1
  have hml := X.2.2.1
  have hown := X.2.2.2.2.1
  have hts := X.2.2.2.2.2.1
  intro n
  induction n with
  | zero => intro z4 z6 z8 hf; exact absurd hf (by intro h; cases h)
  | succ n ih =>
    intro z4 z6 z8 hf H locs ls hP hD hS hl
    replace hf : (if (nI 200) ≤ z8 then some (z4) else (if (lg_cmp z6 (lN 0)) = 0 then some (z4) else gd_ (¬ z6 = 0) (lt_ (z4 - z4 / z6 * z6) (fun (y4 : Int64) => lt_ (z8 + (nI 1)) (fun (y5 : Int32) => f_X4_commonDivisor_9 fu   n z6 y4 y5))))) = some r_ := hf
    refine lv_iload hx hb dX4_commonDivisor_9 (lv_at hl 2 rfl) ?_
    refine lv_sipush (v := (nI 200)) hx hb dX4_commonDivisor_11 (by decide) ?_
    refine lv_icmp_ge (tgt := 45) hx hb dX4_commonDivisor_14 (by decide) (fun h1 => ?_) (fun h1 => ?_)
    · replace hf := if_t hf h1
      refine lv_lload hx hb dX4_commonDivisor_45 (lv_at hl 0 rfl) ?_
      cases hf
      exact mp_retl X hP hS rfl dX4_commonDivisor_47
    · replace hf := if_f hf h1
      refine lv_lload hx hb dX4_commonDivisor_17 (lv_at hl 1 rfl) ?_
      refine lv_lconst (v := (lN 0)) hx hb dX4_commonDivisor_19 (by decide) ?_
      refine W.lcmp hx hb dX4_commonDivisor_20 ?_
      refine lv_if_eq (tgt := 45) hx hb dX4_commonDivisor_21 (by decide) (fun h2 => ?_) (fun h2 => ?_)
      · replace hf := if_t hf h2
        refine lv_lload hx hb dX4_commonDivisor_45 (lv_at hl 0 rfl) ?_
        cases hf
        exact mp_retl X hP hS rfl dX4_commonDivisor_47
      · replace hf := if_f hf h2
        refine lv_lload hx hb dX4_commonDivisor_24 (lv_at hl 0 rfl) ?_
        refine lv_lload hx hb dX4_commonDivisor_26 (lv_at hl 1 rfl) ?_
        obtain ⟨h3, hf⟩ := gd_of hf
        refine lv_lrem hx hb dX4_commonDivisor_28 h3 ?_
        refine lv_topl (fun y4 e4 => ?_)
        replace hf := lt_of e4 hf
        refine lv_lstore (lv' := [(9, .long y4), (4, .long z4), (6, .long z6), (8, .int z8)]) hx hb dX4_commonDivisor_29 hl (by decide) rfl (fun ls hl => ?_)
        refine lv_lload hx hb dX4_commonDivisor_31 (lv_at hl 2 rfl) ?_
        refine lv_lstore (lv' := [(4, .long z6), (9, .long y4), (6, .long z6), (8, .int z8)]) hx hb dX4_commonDivisor_33 hl (by decide) rfl (fun ls hl => ?_)
        refine lv_lload hx hb dX4_commonDivisor_35 (lv_at hl 1 rfl) ?_
        refine lv_lstore (lv' := [(6, .long y4), (4, .long z6), (9, .long y4), (8, .int z8)]) hx hb dX4_commonDivisor_37 hl (by decide) rfl (fun ls hl => ?_)
        obtain ⟨y5, e5⟩ : ∃ y : Int32, y = z8 + (nI 1) := ⟨_, rfl⟩
        replace hf := lt_of e5 hf
        refine lv_iinc (v := y5) (lv' := [(8, .int y5), (6, .long y4), (4, .long z6), (9, .long y4)]) hx hb dX4_commonDivisor_39 hl (k := 3) rfl (by rw [e5]; rfl) (by decide) rfl (fun ls hl => ?_)
        refine lv_goto (tgt := 9) hx hb dX4_commonDivisor_42 (by decide) ?_
        exact ih z6 y4 y5 hf _ _ _ hP (mp_D_of hD rfl) hS (lv_sub hl [2, 1, 0] rfl)

set_option maxHeartbeats 4000000 in
set_option maxRecDepth 100000 in
theorem c_X4_commonDivisor (l : Launch) (D : va_G) (T : Nat → ClassId) (fu : Nat) (x1 : Int64) (x2 : Int64) (r_ : Int64) (hf : f_X4_commonDivisor fu x1 x2 = some r_) :
    mp_M l D T yX4_commonDivisor cX4_commonDivisor 11 (some .long) ({ frames := 0, cells := 0, slots := 0, locals := 0 }) 0 0 [.long x1, .long x2] (k_X4_commonDivisor T ) (mp_Ql D r_ (k_X4_commonDivisor T )) := by
  refine mp_of (by decide) (Nat.le_of_ble_eq_true rfl) rfl ?_
  intro p e s m args below meth c A ls X hK hP hD hS hA hl
  replace X : mp_X p s m meth c args RX4 "commonDivisor" cX4_commonDivisor 11 (some .long) := X
  have hx := X.1
  have hb := X.2.1
  have hml := X.2.2.1
  have hown := X.2.2.2.2.1
  have hts := X.2.2.2.2.2.1
  replace hl : lv_has ls 11 [(0, .long x1), (2, .long x2)] := hl
  replace hf : f_X4_commonDivisor_9 fu   fu x1 x2 (nI 0) = some r_ := hf
  refine lv_lload_n hx hb dX4_commonDivisor_0 rfl (lv_at hl 0 rfl) ?_
  refine lv_lstore (lv' := [(4, .long x1), (0, .long x1), (2, .long x2)]) hx hb dX4_commonDivisor_1 hl (by decide) rfl (fun ls hl => ?_)
  refine lv_lload_n hx hb dX4_commonDivisor_3 rfl (lv_at hl 2 rfl) ?_
  refine lv_lstore (lv' := [(6, .long x2), (4, .long x1), (0, .long x1), (2, .long x2)]) hx hb dX4_commonDivisor_4 hl (by decide) rfl (fun ls hl => ?_)
  refine lv_iconst (v := (nI 0)) hx hb dX4_commonDivisor_6 (by decide) ?_
  refine lv_istore (lv' := [(8, .int (nI 0)), (6, .long x2), (4, .long x1), (0, .long x1), (2, .long x2)]) hx hb dX4_commonDivisor_7 hl (by decide) rfl (fun ls hl => ?_)
  exact w_X4_commonDivisor_9 X hK hA  fu r_   fu x1 x2 (nI 0) hf _ _ _ hP (mp_D_of hD rfl) hS (lv_sub hl [2, 1, 0] rfl)


def k_X4_keep (T : Nat → ClassId) (a_ a_holds a_lettersOf : Nat) (v_above : Int64) (v_below : Int64) : va_W := [(a_, oX4 v_above v_below a_holds a_lettersOf)]
set_option maxHeartbeats 4000000 in
set_option maxRecDepth 100000 in
theorem c_X4_keep (l : Launch) (D : va_G) (T : Nat → ClassId) (fu : Nat) (a_ a_holds a_lettersOf : Nat) (x1 : Int64) (x2 : Int64) (v_above : Int64) (v_below : Int64) (o_above : Int64) (o_below : Int64) (hf : f_X4_keep fu x1 x2 v_above v_below = some (o_above, o_below)) :
    mp_M l D T yX4_keep cX4_keep 7 none ({ frames := 1, cells := 0, slots := 0, locals := 30 }) 0 0 [.ref a_, .long x1, .long x2] (k_X4_keep T a_ a_holds a_lettersOf v_above v_below) (mp_Qv D (k_X4_keep T a_ a_holds a_lettersOf o_above o_below)) := by
  refine mp_of (by decide) (Nat.le_of_ble_eq_true rfl) rfl ?_
  intro p e s m args below meth c A ls X hK hP hD hS hA hl
  replace X : mp_X p s m meth c args RX4 "keep" cX4_keep 7 none := X
  have hx := X.1
  have hb := X.2.1
  have hml := X.2.2.1
  have hown := X.2.2.2.2.1
  have hts := X.2.2.2.2.2.1
  replace hl : lv_has ls 7 [(0, .ref a_), (1, .long x1), (3, .long x2)] := hl
  replace hf : bd_ (f_X4_commonDivisor fu x2 x1) (fun (r1 : Int64) => (if (lg_cmp r1 (lN 0)) ≤ 0 then some (v_above, v_below) else gd_ (¬ r1 = 0) (lt_ (x1 / r1) (fun (y5 : Int64) => gd_ (¬ r1 = 0) (lt_ (x2 / r1) (fun (y7 : Int64) => some (y5, y7))))))) = some (o_above, o_below) := hf
  refine lv_lload_n hx hb dX4_keep_0 rfl (lv_at hl 2 rfl) ?_
  refine lv_lload_n hx hb dX4_keep_1 rfl (lv_at hl 1 rfl) ?_
  obtain ⟨r1, c2, hf⟩ := bd_of hf
  have hPc := hP.sub (ws' := (k_X4_commonDivisor T )) [] rfl
  have hDc := (mp_D_of (w1 := (k_X4_keep T a_ a_holds a_lettersOf v_above v_below)) hD rfl).sub (ws' := (k_X4_commonDivisor T )) [] rfl rfl
  refine mp_calll (isC := []) (wc := (k_X4_commonDivisor T )) (w1 := (k_X4_commonDivisor T )) hP (mp_D_of hD rfl) hS hA rfl rfl (mp_runS (As := [.long x2, .long x1]) (rest := []) X me_X4_commonDivisor lk_X4_26 (c_X4_commonDivisor l D T fu x2 x1 r1 c2) rfl rfl ⟨(Nat.le_of_ble_eq_true rfl), (Nat.le_of_ble_eq_true rfl)⟩ hK hPc hDc rfl hl.1 rfl (Nat.le_of_ble_eq_true rfl) dX4_keep_2 ⟨Nat.zero_le _, Nat.zero_le _⟩) (fun H locs hP _ hS => ?_)
  replace hP : va_P D mp_cl (k_X4_keep T a_ a_holds a_lettersOf v_above v_below) H := hP
  refine lv_lstore (lv' := [(5, .long r1), (0, .ref a_), (1, .long x1), (3, .long x2)]) hx hb dX4_keep_5 hl (by decide) rfl (fun ls hl => ?_)
  refine lv_lload hx hb dX4_keep_7 (lv_at hl 0 rfl) ?_
  refine lv_lconst (v := (lN 0)) hx hb dX4_keep_9 (by decide) ?_
  refine W.lcmp hx hb dX4_keep_10 ?_
  refine lv_if_le (tgt := 30) hx hb dX4_keep_11 (by decide) (fun h3 => ?_) (fun h3 => ?_)
  · replace hf := if_t hf h3
    cases hf
    exact mp_retv X hP hS dX4_keep_30
  · replace hf := if_f hf h3
    refine lv_aload_n hx hb dX4_keep_14 rfl (lv_at hl 1 rfl) ?_
    refine lv_lload_n hx hb dX4_keep_15 rfl (lv_at hl 2 rfl) ?_
    refine lv_lload hx hb dX4_keep_16 (lv_at hl 0 rfl) ?_
    obtain ⟨h4, hf⟩ := gd_of hf
    refine lv_ldiv hx hb dX4_keep_18 h4 ?_
    refine lv_topl (fun y5 e5 => ?_)
    replace hf := lt_of e5 hf
    refine mp_putf X fl_X4_9 fp_X4 rfl hK hP (mp_D_of hD rfl) hS 0 rfl rfl rfl (Nat.le_of_ble_eq_true rfl) dX4_keep_19 (fun H locs hP _ hS => ?_)
    replace hP : va_P D mp_cl (k_X4_keep T a_ a_holds a_lettersOf y5 v_below) H := hP
    refine lv_aload_n hx hb dX4_keep_22 rfl (lv_at hl 1 rfl) ?_
    refine lv_lload_n hx hb dX4_keep_23 rfl (lv_at hl 3 rfl) ?_
    refine lv_lload hx hb dX4_keep_24 (lv_at hl 0 rfl) ?_
    obtain ⟨h6, hf⟩ := gd_of hf
    refine lv_ldiv hx hb dX4_keep_26 h6 ?_
    refine lv_topl (fun y7 e7 => ?_)
    replace hf := lt_of e7 hf
    refine mp_putf X fl_X4_15 fp_X4 rfl hK hP (mp_D_of hD rfl) hS 0 rfl rfl rfl (Nat.le_of_ble_eq_true rfl) dX4_keep_27 (fun H locs hP _ hS => ?_)
    replace hP : va_P D mp_cl (k_X4_keep T a_ a_holds a_lettersOf y5 y7) H := hP
    cases hf
    exact mp_retv X hP hS dX4_keep_30


def k_X4_tellRisk (T : Nat → ClassId) (a_ a_holds a_lettersOf a_p1 a_p1_cellNames a_p1_secretNames a_p1_pageNames a_p1_speed a_p1_letters a_p1_room a_p1_now a_p1_rounds a_p1_now_order a_p1_now_knows a_p1_now_made a_p1_now_sixteenths a_p1_now_dots a_p1_now_used a_p1_now_stands : Nat) (v_above : Int64) (v_below : Int64) (v_p1_cells : Int32) (v_p1_secrets : Int32) (v_p1_pages : Int32) (v_p1_blind : Int32) (v_p1_rubs : Int32) (v_p1_now_inOrder : Int32) (v_p1_now_place : Int32) (v_p1_now_ill : Int32) (v_p1_now_shut : Int32) (v_p1_now_turns : Int32) (v_p1_now_madeInAll : Int32) (v_p1_now_sixteenths : (Nat → Int32)) (v_p1_now_used : (Nat → Int32)) : va_W := [(a_, oX4 v_above v_below a_holds a_lettersOf), (a_p1, oX1 v_p1_cells v_p1_secrets v_p1_pages a_p1_cellNames a_p1_secretNames a_p1_pageNames a_p1_speed v_p1_blind v_p1_rubs a_p1_letters a_p1_room a_p1_now a_p1_rounds), (a_p1_now, oX7 a_p1_now_order v_p1_now_inOrder v_p1_now_place a_p1_now_knows a_p1_now_made a_p1_now_sixteenths a_p1_now_dots a_p1_now_used a_p1_now_stands v_p1_now_ill v_p1_now_shut v_p1_now_turns v_p1_now_madeInAll), (a_p1_now_sixteenths, mp_aI T 6 v_p1_now_sixteenths), (a_p1_now_used, mp_aI T 6 v_p1_now_used)]
set_option maxHeartbeats 4000000 in
set_option maxRecDepth 100000 in
theorem w_X4_tellRisk_17 {p : Program} {l : Launch} {e : Env} {s : State} {m : MethodId} {args : Array Value} {below : List Frame} {meth : Method} {c : Code} {D : va_G} {T : Nat → ClassId} {A : Nat → Prop} (X : mp_X p s m meth c args RX4 "tellRisk" cX4_tellRisk 9 none) (hK : va_K D mp_cl (mp_ty T) s) (hA : ∀ q, s.heap.size ≤ q → A q) (fu : Nat) (a_ a_holds a_lettersOf a_p1 a_p1_cellNames a_p1_secretNames a_p1_pageNames a_p1_speed a_p1_letters a_p1_room a_p1_now a_p1_rounds a_p1_now_order a_p1_now_knows a_p1_now_made a_p1_now_sixteenths a_p1_now_dots a_p1_now_used a_p1_now_stands : Nat) (v_p1_cells : Int32) (v_p1_secrets : Int32) (v_p1_blind : Int32) (v_p1_rubs : Int32) (v_p1_now_inOrder : Int32) (v_p1_now_place : Int32) (v_p1_now_ill : Int32) (v_p1_now_turns : Int32) (v_p1_now_madeInAll : Int32) (v_p1_pages : Int32) (v_p1_now_shut : Int32) (v_p1_now_sixteenths : (Nat → Int32)) (v_p1_now_used : (Nat → Int32)) (o_above : Int64) (o_below : Int64) (K8 : Int32 → Int64 → Int64 → Int32 → Int64 → Int64 → Option (Int64 × Int64)) (hK8 : ∀ (z2 : Int32) (z3 : Int64) (z5 : Int64) (z7 : Int32) (v_above : Int64) (v_below : Int64), K8 z2 z3 z5 z7 v_above v_below = some (o_above, o_below) → ∀ (H : Heap) (locs : List Loc) (ls : Array Slot), va_P D mp_cl (k_X4_tellRisk T a_ a_holds a_lettersOf a_p1 a_p1_cellNames a_p1_secretNames a_p1_pageNames a_p1_speed a_p1_letters a_p1_room a_p1_now a_p1_rounds a_p1_now_order a_p1_now_knows a_p1_now_made a_p1_now_sixteenths a_p1_now_dots a_p1_now_used a_p1_now_stands v_above v_below v_p1_cells v_p1_secrets v_p1_pages v_p1_blind v_p1_rubs v_p1_now_inOrder v_p1_now_place v_p1_now_ill v_p1_now_shut v_p1_now_turns v_p1_now_madeInAll v_p1_now_sixteenths v_p1_now_used) H → va_D A (k_X4_tellRisk T a_ a_holds a_lettersOf a_p1 a_p1_cellNames a_p1_secretNames a_p1_pageNames a_p1_speed a_p1_letters a_p1_room a_p1_now a_p1_rounds a_p1_now_order a_p1_now_knows a_p1_now_made a_p1_now_sixteenths a_p1_now_dots a_p1_now_used a_p1_now_stands v_above v_below v_p1_cells v_p1_secrets v_p1_pages v_p1_blind v_p1_rubs v_p1_now_inOrder v_p1_now_place v_p1_now_ill v_p1_now_shut v_p1_now_turns v_p1_now_madeInAll v_p1_now_sixteenths v_p1_now_used) → va_S A s.heap H locs → lv_has ls 9 [(0, .ref a_), (1, .ref a_p1), (2, .int z2), (3, .long z3), (5, .long z5), (7, .int z7)] → W p l e ({ frames := 2, cells := 0, slots := 0, locals := 56 }) s m args below meth c H locs 0 0 (MQ below ((mp_Qv D (k_X4_tellRisk T a_ a_holds a_lettersOf a_p1 a_p1_cellNames a_p1_secretNames a_p1_pageNames a_p1_speed a_p1_letters a_p1_room a_p1_now a_p1_rounds a_p1_now_order a_p1_now_knows a_p1_now_made a_p1_now_sixteenths a_p1_now_dots a_p1_now_used a_p1_now_stands o_above o_below v_p1_cells v_p1_secrets v_p1_pages v_p1_blind v_p1_rubs v_p1_now_inOrder v_p1_now_place v_p1_now_ill v_p1_now_shut v_p1_now_turns v_p1_now_madeInAll v_p1_now_sixteenths v_p1_now_used)) A) args s 0 0 A) (F0 m 8 ls [])) :
    ∀ (n : Nat) (z2 : Int32) (z3 : Int64) (z5 : Int64) (z7 : Int32) (z8 : Int32) (v_above : Int64) (v_below : Int64), f_X4_tellRisk_17 fu v_p1_pages v_p1_now_shut v_p1_now_sixteenths v_p1_now_used K8 n z2 z3 z5 z7 z8 v_above v_below = some (o_above, o_below) → ∀ (H : Heap) (locs : List Loc) (ls : Array Slot), va_P D mp_cl (k_X4_tellRisk T a_ a_holds a_lettersOf a_p1 a_p1_cellNames a_p1_secretNames a_p1_pageNames a_p1_speed a_p1_letters a_p1_room a_p1_now a_p1_rounds a_p1_now_order a_p1_now_knows a_p1_now_made a_p1_now_sixteenths a_p1_now_dots a_p1_now_used a_p1_now_stands v_above v_below v_p1_cells v_p1_secrets v_p1_pages v_p1_blind v_p1_rubs v_p1_now_inOrder v_p1_now_place v_p1_now_ill v_p1_now_shut v_p1_now_turns v_p1_now_madeInAll v_p1_now_sixteenths v_p1_now_used) H → va_D A (k_X4_tellRisk T a_ a_holds a_lettersOf a_p1 a_p1_cellNames a_p1_secretNames a_p1_pageNames a_p1_speed a_p1_letters a_p1_room a_p1_now a_p1_rounds a_p1_now_order a_p1_now_knows a_p1_now_made a_p1_now_sixteenths a_p1_now_dots a_p1_now_used a_p1_now_stands v_above v_below v_p1_cells v_p1_secrets v_p1_pages v_p1_blind v_p1_rubs v_p1_now_inOrder v_p1_now_place v_p1_now_ill v_p1_now_shut v_p1_now_turns v_p1_now_madeInAll v_p1_now_sixteenths v_p1_now_used) → va_S A s.heap H locs → lv_has ls 9 [(0, .ref a_), (1, .ref a_p1), (2, .int z2), (3, .long z3), (5, .long z5), (7, .int z7), (8, .int z8)] → W p l e ({ frames := 2, cells := 0, slots := 0, locals := 56 }) s m args below meth c H locs 0 0 (MQ below ((mp_Qv D (k_X4_tellRisk T a_ a_holds a_lettersOf a_p1 a_p1_cellNames a_p1_secretNames a_p1_pageNames a_p1_speed a_p1_letters a_p1_room a_p1_now a_p1_rounds a_p1_now_order a_p1_now_knows a_p1_now_made a_p1_now_sixteenths a_p1_now_dots a_p1_now_used a_p1_now_stands o_above o_below v_p1_cells v_p1_secrets v_p1_pages v_p1_blind v_p1_rubs v_p1_now_inOrder v_p1_now_place v_p1_now_ill v_p1_now_shut v_p1_now_turns v_p1_now_madeInAll v_p1_now_sixteenths v_p1_now_used)) A) args s 0 0 A) (F0 m 17 ls []) := by
  have hx := X.1
  have hb := X.2.1
  have hml := X.2.2.1
  have hown := X.2.2.2.2.1
  have hts := X.2.2.2.2.2.1
  intro n
  induction n with
  | zero => intro z2 z3 z5 z7 z8 v_above v_below hf; exact absurd hf (by intro h; cases h)
  | succ n ih =>
    intro z2 z3 z5 z7 z8 v_above v_below hf H locs ls hP hD hS hl
    replace hf : (if v_p1_pages ≤ z8 then lt_ (z7 + (nI 1)) (fun (y2 : Int32) => K8 z2 z3 z5 y2 v_above v_below) else bd_ (f_X7_has v_p1_now_shut z8) (fun (r3 : Int32) => (if r3 = 0 then gi_ z8 6 ((if (v_p1_now_used (z8).toNatClampNeg) ≤ 0 then lt_ (z8 + (nI 1)) (fun (y9 : Int32) => f_X4_tellRisk_17 fu v_p1_pages v_p1_now_shut v_p1_now_sixteenths v_p1_now_used K8 n z2 z3 z5 z7 y9 v_above v_below) else gi_ z8 6 (lt_ (z3 * ((nI 16) - (v_p1_now_sixteenths (z8).toNatClampNeg)).toInt64) (fun (y11 : Int64) => lt_ (z5 * (lN 16)) (fun (y12 : Int64) => lt_ (z8 + (nI 1)) (fun (y13 : Int32) => f_X4_tellRisk_17 fu v_p1_pages v_p1_now_shut v_p1_now_sixteenths v_p1_now_used K8 n z2 y11 y12 z7 y13 v_above v_below)))))) else lt_ (z8 + (nI 1)) (fun (y6 : Int32) => f_X4_tellRisk_17 fu v_p1_pages v_p1_now_shut v_p1_now_sixteenths v_p1_now_used K8 n z2 z3 z5 z7 y6 v_above v_below)))) = some (o_above, o_below) := hf
    refine lv_iload hx hb dX4_tellRisk_17 (lv_at hl 6 rfl) ?_
    refine lv_aload_n hx hb dX4_tellRisk_19 rfl (lv_at hl 1 rfl) ?_
    refine mp_get X fl_X4_30 hK hP 1 rfl rfl dX4_tellRisk_20 ?_
    refine lv_icmp_ge (tgt := 85) hx hb dX4_tellRisk_23 (by decide) (fun h1 => ?_) (fun h1 => ?_)
    · replace hf := if_t hf h1
      obtain ⟨y2, e2⟩ : ∃ y : Int32, y = z7 + (nI 1) := ⟨_, rfl⟩
      replace hf := lt_of e2 hf
      refine lv_iinc (v := y2) (lv' := [(7, .int y2), (0, .ref a_), (1, .ref a_p1), (2, .int z2), (3, .long z3), (5, .long z5), (8, .int z8)]) hx hb dX4_tellRisk_85 hl (k := 5) rfl (by rw [e2]; rfl) (by decide) rfl (fun ls hl => ?_)
      refine lv_goto (tgt := 8) hx hb dX4_tellRisk_88 (by decide) ?_
      exact hK8 z2 z3 z5 y2 v_above v_below hf _ _ _ hP (mp_D_of hD rfl) hS (lv_sub hl [1, 2, 3, 4, 5, 0] rfl)
    · replace hf := if_f hf h1
      refine lv_aload_n hx hb dX4_tellRisk_26 rfl (lv_at hl 1 rfl) ?_
      refine mp_get X fl_X4_36 hK hP 1 rfl rfl dX4_tellRisk_27 ?_
      refine mp_get X fl_X4_40 hK hP 2 rfl rfl dX4_tellRisk_30 ?_
      refine lv_iload hx hb dX4_tellRisk_33 (lv_at hl 6 rfl) ?_
      obtain ⟨r3, c4, hf⟩ := bd_of hf
      have hPc := hP.sub (ws' := (k_X7_has T )) [] rfl
      have hDc := (mp_D_of (w1 := (k_X4_tellRisk T a_ a_holds a_lettersOf a_p1 a_p1_cellNames a_p1_secretNames a_p1_pageNames a_p1_speed a_p1_letters a_p1_room a_p1_now a_p1_rounds a_p1_now_order a_p1_now_knows a_p1_now_made a_p1_now_sixteenths a_p1_now_dots a_p1_now_used a_p1_now_stands v_above v_below v_p1_cells v_p1_secrets v_p1_pages v_p1_blind v_p1_rubs v_p1_now_inOrder v_p1_now_place v_p1_now_ill v_p1_now_shut v_p1_now_turns v_p1_now_madeInAll v_p1_now_sixteenths v_p1_now_used)) hD rfl).sub (ws' := (k_X7_has T )) [] rfl rfl
      refine mp_calli (isC := []) (wc := (k_X7_has T )) (w1 := (k_X7_has T )) hP (mp_D_of hD rfl) hS hA rfl rfl (mp_runS (As := [.int v_p1_now_shut, .int z8]) (rest := []) X me_X7_has lk_X4_45 (c_X7_has l D T v_p1_now_shut z8 r3 c4) rfl rfl ⟨(Nat.le_of_ble_eq_true rfl), (Nat.le_of_ble_eq_true rfl)⟩ hK hPc hDc rfl hl.1 rfl (Nat.le_of_ble_eq_true rfl) dX4_tellRisk_35 ⟨Nat.zero_le _, Nat.zero_le _⟩) (fun H locs hP _ hS => ?_)
      replace hP : va_P D mp_cl (k_X4_tellRisk T a_ a_holds a_lettersOf a_p1 a_p1_cellNames a_p1_secretNames a_p1_pageNames a_p1_speed a_p1_letters a_p1_room a_p1_now a_p1_rounds a_p1_now_order a_p1_now_knows a_p1_now_made a_p1_now_sixteenths a_p1_now_dots a_p1_now_used a_p1_now_stands v_above v_below v_p1_cells v_p1_secrets v_p1_pages v_p1_blind v_p1_rubs v_p1_now_inOrder v_p1_now_place v_p1_now_ill v_p1_now_shut v_p1_now_turns v_p1_now_madeInAll v_p1_now_sixteenths v_p1_now_used) H := hP
      refine lv_if_ne (tgt := 79) hx hb dX4_tellRisk_38 (by decide) (fun h5 => ?_) (fun h5 => ?_)
      · replace hf := if_f hf h5
        obtain ⟨y6, e6⟩ : ∃ y : Int32, y = z8 + (nI 1) := ⟨_, rfl⟩
        replace hf := lt_of e6 hf
        refine lv_iinc (v := y6) (lv' := [(8, .int y6), (0, .ref a_), (1, .ref a_p1), (2, .int z2), (3, .long z3), (5, .long z5), (7, .int z7)]) hx hb dX4_tellRisk_79 hl (k := 6) rfl (by rw [e6]; rfl) (by decide) rfl (fun ls hl => ?_)
        refine lv_goto (tgt := 17) hx hb dX4_tellRisk_82 (by decide) ?_
        exact ih z2 z3 z5 z7 y6 v_above v_below hf _ _ _ hP (mp_D_of hD rfl) hS (lv_sub hl [1, 2, 3, 4, 5, 6, 0] rfl)
      · replace hf := if_t hf h5
        refine lv_aload_n hx hb dX4_tellRisk_41 rfl (lv_at hl 1 rfl) ?_
        refine mp_get X fl_X4_36 hK hP 1 rfl rfl dX4_tellRisk_42 ?_
        refine mp_get X fl_X4_49 hK hP 2 rfl rfl dX4_tellRisk_45 ?_
        refine lv_iload hx hb dX4_tellRisk_48 (lv_at hl 6 rfl) ?_
        obtain ⟨h7, hf⟩ := gi_of hf
        refine va_iald hx hb hK hP 4 0 rfl rfl h7 dX4_tellRisk_50 ?_
        refine lv_if_le (tgt := 79) hx hb dX4_tellRisk_51 (by decide) (fun h8 => ?_) (fun h8 => ?_)
        · replace hf := if_t hf h8
          obtain ⟨y9, e9⟩ : ∃ y : Int32, y = z8 + (nI 1) := ⟨_, rfl⟩
          replace hf := lt_of e9 hf
          refine lv_iinc (v := y9) (lv' := [(8, .int y9), (0, .ref a_), (1, .ref a_p1), (2, .int z2), (3, .long z3), (5, .long z5), (7, .int z7)]) hx hb dX4_tellRisk_79 hl (k := 6) rfl (by rw [e9]; rfl) (by decide) rfl (fun ls hl => ?_)
          refine lv_goto (tgt := 17) hx hb dX4_tellRisk_82 (by decide) ?_
          exact ih z2 z3 z5 z7 y9 v_above v_below hf _ _ _ hP (mp_D_of hD rfl) hS (lv_sub hl [1, 2, 3, 4, 5, 6, 0] rfl)
        · replace hf := if_f hf h8
          refine lv_lload_n hx hb dX4_tellRisk_54 rfl (lv_at hl 3 rfl) ?_
          refine lv_bipush (v := (nI 16)) hx hb dX4_tellRisk_55 (by decide) ?_
          refine lv_aload_n hx hb dX4_tellRisk_57 rfl (lv_at hl 1 rfl) ?_
          refine mp_get X fl_X4_36 hK hP 1 rfl rfl dX4_tellRisk_58 ?_
          refine mp_get X fl_X4_52 hK hP 2 rfl rfl dX4_tellRisk_61 ?_
          refine lv_iload hx hb dX4_tellRisk_64 (lv_at hl 6 rfl) ?_
          obtain ⟨h10, hf⟩ := gi_of hf
          refine va_iald hx hb hK hP 3 0 rfl rfl h10 dX4_tellRisk_66 ?_
          refine lv_isub hx hb dX4_tellRisk_67 ?_
          refine lv_i2l hx hb dX4_tellRisk_68 rfl ?_
          refine lv_lmul hx hb dX4_tellRisk_69 ?_
          refine lv_topl (fun y11 e11 => ?_)
          replace hf := lt_of e11 hf
          refine lv_lstore_n (lv' := [(3, .long y11), (0, .ref a_), (1, .ref a_p1), (2, .int z2), (5, .long z5), (7, .int z7), (8, .int z8)]) hx hb dX4_tellRisk_70 rfl hl (by decide) rfl (fun ls hl => ?_)
          refine lv_lload hx hb dX4_tellRisk_71 (lv_at hl 4 rfl) ?_
          refine lv_ldc2 (v := (lN 16)) hx hb hown (hts _ (cw_X4_55)) dX4_tellRisk_73 ?_
          refine lv_lmul hx hb dX4_tellRisk_76 ?_
          refine lv_topl (fun y12 e12 => ?_)
          replace hf := lt_of e12 hf
          refine lv_lstore (lv' := [(5, .long y12), (3, .long y11), (0, .ref a_), (1, .ref a_p1), (2, .int z2), (7, .int z7), (8, .int z8)]) hx hb dX4_tellRisk_77 hl (by decide) rfl (fun ls hl => ?_)
          obtain ⟨y13, e13⟩ : ∃ y : Int32, y = z8 + (nI 1) := ⟨_, rfl⟩
          replace hf := lt_of e13 hf
          refine lv_iinc (v := y13) (lv' := [(8, .int y13), (5, .long y12), (3, .long y11), (0, .ref a_), (1, .ref a_p1), (2, .int z2), (7, .int z7)]) hx hb dX4_tellRisk_79 hl (k := 6) rfl (by rw [e13]; rfl) (by decide) rfl (fun ls hl => ?_)
          refine lv_goto (tgt := 17) hx hb dX4_tellRisk_82 (by decide) ?_
          exact ih z2 y11 y12 z7 y13 v_above v_below hf _ _ _ hP (mp_D_of hD rfl) hS (lv_sub hl [3, 4, 5, 2, 1, 6, 0] rfl)

set_option maxHeartbeats 4000000 in
set_option maxRecDepth 100000 in
theorem w_X4_tellRisk_8 {p : Program} {l : Launch} {e : Env} {s : State} {m : MethodId} {args : Array Value} {below : List Frame} {meth : Method} {c : Code} {D : va_G} {T : Nat → ClassId} {A : Nat → Prop} (X : mp_X p s m meth c args RX4 "tellRisk" cX4_tellRisk 9 none) (hK : va_K D mp_cl (mp_ty T) s) (hA : ∀ q, s.heap.size ≤ q → A q) (fu : Nat) (a_ a_holds a_lettersOf a_p1 a_p1_cellNames a_p1_secretNames a_p1_pageNames a_p1_speed a_p1_letters a_p1_room a_p1_now a_p1_rounds a_p1_now_order a_p1_now_knows a_p1_now_made a_p1_now_sixteenths a_p1_now_dots a_p1_now_used a_p1_now_stands : Nat) (v_p1_cells : Int32) (v_p1_secrets : Int32) (v_p1_blind : Int32) (v_p1_rubs : Int32) (v_p1_now_inOrder : Int32) (v_p1_now_place : Int32) (v_p1_now_ill : Int32) (v_p1_now_turns : Int32) (v_p1_now_madeInAll : Int32) (v_p1_pages : Int32) (v_p1_now_shut : Int32) (v_p1_now_sixteenths : (Nat → Int32)) (v_p1_now_used : (Nat → Int32)) (o_above : Int64) (o_below : Int64) :
    ∀ (n : Nat) (z2 : Int32) (z3 : Int64) (z5 : Int64) (z7 : Int32) (v_above : Int64) (v_below : Int64), f_X4_tellRisk_8 fu v_p1_pages v_p1_now_shut v_p1_now_sixteenths v_p1_now_used  n z2 z3 z5 z7 v_above v_below = some (o_above, o_below) → ∀ (H : Heap) (locs : List Loc) (ls : Array Slot), va_P D mp_cl (k_X4_tellRisk T a_ a_holds a_lettersOf a_p1 a_p1_cellNames a_p1_secretNames a_p1_pageNames a_p1_speed a_p1_letters a_p1_room a_p1_now a_p1_rounds a_p1_now_order a_p1_now_knows a_p1_now_made a_p1_now_sixteenths a_p1_now_dots a_p1_now_used a_p1_now_stands v_above v_below v_p1_cells v_p1_secrets v_p1_pages v_p1_blind v_p1_rubs v_p1_now_inOrder v_p1_now_place v_p1_now_ill v_p1_now_shut v_p1_now_turns v_p1_now_madeInAll v_p1_now_sixteenths v_p1_now_used) H → va_D A (k_X4_tellRisk T a_ a_holds a_lettersOf a_p1 a_p1_cellNames a_p1_secretNames a_p1_pageNames a_p1_speed a_p1_letters a_p1_room a_p1_now a_p1_rounds a_p1_now_order a_p1_now_knows a_p1_now_made a_p1_now_sixteenths a_p1_now_dots a_p1_now_used a_p1_now_stands v_above v_below v_p1_cells v_p1_secrets v_p1_pages v_p1_blind v_p1_rubs v_p1_now_inOrder v_p1_now_place v_p1_now_ill v_p1_now_shut v_p1_now_turns v_p1_now_madeInAll v_p1_now_sixteenths v_p1_now_used) → va_S A s.heap H locs → lv_has ls 9 [(0, .ref a_), (1, .ref a_p1), (2, .int z2), (3, .long z3), (5, .long z5), (7, .int z7)] → W p l e ({ frames := 2, cells := 0, slots := 0, locals := 56 }) s m args below meth c H locs 0 0 (MQ below ((mp_Qv D (k_X4_tellRisk T a_ a_holds a_lettersOf a_p1 a_p1_cellNames a_p1_secretNames a_p1_pageNames a_p1_speed a_p1_letters a_p1_room a_p1_now a_p1_rounds a_p1_now_order a_p1_now_knows a_p1_now_made a_p1_now_sixteenths a_p1_now_dots a_p1_now_used a_p1_now_stands o_above o_below v_p1_cells v_p1_secrets v_p1_pages v_p1_blind v_p1_rubs v_p1_now_inOrder v_p1_now_place v_p1_now_ill v_p1_now_shut v_p1_now_turns v_p1_now_madeInAll v_p1_now_sixteenths v_p1_now_used)) A) args s 0 0 A) (F0 m 8 ls []) := by
  have hx := X.1
  have hb := X.2.1
  have hml := X.2.2.1
  have hown := X.2.2.2.2.1
  have hts := X.2.2.2.2.2.1
  intro n
  induction n with
  | zero => intro z2 z3 z5 z7 v_above v_below hf; exact absurd hf (by intro h; cases h)
  | succ n ih =>
    intro z2 z3 z5 z7 v_above v_below hf H locs ls hP hD hS hl
    replace hf : (if z2 ≤ z7 then bd_ (f_X4_keep fu (z5 - z3) z5 v_above v_below) (fun (z : Int64 × Int64) => match z with | (u2, u3) => some (u2, u3)) else f_X4_tellRisk_17 fu v_p1_pages v_p1_now_shut v_p1_now_sixteenths v_p1_now_used (f_X4_tellRisk_8 fu v_p1_pages v_p1_now_shut v_p1_now_sixteenths v_p1_now_used  n) fu z2 z3 z5 z7 (nI 0) v_above v_below) = some (o_above, o_below) := hf
    refine lv_iload hx hb dX4_tellRisk_8 (lv_at hl 5 rfl) ?_
    refine lv_iload_n hx hb dX4_tellRisk_10 rfl (lv_at hl 2 rfl) ?_
    refine lv_icmp_ge (tgt := 91) hx hb dX4_tellRisk_11 (by decide) (fun h1 => ?_) (fun h1 => ?_)
    · replace hf := if_t hf h1
      refine lv_aload_n hx hb dX4_tellRisk_91 rfl (lv_at hl 0 rfl) ?_
      refine lv_lload hx hb dX4_tellRisk_92 (lv_at hl 4 rfl) ?_
      refine lv_lload_n hx hb dX4_tellRisk_94 rfl (lv_at hl 3 rfl) ?_
      refine lv_lsub hx hb dX4_tellRisk_95 ?_
      refine lv_lload hx hb dX4_tellRisk_96 (lv_at hl 4 rfl) ?_
      obtain ⟨⟨u2, u3⟩, c4, hf⟩ := bd_of hf
      dsimp only at hf
      have hPc := hP.sub (ws' := (k_X4_keep T a_ a_holds a_lettersOf v_above v_below)) [0] rfl
      have hDc := (mp_D_of (w1 := (k_X4_tellRisk T a_ a_holds a_lettersOf a_p1 a_p1_cellNames a_p1_secretNames a_p1_pageNames a_p1_speed a_p1_letters a_p1_room a_p1_now a_p1_rounds a_p1_now_order a_p1_now_knows a_p1_now_made a_p1_now_sixteenths a_p1_now_dots a_p1_now_used a_p1_now_stands v_above v_below v_p1_cells v_p1_secrets v_p1_pages v_p1_blind v_p1_rubs v_p1_now_inOrder v_p1_now_place v_p1_now_ill v_p1_now_shut v_p1_now_turns v_p1_now_madeInAll v_p1_now_sixteenths v_p1_now_used)) hD rfl).sub (ws' := (k_X4_keep T a_ a_holds a_lettersOf v_above v_below)) [0] rfl rfl
      refine mp_callv (isC := [0]) (wc := (k_X4_keep T a_ a_holds a_lettersOf v_above v_below)) (w1 := (k_X4_keep T a_ a_holds a_lettersOf u2 u3)) hP (mp_D_of hD rfl) hS hA rfl rfl (mp_runV (As := [.long (z5 - z3), .long z5]) (rest := []) X me_X4_keep lk_X4_57 (c_X4_keep l D T fu a_ a_holds a_lettersOf (z5 - z3) z5 v_above v_below u2 u3 c4) rfl rfl ⟨(Nat.le_of_ble_eq_true rfl), (Nat.le_of_ble_eq_true rfl)⟩ hK hPc hDc rfl rfl rfl rfl hl.1 rfl (Nat.le_of_ble_eq_true rfl) dX4_tellRisk_98 ⟨Nat.zero_le _, Nat.zero_le _⟩) (fun H locs hP _ hS => ?_)
      replace hP : va_P D mp_cl (k_X4_tellRisk T a_ a_holds a_lettersOf a_p1 a_p1_cellNames a_p1_secretNames a_p1_pageNames a_p1_speed a_p1_letters a_p1_room a_p1_now a_p1_rounds a_p1_now_order a_p1_now_knows a_p1_now_made a_p1_now_sixteenths a_p1_now_dots a_p1_now_used a_p1_now_stands u2 u3 v_p1_cells v_p1_secrets v_p1_pages v_p1_blind v_p1_rubs v_p1_now_inOrder v_p1_now_place v_p1_now_ill v_p1_now_shut v_p1_now_turns v_p1_now_madeInAll v_p1_now_sixteenths v_p1_now_used) H := hP
      cases hf
      exact mp_retv X hP hS dX4_tellRisk_101
    · replace hf := if_f hf h1
      refine lv_iconst (v := (nI 0)) hx hb dX4_tellRisk_14 (by decide) ?_
      refine lv_istore (lv' := [(8, .int (nI 0)), (0, .ref a_), (1, .ref a_p1), (2, .int z2), (3, .long z3), (5, .long z5), (7, .int z7)]) hx hb dX4_tellRisk_15 hl (by decide) rfl (fun ls hl => ?_)
      exact w_X4_tellRisk_17 X hK hA  fu a_ a_holds a_lettersOf a_p1 a_p1_cellNames a_p1_secretNames a_p1_pageNames a_p1_speed a_p1_letters a_p1_room a_p1_now a_p1_rounds a_p1_now_order a_p1_now_knows a_p1_now_made a_p1_now_sixteenths a_p1_now_dots a_p1_now_used a_p1_now_stands v_p1_cells v_p1_secrets v_p1_blind v_p1_rubs v_p1_now_inOrder v_p1_now_place v_p1_now_ill v_p1_now_turns v_p1_now_madeInAll v_p1_pages v_p1_now_shut v_p1_now_sixteenths v_p1_now_used o_above o_below  (f_X4_tellRisk_8 fu v_p1_pages v_p1_now_shut v_p1_now_sixteenths v_p1_now_used  n) (ih) fu z2 z3 z5 z7 (nI 0) v_above v_below hf _ _ _ hP (mp_D_of hD rfl) hS (lv_sub hl [1, 2, 3, 4, 5, 6, 0] rfl)

set_option maxHeartbeats 4000000 in
set_option maxRecDepth 100000 in
theorem c_X4_tellRisk (l : Launch) (D : va_G) (T : Nat → ClassId) (fu : Nat) (a_ a_holds a_lettersOf a_p1 a_p1_cellNames a_p1_secretNames a_p1_pageNames a_p1_speed a_p1_letters a_p1_room a_p1_now a_p1_rounds a_p1_now_order a_p1_now_knows a_p1_now_made a_p1_now_sixteenths a_p1_now_dots a_p1_now_used a_p1_now_stands : Nat) (x2 : Int32) (v_p1_cells : Int32) (v_p1_secrets : Int32) (v_p1_blind : Int32) (v_p1_rubs : Int32) (v_p1_now_inOrder : Int32) (v_p1_now_place : Int32) (v_p1_now_ill : Int32) (v_p1_now_turns : Int32) (v_p1_now_madeInAll : Int32) (v_above : Int64) (v_below : Int64) (v_p1_pages : Int32) (v_p1_now_shut : Int32) (v_p1_now_sixteenths : (Nat → Int32)) (v_p1_now_used : (Nat → Int32)) (o_above : Int64) (o_below : Int64) (hf : f_X4_tellRisk fu x2 v_above v_below v_p1_pages v_p1_now_shut v_p1_now_sixteenths v_p1_now_used = some (o_above, o_below)) :
    mp_M l D T yX4_tellRisk cX4_tellRisk 9 none ({ frames := 2, cells := 0, slots := 0, locals := 56 }) 0 0 [.ref a_, .ref a_p1, .int x2] (k_X4_tellRisk T a_ a_holds a_lettersOf a_p1 a_p1_cellNames a_p1_secretNames a_p1_pageNames a_p1_speed a_p1_letters a_p1_room a_p1_now a_p1_rounds a_p1_now_order a_p1_now_knows a_p1_now_made a_p1_now_sixteenths a_p1_now_dots a_p1_now_used a_p1_now_stands v_above v_below v_p1_cells v_p1_secrets v_p1_pages v_p1_blind v_p1_rubs v_p1_now_inOrder v_p1_now_place v_p1_now_ill v_p1_now_shut v_p1_now_turns v_p1_now_madeInAll v_p1_now_sixteenths v_p1_now_used) (mp_Qv D (k_X4_tellRisk T a_ a_holds a_lettersOf a_p1 a_p1_cellNames a_p1_secretNames a_p1_pageNames a_p1_speed a_p1_letters a_p1_room a_p1_now a_p1_rounds a_p1_now_order a_p1_now_knows a_p1_now_made a_p1_now_sixteenths a_p1_now_dots a_p1_now_used a_p1_now_stands o_above o_below v_p1_cells v_p1_secrets v_p1_pages v_p1_blind v_p1_rubs v_p1_now_inOrder v_p1_now_place v_p1_now_ill v_p1_now_shut v_p1_now_turns v_p1_now_madeInAll v_p1_now_sixteenths v_p1_now_used)) := by
  refine mp_of (by decide) (Nat.le_of_ble_eq_true rfl) rfl ?_
  intro p e s m args below meth c A ls X hK hP hD hS hA hl
  replace X : mp_X p s m meth c args RX4 "tellRisk" cX4_tellRisk 9 none := X
  have hx := X.1
  have hb := X.2.1
  have hml := X.2.2.1
  have hown := X.2.2.2.2.1
  have hts := X.2.2.2.2.2.1
  replace hl : lv_has ls 9 [(0, .ref a_), (1, .ref a_p1), (2, .int x2)] := hl
  replace hf : f_X4_tellRisk_8 fu v_p1_pages v_p1_now_shut v_p1_now_sixteenths v_p1_now_used  fu x2 (lN 1) (lN 1) (nI 0) v_above v_below = some (o_above, o_below) := hf
  refine lv_lconst (v := (lN 1)) hx hb dX4_tellRisk_0 (by decide) ?_
  refine lv_lstore_n (lv' := [(3, .long (lN 1)), (0, .ref a_), (1, .ref a_p1), (2, .int x2)]) hx hb dX4_tellRisk_1 rfl hl (by decide) rfl (fun ls hl => ?_)
  refine lv_lconst (v := (lN 1)) hx hb dX4_tellRisk_2 (by decide) ?_
  refine lv_lstore (lv' := [(5, .long (lN 1)), (3, .long (lN 1)), (0, .ref a_), (1, .ref a_p1), (2, .int x2)]) hx hb dX4_tellRisk_3 hl (by decide) rfl (fun ls hl => ?_)
  refine lv_iconst (v := (nI 0)) hx hb dX4_tellRisk_5 (by decide) ?_
  refine lv_istore (lv' := [(7, .int (nI 0)), (5, .long (lN 1)), (3, .long (lN 1)), (0, .ref a_), (1, .ref a_p1), (2, .int x2)]) hx hb dX4_tellRisk_6 hl (by decide) rfl (fun ls hl => ?_)
  exact w_X4_tellRisk_8 X hK hA  fu a_ a_holds a_lettersOf a_p1 a_p1_cellNames a_p1_secretNames a_p1_pageNames a_p1_speed a_p1_letters a_p1_room a_p1_now a_p1_rounds a_p1_now_order a_p1_now_knows a_p1_now_made a_p1_now_sixteenths a_p1_now_dots a_p1_now_used a_p1_now_stands v_p1_cells v_p1_secrets v_p1_blind v_p1_rubs v_p1_now_inOrder v_p1_now_place v_p1_now_ill v_p1_now_turns v_p1_now_madeInAll v_p1_pages v_p1_now_shut v_p1_now_sixteenths v_p1_now_used o_above o_below   fu x2 (lN 1) (lN 1) (nI 0) v_above v_below hf _ _ _ hP (mp_D_of hD rfl) hS (lv_sub hl [3, 4, 5, 2, 1, 0] rfl)


def k_X4_firstSafe (T : Nat → ClassId) (a_p1 a_p1_cellNames a_p1_secretNames a_p1_pageNames a_p1_speed a_p1_letters a_p1_room a_p1_now a_p1_rounds a_p1_now_order a_p1_now_knows a_p1_now_made a_p1_now_sixteenths a_p1_now_dots a_p1_now_used a_p1_now_stands : Nat) (v_p1_cells : Int32) (v_p1_secrets : Int32) (v_p1_pages : Int32) (v_p1_blind : Int32) (v_p1_rubs : Int32) (v_p1_now_inOrder : Int32) (v_p1_now_place : Int32) (v_p1_now_ill : Int32) (v_p1_now_shut : Int32) (v_p1_now_turns : Int32) (v_p1_now_madeInAll : Int32) (v_p1_now_sixteenths : (Nat → Int32)) : va_W := [(a_p1, oX1 v_p1_cells v_p1_secrets v_p1_pages a_p1_cellNames a_p1_secretNames a_p1_pageNames a_p1_speed v_p1_blind v_p1_rubs a_p1_letters a_p1_room a_p1_now a_p1_rounds), (a_p1_now, oX7 a_p1_now_order v_p1_now_inOrder v_p1_now_place a_p1_now_knows a_p1_now_made a_p1_now_sixteenths a_p1_now_dots a_p1_now_used a_p1_now_stands v_p1_now_ill v_p1_now_shut v_p1_now_turns v_p1_now_madeInAll), (a_p1_now_sixteenths, mp_aI T 6 v_p1_now_sixteenths)]
set_option maxHeartbeats 4000000 in
set_option maxRecDepth 100000 in
theorem w_X4_firstSafe_2 {p : Program} {l : Launch} {e : Env} {s : State} {m : MethodId} {args : Array Value} {below : List Frame} {meth : Method} {c : Code} {D : va_G} {T : Nat → ClassId} {A : Nat → Prop} (X : mp_X p s m meth c args RX4 "firstSafe" cX4_firstSafe 2 (some .int)) (hK : va_K D mp_cl (mp_ty T) s) (hA : ∀ q, s.heap.size ≤ q → A q) (fu : Nat) (a_p1 a_p1_cellNames a_p1_secretNames a_p1_pageNames a_p1_speed a_p1_letters a_p1_room a_p1_now a_p1_rounds a_p1_now_order a_p1_now_knows a_p1_now_made a_p1_now_sixteenths a_p1_now_dots a_p1_now_used a_p1_now_stands : Nat) (v_p1_cells : Int32) (v_p1_secrets : Int32) (v_p1_blind : Int32) (v_p1_rubs : Int32) (v_p1_now_inOrder : Int32) (v_p1_now_place : Int32) (v_p1_now_ill : Int32) (v_p1_now_turns : Int32) (v_p1_now_madeInAll : Int32) (v_p1_pages : Int32) (v_p1_now_shut : Int32) (v_p1_now_sixteenths : (Nat → Int32)) (r_ : Int32) :
    ∀ (n : Nat) (z1 : Int32), f_X4_firstSafe_2 fu v_p1_pages v_p1_now_shut v_p1_now_sixteenths  n z1 = some r_ → ∀ (H : Heap) (locs : List Loc) (ls : Array Slot), va_P D mp_cl (k_X4_firstSafe T a_p1 a_p1_cellNames a_p1_secretNames a_p1_pageNames a_p1_speed a_p1_letters a_p1_room a_p1_now a_p1_rounds a_p1_now_order a_p1_now_knows a_p1_now_made a_p1_now_sixteenths a_p1_now_dots a_p1_now_used a_p1_now_stands v_p1_cells v_p1_secrets v_p1_pages v_p1_blind v_p1_rubs v_p1_now_inOrder v_p1_now_place v_p1_now_ill v_p1_now_shut v_p1_now_turns v_p1_now_madeInAll v_p1_now_sixteenths) H → va_D A (k_X4_firstSafe T a_p1 a_p1_cellNames a_p1_secretNames a_p1_pageNames a_p1_speed a_p1_letters a_p1_room a_p1_now a_p1_rounds a_p1_now_order a_p1_now_knows a_p1_now_made a_p1_now_sixteenths a_p1_now_dots a_p1_now_used a_p1_now_stands v_p1_cells v_p1_secrets v_p1_pages v_p1_blind v_p1_rubs v_p1_now_inOrder v_p1_now_place v_p1_now_ill v_p1_now_shut v_p1_now_turns v_p1_now_madeInAll v_p1_now_sixteenths) → va_S A s.heap H locs → lv_has ls 2 [(0, .ref a_p1), (1, .int z1)] → W p l e ({ frames := 1, cells := 0, slots := 0, locals := 21 }) s m args below meth c H locs 0 0 (MQ below ((mp_Qi D r_ (k_X4_firstSafe T a_p1 a_p1_cellNames a_p1_secretNames a_p1_pageNames a_p1_speed a_p1_letters a_p1_room a_p1_now a_p1_rounds a_p1_now_order a_p1_now_knows a_p1_now_made a_p1_now_sixteenths a_p1_now_dots a_p1_now_used a_p1_now_stands v_p1_cells v_p1_secrets v_p1_pages v_p1_blind v_p1_rubs v_p1_now_inOrder v_p1_now_place v_p1_now_ill v_p1_now_shut v_p1_now_turns v_p1_now_madeInAll v_p1_now_sixteenths)) A) args s 0 0 A) (F0 m 2 ls []) := by
  have hx := X.1
  have hb := X.2.1
  have hml := X.2.2.1
  have hown := X.2.2.2.2.1
  have hts := X.2.2.2.2.2.1
  intro n
  induction n with
  | zero => intro z1 hf; exact absurd hf (by intro h; cases h)
  | succ n ih =>
    intro z1 hf H locs ls hP hD hS hl
    replace hf : (if v_p1_pages ≤ z1 then some ((-1 : Int32)) else bd_ (f_X7_has v_p1_now_shut z1) (fun (r2 : Int32) => (if r2 = 0 then gi_ z1 6 ((if (v_p1_now_sixteenths (z1).toNatClampNeg) = 0 then some (z1) else lt_ (z1 + (nI 1)) (fun (y8 : Int32) => f_X4_firstSafe_2 fu v_p1_pages v_p1_now_shut v_p1_now_sixteenths  n y8))) else lt_ (z1 + (nI 1)) (fun (y5 : Int32) => f_X4_firstSafe_2 fu v_p1_pages v_p1_now_shut v_p1_now_sixteenths  n y5)))) = some r_ := hf
    refine lv_iload_n hx hb dX4_firstSafe_2 rfl (lv_at hl 1 rfl) ?_
    refine lv_aload_n hx hb dX4_firstSafe_3 rfl (lv_at hl 0 rfl) ?_
    refine mp_get X fl_X4_30 hK hP 0 rfl rfl dX4_firstSafe_4 ?_
    refine lv_icmp_ge (tgt := 44) hx hb dX4_firstSafe_7 (by decide) (fun h1 => ?_) (fun h1 => ?_)
    · replace hf := if_t hf h1
      refine lv_iconst (v := (-1 : Int32)) hx hb dX4_firstSafe_44 (by decide) ?_
      cases hf
      exact mp_reti X hP hS rfl dX4_firstSafe_45
    · replace hf := if_f hf h1
      refine lv_aload_n hx hb dX4_firstSafe_10 rfl (lv_at hl 0 rfl) ?_
      refine mp_get X fl_X4_36 hK hP 0 rfl rfl dX4_firstSafe_11 ?_
      refine mp_get X fl_X4_40 hK hP 1 rfl rfl dX4_firstSafe_14 ?_
      refine lv_iload_n hx hb dX4_firstSafe_17 rfl (lv_at hl 1 rfl) ?_
      obtain ⟨r2, c3, hf⟩ := bd_of hf
      have hPc := hP.sub (ws' := (k_X7_has T )) [] rfl
      have hDc := (mp_D_of (w1 := (k_X4_firstSafe T a_p1 a_p1_cellNames a_p1_secretNames a_p1_pageNames a_p1_speed a_p1_letters a_p1_room a_p1_now a_p1_rounds a_p1_now_order a_p1_now_knows a_p1_now_made a_p1_now_sixteenths a_p1_now_dots a_p1_now_used a_p1_now_stands v_p1_cells v_p1_secrets v_p1_pages v_p1_blind v_p1_rubs v_p1_now_inOrder v_p1_now_place v_p1_now_ill v_p1_now_shut v_p1_now_turns v_p1_now_madeInAll v_p1_now_sixteenths)) hD rfl).sub (ws' := (k_X7_has T )) [] rfl rfl
      refine mp_calli (isC := []) (wc := (k_X7_has T )) (w1 := (k_X7_has T )) hP (mp_D_of hD rfl) hS hA rfl rfl (mp_runS (As := [.int v_p1_now_shut, .int z1]) (rest := []) X me_X7_has lk_X4_45 (c_X7_has l D T v_p1_now_shut z1 r2 c3) rfl rfl ⟨(Nat.le_of_ble_eq_true rfl), (Nat.le_of_ble_eq_true rfl)⟩ hK hPc hDc rfl hl.1 rfl (Nat.le_of_ble_eq_true rfl) dX4_firstSafe_18 ⟨Nat.zero_le _, Nat.zero_le _⟩) (fun H locs hP _ hS => ?_)
      replace hP : va_P D mp_cl (k_X4_firstSafe T a_p1 a_p1_cellNames a_p1_secretNames a_p1_pageNames a_p1_speed a_p1_letters a_p1_room a_p1_now a_p1_rounds a_p1_now_order a_p1_now_knows a_p1_now_made a_p1_now_sixteenths a_p1_now_dots a_p1_now_used a_p1_now_stands v_p1_cells v_p1_secrets v_p1_pages v_p1_blind v_p1_rubs v_p1_now_inOrder v_p1_now_place v_p1_now_ill v_p1_now_shut v_p1_now_turns v_p1_now_madeInAll v_p1_now_sixteenths) H := hP
      refine lv_if_ne (tgt := 38) hx hb dX4_firstSafe_21 (by decide) (fun h4 => ?_) (fun h4 => ?_)
      · replace hf := if_f hf h4
        obtain ⟨y5, e5⟩ : ∃ y : Int32, y = z1 + (nI 1) := ⟨_, rfl⟩
        replace hf := lt_of e5 hf
        refine lv_iinc (v := y5) (lv' := [(1, .int y5), (0, .ref a_p1)]) hx hb dX4_firstSafe_38 hl (k := 1) rfl (by rw [e5]; rfl) (by decide) rfl (fun ls hl => ?_)
        refine lv_goto (tgt := 2) hx hb dX4_firstSafe_41 (by decide) ?_
        exact ih y5 hf _ _ _ hP (mp_D_of hD rfl) hS (lv_sub hl [1, 0] rfl)
      · replace hf := if_t hf h4
        refine lv_aload_n hx hb dX4_firstSafe_24 rfl (lv_at hl 0 rfl) ?_
        refine mp_get X fl_X4_36 hK hP 0 rfl rfl dX4_firstSafe_25 ?_
        refine mp_get X fl_X4_52 hK hP 1 rfl rfl dX4_firstSafe_28 ?_
        refine lv_iload_n hx hb dX4_firstSafe_31 rfl (lv_at hl 1 rfl) ?_
        obtain ⟨h6, hf⟩ := gi_of hf
        refine va_iald hx hb hK hP 2 0 rfl rfl h6 dX4_firstSafe_32 ?_
        refine lv_if_ne (tgt := 38) hx hb dX4_firstSafe_33 (by decide) (fun h7 => ?_) (fun h7 => ?_)
        · replace hf := if_f hf h7
          obtain ⟨y8, e8⟩ : ∃ y : Int32, y = z1 + (nI 1) := ⟨_, rfl⟩
          replace hf := lt_of e8 hf
          refine lv_iinc (v := y8) (lv' := [(1, .int y8), (0, .ref a_p1)]) hx hb dX4_firstSafe_38 hl (k := 1) rfl (by rw [e8]; rfl) (by decide) rfl (fun ls hl => ?_)
          refine lv_goto (tgt := 2) hx hb dX4_firstSafe_41 (by decide) ?_
          exact ih y8 hf _ _ _ hP (mp_D_of hD rfl) hS (lv_sub hl [1, 0] rfl)
        · replace hf := if_t hf h7
          refine lv_iload_n hx hb dX4_firstSafe_36 rfl (lv_at hl 1 rfl) ?_
          cases hf
          exact mp_reti X hP hS rfl dX4_firstSafe_37

set_option maxHeartbeats 4000000 in
set_option maxRecDepth 100000 in
theorem c_X4_firstSafe (l : Launch) (D : va_G) (T : Nat → ClassId) (fu : Nat) (a_p1 a_p1_cellNames a_p1_secretNames a_p1_pageNames a_p1_speed a_p1_letters a_p1_room a_p1_now a_p1_rounds a_p1_now_order a_p1_now_knows a_p1_now_made a_p1_now_sixteenths a_p1_now_dots a_p1_now_used a_p1_now_stands : Nat) (v_p1_cells : Int32) (v_p1_secrets : Int32) (v_p1_blind : Int32) (v_p1_rubs : Int32) (v_p1_now_inOrder : Int32) (v_p1_now_place : Int32) (v_p1_now_ill : Int32) (v_p1_now_turns : Int32) (v_p1_now_madeInAll : Int32) (v_p1_pages : Int32) (v_p1_now_shut : Int32) (v_p1_now_sixteenths : (Nat → Int32)) (r_ : Int32) (hf : f_X4_firstSafe fu v_p1_pages v_p1_now_shut v_p1_now_sixteenths = some r_) :
    mp_M l D T yX4_firstSafe cX4_firstSafe 2 (some .int) ({ frames := 1, cells := 0, slots := 0, locals := 21 }) 0 0 [.ref a_p1] (k_X4_firstSafe T a_p1 a_p1_cellNames a_p1_secretNames a_p1_pageNames a_p1_speed a_p1_letters a_p1_room a_p1_now a_p1_rounds a_p1_now_order a_p1_now_knows a_p1_now_made a_p1_now_sixteenths a_p1_now_dots a_p1_now_used a_p1_now_stands v_p1_cells v_p1_secrets v_p1_pages v_p1_blind v_p1_rubs v_p1_now_inOrder v_p1_now_place v_p1_now_ill v_p1_now_shut v_p1_now_turns v_p1_now_madeInAll v_p1_now_sixteenths) (mp_Qi D r_ (k_X4_firstSafe T a_p1 a_p1_cellNames a_p1_secretNames a_p1_pageNames a_p1_speed a_p1_letters a_p1_room a_p1_now a_p1_rounds a_p1_now_order a_p1_now_knows a_p1_now_made a_p1_now_sixteenths a_p1_now_dots a_p1_now_used a_p1_now_stands v_p1_cells v_p1_secrets v_p1_pages v_p1_blind v_p1_rubs v_p1_now_inOrder v_p1_now_place v_p1_now_ill v_p1_now_shut v_p1_now_turns v_p1_now_madeInAll v_p1_now_sixteenths)) := by
  refine mp_of (by decide) (Nat.le_of_ble_eq_true rfl) rfl ?_
  intro p e s m args below meth c A ls X hK hP hD hS hA hl
  replace X : mp_X p s m meth c args RX4 "firstSafe" cX4_firstSafe 2 (some .int) := X
  have hx := X.1
  have hb := X.2.1
  have hml := X.2.2.1
  have hown := X.2.2.2.2.1
  have hts := X.2.2.2.2.2.1
  replace hl : lv_has ls 2 [(0, .ref a_p1)] := hl
  replace hf : f_X4_firstSafe_2 fu v_p1_pages v_p1_now_shut v_p1_now_sixteenths  fu (nI 0) = some r_ := hf
  refine lv_iconst (v := (nI 0)) hx hb dX4_firstSafe_0 (by decide) ?_
  refine lv_istore_n (lv' := [(1, .int (nI 0)), (0, .ref a_p1)]) hx hb dX4_firstSafe_1 rfl hl (by decide) rfl (fun ls hl => ?_)
  exact w_X4_firstSafe_2 X hK hA  fu a_p1 a_p1_cellNames a_p1_secretNames a_p1_pageNames a_p1_speed a_p1_letters a_p1_room a_p1_now a_p1_rounds a_p1_now_order a_p1_now_knows a_p1_now_made a_p1_now_sixteenths a_p1_now_dots a_p1_now_used a_p1_now_stands v_p1_cells v_p1_secrets v_p1_blind v_p1_rubs v_p1_now_inOrder v_p1_now_place v_p1_now_ill v_p1_now_turns v_p1_now_madeInAll v_p1_pages v_p1_now_shut v_p1_now_sixteenths r_   fu (nI 0) hf _ _ _ hP (mp_D_of hD rfl) hS (lv_sub hl [1, 0] rfl)


def k_X4_part (T : Nat → ClassId) (a_p1 a_p1_cellNames a_p1_secretNames a_p1_pageNames a_p1_speed a_p1_letters a_p1_room a_p1_now a_p1_rounds a_p1_now_order a_p1_now_knows a_p1_now_made a_p1_now_sixteenths a_p1_now_dots a_p1_now_used a_p1_now_stands : Nat) (v_p1_cells : Int32) (v_p1_secrets : Int32) (v_p1_pages : Int32) (v_p1_blind : Int32) (v_p1_rubs : Int32) (v_p1_now_inOrder : Int32) (v_p1_now_place : Int32) (v_p1_now_ill : Int32) (v_p1_now_shut : Int32) (v_p1_now_turns : Int32) (v_p1_now_madeInAll : Int32) (v_p1_now_sixteenths : (Nat → Int32)) : va_W := [(a_p1, oX1 v_p1_cells v_p1_secrets v_p1_pages a_p1_cellNames a_p1_secretNames a_p1_pageNames a_p1_speed v_p1_blind v_p1_rubs a_p1_letters a_p1_room a_p1_now a_p1_rounds), (a_p1_now, oX7 a_p1_now_order v_p1_now_inOrder v_p1_now_place a_p1_now_knows a_p1_now_made a_p1_now_sixteenths a_p1_now_dots a_p1_now_used a_p1_now_stands v_p1_now_ill v_p1_now_shut v_p1_now_turns v_p1_now_madeInAll), (a_p1_now_sixteenths, mp_aI T 6 v_p1_now_sixteenths)]
set_option maxHeartbeats 4000000 in
set_option maxRecDepth 100000 in
theorem c_X4_part (l : Launch) (D : va_G) (T : Nat → ClassId) (a_p1 a_p1_cellNames a_p1_secretNames a_p1_pageNames a_p1_speed a_p1_letters a_p1_room a_p1_now a_p1_rounds a_p1_now_order a_p1_now_knows a_p1_now_made a_p1_now_sixteenths a_p1_now_dots a_p1_now_used a_p1_now_stands : Nat) (x2 : Int32) (v_p1_cells : Int32) (v_p1_secrets : Int32) (v_p1_pages : Int32) (v_p1_blind : Int32) (v_p1_rubs : Int32) (v_p1_now_inOrder : Int32) (v_p1_now_place : Int32) (v_p1_now_ill : Int32) (v_p1_now_shut : Int32) (v_p1_now_turns : Int32) (v_p1_now_madeInAll : Int32) (v_p1_now_sixteenths : (Nat → Int32)) (r_ : Int64) (hf : f_X4_part x2 v_p1_now_sixteenths = some r_) :
    mp_M l D T yX4_part cX4_part 3 (some .long) ({ frames := 0, cells := 0, slots := 0, locals := 0 }) 0 0 [.ref a_p1, .int x2] (k_X4_part T a_p1 a_p1_cellNames a_p1_secretNames a_p1_pageNames a_p1_speed a_p1_letters a_p1_room a_p1_now a_p1_rounds a_p1_now_order a_p1_now_knows a_p1_now_made a_p1_now_sixteenths a_p1_now_dots a_p1_now_used a_p1_now_stands v_p1_cells v_p1_secrets v_p1_pages v_p1_blind v_p1_rubs v_p1_now_inOrder v_p1_now_place v_p1_now_ill v_p1_now_shut v_p1_now_turns v_p1_now_madeInAll v_p1_now_sixteenths) (mp_Ql D r_ (k_X4_part T a_p1 a_p1_cellNames a_p1_secretNames a_p1_pageNames a_p1_speed a_p1_letters a_p1_room a_p1_now a_p1_rounds a_p1_now_order a_p1_now_knows a_p1_now_made a_p1_now_sixteenths a_p1_now_dots a_p1_now_used a_p1_now_stands v_p1_cells v_p1_secrets v_p1_pages v_p1_blind v_p1_rubs v_p1_now_inOrder v_p1_now_place v_p1_now_ill v_p1_now_shut v_p1_now_turns v_p1_now_madeInAll v_p1_now_sixteenths)) := by
  refine mp_of (by decide) (Nat.le_of_ble_eq_true rfl) rfl ?_
  intro p e s m args below meth c A ls X hK hP hD hS hA hl
  replace X : mp_X p s m meth c args RX4 "part" cX4_part 3 (some .long) := X
  have hx := X.1
  have hb := X.2.1
  have hml := X.2.2.1
  have hown := X.2.2.2.2.1
  have hts := X.2.2.2.2.2.1
  replace hl : lv_has ls 3 [(0, .ref a_p1), (1, .int x2)] := hl
  replace hf : gi_ x2 6 (lt_ (v_p1_now_sixteenths (x2).toNatClampNeg) (fun (y2 : Int32) => (if y2 = 0 then some ((lN 0)) else gd_ (¬ (y2).toInt64 = 0) (some ((lN 720720) / (y2).toInt64))))) = some r_ := hf
  refine lv_aload_n hx hb dX4_part_0 rfl (lv_at hl 0 rfl) ?_
  refine mp_get X fl_X4_36 hK hP 0 rfl rfl dX4_part_1 ?_
  refine mp_get X fl_X4_52 hK hP 1 rfl rfl dX4_part_4 ?_
  refine lv_iload_n hx hb dX4_part_7 rfl (lv_at hl 1 rfl) ?_
  obtain ⟨h1, hf⟩ := gi_of hf
  refine va_iald hx hb hK hP 2 0 rfl rfl h1 dX4_part_8 ?_
  refine lv_topi (fun y2 e2 => ?_)
  replace hf := lt_of e2 hf
  refine lv_istore_n (lv' := [(2, .int y2), (0, .ref a_p1), (1, .int x2)]) hx hb dX4_part_9 rfl hl (by decide) rfl (fun ls hl => ?_)
  refine lv_iload_n hx hb dX4_part_10 rfl (lv_at hl 0 rfl) ?_
  refine lv_if_ne (tgt := 18) hx hb dX4_part_11 (by decide) (fun h3 => ?_) (fun h3 => ?_)
  · replace hf := if_f hf h3
    refine lv_ldc2 (v := (lN 720720)) hx hb hown (hts _ (cw_X4_69)) dX4_part_18 ?_
    refine lv_iload_n hx hb dX4_part_21 rfl (lv_at hl 0 rfl) ?_
    refine lv_i2l hx hb dX4_part_22 rfl ?_
    obtain ⟨h4, hf⟩ := gd_of hf
    refine lv_ldiv hx hb dX4_part_23 h4 ?_
    cases hf
    exact mp_retl X hP hS rfl dX4_part_24
  · replace hf := if_t hf h3
    refine lv_lconst (v := (lN 0)) hx hb dX4_part_14 (by decide) ?_
    refine lv_goto (tgt := 24) hx hb dX4_part_15 (by decide) ?_
    cases hf
    exact mp_retl X hP hS rfl dX4_part_24


def k_X4_sumOfParts (T : Nat → ClassId) (a_p1 a_p1_cellNames a_p1_secretNames a_p1_pageNames a_p1_speed a_p1_letters a_p1_room a_p1_now a_p1_rounds a_p1_now_order a_p1_now_knows a_p1_now_made a_p1_now_sixteenths a_p1_now_dots a_p1_now_used a_p1_now_stands : Nat) (v_p1_cells : Int32) (v_p1_secrets : Int32) (v_p1_pages : Int32) (v_p1_blind : Int32) (v_p1_rubs : Int32) (v_p1_now_inOrder : Int32) (v_p1_now_place : Int32) (v_p1_now_ill : Int32) (v_p1_now_shut : Int32) (v_p1_now_turns : Int32) (v_p1_now_madeInAll : Int32) (v_p1_now_sixteenths : (Nat → Int32)) : va_W := [(a_p1, oX1 v_p1_cells v_p1_secrets v_p1_pages a_p1_cellNames a_p1_secretNames a_p1_pageNames a_p1_speed v_p1_blind v_p1_rubs a_p1_letters a_p1_room a_p1_now a_p1_rounds), (a_p1_now, oX7 a_p1_now_order v_p1_now_inOrder v_p1_now_place a_p1_now_knows a_p1_now_made a_p1_now_sixteenths a_p1_now_dots a_p1_now_used a_p1_now_stands v_p1_now_ill v_p1_now_shut v_p1_now_turns v_p1_now_madeInAll), (a_p1_now_sixteenths, mp_aI T 6 v_p1_now_sixteenths)]
set_option maxHeartbeats 4000000 in
set_option maxRecDepth 100000 in
theorem w_X4_sumOfParts_4 {p : Program} {l : Launch} {e : Env} {s : State} {m : MethodId} {args : Array Value} {below : List Frame} {meth : Method} {c : Code} {D : va_G} {T : Nat → ClassId} {A : Nat → Prop} (X : mp_X p s m meth c args RX4 "sumOfParts" cX4_sumOfParts 4 (some .long)) (hK : va_K D mp_cl (mp_ty T) s) (hA : ∀ q, s.heap.size ≤ q → A q) (fu : Nat) (a_p1 a_p1_cellNames a_p1_secretNames a_p1_pageNames a_p1_speed a_p1_letters a_p1_room a_p1_now a_p1_rounds a_p1_now_order a_p1_now_knows a_p1_now_made a_p1_now_sixteenths a_p1_now_dots a_p1_now_used a_p1_now_stands : Nat) (v_p1_cells : Int32) (v_p1_secrets : Int32) (v_p1_blind : Int32) (v_p1_rubs : Int32) (v_p1_now_inOrder : Int32) (v_p1_now_place : Int32) (v_p1_now_ill : Int32) (v_p1_now_turns : Int32) (v_p1_now_madeInAll : Int32) (v_p1_pages : Int32) (v_p1_now_shut : Int32) (v_p1_now_sixteenths : (Nat → Int32)) (r_ : Int64) :
    ∀ (n : Nat) (z1 : Int64) (z3 : Int32), f_X4_sumOfParts_4 fu v_p1_pages v_p1_now_shut v_p1_now_sixteenths  n z1 z3 = some r_ → ∀ (H : Heap) (locs : List Loc) (ls : Array Slot), va_P D mp_cl (k_X4_sumOfParts T a_p1 a_p1_cellNames a_p1_secretNames a_p1_pageNames a_p1_speed a_p1_letters a_p1_room a_p1_now a_p1_rounds a_p1_now_order a_p1_now_knows a_p1_now_made a_p1_now_sixteenths a_p1_now_dots a_p1_now_used a_p1_now_stands v_p1_cells v_p1_secrets v_p1_pages v_p1_blind v_p1_rubs v_p1_now_inOrder v_p1_now_place v_p1_now_ill v_p1_now_shut v_p1_now_turns v_p1_now_madeInAll v_p1_now_sixteenths) H → va_D A (k_X4_sumOfParts T a_p1 a_p1_cellNames a_p1_secretNames a_p1_pageNames a_p1_speed a_p1_letters a_p1_room a_p1_now a_p1_rounds a_p1_now_order a_p1_now_knows a_p1_now_made a_p1_now_sixteenths a_p1_now_dots a_p1_now_used a_p1_now_stands v_p1_cells v_p1_secrets v_p1_pages v_p1_blind v_p1_rubs v_p1_now_inOrder v_p1_now_place v_p1_now_ill v_p1_now_shut v_p1_now_turns v_p1_now_madeInAll v_p1_now_sixteenths) → va_S A s.heap H locs → lv_has ls 4 [(0, .ref a_p1), (1, .long z1), (3, .int z3)] → W p l e ({ frames := 1, cells := 0, slots := 0, locals := 22 }) s m args below meth c H locs 0 0 (MQ below ((mp_Ql D r_ (k_X4_sumOfParts T a_p1 a_p1_cellNames a_p1_secretNames a_p1_pageNames a_p1_speed a_p1_letters a_p1_room a_p1_now a_p1_rounds a_p1_now_order a_p1_now_knows a_p1_now_made a_p1_now_sixteenths a_p1_now_dots a_p1_now_used a_p1_now_stands v_p1_cells v_p1_secrets v_p1_pages v_p1_blind v_p1_rubs v_p1_now_inOrder v_p1_now_place v_p1_now_ill v_p1_now_shut v_p1_now_turns v_p1_now_madeInAll v_p1_now_sixteenths)) A) args s 0 0 A) (F0 m 4 ls []) := by
  have hx := X.1
  have hb := X.2.1
  have hml := X.2.2.1
  have hown := X.2.2.2.2.1
  have hts := X.2.2.2.2.2.1
  intro n
  induction n with
  | zero => intro z1 z3 hf; exact absurd hf (by intro h; cases h)
  | succ n ih =>
    intro z1 z3 hf H locs ls hP hD hS hl
    replace hf : (if v_p1_pages ≤ z3 then some (z1) else bd_ (f_X7_has v_p1_now_shut z3) (fun (r2 : Int32) => (if r2 = 0 then bd_ (f_X4_part z3 v_p1_now_sixteenths) (fun (r6 : Int64) => lt_ (z1 + r6) (fun (y8 : Int64) => lt_ (z3 + (nI 1)) (fun (y9 : Int32) => f_X4_sumOfParts_4 fu v_p1_pages v_p1_now_shut v_p1_now_sixteenths  n y8 y9))) else lt_ (z3 + (nI 1)) (fun (y5 : Int32) => f_X4_sumOfParts_4 fu v_p1_pages v_p1_now_shut v_p1_now_sixteenths  n z1 y5)))) = some r_ := hf
    refine lv_iload_n hx hb dX4_sumOfParts_4 rfl (lv_at hl 2 rfl) ?_
    refine lv_aload_n hx hb dX4_sumOfParts_5 rfl (lv_at hl 0 rfl) ?_
    refine mp_get X fl_X4_30 hK hP 0 rfl rfl dX4_sumOfParts_6 ?_
    refine lv_icmp_ge (tgt := 40) hx hb dX4_sumOfParts_9 (by decide) (fun h1 => ?_) (fun h1 => ?_)
    · replace hf := if_t hf h1
      refine lv_lload_n hx hb dX4_sumOfParts_40 rfl (lv_at hl 1 rfl) ?_
      cases hf
      exact mp_retl X hP hS rfl dX4_sumOfParts_41
    · replace hf := if_f hf h1
      refine lv_aload_n hx hb dX4_sumOfParts_12 rfl (lv_at hl 0 rfl) ?_
      refine mp_get X fl_X4_36 hK hP 0 rfl rfl dX4_sumOfParts_13 ?_
      refine mp_get X fl_X4_40 hK hP 1 rfl rfl dX4_sumOfParts_16 ?_
      refine lv_iload_n hx hb dX4_sumOfParts_19 rfl (lv_at hl 2 rfl) ?_
      obtain ⟨r2, c3, hf⟩ := bd_of hf
      have hPc := hP.sub (ws' := (k_X7_has T )) [] rfl
      have hDc := (mp_D_of (w1 := (k_X4_sumOfParts T a_p1 a_p1_cellNames a_p1_secretNames a_p1_pageNames a_p1_speed a_p1_letters a_p1_room a_p1_now a_p1_rounds a_p1_now_order a_p1_now_knows a_p1_now_made a_p1_now_sixteenths a_p1_now_dots a_p1_now_used a_p1_now_stands v_p1_cells v_p1_secrets v_p1_pages v_p1_blind v_p1_rubs v_p1_now_inOrder v_p1_now_place v_p1_now_ill v_p1_now_shut v_p1_now_turns v_p1_now_madeInAll v_p1_now_sixteenths)) hD rfl).sub (ws' := (k_X7_has T )) [] rfl rfl
      refine mp_calli (isC := []) (wc := (k_X7_has T )) (w1 := (k_X7_has T )) hP (mp_D_of hD rfl) hS hA rfl rfl (mp_runS (As := [.int v_p1_now_shut, .int z3]) (rest := []) X me_X7_has lk_X4_45 (c_X7_has l D T v_p1_now_shut z3 r2 c3) rfl rfl ⟨(Nat.le_of_ble_eq_true rfl), (Nat.le_of_ble_eq_true rfl)⟩ hK hPc hDc rfl hl.1 rfl (Nat.le_of_ble_eq_true rfl) dX4_sumOfParts_20 ⟨Nat.zero_le _, Nat.zero_le _⟩) (fun H locs hP _ hS => ?_)
      replace hP : va_P D mp_cl (k_X4_sumOfParts T a_p1 a_p1_cellNames a_p1_secretNames a_p1_pageNames a_p1_speed a_p1_letters a_p1_room a_p1_now a_p1_rounds a_p1_now_order a_p1_now_knows a_p1_now_made a_p1_now_sixteenths a_p1_now_dots a_p1_now_used a_p1_now_stands v_p1_cells v_p1_secrets v_p1_pages v_p1_blind v_p1_rubs v_p1_now_inOrder v_p1_now_place v_p1_now_ill v_p1_now_shut v_p1_now_turns v_p1_now_madeInAll v_p1_now_sixteenths) H := hP
      refine lv_if_ne (tgt := 34) hx hb dX4_sumOfParts_23 (by decide) (fun h4 => ?_) (fun h4 => ?_)
      · replace hf := if_f hf h4
        obtain ⟨y5, e5⟩ : ∃ y : Int32, y = z3 + (nI 1) := ⟨_, rfl⟩
        replace hf := lt_of e5 hf
        refine lv_iinc (v := y5) (lv' := [(3, .int y5), (0, .ref a_p1), (1, .long z1)]) hx hb dX4_sumOfParts_34 hl (k := 2) rfl (by rw [e5]; rfl) (by decide) rfl (fun ls hl => ?_)
        refine lv_goto (tgt := 4) hx hb dX4_sumOfParts_37 (by decide) ?_
        exact ih z1 y5 hf _ _ _ hP (mp_D_of hD rfl) hS (lv_sub hl [1, 2, 0] rfl)
      · replace hf := if_t hf h4
        refine lv_lload_n hx hb dX4_sumOfParts_26 rfl (lv_at hl 1 rfl) ?_
        refine lv_aload_n hx hb dX4_sumOfParts_27 rfl (lv_at hl 0 rfl) ?_
        refine lv_iload_n hx hb dX4_sumOfParts_28 rfl (lv_at hl 2 rfl) ?_
        obtain ⟨r6, c7, hf⟩ := bd_of hf
        have hPc := hP.sub (ws' := (k_X4_part T a_p1 a_p1_cellNames a_p1_secretNames a_p1_pageNames a_p1_speed a_p1_letters a_p1_room a_p1_now a_p1_rounds a_p1_now_order a_p1_now_knows a_p1_now_made a_p1_now_sixteenths a_p1_now_dots a_p1_now_used a_p1_now_stands v_p1_cells v_p1_secrets v_p1_pages v_p1_blind v_p1_rubs v_p1_now_inOrder v_p1_now_place v_p1_now_ill v_p1_now_shut v_p1_now_turns v_p1_now_madeInAll v_p1_now_sixteenths)) [0, 1, 2] rfl
        have hDc := (mp_D_of (w1 := (k_X4_sumOfParts T a_p1 a_p1_cellNames a_p1_secretNames a_p1_pageNames a_p1_speed a_p1_letters a_p1_room a_p1_now a_p1_rounds a_p1_now_order a_p1_now_knows a_p1_now_made a_p1_now_sixteenths a_p1_now_dots a_p1_now_used a_p1_now_stands v_p1_cells v_p1_secrets v_p1_pages v_p1_blind v_p1_rubs v_p1_now_inOrder v_p1_now_place v_p1_now_ill v_p1_now_shut v_p1_now_turns v_p1_now_madeInAll v_p1_now_sixteenths)) hD rfl).sub (ws' := (k_X4_part T a_p1 a_p1_cellNames a_p1_secretNames a_p1_pageNames a_p1_speed a_p1_letters a_p1_room a_p1_now a_p1_rounds a_p1_now_order a_p1_now_knows a_p1_now_made a_p1_now_sixteenths a_p1_now_dots a_p1_now_used a_p1_now_stands v_p1_cells v_p1_secrets v_p1_pages v_p1_blind v_p1_rubs v_p1_now_inOrder v_p1_now_place v_p1_now_ill v_p1_now_shut v_p1_now_turns v_p1_now_madeInAll v_p1_now_sixteenths)) [0, 1, 2] rfl rfl
        refine mp_calll (isC := [0, 1, 2]) (wc := (k_X4_part T a_p1 a_p1_cellNames a_p1_secretNames a_p1_pageNames a_p1_speed a_p1_letters a_p1_room a_p1_now a_p1_rounds a_p1_now_order a_p1_now_knows a_p1_now_made a_p1_now_sixteenths a_p1_now_dots a_p1_now_used a_p1_now_stands v_p1_cells v_p1_secrets v_p1_pages v_p1_blind v_p1_rubs v_p1_now_inOrder v_p1_now_place v_p1_now_ill v_p1_now_shut v_p1_now_turns v_p1_now_madeInAll v_p1_now_sixteenths)) (w1 := (k_X4_part T a_p1 a_p1_cellNames a_p1_secretNames a_p1_pageNames a_p1_speed a_p1_letters a_p1_room a_p1_now a_p1_rounds a_p1_now_order a_p1_now_knows a_p1_now_made a_p1_now_sixteenths a_p1_now_dots a_p1_now_used a_p1_now_stands v_p1_cells v_p1_secrets v_p1_pages v_p1_blind v_p1_rubs v_p1_now_inOrder v_p1_now_place v_p1_now_ill v_p1_now_shut v_p1_now_turns v_p1_now_madeInAll v_p1_now_sixteenths)) hP (mp_D_of hD rfl) hS hA rfl rfl (mp_runS (As := [.ref a_p1, .int z3]) (rest := [.long z1]) X me_X4_part lk_X4_71 (c_X4_part l D T a_p1 a_p1_cellNames a_p1_secretNames a_p1_pageNames a_p1_speed a_p1_letters a_p1_room a_p1_now a_p1_rounds a_p1_now_order a_p1_now_knows a_p1_now_made a_p1_now_sixteenths a_p1_now_dots a_p1_now_used a_p1_now_stands z3 v_p1_cells v_p1_secrets v_p1_pages v_p1_blind v_p1_rubs v_p1_now_inOrder v_p1_now_place v_p1_now_ill v_p1_now_shut v_p1_now_turns v_p1_now_madeInAll v_p1_now_sixteenths r6 c7) rfl rfl ⟨(Nat.le_of_ble_eq_true rfl), (Nat.le_of_ble_eq_true rfl)⟩ hK hPc hDc rfl hl.1 rfl (Nat.le_of_ble_eq_true rfl) dX4_sumOfParts_29 ⟨Nat.zero_le _, Nat.zero_le _⟩) (fun H locs hP _ hS => ?_)
        replace hP : va_P D mp_cl (k_X4_sumOfParts T a_p1 a_p1_cellNames a_p1_secretNames a_p1_pageNames a_p1_speed a_p1_letters a_p1_room a_p1_now a_p1_rounds a_p1_now_order a_p1_now_knows a_p1_now_made a_p1_now_sixteenths a_p1_now_dots a_p1_now_used a_p1_now_stands v_p1_cells v_p1_secrets v_p1_pages v_p1_blind v_p1_rubs v_p1_now_inOrder v_p1_now_place v_p1_now_ill v_p1_now_shut v_p1_now_turns v_p1_now_madeInAll v_p1_now_sixteenths) H := hP
        refine lv_ladd hx hb dX4_sumOfParts_32 ?_
        refine lv_topl (fun y8 e8 => ?_)
        replace hf := lt_of e8 hf
        refine lv_lstore_n (lv' := [(1, .long y8), (0, .ref a_p1), (3, .int z3)]) hx hb dX4_sumOfParts_33 rfl hl (by decide) rfl (fun ls hl => ?_)
        obtain ⟨y9, e9⟩ : ∃ y : Int32, y = z3 + (nI 1) := ⟨_, rfl⟩
        replace hf := lt_of e9 hf
        refine lv_iinc (v := y9) (lv' := [(3, .int y9), (1, .long y8), (0, .ref a_p1)]) hx hb dX4_sumOfParts_34 hl (k := 2) rfl (by rw [e9]; rfl) (by decide) rfl (fun ls hl => ?_)
        refine lv_goto (tgt := 4) hx hb dX4_sumOfParts_37 (by decide) ?_
        exact ih y8 y9 hf _ _ _ hP (mp_D_of hD rfl) hS (lv_sub hl [2, 1, 0] rfl)

set_option maxHeartbeats 4000000 in
set_option maxRecDepth 100000 in
theorem c_X4_sumOfParts (l : Launch) (D : va_G) (T : Nat → ClassId) (fu : Nat) (a_p1 a_p1_cellNames a_p1_secretNames a_p1_pageNames a_p1_speed a_p1_letters a_p1_room a_p1_now a_p1_rounds a_p1_now_order a_p1_now_knows a_p1_now_made a_p1_now_sixteenths a_p1_now_dots a_p1_now_used a_p1_now_stands : Nat) (v_p1_cells : Int32) (v_p1_secrets : Int32) (v_p1_blind : Int32) (v_p1_rubs : Int32) (v_p1_now_inOrder : Int32) (v_p1_now_place : Int32) (v_p1_now_ill : Int32) (v_p1_now_turns : Int32) (v_p1_now_madeInAll : Int32) (v_p1_pages : Int32) (v_p1_now_shut : Int32) (v_p1_now_sixteenths : (Nat → Int32)) (r_ : Int64) (hf : f_X4_sumOfParts fu v_p1_pages v_p1_now_shut v_p1_now_sixteenths = some r_) :
    mp_M l D T yX4_sumOfParts cX4_sumOfParts 4 (some .long) ({ frames := 1, cells := 0, slots := 0, locals := 22 }) 0 0 [.ref a_p1] (k_X4_sumOfParts T a_p1 a_p1_cellNames a_p1_secretNames a_p1_pageNames a_p1_speed a_p1_letters a_p1_room a_p1_now a_p1_rounds a_p1_now_order a_p1_now_knows a_p1_now_made a_p1_now_sixteenths a_p1_now_dots a_p1_now_used a_p1_now_stands v_p1_cells v_p1_secrets v_p1_pages v_p1_blind v_p1_rubs v_p1_now_inOrder v_p1_now_place v_p1_now_ill v_p1_now_shut v_p1_now_turns v_p1_now_madeInAll v_p1_now_sixteenths) (mp_Ql D r_ (k_X4_sumOfParts T a_p1 a_p1_cellNames a_p1_secretNames a_p1_pageNames a_p1_speed a_p1_letters a_p1_room a_p1_now a_p1_rounds a_p1_now_order a_p1_now_knows a_p1_now_made a_p1_now_sixteenths a_p1_now_dots a_p1_now_used a_p1_now_stands v_p1_cells v_p1_secrets v_p1_pages v_p1_blind v_p1_rubs v_p1_now_inOrder v_p1_now_place v_p1_now_ill v_p1_now_shut v_p1_now_turns v_p1_now_madeInAll v_p1_now_sixteenths)) := by
  refine mp_of (by decide) (Nat.le_of_ble_eq_true rfl) rfl ?_
  intro p e s m args below meth c A ls X hK hP hD hS hA hl
  replace X : mp_X p s m meth c args RX4 "sumOfParts" cX4_sumOfParts 4 (some .long) := X
  have hx := X.1
  have hb := X.2.1
  have hml := X.2.2.1
  have hown := X.2.2.2.2.1
  have hts := X.2.2.2.2.2.1
  replace hl : lv_has ls 4 [(0, .ref a_p1)] := hl
  replace hf : f_X4_sumOfParts_4 fu v_p1_pages v_p1_now_shut v_p1_now_sixteenths  fu (lN 0) (nI 0) = some r_ := hf
  refine lv_lconst (v := (lN 0)) hx hb dX4_sumOfParts_0 (by decide) ?_
  refine lv_lstore_n (lv' := [(1, .long (lN 0)), (0, .ref a_p1)]) hx hb dX4_sumOfParts_1 rfl hl (by decide) rfl (fun ls hl => ?_)
  refine lv_iconst (v := (nI 0)) hx hb dX4_sumOfParts_2 (by decide) ?_
  refine lv_istore_n (lv' := [(3, .int (nI 0)), (1, .long (lN 0)), (0, .ref a_p1)]) hx hb dX4_sumOfParts_3 rfl hl (by decide) rfl (fun ls hl => ?_)
  exact w_X4_sumOfParts_4 X hK hA  fu a_p1 a_p1_cellNames a_p1_secretNames a_p1_pageNames a_p1_speed a_p1_letters a_p1_room a_p1_now a_p1_rounds a_p1_now_order a_p1_now_knows a_p1_now_made a_p1_now_sixteenths a_p1_now_dots a_p1_now_used a_p1_now_stands v_p1_cells v_p1_secrets v_p1_blind v_p1_rubs v_p1_now_inOrder v_p1_now_place v_p1_now_ill v_p1_now_turns v_p1_now_madeInAll v_p1_pages v_p1_now_shut v_p1_now_sixteenths r_   fu (lN 0) (nI 0) hf _ _ _ hP (mp_D_of hD rfl) hS (lv_sub hl [2, 1, 0] rfl)


def k_X4_tellGame (T : Nat → ClassId) (a_ a_holds a_lettersOf a_p1 a_p1_cellNames a_p1_secretNames a_p1_pageNames a_p1_speed a_p1_letters a_p1_room a_p1_now a_p1_rounds a_p1_now_order a_p1_now_knows a_p1_now_made a_p1_now_sixteenths a_p1_now_dots a_p1_now_used a_p1_now_stands : Nat) (v_above : Int64) (v_below : Int64) (v_p1_cells : Int32) (v_p1_secrets : Int32) (v_p1_pages : Int32) (v_p1_blind : Int32) (v_p1_rubs : Int32) (v_p1_now_inOrder : Int32) (v_p1_now_place : Int32) (v_p1_now_ill : Int32) (v_p1_now_shut : Int32) (v_p1_now_turns : Int32) (v_p1_now_madeInAll : Int32) (v_p1_now_sixteenths : (Nat → Int32)) : va_W := [(a_, oX4 v_above v_below a_holds a_lettersOf), (a_p1, oX1 v_p1_cells v_p1_secrets v_p1_pages a_p1_cellNames a_p1_secretNames a_p1_pageNames a_p1_speed v_p1_blind v_p1_rubs a_p1_letters a_p1_room a_p1_now a_p1_rounds), (a_p1_now, oX7 a_p1_now_order v_p1_now_inOrder v_p1_now_place a_p1_now_knows a_p1_now_made a_p1_now_sixteenths a_p1_now_dots a_p1_now_used a_p1_now_stands v_p1_now_ill v_p1_now_shut v_p1_now_turns v_p1_now_madeInAll), (a_p1_now_sixteenths, mp_aI T 6 v_p1_now_sixteenths)]
set_option maxHeartbeats 4000000 in
set_option maxRecDepth 100000 in
theorem c_X4_tellGame (l : Launch) (D : va_G) (T : Nat → ClassId) (fu : Nat) (a_ a_holds a_lettersOf a_p1 a_p1_cellNames a_p1_secretNames a_p1_pageNames a_p1_speed a_p1_letters a_p1_room a_p1_now a_p1_rounds a_p1_now_order a_p1_now_knows a_p1_now_made a_p1_now_sixteenths a_p1_now_dots a_p1_now_used a_p1_now_stands : Nat) (v_p1_cells : Int32) (v_p1_secrets : Int32) (v_p1_blind : Int32) (v_p1_rubs : Int32) (v_p1_now_inOrder : Int32) (v_p1_now_place : Int32) (v_p1_now_ill : Int32) (v_p1_now_turns : Int32) (v_p1_now_madeInAll : Int32) (v_above : Int64) (v_below : Int64) (v_p1_pages : Int32) (v_p1_now_shut : Int32) (v_p1_now_sixteenths : (Nat → Int32)) (r_ : Int32) (o_above : Int64) (o_below : Int64) (hf : f_X4_tellGame fu v_above v_below v_p1_pages v_p1_now_shut v_p1_now_sixteenths = some (r_, o_above, o_below)) :
    mp_M l D T yX4_tellGame cX4_tellGame 4 (some .boolean) ({ frames := 2, cells := 0, slots := 0, locals := 56 }) 0 0 [.ref a_, .ref a_p1] (k_X4_tellGame T a_ a_holds a_lettersOf a_p1 a_p1_cellNames a_p1_secretNames a_p1_pageNames a_p1_speed a_p1_letters a_p1_room a_p1_now a_p1_rounds a_p1_now_order a_p1_now_knows a_p1_now_made a_p1_now_sixteenths a_p1_now_dots a_p1_now_used a_p1_now_stands v_above v_below v_p1_cells v_p1_secrets v_p1_pages v_p1_blind v_p1_rubs v_p1_now_inOrder v_p1_now_place v_p1_now_ill v_p1_now_shut v_p1_now_turns v_p1_now_madeInAll v_p1_now_sixteenths) (mp_Qi D r_ (k_X4_tellGame T a_ a_holds a_lettersOf a_p1 a_p1_cellNames a_p1_secretNames a_p1_pageNames a_p1_speed a_p1_letters a_p1_room a_p1_now a_p1_rounds a_p1_now_order a_p1_now_knows a_p1_now_made a_p1_now_sixteenths a_p1_now_dots a_p1_now_used a_p1_now_stands o_above o_below v_p1_cells v_p1_secrets v_p1_pages v_p1_blind v_p1_rubs v_p1_now_inOrder v_p1_now_place v_p1_now_ill v_p1_now_shut v_p1_now_turns v_p1_now_madeInAll v_p1_now_sixteenths)) := by
  refine mp_of (by decide) (Nat.le_of_ble_eq_true rfl) rfl ?_
  intro p e s m args below meth c A ls X hK hP hD hS hA hl
  replace X : mp_X p s m meth c args RX4 "tellGame" cX4_tellGame 4 (some .boolean) := X
  have hx := X.1
  have hb := X.2.1
  have hml := X.2.2.1
  have hown := X.2.2.2.2.1
  have hts := X.2.2.2.2.2.1
  replace hl : lv_has ls 4 [(0, .ref a_), (1, .ref a_p1)] := hl
  replace hf : bd_ (f_X4_firstSafe fu v_p1_pages v_p1_now_shut v_p1_now_sixteenths) (fun (r1 : Int32) => (if r1 = (-1 : Int32) then bd_ (f_X4_sumOfParts fu v_p1_pages v_p1_now_shut v_p1_now_sixteenths) (fun (r4 : Int64) => (if (lg_cmp r4 (lN 0)) = 0 then some ((nI 0), v_above, v_below) else bd_ (f_X4_keep fu (lN 720720) ((lN 16) * r4) v_above v_below) (fun (z : Int64 × Int64) => match z with | (u7, u8) => some ((nI 1), u7, u8)))) else bd_ (f_X4_keep fu (lN 0) (lN 1) v_above v_below) (fun (z : Int64 × Int64) => match z with | (u10, u11) => some ((nI 1), u10, u11)))) = some (r_, o_above, o_below) := hf
  refine lv_aload_n hx hb dX4_tellGame_0 rfl (lv_at hl 1 rfl) ?_
  obtain ⟨r1, c2, hf⟩ := bd_of hf
  have hPc := hP.sub (ws' := (k_X4_firstSafe T a_p1 a_p1_cellNames a_p1_secretNames a_p1_pageNames a_p1_speed a_p1_letters a_p1_room a_p1_now a_p1_rounds a_p1_now_order a_p1_now_knows a_p1_now_made a_p1_now_sixteenths a_p1_now_dots a_p1_now_used a_p1_now_stands v_p1_cells v_p1_secrets v_p1_pages v_p1_blind v_p1_rubs v_p1_now_inOrder v_p1_now_place v_p1_now_ill v_p1_now_shut v_p1_now_turns v_p1_now_madeInAll v_p1_now_sixteenths)) [1, 2, 3] rfl
  have hDc := (mp_D_of (w1 := (k_X4_tellGame T a_ a_holds a_lettersOf a_p1 a_p1_cellNames a_p1_secretNames a_p1_pageNames a_p1_speed a_p1_letters a_p1_room a_p1_now a_p1_rounds a_p1_now_order a_p1_now_knows a_p1_now_made a_p1_now_sixteenths a_p1_now_dots a_p1_now_used a_p1_now_stands v_above v_below v_p1_cells v_p1_secrets v_p1_pages v_p1_blind v_p1_rubs v_p1_now_inOrder v_p1_now_place v_p1_now_ill v_p1_now_shut v_p1_now_turns v_p1_now_madeInAll v_p1_now_sixteenths)) hD rfl).sub (ws' := (k_X4_firstSafe T a_p1 a_p1_cellNames a_p1_secretNames a_p1_pageNames a_p1_speed a_p1_letters a_p1_room a_p1_now a_p1_rounds a_p1_now_order a_p1_now_knows a_p1_now_made a_p1_now_sixteenths a_p1_now_dots a_p1_now_used a_p1_now_stands v_p1_cells v_p1_secrets v_p1_pages v_p1_blind v_p1_rubs v_p1_now_inOrder v_p1_now_place v_p1_now_ill v_p1_now_shut v_p1_now_turns v_p1_now_madeInAll v_p1_now_sixteenths)) [1, 2, 3] rfl rfl
  refine mp_calli (isC := [1, 2, 3]) (wc := (k_X4_firstSafe T a_p1 a_p1_cellNames a_p1_secretNames a_p1_pageNames a_p1_speed a_p1_letters a_p1_room a_p1_now a_p1_rounds a_p1_now_order a_p1_now_knows a_p1_now_made a_p1_now_sixteenths a_p1_now_dots a_p1_now_used a_p1_now_stands v_p1_cells v_p1_secrets v_p1_pages v_p1_blind v_p1_rubs v_p1_now_inOrder v_p1_now_place v_p1_now_ill v_p1_now_shut v_p1_now_turns v_p1_now_madeInAll v_p1_now_sixteenths)) (w1 := (k_X4_firstSafe T a_p1 a_p1_cellNames a_p1_secretNames a_p1_pageNames a_p1_speed a_p1_letters a_p1_room a_p1_now a_p1_rounds a_p1_now_order a_p1_now_knows a_p1_now_made a_p1_now_sixteenths a_p1_now_dots a_p1_now_used a_p1_now_stands v_p1_cells v_p1_secrets v_p1_pages v_p1_blind v_p1_rubs v_p1_now_inOrder v_p1_now_place v_p1_now_ill v_p1_now_shut v_p1_now_turns v_p1_now_madeInAll v_p1_now_sixteenths)) hP (mp_D_of hD rfl) hS hA rfl rfl (mp_runS (As := [.ref a_p1]) (rest := []) X me_X4_firstSafe lk_X4_61 (c_X4_firstSafe l D T fu a_p1 a_p1_cellNames a_p1_secretNames a_p1_pageNames a_p1_speed a_p1_letters a_p1_room a_p1_now a_p1_rounds a_p1_now_order a_p1_now_knows a_p1_now_made a_p1_now_sixteenths a_p1_now_dots a_p1_now_used a_p1_now_stands v_p1_cells v_p1_secrets v_p1_blind v_p1_rubs v_p1_now_inOrder v_p1_now_place v_p1_now_ill v_p1_now_turns v_p1_now_madeInAll v_p1_pages v_p1_now_shut v_p1_now_sixteenths r1 c2) rfl rfl ⟨(Nat.le_of_ble_eq_true rfl), (Nat.le_of_ble_eq_true rfl)⟩ hK hPc hDc rfl hl.1 rfl (Nat.le_of_ble_eq_true rfl) dX4_tellGame_1 ⟨Nat.zero_le _, Nat.zero_le _⟩) (fun H locs hP _ hS => ?_)
  replace hP : va_P D mp_cl (k_X4_tellGame T a_ a_holds a_lettersOf a_p1 a_p1_cellNames a_p1_secretNames a_p1_pageNames a_p1_speed a_p1_letters a_p1_room a_p1_now a_p1_rounds a_p1_now_order a_p1_now_knows a_p1_now_made a_p1_now_sixteenths a_p1_now_dots a_p1_now_used a_p1_now_stands v_above v_below v_p1_cells v_p1_secrets v_p1_pages v_p1_blind v_p1_rubs v_p1_now_inOrder v_p1_now_place v_p1_now_ill v_p1_now_shut v_p1_now_turns v_p1_now_madeInAll v_p1_now_sixteenths) H := hP
  refine lv_iconst (v := (-1 : Int32)) hx hb dX4_tellGame_4 (by decide) ?_
  refine lv_icmp_eq (tgt := 16) hx hb dX4_tellGame_5 (by decide) (fun h3 => ?_) (fun h3 => ?_)
  · replace hf := if_t hf h3
    refine lv_aload_n hx hb dX4_tellGame_16 rfl (lv_at hl 1 rfl) ?_
    obtain ⟨r4, c5, hf⟩ := bd_of hf
    have hPc := hP.sub (ws' := (k_X4_sumOfParts T a_p1 a_p1_cellNames a_p1_secretNames a_p1_pageNames a_p1_speed a_p1_letters a_p1_room a_p1_now a_p1_rounds a_p1_now_order a_p1_now_knows a_p1_now_made a_p1_now_sixteenths a_p1_now_dots a_p1_now_used a_p1_now_stands v_p1_cells v_p1_secrets v_p1_pages v_p1_blind v_p1_rubs v_p1_now_inOrder v_p1_now_place v_p1_now_ill v_p1_now_shut v_p1_now_turns v_p1_now_madeInAll v_p1_now_sixteenths)) [1, 2, 3] rfl
    have hDc := (mp_D_of (w1 := (k_X4_tellGame T a_ a_holds a_lettersOf a_p1 a_p1_cellNames a_p1_secretNames a_p1_pageNames a_p1_speed a_p1_letters a_p1_room a_p1_now a_p1_rounds a_p1_now_order a_p1_now_knows a_p1_now_made a_p1_now_sixteenths a_p1_now_dots a_p1_now_used a_p1_now_stands v_above v_below v_p1_cells v_p1_secrets v_p1_pages v_p1_blind v_p1_rubs v_p1_now_inOrder v_p1_now_place v_p1_now_ill v_p1_now_shut v_p1_now_turns v_p1_now_madeInAll v_p1_now_sixteenths)) hD rfl).sub (ws' := (k_X4_sumOfParts T a_p1 a_p1_cellNames a_p1_secretNames a_p1_pageNames a_p1_speed a_p1_letters a_p1_room a_p1_now a_p1_rounds a_p1_now_order a_p1_now_knows a_p1_now_made a_p1_now_sixteenths a_p1_now_dots a_p1_now_used a_p1_now_stands v_p1_cells v_p1_secrets v_p1_pages v_p1_blind v_p1_rubs v_p1_now_inOrder v_p1_now_place v_p1_now_ill v_p1_now_shut v_p1_now_turns v_p1_now_madeInAll v_p1_now_sixteenths)) [1, 2, 3] rfl rfl
    refine mp_calll (isC := [1, 2, 3]) (wc := (k_X4_sumOfParts T a_p1 a_p1_cellNames a_p1_secretNames a_p1_pageNames a_p1_speed a_p1_letters a_p1_room a_p1_now a_p1_rounds a_p1_now_order a_p1_now_knows a_p1_now_made a_p1_now_sixteenths a_p1_now_dots a_p1_now_used a_p1_now_stands v_p1_cells v_p1_secrets v_p1_pages v_p1_blind v_p1_rubs v_p1_now_inOrder v_p1_now_place v_p1_now_ill v_p1_now_shut v_p1_now_turns v_p1_now_madeInAll v_p1_now_sixteenths)) (w1 := (k_X4_sumOfParts T a_p1 a_p1_cellNames a_p1_secretNames a_p1_pageNames a_p1_speed a_p1_letters a_p1_room a_p1_now a_p1_rounds a_p1_now_order a_p1_now_knows a_p1_now_made a_p1_now_sixteenths a_p1_now_dots a_p1_now_used a_p1_now_stands v_p1_cells v_p1_secrets v_p1_pages v_p1_blind v_p1_rubs v_p1_now_inOrder v_p1_now_place v_p1_now_ill v_p1_now_shut v_p1_now_turns v_p1_now_madeInAll v_p1_now_sixteenths)) hP (mp_D_of hD rfl) hS hA rfl rfl (mp_runS (As := [.ref a_p1]) (rest := []) X me_X4_sumOfParts lk_X4_65 (c_X4_sumOfParts l D T fu a_p1 a_p1_cellNames a_p1_secretNames a_p1_pageNames a_p1_speed a_p1_letters a_p1_room a_p1_now a_p1_rounds a_p1_now_order a_p1_now_knows a_p1_now_made a_p1_now_sixteenths a_p1_now_dots a_p1_now_used a_p1_now_stands v_p1_cells v_p1_secrets v_p1_blind v_p1_rubs v_p1_now_inOrder v_p1_now_place v_p1_now_ill v_p1_now_turns v_p1_now_madeInAll v_p1_pages v_p1_now_shut v_p1_now_sixteenths r4 c5) rfl rfl ⟨(Nat.le_of_ble_eq_true rfl), (Nat.le_of_ble_eq_true rfl)⟩ hK hPc hDc rfl hl.1 rfl (Nat.le_of_ble_eq_true rfl) dX4_tellGame_17 ⟨Nat.zero_le _, Nat.zero_le _⟩) (fun H locs hP _ hS => ?_)
    replace hP : va_P D mp_cl (k_X4_tellGame T a_ a_holds a_lettersOf a_p1 a_p1_cellNames a_p1_secretNames a_p1_pageNames a_p1_speed a_p1_letters a_p1_room a_p1_now a_p1_rounds a_p1_now_order a_p1_now_knows a_p1_now_made a_p1_now_sixteenths a_p1_now_dots a_p1_now_used a_p1_now_stands v_above v_below v_p1_cells v_p1_secrets v_p1_pages v_p1_blind v_p1_rubs v_p1_now_inOrder v_p1_now_place v_p1_now_ill v_p1_now_shut v_p1_now_turns v_p1_now_madeInAll v_p1_now_sixteenths) H := hP
    refine lv_lstore_n (lv' := [(2, .long r4), (0, .ref a_), (1, .ref a_p1)]) hx hb dX4_tellGame_20 rfl hl (by decide) rfl (fun ls hl => ?_)
    refine lv_lload_n hx hb dX4_tellGame_21 rfl (lv_at hl 0 rfl) ?_
    refine lv_lconst (v := (lN 0)) hx hb dX4_tellGame_22 (by decide) ?_
    refine W.lcmp hx hb dX4_tellGame_23 ?_
    refine lv_if_ne (tgt := 29) hx hb dX4_tellGame_24 (by decide) (fun h6 => ?_) (fun h6 => ?_)
    · replace hf := if_f hf h6
      refine lv_aload_n hx hb dX4_tellGame_29 rfl (lv_at hl 1 rfl) ?_
      refine lv_ldc2 (v := (lN 720720)) hx hb hown (hts _ (cw_X4_69)) dX4_tellGame_30 ?_
      refine lv_ldc2 (v := (lN 16)) hx hb hown (hts _ (cw_X4_55)) dX4_tellGame_33 ?_
      refine lv_lload_n hx hb dX4_tellGame_36 rfl (lv_at hl 0 rfl) ?_
      refine lv_lmul hx hb dX4_tellGame_37 ?_
      obtain ⟨⟨u7, u8⟩, c9, hf⟩ := bd_of hf
      dsimp only at hf
      have hPc := hP.sub (ws' := (k_X4_keep T a_ a_holds a_lettersOf v_above v_below)) [0] rfl
      have hDc := (mp_D_of (w1 := (k_X4_tellGame T a_ a_holds a_lettersOf a_p1 a_p1_cellNames a_p1_secretNames a_p1_pageNames a_p1_speed a_p1_letters a_p1_room a_p1_now a_p1_rounds a_p1_now_order a_p1_now_knows a_p1_now_made a_p1_now_sixteenths a_p1_now_dots a_p1_now_used a_p1_now_stands v_above v_below v_p1_cells v_p1_secrets v_p1_pages v_p1_blind v_p1_rubs v_p1_now_inOrder v_p1_now_place v_p1_now_ill v_p1_now_shut v_p1_now_turns v_p1_now_madeInAll v_p1_now_sixteenths)) hD rfl).sub (ws' := (k_X4_keep T a_ a_holds a_lettersOf v_above v_below)) [0] rfl rfl
      refine mp_callv (isC := [0]) (wc := (k_X4_keep T a_ a_holds a_lettersOf v_above v_below)) (w1 := (k_X4_keep T a_ a_holds a_lettersOf u7 u8)) hP (mp_D_of hD rfl) hS hA rfl rfl (mp_runV (As := [.long (lN 720720), .long ((lN 16) * r4)]) (rest := []) X me_X4_keep lk_X4_57 (c_X4_keep l D T fu a_ a_holds a_lettersOf (lN 720720) ((lN 16) * r4) v_above v_below u7 u8 c9) rfl rfl ⟨(Nat.le_of_ble_eq_true rfl), (Nat.le_of_ble_eq_true rfl)⟩ hK hPc hDc rfl rfl rfl rfl hl.1 rfl (Nat.le_of_ble_eq_true rfl) dX4_tellGame_38 ⟨Nat.zero_le _, Nat.zero_le _⟩) (fun H locs hP _ hS => ?_)
      replace hP : va_P D mp_cl (k_X4_tellGame T a_ a_holds a_lettersOf a_p1 a_p1_cellNames a_p1_secretNames a_p1_pageNames a_p1_speed a_p1_letters a_p1_room a_p1_now a_p1_rounds a_p1_now_order a_p1_now_knows a_p1_now_made a_p1_now_sixteenths a_p1_now_dots a_p1_now_used a_p1_now_stands u7 u8 v_p1_cells v_p1_secrets v_p1_pages v_p1_blind v_p1_rubs v_p1_now_inOrder v_p1_now_place v_p1_now_ill v_p1_now_shut v_p1_now_turns v_p1_now_madeInAll v_p1_now_sixteenths) H := hP
      refine lv_iconst (v := (nI 1)) hx hb dX4_tellGame_41 (by decide) ?_
      cases hf
      exact mp_retz X hP hS rfl (Or.inr rfl) dX4_tellGame_42
    · replace hf := if_t hf h6
      refine lv_iconst (v := (nI 0)) hx hb dX4_tellGame_27 (by decide) ?_
      cases hf
      exact mp_retz X hP hS rfl (Or.inl rfl) dX4_tellGame_28
  · replace hf := if_f hf h3
    refine lv_aload_n hx hb dX4_tellGame_8 rfl (lv_at hl 0 rfl) ?_
    refine lv_lconst (v := (lN 0)) hx hb dX4_tellGame_9 (by decide) ?_
    refine lv_lconst (v := (lN 1)) hx hb dX4_tellGame_10 (by decide) ?_
    obtain ⟨⟨u10, u11⟩, c12, hf⟩ := bd_of hf
    dsimp only at hf
    have hPc := hP.sub (ws' := (k_X4_keep T a_ a_holds a_lettersOf v_above v_below)) [0] rfl
    have hDc := (mp_D_of (w1 := (k_X4_tellGame T a_ a_holds a_lettersOf a_p1 a_p1_cellNames a_p1_secretNames a_p1_pageNames a_p1_speed a_p1_letters a_p1_room a_p1_now a_p1_rounds a_p1_now_order a_p1_now_knows a_p1_now_made a_p1_now_sixteenths a_p1_now_dots a_p1_now_used a_p1_now_stands v_above v_below v_p1_cells v_p1_secrets v_p1_pages v_p1_blind v_p1_rubs v_p1_now_inOrder v_p1_now_place v_p1_now_ill v_p1_now_shut v_p1_now_turns v_p1_now_madeInAll v_p1_now_sixteenths)) hD rfl).sub (ws' := (k_X4_keep T a_ a_holds a_lettersOf v_above v_below)) [0] rfl rfl
    refine mp_callv (isC := [0]) (wc := (k_X4_keep T a_ a_holds a_lettersOf v_above v_below)) (w1 := (k_X4_keep T a_ a_holds a_lettersOf u10 u11)) hP (mp_D_of hD rfl) hS hA rfl rfl (mp_runV (As := [.long (lN 0), .long (lN 1)]) (rest := []) X me_X4_keep lk_X4_57 (c_X4_keep l D T fu a_ a_holds a_lettersOf (lN 0) (lN 1) v_above v_below u10 u11 c12) rfl rfl ⟨(Nat.le_of_ble_eq_true rfl), (Nat.le_of_ble_eq_true rfl)⟩ hK hPc hDc rfl rfl rfl rfl hl.1 rfl (Nat.le_of_ble_eq_true rfl) dX4_tellGame_11 ⟨Nat.zero_le _, Nat.zero_le _⟩) (fun H locs hP _ hS => ?_)
    replace hP : va_P D mp_cl (k_X4_tellGame T a_ a_holds a_lettersOf a_p1 a_p1_cellNames a_p1_secretNames a_p1_pageNames a_p1_speed a_p1_letters a_p1_room a_p1_now a_p1_rounds a_p1_now_order a_p1_now_knows a_p1_now_made a_p1_now_sixteenths a_p1_now_dots a_p1_now_used a_p1_now_stands u10 u11 v_p1_cells v_p1_secrets v_p1_pages v_p1_blind v_p1_rubs v_p1_now_inOrder v_p1_now_place v_p1_now_ill v_p1_now_shut v_p1_now_turns v_p1_now_madeInAll v_p1_now_sixteenths) H := hP
    refine lv_iconst (v := (nI 1)) hx hb dX4_tellGame_14 (by decide) ?_
    cases hf
    exact mp_retz X hP hS rfl (Or.inr rfl) dX4_tellGame_15


def k_X4_tellMix (T : Nat → ClassId) (a_ a_holds a_lettersOf a_p1 a_p1_cellNames a_p1_secretNames a_p1_pageNames a_p1_speed a_p1_letters a_p1_room a_p1_now a_p1_rounds a_p1_now_order a_p1_now_knows a_p1_now_made a_p1_now_sixteenths a_p1_now_dots a_p1_now_used a_p1_now_stands : Nat) (v_above : Int64) (v_below : Int64) (v_p1_cells : Int32) (v_p1_secrets : Int32) (v_p1_pages : Int32) (v_p1_blind : Int32) (v_p1_rubs : Int32) (v_p1_now_inOrder : Int32) (v_p1_now_place : Int32) (v_p1_now_ill : Int32) (v_p1_now_shut : Int32) (v_p1_now_turns : Int32) (v_p1_now_madeInAll : Int32) (v_p1_now_sixteenths : (Nat → Int32)) : va_W := [(a_, oX4 v_above v_below a_holds a_lettersOf), (a_p1, oX1 v_p1_cells v_p1_secrets v_p1_pages a_p1_cellNames a_p1_secretNames a_p1_pageNames a_p1_speed v_p1_blind v_p1_rubs a_p1_letters a_p1_room a_p1_now a_p1_rounds), (a_p1_now, oX7 a_p1_now_order v_p1_now_inOrder v_p1_now_place a_p1_now_knows a_p1_now_made a_p1_now_sixteenths a_p1_now_dots a_p1_now_used a_p1_now_stands v_p1_now_ill v_p1_now_shut v_p1_now_turns v_p1_now_madeInAll), (a_p1_now_sixteenths, mp_aI T 6 v_p1_now_sixteenths)]
set_option maxHeartbeats 4000000 in
set_option maxRecDepth 100000 in
theorem c_X4_tellMix (l : Launch) (D : va_G) (T : Nat → ClassId) (fu : Nat) (a_ a_holds a_lettersOf a_p1 a_p1_cellNames a_p1_secretNames a_p1_pageNames a_p1_speed a_p1_letters a_p1_room a_p1_now a_p1_rounds a_p1_now_order a_p1_now_knows a_p1_now_made a_p1_now_sixteenths a_p1_now_dots a_p1_now_used a_p1_now_stands : Nat) (x2 : Int32) (v_p1_cells : Int32) (v_p1_secrets : Int32) (v_p1_blind : Int32) (v_p1_rubs : Int32) (v_p1_now_inOrder : Int32) (v_p1_now_place : Int32) (v_p1_now_ill : Int32) (v_p1_now_turns : Int32) (v_p1_now_madeInAll : Int32) (v_above : Int64) (v_below : Int64) (v_p1_pages : Int32) (v_p1_now_shut : Int32) (v_p1_now_sixteenths : (Nat → Int32)) (o_above : Int64) (o_below : Int64) (hf : f_X4_tellMix fu x2 v_above v_below v_p1_pages v_p1_now_shut v_p1_now_sixteenths = some (o_above, o_below)) :
    mp_M l D T yX4_tellMix cX4_tellMix 4 none ({ frames := 2, cells := 0, slots := 0, locals := 56 }) 0 0 [.ref a_, .ref a_p1, .int x2] (k_X4_tellMix T a_ a_holds a_lettersOf a_p1 a_p1_cellNames a_p1_secretNames a_p1_pageNames a_p1_speed a_p1_letters a_p1_room a_p1_now a_p1_rounds a_p1_now_order a_p1_now_knows a_p1_now_made a_p1_now_sixteenths a_p1_now_dots a_p1_now_used a_p1_now_stands v_above v_below v_p1_cells v_p1_secrets v_p1_pages v_p1_blind v_p1_rubs v_p1_now_inOrder v_p1_now_place v_p1_now_ill v_p1_now_shut v_p1_now_turns v_p1_now_madeInAll v_p1_now_sixteenths) (mp_Qv D (k_X4_tellMix T a_ a_holds a_lettersOf a_p1 a_p1_cellNames a_p1_secretNames a_p1_pageNames a_p1_speed a_p1_letters a_p1_room a_p1_now a_p1_rounds a_p1_now_order a_p1_now_knows a_p1_now_made a_p1_now_sixteenths a_p1_now_dots a_p1_now_used a_p1_now_stands o_above o_below v_p1_cells v_p1_secrets v_p1_pages v_p1_blind v_p1_rubs v_p1_now_inOrder v_p1_now_place v_p1_now_ill v_p1_now_shut v_p1_now_turns v_p1_now_madeInAll v_p1_now_sixteenths)) := by
  refine mp_of (by decide) (Nat.le_of_ble_eq_true rfl) rfl ?_
  intro p e s m args below meth c A ls X hK hP hD hS hA hl
  replace X : mp_X p s m meth c args RX4 "tellMix" cX4_tellMix 4 none := X
  have hx := X.1
  have hb := X.2.1
  have hml := X.2.2.1
  have hown := X.2.2.2.2.1
  have hts := X.2.2.2.2.2.1
  replace hl : lv_has ls 4 [(0, .ref a_), (1, .ref a_p1), (2, .int x2)] := hl
  replace hf : bd_ (f_X4_firstSafe fu v_p1_pages v_p1_now_shut v_p1_now_sixteenths) (fun (r1 : Int32) => (if r1 = (-1 : Int32) then bd_ (f_X4_part x2 v_p1_now_sixteenths) (fun (r4 : Int64) => bd_ (f_X4_sumOfParts fu v_p1_pages v_p1_now_shut v_p1_now_sixteenths) (fun (r6 : Int64) => bd_ (f_X4_keep fu r4 r6 v_above v_below) (fun (z : Int64 × Int64) => match z with | (u8, u9) => some (u8, u9)))) else (if x2 = r1 then bd_ (f_X4_keep fu (lN 1) (lN 1) v_above v_below) (fun (z : Int64 × Int64) => match z with | (u15, u16) => some (u15, u16)) else bd_ (f_X4_keep fu (lN 0) (lN 1) v_above v_below) (fun (z : Int64 × Int64) => match z with | (u12, u13) => some (u12, u13))))) = some (o_above, o_below) := hf
  refine lv_aload_n hx hb dX4_tellMix_0 rfl (lv_at hl 1 rfl) ?_
  obtain ⟨r1, c2, hf⟩ := bd_of hf
  have hPc := hP.sub (ws' := (k_X4_firstSafe T a_p1 a_p1_cellNames a_p1_secretNames a_p1_pageNames a_p1_speed a_p1_letters a_p1_room a_p1_now a_p1_rounds a_p1_now_order a_p1_now_knows a_p1_now_made a_p1_now_sixteenths a_p1_now_dots a_p1_now_used a_p1_now_stands v_p1_cells v_p1_secrets v_p1_pages v_p1_blind v_p1_rubs v_p1_now_inOrder v_p1_now_place v_p1_now_ill v_p1_now_shut v_p1_now_turns v_p1_now_madeInAll v_p1_now_sixteenths)) [1, 2, 3] rfl
  have hDc := (mp_D_of (w1 := (k_X4_tellMix T a_ a_holds a_lettersOf a_p1 a_p1_cellNames a_p1_secretNames a_p1_pageNames a_p1_speed a_p1_letters a_p1_room a_p1_now a_p1_rounds a_p1_now_order a_p1_now_knows a_p1_now_made a_p1_now_sixteenths a_p1_now_dots a_p1_now_used a_p1_now_stands v_above v_below v_p1_cells v_p1_secrets v_p1_pages v_p1_blind v_p1_rubs v_p1_now_inOrder v_p1_now_place v_p1_now_ill v_p1_now_shut v_p1_now_turns v_p1_now_madeInAll v_p1_now_sixteenths)) hD rfl).sub (ws' := (k_X4_firstSafe T a_p1 a_p1_cellNames a_p1_secretNames a_p1_pageNames a_p1_speed a_p1_letters a_p1_room a_p1_now a_p1_rounds a_p1_now_order a_p1_now_knows a_p1_now_made a_p1_now_sixteenths a_p1_now_dots a_p1_now_used a_p1_now_stands v_p1_cells v_p1_secrets v_p1_pages v_p1_blind v_p1_rubs v_p1_now_inOrder v_p1_now_place v_p1_now_ill v_p1_now_shut v_p1_now_turns v_p1_now_madeInAll v_p1_now_sixteenths)) [1, 2, 3] rfl rfl
  refine mp_calli (isC := [1, 2, 3]) (wc := (k_X4_firstSafe T a_p1 a_p1_cellNames a_p1_secretNames a_p1_pageNames a_p1_speed a_p1_letters a_p1_room a_p1_now a_p1_rounds a_p1_now_order a_p1_now_knows a_p1_now_made a_p1_now_sixteenths a_p1_now_dots a_p1_now_used a_p1_now_stands v_p1_cells v_p1_secrets v_p1_pages v_p1_blind v_p1_rubs v_p1_now_inOrder v_p1_now_place v_p1_now_ill v_p1_now_shut v_p1_now_turns v_p1_now_madeInAll v_p1_now_sixteenths)) (w1 := (k_X4_firstSafe T a_p1 a_p1_cellNames a_p1_secretNames a_p1_pageNames a_p1_speed a_p1_letters a_p1_room a_p1_now a_p1_rounds a_p1_now_order a_p1_now_knows a_p1_now_made a_p1_now_sixteenths a_p1_now_dots a_p1_now_used a_p1_now_stands v_p1_cells v_p1_secrets v_p1_pages v_p1_blind v_p1_rubs v_p1_now_inOrder v_p1_now_place v_p1_now_ill v_p1_now_shut v_p1_now_turns v_p1_now_madeInAll v_p1_now_sixteenths)) hP (mp_D_of hD rfl) hS hA rfl rfl (mp_runS (As := [.ref a_p1]) (rest := []) X me_X4_firstSafe lk_X4_61 (c_X4_firstSafe l D T fu a_p1 a_p1_cellNames a_p1_secretNames a_p1_pageNames a_p1_speed a_p1_letters a_p1_room a_p1_now a_p1_rounds a_p1_now_order a_p1_now_knows a_p1_now_made a_p1_now_sixteenths a_p1_now_dots a_p1_now_used a_p1_now_stands v_p1_cells v_p1_secrets v_p1_blind v_p1_rubs v_p1_now_inOrder v_p1_now_place v_p1_now_ill v_p1_now_turns v_p1_now_madeInAll v_p1_pages v_p1_now_shut v_p1_now_sixteenths r1 c2) rfl rfl ⟨(Nat.le_of_ble_eq_true rfl), (Nat.le_of_ble_eq_true rfl)⟩ hK hPc hDc rfl hl.1 rfl (Nat.le_of_ble_eq_true rfl) dX4_tellMix_1 ⟨Nat.zero_le _, Nat.zero_le _⟩) (fun H locs hP _ hS => ?_)
  replace hP : va_P D mp_cl (k_X4_tellMix T a_ a_holds a_lettersOf a_p1 a_p1_cellNames a_p1_secretNames a_p1_pageNames a_p1_speed a_p1_letters a_p1_room a_p1_now a_p1_rounds a_p1_now_order a_p1_now_knows a_p1_now_made a_p1_now_sixteenths a_p1_now_dots a_p1_now_used a_p1_now_stands v_above v_below v_p1_cells v_p1_secrets v_p1_pages v_p1_blind v_p1_rubs v_p1_now_inOrder v_p1_now_place v_p1_now_ill v_p1_now_shut v_p1_now_turns v_p1_now_madeInAll v_p1_now_sixteenths) H := hP
  refine lv_istore_n (lv' := [(3, .int r1), (0, .ref a_), (1, .ref a_p1), (2, .int x2)]) hx hb dX4_tellMix_4 rfl hl (by decide) rfl (fun ls hl => ?_)
  refine lv_iload_n hx hb dX4_tellMix_5 rfl (lv_at hl 0 rfl) ?_
  refine lv_iconst (v := (-1 : Int32)) hx hb dX4_tellMix_6 (by decide) ?_
  refine lv_icmp_eq (tgt := 28) hx hb dX4_tellMix_7 (by decide) (fun h3 => ?_) (fun h3 => ?_)
  · replace hf := if_t hf h3
    refine lv_aload_n hx hb dX4_tellMix_28 rfl (lv_at hl 1 rfl) ?_
    refine lv_aload_n hx hb dX4_tellMix_29 rfl (lv_at hl 2 rfl) ?_
    refine lv_iload_n hx hb dX4_tellMix_30 rfl (lv_at hl 3 rfl) ?_
    obtain ⟨r4, c5, hf⟩ := bd_of hf
    have hPc := hP.sub (ws' := (k_X4_part T a_p1 a_p1_cellNames a_p1_secretNames a_p1_pageNames a_p1_speed a_p1_letters a_p1_room a_p1_now a_p1_rounds a_p1_now_order a_p1_now_knows a_p1_now_made a_p1_now_sixteenths a_p1_now_dots a_p1_now_used a_p1_now_stands v_p1_cells v_p1_secrets v_p1_pages v_p1_blind v_p1_rubs v_p1_now_inOrder v_p1_now_place v_p1_now_ill v_p1_now_shut v_p1_now_turns v_p1_now_madeInAll v_p1_now_sixteenths)) [1, 2, 3] rfl
    have hDc := (mp_D_of (w1 := (k_X4_tellMix T a_ a_holds a_lettersOf a_p1 a_p1_cellNames a_p1_secretNames a_p1_pageNames a_p1_speed a_p1_letters a_p1_room a_p1_now a_p1_rounds a_p1_now_order a_p1_now_knows a_p1_now_made a_p1_now_sixteenths a_p1_now_dots a_p1_now_used a_p1_now_stands v_above v_below v_p1_cells v_p1_secrets v_p1_pages v_p1_blind v_p1_rubs v_p1_now_inOrder v_p1_now_place v_p1_now_ill v_p1_now_shut v_p1_now_turns v_p1_now_madeInAll v_p1_now_sixteenths)) hD rfl).sub (ws' := (k_X4_part T a_p1 a_p1_cellNames a_p1_secretNames a_p1_pageNames a_p1_speed a_p1_letters a_p1_room a_p1_now a_p1_rounds a_p1_now_order a_p1_now_knows a_p1_now_made a_p1_now_sixteenths a_p1_now_dots a_p1_now_used a_p1_now_stands v_p1_cells v_p1_secrets v_p1_pages v_p1_blind v_p1_rubs v_p1_now_inOrder v_p1_now_place v_p1_now_ill v_p1_now_shut v_p1_now_turns v_p1_now_madeInAll v_p1_now_sixteenths)) [1, 2, 3] rfl rfl
    refine mp_calll (isC := [1, 2, 3]) (wc := (k_X4_part T a_p1 a_p1_cellNames a_p1_secretNames a_p1_pageNames a_p1_speed a_p1_letters a_p1_room a_p1_now a_p1_rounds a_p1_now_order a_p1_now_knows a_p1_now_made a_p1_now_sixteenths a_p1_now_dots a_p1_now_used a_p1_now_stands v_p1_cells v_p1_secrets v_p1_pages v_p1_blind v_p1_rubs v_p1_now_inOrder v_p1_now_place v_p1_now_ill v_p1_now_shut v_p1_now_turns v_p1_now_madeInAll v_p1_now_sixteenths)) (w1 := (k_X4_part T a_p1 a_p1_cellNames a_p1_secretNames a_p1_pageNames a_p1_speed a_p1_letters a_p1_room a_p1_now a_p1_rounds a_p1_now_order a_p1_now_knows a_p1_now_made a_p1_now_sixteenths a_p1_now_dots a_p1_now_used a_p1_now_stands v_p1_cells v_p1_secrets v_p1_pages v_p1_blind v_p1_rubs v_p1_now_inOrder v_p1_now_place v_p1_now_ill v_p1_now_shut v_p1_now_turns v_p1_now_madeInAll v_p1_now_sixteenths)) hP (mp_D_of hD rfl) hS hA rfl rfl (mp_runS (As := [.ref a_p1, .int x2]) (rest := [.ref a_]) X me_X4_part lk_X4_71 (c_X4_part l D T a_p1 a_p1_cellNames a_p1_secretNames a_p1_pageNames a_p1_speed a_p1_letters a_p1_room a_p1_now a_p1_rounds a_p1_now_order a_p1_now_knows a_p1_now_made a_p1_now_sixteenths a_p1_now_dots a_p1_now_used a_p1_now_stands x2 v_p1_cells v_p1_secrets v_p1_pages v_p1_blind v_p1_rubs v_p1_now_inOrder v_p1_now_place v_p1_now_ill v_p1_now_shut v_p1_now_turns v_p1_now_madeInAll v_p1_now_sixteenths r4 c5) rfl rfl ⟨(Nat.le_of_ble_eq_true rfl), (Nat.le_of_ble_eq_true rfl)⟩ hK hPc hDc rfl hl.1 rfl (Nat.le_of_ble_eq_true rfl) dX4_tellMix_31 ⟨Nat.zero_le _, Nat.zero_le _⟩) (fun H locs hP _ hS => ?_)
    replace hP : va_P D mp_cl (k_X4_tellMix T a_ a_holds a_lettersOf a_p1 a_p1_cellNames a_p1_secretNames a_p1_pageNames a_p1_speed a_p1_letters a_p1_room a_p1_now a_p1_rounds a_p1_now_order a_p1_now_knows a_p1_now_made a_p1_now_sixteenths a_p1_now_dots a_p1_now_used a_p1_now_stands v_above v_below v_p1_cells v_p1_secrets v_p1_pages v_p1_blind v_p1_rubs v_p1_now_inOrder v_p1_now_place v_p1_now_ill v_p1_now_shut v_p1_now_turns v_p1_now_madeInAll v_p1_now_sixteenths) H := hP
    refine lv_aload_n hx hb dX4_tellMix_34 rfl (lv_at hl 2 rfl) ?_
    obtain ⟨r6, c7, hf⟩ := bd_of hf
    have hPc := hP.sub (ws' := (k_X4_sumOfParts T a_p1 a_p1_cellNames a_p1_secretNames a_p1_pageNames a_p1_speed a_p1_letters a_p1_room a_p1_now a_p1_rounds a_p1_now_order a_p1_now_knows a_p1_now_made a_p1_now_sixteenths a_p1_now_dots a_p1_now_used a_p1_now_stands v_p1_cells v_p1_secrets v_p1_pages v_p1_blind v_p1_rubs v_p1_now_inOrder v_p1_now_place v_p1_now_ill v_p1_now_shut v_p1_now_turns v_p1_now_madeInAll v_p1_now_sixteenths)) [1, 2, 3] rfl
    have hDc := (mp_D_of (w1 := (k_X4_tellMix T a_ a_holds a_lettersOf a_p1 a_p1_cellNames a_p1_secretNames a_p1_pageNames a_p1_speed a_p1_letters a_p1_room a_p1_now a_p1_rounds a_p1_now_order a_p1_now_knows a_p1_now_made a_p1_now_sixteenths a_p1_now_dots a_p1_now_used a_p1_now_stands v_above v_below v_p1_cells v_p1_secrets v_p1_pages v_p1_blind v_p1_rubs v_p1_now_inOrder v_p1_now_place v_p1_now_ill v_p1_now_shut v_p1_now_turns v_p1_now_madeInAll v_p1_now_sixteenths)) hD rfl).sub (ws' := (k_X4_sumOfParts T a_p1 a_p1_cellNames a_p1_secretNames a_p1_pageNames a_p1_speed a_p1_letters a_p1_room a_p1_now a_p1_rounds a_p1_now_order a_p1_now_knows a_p1_now_made a_p1_now_sixteenths a_p1_now_dots a_p1_now_used a_p1_now_stands v_p1_cells v_p1_secrets v_p1_pages v_p1_blind v_p1_rubs v_p1_now_inOrder v_p1_now_place v_p1_now_ill v_p1_now_shut v_p1_now_turns v_p1_now_madeInAll v_p1_now_sixteenths)) [1, 2, 3] rfl rfl
    refine mp_calll (isC := [1, 2, 3]) (wc := (k_X4_sumOfParts T a_p1 a_p1_cellNames a_p1_secretNames a_p1_pageNames a_p1_speed a_p1_letters a_p1_room a_p1_now a_p1_rounds a_p1_now_order a_p1_now_knows a_p1_now_made a_p1_now_sixteenths a_p1_now_dots a_p1_now_used a_p1_now_stands v_p1_cells v_p1_secrets v_p1_pages v_p1_blind v_p1_rubs v_p1_now_inOrder v_p1_now_place v_p1_now_ill v_p1_now_shut v_p1_now_turns v_p1_now_madeInAll v_p1_now_sixteenths)) (w1 := (k_X4_sumOfParts T a_p1 a_p1_cellNames a_p1_secretNames a_p1_pageNames a_p1_speed a_p1_letters a_p1_room a_p1_now a_p1_rounds a_p1_now_order a_p1_now_knows a_p1_now_made a_p1_now_sixteenths a_p1_now_dots a_p1_now_used a_p1_now_stands v_p1_cells v_p1_secrets v_p1_pages v_p1_blind v_p1_rubs v_p1_now_inOrder v_p1_now_place v_p1_now_ill v_p1_now_shut v_p1_now_turns v_p1_now_madeInAll v_p1_now_sixteenths)) hP (mp_D_of hD rfl) hS hA rfl rfl (mp_runS (As := [.ref a_p1]) (rest := [.long r4, .ref a_]) X me_X4_sumOfParts lk_X4_65 (c_X4_sumOfParts l D T fu a_p1 a_p1_cellNames a_p1_secretNames a_p1_pageNames a_p1_speed a_p1_letters a_p1_room a_p1_now a_p1_rounds a_p1_now_order a_p1_now_knows a_p1_now_made a_p1_now_sixteenths a_p1_now_dots a_p1_now_used a_p1_now_stands v_p1_cells v_p1_secrets v_p1_blind v_p1_rubs v_p1_now_inOrder v_p1_now_place v_p1_now_ill v_p1_now_turns v_p1_now_madeInAll v_p1_pages v_p1_now_shut v_p1_now_sixteenths r6 c7) rfl rfl ⟨(Nat.le_of_ble_eq_true rfl), (Nat.le_of_ble_eq_true rfl)⟩ hK hPc hDc rfl hl.1 rfl (Nat.le_of_ble_eq_true rfl) dX4_tellMix_35 ⟨Nat.zero_le _, Nat.zero_le _⟩) (fun H locs hP _ hS => ?_)
    replace hP : va_P D mp_cl (k_X4_tellMix T a_ a_holds a_lettersOf a_p1 a_p1_cellNames a_p1_secretNames a_p1_pageNames a_p1_speed a_p1_letters a_p1_room a_p1_now a_p1_rounds a_p1_now_order a_p1_now_knows a_p1_now_made a_p1_now_sixteenths a_p1_now_dots a_p1_now_used a_p1_now_stands v_above v_below v_p1_cells v_p1_secrets v_p1_pages v_p1_blind v_p1_rubs v_p1_now_inOrder v_p1_now_place v_p1_now_ill v_p1_now_shut v_p1_now_turns v_p1_now_madeInAll v_p1_now_sixteenths) H := hP
    obtain ⟨⟨u8, u9⟩, c10, hf⟩ := bd_of hf
    dsimp only at hf
    have hPc := hP.sub (ws' := (k_X4_keep T a_ a_holds a_lettersOf v_above v_below)) [0] rfl
    have hDc := (mp_D_of (w1 := (k_X4_tellMix T a_ a_holds a_lettersOf a_p1 a_p1_cellNames a_p1_secretNames a_p1_pageNames a_p1_speed a_p1_letters a_p1_room a_p1_now a_p1_rounds a_p1_now_order a_p1_now_knows a_p1_now_made a_p1_now_sixteenths a_p1_now_dots a_p1_now_used a_p1_now_stands v_above v_below v_p1_cells v_p1_secrets v_p1_pages v_p1_blind v_p1_rubs v_p1_now_inOrder v_p1_now_place v_p1_now_ill v_p1_now_shut v_p1_now_turns v_p1_now_madeInAll v_p1_now_sixteenths)) hD rfl).sub (ws' := (k_X4_keep T a_ a_holds a_lettersOf v_above v_below)) [0] rfl rfl
    refine mp_callv (isC := [0]) (wc := (k_X4_keep T a_ a_holds a_lettersOf v_above v_below)) (w1 := (k_X4_keep T a_ a_holds a_lettersOf u8 u9)) hP (mp_D_of hD rfl) hS hA rfl rfl (mp_runV (As := [.long r4, .long r6]) (rest := []) X me_X4_keep lk_X4_57 (c_X4_keep l D T fu a_ a_holds a_lettersOf r4 r6 v_above v_below u8 u9 c10) rfl rfl ⟨(Nat.le_of_ble_eq_true rfl), (Nat.le_of_ble_eq_true rfl)⟩ hK hPc hDc rfl rfl rfl rfl hl.1 rfl (Nat.le_of_ble_eq_true rfl) dX4_tellMix_38 ⟨Nat.zero_le _, Nat.zero_le _⟩) (fun H locs hP _ hS => ?_)
    replace hP : va_P D mp_cl (k_X4_tellMix T a_ a_holds a_lettersOf a_p1 a_p1_cellNames a_p1_secretNames a_p1_pageNames a_p1_speed a_p1_letters a_p1_room a_p1_now a_p1_rounds a_p1_now_order a_p1_now_knows a_p1_now_made a_p1_now_sixteenths a_p1_now_dots a_p1_now_used a_p1_now_stands u8 u9 v_p1_cells v_p1_secrets v_p1_pages v_p1_blind v_p1_rubs v_p1_now_inOrder v_p1_now_place v_p1_now_ill v_p1_now_shut v_p1_now_turns v_p1_now_madeInAll v_p1_now_sixteenths) H := hP
    cases hf
    exact mp_retv X hP hS dX4_tellMix_41
  · replace hf := if_f hf h3
    refine lv_aload_n hx hb dX4_tellMix_10 rfl (lv_at hl 1 rfl) ?_
    refine lv_iload_n hx hb dX4_tellMix_11 rfl (lv_at hl 3 rfl) ?_
    refine lv_iload_n hx hb dX4_tellMix_12 rfl (lv_at hl 0 rfl) ?_
    refine lv_icmp_ne (tgt := 20) hx hb dX4_tellMix_13 (by decide) (fun h11 => ?_) (fun h11 => ?_)
    · replace hf := if_f hf h11
      refine lv_lconst (v := (lN 0)) hx hb dX4_tellMix_20 (by decide) ?_
      refine lv_lconst (v := (lN 1)) hx hb dX4_tellMix_21 (by decide) ?_
      obtain ⟨⟨u12, u13⟩, c14, hf⟩ := bd_of hf
      dsimp only at hf
      have hPc := hP.sub (ws' := (k_X4_keep T a_ a_holds a_lettersOf v_above v_below)) [0] rfl
      have hDc := (mp_D_of (w1 := (k_X4_tellMix T a_ a_holds a_lettersOf a_p1 a_p1_cellNames a_p1_secretNames a_p1_pageNames a_p1_speed a_p1_letters a_p1_room a_p1_now a_p1_rounds a_p1_now_order a_p1_now_knows a_p1_now_made a_p1_now_sixteenths a_p1_now_dots a_p1_now_used a_p1_now_stands v_above v_below v_p1_cells v_p1_secrets v_p1_pages v_p1_blind v_p1_rubs v_p1_now_inOrder v_p1_now_place v_p1_now_ill v_p1_now_shut v_p1_now_turns v_p1_now_madeInAll v_p1_now_sixteenths)) hD rfl).sub (ws' := (k_X4_keep T a_ a_holds a_lettersOf v_above v_below)) [0] rfl rfl
      refine mp_callv (isC := [0]) (wc := (k_X4_keep T a_ a_holds a_lettersOf v_above v_below)) (w1 := (k_X4_keep T a_ a_holds a_lettersOf u12 u13)) hP (mp_D_of hD rfl) hS hA rfl rfl (mp_runV (As := [.long (lN 0), .long (lN 1)]) (rest := []) X me_X4_keep lk_X4_57 (c_X4_keep l D T fu a_ a_holds a_lettersOf (lN 0) (lN 1) v_above v_below u12 u13 c14) rfl rfl ⟨(Nat.le_of_ble_eq_true rfl), (Nat.le_of_ble_eq_true rfl)⟩ hK hPc hDc rfl rfl rfl rfl hl.1 rfl (Nat.le_of_ble_eq_true rfl) dX4_tellMix_22 ⟨Nat.zero_le _, Nat.zero_le _⟩) (fun H locs hP _ hS => ?_)
      replace hP : va_P D mp_cl (k_X4_tellMix T a_ a_holds a_lettersOf a_p1 a_p1_cellNames a_p1_secretNames a_p1_pageNames a_p1_speed a_p1_letters a_p1_room a_p1_now a_p1_rounds a_p1_now_order a_p1_now_knows a_p1_now_made a_p1_now_sixteenths a_p1_now_dots a_p1_now_used a_p1_now_stands u12 u13 v_p1_cells v_p1_secrets v_p1_pages v_p1_blind v_p1_rubs v_p1_now_inOrder v_p1_now_place v_p1_now_ill v_p1_now_shut v_p1_now_turns v_p1_now_madeInAll v_p1_now_sixteenths) H := hP
      refine lv_goto (tgt := 41) hx hb dX4_tellMix_25 (by decide) ?_
      cases hf
      exact mp_retv X hP hS dX4_tellMix_41
    · replace hf := if_t hf h11
      refine lv_lconst (v := (lN 1)) hx hb dX4_tellMix_16 (by decide) ?_
      refine lv_goto (tgt := 21) hx hb dX4_tellMix_17 (by decide) ?_
      refine lv_lconst (v := (lN 1)) hx hb dX4_tellMix_21 (by decide) ?_
      obtain ⟨⟨u15, u16⟩, c17, hf⟩ := bd_of hf
      dsimp only at hf
      have hPc := hP.sub (ws' := (k_X4_keep T a_ a_holds a_lettersOf v_above v_below)) [0] rfl
      have hDc := (mp_D_of (w1 := (k_X4_tellMix T a_ a_holds a_lettersOf a_p1 a_p1_cellNames a_p1_secretNames a_p1_pageNames a_p1_speed a_p1_letters a_p1_room a_p1_now a_p1_rounds a_p1_now_order a_p1_now_knows a_p1_now_made a_p1_now_sixteenths a_p1_now_dots a_p1_now_used a_p1_now_stands v_above v_below v_p1_cells v_p1_secrets v_p1_pages v_p1_blind v_p1_rubs v_p1_now_inOrder v_p1_now_place v_p1_now_ill v_p1_now_shut v_p1_now_turns v_p1_now_madeInAll v_p1_now_sixteenths)) hD rfl).sub (ws' := (k_X4_keep T a_ a_holds a_lettersOf v_above v_below)) [0] rfl rfl
      refine mp_callv (isC := [0]) (wc := (k_X4_keep T a_ a_holds a_lettersOf v_above v_below)) (w1 := (k_X4_keep T a_ a_holds a_lettersOf u15 u16)) hP (mp_D_of hD rfl) hS hA rfl rfl (mp_runV (As := [.long (lN 1), .long (lN 1)]) (rest := []) X me_X4_keep lk_X4_57 (c_X4_keep l D T fu a_ a_holds a_lettersOf (lN 1) (lN 1) v_above v_below u15 u16 c17) rfl rfl ⟨(Nat.le_of_ble_eq_true rfl), (Nat.le_of_ble_eq_true rfl)⟩ hK hPc hDc rfl rfl rfl rfl hl.1 rfl (Nat.le_of_ble_eq_true rfl) dX4_tellMix_22 ⟨Nat.zero_le _, Nat.zero_le _⟩) (fun H locs hP _ hS => ?_)
      replace hP : va_P D mp_cl (k_X4_tellMix T a_ a_holds a_lettersOf a_p1 a_p1_cellNames a_p1_secretNames a_p1_pageNames a_p1_speed a_p1_letters a_p1_room a_p1_now a_p1_rounds a_p1_now_order a_p1_now_knows a_p1_now_made a_p1_now_sixteenths a_p1_now_dots a_p1_now_used a_p1_now_stands u15 u16 v_p1_cells v_p1_secrets v_p1_pages v_p1_blind v_p1_rubs v_p1_now_inOrder v_p1_now_place v_p1_now_ill v_p1_now_shut v_p1_now_turns v_p1_now_madeInAll v_p1_now_sixteenths) H := hP
      refine lv_goto (tgt := 41) hx hb dX4_tellMix_25 (by decide) ?_
      cases hf
      exact mp_retv X hP hS dX4_tellMix_41


def k_X4_sumLetters (T : Nat → ClassId) (a_ a_holds a_lettersOf a_p1 a_p1_cellNames a_p1_secretNames a_p1_pageNames a_p1_speed a_p1_letters a_p1_room a_p1_now a_p1_rounds : Nat) (v_above : Int64) (v_below : Int64) (v_lettersOf : (Nat → Int32)) (v_p1_cells : Int32) (v_p1_secrets : Int32) (v_p1_pages : Int32) (v_p1_blind : Int32) (v_p1_rubs : Int32) (v_p1_letters : (Nat → Int32)) : va_W := [(a_, oX4 v_above v_below a_holds a_lettersOf), (a_lettersOf, mp_aI T 64 v_lettersOf), (a_p1, oX1 v_p1_cells v_p1_secrets v_p1_pages a_p1_cellNames a_p1_secretNames a_p1_pageNames a_p1_speed v_p1_blind v_p1_rubs a_p1_letters a_p1_room a_p1_now a_p1_rounds), (a_p1_letters, mp_aI T 6 v_p1_letters)]
set_option maxHeartbeats 4000000 in
set_option maxRecDepth 100000 in
theorem w_X4_sumLetters_13 {p : Program} {l : Launch} {e : Env} {s : State} {m : MethodId} {args : Array Value} {below : List Frame} {meth : Method} {c : Code} {D : va_G} {T : Nat → ClassId} {A : Nat → Prop} (X : mp_X p s m meth c args RX4 "sumLetters" cX4_sumLetters 5 none) (hK : va_K D mp_cl (mp_ty T) s) (hA : ∀ q, s.heap.size ≤ q → A q) (fu : Nat) (a_ a_holds a_lettersOf a_p1 a_p1_cellNames a_p1_secretNames a_p1_pageNames a_p1_speed a_p1_letters a_p1_room a_p1_now a_p1_rounds : Nat) (v_above : Int64) (v_below : Int64) (v_p1_cells : Int32) (v_p1_pages : Int32) (v_p1_blind : Int32) (v_p1_rubs : Int32) (v_p1_secrets : Int32) (v_p1_letters : (Nat → Int32)) (o_lettersOf : (Nat → Int32)) (K2 : Int32 → (Nat → Int32) → Option ((Nat → Int32))) (hK2 : ∀ (z2 : Int32) (v_lettersOf : (Nat → Int32)), K2 z2 v_lettersOf = some o_lettersOf → ∀ (H : Heap) (locs : List Loc) (ls : Array Slot), va_P D mp_cl (k_X4_sumLetters T a_ a_holds a_lettersOf a_p1 a_p1_cellNames a_p1_secretNames a_p1_pageNames a_p1_speed a_p1_letters a_p1_room a_p1_now a_p1_rounds v_above v_below v_lettersOf v_p1_cells v_p1_secrets v_p1_pages v_p1_blind v_p1_rubs v_p1_letters) H → va_D A (k_X4_sumLetters T a_ a_holds a_lettersOf a_p1 a_p1_cellNames a_p1_secretNames a_p1_pageNames a_p1_speed a_p1_letters a_p1_room a_p1_now a_p1_rounds v_above v_below v_lettersOf v_p1_cells v_p1_secrets v_p1_pages v_p1_blind v_p1_rubs v_p1_letters) → va_S A s.heap H locs → lv_has ls 5 [(0, .ref a_), (1, .ref a_p1), (2, .int z2)] → W p l e ({ frames := 1, cells := 0, slots := 0, locals := 21 }) s m args below meth c H locs 0 0 (MQ below ((mp_Qv D (k_X4_sumLetters T a_ a_holds a_lettersOf a_p1 a_p1_cellNames a_p1_secretNames a_p1_pageNames a_p1_speed a_p1_letters a_p1_room a_p1_now a_p1_rounds v_above v_below o_lettersOf v_p1_cells v_p1_secrets v_p1_pages v_p1_blind v_p1_rubs v_p1_letters)) A) args s 0 0 A) (F0 m 2 ls [])) :
    ∀ (n : Nat) (z2 : Int32) (z3 : Int32) (z4 : Int32) (v_lettersOf : (Nat → Int32)), f_X4_sumLetters_13 fu v_p1_secrets v_p1_letters K2 n z2 z3 z4 v_lettersOf = some o_lettersOf → ∀ (H : Heap) (locs : List Loc) (ls : Array Slot), va_P D mp_cl (k_X4_sumLetters T a_ a_holds a_lettersOf a_p1 a_p1_cellNames a_p1_secretNames a_p1_pageNames a_p1_speed a_p1_letters a_p1_room a_p1_now a_p1_rounds v_above v_below v_lettersOf v_p1_cells v_p1_secrets v_p1_pages v_p1_blind v_p1_rubs v_p1_letters) H → va_D A (k_X4_sumLetters T a_ a_holds a_lettersOf a_p1 a_p1_cellNames a_p1_secretNames a_p1_pageNames a_p1_speed a_p1_letters a_p1_room a_p1_now a_p1_rounds v_above v_below v_lettersOf v_p1_cells v_p1_secrets v_p1_pages v_p1_blind v_p1_rubs v_p1_letters) → va_S A s.heap H locs → lv_has ls 5 [(0, .ref a_), (1, .ref a_p1), (2, .int z2), (3, .int z3), (4, .int z4)] → W p l e ({ frames := 1, cells := 0, slots := 0, locals := 21 }) s m args below meth c H locs 0 0 (MQ below ((mp_Qv D (k_X4_sumLetters T a_ a_holds a_lettersOf a_p1 a_p1_cellNames a_p1_secretNames a_p1_pageNames a_p1_speed a_p1_letters a_p1_room a_p1_now a_p1_rounds v_above v_below o_lettersOf v_p1_cells v_p1_secrets v_p1_pages v_p1_blind v_p1_rubs v_p1_letters)) A) args s 0 0 A) (F0 m 13 ls []) := by
  have hx := X.1
  have hb := X.2.1
  have hml := X.2.2.1
  have hown := X.2.2.2.2.1
  have hts := X.2.2.2.2.2.1
  intro n
  induction n with
  | zero => intro z2 z3 z4 v_lettersOf hf; exact absurd hf (by intro h; cases h)
  | succ n ih =>
    intro z2 z3 z4 v_lettersOf hf H locs ls hP hD hS hl
    replace hf : (if v_p1_secrets ≤ z4 then gi_ z2 64 (lt_ (z2 + (nI 1)) (fun (y3 : Int32) => K2 y3 (upd v_lettersOf (z2).toNatClampNeg z3))) else bd_ (f_X7_has z2 z4) (fun (r4 : Int32) => (if r4 = 0 then lt_ (z3 + (nI 0)) (fun (y7 : Int32) => lt_ (z4 + (nI 1)) (fun (y8 : Int32) => f_X4_sumLetters_13 fu v_p1_secrets v_p1_letters K2 n z2 y7 y8 v_lettersOf)) else gi_ z4 6 (lt_ (z3 + (v_p1_letters (z4).toNatClampNeg)) (fun (y10 : Int32) => lt_ (z4 + (nI 1)) (fun (y11 : Int32) => f_X4_sumLetters_13 fu v_p1_secrets v_p1_letters K2 n z2 y10 y11 v_lettersOf)))))) = some o_lettersOf := hf
    refine lv_iload hx hb dX4_sumLetters_13 (lv_at hl 4 rfl) ?_
    refine lv_aload_n hx hb dX4_sumLetters_15 rfl (lv_at hl 1 rfl) ?_
    refine mp_get X fl_X4_93 hK hP 2 rfl rfl dX4_sumLetters_16 ?_
    refine lv_icmp_ge (tgt := 51) hx hb dX4_sumLetters_19 (by decide) (fun h1 => ?_) (fun h1 => ?_)
    · replace hf := if_t hf h1
      refine lv_aload_n hx hb dX4_sumLetters_51 rfl (lv_at hl 0 rfl) ?_
      refine mp_get X fl_X4_22 hK hP 0 rfl rfl dX4_sumLetters_52 ?_
      refine lv_iload_n hx hb dX4_sumLetters_55 rfl (lv_at hl 2 rfl) ?_
      refine lv_iload_n hx hb dX4_sumLetters_56 rfl (lv_at hl 3 rfl) ?_
      obtain ⟨h2, hf⟩ := gi_of hf
      refine va_iast hx hb hK hP (mp_D_of hD rfl) hS 1 0 rfl rfl h2 dX4_sumLetters_57 (fun H locs hP _ hS => ?_)
      replace hP : va_P D mp_cl (k_X4_sumLetters T a_ a_holds a_lettersOf a_p1 a_p1_cellNames a_p1_secretNames a_p1_pageNames a_p1_speed a_p1_letters a_p1_room a_p1_now a_p1_rounds v_above v_below (upd v_lettersOf (z2).toNatClampNeg z3) v_p1_cells v_p1_secrets v_p1_pages v_p1_blind v_p1_rubs v_p1_letters) H := hP
      obtain ⟨y3, e3⟩ : ∃ y : Int32, y = z2 + (nI 1) := ⟨_, rfl⟩
      replace hf := lt_of e3 hf
      refine lv_iinc (v := y3) (lv' := [(2, .int y3), (0, .ref a_), (1, .ref a_p1), (3, .int z3), (4, .int z4)]) hx hb dX4_sumLetters_58 hl (k := 2) rfl (by rw [e3]; rfl) (by decide) rfl (fun ls hl => ?_)
      refine lv_goto (tgt := 2) hx hb dX4_sumLetters_61 (by decide) ?_
      exact hK2 y3 (upd v_lettersOf (z2).toNatClampNeg z3) hf _ _ _ hP (mp_D_of hD rfl) hS (lv_sub hl [1, 2, 0] rfl)
    · replace hf := if_f hf h1
      refine lv_iload_n hx hb dX4_sumLetters_22 rfl (lv_at hl 3 rfl) ?_
      refine lv_iload_n hx hb dX4_sumLetters_23 rfl (lv_at hl 2 rfl) ?_
      refine lv_iload hx hb dX4_sumLetters_24 (lv_at hl 4 rfl) ?_
      obtain ⟨r4, c5, hf⟩ := bd_of hf
      have hPc := hP.sub (ws' := (k_X7_has T )) [] rfl
      have hDc := (mp_D_of (w1 := (k_X4_sumLetters T a_ a_holds a_lettersOf a_p1 a_p1_cellNames a_p1_secretNames a_p1_pageNames a_p1_speed a_p1_letters a_p1_room a_p1_now a_p1_rounds v_above v_below v_lettersOf v_p1_cells v_p1_secrets v_p1_pages v_p1_blind v_p1_rubs v_p1_letters)) hD rfl).sub (ws' := (k_X7_has T )) [] rfl rfl
      refine mp_calli (isC := []) (wc := (k_X7_has T )) (w1 := (k_X7_has T )) hP (mp_D_of hD rfl) hS hA rfl rfl (mp_runS (As := [.int z2, .int z4]) (rest := [.int z3]) X me_X7_has lk_X4_45 (c_X7_has l D T z2 z4 r4 c5) rfl rfl ⟨(Nat.le_of_ble_eq_true rfl), (Nat.le_of_ble_eq_true rfl)⟩ hK hPc hDc rfl hl.1 rfl (Nat.le_of_ble_eq_true rfl) dX4_sumLetters_26 ⟨Nat.zero_le _, Nat.zero_le _⟩) (fun H locs hP _ hS => ?_)
      replace hP : va_P D mp_cl (k_X4_sumLetters T a_ a_holds a_lettersOf a_p1 a_p1_cellNames a_p1_secretNames a_p1_pageNames a_p1_speed a_p1_letters a_p1_room a_p1_now a_p1_rounds v_above v_below v_lettersOf v_p1_cells v_p1_secrets v_p1_pages v_p1_blind v_p1_rubs v_p1_letters) H := hP
      refine lv_if_eq (tgt := 42) hx hb dX4_sumLetters_29 (by decide) (fun h6 => ?_) (fun h6 => ?_)
      · replace hf := if_t hf h6
        refine lv_iconst (v := (nI 0)) hx hb dX4_sumLetters_42 (by decide) ?_
        refine lv_iadd hx hb dX4_sumLetters_43 ?_
        refine lv_topi (fun y7 e7 => ?_)
        replace hf := lt_of e7 hf
        refine lv_istore_n (lv' := [(3, .int y7), (0, .ref a_), (1, .ref a_p1), (2, .int z2), (4, .int z4)]) hx hb dX4_sumLetters_44 rfl hl (by decide) rfl (fun ls hl => ?_)
        obtain ⟨y8, e8⟩ : ∃ y : Int32, y = z4 + (nI 1) := ⟨_, rfl⟩
        replace hf := lt_of e8 hf
        refine lv_iinc (v := y8) (lv' := [(4, .int y8), (3, .int y7), (0, .ref a_), (1, .ref a_p1), (2, .int z2)]) hx hb dX4_sumLetters_45 hl (k := 4) rfl (by rw [e8]; rfl) (by decide) rfl (fun ls hl => ?_)
        refine lv_goto (tgt := 13) hx hb dX4_sumLetters_48 (by decide) ?_
        exact ih z2 y7 y8 v_lettersOf hf _ _ _ hP (mp_D_of hD rfl) hS (lv_sub hl [2, 3, 4, 1, 0] rfl)
      · replace hf := if_f hf h6
        refine lv_aload_n hx hb dX4_sumLetters_32 rfl (lv_at hl 1 rfl) ?_
        refine mp_get X fl_X4_96 hK hP 2 rfl rfl dX4_sumLetters_33 ?_
        refine lv_iload hx hb dX4_sumLetters_36 (lv_at hl 4 rfl) ?_
        obtain ⟨h9, hf⟩ := gi_of hf
        refine va_iald hx hb hK hP 3 0 rfl rfl h9 dX4_sumLetters_38 ?_
        refine lv_goto (tgt := 43) hx hb dX4_sumLetters_39 (by decide) ?_
        refine lv_iadd hx hb dX4_sumLetters_43 ?_
        refine lv_topi (fun y10 e10 => ?_)
        replace hf := lt_of e10 hf
        refine lv_istore_n (lv' := [(3, .int y10), (0, .ref a_), (1, .ref a_p1), (2, .int z2), (4, .int z4)]) hx hb dX4_sumLetters_44 rfl hl (by decide) rfl (fun ls hl => ?_)
        obtain ⟨y11, e11⟩ : ∃ y : Int32, y = z4 + (nI 1) := ⟨_, rfl⟩
        replace hf := lt_of e11 hf
        refine lv_iinc (v := y11) (lv' := [(4, .int y11), (3, .int y10), (0, .ref a_), (1, .ref a_p1), (2, .int z2)]) hx hb dX4_sumLetters_45 hl (k := 4) rfl (by rw [e11]; rfl) (by decide) rfl (fun ls hl => ?_)
        refine lv_goto (tgt := 13) hx hb dX4_sumLetters_48 (by decide) ?_
        exact ih z2 y10 y11 v_lettersOf hf _ _ _ hP (mp_D_of hD rfl) hS (lv_sub hl [2, 3, 4, 1, 0] rfl)

set_option maxHeartbeats 4000000 in
set_option maxRecDepth 100000 in
theorem w_X4_sumLetters_2 {p : Program} {l : Launch} {e : Env} {s : State} {m : MethodId} {args : Array Value} {below : List Frame} {meth : Method} {c : Code} {D : va_G} {T : Nat → ClassId} {A : Nat → Prop} (X : mp_X p s m meth c args RX4 "sumLetters" cX4_sumLetters 5 none) (hK : va_K D mp_cl (mp_ty T) s) (hA : ∀ q, s.heap.size ≤ q → A q) (fu : Nat) (a_ a_holds a_lettersOf a_p1 a_p1_cellNames a_p1_secretNames a_p1_pageNames a_p1_speed a_p1_letters a_p1_room a_p1_now a_p1_rounds : Nat) (v_above : Int64) (v_below : Int64) (v_p1_cells : Int32) (v_p1_pages : Int32) (v_p1_blind : Int32) (v_p1_rubs : Int32) (v_p1_secrets : Int32) (v_p1_letters : (Nat → Int32)) (o_lettersOf : (Nat → Int32)) :
    ∀ (n : Nat) (z2 : Int32) (v_lettersOf : (Nat → Int32)), f_X4_sumLetters_2 fu v_p1_secrets v_p1_letters  n z2 v_lettersOf = some o_lettersOf → ∀ (H : Heap) (locs : List Loc) (ls : Array Slot), va_P D mp_cl (k_X4_sumLetters T a_ a_holds a_lettersOf a_p1 a_p1_cellNames a_p1_secretNames a_p1_pageNames a_p1_speed a_p1_letters a_p1_room a_p1_now a_p1_rounds v_above v_below v_lettersOf v_p1_cells v_p1_secrets v_p1_pages v_p1_blind v_p1_rubs v_p1_letters) H → va_D A (k_X4_sumLetters T a_ a_holds a_lettersOf a_p1 a_p1_cellNames a_p1_secretNames a_p1_pageNames a_p1_speed a_p1_letters a_p1_room a_p1_now a_p1_rounds v_above v_below v_lettersOf v_p1_cells v_p1_secrets v_p1_pages v_p1_blind v_p1_rubs v_p1_letters) → va_S A s.heap H locs → lv_has ls 5 [(0, .ref a_), (1, .ref a_p1), (2, .int z2)] → W p l e ({ frames := 1, cells := 0, slots := 0, locals := 21 }) s m args below meth c H locs 0 0 (MQ below ((mp_Qv D (k_X4_sumLetters T a_ a_holds a_lettersOf a_p1 a_p1_cellNames a_p1_secretNames a_p1_pageNames a_p1_speed a_p1_letters a_p1_room a_p1_now a_p1_rounds v_above v_below o_lettersOf v_p1_cells v_p1_secrets v_p1_pages v_p1_blind v_p1_rubs v_p1_letters)) A) args s 0 0 A) (F0 m 2 ls []) := by
  have hx := X.1
  have hb := X.2.1
  have hml := X.2.2.1
  have hown := X.2.2.2.2.1
  have hts := X.2.2.2.2.2.1
  intro n
  induction n with
  | zero => intro z2 v_lettersOf hf; exact absurd hf (by intro h; cases h)
  | succ n ih =>
    intro z2 v_lettersOf hf H locs ls hP hD hS hl
    replace hf : (if (nI 64) ≤ z2 then some (v_lettersOf) else f_X4_sumLetters_13 fu v_p1_secrets v_p1_letters (f_X4_sumLetters_2 fu v_p1_secrets v_p1_letters  n) fu z2 (nI 0) (nI 0) v_lettersOf) = some o_lettersOf := hf
    refine lv_iload_n hx hb dX4_sumLetters_2 rfl (lv_at hl 2 rfl) ?_
    refine lv_bipush (v := (nI 64)) hx hb dX4_sumLetters_3 (by decide) ?_
    refine lv_icmp_ge (tgt := 64) hx hb dX4_sumLetters_5 (by decide) (fun h1 => ?_) (fun h1 => ?_)
    · replace hf := if_t hf h1
      cases hf
      exact mp_retv X hP hS dX4_sumLetters_64
    · replace hf := if_f hf h1
      refine lv_iconst (v := (nI 0)) hx hb dX4_sumLetters_8 (by decide) ?_
      refine lv_istore_n (lv' := [(3, .int (nI 0)), (0, .ref a_), (1, .ref a_p1), (2, .int z2)]) hx hb dX4_sumLetters_9 rfl hl (by decide) rfl (fun ls hl => ?_)
      refine lv_iconst (v := (nI 0)) hx hb dX4_sumLetters_10 (by decide) ?_
      refine lv_istore (lv' := [(4, .int (nI 0)), (3, .int (nI 0)), (0, .ref a_), (1, .ref a_p1), (2, .int z2)]) hx hb dX4_sumLetters_11 hl (by decide) rfl (fun ls hl => ?_)
      exact w_X4_sumLetters_13 X hK hA  fu a_ a_holds a_lettersOf a_p1 a_p1_cellNames a_p1_secretNames a_p1_pageNames a_p1_speed a_p1_letters a_p1_room a_p1_now a_p1_rounds v_above v_below v_p1_cells v_p1_pages v_p1_blind v_p1_rubs v_p1_secrets v_p1_letters o_lettersOf  (f_X4_sumLetters_2 fu v_p1_secrets v_p1_letters  n) (ih) fu z2 (nI 0) (nI 0) v_lettersOf hf _ _ _ hP (mp_D_of hD rfl) hS (lv_sub hl [2, 3, 4, 1, 0] rfl)

set_option maxHeartbeats 4000000 in
set_option maxRecDepth 100000 in
theorem c_X4_sumLetters (l : Launch) (D : va_G) (T : Nat → ClassId) (fu : Nat) (a_ a_holds a_lettersOf a_p1 a_p1_cellNames a_p1_secretNames a_p1_pageNames a_p1_speed a_p1_letters a_p1_room a_p1_now a_p1_rounds : Nat) (v_above : Int64) (v_below : Int64) (v_p1_cells : Int32) (v_p1_pages : Int32) (v_p1_blind : Int32) (v_p1_rubs : Int32) (v_lettersOf : (Nat → Int32)) (v_p1_secrets : Int32) (v_p1_letters : (Nat → Int32)) (o_lettersOf : (Nat → Int32)) (hf : f_X4_sumLetters fu v_lettersOf v_p1_secrets v_p1_letters = some o_lettersOf) :
    mp_M l D T yX4_sumLetters cX4_sumLetters 5 none ({ frames := 1, cells := 0, slots := 0, locals := 21 }) 0 0 [.ref a_, .ref a_p1] (k_X4_sumLetters T a_ a_holds a_lettersOf a_p1 a_p1_cellNames a_p1_secretNames a_p1_pageNames a_p1_speed a_p1_letters a_p1_room a_p1_now a_p1_rounds v_above v_below v_lettersOf v_p1_cells v_p1_secrets v_p1_pages v_p1_blind v_p1_rubs v_p1_letters) (mp_Qv D (k_X4_sumLetters T a_ a_holds a_lettersOf a_p1 a_p1_cellNames a_p1_secretNames a_p1_pageNames a_p1_speed a_p1_letters a_p1_room a_p1_now a_p1_rounds v_above v_below o_lettersOf v_p1_cells v_p1_secrets v_p1_pages v_p1_blind v_p1_rubs v_p1_letters)) := by
  refine mp_of (by decide) (Nat.le_of_ble_eq_true rfl) rfl ?_
  intro p e s m args below meth c A ls X hK hP hD hS hA hl
  replace X : mp_X p s m meth c args RX4 "sumLetters" cX4_sumLetters 5 none := X
  have hx := X.1
  have hb := X.2.1
  have hml := X.2.2.1
  have hown := X.2.2.2.2.1
  have hts := X.2.2.2.2.2.1
  replace hl : lv_has ls 5 [(0, .ref a_), (1, .ref a_p1)] := hl
  replace hf : f_X4_sumLetters_2 fu v_p1_secrets v_p1_letters  fu (nI 0) v_lettersOf = some o_lettersOf := hf
  refine lv_iconst (v := (nI 0)) hx hb dX4_sumLetters_0 (by decide) ?_
  refine lv_istore_n (lv' := [(2, .int (nI 0)), (0, .ref a_), (1, .ref a_p1)]) hx hb dX4_sumLetters_1 rfl hl (by decide) rfl (fun ls hl => ?_)
  exact w_X4_sumLetters_2 X hK hA  fu a_ a_holds a_lettersOf a_p1 a_p1_cellNames a_p1_secretNames a_p1_pageNames a_p1_speed a_p1_letters a_p1_room a_p1_now a_p1_rounds v_above v_below v_p1_cells v_p1_pages v_p1_blind v_p1_rubs v_p1_secrets v_p1_letters o_lettersOf   fu (nI 0) v_lettersOf hf _ _ _ hP (mp_D_of hD rfl) hS (lv_sub hl [1, 2, 0] rfl)


def k_X4_joined (T : Nat → ClassId) : va_W := []
set_option maxHeartbeats 4000000 in
set_option maxRecDepth 100000 in
theorem w_X4_joined_6 {p : Program} {l : Launch} {e : Env} {s : State} {m : MethodId} {args : Array Value} {below : List Frame} {meth : Method} {c : Code} {D : va_G} {T : Nat → ClassId} {A : Nat → Prop} (X : mp_X p s m meth c args RX4 "joined" cX4_joined 7 (some .long)) (hK : va_K D mp_cl (mp_ty T) s) (hA : ∀ q, s.heap.size ≤ q → A q) (fu : Nat) (r_ : Int64) :
    ∀ (n : Nat) (z0 : Int64) (z2 : Int32) (z3 : Int32) (z4 : Int64) (z6 : Int32), f_X4_joined_6 fu   n z0 z2 z3 z4 z6 = some r_ → ∀ (H : Heap) (locs : List Loc) (ls : Array Slot), va_P D mp_cl (k_X4_joined T ) H → va_D A (k_X4_joined T ) → va_S A s.heap H locs → lv_has ls 7 [(0, .long z0), (2, .int z2), (3, .int z3), (4, .long z4), (6, .int z6)] → W p l e ({ frames := 0, cells := 0, slots := 0, locals := 0 }) s m args below meth c H locs 0 0 (MQ below ((mp_Ql D r_ (k_X4_joined T )) A) args s 0 0 A) (F0 m 6 ls []) := by
  have hx := X.1
  have hb := X.2.1
  have hml := X.2.2.1
  have hown := X.2.2.2.2.1
  have hts := X.2.2.2.2.2.1
  intro n
  induction n with
  | zero => intro z0 z2 z3 z4 z6 hf; exact absurd hf (by intro h; cases h)
  | succ n ih =>
    intro z0 z2 z3 z4 z6 hf H locs ls hP hD hS hl
    replace hf : (if z3 < z6 then some (z4) else (if (z6 &&& z2) = 0 then (if (lg_cmp ((((z0).toUInt64 >>> ((z6).toInt64.toUInt64 &&& Int64.toUInt64 63)).toInt64) &&& (lN 1)) (lN 0)) = 0 then lt_ (z6 + (nI 1)) (fun (y5 : Int32) => f_X4_joined_6 fu   n z0 z2 z3 z4 y5) else lt_ (z4 ||| ((lN 1) <<< (((z6 ||| z2)).toInt64 &&& (63 : Int64)))) (fun (y6 : Int64) => lt_ (z6 + (nI 1)) (fun (y7 : Int32) => f_X4_joined_6 fu   n z0 z2 z3 y6 y7))) else lt_ (z6 + (nI 1)) (fun (y3 : Int32) => f_X4_joined_6 fu   n z0 z2 z3 z4 y3))) = some r_ := hf
    refine lv_iload hx hb dX4_joined_6 (lv_at hl 4 rfl) ?_
    refine lv_iload_n hx hb dX4_joined_8 rfl (lv_at hl 2 rfl) ?_
    refine lv_icmp_gt (tgt := 47) hx hb dX4_joined_9 (by decide) (fun h1 => ?_) (fun h1 => ?_)
    · replace hf := if_t hf h1
      refine lv_lload hx hb dX4_joined_47 (lv_at hl 3 rfl) ?_
      cases hf
      exact mp_retl X hP hS rfl dX4_joined_49
    · replace hf := if_f hf h1
      refine lv_iload hx hb dX4_joined_12 (lv_at hl 4 rfl) ?_
      refine lv_iload_n hx hb dX4_joined_14 rfl (lv_at hl 1 rfl) ?_
      refine lv_iand hx hb dX4_joined_15 ?_
      refine lv_if_ne (tgt := 41) hx hb dX4_joined_16 (by decide) (fun h2 => ?_) (fun h2 => ?_)
      · replace hf := if_f hf h2
        obtain ⟨y3, e3⟩ : ∃ y : Int32, y = z6 + (nI 1) := ⟨_, rfl⟩
        replace hf := lt_of e3 hf
        refine lv_iinc (v := y3) (lv' := [(6, .int y3), (0, .long z0), (2, .int z2), (3, .int z3), (4, .long z4)]) hx hb dX4_joined_41 hl (k := 4) rfl (by rw [e3]; rfl) (by decide) rfl (fun ls hl => ?_)
        refine lv_goto (tgt := 6) hx hb dX4_joined_44 (by decide) ?_
        exact ih z0 z2 z3 z4 y3 hf _ _ _ hP (mp_D_of hD rfl) hS (lv_sub hl [1, 2, 3, 4, 0] rfl)
      · replace hf := if_t hf h2
        refine lv_lload_n hx hb dX4_joined_19 rfl (lv_at hl 0 rfl) ?_
        refine lv_iload hx hb dX4_joined_20 (lv_at hl 4 rfl) ?_
        refine lv_lushr hx hb dX4_joined_22 rfl ?_
        refine lv_lconst (v := (lN 1)) hx hb dX4_joined_23 (by decide) ?_
        refine lv_land hx hb dX4_joined_24 ?_
        refine lv_lconst (v := (lN 0)) hx hb dX4_joined_25 (by decide) ?_
        refine W.lcmp hx hb dX4_joined_26 ?_
        refine lv_if_eq (tgt := 41) hx hb dX4_joined_27 (by decide) (fun h4 => ?_) (fun h4 => ?_)
        · replace hf := if_t hf h4
          obtain ⟨y5, e5⟩ : ∃ y : Int32, y = z6 + (nI 1) := ⟨_, rfl⟩
          replace hf := lt_of e5 hf
          refine lv_iinc (v := y5) (lv' := [(6, .int y5), (0, .long z0), (2, .int z2), (3, .int z3), (4, .long z4)]) hx hb dX4_joined_41 hl (k := 4) rfl (by rw [e5]; rfl) (by decide) rfl (fun ls hl => ?_)
          refine lv_goto (tgt := 6) hx hb dX4_joined_44 (by decide) ?_
          exact ih z0 z2 z3 z4 y5 hf _ _ _ hP (mp_D_of hD rfl) hS (lv_sub hl [1, 2, 3, 4, 0] rfl)
        · replace hf := if_f hf h4
          refine lv_lload hx hb dX4_joined_30 (lv_at hl 3 rfl) ?_
          refine lv_lconst (v := (lN 1)) hx hb dX4_joined_32 (by decide) ?_
          refine lv_iload hx hb dX4_joined_33 (lv_at hl 4 rfl) ?_
          refine lv_iload_n hx hb dX4_joined_35 rfl (lv_at hl 1 rfl) ?_
          refine lv_ior hx hb dX4_joined_36 ?_
          refine lv_lshl hx hb dX4_joined_37 rfl ?_
          refine lv_lor hx hb dX4_joined_38 ?_
          refine lv_topl (fun y6 e6 => ?_)
          replace hf := lt_of e6 hf
          refine lv_lstore (lv' := [(4, .long y6), (0, .long z0), (2, .int z2), (3, .int z3), (6, .int z6)]) hx hb dX4_joined_39 hl (by decide) rfl (fun ls hl => ?_)
          obtain ⟨y7, e7⟩ : ∃ y : Int32, y = z6 + (nI 1) := ⟨_, rfl⟩
          replace hf := lt_of e7 hf
          refine lv_iinc (v := y7) (lv' := [(6, .int y7), (4, .long y6), (0, .long z0), (2, .int z2), (3, .int z3)]) hx hb dX4_joined_41 hl (k := 4) rfl (by rw [e7]; rfl) (by decide) rfl (fun ls hl => ?_)
          refine lv_goto (tgt := 6) hx hb dX4_joined_44 (by decide) ?_
          exact ih z0 z2 z3 y6 y7 hf _ _ _ hP (mp_D_of hD rfl) hS (lv_sub hl [2, 3, 4, 1, 0] rfl)

set_option maxHeartbeats 4000000 in
set_option maxRecDepth 100000 in
theorem c_X4_joined (l : Launch) (D : va_G) (T : Nat → ClassId) (fu : Nat) (x1 : Int64) (x2 : Int32) (x3 : Int32) (r_ : Int64) (hf : f_X4_joined fu x1 x2 x3 = some r_) :
    mp_M l D T yX4_joined cX4_joined 7 (some .long) ({ frames := 0, cells := 0, slots := 0, locals := 0 }) 0 0 [.long x1, .int x2, .int x3] (k_X4_joined T ) (mp_Ql D r_ (k_X4_joined T )) := by
  refine mp_of (by decide) (Nat.le_of_ble_eq_true rfl) rfl ?_
  intro p e s m args below meth c A ls X hK hP hD hS hA hl
  replace X : mp_X p s m meth c args RX4 "joined" cX4_joined 7 (some .long) := X
  have hx := X.1
  have hb := X.2.1
  have hml := X.2.2.1
  have hown := X.2.2.2.2.1
  have hts := X.2.2.2.2.2.1
  replace hl : lv_has ls 7 [(0, .long x1), (2, .int x2), (3, .int x3)] := hl
  replace hf : f_X4_joined_6 fu   fu x1 x2 x3 (lN 0) (nI 0) = some r_ := hf
  refine lv_lconst (v := (lN 0)) hx hb dX4_joined_0 (by decide) ?_
  refine lv_lstore (lv' := [(4, .long (lN 0)), (0, .long x1), (2, .int x2), (3, .int x3)]) hx hb dX4_joined_1 hl (by decide) rfl (fun ls hl => ?_)
  refine lv_iconst (v := (nI 0)) hx hb dX4_joined_3 (by decide) ?_
  refine lv_istore (lv' := [(6, .int (nI 0)), (4, .long (lN 0)), (0, .long x1), (2, .int x2), (3, .int x3)]) hx hb dX4_joined_4 hl (by decide) rfl (fun ls hl => ?_)
  exact w_X4_joined_6 X hK hA  fu r_   fu x1 x2 x3 (lN 0) (nI 0) hf _ _ _ hP (mp_D_of hD rfl) hS (lv_sub hl [2, 3, 4, 1, 0] rfl)


def k_X4_fillHolds (T : Nat → ClassId) (a_ a_holds a_lettersOf a_p1 a_p1_cellNames a_p1_secretNames a_p1_pageNames a_p1_speed a_p1_letters a_p1_room a_p1_now a_p1_rounds : Nat) (v_above : Int64) (v_below : Int64) (v_holds : (Nat → Int64)) (v_lettersOf : (Nat → Int32)) (v_p1_cells : Int32) (v_p1_secrets : Int32) (v_p1_pages : Int32) (v_p1_blind : Int32) (v_p1_rubs : Int32) (v_p1_room : (Nat → Int32)) : va_W := [(a_, oX4 v_above v_below a_holds a_lettersOf), (a_holds, mp_aJ T 64 v_holds), (a_lettersOf, mp_aI T 64 v_lettersOf), (a_p1, oX1 v_p1_cells v_p1_secrets v_p1_pages a_p1_cellNames a_p1_secretNames a_p1_pageNames a_p1_speed v_p1_blind v_p1_rubs a_p1_letters a_p1_room a_p1_now a_p1_rounds), (a_p1_room, mp_aI T 6 v_p1_room)]
set_option maxHeartbeats 4000000 in
set_option maxRecDepth 100000 in
theorem w_X4_fillHolds_55 {p : Program} {l : Launch} {e : Env} {s : State} {m : MethodId} {args : Array Value} {below : List Frame} {meth : Method} {c : Code} {D : va_G} {T : Nat → ClassId} {A : Nat → Prop} (X : mp_X p s m meth c args RX4 "fillHolds" cX4_fillHolds 11 none) (hK : va_K D mp_cl (mp_ty T) s) (hA : ∀ q, s.heap.size ≤ q → A q) (fu : Nat) (a_ a_holds a_lettersOf a_p1 a_p1_cellNames a_p1_secretNames a_p1_pageNames a_p1_speed a_p1_letters a_p1_room a_p1_now a_p1_rounds : Nat) (v_above : Int64) (v_below : Int64) (v_p1_cells : Int32) (v_p1_pages : Int32) (v_p1_blind : Int32) (v_p1_rubs : Int32) (v_lettersOf : (Nat → Int32)) (v_p1_secrets : Int32) (v_p1_room : (Nat → Int32)) (o_holds : (Nat → Int64)) :
    ∀ (n : Nat) (z2 : Int32) (z4 : Int32) (z5 : Int32) (z6 : Int64) (z8 : Int64) (z10 : Int32) (v_holds : (Nat → Int64)), f_X4_fillHolds_55 fu v_lettersOf v_p1_secrets v_p1_room  n z2 z4 z5 z6 z8 z10 v_holds = some o_holds → ∀ (H : Heap) (locs : List Loc) (ls : Array Slot), va_P D mp_cl (k_X4_fillHolds T a_ a_holds a_lettersOf a_p1 a_p1_cellNames a_p1_secretNames a_p1_pageNames a_p1_speed a_p1_letters a_p1_room a_p1_now a_p1_rounds v_above v_below v_holds v_lettersOf v_p1_cells v_p1_secrets v_p1_pages v_p1_blind v_p1_rubs v_p1_room) H → va_D A (k_X4_fillHolds T a_ a_holds a_lettersOf a_p1 a_p1_cellNames a_p1_secretNames a_p1_pageNames a_p1_speed a_p1_letters a_p1_room a_p1_now a_p1_rounds v_above v_below v_holds v_lettersOf v_p1_cells v_p1_secrets v_p1_pages v_p1_blind v_p1_rubs v_p1_room) → va_S A s.heap H locs → lv_has ls 11 [(0, .ref a_), (2, .int z2), (4, .int z4), (5, .int z5), (6, .long z6), (8, .long z8), (10, .int z10)] → W p l e ({ frames := 1, cells := 0, slots := 0, locals := 26 }) s m args below meth c H locs 0 0 (MQ below ((mp_Qv D (k_X4_fillHolds T a_ a_holds a_lettersOf a_p1 a_p1_cellNames a_p1_secretNames a_p1_pageNames a_p1_speed a_p1_letters a_p1_room a_p1_now a_p1_rounds v_above v_below o_holds v_lettersOf v_p1_cells v_p1_secrets v_p1_pages v_p1_blind v_p1_rubs v_p1_room)) A) args s 0 0 A) (F0 m 55 ls []) := by
  have hx := X.1
  have hb := X.2.1
  have hml := X.2.2.1
  have hown := X.2.2.2.2.1
  have hts := X.2.2.2.2.2.1
  intro n
  induction n with
  | zero => intro z2 z4 z5 z6 z8 z10 v_holds hf; exact absurd hf (by intro h; cases h)
  | succ n ih =>
    intro z2 z4 z5 z6 z8 z10 v_holds hf H locs ls hP hD hS hl
    replace hf : (if z5 < z10 then gi_ z2 64 (some (vp_updL v_holds (z2).toNatClampNeg z8)) else gi_ z10 64 ((if z4 < (v_lettersOf (z10).toNatClampNeg) then lt_ (z10 + (nI 1)) (fun (y5 : Int32) => f_X4_fillHolds_55 fu v_lettersOf v_p1_secrets v_p1_room  n z2 z4 z5 z6 z8 y5 v_holds) else bd_ (f_X4_joined fu z6 z10 z5) (fun (r6 : Int64) => lt_ (z8 ||| r6) (fun (y8 : Int64) => lt_ (z10 + (nI 1)) (fun (y9 : Int32) => f_X4_fillHolds_55 fu v_lettersOf v_p1_secrets v_p1_room  n z2 z4 z5 z6 y8 y9 v_holds)))))) = some o_holds := hf
    refine lv_iload hx hb dX4_fillHolds_55 (lv_at hl 6 rfl) ?_
    refine lv_iload hx hb dX4_fillHolds_57 (lv_at hl 3 rfl) ?_
    refine lv_icmp_gt (tgt := 94) hx hb dX4_fillHolds_59 (by decide) (fun h1 => ?_) (fun h1 => ?_)
    · replace hf := if_t hf h1
      refine lv_aload_n hx hb dX4_fillHolds_94 rfl (lv_at hl 0 rfl) ?_
      refine mp_get X fl_X4_18 hK hP 0 rfl rfl dX4_fillHolds_95 ?_
      refine lv_iload_n hx hb dX4_fillHolds_98 rfl (lv_at hl 1 rfl) ?_
      refine lv_lload hx hb dX4_fillHolds_99 (lv_at hl 5 rfl) ?_
      obtain ⟨h2, hf⟩ := gi_of hf
      refine va_last hx hb hK hP (mp_D_of hD rfl) hS 1 1 rfl rfl h2 dX4_fillHolds_101 (fun H locs hP _ hS => ?_)
      replace hP : va_P D mp_cl (k_X4_fillHolds T a_ a_holds a_lettersOf a_p1 a_p1_cellNames a_p1_secretNames a_p1_pageNames a_p1_speed a_p1_letters a_p1_room a_p1_now a_p1_rounds v_above v_below (vp_updL v_holds (z2).toNatClampNeg z8) v_lettersOf v_p1_cells v_p1_secrets v_p1_pages v_p1_blind v_p1_rubs v_p1_room) H := hP
      cases hf
      exact mp_retv X hP hS dX4_fillHolds_102
    · replace hf := if_f hf h1
      refine lv_aload_n hx hb dX4_fillHolds_62 rfl (lv_at hl 0 rfl) ?_
      refine mp_get X fl_X4_22 hK hP 0 rfl rfl dX4_fillHolds_63 ?_
      refine lv_iload hx hb dX4_fillHolds_66 (lv_at hl 6 rfl) ?_
      obtain ⟨h3, hf⟩ := gi_of hf
      refine va_iald hx hb hK hP 2 0 rfl rfl h3 dX4_fillHolds_68 ?_
      refine lv_iload hx hb dX4_fillHolds_69 (lv_at hl 2 rfl) ?_
      refine lv_icmp_gt (tgt := 88) hx hb dX4_fillHolds_71 (by decide) (fun h4 => ?_) (fun h4 => ?_)
      · replace hf := if_t hf h4
        obtain ⟨y5, e5⟩ : ∃ y : Int32, y = z10 + (nI 1) := ⟨_, rfl⟩
        replace hf := lt_of e5 hf
        refine lv_iinc (v := y5) (lv' := [(10, .int y5), (0, .ref a_), (2, .int z2), (4, .int z4), (5, .int z5), (6, .long z6), (8, .long z8)]) hx hb dX4_fillHolds_88 hl (k := 6) rfl (by rw [e5]; rfl) (by decide) rfl (fun ls hl => ?_)
        refine lv_goto (tgt := 55) hx hb dX4_fillHolds_91 (by decide) ?_
        exact ih z2 z4 z5 z6 z8 y5 v_holds hf _ _ _ hP (mp_D_of hD rfl) hS (lv_sub hl [1, 2, 3, 4, 5, 6, 0] rfl)
      · replace hf := if_f hf h4
        refine lv_lload hx hb dX4_fillHolds_74 (lv_at hl 5 rfl) ?_
        refine lv_lload hx hb dX4_fillHolds_76 (lv_at hl 4 rfl) ?_
        refine lv_iload hx hb dX4_fillHolds_78 (lv_at hl 6 rfl) ?_
        refine lv_iload hx hb dX4_fillHolds_80 (lv_at hl 3 rfl) ?_
        obtain ⟨r6, c7, hf⟩ := bd_of hf
        have hPc := hP.sub (ws' := (k_X4_joined T )) [] rfl
        have hDc := (mp_D_of (w1 := (k_X4_fillHolds T a_ a_holds a_lettersOf a_p1 a_p1_cellNames a_p1_secretNames a_p1_pageNames a_p1_speed a_p1_letters a_p1_room a_p1_now a_p1_rounds v_above v_below v_holds v_lettersOf v_p1_cells v_p1_secrets v_p1_pages v_p1_blind v_p1_rubs v_p1_room)) hD rfl).sub (ws' := (k_X4_joined T )) [] rfl rfl
        refine mp_calll (isC := []) (wc := (k_X4_joined T )) (w1 := (k_X4_joined T )) hP (mp_D_of hD rfl) hS hA rfl rfl (mp_runS (As := [.long z6, .int z10, .int z5]) (rest := [.long z8]) X me_X4_joined lk_X4_102 (c_X4_joined l D T fu z6 z10 z5 r6 c7) rfl rfl ⟨(Nat.le_of_ble_eq_true rfl), (Nat.le_of_ble_eq_true rfl)⟩ hK hPc hDc rfl hl.1 rfl (Nat.le_of_ble_eq_true rfl) dX4_fillHolds_82 ⟨Nat.zero_le _, Nat.zero_le _⟩) (fun H locs hP _ hS => ?_)
        replace hP : va_P D mp_cl (k_X4_fillHolds T a_ a_holds a_lettersOf a_p1 a_p1_cellNames a_p1_secretNames a_p1_pageNames a_p1_speed a_p1_letters a_p1_room a_p1_now a_p1_rounds v_above v_below v_holds v_lettersOf v_p1_cells v_p1_secrets v_p1_pages v_p1_blind v_p1_rubs v_p1_room) H := hP
        refine lv_lor hx hb dX4_fillHolds_85 ?_
        refine lv_topl (fun y8 e8 => ?_)
        replace hf := lt_of e8 hf
        refine lv_lstore (lv' := [(8, .long y8), (0, .ref a_), (2, .int z2), (4, .int z4), (5, .int z5), (6, .long z6), (10, .int z10)]) hx hb dX4_fillHolds_86 hl (by decide) rfl (fun ls hl => ?_)
        obtain ⟨y9, e9⟩ : ∃ y : Int32, y = z10 + (nI 1) := ⟨_, rfl⟩
        replace hf := lt_of e9 hf
        refine lv_iinc (v := y9) (lv' := [(10, .int y9), (8, .long y8), (0, .ref a_), (2, .int z2), (4, .int z4), (5, .int z5), (6, .long z6)]) hx hb dX4_fillHolds_88 hl (k := 6) rfl (by rw [e9]; rfl) (by decide) rfl (fun ls hl => ?_)
        refine lv_goto (tgt := 55) hx hb dX4_fillHolds_91 (by decide) ?_
        exact ih z2 z4 z5 z6 y8 y9 v_holds hf _ _ _ hP (mp_D_of hD rfl) hS (lv_sub hl [2, 3, 4, 5, 6, 1, 0] rfl)

set_option maxHeartbeats 4000000 in
set_option maxRecDepth 100000 in
theorem w_X4_fillHolds_21 {p : Program} {l : Launch} {e : Env} {s : State} {m : MethodId} {args : Array Value} {below : List Frame} {meth : Method} {c : Code} {D : va_G} {T : Nat → ClassId} {A : Nat → Prop} (X : mp_X p s m meth c args RX4 "fillHolds" cX4_fillHolds 11 none) (hK : va_K D mp_cl (mp_ty T) s) (hA : ∀ q, s.heap.size ≤ q → A q) (fu : Nat) (a_ a_holds a_lettersOf a_p1 a_p1_cellNames a_p1_secretNames a_p1_pageNames a_p1_speed a_p1_letters a_p1_room a_p1_now a_p1_rounds : Nat) (v_above : Int64) (v_below : Int64) (v_p1_cells : Int32) (v_p1_pages : Int32) (v_p1_blind : Int32) (v_p1_rubs : Int32) (v_lettersOf : (Nat → Int32)) (v_p1_secrets : Int32) (v_p1_room : (Nat → Int32)) (o_holds : (Nat → Int64)) :
    ∀  (z2 : Int32) (z3 : Int32) (v_holds : (Nat → Int64)), f_X4_fillHolds_21 fu v_lettersOf v_p1_secrets v_p1_room  z2 z3 v_holds = some o_holds → ∀ (H : Heap) (locs : List Loc) (ls : Array Slot), va_P D mp_cl (k_X4_fillHolds T a_ a_holds a_lettersOf a_p1 a_p1_cellNames a_p1_secretNames a_p1_pageNames a_p1_speed a_p1_letters a_p1_room a_p1_now a_p1_rounds v_above v_below v_holds v_lettersOf v_p1_cells v_p1_secrets v_p1_pages v_p1_blind v_p1_rubs v_p1_room) H → va_D A (k_X4_fillHolds T a_ a_holds a_lettersOf a_p1 a_p1_cellNames a_p1_secretNames a_p1_pageNames a_p1_speed a_p1_letters a_p1_room a_p1_now a_p1_rounds v_above v_below v_holds v_lettersOf v_p1_cells v_p1_secrets v_p1_pages v_p1_blind v_p1_rubs v_p1_room) → va_S A s.heap H locs → lv_has ls 11 [(0, .ref a_), (1, .ref a_p1), (2, .int z2), (3, .int z3)] → W p l e ({ frames := 1, cells := 0, slots := 0, locals := 26 }) s m args below meth c H locs 0 0 (MQ below ((mp_Qv D (k_X4_fillHolds T a_ a_holds a_lettersOf a_p1 a_p1_cellNames a_p1_secretNames a_p1_pageNames a_p1_speed a_p1_letters a_p1_room a_p1_now a_p1_rounds v_above v_below o_holds v_lettersOf v_p1_cells v_p1_secrets v_p1_pages v_p1_blind v_p1_rubs v_p1_room)) A) args s 0 0 A) (F0 m 21 ls []) := by
  have hx := X.1
  have hb := X.2.1
  have hml := X.2.2.1
  have hown := X.2.2.2.2.1
  have hts := X.2.2.2.2.2.1
  intro z2 z3 v_holds hf H locs ls hP hD hS hl
  replace hf : gi_ z3 6 (lt_ (v_p1_room (z3).toNatClampNeg) (fun (y2 : Int32) => bd_ (f_X1_allSecrets v_p1_secrets) (fun (r3 : Int32) => gi_ (z2 &&& (((nI 1) <<< (z3 &&& (31 : Int32))) ^^^ (-1 : Int32))) 64 (lt_ (v_holds (z2 &&& (((nI 1) <<< (z3 &&& (31 : Int32))) ^^^ (-1 : Int32))).toNatClampNeg) (fun (y6 : Int64) => f_X4_fillHolds_55 fu v_lettersOf v_p1_secrets v_p1_room  fu z2 y2 r3 y6 (lN 0) (nI 0) v_holds))))) = some o_holds := hf
  refine lv_aload_n hx hb dX4_fillHolds_21 rfl (lv_at hl 1 rfl) ?_
  refine mp_get X fl_X4_99 hK hP 3 rfl rfl dX4_fillHolds_22 ?_
  refine lv_iload_n hx hb dX4_fillHolds_25 rfl (lv_at hl 3 rfl) ?_
  obtain ⟨h1, hf⟩ := gi_of hf
  refine va_iald hx hb hK hP 4 0 rfl rfl h1 dX4_fillHolds_26 ?_
  refine lv_topi (fun y2 e2 => ?_)
  replace hf := lt_of e2 hf
  refine lv_istore (lv' := [(4, .int y2), (0, .ref a_), (1, .ref a_p1), (2, .int z2), (3, .int z3)]) hx hb dX4_fillHolds_27 hl (by decide) rfl (fun ls hl => ?_)
  refine lv_aload_n hx hb dX4_fillHolds_29 rfl (lv_at hl 2 rfl) ?_
  obtain ⟨r3, c4, hf⟩ := bd_of hf
  have hPc := hP.sub (ws' := (k_X1_allSecrets T a_p1 a_p1_cellNames a_p1_secretNames a_p1_pageNames a_p1_speed a_p1_letters a_p1_room a_p1_now a_p1_rounds v_p1_cells v_p1_secrets v_p1_pages v_p1_blind v_p1_rubs)) [3] rfl
  have hDc := (mp_D_of (w1 := (k_X4_fillHolds T a_ a_holds a_lettersOf a_p1 a_p1_cellNames a_p1_secretNames a_p1_pageNames a_p1_speed a_p1_letters a_p1_room a_p1_now a_p1_rounds v_above v_below v_holds v_lettersOf v_p1_cells v_p1_secrets v_p1_pages v_p1_blind v_p1_rubs v_p1_room)) hD rfl).sub (ws' := (k_X1_allSecrets T a_p1 a_p1_cellNames a_p1_secretNames a_p1_pageNames a_p1_speed a_p1_letters a_p1_room a_p1_now a_p1_rounds v_p1_cells v_p1_secrets v_p1_pages v_p1_blind v_p1_rubs)) [3] rfl rfl
  refine mp_calli (isC := [3]) (wc := (k_X1_allSecrets T a_p1 a_p1_cellNames a_p1_secretNames a_p1_pageNames a_p1_speed a_p1_letters a_p1_room a_p1_now a_p1_rounds v_p1_cells v_p1_secrets v_p1_pages v_p1_blind v_p1_rubs)) (w1 := (k_X1_allSecrets T a_p1 a_p1_cellNames a_p1_secretNames a_p1_pageNames a_p1_speed a_p1_letters a_p1_room a_p1_now a_p1_rounds v_p1_cells v_p1_secrets v_p1_pages v_p1_blind v_p1_rubs)) hP (mp_D_of hD rfl) hS hA rfl rfl (mp_runV (As := []) (rest := []) X me_X1_allSecrets lk_X4_79 (c_X1_allSecrets l D T a_p1 a_p1_cellNames a_p1_secretNames a_p1_pageNames a_p1_speed a_p1_letters a_p1_room a_p1_now a_p1_rounds v_p1_cells v_p1_pages v_p1_blind v_p1_rubs v_p1_secrets r3 c4) rfl rfl ⟨(Nat.le_of_ble_eq_true rfl), (Nat.le_of_ble_eq_true rfl)⟩ hK hPc hDc rfl rfl rfl rfl hl.1 rfl (Nat.le_of_ble_eq_true rfl) dX4_fillHolds_30 ⟨Nat.zero_le _, Nat.zero_le _⟩) (fun H locs hP _ hS => ?_)
  replace hP : va_P D mp_cl (k_X4_fillHolds T a_ a_holds a_lettersOf a_p1 a_p1_cellNames a_p1_secretNames a_p1_pageNames a_p1_speed a_p1_letters a_p1_room a_p1_now a_p1_rounds v_above v_below v_holds v_lettersOf v_p1_cells v_p1_secrets v_p1_pages v_p1_blind v_p1_rubs v_p1_room) H := hP
  refine lv_istore (lv' := [(5, .int r3), (4, .int y2), (0, .ref a_), (1, .ref a_p1), (2, .int z2), (3, .int z3)]) hx hb dX4_fillHolds_33 hl (by decide) rfl (fun ls hl => ?_)
  refine lv_aload_n hx hb dX4_fillHolds_35 rfl (lv_at hl 2 rfl) ?_
  refine mp_get X fl_X4_18 hK hP 0 rfl rfl dX4_fillHolds_36 ?_
  refine lv_iload_n hx hb dX4_fillHolds_39 rfl (lv_at hl 4 rfl) ?_
  refine lv_iconst (v := (nI 1)) hx hb dX4_fillHolds_40 (by decide) ?_
  refine lv_iload_n hx hb dX4_fillHolds_41 rfl (lv_at hl 5 rfl) ?_
  refine lv_ishl hx hb dX4_fillHolds_42 ?_
  refine lv_iconst (v := (-1 : Int32)) hx hb dX4_fillHolds_43 (by decide) ?_
  refine lv_ixor hx hb dX4_fillHolds_44 ?_
  refine lv_iand hx hb dX4_fillHolds_45 ?_
  obtain ⟨h5, hf⟩ := gi_of hf
  refine va_lald hx hb hK hP 1 1 rfl rfl h5 dX4_fillHolds_46 ?_
  refine lv_topl (fun y6 e6 => ?_)
  replace hf := lt_of e6 hf
  refine lv_lstore (lv' := [(6, .long y6), (5, .int r3), (4, .int y2), (0, .ref a_), (1, .ref a_p1), (2, .int z2), (3, .int z3)]) hx hb dX4_fillHolds_47 hl (by decide) rfl (fun ls hl => ?_)
  refine lv_lconst (v := (lN 0)) hx hb dX4_fillHolds_49 (by decide) ?_
  refine lv_lstore (lv' := [(8, .long (lN 0)), (6, .long y6), (5, .int r3), (4, .int y2), (0, .ref a_), (1, .ref a_p1), (2, .int z2), (3, .int z3)]) hx hb dX4_fillHolds_50 hl (by decide) rfl (fun ls hl => ?_)
  refine lv_iconst (v := (nI 0)) hx hb dX4_fillHolds_52 (by decide) ?_
  refine lv_istore (lv' := [(10, .int (nI 0)), (8, .long (lN 0)), (6, .long y6), (5, .int r3), (4, .int y2), (0, .ref a_), (1, .ref a_p1), (2, .int z2), (3, .int z3)]) hx hb dX4_fillHolds_53 hl (by decide) rfl (fun ls hl => ?_)
  exact w_X4_fillHolds_55 X hK hA  fu a_ a_holds a_lettersOf a_p1 a_p1_cellNames a_p1_secretNames a_p1_pageNames a_p1_speed a_p1_letters a_p1_room a_p1_now a_p1_rounds v_above v_below v_p1_cells v_p1_pages v_p1_blind v_p1_rubs v_lettersOf v_p1_secrets v_p1_room o_holds   fu z2 y2 r3 y6 (lN 0) (nI 0) v_holds hf _ _ _ hP (mp_D_of hD rfl) hS (lv_sub hl [5, 7, 4, 3, 2, 1, 0] rfl)

set_option maxHeartbeats 4000000 in
set_option maxRecDepth 100000 in
theorem w_X4_fillHolds_2 {p : Program} {l : Launch} {e : Env} {s : State} {m : MethodId} {args : Array Value} {below : List Frame} {meth : Method} {c : Code} {D : va_G} {T : Nat → ClassId} {A : Nat → Prop} (X : mp_X p s m meth c args RX4 "fillHolds" cX4_fillHolds 11 none) (hK : va_K D mp_cl (mp_ty T) s) (hA : ∀ q, s.heap.size ≤ q → A q) (fu : Nat) (a_ a_holds a_lettersOf a_p1 a_p1_cellNames a_p1_secretNames a_p1_pageNames a_p1_speed a_p1_letters a_p1_room a_p1_now a_p1_rounds : Nat) (v_above : Int64) (v_below : Int64) (v_p1_cells : Int32) (v_p1_pages : Int32) (v_p1_blind : Int32) (v_p1_rubs : Int32) (v_lettersOf : (Nat → Int32)) (v_p1_secrets : Int32) (v_p1_room : (Nat → Int32)) (o_holds : (Nat → Int64)) :
    ∀ (n : Nat) (z2 : Int32) (z3 : Int32) (v_holds : (Nat → Int64)), f_X4_fillHolds_2 fu v_lettersOf v_p1_secrets v_p1_room  n z2 z3 v_holds = some o_holds → ∀ (H : Heap) (locs : List Loc) (ls : Array Slot), va_P D mp_cl (k_X4_fillHolds T a_ a_holds a_lettersOf a_p1 a_p1_cellNames a_p1_secretNames a_p1_pageNames a_p1_speed a_p1_letters a_p1_room a_p1_now a_p1_rounds v_above v_below v_holds v_lettersOf v_p1_cells v_p1_secrets v_p1_pages v_p1_blind v_p1_rubs v_p1_room) H → va_D A (k_X4_fillHolds T a_ a_holds a_lettersOf a_p1 a_p1_cellNames a_p1_secretNames a_p1_pageNames a_p1_speed a_p1_letters a_p1_room a_p1_now a_p1_rounds v_above v_below v_holds v_lettersOf v_p1_cells v_p1_secrets v_p1_pages v_p1_blind v_p1_rubs v_p1_room) → va_S A s.heap H locs → lv_has ls 11 [(0, .ref a_), (1, .ref a_p1), (2, .int z2), (3, .int z3)] → W p l e ({ frames := 1, cells := 0, slots := 0, locals := 26 }) s m args below meth c H locs 0 0 (MQ below ((mp_Qv D (k_X4_fillHolds T a_ a_holds a_lettersOf a_p1 a_p1_cellNames a_p1_secretNames a_p1_pageNames a_p1_speed a_p1_letters a_p1_room a_p1_now a_p1_rounds v_above v_below o_holds v_lettersOf v_p1_cells v_p1_secrets v_p1_pages v_p1_blind v_p1_rubs v_p1_room)) A) args s 0 0 A) (F0 m 2 ls []) := by
  have hx := X.1
  have hb := X.2.1
  have hml := X.2.2.1
  have hown := X.2.2.2.2.1
  have hts := X.2.2.2.2.2.1
  intro n
  induction n with
  | zero => intro z2 z3 v_holds hf; exact absurd hf (by intro h; cases h)
  | succ n ih =>
    intro z2 z3 v_holds hf H locs ls hP hD hS hl
    replace hf : (if (nI 5) ≤ z3 then f_X4_fillHolds_21 fu v_lettersOf v_p1_secrets v_p1_room  z2 z3 v_holds else bd_ (f_X7_has z2 z3) (fun (r2 : Int32) => (if r2 = 0 then lt_ (z3 + (nI 1)) (fun (y5 : Int32) => f_X4_fillHolds_2 fu v_lettersOf v_p1_secrets v_p1_room  n z2 y5 v_holds) else f_X4_fillHolds_21 fu v_lettersOf v_p1_secrets v_p1_room  z2 z3 v_holds))) = some o_holds := hf
    refine lv_iload_n hx hb dX4_fillHolds_2 rfl (lv_at hl 3 rfl) ?_
    refine lv_iconst (v := (nI 5)) hx hb dX4_fillHolds_3 (by decide) ?_
    refine lv_icmp_ge (tgt := 21) hx hb dX4_fillHolds_4 (by decide) (fun h1 => ?_) (fun h1 => ?_)
    · replace hf := if_t hf h1
      exact w_X4_fillHolds_21 X hK hA  fu a_ a_holds a_lettersOf a_p1 a_p1_cellNames a_p1_secretNames a_p1_pageNames a_p1_speed a_p1_letters a_p1_room a_p1_now a_p1_rounds v_above v_below v_p1_cells v_p1_pages v_p1_blind v_p1_rubs v_lettersOf v_p1_secrets v_p1_room o_holds   z2 z3 v_holds hf _ _ _ hP (mp_D_of hD rfl) hS (lv_sub hl [0, 1, 2, 3] rfl)
    · replace hf := if_f hf h1
      refine lv_iload_n hx hb dX4_fillHolds_7 rfl (lv_at hl 2 rfl) ?_
      refine lv_iload_n hx hb dX4_fillHolds_8 rfl (lv_at hl 3 rfl) ?_
      obtain ⟨r2, c3, hf⟩ := bd_of hf
      have hPc := hP.sub (ws' := (k_X7_has T )) [] rfl
      have hDc := (mp_D_of (w1 := (k_X4_fillHolds T a_ a_holds a_lettersOf a_p1 a_p1_cellNames a_p1_secretNames a_p1_pageNames a_p1_speed a_p1_letters a_p1_room a_p1_now a_p1_rounds v_above v_below v_holds v_lettersOf v_p1_cells v_p1_secrets v_p1_pages v_p1_blind v_p1_rubs v_p1_room)) hD rfl).sub (ws' := (k_X7_has T )) [] rfl rfl
      refine mp_calli (isC := []) (wc := (k_X7_has T )) (w1 := (k_X7_has T )) hP (mp_D_of hD rfl) hS hA rfl rfl (mp_runS (As := [.int z2, .int z3]) (rest := []) X me_X7_has lk_X4_45 (c_X7_has l D T z2 z3 r2 c3) rfl rfl ⟨(Nat.le_of_ble_eq_true rfl), (Nat.le_of_ble_eq_true rfl)⟩ hK hPc hDc rfl hl.1 rfl (Nat.le_of_ble_eq_true rfl) dX4_fillHolds_9 ⟨Nat.zero_le _, Nat.zero_le _⟩) (fun H locs hP _ hS => ?_)
      replace hP : va_P D mp_cl (k_X4_fillHolds T a_ a_holds a_lettersOf a_p1 a_p1_cellNames a_p1_secretNames a_p1_pageNames a_p1_speed a_p1_letters a_p1_room a_p1_now a_p1_rounds v_above v_below v_holds v_lettersOf v_p1_cells v_p1_secrets v_p1_pages v_p1_blind v_p1_rubs v_p1_room) H := hP
      refine lv_if_ne (tgt := 21) hx hb dX4_fillHolds_12 (by decide) (fun h4 => ?_) (fun h4 => ?_)
      · replace hf := if_f hf h4
        exact w_X4_fillHolds_21 X hK hA  fu a_ a_holds a_lettersOf a_p1 a_p1_cellNames a_p1_secretNames a_p1_pageNames a_p1_speed a_p1_letters a_p1_room a_p1_now a_p1_rounds v_above v_below v_p1_cells v_p1_pages v_p1_blind v_p1_rubs v_lettersOf v_p1_secrets v_p1_room o_holds   z2 z3 v_holds hf _ _ _ hP (mp_D_of hD rfl) hS (lv_sub hl [0, 1, 2, 3] rfl)
      · replace hf := if_t hf h4
        obtain ⟨y5, e5⟩ : ∃ y : Int32, y = z3 + (nI 1) := ⟨_, rfl⟩
        replace hf := lt_of e5 hf
        refine lv_iinc (v := y5) (lv' := [(3, .int y5), (0, .ref a_), (1, .ref a_p1), (2, .int z2)]) hx hb dX4_fillHolds_15 hl (k := 3) rfl (by rw [e5]; rfl) (by decide) rfl (fun ls hl => ?_)
        refine lv_goto (tgt := 2) hx hb dX4_fillHolds_18 (by decide) ?_
        exact ih z2 y5 v_holds hf _ _ _ hP (mp_D_of hD rfl) hS (lv_sub hl [1, 2, 3, 0] rfl)

set_option maxHeartbeats 4000000 in
set_option maxRecDepth 100000 in
theorem c_X4_fillHolds (l : Launch) (D : va_G) (T : Nat → ClassId) (fu : Nat) (a_ a_holds a_lettersOf a_p1 a_p1_cellNames a_p1_secretNames a_p1_pageNames a_p1_speed a_p1_letters a_p1_room a_p1_now a_p1_rounds : Nat) (x2 : Int32) (v_above : Int64) (v_below : Int64) (v_p1_cells : Int32) (v_p1_pages : Int32) (v_p1_blind : Int32) (v_p1_rubs : Int32) (v_holds : (Nat → Int64)) (v_lettersOf : (Nat → Int32)) (v_p1_secrets : Int32) (v_p1_room : (Nat → Int32)) (o_holds : (Nat → Int64)) (hf : f_X4_fillHolds fu x2 v_holds v_lettersOf v_p1_secrets v_p1_room = some o_holds) :
    mp_M l D T yX4_fillHolds cX4_fillHolds 11 none ({ frames := 1, cells := 0, slots := 0, locals := 26 }) 0 0 [.ref a_, .ref a_p1, .int x2] (k_X4_fillHolds T a_ a_holds a_lettersOf a_p1 a_p1_cellNames a_p1_secretNames a_p1_pageNames a_p1_speed a_p1_letters a_p1_room a_p1_now a_p1_rounds v_above v_below v_holds v_lettersOf v_p1_cells v_p1_secrets v_p1_pages v_p1_blind v_p1_rubs v_p1_room) (mp_Qv D (k_X4_fillHolds T a_ a_holds a_lettersOf a_p1 a_p1_cellNames a_p1_secretNames a_p1_pageNames a_p1_speed a_p1_letters a_p1_room a_p1_now a_p1_rounds v_above v_below o_holds v_lettersOf v_p1_cells v_p1_secrets v_p1_pages v_p1_blind v_p1_rubs v_p1_room)) := by
  refine mp_of (by decide) (Nat.le_of_ble_eq_true rfl) rfl ?_
  intro p e s m args below meth c A ls X hK hP hD hS hA hl
  replace X : mp_X p s m meth c args RX4 "fillHolds" cX4_fillHolds 11 none := X
  have hx := X.1
  have hb := X.2.1
  have hml := X.2.2.1
  have hown := X.2.2.2.2.1
  have hts := X.2.2.2.2.2.1
  replace hl : lv_has ls 11 [(0, .ref a_), (1, .ref a_p1), (2, .int x2)] := hl
  replace hf : f_X4_fillHolds_2 fu v_lettersOf v_p1_secrets v_p1_room  fu x2 (nI 0) v_holds = some o_holds := hf
  refine lv_iconst (v := (nI 0)) hx hb dX4_fillHolds_0 (by decide) ?_
  refine lv_istore_n (lv' := [(3, .int (nI 0)), (0, .ref a_), (1, .ref a_p1), (2, .int x2)]) hx hb dX4_fillHolds_1 rfl hl (by decide) rfl (fun ls hl => ?_)
  exact w_X4_fillHolds_2 X hK hA  fu a_ a_holds a_lettersOf a_p1 a_p1_cellNames a_p1_secretNames a_p1_pageNames a_p1_speed a_p1_letters a_p1_room a_p1_now a_p1_rounds v_above v_below v_p1_cells v_p1_pages v_p1_blind v_p1_rubs v_lettersOf v_p1_secrets v_p1_room o_holds   fu x2 (nI 0) v_holds hf _ _ _ hP (mp_D_of hD rfl) hS (lv_sub hl [1, 2, 3, 0] rfl)


def k_X4_fewestPages (T : Nat → ClassId) (a_ a_holds a_lettersOf a_p1 a_p1_cellNames a_p1_secretNames a_p1_pageNames a_p1_speed a_p1_letters a_p1_room a_p1_now a_p1_rounds : Nat) (v_above : Int64) (v_below : Int64) (v_holds : (Nat → Int64)) (v_lettersOf : (Nat → Int32)) (v_p1_cells : Int32) (v_p1_secrets : Int32) (v_p1_pages : Int32) (v_p1_blind : Int32) (v_p1_rubs : Int32) (v_p1_letters : (Nat → Int32)) (v_p1_room : (Nat → Int32)) : va_W := [(a_, oX4 v_above v_below a_holds a_lettersOf), (a_holds, mp_aJ T 64 v_holds), (a_lettersOf, mp_aI T 64 v_lettersOf), (a_p1, oX1 v_p1_cells v_p1_secrets v_p1_pages a_p1_cellNames a_p1_secretNames a_p1_pageNames a_p1_speed v_p1_blind v_p1_rubs a_p1_letters a_p1_room a_p1_now a_p1_rounds), (a_p1_letters, mp_aI T 6 v_p1_letters), (a_p1_room, mp_aI T 6 v_p1_room)]
set_option maxHeartbeats 4000000 in
set_option maxRecDepth 100000 in
theorem w_X4_fewestPages_49 {p : Program} {l : Launch} {e : Env} {s : State} {m : MethodId} {args : Array Value} {below : List Frame} {meth : Method} {c : Code} {D : va_G} {T : Nat → ClassId} {A : Nat → Prop} (X : mp_X p s m meth c args RX4 "fewestPages" cX4_fewestPages 6 (some .int)) (hK : va_K D mp_cl (mp_ty T) s) (hA : ∀ q, s.heap.size ≤ q → A q) (fu : Nat) (a_ a_holds a_lettersOf a_p1 a_p1_cellNames a_p1_secretNames a_p1_pageNames a_p1_speed a_p1_letters a_p1_room a_p1_now a_p1_rounds : Nat) (v_above : Int64) (v_below : Int64) (v_p1_cells : Int32) (v_p1_blind : Int32) (v_p1_rubs : Int32) (v_p1_secrets : Int32) (v_p1_pages : Int32) (v_p1_letters : (Nat → Int32)) (v_p1_room : (Nat → Int32)) (r_ : Int32) (o_holds : (Nat → Int64)) (o_lettersOf : (Nat → Int32)) (K26 : Int32 → Int32 → Int32 → Int32 → (Nat → Int64) → (Nat → Int32) → Option (Int32 × (Nat → Int64) × (Nat → Int32))) (hK26 : ∀ (z2 : Int32) (z3 : Int32) (z4 : Int32) (z5 : Int32) (v_holds : (Nat → Int64)) (v_lettersOf : (Nat → Int32)), K26 z2 z3 z4 z5 v_holds v_lettersOf = some (r_, o_holds, o_lettersOf) → ∀ (H : Heap) (locs : List Loc) (ls : Array Slot), va_P D mp_cl (k_X4_fewestPages T a_ a_holds a_lettersOf a_p1 a_p1_cellNames a_p1_secretNames a_p1_pageNames a_p1_speed a_p1_letters a_p1_room a_p1_now a_p1_rounds v_above v_below v_holds v_lettersOf v_p1_cells v_p1_secrets v_p1_pages v_p1_blind v_p1_rubs v_p1_letters v_p1_room) H → va_D A (k_X4_fewestPages T a_ a_holds a_lettersOf a_p1 a_p1_cellNames a_p1_secretNames a_p1_pageNames a_p1_speed a_p1_letters a_p1_room a_p1_now a_p1_rounds v_above v_below v_holds v_lettersOf v_p1_cells v_p1_secrets v_p1_pages v_p1_blind v_p1_rubs v_p1_letters v_p1_room) → va_S A s.heap H locs → lv_has ls 6 [(0, .ref a_), (1, .ref a_p1), (2, .int z2), (3, .int z3), (4, .int z4), (5, .int z5)] → W p l e ({ frames := 2, cells := 0, slots := 0, locals := 56 }) s m args below meth c H locs 0 0 (MQ below ((mp_Qi D r_ (k_X4_fewestPages T a_ a_holds a_lettersOf a_p1 a_p1_cellNames a_p1_secretNames a_p1_pageNames a_p1_speed a_p1_letters a_p1_room a_p1_now a_p1_rounds v_above v_below o_holds o_lettersOf v_p1_cells v_p1_secrets v_p1_pages v_p1_blind v_p1_rubs v_p1_letters v_p1_room)) A) args s 0 0 A) (F0 m 26 ls [])) :
    ∀  (z2 : Int32) (z3 : Int32) (z4 : Int32) (z5 : Int32) (v_holds : (Nat → Int64)) (v_lettersOf : (Nat → Int32)), f_X4_fewestPages_49 fu v_p1_secrets v_p1_pages v_p1_letters v_p1_room K26 z2 z3 z4 z5 v_holds v_lettersOf = some (r_, o_holds, o_lettersOf) → ∀ (H : Heap) (locs : List Loc) (ls : Array Slot), va_P D mp_cl (k_X4_fewestPages T a_ a_holds a_lettersOf a_p1 a_p1_cellNames a_p1_secretNames a_p1_pageNames a_p1_speed a_p1_letters a_p1_room a_p1_now a_p1_rounds v_above v_below v_holds v_lettersOf v_p1_cells v_p1_secrets v_p1_pages v_p1_blind v_p1_rubs v_p1_letters v_p1_room) H → va_D A (k_X4_fewestPages T a_ a_holds a_lettersOf a_p1 a_p1_cellNames a_p1_secretNames a_p1_pageNames a_p1_speed a_p1_letters a_p1_room a_p1_now a_p1_rounds v_above v_below v_holds v_lettersOf v_p1_cells v_p1_secrets v_p1_pages v_p1_blind v_p1_rubs v_p1_letters v_p1_room) → va_S A s.heap H locs → lv_has ls 6 [(0, .ref a_), (1, .ref a_p1), (2, .int z2), (3, .int z3), (4, .int z4), (5, .int z5)] → W p l e ({ frames := 2, cells := 0, slots := 0, locals := 56 }) s m args below meth c H locs 0 0 (MQ below ((mp_Qi D r_ (k_X4_fewestPages T a_ a_holds a_lettersOf a_p1 a_p1_cellNames a_p1_secretNames a_p1_pageNames a_p1_speed a_p1_letters a_p1_room a_p1_now a_p1_rounds v_above v_below o_holds o_lettersOf v_p1_cells v_p1_secrets v_p1_pages v_p1_blind v_p1_rubs v_p1_letters v_p1_room)) A) args s 0 0 A) (F0 m 49 ls []) := by
  have hx := X.1
  have hb := X.2.1
  have hml := X.2.2.1
  have hown := X.2.2.2.2.1
  have hts := X.2.2.2.2.2.1
  intro z2 z3 z4 z5 v_holds v_lettersOf hf H locs ls hP hD hS hl
  replace hf : gi_ z5 64 ((if (lg_cmp (((((v_holds (z5).toNatClampNeg)).toUInt64 >>> ((z2).toInt64.toUInt64 &&& Int64.toUInt64 63)).toInt64) &&& (lN 1)) (lN 0)) = 0 then lt_ (z5 + (nI 1)) (fun (y3 : Int32) => K26 z2 z3 z4 y3 v_holds v_lettersOf) else bd_ (f_J6_bitCount_0f7a4 z5) (fun (r4 : Int32) => (if z4 ≤ r4 then lt_ (z5 + (nI 1)) (fun (y7 : Int32) => K26 z2 z3 z4 y7 v_holds v_lettersOf) else bd_ (f_J6_bitCount_0f7a4 z5) (fun (r8 : Int32) => lt_ (z5 + (nI 1)) (fun (y10 : Int32) => K26 z2 z5 r8 y10 v_holds v_lettersOf)))))) = some (r_, o_holds, o_lettersOf) := hf
  refine lv_aload_n hx hb dX4_fewestPages_49 rfl (lv_at hl 0 rfl) ?_
  refine mp_get X fl_X4_18 hK hP 0 rfl rfl dX4_fewestPages_50 ?_
  refine lv_iload hx hb dX4_fewestPages_53 (lv_at hl 5 rfl) ?_
  obtain ⟨h1, hf⟩ := gi_of hf
  refine va_lald hx hb hK hP 1 1 rfl rfl h1 dX4_fewestPages_55 ?_
  refine lv_iload_n hx hb dX4_fewestPages_56 rfl (lv_at hl 2 rfl) ?_
  refine lv_lushr hx hb dX4_fewestPages_57 rfl ?_
  refine lv_lconst (v := (lN 1)) hx hb dX4_fewestPages_58 (by decide) ?_
  refine lv_land hx hb dX4_fewestPages_59 ?_
  refine lv_lconst (v := (lN 0)) hx hb dX4_fewestPages_60 (by decide) ?_
  refine W.lcmp hx hb dX4_fewestPages_61 ?_
  refine lv_if_eq (tgt := 85) hx hb dX4_fewestPages_62 (by decide) (fun h2 => ?_) (fun h2 => ?_)
  · replace hf := if_t hf h2
    obtain ⟨y3, e3⟩ : ∃ y : Int32, y = z5 + (nI 1) := ⟨_, rfl⟩
    replace hf := lt_of e3 hf
    refine lv_iinc (v := y3) (lv' := [(5, .int y3), (0, .ref a_), (1, .ref a_p1), (2, .int z2), (3, .int z3), (4, .int z4)]) hx hb dX4_fewestPages_85 hl (k := 5) rfl (by rw [e3]; rfl) (by decide) rfl (fun ls hl => ?_)
    refine lv_goto (tgt := 26) hx hb dX4_fewestPages_88 (by decide) ?_
    exact hK26 z2 z3 z4 y3 v_holds v_lettersOf hf _ _ _ hP (mp_D_of hD rfl) hS (lv_sub hl [1, 2, 3, 4, 5, 0] rfl)
  · replace hf := if_f hf h2
    refine lv_iload hx hb dX4_fewestPages_65 (lv_at hl 5 rfl) ?_
    obtain ⟨r4, c5, hf⟩ := bd_of hf
    have hPc := hP.sub (ws' := (k_J6_bitCount_0f7a4 T )) [] rfl
    have hDc := (mp_D_of (w1 := (k_X4_fewestPages T a_ a_holds a_lettersOf a_p1 a_p1_cellNames a_p1_secretNames a_p1_pageNames a_p1_speed a_p1_letters a_p1_room a_p1_now a_p1_rounds v_above v_below v_holds v_lettersOf v_p1_cells v_p1_secrets v_p1_pages v_p1_blind v_p1_rubs v_p1_letters v_p1_room)) hD rfl).sub (ws' := (k_J6_bitCount_0f7a4 T )) [] rfl rfl
    refine mp_calli (isC := []) (wc := (k_J6_bitCount_0f7a4 T )) (w1 := (k_J6_bitCount_0f7a4 T )) hP (mp_D_of hD rfl) hS hA rfl rfl (mp_runS (As := [.int z5]) (rest := []) X me_J6_bitCount_0f7a4 lk_X4_87 (c_J6_bitCount_0f7a4 l D T z5 r4 c5) rfl rfl ⟨(Nat.le_of_ble_eq_true rfl), (Nat.le_of_ble_eq_true rfl)⟩ hK hPc hDc rfl hl.1 rfl (Nat.le_of_ble_eq_true rfl) dX4_fewestPages_67 ⟨Nat.zero_le _, Nat.zero_le _⟩) (fun H locs hP _ hS => ?_)
    replace hP : va_P D mp_cl (k_X4_fewestPages T a_ a_holds a_lettersOf a_p1 a_p1_cellNames a_p1_secretNames a_p1_pageNames a_p1_speed a_p1_letters a_p1_room a_p1_now a_p1_rounds v_above v_below v_holds v_lettersOf v_p1_cells v_p1_secrets v_p1_pages v_p1_blind v_p1_rubs v_p1_letters v_p1_room) H := hP
    refine lv_iload hx hb dX4_fewestPages_70 (lv_at hl 4 rfl) ?_
    refine lv_icmp_ge (tgt := 85) hx hb dX4_fewestPages_72 (by decide) (fun h6 => ?_) (fun h6 => ?_)
    · replace hf := if_t hf h6
      obtain ⟨y7, e7⟩ : ∃ y : Int32, y = z5 + (nI 1) := ⟨_, rfl⟩
      replace hf := lt_of e7 hf
      refine lv_iinc (v := y7) (lv' := [(5, .int y7), (0, .ref a_), (1, .ref a_p1), (2, .int z2), (3, .int z3), (4, .int z4)]) hx hb dX4_fewestPages_85 hl (k := 5) rfl (by rw [e7]; rfl) (by decide) rfl (fun ls hl => ?_)
      refine lv_goto (tgt := 26) hx hb dX4_fewestPages_88 (by decide) ?_
      exact hK26 z2 z3 z4 y7 v_holds v_lettersOf hf _ _ _ hP (mp_D_of hD rfl) hS (lv_sub hl [1, 2, 3, 4, 5, 0] rfl)
    · replace hf := if_f hf h6
      refine lv_iload hx hb dX4_fewestPages_75 (lv_at hl 5 rfl) ?_
      obtain ⟨r8, c9, hf⟩ := bd_of hf
      have hPc := hP.sub (ws' := (k_J6_bitCount_0f7a4 T )) [] rfl
      have hDc := (mp_D_of (w1 := (k_X4_fewestPages T a_ a_holds a_lettersOf a_p1 a_p1_cellNames a_p1_secretNames a_p1_pageNames a_p1_speed a_p1_letters a_p1_room a_p1_now a_p1_rounds v_above v_below v_holds v_lettersOf v_p1_cells v_p1_secrets v_p1_pages v_p1_blind v_p1_rubs v_p1_letters v_p1_room)) hD rfl).sub (ws' := (k_J6_bitCount_0f7a4 T )) [] rfl rfl
      refine mp_calli (isC := []) (wc := (k_J6_bitCount_0f7a4 T )) (w1 := (k_J6_bitCount_0f7a4 T )) hP (mp_D_of hD rfl) hS hA rfl rfl (mp_runS (As := [.int z5]) (rest := []) X me_J6_bitCount_0f7a4 lk_X4_87 (c_J6_bitCount_0f7a4 l D T z5 r8 c9) rfl rfl ⟨(Nat.le_of_ble_eq_true rfl), (Nat.le_of_ble_eq_true rfl)⟩ hK hPc hDc rfl hl.1 rfl (Nat.le_of_ble_eq_true rfl) dX4_fewestPages_77 ⟨Nat.zero_le _, Nat.zero_le _⟩) (fun H locs hP _ hS => ?_)
      replace hP : va_P D mp_cl (k_X4_fewestPages T a_ a_holds a_lettersOf a_p1 a_p1_cellNames a_p1_secretNames a_p1_pageNames a_p1_speed a_p1_letters a_p1_room a_p1_now a_p1_rounds v_above v_below v_holds v_lettersOf v_p1_cells v_p1_secrets v_p1_pages v_p1_blind v_p1_rubs v_p1_letters v_p1_room) H := hP
      refine lv_istore (lv' := [(4, .int r8), (0, .ref a_), (1, .ref a_p1), (2, .int z2), (3, .int z3), (5, .int z5)]) hx hb dX4_fewestPages_80 hl (by decide) rfl (fun ls hl => ?_)
      refine lv_iload hx hb dX4_fewestPages_82 (lv_at hl 5 rfl) ?_
      refine lv_istore_n (lv' := [(3, .int z5), (4, .int r8), (0, .ref a_), (1, .ref a_p1), (2, .int z2), (5, .int z5)]) hx hb dX4_fewestPages_84 rfl hl (by decide) rfl (fun ls hl => ?_)
      obtain ⟨y10, e10⟩ : ∃ y : Int32, y = z5 + (nI 1) := ⟨_, rfl⟩
      replace hf := lt_of e10 hf
      refine lv_iinc (v := y10) (lv' := [(5, .int y10), (3, .int z5), (4, .int r8), (0, .ref a_), (1, .ref a_p1), (2, .int z2)]) hx hb dX4_fewestPages_85 hl (k := 5) rfl (by rw [e10]; rfl) (by decide) rfl (fun ls hl => ?_)
      refine lv_goto (tgt := 26) hx hb dX4_fewestPages_88 (by decide) ?_
      exact hK26 z2 z5 r8 y10 v_holds v_lettersOf hf _ _ _ hP (mp_D_of hD rfl) hS (lv_sub hl [3, 4, 5, 1, 2, 0] rfl)

set_option maxHeartbeats 4000000 in
set_option maxRecDepth 100000 in
theorem w_X4_fewestPages_26 {p : Program} {l : Launch} {e : Env} {s : State} {m : MethodId} {args : Array Value} {below : List Frame} {meth : Method} {c : Code} {D : va_G} {T : Nat → ClassId} {A : Nat → Prop} (X : mp_X p s m meth c args RX4 "fewestPages" cX4_fewestPages 6 (some .int)) (hK : va_K D mp_cl (mp_ty T) s) (hA : ∀ q, s.heap.size ≤ q → A q) (fu : Nat) (a_ a_holds a_lettersOf a_p1 a_p1_cellNames a_p1_secretNames a_p1_pageNames a_p1_speed a_p1_letters a_p1_room a_p1_now a_p1_rounds : Nat) (v_above : Int64) (v_below : Int64) (v_p1_cells : Int32) (v_p1_blind : Int32) (v_p1_rubs : Int32) (v_p1_secrets : Int32) (v_p1_pages : Int32) (v_p1_letters : (Nat → Int32)) (v_p1_room : (Nat → Int32)) (r_ : Int32) (o_holds : (Nat → Int64)) (o_lettersOf : (Nat → Int32)) :
    ∀ (n : Nat) (z2 : Int32) (z3 : Int32) (z4 : Int32) (z5 : Int32) (v_holds : (Nat → Int64)) (v_lettersOf : (Nat → Int32)), f_X4_fewestPages_26 fu v_p1_secrets v_p1_pages v_p1_letters v_p1_room  n z2 z3 z4 z5 v_holds v_lettersOf = some (r_, o_holds, o_lettersOf) → ∀ (H : Heap) (locs : List Loc) (ls : Array Slot), va_P D mp_cl (k_X4_fewestPages T a_ a_holds a_lettersOf a_p1 a_p1_cellNames a_p1_secretNames a_p1_pageNames a_p1_speed a_p1_letters a_p1_room a_p1_now a_p1_rounds v_above v_below v_holds v_lettersOf v_p1_cells v_p1_secrets v_p1_pages v_p1_blind v_p1_rubs v_p1_letters v_p1_room) H → va_D A (k_X4_fewestPages T a_ a_holds a_lettersOf a_p1 a_p1_cellNames a_p1_secretNames a_p1_pageNames a_p1_speed a_p1_letters a_p1_room a_p1_now a_p1_rounds v_above v_below v_holds v_lettersOf v_p1_cells v_p1_secrets v_p1_pages v_p1_blind v_p1_rubs v_p1_letters v_p1_room) → va_S A s.heap H locs → lv_has ls 6 [(0, .ref a_), (1, .ref a_p1), (2, .int z2), (3, .int z3), (4, .int z4), (5, .int z5)] → W p l e ({ frames := 2, cells := 0, slots := 0, locals := 56 }) s m args below meth c H locs 0 0 (MQ below ((mp_Qi D r_ (k_X4_fewestPages T a_ a_holds a_lettersOf a_p1 a_p1_cellNames a_p1_secretNames a_p1_pageNames a_p1_speed a_p1_letters a_p1_room a_p1_now a_p1_rounds v_above v_below o_holds o_lettersOf v_p1_cells v_p1_secrets v_p1_pages v_p1_blind v_p1_rubs v_p1_letters v_p1_room)) A) args s 0 0 A) (F0 m 26 ls []) := by
  have hx := X.1
  have hb := X.2.1
  have hml := X.2.2.1
  have hown := X.2.2.2.2.1
  have hts := X.2.2.2.2.2.1
  intro n
  induction n with
  | zero => intro z2 z3 z4 z5 v_holds v_lettersOf hf; exact absurd hf (by intro h; cases h)
  | succ n ih =>
    intro z2 z3 z4 z5 v_holds v_lettersOf hf H locs ls hP hD hS hl
    replace hf : (if ((nI 1) <<< (v_p1_pages &&& (31 : Int32))) ≤ z5 then some (z3, v_holds, v_lettersOf) else (if z5 ≤ 0 then f_X4_fewestPages_49 fu v_p1_secrets v_p1_pages v_p1_letters v_p1_room (f_X4_fewestPages_26 fu v_p1_secrets v_p1_pages v_p1_letters v_p1_room  n) z2 z3 z4 z5 v_holds v_lettersOf else bd_ (f_X4_fillHolds fu z5 v_holds v_lettersOf v_p1_secrets v_p1_room) (fun (u3 : (Nat → Int64)) => f_X4_fewestPages_49 fu v_p1_secrets v_p1_pages v_p1_letters v_p1_room (f_X4_fewestPages_26 fu v_p1_secrets v_p1_pages v_p1_letters v_p1_room  n) z2 z3 z4 z5 u3 v_lettersOf))) = some (r_, o_holds, o_lettersOf) := hf
    refine lv_iload hx hb dX4_fewestPages_26 (lv_at hl 5 rfl) ?_
    refine lv_iconst (v := (nI 1)) hx hb dX4_fewestPages_28 (by decide) ?_
    refine lv_aload_n hx hb dX4_fewestPages_29 rfl (lv_at hl 1 rfl) ?_
    refine mp_get X fl_X4_30 hK hP 3 rfl rfl dX4_fewestPages_30 ?_
    refine lv_ishl hx hb dX4_fewestPages_33 ?_
    refine lv_icmp_ge (tgt := 91) hx hb dX4_fewestPages_34 (by decide) (fun h1 => ?_) (fun h1 => ?_)
    · replace hf := if_t hf h1
      refine lv_iload_n hx hb dX4_fewestPages_91 rfl (lv_at hl 3 rfl) ?_
      cases hf
      exact mp_reti X hP hS rfl dX4_fewestPages_92
    · replace hf := if_f hf h1
      refine lv_iload hx hb dX4_fewestPages_37 (lv_at hl 5 rfl) ?_
      refine lv_if_le (tgt := 49) hx hb dX4_fewestPages_39 (by decide) (fun h2 => ?_) (fun h2 => ?_)
      · replace hf := if_t hf h2
        exact w_X4_fewestPages_49 X hK hA  fu a_ a_holds a_lettersOf a_p1 a_p1_cellNames a_p1_secretNames a_p1_pageNames a_p1_speed a_p1_letters a_p1_room a_p1_now a_p1_rounds v_above v_below v_p1_cells v_p1_blind v_p1_rubs v_p1_secrets v_p1_pages v_p1_letters v_p1_room r_ o_holds o_lettersOf  (f_X4_fewestPages_26 fu v_p1_secrets v_p1_pages v_p1_letters v_p1_room  n) (ih) z2 z3 z4 z5 v_holds v_lettersOf hf _ _ _ hP (mp_D_of hD rfl) hS (lv_sub hl [0, 1, 2, 3, 4, 5] rfl)
      · replace hf := if_f hf h2
        refine lv_aload_n hx hb dX4_fewestPages_42 rfl (lv_at hl 0 rfl) ?_
        refine lv_aload_n hx hb dX4_fewestPages_43 rfl (lv_at hl 1 rfl) ?_
        refine lv_iload hx hb dX4_fewestPages_44 (lv_at hl 5 rfl) ?_
        obtain ⟨u3, c4, hf⟩ := bd_of hf
        have hPc := hP.sub (ws' := (k_X4_fillHolds T a_ a_holds a_lettersOf a_p1 a_p1_cellNames a_p1_secretNames a_p1_pageNames a_p1_speed a_p1_letters a_p1_room a_p1_now a_p1_rounds v_above v_below v_holds v_lettersOf v_p1_cells v_p1_secrets v_p1_pages v_p1_blind v_p1_rubs v_p1_room)) [0, 1, 2, 3, 5] rfl
        have hDc := (mp_D_of (w1 := (k_X4_fewestPages T a_ a_holds a_lettersOf a_p1 a_p1_cellNames a_p1_secretNames a_p1_pageNames a_p1_speed a_p1_letters a_p1_room a_p1_now a_p1_rounds v_above v_below v_holds v_lettersOf v_p1_cells v_p1_secrets v_p1_pages v_p1_blind v_p1_rubs v_p1_letters v_p1_room)) hD rfl).sub (ws' := (k_X4_fillHolds T a_ a_holds a_lettersOf a_p1 a_p1_cellNames a_p1_secretNames a_p1_pageNames a_p1_speed a_p1_letters a_p1_room a_p1_now a_p1_rounds v_above v_below v_holds v_lettersOf v_p1_cells v_p1_secrets v_p1_pages v_p1_blind v_p1_rubs v_p1_room)) [0, 1, 2, 3, 5] rfl rfl
        refine mp_callv (isC := [0, 1, 2, 3, 5]) (wc := (k_X4_fillHolds T a_ a_holds a_lettersOf a_p1 a_p1_cellNames a_p1_secretNames a_p1_pageNames a_p1_speed a_p1_letters a_p1_room a_p1_now a_p1_rounds v_above v_below v_holds v_lettersOf v_p1_cells v_p1_secrets v_p1_pages v_p1_blind v_p1_rubs v_p1_room)) (w1 := (k_X4_fillHolds T a_ a_holds a_lettersOf a_p1 a_p1_cellNames a_p1_secretNames a_p1_pageNames a_p1_speed a_p1_letters a_p1_room a_p1_now a_p1_rounds v_above v_below u3 v_lettersOf v_p1_cells v_p1_secrets v_p1_pages v_p1_blind v_p1_rubs v_p1_room)) hP (mp_D_of hD rfl) hS hA rfl rfl (mp_runV (As := [.ref a_p1, .int z5]) (rest := []) X me_X4_fillHolds lk_X4_83 (c_X4_fillHolds l D T fu a_ a_holds a_lettersOf a_p1 a_p1_cellNames a_p1_secretNames a_p1_pageNames a_p1_speed a_p1_letters a_p1_room a_p1_now a_p1_rounds z5 v_above v_below v_p1_cells v_p1_pages v_p1_blind v_p1_rubs v_holds v_lettersOf v_p1_secrets v_p1_room u3 c4) rfl rfl ⟨(Nat.le_of_ble_eq_true rfl), (Nat.le_of_ble_eq_true rfl)⟩ hK hPc hDc rfl rfl rfl rfl hl.1 rfl (Nat.le_of_ble_eq_true rfl) dX4_fewestPages_46 ⟨Nat.zero_le _, Nat.zero_le _⟩) (fun H locs hP _ hS => ?_)
        replace hP : va_P D mp_cl (k_X4_fewestPages T a_ a_holds a_lettersOf a_p1 a_p1_cellNames a_p1_secretNames a_p1_pageNames a_p1_speed a_p1_letters a_p1_room a_p1_now a_p1_rounds v_above v_below u3 v_lettersOf v_p1_cells v_p1_secrets v_p1_pages v_p1_blind v_p1_rubs v_p1_letters v_p1_room) H := hP
        exact w_X4_fewestPages_49 X hK hA  fu a_ a_holds a_lettersOf a_p1 a_p1_cellNames a_p1_secretNames a_p1_pageNames a_p1_speed a_p1_letters a_p1_room a_p1_now a_p1_rounds v_above v_below v_p1_cells v_p1_blind v_p1_rubs v_p1_secrets v_p1_pages v_p1_letters v_p1_room r_ o_holds o_lettersOf  (f_X4_fewestPages_26 fu v_p1_secrets v_p1_pages v_p1_letters v_p1_room  n) (ih) z2 z3 z4 z5 u3 v_lettersOf hf _ _ _ hP (mp_D_of hD rfl) hS (lv_sub hl [0, 1, 2, 3, 4, 5] rfl)

set_option maxHeartbeats 4000000 in
set_option maxRecDepth 100000 in
theorem c_X4_fewestPages (l : Launch) (D : va_G) (T : Nat → ClassId) (fu : Nat) (a_ a_holds a_lettersOf a_p1 a_p1_cellNames a_p1_secretNames a_p1_pageNames a_p1_speed a_p1_letters a_p1_room a_p1_now a_p1_rounds : Nat) (v_above : Int64) (v_below : Int64) (v_p1_cells : Int32) (v_p1_blind : Int32) (v_p1_rubs : Int32) (v_holds : (Nat → Int64)) (v_lettersOf : (Nat → Int32)) (v_p1_secrets : Int32) (v_p1_pages : Int32) (v_p1_letters : (Nat → Int32)) (v_p1_room : (Nat → Int32)) (r_ : Int32) (o_holds : (Nat → Int64)) (o_lettersOf : (Nat → Int32)) (hf : f_X4_fewestPages fu v_holds v_lettersOf v_p1_secrets v_p1_pages v_p1_letters v_p1_room = some (r_, o_holds, o_lettersOf)) :
    mp_M l D T yX4_fewestPages cX4_fewestPages 6 (some .int) ({ frames := 2, cells := 0, slots := 0, locals := 56 }) 0 0 [.ref a_, .ref a_p1] (k_X4_fewestPages T a_ a_holds a_lettersOf a_p1 a_p1_cellNames a_p1_secretNames a_p1_pageNames a_p1_speed a_p1_letters a_p1_room a_p1_now a_p1_rounds v_above v_below v_holds v_lettersOf v_p1_cells v_p1_secrets v_p1_pages v_p1_blind v_p1_rubs v_p1_letters v_p1_room) (mp_Qi D r_ (k_X4_fewestPages T a_ a_holds a_lettersOf a_p1 a_p1_cellNames a_p1_secretNames a_p1_pageNames a_p1_speed a_p1_letters a_p1_room a_p1_now a_p1_rounds v_above v_below o_holds o_lettersOf v_p1_cells v_p1_secrets v_p1_pages v_p1_blind v_p1_rubs v_p1_letters v_p1_room)) := by
  refine mp_of (by decide) (Nat.le_of_ble_eq_true rfl) rfl ?_
  intro p e s m args below meth c A ls X hK hP hD hS hA hl
  replace X : mp_X p s m meth c args RX4 "fewestPages" cX4_fewestPages 6 (some .int) := X
  have hx := X.1
  have hb := X.2.1
  have hml := X.2.2.1
  have hown := X.2.2.2.2.1
  have hts := X.2.2.2.2.2.1
  replace hl : lv_has ls 6 [(0, .ref a_), (1, .ref a_p1)] := hl
  replace hf : bd_ (f_X4_sumLetters fu v_lettersOf v_p1_secrets v_p1_letters) (fun (u1 : (Nat → Int32)) => bd_ (f_X1_allSecrets v_p1_secrets) (fun (r3 : Int32) => gi_ (nI 0) 64 (f_X4_fewestPages_26 fu v_p1_secrets v_p1_pages v_p1_letters v_p1_room  fu r3 (-1 : Int32) (nI 7) (nI 0) (vp_updL v_holds ((nI 0)).toNatClampNeg (lN 1)) u1))) = some (r_, o_holds, o_lettersOf) := hf
  refine lv_aload_n hx hb dX4_fewestPages_0 rfl (lv_at hl 0 rfl) ?_
  refine lv_aload_n hx hb dX4_fewestPages_1 rfl (lv_at hl 1 rfl) ?_
  obtain ⟨u1, c2, hf⟩ := bd_of hf
  have hPc := hP.sub (ws' := (k_X4_sumLetters T a_ a_holds a_lettersOf a_p1 a_p1_cellNames a_p1_secretNames a_p1_pageNames a_p1_speed a_p1_letters a_p1_room a_p1_now a_p1_rounds v_above v_below v_lettersOf v_p1_cells v_p1_secrets v_p1_pages v_p1_blind v_p1_rubs v_p1_letters)) [0, 2, 3, 4] rfl
  have hDc := (mp_D_of (w1 := (k_X4_fewestPages T a_ a_holds a_lettersOf a_p1 a_p1_cellNames a_p1_secretNames a_p1_pageNames a_p1_speed a_p1_letters a_p1_room a_p1_now a_p1_rounds v_above v_below v_holds v_lettersOf v_p1_cells v_p1_secrets v_p1_pages v_p1_blind v_p1_rubs v_p1_letters v_p1_room)) hD rfl).sub (ws' := (k_X4_sumLetters T a_ a_holds a_lettersOf a_p1 a_p1_cellNames a_p1_secretNames a_p1_pageNames a_p1_speed a_p1_letters a_p1_room a_p1_now a_p1_rounds v_above v_below v_lettersOf v_p1_cells v_p1_secrets v_p1_pages v_p1_blind v_p1_rubs v_p1_letters)) [0, 2, 3, 4] rfl rfl
  refine mp_callv (isC := [0, 2, 3, 4]) (wc := (k_X4_sumLetters T a_ a_holds a_lettersOf a_p1 a_p1_cellNames a_p1_secretNames a_p1_pageNames a_p1_speed a_p1_letters a_p1_room a_p1_now a_p1_rounds v_above v_below v_lettersOf v_p1_cells v_p1_secrets v_p1_pages v_p1_blind v_p1_rubs v_p1_letters)) (w1 := (k_X4_sumLetters T a_ a_holds a_lettersOf a_p1 a_p1_cellNames a_p1_secretNames a_p1_pageNames a_p1_speed a_p1_letters a_p1_room a_p1_now a_p1_rounds v_above v_below u1 v_p1_cells v_p1_secrets v_p1_pages v_p1_blind v_p1_rubs v_p1_letters)) hP (mp_D_of hD rfl) hS hA rfl rfl (mp_runV (As := [.ref a_p1]) (rest := []) X me_X4_sumLetters lk_X4_75 (c_X4_sumLetters l D T fu a_ a_holds a_lettersOf a_p1 a_p1_cellNames a_p1_secretNames a_p1_pageNames a_p1_speed a_p1_letters a_p1_room a_p1_now a_p1_rounds v_above v_below v_p1_cells v_p1_pages v_p1_blind v_p1_rubs v_lettersOf v_p1_secrets v_p1_letters u1 c2) rfl rfl ⟨(Nat.le_of_ble_eq_true rfl), (Nat.le_of_ble_eq_true rfl)⟩ hK hPc hDc rfl rfl rfl rfl hl.1 rfl (Nat.le_of_ble_eq_true rfl) dX4_fewestPages_2 ⟨Nat.zero_le _, Nat.zero_le _⟩) (fun H locs hP _ hS => ?_)
  replace hP : va_P D mp_cl (k_X4_fewestPages T a_ a_holds a_lettersOf a_p1 a_p1_cellNames a_p1_secretNames a_p1_pageNames a_p1_speed a_p1_letters a_p1_room a_p1_now a_p1_rounds v_above v_below v_holds u1 v_p1_cells v_p1_secrets v_p1_pages v_p1_blind v_p1_rubs v_p1_letters v_p1_room) H := hP
  refine lv_aload_n hx hb dX4_fewestPages_5 rfl (lv_at hl 1 rfl) ?_
  obtain ⟨r3, c4, hf⟩ := bd_of hf
  have hPc := hP.sub (ws' := (k_X1_allSecrets T a_p1 a_p1_cellNames a_p1_secretNames a_p1_pageNames a_p1_speed a_p1_letters a_p1_room a_p1_now a_p1_rounds v_p1_cells v_p1_secrets v_p1_pages v_p1_blind v_p1_rubs)) [3] rfl
  have hDc := (mp_D_of (w1 := (k_X4_fewestPages T a_ a_holds a_lettersOf a_p1 a_p1_cellNames a_p1_secretNames a_p1_pageNames a_p1_speed a_p1_letters a_p1_room a_p1_now a_p1_rounds v_above v_below v_holds u1 v_p1_cells v_p1_secrets v_p1_pages v_p1_blind v_p1_rubs v_p1_letters v_p1_room)) hD rfl).sub (ws' := (k_X1_allSecrets T a_p1 a_p1_cellNames a_p1_secretNames a_p1_pageNames a_p1_speed a_p1_letters a_p1_room a_p1_now a_p1_rounds v_p1_cells v_p1_secrets v_p1_pages v_p1_blind v_p1_rubs)) [3] rfl rfl
  refine mp_calli (isC := [3]) (wc := (k_X1_allSecrets T a_p1 a_p1_cellNames a_p1_secretNames a_p1_pageNames a_p1_speed a_p1_letters a_p1_room a_p1_now a_p1_rounds v_p1_cells v_p1_secrets v_p1_pages v_p1_blind v_p1_rubs)) (w1 := (k_X1_allSecrets T a_p1 a_p1_cellNames a_p1_secretNames a_p1_pageNames a_p1_speed a_p1_letters a_p1_room a_p1_now a_p1_rounds v_p1_cells v_p1_secrets v_p1_pages v_p1_blind v_p1_rubs)) hP (mp_D_of hD rfl) hS hA rfl rfl (mp_runV (As := []) (rest := []) X me_X1_allSecrets lk_X4_79 (c_X1_allSecrets l D T a_p1 a_p1_cellNames a_p1_secretNames a_p1_pageNames a_p1_speed a_p1_letters a_p1_room a_p1_now a_p1_rounds v_p1_cells v_p1_pages v_p1_blind v_p1_rubs v_p1_secrets r3 c4) rfl rfl ⟨(Nat.le_of_ble_eq_true rfl), (Nat.le_of_ble_eq_true rfl)⟩ hK hPc hDc rfl rfl rfl rfl hl.1 rfl (Nat.le_of_ble_eq_true rfl) dX4_fewestPages_6 ⟨Nat.zero_le _, Nat.zero_le _⟩) (fun H locs hP _ hS => ?_)
  replace hP : va_P D mp_cl (k_X4_fewestPages T a_ a_holds a_lettersOf a_p1 a_p1_cellNames a_p1_secretNames a_p1_pageNames a_p1_speed a_p1_letters a_p1_room a_p1_now a_p1_rounds v_above v_below v_holds u1 v_p1_cells v_p1_secrets v_p1_pages v_p1_blind v_p1_rubs v_p1_letters v_p1_room) H := hP
  refine lv_istore_n (lv' := [(2, .int r3), (0, .ref a_), (1, .ref a_p1)]) hx hb dX4_fewestPages_9 rfl hl (by decide) rfl (fun ls hl => ?_)
  refine lv_iconst (v := (-1 : Int32)) hx hb dX4_fewestPages_10 (by decide) ?_
  refine lv_istore_n (lv' := [(3, .int (-1 : Int32)), (2, .int r3), (0, .ref a_), (1, .ref a_p1)]) hx hb dX4_fewestPages_11 rfl hl (by decide) rfl (fun ls hl => ?_)
  refine lv_bipush (v := (nI 7)) hx hb dX4_fewestPages_12 (by decide) ?_
  refine lv_istore (lv' := [(4, .int (nI 7)), (3, .int (-1 : Int32)), (2, .int r3), (0, .ref a_), (1, .ref a_p1)]) hx hb dX4_fewestPages_14 hl (by decide) rfl (fun ls hl => ?_)
  refine lv_aload_n hx hb dX4_fewestPages_16 rfl (lv_at hl 3 rfl) ?_
  refine mp_get X fl_X4_18 hK hP 0 rfl rfl dX4_fewestPages_17 ?_
  refine lv_iconst (v := (nI 0)) hx hb dX4_fewestPages_20 (by decide) ?_
  refine lv_lconst (v := (lN 1)) hx hb dX4_fewestPages_21 (by decide) ?_
  obtain ⟨h5, hf⟩ := gi_of hf
  refine va_last hx hb hK hP (mp_D_of hD rfl) hS 1 1 rfl rfl h5 dX4_fewestPages_22 (fun H locs hP _ hS => ?_)
  replace hP : va_P D mp_cl (k_X4_fewestPages T a_ a_holds a_lettersOf a_p1 a_p1_cellNames a_p1_secretNames a_p1_pageNames a_p1_speed a_p1_letters a_p1_room a_p1_now a_p1_rounds v_above v_below (vp_updL v_holds ((nI 0)).toNatClampNeg (lN 1)) u1 v_p1_cells v_p1_secrets v_p1_pages v_p1_blind v_p1_rubs v_p1_letters v_p1_room) H := hP
  refine lv_iconst (v := (nI 0)) hx hb dX4_fewestPages_23 (by decide) ?_
  refine lv_istore (lv' := [(5, .int (nI 0)), (4, .int (nI 7)), (3, .int (-1 : Int32)), (2, .int r3), (0, .ref a_), (1, .ref a_p1)]) hx hb dX4_fewestPages_24 hl (by decide) rfl (fun ls hl => ?_)
  exact w_X4_fewestPages_26 X hK hA  fu a_ a_holds a_lettersOf a_p1 a_p1_cellNames a_p1_secretNames a_p1_pageNames a_p1_speed a_p1_letters a_p1_room a_p1_now a_p1_rounds v_above v_below v_p1_cells v_p1_blind v_p1_rubs v_p1_secrets v_p1_pages v_p1_letters v_p1_room r_ o_holds o_lettersOf   fu r3 (-1 : Int32) (nI 7) (nI 0) (vp_updL v_holds ((nI 0)).toNatClampNeg (lN 1)) u1 hf _ _ _ hP (mp_D_of hD rfl) hS (lv_sub hl [4, 5, 3, 2, 1, 0] rfl)


def k_X9_isKnown (T : Nat → ClassId) (a_ a_rows a_sorts a_lengths : Nat) : va_W := [(a_, oX9 a_rows a_sorts a_lengths)]
set_option maxHeartbeats 4000000 in
set_option maxRecDepth 100000 in
theorem c_X9_isKnown (l : Launch) (D : va_G) (T : Nat → ClassId) (a_ a_rows a_sorts a_lengths : Nat) (x1 : Int32) (r_ : Int32) (hf : f_X9_isKnown x1 = some r_) :
    mp_M l D T yX9_isKnown cX9_isKnown 2 (some .boolean) ({ frames := 0, cells := 0, slots := 0, locals := 0 }) 0 0 [.ref a_, .int x1] (k_X9_isKnown T a_ a_rows a_sorts a_lengths) (mp_Qi D r_ (k_X9_isKnown T a_ a_rows a_sorts a_lengths)) := by
  refine mp_of (by decide) (Nat.le_of_ble_eq_true rfl) rfl ?_
  intro p e s m args below meth c A ls X hK hP hD hS hA hl
  replace X : mp_X p s m meth c args RX9 "isKnown" cX9_isKnown 2 (some .boolean) := X
  have hx := X.1
  have hb := X.2.1
  have hml := X.2.2.1
  have hown := X.2.2.2.2.1
  have hts := X.2.2.2.2.2.1
  replace hl : lv_has ls 2 [(0, .ref a_), (1, .int x1)] := hl
  replace hf : (if x1 < 0 then some ((nI 0)) else (if (nI 4) ≤ x1 then some ((nI 0)) else some ((nI 1)))) = some r_ := hf
  refine lv_iload_n hx hb dX9_isKnown_0 rfl (lv_at hl 1 rfl) ?_
  refine lv_if_lt (tgt := 13) hx hb dX9_isKnown_1 (by decide) (fun h1 => ?_) (fun h1 => ?_)
  · replace hf := if_t hf h1
    refine lv_iconst (v := (nI 0)) hx hb dX9_isKnown_13 (by decide) ?_
    cases hf
    exact mp_retz X hP hS rfl (Or.inl rfl) dX9_isKnown_14
  · replace hf := if_f hf h1
    refine lv_iload_n hx hb dX9_isKnown_4 rfl (lv_at hl 1 rfl) ?_
    refine lv_iconst (v := (nI 4)) hx hb dX9_isKnown_5 (by decide) ?_
    refine lv_icmp_ge (tgt := 13) hx hb dX9_isKnown_6 (by decide) (fun h2 => ?_) (fun h2 => ?_)
    · replace hf := if_t hf h2
      refine lv_iconst (v := (nI 0)) hx hb dX9_isKnown_13 (by decide) ?_
      cases hf
      exact mp_retz X hP hS rfl (Or.inl rfl) dX9_isKnown_14
    · replace hf := if_f hf h2
      refine lv_iconst (v := (nI 1)) hx hb dX9_isKnown_9 (by decide) ?_
      refine lv_goto (tgt := 14) hx hb dX9_isKnown_10 (by decide) ?_
      cases hf
      exact mp_retz X hP hS rfl (Or.inr rfl) dX9_isKnown_14


def k_X9_isMissing (T : Nat → ClassId) (a_ a_rows a_sorts a_lengths : Nat) (v_lengths : (Nat → Int32)) : va_W := [(a_, oX9 a_rows a_sorts a_lengths), (a_lengths, mp_aI T 4 v_lengths)]
set_option maxHeartbeats 4000000 in
set_option maxRecDepth 100000 in
theorem c_X9_isMissing (l : Launch) (D : va_G) (T : Nat → ClassId) (a_ a_rows a_sorts a_lengths : Nat) (x1 : Int32) (v_lengths : (Nat → Int32)) (r_ : Int32) (hf : f_X9_isMissing x1 v_lengths = some r_) :
    mp_M l D T yX9_isMissing cX9_isMissing 2 (some .boolean) ({ frames := 0, cells := 0, slots := 0, locals := 0 }) 0 0 [.ref a_, .int x1] (k_X9_isMissing T a_ a_rows a_sorts a_lengths v_lengths) (mp_Qi D r_ (k_X9_isMissing T a_ a_rows a_sorts a_lengths v_lengths)) := by
  refine mp_of (by decide) (Nat.le_of_ble_eq_true rfl) rfl ?_
  intro p e s m args below meth c A ls X hK hP hD hS hA hl
  replace X : mp_X p s m meth c args RX9 "isMissing" cX9_isMissing 2 (some .boolean) := X
  have hx := X.1
  have hb := X.2.1
  have hml := X.2.2.1
  have hown := X.2.2.2.2.1
  have hts := X.2.2.2.2.2.1
  replace hl : lv_has ls 2 [(0, .ref a_), (1, .int x1)] := hl
  replace hf : gi_ x1 4 ((if (v_lengths (x1).toNatClampNeg) = (-1 : Int32) then some ((nI 1)) else some ((nI 0)))) = some r_ := hf
  refine lv_aload_n hx hb dX9_isMissing_0 rfl (lv_at hl 0 rfl) ?_
  refine mp_get X fl_X9_20 hK hP 0 rfl rfl dX9_isMissing_1 ?_
  refine lv_iload_n hx hb dX9_isMissing_4 rfl (lv_at hl 1 rfl) ?_
  obtain ⟨h1, hf⟩ := gi_of hf
  refine va_iald hx hb hK hP 1 0 rfl rfl h1 dX9_isMissing_5 ?_
  refine lv_iconst (v := (-1 : Int32)) hx hb dX9_isMissing_6 (by decide) ?_
  refine lv_icmp_ne (tgt := 14) hx hb dX9_isMissing_7 (by decide) (fun h2 => ?_) (fun h2 => ?_)
  · replace hf := if_f hf h2
    refine lv_iconst (v := (nI 0)) hx hb dX9_isMissing_14 (by decide) ?_
    cases hf
    exact mp_retz X hP hS rfl (Or.inl rfl) dX9_isMissing_15
  · replace hf := if_t hf h2
    refine lv_iconst (v := (nI 1)) hx hb dX9_isMissing_10 (by decide) ?_
    refine lv_goto (tgt := 15) hx hb dX9_isMissing_11 (by decide) ?_
    cases hf
    exact mp_retz X hP hS rfl (Or.inr rfl) dX9_isMissing_15


def k_X9_make (T : Nat → ClassId) (a_ a_rows a_sorts a_lengths a_rows_0 a_rows_1 a_rows_2 a_rows_3 : Nat) (v_lengths : (Nat → Int32)) (v_rows_0 : (Nat → Int64)) (v_rows_1 : (Nat → Int64)) (v_rows_2 : (Nat → Int64)) (v_rows_3 : (Nat → Int64)) (v_sorts : (Nat → Int32)) : va_W := [(a_, oX9 a_rows a_sorts a_lengths), (a_lengths, mp_aI T 4 v_lengths), (a_rows, mp_aR T 3 4 [a_rows_0, a_rows_1, a_rows_2, a_rows_3]), (a_rows_0, mp_aJ T 60 v_rows_0), (a_rows_1, mp_aJ T 60 v_rows_1), (a_rows_2, mp_aJ T 60 v_rows_2), (a_rows_3, mp_aJ T 60 v_rows_3), (a_sorts, mp_aI T 4 v_sorts)]
set_option maxHeartbeats 4000000 in
set_option maxRecDepth 100000 in
theorem c_X9_make (l : Launch) (D : va_G) (T : Nat → ClassId) (fu : Nat) (a_ a_rows a_sorts a_lengths a_rows_0 a_rows_1 a_rows_2 a_rows_3 : Nat) (x1 : Int32) (x2 : Int32) (x3 : Int32) (v_lengths : (Nat → Int32)) (v_rows_0 : (Nat → Int64)) (v_rows_1 : (Nat → Int64)) (v_rows_2 : (Nat → Int64)) (v_rows_3 : (Nat → Int64)) (v_sorts : (Nat → Int32)) (o_lengths : (Nat → Int32)) (o_rows_0 : (Nat → Int64)) (o_rows_1 : (Nat → Int64)) (o_rows_2 : (Nat → Int64)) (o_rows_3 : (Nat → Int64)) (o_sorts : (Nat → Int32)) (hf : f_X9_make fu x1 x2 x3 v_lengths v_rows_0 v_rows_1 v_rows_2 v_rows_3 v_sorts = some (o_lengths, o_rows_0, o_rows_1, o_rows_2, o_rows_3, o_sorts)) :
    mp_M l D T yX9_make cX9_make 4 none ({ frames := 1, cells := 0, slots := 0, locals := 24 }) 0 0 [.ref a_, .int x1, .int x2, .int x3] (k_X9_make T a_ a_rows a_sorts a_lengths a_rows_0 a_rows_1 a_rows_2 a_rows_3 v_lengths v_rows_0 v_rows_1 v_rows_2 v_rows_3 v_sorts) (mp_Qv D (k_X9_make T a_ a_rows a_sorts a_lengths a_rows_0 a_rows_1 a_rows_2 a_rows_3 o_lengths o_rows_0 o_rows_1 o_rows_2 o_rows_3 o_sorts)) := by
  refine mp_of (by decide) (Nat.le_of_ble_eq_true rfl) rfl ?_
  intro p e s m args below meth c A ls X hK hP hD hS hA hl
  replace X : mp_X p s m meth c args RX9 "make" cX9_make 4 none := X
  have hx := X.1
  have hb := X.2.1
  have hml := X.2.2.1
  have hown := X.2.2.2.2.1
  have hts := X.2.2.2.2.2.1
  replace hl : lv_has ls 4 [(0, .ref a_), (1, .int x1), (2, .int x2), (3, .int x3)] := hl
  replace hf : gi_ x1 4 ((if x1 = (nI 0) then bd_ (f_J7_fill_d0a16 fu 60 (lN 0) v_rows_0) (fun (u3 : (Nat → Int64)) => gi_ x1 4 (gi_ x1 4 (some (upd v_lengths (x1).toNatClampNeg x3, u3, v_rows_1, v_rows_2, v_rows_3, upd v_sorts (x1).toNatClampNeg x2)))) else (if x1 = (nI 1) then bd_ (f_J7_fill_d0a16 fu 60 (lN 0) v_rows_1) (fun (u8 : (Nat → Int64)) => gi_ x1 4 (gi_ x1 4 (some (upd v_lengths (x1).toNatClampNeg x3, v_rows_0, u8, v_rows_2, v_rows_3, upd v_sorts (x1).toNatClampNeg x2)))) else (if x1 = (nI 2) then bd_ (f_J7_fill_d0a16 fu 60 (lN 0) v_rows_2) (fun (u13 : (Nat → Int64)) => gi_ x1 4 (gi_ x1 4 (some (upd v_lengths (x1).toNatClampNeg x3, v_rows_0, v_rows_1, u13, v_rows_3, upd v_sorts (x1).toNatClampNeg x2)))) else bd_ (f_J7_fill_d0a16 fu 60 (lN 0) v_rows_3) (fun (u18 : (Nat → Int64)) => gi_ x1 4 (gi_ x1 4 (some (upd v_lengths (x1).toNatClampNeg x3, v_rows_0, v_rows_1, v_rows_2, u18, upd v_sorts (x1).toNatClampNeg x2)))))))) = some (o_lengths, o_rows_0, o_rows_1, o_rows_2, o_rows_3, o_sorts) := hf
  refine lv_aload_n hx hb dX9_make_0 rfl (lv_at hl 0 rfl) ?_
  refine mp_get X fl_X9_11 hK hP 0 rfl rfl dX9_make_1 ?_
  refine lv_iload_n hx hb dX9_make_4 rfl (lv_at hl 1 rfl) ?_
  obtain ⟨h1, hf⟩ := gi_of hf
  refine va_aldqA hx hb hK hP 2 3 rfl rfl h1 dX9_make_5 ?_
  by_cases h2 : x1 = (nI 0)
  · replace hf := if_t hf h2
    rw [show va_rf (mp_ol [a_rows_0, a_rows_1, a_rows_2, a_rows_3] (x1).toNatClampNeg) = .ref a_rows_0 from by rw [h2]; rfl]
    refine lv_lconst (v := (lN 0)) hx hb dX9_make_6 (by decide) ?_
    obtain ⟨u3, c4, hf⟩ := bd_of hf
    have hPc := hP.sub (ws' := (k_J7_fill_d0a16 T a_rows_0 60 v_rows_0)) [3] rfl
    have hDc := (mp_D_of (w1 := (k_X9_make T a_ a_rows a_sorts a_lengths a_rows_0 a_rows_1 a_rows_2 a_rows_3 v_lengths v_rows_0 v_rows_1 v_rows_2 v_rows_3 v_sorts)) hD rfl).sub (ws' := (k_J7_fill_d0a16 T a_rows_0 60 v_rows_0)) [3] rfl rfl
    refine mp_callv (isC := [3]) (wc := (k_J7_fill_d0a16 T a_rows_0 60 v_rows_0)) (w1 := (k_J7_fill_d0a16 T a_rows_0 60 u3)) hP (mp_D_of hD rfl) hS hA rfl rfl (mp_runS (As := [.ref a_rows_0, .long (lN 0)]) (rest := []) X me_J7_fill_d0a16 lk_X9_29 (c_J7_fill_d0a16 l D T fu a_rows_0 60 (lN 0) v_rows_0 u3 c4) rfl rfl ⟨(Nat.le_of_ble_eq_true rfl), (Nat.le_of_ble_eq_true rfl)⟩ hK hPc hDc rfl hl.1 rfl (Nat.le_of_ble_eq_true rfl) dX9_make_7 ⟨Nat.zero_le _, Nat.zero_le _⟩) (fun H locs hP _ hS => ?_)
    replace hP : va_P D mp_cl (k_X9_make T a_ a_rows a_sorts a_lengths a_rows_0 a_rows_1 a_rows_2 a_rows_3 v_lengths u3 v_rows_1 v_rows_2 v_rows_3 v_sorts) H := hP
    refine lv_aload_n hx hb dX9_make_10 rfl (lv_at hl 0 rfl) ?_
    refine mp_get X fl_X9_16 hK hP 0 rfl rfl dX9_make_11 ?_
    refine lv_iload_n hx hb dX9_make_14 rfl (lv_at hl 1 rfl) ?_
    refine lv_iload_n hx hb dX9_make_15 rfl (lv_at hl 2 rfl) ?_
    obtain ⟨h5, hf⟩ := gi_of hf
    refine va_iast hx hb hK hP (mp_D_of hD rfl) hS 7 0 rfl rfl h5 dX9_make_16 (fun H locs hP _ hS => ?_)
    replace hP : va_P D mp_cl (k_X9_make T a_ a_rows a_sorts a_lengths a_rows_0 a_rows_1 a_rows_2 a_rows_3 v_lengths u3 v_rows_1 v_rows_2 v_rows_3 (upd v_sorts (x1).toNatClampNeg x2)) H := hP
    refine lv_aload_n hx hb dX9_make_17 rfl (lv_at hl 0 rfl) ?_
    refine mp_get X fl_X9_20 hK hP 0 rfl rfl dX9_make_18 ?_
    refine lv_iload_n hx hb dX9_make_21 rfl (lv_at hl 1 rfl) ?_
    refine lv_iload_n hx hb dX9_make_22 rfl (lv_at hl 3 rfl) ?_
    obtain ⟨h6, hf⟩ := gi_of hf
    refine va_iast hx hb hK hP (mp_D_of hD rfl) hS 1 0 rfl rfl h6 dX9_make_23 (fun H locs hP _ hS => ?_)
    replace hP : va_P D mp_cl (k_X9_make T a_ a_rows a_sorts a_lengths a_rows_0 a_rows_1 a_rows_2 a_rows_3 (upd v_lengths (x1).toNatClampNeg x3) u3 v_rows_1 v_rows_2 v_rows_3 (upd v_sorts (x1).toNatClampNeg x2)) H := hP
    cases hf
    exact mp_retv X hP hS dX9_make_24
  replace hf := if_f hf h2
  by_cases h7 : x1 = (nI 1)
  · replace hf := if_t hf h7
    rw [show va_rf (mp_ol [a_rows_0, a_rows_1, a_rows_2, a_rows_3] (x1).toNatClampNeg) = .ref a_rows_1 from by rw [h7]; rfl]
    refine lv_lconst (v := (lN 0)) hx hb dX9_make_6 (by decide) ?_
    obtain ⟨u8, c9, hf⟩ := bd_of hf
    have hPc := hP.sub (ws' := (k_J7_fill_d0a16 T a_rows_1 60 v_rows_1)) [4] rfl
    have hDc := (mp_D_of (w1 := (k_X9_make T a_ a_rows a_sorts a_lengths a_rows_0 a_rows_1 a_rows_2 a_rows_3 v_lengths v_rows_0 v_rows_1 v_rows_2 v_rows_3 v_sorts)) hD rfl).sub (ws' := (k_J7_fill_d0a16 T a_rows_1 60 v_rows_1)) [4] rfl rfl
    refine mp_callv (isC := [4]) (wc := (k_J7_fill_d0a16 T a_rows_1 60 v_rows_1)) (w1 := (k_J7_fill_d0a16 T a_rows_1 60 u8)) hP (mp_D_of hD rfl) hS hA rfl rfl (mp_runS (As := [.ref a_rows_1, .long (lN 0)]) (rest := []) X me_J7_fill_d0a16 lk_X9_29 (c_J7_fill_d0a16 l D T fu a_rows_1 60 (lN 0) v_rows_1 u8 c9) rfl rfl ⟨(Nat.le_of_ble_eq_true rfl), (Nat.le_of_ble_eq_true rfl)⟩ hK hPc hDc rfl hl.1 rfl (Nat.le_of_ble_eq_true rfl) dX9_make_7 ⟨Nat.zero_le _, Nat.zero_le _⟩) (fun H locs hP _ hS => ?_)
    replace hP : va_P D mp_cl (k_X9_make T a_ a_rows a_sorts a_lengths a_rows_0 a_rows_1 a_rows_2 a_rows_3 v_lengths v_rows_0 u8 v_rows_2 v_rows_3 v_sorts) H := hP
    refine lv_aload_n hx hb dX9_make_10 rfl (lv_at hl 0 rfl) ?_
    refine mp_get X fl_X9_16 hK hP 0 rfl rfl dX9_make_11 ?_
    refine lv_iload_n hx hb dX9_make_14 rfl (lv_at hl 1 rfl) ?_
    refine lv_iload_n hx hb dX9_make_15 rfl (lv_at hl 2 rfl) ?_
    obtain ⟨h10, hf⟩ := gi_of hf
    refine va_iast hx hb hK hP (mp_D_of hD rfl) hS 7 0 rfl rfl h10 dX9_make_16 (fun H locs hP _ hS => ?_)
    replace hP : va_P D mp_cl (k_X9_make T a_ a_rows a_sorts a_lengths a_rows_0 a_rows_1 a_rows_2 a_rows_3 v_lengths v_rows_0 u8 v_rows_2 v_rows_3 (upd v_sorts (x1).toNatClampNeg x2)) H := hP
    refine lv_aload_n hx hb dX9_make_17 rfl (lv_at hl 0 rfl) ?_
    refine mp_get X fl_X9_20 hK hP 0 rfl rfl dX9_make_18 ?_
    refine lv_iload_n hx hb dX9_make_21 rfl (lv_at hl 1 rfl) ?_
    refine lv_iload_n hx hb dX9_make_22 rfl (lv_at hl 3 rfl) ?_
    obtain ⟨h11, hf⟩ := gi_of hf
    refine va_iast hx hb hK hP (mp_D_of hD rfl) hS 1 0 rfl rfl h11 dX9_make_23 (fun H locs hP _ hS => ?_)
    replace hP : va_P D mp_cl (k_X9_make T a_ a_rows a_sorts a_lengths a_rows_0 a_rows_1 a_rows_2 a_rows_3 (upd v_lengths (x1).toNatClampNeg x3) v_rows_0 u8 v_rows_2 v_rows_3 (upd v_sorts (x1).toNatClampNeg x2)) H := hP
    cases hf
    exact mp_retv X hP hS dX9_make_24
  replace hf := if_f hf h7
  by_cases h12 : x1 = (nI 2)
  · replace hf := if_t hf h12
    rw [show va_rf (mp_ol [a_rows_0, a_rows_1, a_rows_2, a_rows_3] (x1).toNatClampNeg) = .ref a_rows_2 from by rw [h12]; rfl]
    refine lv_lconst (v := (lN 0)) hx hb dX9_make_6 (by decide) ?_
    obtain ⟨u13, c14, hf⟩ := bd_of hf
    have hPc := hP.sub (ws' := (k_J7_fill_d0a16 T a_rows_2 60 v_rows_2)) [5] rfl
    have hDc := (mp_D_of (w1 := (k_X9_make T a_ a_rows a_sorts a_lengths a_rows_0 a_rows_1 a_rows_2 a_rows_3 v_lengths v_rows_0 v_rows_1 v_rows_2 v_rows_3 v_sorts)) hD rfl).sub (ws' := (k_J7_fill_d0a16 T a_rows_2 60 v_rows_2)) [5] rfl rfl
    refine mp_callv (isC := [5]) (wc := (k_J7_fill_d0a16 T a_rows_2 60 v_rows_2)) (w1 := (k_J7_fill_d0a16 T a_rows_2 60 u13)) hP (mp_D_of hD rfl) hS hA rfl rfl (mp_runS (As := [.ref a_rows_2, .long (lN 0)]) (rest := []) X me_J7_fill_d0a16 lk_X9_29 (c_J7_fill_d0a16 l D T fu a_rows_2 60 (lN 0) v_rows_2 u13 c14) rfl rfl ⟨(Nat.le_of_ble_eq_true rfl), (Nat.le_of_ble_eq_true rfl)⟩ hK hPc hDc rfl hl.1 rfl (Nat.le_of_ble_eq_true rfl) dX9_make_7 ⟨Nat.zero_le _, Nat.zero_le _⟩) (fun H locs hP _ hS => ?_)
    replace hP : va_P D mp_cl (k_X9_make T a_ a_rows a_sorts a_lengths a_rows_0 a_rows_1 a_rows_2 a_rows_3 v_lengths v_rows_0 v_rows_1 u13 v_rows_3 v_sorts) H := hP
    refine lv_aload_n hx hb dX9_make_10 rfl (lv_at hl 0 rfl) ?_
    refine mp_get X fl_X9_16 hK hP 0 rfl rfl dX9_make_11 ?_
    refine lv_iload_n hx hb dX9_make_14 rfl (lv_at hl 1 rfl) ?_
    refine lv_iload_n hx hb dX9_make_15 rfl (lv_at hl 2 rfl) ?_
    obtain ⟨h15, hf⟩ := gi_of hf
    refine va_iast hx hb hK hP (mp_D_of hD rfl) hS 7 0 rfl rfl h15 dX9_make_16 (fun H locs hP _ hS => ?_)
    replace hP : va_P D mp_cl (k_X9_make T a_ a_rows a_sorts a_lengths a_rows_0 a_rows_1 a_rows_2 a_rows_3 v_lengths v_rows_0 v_rows_1 u13 v_rows_3 (upd v_sorts (x1).toNatClampNeg x2)) H := hP
    refine lv_aload_n hx hb dX9_make_17 rfl (lv_at hl 0 rfl) ?_
    refine mp_get X fl_X9_20 hK hP 0 rfl rfl dX9_make_18 ?_
    refine lv_iload_n hx hb dX9_make_21 rfl (lv_at hl 1 rfl) ?_
    refine lv_iload_n hx hb dX9_make_22 rfl (lv_at hl 3 rfl) ?_
    obtain ⟨h16, hf⟩ := gi_of hf
    refine va_iast hx hb hK hP (mp_D_of hD rfl) hS 1 0 rfl rfl h16 dX9_make_23 (fun H locs hP _ hS => ?_)
    replace hP : va_P D mp_cl (k_X9_make T a_ a_rows a_sorts a_lengths a_rows_0 a_rows_1 a_rows_2 a_rows_3 (upd v_lengths (x1).toNatClampNeg x3) v_rows_0 v_rows_1 u13 v_rows_3 (upd v_sorts (x1).toNatClampNeg x2)) H := hP
    cases hf
    exact mp_retv X hP hS dX9_make_24
  replace hf := if_f hf h12
  have h17 : x1 = (nI 3) := mp_last4 h1 h2 h7 h12
  rw [show va_rf (mp_ol [a_rows_0, a_rows_1, a_rows_2, a_rows_3] (x1).toNatClampNeg) = .ref a_rows_3 from by rw [h17]; rfl]
  refine lv_lconst (v := (lN 0)) hx hb dX9_make_6 (by decide) ?_
  obtain ⟨u18, c19, hf⟩ := bd_of hf
  have hPc := hP.sub (ws' := (k_J7_fill_d0a16 T a_rows_3 60 v_rows_3)) [6] rfl
  have hDc := (mp_D_of (w1 := (k_X9_make T a_ a_rows a_sorts a_lengths a_rows_0 a_rows_1 a_rows_2 a_rows_3 v_lengths v_rows_0 v_rows_1 v_rows_2 v_rows_3 v_sorts)) hD rfl).sub (ws' := (k_J7_fill_d0a16 T a_rows_3 60 v_rows_3)) [6] rfl rfl
  refine mp_callv (isC := [6]) (wc := (k_J7_fill_d0a16 T a_rows_3 60 v_rows_3)) (w1 := (k_J7_fill_d0a16 T a_rows_3 60 u18)) hP (mp_D_of hD rfl) hS hA rfl rfl (mp_runS (As := [.ref a_rows_3, .long (lN 0)]) (rest := []) X me_J7_fill_d0a16 lk_X9_29 (c_J7_fill_d0a16 l D T fu a_rows_3 60 (lN 0) v_rows_3 u18 c19) rfl rfl ⟨(Nat.le_of_ble_eq_true rfl), (Nat.le_of_ble_eq_true rfl)⟩ hK hPc hDc rfl hl.1 rfl (Nat.le_of_ble_eq_true rfl) dX9_make_7 ⟨Nat.zero_le _, Nat.zero_le _⟩) (fun H locs hP _ hS => ?_)
  replace hP : va_P D mp_cl (k_X9_make T a_ a_rows a_sorts a_lengths a_rows_0 a_rows_1 a_rows_2 a_rows_3 v_lengths v_rows_0 v_rows_1 v_rows_2 u18 v_sorts) H := hP
  refine lv_aload_n hx hb dX9_make_10 rfl (lv_at hl 0 rfl) ?_
  refine mp_get X fl_X9_16 hK hP 0 rfl rfl dX9_make_11 ?_
  refine lv_iload_n hx hb dX9_make_14 rfl (lv_at hl 1 rfl) ?_
  refine lv_iload_n hx hb dX9_make_15 rfl (lv_at hl 2 rfl) ?_
  obtain ⟨h20, hf⟩ := gi_of hf
  refine va_iast hx hb hK hP (mp_D_of hD rfl) hS 7 0 rfl rfl h20 dX9_make_16 (fun H locs hP _ hS => ?_)
  replace hP : va_P D mp_cl (k_X9_make T a_ a_rows a_sorts a_lengths a_rows_0 a_rows_1 a_rows_2 a_rows_3 v_lengths v_rows_0 v_rows_1 v_rows_2 u18 (upd v_sorts (x1).toNatClampNeg x2)) H := hP
  refine lv_aload_n hx hb dX9_make_17 rfl (lv_at hl 0 rfl) ?_
  refine mp_get X fl_X9_20 hK hP 0 rfl rfl dX9_make_18 ?_
  refine lv_iload_n hx hb dX9_make_21 rfl (lv_at hl 1 rfl) ?_
  refine lv_iload_n hx hb dX9_make_22 rfl (lv_at hl 3 rfl) ?_
  obtain ⟨h21, hf⟩ := gi_of hf
  refine va_iast hx hb hK hP (mp_D_of hD rfl) hS 1 0 rfl rfl h21 dX9_make_23 (fun H locs hP _ hS => ?_)
  replace hP : va_P D mp_cl (k_X9_make T a_ a_rows a_sorts a_lengths a_rows_0 a_rows_1 a_rows_2 a_rows_3 (upd v_lengths (x1).toNatClampNeg x3) v_rows_0 v_rows_1 v_rows_2 u18 (upd v_sorts (x1).toNatClampNeg x2)) H := hP
  cases hf
  exact mp_retv X hP hS dX9_make_24


def k_X9_cut (T : Nat → ClassId) : va_W := []
set_option maxHeartbeats 4000000 in
set_option maxRecDepth 100000 in
theorem c_X9_cut (l : Launch) (D : va_G) (T : Nat → ClassId) (x1 : Int32) (x2 : Int64) (r_ : Int64) (hf : f_X9_cut x1 x2 = some r_) :
    mp_M l D T yX9_cut cX9_cut 3 (some .long) ({ frames := 0, cells := 0, slots := 0, locals := 0 }) 0 0 [.int x1, .long x2] (k_X9_cut T ) (mp_Ql D r_ (k_X9_cut T )) := by
  refine mp_of (by decide) (Nat.le_of_ble_eq_true rfl) rfl ?_
  intro p e s m args below meth c A ls X hK hP hD hS hA hl
  replace X : mp_X p s m meth c args RX9 "cut" cX9_cut 3 (some .long) := X
  have hx := X.1
  have hb := X.2.1
  have hml := X.2.2.1
  have hown := X.2.2.2.2.1
  have hts := X.2.2.2.2.2.1
  replace hl : lv_has ls 3 [(0, .int x1), (1, .long x2)] := hl
  replace hf : (if x1 = (nI 0) then some ((((x2).toInt32).toInt8.toInt32).toInt64) else (if x1 = (nI 1) then some ((((x2).toInt32).toInt16.toInt32).toInt64) else (if x1 = (nI 2) then some (((x2).toInt32).toInt64) else some (x2)))) = some r_ := hf
  refine lv_iload_n hx hb dX9_cut_0 rfl (lv_at hl 0 rfl) ?_
  by_cases h1 : x1 = (nI 0)
  · replace hf := if_t hf h1
    refine lv_tableIn (off := 27) (tgt := 28) hx hb dX9_cut_1 (by rw [h1]; decide) (by rw [h1]; decide) (by rw [h1]; decide) (by decide) ?_
    refine lv_lload_n hx hb dX9_cut_28 rfl (lv_at hl 1 rfl) ?_
    refine lv_l2i hx hb dX9_cut_29 rfl ?_
    refine lv_i2b hx hb dX9_cut_30 rfl ?_
    refine lv_i2l hx hb dX9_cut_31 rfl ?_
    cases hf
    exact mp_retl X hP hS rfl dX9_cut_32
  replace hf := if_f hf h1
  by_cases h2 : x1 = (nI 1)
  · replace hf := if_t hf h2
    refine lv_tableIn (off := 32) (tgt := 33) hx hb dX9_cut_1 (by rw [h2]; decide) (by rw [h2]; decide) (by rw [h2]; decide) (by decide) ?_
    refine lv_lload_n hx hb dX9_cut_33 rfl (lv_at hl 1 rfl) ?_
    refine lv_l2i hx hb dX9_cut_34 rfl ?_
    refine lv_i2s hx hb dX9_cut_35 rfl ?_
    refine lv_i2l hx hb dX9_cut_36 rfl ?_
    cases hf
    exact mp_retl X hP hS rfl dX9_cut_37
  replace hf := if_f hf h2
  by_cases h3 : x1 = (nI 2)
  · replace hf := if_t hf h3
    refine lv_tableIn (off := 37) (tgt := 38) hx hb dX9_cut_1 (by rw [h3]; decide) (by rw [h3]; decide) (by rw [h3]; decide) (by decide) ?_
    refine lv_lload_n hx hb dX9_cut_38 rfl (lv_at hl 1 rfl) ?_
    refine lv_l2i hx hb dX9_cut_39 rfl ?_
    refine lv_i2l hx hb dX9_cut_40 rfl ?_
    cases hf
    exact mp_retl X hP hS rfl dX9_cut_41
  replace hf := if_f hf h3
  refine lv_tableOut (tgt := 42) hx hb dX9_cut_1 (sw_out (0) 3 (fun k hk => match k, hk with | 0, _ => fun e => h1 (Int32.toInt_inj.mp e) | 1, _ => fun e => h2 (Int32.toInt_inj.mp e) | 2, _ => fun e => h3 (Int32.toInt_inj.mp e) | k + 3, hk => absurd hk (by omega)) (by decide)) (by decide) ?_
  refine lv_lload_n hx hb dX9_cut_42 rfl (lv_at hl 1 rfl) ?_
  cases hf
  exact mp_retl X hP hS rfl dX9_cut_43


def k_X9_put (T : Nat → ClassId) (a_ a_rows a_sorts a_lengths a_rows_0 a_rows_1 a_rows_2 a_rows_3 : Nat) (v_rows_0 : (Nat → Int64)) (v_rows_1 : (Nat → Int64)) (v_rows_2 : (Nat → Int64)) (v_rows_3 : (Nat → Int64)) (v_sorts : (Nat → Int32)) : va_W := [(a_, oX9 a_rows a_sorts a_lengths), (a_rows, mp_aR T 3 4 [a_rows_0, a_rows_1, a_rows_2, a_rows_3]), (a_rows_0, mp_aJ T 60 v_rows_0), (a_rows_1, mp_aJ T 60 v_rows_1), (a_rows_2, mp_aJ T 60 v_rows_2), (a_rows_3, mp_aJ T 60 v_rows_3), (a_sorts, mp_aI T 4 v_sorts)]
set_option maxHeartbeats 4000000 in
set_option maxRecDepth 100000 in
theorem c_X9_put (l : Launch) (D : va_G) (T : Nat → ClassId) (a_ a_rows a_sorts a_lengths a_rows_0 a_rows_1 a_rows_2 a_rows_3 : Nat) (x1 : Int32) (x2 : Int32) (x3 : Int64) (v_rows_0 : (Nat → Int64)) (v_rows_1 : (Nat → Int64)) (v_rows_2 : (Nat → Int64)) (v_rows_3 : (Nat → Int64)) (v_sorts : (Nat → Int32)) (o_rows_0 : (Nat → Int64)) (o_rows_1 : (Nat → Int64)) (o_rows_2 : (Nat → Int64)) (o_rows_3 : (Nat → Int64)) (hf : f_X9_put x1 x2 x3 v_rows_0 v_rows_1 v_rows_2 v_rows_3 v_sorts = some (o_rows_0, o_rows_1, o_rows_2, o_rows_3)) :
    mp_M l D T yX9_put cX9_put 5 none ({ frames := 1, cells := 0, slots := 0, locals := 22 }) 0 0 [.ref a_, .int x1, .int x2, .long x3] (k_X9_put T a_ a_rows a_sorts a_lengths a_rows_0 a_rows_1 a_rows_2 a_rows_3 v_rows_0 v_rows_1 v_rows_2 v_rows_3 v_sorts) (mp_Qv D (k_X9_put T a_ a_rows a_sorts a_lengths a_rows_0 a_rows_1 a_rows_2 a_rows_3 o_rows_0 o_rows_1 o_rows_2 o_rows_3 v_sorts)) := by
  refine mp_of (by decide) (Nat.le_of_ble_eq_true rfl) rfl ?_
  intro p e s m args below meth c A ls X hK hP hD hS hA hl
  replace X : mp_X p s m meth c args RX9 "put" cX9_put 5 none := X
  have hx := X.1
  have hb := X.2.1
  have hml := X.2.2.1
  have hown := X.2.2.2.2.1
  have hts := X.2.2.2.2.2.1
  replace hl : lv_has ls 5 [(0, .ref a_), (1, .int x1), (2, .int x2), (3, .long x3)] := hl
  replace hf : gi_ x1 4 ((if x1 = (nI 0) then gi_ x1 4 (bd_ (f_X9_cut (v_sorts (x1).toNatClampNeg) x3) (fun (r4 : Int64) => gi_ x2 60 (some (vp_updL v_rows_0 (x2).toNatClampNeg r4, v_rows_1, v_rows_2, v_rows_3)))) else (if x1 = (nI 1) then gi_ x1 4 (bd_ (f_X9_cut (v_sorts (x1).toNatClampNeg) x3) (fun (r9 : Int64) => gi_ x2 60 (some (v_rows_0, vp_updL v_rows_1 (x2).toNatClampNeg r9, v_rows_2, v_rows_3)))) else (if x1 = (nI 2) then gi_ x1 4 (bd_ (f_X9_cut (v_sorts (x1).toNatClampNeg) x3) (fun (r14 : Int64) => gi_ x2 60 (some (v_rows_0, v_rows_1, vp_updL v_rows_2 (x2).toNatClampNeg r14, v_rows_3)))) else gi_ x1 4 (bd_ (f_X9_cut (v_sorts (x1).toNatClampNeg) x3) (fun (r19 : Int64) => gi_ x2 60 (some (v_rows_0, v_rows_1, v_rows_2, vp_updL v_rows_3 (x2).toNatClampNeg r19)))))))) = some (o_rows_0, o_rows_1, o_rows_2, o_rows_3) := hf
  refine lv_aload_n hx hb dX9_put_0 rfl (lv_at hl 0 rfl) ?_
  refine mp_get X fl_X9_11 hK hP 0 rfl rfl dX9_put_1 ?_
  refine lv_iload_n hx hb dX9_put_4 rfl (lv_at hl 1 rfl) ?_
  obtain ⟨h1, hf⟩ := gi_of hf
  refine va_aldqA hx hb hK hP 1 3 rfl rfl h1 dX9_put_5 ?_
  by_cases h2 : x1 = (nI 0)
  · replace hf := if_t hf h2
    rw [show va_rf (mp_ol [a_rows_0, a_rows_1, a_rows_2, a_rows_3] (x1).toNatClampNeg) = .ref a_rows_0 from by rw [h2]; rfl]
    refine lv_iload_n hx hb dX9_put_6 rfl (lv_at hl 2 rfl) ?_
    refine lv_aload_n hx hb dX9_put_7 rfl (lv_at hl 0 rfl) ?_
    refine mp_get X fl_X9_16 hK hP 0 rfl rfl dX9_put_8 ?_
    refine lv_iload_n hx hb dX9_put_11 rfl (lv_at hl 1 rfl) ?_
    obtain ⟨h3, hf⟩ := gi_of hf
    refine va_iald hx hb hK hP 6 0 rfl rfl h3 dX9_put_12 ?_
    refine lv_lload_n hx hb dX9_put_13 rfl (lv_at hl 3 rfl) ?_
    obtain ⟨r4, c5, hf⟩ := bd_of hf
    have hPc := hP.sub (ws' := (k_X9_cut T )) [] rfl
    have hDc := (mp_D_of (w1 := (k_X9_put T a_ a_rows a_sorts a_lengths a_rows_0 a_rows_1 a_rows_2 a_rows_3 v_rows_0 v_rows_1 v_rows_2 v_rows_3 v_sorts)) hD rfl).sub (ws' := (k_X9_cut T )) [] rfl rfl
    refine mp_calll (isC := []) (wc := (k_X9_cut T )) (w1 := (k_X9_cut T )) hP (mp_D_of hD rfl) hS hA rfl rfl (mp_runS (As := [.int (v_sorts (x1).toNatClampNeg), .long x3]) (rest := [.int x2, .ref a_rows_0]) X me_X9_cut lk_X9_32 (c_X9_cut l D T (v_sorts (x1).toNatClampNeg) x3 r4 c5) rfl rfl ⟨(Nat.le_of_ble_eq_true rfl), (Nat.le_of_ble_eq_true rfl)⟩ hK hPc hDc rfl hl.1 rfl (Nat.le_of_ble_eq_true rfl) dX9_put_14 ⟨Nat.zero_le _, Nat.zero_le _⟩) (fun H locs hP _ hS => ?_)
    replace hP : va_P D mp_cl (k_X9_put T a_ a_rows a_sorts a_lengths a_rows_0 a_rows_1 a_rows_2 a_rows_3 v_rows_0 v_rows_1 v_rows_2 v_rows_3 v_sorts) H := hP
    obtain ⟨h6, hf⟩ := gi_of hf
    refine va_last hx hb hK hP (mp_D_of hD rfl) hS 2 1 rfl rfl h6 dX9_put_17 (fun H locs hP _ hS => ?_)
    replace hP : va_P D mp_cl (k_X9_put T a_ a_rows a_sorts a_lengths a_rows_0 a_rows_1 a_rows_2 a_rows_3 (vp_updL v_rows_0 (x2).toNatClampNeg r4) v_rows_1 v_rows_2 v_rows_3 v_sorts) H := hP
    cases hf
    exact mp_retv X hP hS dX9_put_18
  replace hf := if_f hf h2
  by_cases h7 : x1 = (nI 1)
  · replace hf := if_t hf h7
    rw [show va_rf (mp_ol [a_rows_0, a_rows_1, a_rows_2, a_rows_3] (x1).toNatClampNeg) = .ref a_rows_1 from by rw [h7]; rfl]
    refine lv_iload_n hx hb dX9_put_6 rfl (lv_at hl 2 rfl) ?_
    refine lv_aload_n hx hb dX9_put_7 rfl (lv_at hl 0 rfl) ?_
    refine mp_get X fl_X9_16 hK hP 0 rfl rfl dX9_put_8 ?_
    refine lv_iload_n hx hb dX9_put_11 rfl (lv_at hl 1 rfl) ?_
    obtain ⟨h8, hf⟩ := gi_of hf
    refine va_iald hx hb hK hP 6 0 rfl rfl h8 dX9_put_12 ?_
    refine lv_lload_n hx hb dX9_put_13 rfl (lv_at hl 3 rfl) ?_
    obtain ⟨r9, c10, hf⟩ := bd_of hf
    have hPc := hP.sub (ws' := (k_X9_cut T )) [] rfl
    have hDc := (mp_D_of (w1 := (k_X9_put T a_ a_rows a_sorts a_lengths a_rows_0 a_rows_1 a_rows_2 a_rows_3 v_rows_0 v_rows_1 v_rows_2 v_rows_3 v_sorts)) hD rfl).sub (ws' := (k_X9_cut T )) [] rfl rfl
    refine mp_calll (isC := []) (wc := (k_X9_cut T )) (w1 := (k_X9_cut T )) hP (mp_D_of hD rfl) hS hA rfl rfl (mp_runS (As := [.int (v_sorts (x1).toNatClampNeg), .long x3]) (rest := [.int x2, .ref a_rows_1]) X me_X9_cut lk_X9_32 (c_X9_cut l D T (v_sorts (x1).toNatClampNeg) x3 r9 c10) rfl rfl ⟨(Nat.le_of_ble_eq_true rfl), (Nat.le_of_ble_eq_true rfl)⟩ hK hPc hDc rfl hl.1 rfl (Nat.le_of_ble_eq_true rfl) dX9_put_14 ⟨Nat.zero_le _, Nat.zero_le _⟩) (fun H locs hP _ hS => ?_)
    replace hP : va_P D mp_cl (k_X9_put T a_ a_rows a_sorts a_lengths a_rows_0 a_rows_1 a_rows_2 a_rows_3 v_rows_0 v_rows_1 v_rows_2 v_rows_3 v_sorts) H := hP
    obtain ⟨h11, hf⟩ := gi_of hf
    refine va_last hx hb hK hP (mp_D_of hD rfl) hS 3 1 rfl rfl h11 dX9_put_17 (fun H locs hP _ hS => ?_)
    replace hP : va_P D mp_cl (k_X9_put T a_ a_rows a_sorts a_lengths a_rows_0 a_rows_1 a_rows_2 a_rows_3 v_rows_0 (vp_updL v_rows_1 (x2).toNatClampNeg r9) v_rows_2 v_rows_3 v_sorts) H := hP
    cases hf
    exact mp_retv X hP hS dX9_put_18
  replace hf := if_f hf h7
  by_cases h12 : x1 = (nI 2)
  · replace hf := if_t hf h12
    rw [show va_rf (mp_ol [a_rows_0, a_rows_1, a_rows_2, a_rows_3] (x1).toNatClampNeg) = .ref a_rows_2 from by rw [h12]; rfl]
    refine lv_iload_n hx hb dX9_put_6 rfl (lv_at hl 2 rfl) ?_
    refine lv_aload_n hx hb dX9_put_7 rfl (lv_at hl 0 rfl) ?_
    refine mp_get X fl_X9_16 hK hP 0 rfl rfl dX9_put_8 ?_
    refine lv_iload_n hx hb dX9_put_11 rfl (lv_at hl 1 rfl) ?_
    obtain ⟨h13, hf⟩ := gi_of hf
    refine va_iald hx hb hK hP 6 0 rfl rfl h13 dX9_put_12 ?_
    refine lv_lload_n hx hb dX9_put_13 rfl (lv_at hl 3 rfl) ?_
    obtain ⟨r14, c15, hf⟩ := bd_of hf
    have hPc := hP.sub (ws' := (k_X9_cut T )) [] rfl
    have hDc := (mp_D_of (w1 := (k_X9_put T a_ a_rows a_sorts a_lengths a_rows_0 a_rows_1 a_rows_2 a_rows_3 v_rows_0 v_rows_1 v_rows_2 v_rows_3 v_sorts)) hD rfl).sub (ws' := (k_X9_cut T )) [] rfl rfl
    refine mp_calll (isC := []) (wc := (k_X9_cut T )) (w1 := (k_X9_cut T )) hP (mp_D_of hD rfl) hS hA rfl rfl (mp_runS (As := [.int (v_sorts (x1).toNatClampNeg), .long x3]) (rest := [.int x2, .ref a_rows_2]) X me_X9_cut lk_X9_32 (c_X9_cut l D T (v_sorts (x1).toNatClampNeg) x3 r14 c15) rfl rfl ⟨(Nat.le_of_ble_eq_true rfl), (Nat.le_of_ble_eq_true rfl)⟩ hK hPc hDc rfl hl.1 rfl (Nat.le_of_ble_eq_true rfl) dX9_put_14 ⟨Nat.zero_le _, Nat.zero_le _⟩) (fun H locs hP _ hS => ?_)
    replace hP : va_P D mp_cl (k_X9_put T a_ a_rows a_sorts a_lengths a_rows_0 a_rows_1 a_rows_2 a_rows_3 v_rows_0 v_rows_1 v_rows_2 v_rows_3 v_sorts) H := hP
    obtain ⟨h16, hf⟩ := gi_of hf
    refine va_last hx hb hK hP (mp_D_of hD rfl) hS 4 1 rfl rfl h16 dX9_put_17 (fun H locs hP _ hS => ?_)
    replace hP : va_P D mp_cl (k_X9_put T a_ a_rows a_sorts a_lengths a_rows_0 a_rows_1 a_rows_2 a_rows_3 v_rows_0 v_rows_1 (vp_updL v_rows_2 (x2).toNatClampNeg r14) v_rows_3 v_sorts) H := hP
    cases hf
    exact mp_retv X hP hS dX9_put_18
  replace hf := if_f hf h12
  have h17 : x1 = (nI 3) := mp_last4 h1 h2 h7 h12
  rw [show va_rf (mp_ol [a_rows_0, a_rows_1, a_rows_2, a_rows_3] (x1).toNatClampNeg) = .ref a_rows_3 from by rw [h17]; rfl]
  refine lv_iload_n hx hb dX9_put_6 rfl (lv_at hl 2 rfl) ?_
  refine lv_aload_n hx hb dX9_put_7 rfl (lv_at hl 0 rfl) ?_
  refine mp_get X fl_X9_16 hK hP 0 rfl rfl dX9_put_8 ?_
  refine lv_iload_n hx hb dX9_put_11 rfl (lv_at hl 1 rfl) ?_
  obtain ⟨h18, hf⟩ := gi_of hf
  refine va_iald hx hb hK hP 6 0 rfl rfl h18 dX9_put_12 ?_
  refine lv_lload_n hx hb dX9_put_13 rfl (lv_at hl 3 rfl) ?_
  obtain ⟨r19, c20, hf⟩ := bd_of hf
  have hPc := hP.sub (ws' := (k_X9_cut T )) [] rfl
  have hDc := (mp_D_of (w1 := (k_X9_put T a_ a_rows a_sorts a_lengths a_rows_0 a_rows_1 a_rows_2 a_rows_3 v_rows_0 v_rows_1 v_rows_2 v_rows_3 v_sorts)) hD rfl).sub (ws' := (k_X9_cut T )) [] rfl rfl
  refine mp_calll (isC := []) (wc := (k_X9_cut T )) (w1 := (k_X9_cut T )) hP (mp_D_of hD rfl) hS hA rfl rfl (mp_runS (As := [.int (v_sorts (x1).toNatClampNeg), .long x3]) (rest := [.int x2, .ref a_rows_3]) X me_X9_cut lk_X9_32 (c_X9_cut l D T (v_sorts (x1).toNatClampNeg) x3 r19 c20) rfl rfl ⟨(Nat.le_of_ble_eq_true rfl), (Nat.le_of_ble_eq_true rfl)⟩ hK hPc hDc rfl hl.1 rfl (Nat.le_of_ble_eq_true rfl) dX9_put_14 ⟨Nat.zero_le _, Nat.zero_le _⟩) (fun H locs hP _ hS => ?_)
  replace hP : va_P D mp_cl (k_X9_put T a_ a_rows a_sorts a_lengths a_rows_0 a_rows_1 a_rows_2 a_rows_3 v_rows_0 v_rows_1 v_rows_2 v_rows_3 v_sorts) H := hP
  obtain ⟨h21, hf⟩ := gi_of hf
  refine va_last hx hb hK hP (mp_D_of hD rfl) hS 5 1 rfl rfl h21 dX9_put_17 (fun H locs hP _ hS => ?_)
  replace hP : va_P D mp_cl (k_X9_put T a_ a_rows a_sorts a_lengths a_rows_0 a_rows_1 a_rows_2 a_rows_3 v_rows_0 v_rows_1 v_rows_2 (vp_updL v_rows_3 (x2).toNatClampNeg r19) v_sorts) H := hP
  cases hf
  exact mp_retv X hP hS dX9_put_18


def k_X9_placeStatus (T : Nat → ClassId) (a_ a_rows a_sorts a_lengths : Nat) (v_lengths : (Nat → Int32)) : va_W := [(a_, oX9 a_rows a_sorts a_lengths), (a_lengths, mp_aI T 4 v_lengths)]
set_option maxHeartbeats 4000000 in
set_option maxRecDepth 100000 in
theorem c_X9_placeStatus (l : Launch) (D : va_G) (T : Nat → ClassId) (a_ a_rows a_sorts a_lengths : Nat) (x1 : Int32) (x2 : Int32) (v_lengths : (Nat → Int32)) (r_ : Int32) (hf : f_X9_placeStatus x1 x2 v_lengths = some r_) :
    mp_M l D T yX9_placeStatus cX9_placeStatus 3 (some .int) ({ frames := 1, cells := 0, slots := 0, locals := 21 }) 0 0 [.ref a_, .int x1, .int x2] (k_X9_placeStatus T a_ a_rows a_sorts a_lengths v_lengths) (mp_Qi D r_ (k_X9_placeStatus T a_ a_rows a_sorts a_lengths v_lengths)) := by
  refine mp_of (by decide) (Nat.le_of_ble_eq_true rfl) rfl ?_
  intro p e s m args below meth c A ls X hK hP hD hS hA hl
  replace X : mp_X p s m meth c args RX9 "placeStatus" cX9_placeStatus 3 (some .int) := X
  have hx := X.1
  have hb := X.2.1
  have hml := X.2.2.1
  have hown := X.2.2.2.2.1
  have hts := X.2.2.2.2.2.1
  replace hl : lv_has ls 3 [(0, .ref a_), (1, .int x1), (2, .int x2)] := hl
  replace hf : bd_ (f_X9_isKnown x1) (fun (r1 : Int32) => (if r1 = 0 then some ((nI 1)) else bd_ (f_X9_isMissing x1 v_lengths) (fun (r4 : Int32) => (if r4 = 0 then (if x2 < 0 then some ((nI 4)) else gi_ x1 4 ((if (v_lengths (x1).toNatClampNeg) ≤ x2 then some ((nI 4)) else some ((nI 0))))) else some ((nI 3)))))) = some r_ := hf
  refine lv_aload_n hx hb dX9_placeStatus_0 rfl (lv_at hl 0 rfl) ?_
  refine lv_iload_n hx hb dX9_placeStatus_1 rfl (lv_at hl 1 rfl) ?_
  obtain ⟨r1, c2, hf⟩ := bd_of hf
  have hPc := hP.sub (ws' := (k_X9_isKnown T a_ a_rows a_sorts a_lengths)) [0] rfl
  have hDc := (mp_D_of (w1 := (k_X9_placeStatus T a_ a_rows a_sorts a_lengths v_lengths)) hD rfl).sub (ws' := (k_X9_isKnown T a_ a_rows a_sorts a_lengths)) [0] rfl rfl
  refine mp_calli (isC := [0]) (wc := (k_X9_isKnown T a_ a_rows a_sorts a_lengths)) (w1 := (k_X9_isKnown T a_ a_rows a_sorts a_lengths)) hP (mp_D_of hD rfl) hS hA rfl rfl (mp_runV (As := [.int x1]) (rest := []) X me_X9_isKnown lk_X9_36 (c_X9_isKnown l D T a_ a_rows a_sorts a_lengths x1 r1 c2) rfl rfl ⟨(Nat.le_of_ble_eq_true rfl), (Nat.le_of_ble_eq_true rfl)⟩ hK hPc hDc rfl rfl rfl rfl hl.1 rfl (Nat.le_of_ble_eq_true rfl) dX9_placeStatus_2 ⟨Nat.zero_le _, Nat.zero_le _⟩) (fun H locs hP _ hS => ?_)
  replace hP : va_P D mp_cl (k_X9_placeStatus T a_ a_rows a_sorts a_lengths v_lengths) H := hP
  refine lv_if_ne (tgt := 10) hx hb dX9_placeStatus_5 (by decide) (fun h3 => ?_) (fun h3 => ?_)
  · replace hf := if_f hf h3
    refine lv_aload_n hx hb dX9_placeStatus_10 rfl (lv_at hl 0 rfl) ?_
    refine lv_iload_n hx hb dX9_placeStatus_11 rfl (lv_at hl 1 rfl) ?_
    obtain ⟨r4, c5, hf⟩ := bd_of hf
    have hPc := hP.sub (ws' := (k_X9_isMissing T a_ a_rows a_sorts a_lengths v_lengths)) [0, 1] rfl
    have hDc := (mp_D_of (w1 := (k_X9_placeStatus T a_ a_rows a_sorts a_lengths v_lengths)) hD rfl).sub (ws' := (k_X9_isMissing T a_ a_rows a_sorts a_lengths v_lengths)) [0, 1] rfl rfl
    refine mp_calli (isC := [0, 1]) (wc := (k_X9_isMissing T a_ a_rows a_sorts a_lengths v_lengths)) (w1 := (k_X9_isMissing T a_ a_rows a_sorts a_lengths v_lengths)) hP (mp_D_of hD rfl) hS hA rfl rfl (mp_runV (As := [.int x1]) (rest := []) X me_X9_isMissing lk_X9_40 (c_X9_isMissing l D T a_ a_rows a_sorts a_lengths x1 v_lengths r4 c5) rfl rfl ⟨(Nat.le_of_ble_eq_true rfl), (Nat.le_of_ble_eq_true rfl)⟩ hK hPc hDc rfl rfl rfl rfl hl.1 rfl (Nat.le_of_ble_eq_true rfl) dX9_placeStatus_12 ⟨Nat.zero_le _, Nat.zero_le _⟩) (fun H locs hP _ hS => ?_)
    replace hP : va_P D mp_cl (k_X9_placeStatus T a_ a_rows a_sorts a_lengths v_lengths) H := hP
    refine lv_if_eq (tgt := 20) hx hb dX9_placeStatus_15 (by decide) (fun h6 => ?_) (fun h6 => ?_)
    · replace hf := if_t hf h6
      refine lv_iload_n hx hb dX9_placeStatus_20 rfl (lv_at hl 2 rfl) ?_
      refine lv_if_lt (tgt := 38) hx hb dX9_placeStatus_21 (by decide) (fun h7 => ?_) (fun h7 => ?_)
      · replace hf := if_t hf h7
        refine lv_iconst (v := (nI 4)) hx hb dX9_placeStatus_38 (by decide) ?_
        cases hf
        exact mp_reti X hP hS rfl dX9_placeStatus_39
      · replace hf := if_f hf h7
        refine lv_iload_n hx hb dX9_placeStatus_24 rfl (lv_at hl 2 rfl) ?_
        refine lv_aload_n hx hb dX9_placeStatus_25 rfl (lv_at hl 0 rfl) ?_
        refine mp_get X fl_X9_20 hK hP 0 rfl rfl dX9_placeStatus_26 ?_
        refine lv_iload_n hx hb dX9_placeStatus_29 rfl (lv_at hl 1 rfl) ?_
        obtain ⟨h8, hf⟩ := gi_of hf
        refine va_iald hx hb hK hP 1 0 rfl rfl h8 dX9_placeStatus_30 ?_
        refine lv_icmp_ge (tgt := 38) hx hb dX9_placeStatus_31 (by decide) (fun h9 => ?_) (fun h9 => ?_)
        · replace hf := if_t hf h9
          refine lv_iconst (v := (nI 4)) hx hb dX9_placeStatus_38 (by decide) ?_
          cases hf
          exact mp_reti X hP hS rfl dX9_placeStatus_39
        · replace hf := if_f hf h9
          refine lv_iconst (v := (nI 0)) hx hb dX9_placeStatus_34 (by decide) ?_
          refine lv_goto (tgt := 39) hx hb dX9_placeStatus_35 (by decide) ?_
          cases hf
          exact mp_reti X hP hS rfl dX9_placeStatus_39
    · replace hf := if_f hf h6
      refine lv_iconst (v := (nI 3)) hx hb dX9_placeStatus_18 (by decide) ?_
      cases hf
      exact mp_reti X hP hS rfl dX9_placeStatus_19
  · replace hf := if_t hf h3
    refine lv_iconst (v := (nI 1)) hx hb dX9_placeStatus_8 (by decide) ?_
    cases hf
    exact mp_reti X hP hS rfl dX9_placeStatus_9


def k_X9_pairStatus (T : Nat → ClassId) (a_ a_rows a_sorts a_lengths : Nat) (v_lengths : (Nat → Int32)) : va_W := [(a_, oX9 a_rows a_sorts a_lengths), (a_lengths, mp_aI T 4 v_lengths)]
set_option maxHeartbeats 4000000 in
set_option maxRecDepth 100000 in
theorem c_X9_pairStatus (l : Launch) (D : va_G) (T : Nat → ClassId) (a_ a_rows a_sorts a_lengths : Nat) (x1 : Int32) (x2 : Int32) (v_lengths : (Nat → Int32)) (r_ : Int32) (hf : f_X9_pairStatus x1 x2 v_lengths = some r_) :
    mp_M l D T yX9_pairStatus cX9_pairStatus 3 (some .int) ({ frames := 1, cells := 0, slots := 0, locals := 21 }) 0 0 [.ref a_, .int x1, .int x2] (k_X9_pairStatus T a_ a_rows a_sorts a_lengths v_lengths) (mp_Qi D r_ (k_X9_pairStatus T a_ a_rows a_sorts a_lengths v_lengths)) := by
  refine mp_of (by decide) (Nat.le_of_ble_eq_true rfl) rfl ?_
  intro p e s m args below meth c A ls X hK hP hD hS hA hl
  replace X : mp_X p s m meth c args RX9 "pairStatus" cX9_pairStatus 3 (some .int) := X
  have hx := X.1
  have hb := X.2.1
  have hml := X.2.2.1
  have hown := X.2.2.2.2.1
  have hts := X.2.2.2.2.2.1
  replace hl : lv_has ls 3 [(0, .ref a_), (1, .int x1), (2, .int x2)] := hl
  replace hf : bd_ (f_X9_isKnown x1) (fun (r1 : Int32) => (if r1 = 0 then some ((nI 1)) else bd_ (f_X9_isKnown x2) (fun (r4 : Int32) => (if r4 = 0 then some ((nI 1)) else bd_ (f_X9_isMissing x1 v_lengths) (fun (r7 : Int32) => (if r7 = 0 then bd_ (f_X9_isMissing x2 v_lengths) (fun (r10 : Int32) => (if r10 = 0 then some ((nI 0)) else some ((nI 3)))) else some ((nI 3)))))))) = some r_ := hf
  refine lv_aload_n hx hb dX9_pairStatus_0 rfl (lv_at hl 0 rfl) ?_
  refine lv_iload_n hx hb dX9_pairStatus_1 rfl (lv_at hl 1 rfl) ?_
  obtain ⟨r1, c2, hf⟩ := bd_of hf
  have hPc := hP.sub (ws' := (k_X9_isKnown T a_ a_rows a_sorts a_lengths)) [0] rfl
  have hDc := (mp_D_of (w1 := (k_X9_pairStatus T a_ a_rows a_sorts a_lengths v_lengths)) hD rfl).sub (ws' := (k_X9_isKnown T a_ a_rows a_sorts a_lengths)) [0] rfl rfl
  refine mp_calli (isC := [0]) (wc := (k_X9_isKnown T a_ a_rows a_sorts a_lengths)) (w1 := (k_X9_isKnown T a_ a_rows a_sorts a_lengths)) hP (mp_D_of hD rfl) hS hA rfl rfl (mp_runV (As := [.int x1]) (rest := []) X me_X9_isKnown lk_X9_36 (c_X9_isKnown l D T a_ a_rows a_sorts a_lengths x1 r1 c2) rfl rfl ⟨(Nat.le_of_ble_eq_true rfl), (Nat.le_of_ble_eq_true rfl)⟩ hK hPc hDc rfl rfl rfl rfl hl.1 rfl (Nat.le_of_ble_eq_true rfl) dX9_pairStatus_2 ⟨Nat.zero_le _, Nat.zero_le _⟩) (fun H locs hP _ hS => ?_)
  replace hP : va_P D mp_cl (k_X9_pairStatus T a_ a_rows a_sorts a_lengths v_lengths) H := hP
  refine lv_if_eq (tgt := 16) hx hb dX9_pairStatus_5 (by decide) (fun h3 => ?_) (fun h3 => ?_)
  · replace hf := if_t hf h3
    refine lv_iconst (v := (nI 1)) hx hb dX9_pairStatus_16 (by decide) ?_
    cases hf
    exact mp_reti X hP hS rfl dX9_pairStatus_17
  · replace hf := if_f hf h3
    refine lv_aload_n hx hb dX9_pairStatus_8 rfl (lv_at hl 0 rfl) ?_
    refine lv_iload_n hx hb dX9_pairStatus_9 rfl (lv_at hl 2 rfl) ?_
    obtain ⟨r4, c5, hf⟩ := bd_of hf
    have hPc := hP.sub (ws' := (k_X9_isKnown T a_ a_rows a_sorts a_lengths)) [0] rfl
    have hDc := (mp_D_of (w1 := (k_X9_pairStatus T a_ a_rows a_sorts a_lengths v_lengths)) hD rfl).sub (ws' := (k_X9_isKnown T a_ a_rows a_sorts a_lengths)) [0] rfl rfl
    refine mp_calli (isC := [0]) (wc := (k_X9_isKnown T a_ a_rows a_sorts a_lengths)) (w1 := (k_X9_isKnown T a_ a_rows a_sorts a_lengths)) hP (mp_D_of hD rfl) hS hA rfl rfl (mp_runV (As := [.int x2]) (rest := []) X me_X9_isKnown lk_X9_36 (c_X9_isKnown l D T a_ a_rows a_sorts a_lengths x2 r4 c5) rfl rfl ⟨(Nat.le_of_ble_eq_true rfl), (Nat.le_of_ble_eq_true rfl)⟩ hK hPc hDc rfl rfl rfl rfl hl.1 rfl (Nat.le_of_ble_eq_true rfl) dX9_pairStatus_10 ⟨Nat.zero_le _, Nat.zero_le _⟩) (fun H locs hP _ hS => ?_)
    replace hP : va_P D mp_cl (k_X9_pairStatus T a_ a_rows a_sorts a_lengths v_lengths) H := hP
    refine lv_if_ne (tgt := 18) hx hb dX9_pairStatus_13 (by decide) (fun h6 => ?_) (fun h6 => ?_)
    · replace hf := if_f hf h6
      refine lv_aload_n hx hb dX9_pairStatus_18 rfl (lv_at hl 0 rfl) ?_
      refine lv_iload_n hx hb dX9_pairStatus_19 rfl (lv_at hl 1 rfl) ?_
      obtain ⟨r7, c8, hf⟩ := bd_of hf
      have hPc := hP.sub (ws' := (k_X9_isMissing T a_ a_rows a_sorts a_lengths v_lengths)) [0, 1] rfl
      have hDc := (mp_D_of (w1 := (k_X9_pairStatus T a_ a_rows a_sorts a_lengths v_lengths)) hD rfl).sub (ws' := (k_X9_isMissing T a_ a_rows a_sorts a_lengths v_lengths)) [0, 1] rfl rfl
      refine mp_calli (isC := [0, 1]) (wc := (k_X9_isMissing T a_ a_rows a_sorts a_lengths v_lengths)) (w1 := (k_X9_isMissing T a_ a_rows a_sorts a_lengths v_lengths)) hP (mp_D_of hD rfl) hS hA rfl rfl (mp_runV (As := [.int x1]) (rest := []) X me_X9_isMissing lk_X9_40 (c_X9_isMissing l D T a_ a_rows a_sorts a_lengths x1 v_lengths r7 c8) rfl rfl ⟨(Nat.le_of_ble_eq_true rfl), (Nat.le_of_ble_eq_true rfl)⟩ hK hPc hDc rfl rfl rfl rfl hl.1 rfl (Nat.le_of_ble_eq_true rfl) dX9_pairStatus_20 ⟨Nat.zero_le _, Nat.zero_le _⟩) (fun H locs hP _ hS => ?_)
      replace hP : va_P D mp_cl (k_X9_pairStatus T a_ a_rows a_sorts a_lengths v_lengths) H := hP
      refine lv_if_ne (tgt := 34) hx hb dX9_pairStatus_23 (by decide) (fun h9 => ?_) (fun h9 => ?_)
      · replace hf := if_f hf h9
        refine lv_iconst (v := (nI 3)) hx hb dX9_pairStatus_34 (by decide) ?_
        refine lv_goto (tgt := 39) hx hb dX9_pairStatus_35 (by decide) ?_
        cases hf
        exact mp_reti X hP hS rfl dX9_pairStatus_39
      · replace hf := if_t hf h9
        refine lv_aload_n hx hb dX9_pairStatus_26 rfl (lv_at hl 0 rfl) ?_
        refine lv_iload_n hx hb dX9_pairStatus_27 rfl (lv_at hl 2 rfl) ?_
        obtain ⟨r10, c11, hf⟩ := bd_of hf
        have hPc := hP.sub (ws' := (k_X9_isMissing T a_ a_rows a_sorts a_lengths v_lengths)) [0, 1] rfl
        have hDc := (mp_D_of (w1 := (k_X9_pairStatus T a_ a_rows a_sorts a_lengths v_lengths)) hD rfl).sub (ws' := (k_X9_isMissing T a_ a_rows a_sorts a_lengths v_lengths)) [0, 1] rfl rfl
        refine mp_calli (isC := [0, 1]) (wc := (k_X9_isMissing T a_ a_rows a_sorts a_lengths v_lengths)) (w1 := (k_X9_isMissing T a_ a_rows a_sorts a_lengths v_lengths)) hP (mp_D_of hD rfl) hS hA rfl rfl (mp_runV (As := [.int x2]) (rest := []) X me_X9_isMissing lk_X9_40 (c_X9_isMissing l D T a_ a_rows a_sorts a_lengths x2 v_lengths r10 c11) rfl rfl ⟨(Nat.le_of_ble_eq_true rfl), (Nat.le_of_ble_eq_true rfl)⟩ hK hPc hDc rfl rfl rfl rfl hl.1 rfl (Nat.le_of_ble_eq_true rfl) dX9_pairStatus_28 ⟨Nat.zero_le _, Nat.zero_le _⟩) (fun H locs hP _ hS => ?_)
        replace hP : va_P D mp_cl (k_X9_pairStatus T a_ a_rows a_sorts a_lengths v_lengths) H := hP
        refine lv_if_eq (tgt := 38) hx hb dX9_pairStatus_31 (by decide) (fun h12 => ?_) (fun h12 => ?_)
        · replace hf := if_t hf h12
          refine lv_iconst (v := (nI 0)) hx hb dX9_pairStatus_38 (by decide) ?_
          cases hf
          exact mp_reti X hP hS rfl dX9_pairStatus_39
        · replace hf := if_f hf h12
          refine lv_iconst (v := (nI 3)) hx hb dX9_pairStatus_34 (by decide) ?_
          refine lv_goto (tgt := 39) hx hb dX9_pairStatus_35 (by decide) ?_
          cases hf
          exact mp_reti X hP hS rfl dX9_pairStatus_39
    · replace hf := if_t hf h6
      refine lv_iconst (v := (nI 1)) hx hb dX9_pairStatus_16 (by decide) ?_
      cases hf
      exact mp_reti X hP hS rfl dX9_pairStatus_17


def k_X9_hasRun (T : Nat → ClassId) (a_ a_rows a_sorts a_lengths : Nat) (v_lengths : (Nat → Int32)) : va_W := [(a_, oX9 a_rows a_sorts a_lengths), (a_lengths, mp_aI T 4 v_lengths)]
set_option maxHeartbeats 4000000 in
set_option maxRecDepth 100000 in
theorem c_X9_hasRun (l : Launch) (D : va_G) (T : Nat → ClassId) (a_ a_rows a_sorts a_lengths : Nat) (x1 : Int32) (x2 : Int32) (x3 : Int32) (v_lengths : (Nat → Int32)) (r_ : Int32) (hf : f_X9_hasRun x1 x2 x3 v_lengths = some r_) :
    mp_M l D T yX9_hasRun cX9_hasRun 4 (some .boolean) ({ frames := 0, cells := 0, slots := 0, locals := 0 }) 0 0 [.ref a_, .int x1, .int x2, .int x3] (k_X9_hasRun T a_ a_rows a_sorts a_lengths v_lengths) (mp_Qi D r_ (k_X9_hasRun T a_ a_rows a_sorts a_lengths v_lengths)) := by
  refine mp_of (by decide) (Nat.le_of_ble_eq_true rfl) rfl ?_
  intro p e s m args below meth c A ls X hK hP hD hS hA hl
  replace X : mp_X p s m meth c args RX9 "hasRun" cX9_hasRun 4 (some .boolean) := X
  have hx := X.1
  have hb := X.2.1
  have hml := X.2.2.1
  have hown := X.2.2.2.2.1
  have hts := X.2.2.2.2.2.1
  replace hl : lv_has ls 4 [(0, .ref a_), (1, .int x1), (2, .int x2), (3, .int x3)] := hl
  replace hf : (if x2 < 0 then some ((nI 0)) else gi_ x1 4 ((if (v_lengths (x1).toNatClampNeg) < x2 then some ((nI 0)) else gi_ x1 4 ((if ((v_lengths (x1).toNatClampNeg) - x2) < x3 then some ((nI 0)) else some ((nI 1))))))) = some r_ := hf
  refine lv_iload_n hx hb dX9_hasRun_0 rfl (lv_at hl 2 rfl) ?_
  refine lv_if_lt (tgt := 30) hx hb dX9_hasRun_1 (by decide) (fun h1 => ?_) (fun h1 => ?_)
  · replace hf := if_t hf h1
    refine lv_iconst (v := (nI 0)) hx hb dX9_hasRun_30 (by decide) ?_
    cases hf
    exact mp_retz X hP hS rfl (Or.inl rfl) dX9_hasRun_31
  · replace hf := if_f hf h1
    refine lv_iload_n hx hb dX9_hasRun_4 rfl (lv_at hl 2 rfl) ?_
    refine lv_aload_n hx hb dX9_hasRun_5 rfl (lv_at hl 0 rfl) ?_
    refine mp_get X fl_X9_20 hK hP 0 rfl rfl dX9_hasRun_6 ?_
    refine lv_iload_n hx hb dX9_hasRun_9 rfl (lv_at hl 1 rfl) ?_
    obtain ⟨h2, hf⟩ := gi_of hf
    refine va_iald hx hb hK hP 1 0 rfl rfl h2 dX9_hasRun_10 ?_
    refine lv_icmp_gt (tgt := 30) hx hb dX9_hasRun_11 (by decide) (fun h3 => ?_) (fun h3 => ?_)
    · replace hf := if_t hf h3
      refine lv_iconst (v := (nI 0)) hx hb dX9_hasRun_30 (by decide) ?_
      cases hf
      exact mp_retz X hP hS rfl (Or.inl rfl) dX9_hasRun_31
    · replace hf := if_f hf h3
      refine lv_iload_n hx hb dX9_hasRun_14 rfl (lv_at hl 3 rfl) ?_
      refine lv_aload_n hx hb dX9_hasRun_15 rfl (lv_at hl 0 rfl) ?_
      refine mp_get X fl_X9_20 hK hP 0 rfl rfl dX9_hasRun_16 ?_
      refine lv_iload_n hx hb dX9_hasRun_19 rfl (lv_at hl 1 rfl) ?_
      obtain ⟨h4, hf⟩ := gi_of hf
      refine va_iald hx hb hK hP 1 0 rfl rfl h4 dX9_hasRun_20 ?_
      refine lv_iload_n hx hb dX9_hasRun_21 rfl (lv_at hl 2 rfl) ?_
      refine lv_isub hx hb dX9_hasRun_22 ?_
      refine lv_icmp_gt (tgt := 30) hx hb dX9_hasRun_23 (by decide) (fun h5 => ?_) (fun h5 => ?_)
      · replace hf := if_t hf h5
        refine lv_iconst (v := (nI 0)) hx hb dX9_hasRun_30 (by decide) ?_
        cases hf
        exact mp_retz X hP hS rfl (Or.inl rfl) dX9_hasRun_31
      · replace hf := if_f hf h5
        refine lv_iconst (v := (nI 1)) hx hb dX9_hasRun_26 (by decide) ?_
        refine lv_goto (tgt := 31) hx hb dX9_hasRun_27 (by decide) ?_
        cases hf
        exact mp_retz X hP hS rfl (Or.inr rfl) dX9_hasRun_31


def k_X9_pourStatus (T : Nat → ClassId) (a_ a_rows a_sorts a_lengths : Nat) (v_lengths : (Nat → Int32)) (v_sorts : (Nat → Int32)) : va_W := [(a_, oX9 a_rows a_sorts a_lengths), (a_lengths, mp_aI T 4 v_lengths), (a_sorts, mp_aI T 4 v_sorts)]
set_option maxHeartbeats 4000000 in
set_option maxRecDepth 100000 in
theorem c_X9_pourStatus (l : Launch) (D : va_G) (T : Nat → ClassId) (a_ a_rows a_sorts a_lengths : Nat) (x1 : Int32) (x2 : Int32) (x3 : Int32) (x4 : Int32) (x5 : Int32) (v_lengths : (Nat → Int32)) (v_sorts : (Nat → Int32)) (r_ : Int32) (hf : f_X9_pourStatus x1 x2 x3 x4 x5 v_lengths v_sorts = some r_) :
    mp_M l D T yX9_pourStatus cX9_pourStatus 7 (some .int) ({ frames := 2, cells := 0, slots := 0, locals := 43 }) 0 0 [.ref a_, .int x1, .int x2, .int x3, .int x4, .int x5] (k_X9_pourStatus T a_ a_rows a_sorts a_lengths v_lengths v_sorts) (mp_Qi D r_ (k_X9_pourStatus T a_ a_rows a_sorts a_lengths v_lengths v_sorts)) := by
  refine mp_of (by decide) (Nat.le_of_ble_eq_true rfl) rfl ?_
  intro p e s m args below meth c A ls X hK hP hD hS hA hl
  replace X : mp_X p s m meth c args RX9 "pourStatus" cX9_pourStatus 7 (some .int) := X
  have hx := X.1
  have hb := X.2.1
  have hml := X.2.2.1
  have hown := X.2.2.2.2.1
  have hts := X.2.2.2.2.2.1
  replace hl : lv_has ls 7 [(0, .ref a_), (1, .int x1), (2, .int x2), (3, .int x3), (4, .int x4), (5, .int x5)] := hl
  replace hf : bd_ (f_X9_pairStatus x1 x3 v_lengths) (fun (r1 : Int32) => (if r1 = 0 then gi_ x1 4 (gi_ x3 4 ((if (v_sorts (x1).toNatClampNeg) = (v_sorts (x3).toNatClampNeg) then (if 0 ≤ x5 then bd_ (f_X9_hasRun x1 x2 x5 v_lengths) (fun (r8 : Int32) => (if r8 = 0 then some ((nI 4)) else bd_ (f_X9_hasRun x3 x4 x5 v_lengths) (fun (r11 : Int32) => (if r11 = 0 then some ((nI 4)) else some ((nI 0)))))) else some ((nI 6))) else some ((nI 11))))) else some (r1))) = some r_ := hf
  refine lv_aload_n hx hb dX9_pourStatus_0 rfl (lv_at hl 0 rfl) ?_
  refine lv_iload_n hx hb dX9_pourStatus_1 rfl (lv_at hl 1 rfl) ?_
  refine lv_iload_n hx hb dX9_pourStatus_2 rfl (lv_at hl 3 rfl) ?_
  obtain ⟨r1, c2, hf⟩ := bd_of hf
  have hPc := hP.sub (ws' := (k_X9_pairStatus T a_ a_rows a_sorts a_lengths v_lengths)) [0, 1] rfl
  have hDc := (mp_D_of (w1 := (k_X9_pourStatus T a_ a_rows a_sorts a_lengths v_lengths v_sorts)) hD rfl).sub (ws' := (k_X9_pairStatus T a_ a_rows a_sorts a_lengths v_lengths)) [0, 1] rfl rfl
  refine mp_calli (isC := [0, 1]) (wc := (k_X9_pairStatus T a_ a_rows a_sorts a_lengths v_lengths)) (w1 := (k_X9_pairStatus T a_ a_rows a_sorts a_lengths v_lengths)) hP (mp_D_of hD rfl) hS hA rfl rfl (mp_runV (As := [.int x1, .int x3]) (rest := []) X me_X9_pairStatus lk_X9_43 (c_X9_pairStatus l D T a_ a_rows a_sorts a_lengths x1 x3 v_lengths r1 c2) rfl rfl ⟨(Nat.le_of_ble_eq_true rfl), (Nat.le_of_ble_eq_true rfl)⟩ hK hPc hDc rfl rfl rfl rfl hl.1 rfl (Nat.le_of_ble_eq_true rfl) dX9_pourStatus_3 ⟨Nat.zero_le _, Nat.zero_le _⟩) (fun H locs hP _ hS => ?_)
  replace hP : va_P D mp_cl (k_X9_pourStatus T a_ a_rows a_sorts a_lengths v_lengths v_sorts) H := hP
  refine lv_istore (lv' := [(6, .int r1), (0, .ref a_), (1, .int x1), (2, .int x2), (3, .int x3), (4, .int x4), (5, .int x5)]) hx hb dX9_pourStatus_6 hl (by decide) rfl (fun ls hl => ?_)
  refine lv_iload hx hb dX9_pourStatus_8 (lv_at hl 0 rfl) ?_
  refine lv_if_eq (tgt := 16) hx hb dX9_pourStatus_10 (by decide) (fun h3 => ?_) (fun h3 => ?_)
  · replace hf := if_t hf h3
    refine lv_aload_n hx hb dX9_pourStatus_16 rfl (lv_at hl 1 rfl) ?_
    refine mp_get X fl_X9_16 hK hP 0 rfl rfl dX9_pourStatus_17 ?_
    refine lv_iload_n hx hb dX9_pourStatus_20 rfl (lv_at hl 2 rfl) ?_
    obtain ⟨h4, hf⟩ := gi_of hf
    refine va_iald hx hb hK hP 2 0 rfl rfl h4 dX9_pourStatus_21 ?_
    refine lv_aload_n hx hb dX9_pourStatus_22 rfl (lv_at hl 1 rfl) ?_
    refine mp_get X fl_X9_16 hK hP 0 rfl rfl dX9_pourStatus_23 ?_
    refine lv_iload_n hx hb dX9_pourStatus_26 rfl (lv_at hl 4 rfl) ?_
    obtain ⟨h5, hf⟩ := gi_of hf
    refine va_iald hx hb hK hP 2 0 rfl rfl h5 dX9_pourStatus_27 ?_
    refine lv_icmp_eq (tgt := 34) hx hb dX9_pourStatus_28 (by decide) (fun h6 => ?_) (fun h6 => ?_)
    · replace hf := if_t hf h6
      refine lv_iload hx hb dX9_pourStatus_34 (lv_at hl 6 rfl) ?_
      refine lv_if_ge (tgt := 42) hx hb dX9_pourStatus_36 (by decide) (fun h7 => ?_) (fun h7 => ?_)
      · replace hf := if_t hf h7
        refine lv_aload_n hx hb dX9_pourStatus_42 rfl (lv_at hl 1 rfl) ?_
        refine lv_iload_n hx hb dX9_pourStatus_43 rfl (lv_at hl 2 rfl) ?_
        refine lv_iload_n hx hb dX9_pourStatus_44 rfl (lv_at hl 3 rfl) ?_
        refine lv_iload hx hb dX9_pourStatus_45 (lv_at hl 6 rfl) ?_
        obtain ⟨r8, c9, hf⟩ := bd_of hf
        have hPc := hP.sub (ws' := (k_X9_hasRun T a_ a_rows a_sorts a_lengths v_lengths)) [0, 1] rfl
        have hDc := (mp_D_of (w1 := (k_X9_pourStatus T a_ a_rows a_sorts a_lengths v_lengths v_sorts)) hD rfl).sub (ws' := (k_X9_hasRun T a_ a_rows a_sorts a_lengths v_lengths)) [0, 1] rfl rfl
        refine mp_calli (isC := [0, 1]) (wc := (k_X9_hasRun T a_ a_rows a_sorts a_lengths v_lengths)) (w1 := (k_X9_hasRun T a_ a_rows a_sorts a_lengths v_lengths)) hP (mp_D_of hD rfl) hS hA rfl rfl (mp_runV (As := [.int x1, .int x2, .int x5]) (rest := []) X me_X9_hasRun lk_X9_47 (c_X9_hasRun l D T a_ a_rows a_sorts a_lengths x1 x2 x5 v_lengths r8 c9) rfl rfl ⟨(Nat.le_of_ble_eq_true rfl), (Nat.le_of_ble_eq_true rfl)⟩ hK hPc hDc rfl rfl rfl rfl hl.1 rfl (Nat.le_of_ble_eq_true rfl) dX9_pourStatus_47 ⟨Nat.zero_le _, Nat.zero_le _⟩) (fun H locs hP _ hS => ?_)
        replace hP : va_P D mp_cl (k_X9_pourStatus T a_ a_rows a_sorts a_lengths v_lengths v_sorts) H := hP
        refine lv_if_eq (tgt := 69) hx hb dX9_pourStatus_50 (by decide) (fun h10 => ?_) (fun h10 => ?_)
        · replace hf := if_t hf h10
          refine lv_iconst (v := (nI 4)) hx hb dX9_pourStatus_69 (by decide) ?_
          cases hf
          exact mp_reti X hP hS rfl dX9_pourStatus_70
        · replace hf := if_f hf h10
          refine lv_aload_n hx hb dX9_pourStatus_53 rfl (lv_at hl 1 rfl) ?_
          refine lv_iload_n hx hb dX9_pourStatus_54 rfl (lv_at hl 4 rfl) ?_
          refine lv_iload hx hb dX9_pourStatus_55 (lv_at hl 5 rfl) ?_
          refine lv_iload hx hb dX9_pourStatus_57 (lv_at hl 6 rfl) ?_
          obtain ⟨r11, c12, hf⟩ := bd_of hf
          have hPc := hP.sub (ws' := (k_X9_hasRun T a_ a_rows a_sorts a_lengths v_lengths)) [0, 1] rfl
          have hDc := (mp_D_of (w1 := (k_X9_pourStatus T a_ a_rows a_sorts a_lengths v_lengths v_sorts)) hD rfl).sub (ws' := (k_X9_hasRun T a_ a_rows a_sorts a_lengths v_lengths)) [0, 1] rfl rfl
          refine mp_calli (isC := [0, 1]) (wc := (k_X9_hasRun T a_ a_rows a_sorts a_lengths v_lengths)) (w1 := (k_X9_hasRun T a_ a_rows a_sorts a_lengths v_lengths)) hP (mp_D_of hD rfl) hS hA rfl rfl (mp_runV (As := [.int x3, .int x4, .int x5]) (rest := []) X me_X9_hasRun lk_X9_47 (c_X9_hasRun l D T a_ a_rows a_sorts a_lengths x3 x4 x5 v_lengths r11 c12) rfl rfl ⟨(Nat.le_of_ble_eq_true rfl), (Nat.le_of_ble_eq_true rfl)⟩ hK hPc hDc rfl rfl rfl rfl hl.1 rfl (Nat.le_of_ble_eq_true rfl) dX9_pourStatus_59 ⟨Nat.zero_le _, Nat.zero_le _⟩) (fun H locs hP _ hS => ?_)
          replace hP : va_P D mp_cl (k_X9_pourStatus T a_ a_rows a_sorts a_lengths v_lengths v_sorts) H := hP
          refine lv_if_eq (tgt := 69) hx hb dX9_pourStatus_62 (by decide) (fun h13 => ?_) (fun h13 => ?_)
          · replace hf := if_t hf h13
            refine lv_iconst (v := (nI 4)) hx hb dX9_pourStatus_69 (by decide) ?_
            cases hf
            exact mp_reti X hP hS rfl dX9_pourStatus_70
          · replace hf := if_f hf h13
            refine lv_iconst (v := (nI 0)) hx hb dX9_pourStatus_65 (by decide) ?_
            refine lv_goto (tgt := 70) hx hb dX9_pourStatus_66 (by decide) ?_
            cases hf
            exact mp_reti X hP hS rfl dX9_pourStatus_70
      · replace hf := if_f hf h7
        refine lv_bipush (v := (nI 6)) hx hb dX9_pourStatus_39 (by decide) ?_
        cases hf
        exact mp_reti X hP hS rfl dX9_pourStatus_41
    · replace hf := if_f hf h6
      refine lv_bipush (v := (nI 11)) hx hb dX9_pourStatus_31 (by decide) ?_
      cases hf
      exact mp_reti X hP hS rfl dX9_pourStatus_33
  · replace hf := if_f hf h3
    refine lv_iload hx hb dX9_pourStatus_13 (lv_at hl 0 rfl) ?_
    cases hf
    exact mp_reti X hP hS rfl dX9_pourStatus_15


def k_X10_takeLetters (T : Nat → ClassId) (a_p1 a_p2 : Nat) (n1 : Nat) (n2 : Nat) (v_p1 : (Nat → Int64)) (v_p2 : (Nat → Int32)) : va_W := [(a_p1, mp_aJ T n1 v_p1), (a_p2, mp_aI T n2 v_p2)]
set_option maxHeartbeats 4000000 in
set_option maxRecDepth 100000 in
theorem w_X10_takeLetters_2 {p : Program} {l : Launch} {e : Env} {s : State} {m : MethodId} {args : Array Value} {below : List Frame} {meth : Method} {c : Code} {D : va_G} {T : Nat → ClassId} {A : Nat → Prop} (X : mp_X p s m meth c args RX10 "takeLetters" cX10_takeLetters 4 (some .boolean)) (hK : va_K D mp_cl (mp_ty T) s) (hA : ∀ q, s.heap.size ≤ q → A q) (fu : Nat) (a_p1 a_p2 : Nat) (n1 : Nat) (n2 : Nat) (v_p1 : (Nat → Int64)) (r_ : Int32) (o_p2 : (Nat → Int32)) :
    ∀ (n : Nat) (z2 : Int32) (z3 : Int32) (v_p2 : (Nat → Int32)), f_X10_takeLetters_2 fu n1 n2 v_p1  n z2 z3 v_p2 = some (r_, o_p2) → ∀ (H : Heap) (locs : List Loc) (ls : Array Slot), va_P D mp_cl (k_X10_takeLetters T a_p1 a_p2 n1 n2 v_p1 v_p2) H → va_D A (k_X10_takeLetters T a_p1 a_p2 n1 n2 v_p1 v_p2) → va_S A s.heap H locs → lv_has ls 4 [(0, .ref a_p1), (1, .ref a_p2), (2, .int z2), (3, .int z3)] → W p l e ({ frames := 0, cells := 0, slots := 0, locals := 0 }) s m args below meth c H locs 0 0 (MQ below ((mp_Qi D r_ (k_X10_takeLetters T a_p1 a_p2 n1 n2 v_p1 o_p2)) A) args s 0 0 A) (F0 m 2 ls []) := by
  have hx := X.1
  have hb := X.2.1
  have hml := X.2.2.1
  have hown := X.2.2.2.2.1
  have hts := X.2.2.2.2.2.1
  intro n
  induction n with
  | zero => intro z2 z3 v_p2 hf; exact absurd hf (by intro h; cases h)
  | succ n ih =>
    intro z2 z3 v_p2 hf H locs ls hP hD hS hl
    replace hf : (if z2 ≤ z3 then some ((nI 1), v_p2) else gi_ z3 n1 ((if (lg_cmp (v_p1 (z3).toNatClampNeg) (lN 1)) < 0 then some ((nI 0), v_p2) else gi_ z3 n1 ((if (lg_cmp (v_p1 (z3).toNatClampNeg) (lN 26)) ≤ 0 then gi_ z3 n1 (gi_ z3 n2 (lt_ (z3 + (nI 1)) (fun (y8 : Int32) => f_X10_takeLetters_2 fu n1 n2 v_p1  n z2 y8 (upd v_p2 (z3).toNatClampNeg (v_p1 (z3).toNatClampNeg).toInt32)))) else some ((nI 0), v_p2)))))) = some (r_, o_p2) := hf
    refine lv_iload_n hx hb dX10_takeLetters_2 rfl (lv_at hl 3 rfl) ?_
    refine lv_iload_n hx hb dX10_takeLetters_3 rfl (lv_at hl 2 rfl) ?_
    refine lv_icmp_ge (tgt := 40) hx hb dX10_takeLetters_4 (by decide) (fun h1 => ?_) (fun h1 => ?_)
    · replace hf := if_t hf h1
      refine lv_iconst (v := (nI 1)) hx hb dX10_takeLetters_40 (by decide) ?_
      cases hf
      exact mp_retz X hP hS rfl (Or.inr rfl) dX10_takeLetters_41
    · replace hf := if_f hf h1
      refine lv_aload_n hx hb dX10_takeLetters_7 rfl (lv_at hl 0 rfl) ?_
      refine lv_iload_n hx hb dX10_takeLetters_8 rfl (lv_at hl 3 rfl) ?_
      obtain ⟨h2, hf⟩ := gi_of hf
      refine va_lald hx hb hK hP 0 1 rfl rfl h2 dX10_takeLetters_9 ?_
      refine lv_lconst (v := (lN 1)) hx hb dX10_takeLetters_10 (by decide) ?_
      refine W.lcmp hx hb dX10_takeLetters_11 ?_
      refine lv_if_lt (tgt := 25) hx hb dX10_takeLetters_12 (by decide) (fun h3 => ?_) (fun h3 => ?_)
      · replace hf := if_t hf h3
        refine lv_iconst (v := (nI 0)) hx hb dX10_takeLetters_25 (by decide) ?_
        cases hf
        exact mp_retz X hP hS rfl (Or.inl rfl) dX10_takeLetters_26
      · replace hf := if_f hf h3
        refine lv_aload_n hx hb dX10_takeLetters_15 rfl (lv_at hl 0 rfl) ?_
        refine lv_iload_n hx hb dX10_takeLetters_16 rfl (lv_at hl 3 rfl) ?_
        obtain ⟨h4, hf⟩ := gi_of hf
        refine va_lald hx hb hK hP 0 1 rfl rfl h4 dX10_takeLetters_17 ?_
        refine lv_ldc2 (v := (lN 26)) hx hb hown (hts _ (cw_X10_49)) dX10_takeLetters_18 ?_
        refine W.lcmp hx hb dX10_takeLetters_21 ?_
        refine lv_if_le (tgt := 27) hx hb dX10_takeLetters_22 (by decide) (fun h5 => ?_) (fun h5 => ?_)
        · replace hf := if_t hf h5
          refine lv_aload_n hx hb dX10_takeLetters_27 rfl (lv_at hl 1 rfl) ?_
          refine lv_iload_n hx hb dX10_takeLetters_28 rfl (lv_at hl 3 rfl) ?_
          refine lv_aload_n hx hb dX10_takeLetters_29 rfl (lv_at hl 0 rfl) ?_
          refine lv_iload_n hx hb dX10_takeLetters_30 rfl (lv_at hl 3 rfl) ?_
          obtain ⟨h6, hf⟩ := gi_of hf
          refine va_lald hx hb hK hP 0 1 rfl rfl h6 dX10_takeLetters_31 ?_
          refine lv_l2i hx hb dX10_takeLetters_32 rfl ?_
          obtain ⟨h7, hf⟩ := gi_of hf
          refine va_iast hx hb hK hP (mp_D_of hD rfl) hS 1 0 rfl rfl h7 dX10_takeLetters_33 (fun H locs hP _ hS => ?_)
          replace hP : va_P D mp_cl (k_X10_takeLetters T a_p1 a_p2 n1 n2 v_p1 (upd v_p2 (z3).toNatClampNeg (v_p1 (z3).toNatClampNeg).toInt32)) H := hP
          obtain ⟨y8, e8⟩ : ∃ y : Int32, y = z3 + (nI 1) := ⟨_, rfl⟩
          replace hf := lt_of e8 hf
          refine lv_iinc (v := y8) (lv' := [(3, .int y8), (0, .ref a_p1), (1, .ref a_p2), (2, .int z2)]) hx hb dX10_takeLetters_34 hl (k := 3) rfl (by rw [e8]; rfl) (by decide) rfl (fun ls hl => ?_)
          refine lv_goto (tgt := 2) hx hb dX10_takeLetters_37 (by decide) ?_
          exact ih z2 y8 (upd v_p2 (z3).toNatClampNeg (v_p1 (z3).toNatClampNeg).toInt32) hf _ _ _ hP (mp_D_of hD rfl) hS (lv_sub hl [1, 2, 3, 0] rfl)
        · replace hf := if_f hf h5
          refine lv_iconst (v := (nI 0)) hx hb dX10_takeLetters_25 (by decide) ?_
          cases hf
          exact mp_retz X hP hS rfl (Or.inl rfl) dX10_takeLetters_26

set_option maxHeartbeats 4000000 in
set_option maxRecDepth 100000 in
theorem c_X10_takeLetters (l : Launch) (D : va_G) (T : Nat → ClassId) (fu : Nat) (a_p1 a_p2 : Nat) (n1 : Nat) (n2 : Nat) (x3 : Int32) (v_p1 : (Nat → Int64)) (v_p2 : (Nat → Int32)) (r_ : Int32) (o_p2 : (Nat → Int32)) (hf : f_X10_takeLetters fu n1 n2 x3 v_p1 v_p2 = some (r_, o_p2)) :
    mp_M l D T yX10_takeLetters cX10_takeLetters 4 (some .boolean) ({ frames := 0, cells := 0, slots := 0, locals := 0 }) 0 0 [.ref a_p1, .ref a_p2, .int x3] (k_X10_takeLetters T a_p1 a_p2 n1 n2 v_p1 v_p2) (mp_Qi D r_ (k_X10_takeLetters T a_p1 a_p2 n1 n2 v_p1 o_p2)) := by
  refine mp_of (by decide) (Nat.le_of_ble_eq_true rfl) rfl ?_
  intro p e s m args below meth c A ls X hK hP hD hS hA hl
  replace X : mp_X p s m meth c args RX10 "takeLetters" cX10_takeLetters 4 (some .boolean) := X
  have hx := X.1
  have hb := X.2.1
  have hml := X.2.2.1
  have hown := X.2.2.2.2.1
  have hts := X.2.2.2.2.2.1
  replace hl : lv_has ls 4 [(0, .ref a_p1), (1, .ref a_p2), (2, .int x3)] := hl
  replace hf : f_X10_takeLetters_2 fu n1 n2 v_p1  fu x3 (nI 0) v_p2 = some (r_, o_p2) := hf
  refine lv_iconst (v := (nI 0)) hx hb dX10_takeLetters_0 (by decide) ?_
  refine lv_istore_n (lv' := [(3, .int (nI 0)), (0, .ref a_p1), (1, .ref a_p2), (2, .int x3)]) hx hb dX10_takeLetters_1 rfl hl (by decide) rfl (fun ls hl => ?_)
  exact w_X10_takeLetters_2 X hK hA  fu a_p1 a_p2 n1 n2 v_p1 r_ o_p2   fu x3 (nI 0) v_p2 hf _ _ _ hP (mp_D_of hD rfl) hS (lv_sub hl [1, 2, 3, 0] rfl)


def k_X10_load (T : Nat → ClassId) (a_ a_word a_row a_ways a_places a_p1 a_p1_rows a_p1_sorts a_p1_lengths a_p1_rows_0 a_p1_rows_1 a_p1_rows_2 a_p1_rows_3 : Nat) (v_wordLength : Int32) (v_rowLength : Int32) (v_row : (Nat → Int32)) (v_word : (Nat → Int32)) (v_p1_lengths : (Nat → Int32)) (v_p1_rows_0 : (Nat → Int64)) (v_p1_rows_1 : (Nat → Int64)) (v_p1_rows_2 : (Nat → Int64)) (v_p1_rows_3 : (Nat → Int64)) : va_W := [(a_, oX10 a_word a_row v_wordLength v_rowLength a_ways a_places), (a_row, mp_aI T 60 v_row), (a_word, mp_aI T 10 v_word), (a_p1, oX9 a_p1_rows a_p1_sorts a_p1_lengths), (a_p1_lengths, mp_aI T 4 v_p1_lengths), (a_p1_rows, mp_aR T 3 4 [a_p1_rows_0, a_p1_rows_1, a_p1_rows_2, a_p1_rows_3]), (a_p1_rows_0, mp_aJ T 60 v_p1_rows_0), (a_p1_rows_1, mp_aJ T 60 v_p1_rows_1), (a_p1_rows_2, mp_aJ T 60 v_p1_rows_2), (a_p1_rows_3, mp_aJ T 60 v_p1_rows_3)]
set_option maxHeartbeats 4000000 in
set_option maxRecDepth 100000 in
theorem c_X10_load (l : Launch) (D : va_G) (T : Nat → ClassId) (fu : Nat) (a_ a_word a_row a_ways a_places a_p1 a_p1_rows a_p1_sorts a_p1_lengths a_p1_rows_0 a_p1_rows_1 a_p1_rows_2 a_p1_rows_3 : Nat) (x2 : Int32) (x3 : Int32) (x4 : Int32) (x5 : Int32) (v_wordLength : Int32) (v_rowLength : Int32) (v_row : (Nat → Int32)) (v_word : (Nat → Int32)) (v_p1_lengths : (Nat → Int32)) (v_p1_rows_0 : (Nat → Int64)) (v_p1_rows_1 : (Nat → Int64)) (v_p1_rows_2 : (Nat → Int64)) (v_p1_rows_3 : (Nat → Int64)) (r_ : Int32) (o_wordLength : Int32) (o_rowLength : Int32) (o_row : (Nat → Int32)) (o_word : (Nat → Int32)) (hf : f_X10_load fu x2 x3 x4 x5 v_wordLength v_rowLength v_row v_word v_p1_lengths v_p1_rows_0 v_p1_rows_1 v_p1_rows_2 v_p1_rows_3 = some (r_, o_wordLength, o_rowLength, o_row, o_word)) :
    mp_M l D T yX10_load cX10_load 8 (some .int) ({ frames := 2, cells := 0, slots := 0, locals := 43 }) 0 0 [.ref a_, .ref a_p1, .int x2, .int x3, .int x4, .int x5] (k_X10_load T a_ a_word a_row a_ways a_places a_p1 a_p1_rows a_p1_sorts a_p1_lengths a_p1_rows_0 a_p1_rows_1 a_p1_rows_2 a_p1_rows_3 v_wordLength v_rowLength v_row v_word v_p1_lengths v_p1_rows_0 v_p1_rows_1 v_p1_rows_2 v_p1_rows_3) (mp_Qi D r_ (k_X10_load T a_ a_word a_row a_ways a_places a_p1 a_p1_rows a_p1_sorts a_p1_lengths a_p1_rows_0 a_p1_rows_1 a_p1_rows_2 a_p1_rows_3 o_wordLength o_rowLength o_row o_word v_p1_lengths v_p1_rows_0 v_p1_rows_1 v_p1_rows_2 v_p1_rows_3)) := by
  refine mp_of (by decide) (Nat.le_of_ble_eq_true rfl) rfl ?_
  intro p e s m args below meth c A ls X hK hP hD hS hA hl
  replace X : mp_X p s m meth c args RX10 "load" cX10_load 8 (some .int) := X
  have hx := X.1
  have hb := X.2.1
  have hml := X.2.2.1
  have hown := X.2.2.2.2.1
  have hts := X.2.2.2.2.2.1
  replace hl : lv_has ls 8 [(0, .ref a_), (1, .ref a_p1), (2, .int x2), (3, .int x3), (4, .int x4), (5, .int x5)] := hl
  replace hf : bd_ (f_X9_pairStatus x2 x4 v_p1_lengths) (fun (r1 : Int32) => (if r1 = 0 then gi_ x2 4 ((if (v_p1_lengths (x2).toNatClampNeg) < x3 then some ((nI 4), v_wordLength, v_rowLength, v_row, v_word) else gi_ x4 4 ((if x5 ≤ (v_p1_lengths (x4).toNatClampNeg) then (if x3 < (nI 1) then some ((nI 5), v_wordLength, v_rowLength, v_row, v_word) else (if (nI 10) < x3 then some ((nI 5), v_wordLength, v_rowLength, v_row, v_word) else (if x5 < (nI 1) then some ((nI 5), v_wordLength, v_rowLength, v_row, v_word) else (if x5 ≤ (nI 60) then gi_ x2 4 ((if x2 = (nI 0) then bd_ (f_X10_takeLetters fu 60 10 x3 v_p1_rows_0 v_word) (fun (z : Int32 × (Nat → Int32)) => match z with | (r14, u15) => (if r14 = 0 then (if (nI 0) = 0 then some ((nI 5), x3, x5, v_row, u15) else some ((nI 0), x3, x5, v_row, u15)) else gi_ x4 4 ((if x4 = (nI 0) then bd_ (f_X10_takeLetters fu 60 60 x5 v_p1_rows_0 v_row) (fun (z : Int32 × (Nat → Int32)) => match z with | (r21, u22) => (if r21 = 0 then (if (nI 0) = 0 then some ((nI 5), x3, x5, u22, u15) else some ((nI 0), x3, x5, u22, u15)) else (if (nI 1) = 0 then some ((nI 5), x3, x5, u22, u15) else some ((nI 0), x3, x5, u22, u15)))) else (if x4 = (nI 1) then bd_ (f_X10_takeLetters fu 60 60 x5 v_p1_rows_1 v_row) (fun (z : Int32 × (Nat → Int32)) => match z with | (r28, u29) => (if r28 = 0 then (if (nI 0) = 0 then some ((nI 5), x3, x5, u29, u15) else some ((nI 0), x3, x5, u29, u15)) else (if (nI 1) = 0 then some ((nI 5), x3, x5, u29, u15) else some ((nI 0), x3, x5, u29, u15)))) else (if x4 = (nI 2) then bd_ (f_X10_takeLetters fu 60 60 x5 v_p1_rows_2 v_row) (fun (z : Int32 × (Nat → Int32)) => match z with | (r35, u36) => (if r35 = 0 then (if (nI 0) = 0 then some ((nI 5), x3, x5, u36, u15) else some ((nI 0), x3, x5, u36, u15)) else (if (nI 1) = 0 then some ((nI 5), x3, x5, u36, u15) else some ((nI 0), x3, x5, u36, u15)))) else bd_ (f_X10_takeLetters fu 60 60 x5 v_p1_rows_3 v_row) (fun (z : Int32 × (Nat → Int32)) => match z with | (r42, u43) => (if r42 = 0 then (if (nI 0) = 0 then some ((nI 5), x3, x5, u43, u15) else some ((nI 0), x3, x5, u43, u15)) else (if (nI 1) = 0 then some ((nI 5), x3, x5, u43, u15) else some ((nI 0), x3, x5, u43, u15)))))))))) else (if x2 = (nI 1) then bd_ (f_X10_takeLetters fu 60 10 x3 v_p1_rows_1 v_word) (fun (z : Int32 × (Nat → Int32)) => match z with | (r49, u50) => (if r49 = 0 then (if (nI 0) = 0 then some ((nI 5), x3, x5, v_row, u50) else some ((nI 0), x3, x5, v_row, u50)) else gi_ x4 4 ((if x4 = (nI 0) then bd_ (f_X10_takeLetters fu 60 60 x5 v_p1_rows_0 v_row) (fun (z : Int32 × (Nat → Int32)) => match z with | (r56, u57) => (if r56 = 0 then (if (nI 0) = 0 then some ((nI 5), x3, x5, u57, u50) else some ((nI 0), x3, x5, u57, u50)) else (if (nI 1) = 0 then some ((nI 5), x3, x5, u57, u50) else some ((nI 0), x3, x5, u57, u50)))) else (if x4 = (nI 1) then bd_ (f_X10_takeLetters fu 60 60 x5 v_p1_rows_1 v_row) (fun (z : Int32 × (Nat → Int32)) => match z with | (r63, u64) => (if r63 = 0 then (if (nI 0) = 0 then some ((nI 5), x3, x5, u64, u50) else some ((nI 0), x3, x5, u64, u50)) else (if (nI 1) = 0 then some ((nI 5), x3, x5, u64, u50) else some ((nI 0), x3, x5, u64, u50)))) else (if x4 = (nI 2) then bd_ (f_X10_takeLetters fu 60 60 x5 v_p1_rows_2 v_row) (fun (z : Int32 × (Nat → Int32)) => match z with | (r70, u71) => (if r70 = 0 then (if (nI 0) = 0 then some ((nI 5), x3, x5, u71, u50) else some ((nI 0), x3, x5, u71, u50)) else (if (nI 1) = 0 then some ((nI 5), x3, x5, u71, u50) else some ((nI 0), x3, x5, u71, u50)))) else bd_ (f_X10_takeLetters fu 60 60 x5 v_p1_rows_3 v_row) (fun (z : Int32 × (Nat → Int32)) => match z with | (r77, u78) => (if r77 = 0 then (if (nI 0) = 0 then some ((nI 5), x3, x5, u78, u50) else some ((nI 0), x3, x5, u78, u50)) else (if (nI 1) = 0 then some ((nI 5), x3, x5, u78, u50) else some ((nI 0), x3, x5, u78, u50)))))))))) else (if x2 = (nI 2) then bd_ (f_X10_takeLetters fu 60 10 x3 v_p1_rows_2 v_word) (fun (z : Int32 × (Nat → Int32)) => match z with | (r84, u85) => (if r84 = 0 then (if (nI 0) = 0 then some ((nI 5), x3, x5, v_row, u85) else some ((nI 0), x3, x5, v_row, u85)) else gi_ x4 4 ((if x4 = (nI 0) then bd_ (f_X10_takeLetters fu 60 60 x5 v_p1_rows_0 v_row) (fun (z : Int32 × (Nat → Int32)) => match z with | (r91, u92) => (if r91 = 0 then (if (nI 0) = 0 then some ((nI 5), x3, x5, u92, u85) else some ((nI 0), x3, x5, u92, u85)) else (if (nI 1) = 0 then some ((nI 5), x3, x5, u92, u85) else some ((nI 0), x3, x5, u92, u85)))) else (if x4 = (nI 1) then bd_ (f_X10_takeLetters fu 60 60 x5 v_p1_rows_1 v_row) (fun (z : Int32 × (Nat → Int32)) => match z with | (r98, u99) => (if r98 = 0 then (if (nI 0) = 0 then some ((nI 5), x3, x5, u99, u85) else some ((nI 0), x3, x5, u99, u85)) else (if (nI 1) = 0 then some ((nI 5), x3, x5, u99, u85) else some ((nI 0), x3, x5, u99, u85)))) else (if x4 = (nI 2) then bd_ (f_X10_takeLetters fu 60 60 x5 v_p1_rows_2 v_row) (fun (z : Int32 × (Nat → Int32)) => match z with | (r105, u106) => (if r105 = 0 then (if (nI 0) = 0 then some ((nI 5), x3, x5, u106, u85) else some ((nI 0), x3, x5, u106, u85)) else (if (nI 1) = 0 then some ((nI 5), x3, x5, u106, u85) else some ((nI 0), x3, x5, u106, u85)))) else bd_ (f_X10_takeLetters fu 60 60 x5 v_p1_rows_3 v_row) (fun (z : Int32 × (Nat → Int32)) => match z with | (r112, u113) => (if r112 = 0 then (if (nI 0) = 0 then some ((nI 5), x3, x5, u113, u85) else some ((nI 0), x3, x5, u113, u85)) else (if (nI 1) = 0 then some ((nI 5), x3, x5, u113, u85) else some ((nI 0), x3, x5, u113, u85)))))))))) else bd_ (f_X10_takeLetters fu 60 10 x3 v_p1_rows_3 v_word) (fun (z : Int32 × (Nat → Int32)) => match z with | (r119, u120) => (if r119 = 0 then (if (nI 0) = 0 then some ((nI 5), x3, x5, v_row, u120) else some ((nI 0), x3, x5, v_row, u120)) else gi_ x4 4 ((if x4 = (nI 0) then bd_ (f_X10_takeLetters fu 60 60 x5 v_p1_rows_0 v_row) (fun (z : Int32 × (Nat → Int32)) => match z with | (r126, u127) => (if r126 = 0 then (if (nI 0) = 0 then some ((nI 5), x3, x5, u127, u120) else some ((nI 0), x3, x5, u127, u120)) else (if (nI 1) = 0 then some ((nI 5), x3, x5, u127, u120) else some ((nI 0), x3, x5, u127, u120)))) else (if x4 = (nI 1) then bd_ (f_X10_takeLetters fu 60 60 x5 v_p1_rows_1 v_row) (fun (z : Int32 × (Nat → Int32)) => match z with | (r133, u134) => (if r133 = 0 then (if (nI 0) = 0 then some ((nI 5), x3, x5, u134, u120) else some ((nI 0), x3, x5, u134, u120)) else (if (nI 1) = 0 then some ((nI 5), x3, x5, u134, u120) else some ((nI 0), x3, x5, u134, u120)))) else (if x4 = (nI 2) then bd_ (f_X10_takeLetters fu 60 60 x5 v_p1_rows_2 v_row) (fun (z : Int32 × (Nat → Int32)) => match z with | (r140, u141) => (if r140 = 0 then (if (nI 0) = 0 then some ((nI 5), x3, x5, u141, u120) else some ((nI 0), x3, x5, u141, u120)) else (if (nI 1) = 0 then some ((nI 5), x3, x5, u141, u120) else some ((nI 0), x3, x5, u141, u120)))) else bd_ (f_X10_takeLetters fu 60 60 x5 v_p1_rows_3 v_row) (fun (z : Int32 × (Nat → Int32)) => match z with | (r147, u148) => (if r147 = 0 then (if (nI 0) = 0 then some ((nI 5), x3, x5, u148, u120) else some ((nI 0), x3, x5, u148, u120)) else (if (nI 1) = 0 then some ((nI 5), x3, x5, u148, u120) else some ((nI 0), x3, x5, u148, u120)))))))))))))) else some ((nI 5), v_wordLength, v_rowLength, v_row, v_word))))) else some ((nI 4), v_wordLength, v_rowLength, v_row, v_word))))) else some (r1, v_wordLength, v_rowLength, v_row, v_word))) = some (r_, o_wordLength, o_rowLength, o_row, o_word) := hf
  refine lv_aload_n hx hb dX10_load_0 rfl (lv_at hl 1 rfl) ?_
  refine lv_iload_n hx hb dX10_load_1 rfl (lv_at hl 2 rfl) ?_
  refine lv_iload hx hb dX10_load_2 (lv_at hl 4 rfl) ?_
  obtain ⟨r1, c2, hf⟩ := bd_of hf
  have hPc := hP.sub (ws' := (k_X9_pairStatus T a_p1 a_p1_rows a_p1_sorts a_p1_lengths v_p1_lengths)) [3, 4] rfl
  have hDc := (mp_D_of (w1 := (k_X10_load T a_ a_word a_row a_ways a_places a_p1 a_p1_rows a_p1_sorts a_p1_lengths a_p1_rows_0 a_p1_rows_1 a_p1_rows_2 a_p1_rows_3 v_wordLength v_rowLength v_row v_word v_p1_lengths v_p1_rows_0 v_p1_rows_1 v_p1_rows_2 v_p1_rows_3)) hD rfl).sub (ws' := (k_X9_pairStatus T a_p1 a_p1_rows a_p1_sorts a_p1_lengths v_p1_lengths)) [3, 4] rfl rfl
  refine mp_calli (isC := [3, 4]) (wc := (k_X9_pairStatus T a_p1 a_p1_rows a_p1_sorts a_p1_lengths v_p1_lengths)) (w1 := (k_X9_pairStatus T a_p1 a_p1_rows a_p1_sorts a_p1_lengths v_p1_lengths)) hP (mp_D_of hD rfl) hS hA rfl rfl (mp_runV (As := [.int x2, .int x4]) (rest := []) X me_X9_pairStatus lk_X10_32 (c_X9_pairStatus l D T a_p1 a_p1_rows a_p1_sorts a_p1_lengths x2 x4 v_p1_lengths r1 c2) rfl rfl ⟨(Nat.le_of_ble_eq_true rfl), (Nat.le_of_ble_eq_true rfl)⟩ hK hPc hDc rfl rfl rfl rfl hl.1 rfl (Nat.le_of_ble_eq_true rfl) dX10_load_4 ⟨Nat.zero_le _, Nat.zero_le _⟩) (fun H locs hP _ hS => ?_)
  replace hP : va_P D mp_cl (k_X10_load T a_ a_word a_row a_ways a_places a_p1 a_p1_rows a_p1_sorts a_p1_lengths a_p1_rows_0 a_p1_rows_1 a_p1_rows_2 a_p1_rows_3 v_wordLength v_rowLength v_row v_word v_p1_lengths v_p1_rows_0 v_p1_rows_1 v_p1_rows_2 v_p1_rows_3) H := hP
  refine lv_istore (lv' := [(6, .int r1), (0, .ref a_), (1, .ref a_p1), (2, .int x2), (3, .int x3), (4, .int x4), (5, .int x5)]) hx hb dX10_load_7 hl (by decide) rfl (fun ls hl => ?_)
  refine lv_iload hx hb dX10_load_9 (lv_at hl 0 rfl) ?_
  refine lv_if_eq (tgt := 17) hx hb dX10_load_11 (by decide) (fun h3 => ?_) (fun h3 => ?_)
  · replace hf := if_t hf h3
    refine lv_iload_n hx hb dX10_load_17 rfl (lv_at hl 4 rfl) ?_
    refine lv_aload_n hx hb dX10_load_18 rfl (lv_at hl 2 rfl) ?_
    refine mp_get X fl_X10_38 hK hP 3 rfl rfl dX10_load_19 ?_
    refine lv_iload_n hx hb dX10_load_22 rfl (lv_at hl 3 rfl) ?_
    obtain ⟨h4, hf⟩ := gi_of hf
    refine va_iald hx hb hK hP 4 0 rfl rfl h4 dX10_load_23 ?_
    refine lv_icmp_gt (tgt := 39) hx hb dX10_load_24 (by decide) (fun h5 => ?_) (fun h5 => ?_)
    · replace hf := if_t hf h5
      refine lv_iconst (v := (nI 4)) hx hb dX10_load_39 (by decide) ?_
      cases hf
      exact mp_reti X hP hS rfl dX10_load_40
    · replace hf := if_f hf h5
      refine lv_iload hx hb dX10_load_27 (lv_at hl 6 rfl) ?_
      refine lv_aload_n hx hb dX10_load_29 rfl (lv_at hl 2 rfl) ?_
      refine mp_get X fl_X10_38 hK hP 3 rfl rfl dX10_load_30 ?_
      refine lv_iload hx hb dX10_load_33 (lv_at hl 5 rfl) ?_
      obtain ⟨h6, hf⟩ := gi_of hf
      refine va_iald hx hb hK hP 4 0 rfl rfl h6 dX10_load_35 ?_
      refine lv_icmp_le (tgt := 41) hx hb dX10_load_36 (by decide) (fun h7 => ?_) (fun h7 => ?_)
      · replace hf := if_t hf h7
        refine lv_iload_n hx hb dX10_load_41 rfl (lv_at hl 4 rfl) ?_
        refine lv_iconst (v := (nI 1)) hx hb dX10_load_42 (by decide) ?_
        refine lv_icmp_lt (tgt := 65) hx hb dX10_load_43 (by decide) (fun h8 => ?_) (fun h8 => ?_)
        · replace hf := if_t hf h8
          refine lv_iconst (v := (nI 5)) hx hb dX10_load_65 (by decide) ?_
          cases hf
          exact mp_reti X hP hS rfl dX10_load_66
        · replace hf := if_f hf h8
          refine lv_iload_n hx hb dX10_load_46 rfl (lv_at hl 4 rfl) ?_
          refine lv_bipush (v := (nI 10)) hx hb dX10_load_47 (by decide) ?_
          refine lv_icmp_gt (tgt := 65) hx hb dX10_load_49 (by decide) (fun h9 => ?_) (fun h9 => ?_)
          · replace hf := if_t hf h9
            refine lv_iconst (v := (nI 5)) hx hb dX10_load_65 (by decide) ?_
            cases hf
            exact mp_reti X hP hS rfl dX10_load_66
          · replace hf := if_f hf h9
            refine lv_iload hx hb dX10_load_52 (lv_at hl 6 rfl) ?_
            refine lv_iconst (v := (nI 1)) hx hb dX10_load_54 (by decide) ?_
            refine lv_icmp_lt (tgt := 65) hx hb dX10_load_55 (by decide) (fun h10 => ?_) (fun h10 => ?_)
            · replace hf := if_t hf h10
              refine lv_iconst (v := (nI 5)) hx hb dX10_load_65 (by decide) ?_
              cases hf
              exact mp_reti X hP hS rfl dX10_load_66
            · replace hf := if_f hf h10
              refine lv_iload hx hb dX10_load_58 (lv_at hl 6 rfl) ?_
              refine lv_bipush (v := (nI 60)) hx hb dX10_load_60 (by decide) ?_
              refine lv_icmp_le (tgt := 67) hx hb dX10_load_62 (by decide) (fun h11 => ?_) (fun h11 => ?_)
              · replace hf := if_t hf h11
                refine lv_aload_n hx hb dX10_load_67 rfl (lv_at hl 1 rfl) ?_
                refine lv_iload_n hx hb dX10_load_68 rfl (lv_at hl 4 rfl) ?_
                refine mp_putf X fl_X10_18 fp_X10 rfl hK hP (mp_D_of hD rfl) hS 0 rfl rfl rfl (Nat.le_of_ble_eq_true rfl) dX10_load_69 (fun H locs hP _ hS => ?_)
                replace hP : va_P D mp_cl (k_X10_load T a_ a_word a_row a_ways a_places a_p1 a_p1_rows a_p1_sorts a_p1_lengths a_p1_rows_0 a_p1_rows_1 a_p1_rows_2 a_p1_rows_3 x3 v_rowLength v_row v_word v_p1_lengths v_p1_rows_0 v_p1_rows_1 v_p1_rows_2 v_p1_rows_3) H := hP
                refine lv_aload_n hx hb dX10_load_72 rfl (lv_at hl 1 rfl) ?_
                refine lv_iload hx hb dX10_load_73 (lv_at hl 6 rfl) ?_
                refine mp_putf X fl_X10_22 fp_X10 rfl hK hP (mp_D_of hD rfl) hS 0 rfl rfl rfl (Nat.le_of_ble_eq_true rfl) dX10_load_75 (fun H locs hP _ hS => ?_)
                replace hP : va_P D mp_cl (k_X10_load T a_ a_word a_row a_ways a_places a_p1 a_p1_rows a_p1_sorts a_p1_lengths a_p1_rows_0 a_p1_rows_1 a_p1_rows_2 a_p1_rows_3 x3 x5 v_row v_word v_p1_lengths v_p1_rows_0 v_p1_rows_1 v_p1_rows_2 v_p1_rows_3) H := hP
                refine lv_aload_n hx hb dX10_load_78 rfl (lv_at hl 2 rfl) ?_
                refine mp_get X fl_X10_41 hK hP 3 rfl rfl dX10_load_79 ?_
                refine lv_iload_n hx hb dX10_load_82 rfl (lv_at hl 3 rfl) ?_
                obtain ⟨h12, hf⟩ := gi_of hf
                refine va_aldqA hx hb hK hP 5 3 rfl rfl h12 dX10_load_83 ?_
                by_cases h13 : x2 = (nI 0)
                · replace hf := if_t hf h13
                  rw [show va_rf (mp_ol [a_p1_rows_0, a_p1_rows_1, a_p1_rows_2, a_p1_rows_3] (x2).toNatClampNeg) = .ref a_p1_rows_0 from by rw [h13]; rfl]
                  refine lv_aload_n hx hb dX10_load_84 rfl (lv_at hl 1 rfl) ?_
                  refine mp_get X fl_X10_9 hK hP 0 rfl rfl dX10_load_85 ?_
                  refine lv_iload_n hx hb dX10_load_88 rfl (lv_at hl 4 rfl) ?_
                  obtain ⟨⟨r14, u15⟩, c16, hf⟩ := bd_of hf
                  dsimp only at hf
                  have hPc := hP.sub (ws' := (k_X10_takeLetters T a_p1_rows_0 a_word 60 10 v_p1_rows_0 v_word)) [6, 2] rfl
                  have hDc := (mp_D_of (w1 := (k_X10_load T a_ a_word a_row a_ways a_places a_p1 a_p1_rows a_p1_sorts a_p1_lengths a_p1_rows_0 a_p1_rows_1 a_p1_rows_2 a_p1_rows_3 x3 x5 v_row v_word v_p1_lengths v_p1_rows_0 v_p1_rows_1 v_p1_rows_2 v_p1_rows_3)) hD rfl).sub (ws' := (k_X10_takeLetters T a_p1_rows_0 a_word 60 10 v_p1_rows_0 v_word)) [6, 2] rfl rfl
                  refine mp_calli (isC := [6, 2]) (wc := (k_X10_takeLetters T a_p1_rows_0 a_word 60 10 v_p1_rows_0 v_word)) (w1 := (k_X10_takeLetters T a_p1_rows_0 a_word 60 10 v_p1_rows_0 u15)) hP (mp_D_of hD rfl) hS hA rfl rfl (mp_runS (As := [.ref a_p1_rows_0, .ref a_word, .int x3]) (rest := []) X me_X10_takeLetters lk_X10_45 (c_X10_takeLetters l D T fu a_p1_rows_0 a_word 60 10 x3 v_p1_rows_0 v_word r14 u15 c16) rfl rfl ⟨(Nat.le_of_ble_eq_true rfl), (Nat.le_of_ble_eq_true rfl)⟩ hK hPc hDc rfl hl.1 rfl (Nat.le_of_ble_eq_true rfl) dX10_load_89 ⟨Nat.zero_le _, Nat.zero_le _⟩) (fun H locs hP _ hS => ?_)
                  replace hP : va_P D mp_cl (k_X10_load T a_ a_word a_row a_ways a_places a_p1 a_p1_rows a_p1_sorts a_p1_lengths a_p1_rows_0 a_p1_rows_1 a_p1_rows_2 a_p1_rows_3 x3 x5 v_row u15 v_p1_lengths v_p1_rows_0 v_p1_rows_1 v_p1_rows_2 v_p1_rows_3) H := hP
                  refine lv_if_eq (tgt := 118) hx hb dX10_load_92 (by decide) (fun h17 => ?_) (fun h17 => ?_)
                  · replace hf := if_t hf h17
                    refine lv_iconst (v := (nI 0)) hx hb dX10_load_118 (by decide) ?_
                    refine lv_istore (lv' := [(7, .int (nI 0)), (6, .int r1), (0, .ref a_), (1, .ref a_p1), (2, .int x2), (3, .int x3), (4, .int x4), (5, .int x5)]) hx hb dX10_load_119 hl (by decide) rfl (fun ls hl => ?_)
                    refine lv_iload hx hb dX10_load_121 (lv_at hl 0 rfl) ?_
                    refine lv_if_eq (tgt := 130) hx hb dX10_load_123 (by decide) (fun h18 => ?_) (fun h18 => ?_)
                    · replace hf := if_t hf h18
                      refine lv_iconst (v := (nI 5)) hx hb dX10_load_130 (by decide) ?_
                      cases hf
                      exact mp_reti X hP hS rfl dX10_load_131
                    · replace hf := if_f hf h18
                      refine lv_iconst (v := (nI 0)) hx hb dX10_load_126 (by decide) ?_
                      refine lv_goto (tgt := 131) hx hb dX10_load_127 (by decide) ?_
                      cases hf
                      exact mp_reti X hP hS rfl dX10_load_131
                  · replace hf := if_f hf h17
                    refine lv_aload_n hx hb dX10_load_95 rfl (lv_at hl 2 rfl) ?_
                    refine mp_get X fl_X10_41 hK hP 3 rfl rfl dX10_load_96 ?_
                    refine lv_iload hx hb dX10_load_99 (lv_at hl 5 rfl) ?_
                    obtain ⟨h19, hf⟩ := gi_of hf
                    refine va_aldqA hx hb hK hP 5 3 rfl rfl h19 dX10_load_101 ?_
                    by_cases h20 : x4 = (nI 0)
                    · replace hf := if_t hf h20
                      rw [show va_rf (mp_ol [a_p1_rows_0, a_p1_rows_1, a_p1_rows_2, a_p1_rows_3] (x4).toNatClampNeg) = .ref a_p1_rows_0 from by rw [h20]; rfl]
                      refine lv_aload_n hx hb dX10_load_102 rfl (lv_at hl 1 rfl) ?_
                      refine mp_get X fl_X10_15 hK hP 0 rfl rfl dX10_load_103 ?_
                      refine lv_iload hx hb dX10_load_106 (lv_at hl 6 rfl) ?_
                      obtain ⟨⟨r21, u22⟩, c23, hf⟩ := bd_of hf
                      dsimp only at hf
                      have hPc := hP.sub (ws' := (k_X10_takeLetters T a_p1_rows_0 a_row 60 60 v_p1_rows_0 v_row)) [6, 1] rfl
                      have hDc := (mp_D_of (w1 := (k_X10_load T a_ a_word a_row a_ways a_places a_p1 a_p1_rows a_p1_sorts a_p1_lengths a_p1_rows_0 a_p1_rows_1 a_p1_rows_2 a_p1_rows_3 x3 x5 v_row u15 v_p1_lengths v_p1_rows_0 v_p1_rows_1 v_p1_rows_2 v_p1_rows_3)) hD rfl).sub (ws' := (k_X10_takeLetters T a_p1_rows_0 a_row 60 60 v_p1_rows_0 v_row)) [6, 1] rfl rfl
                      refine mp_calli (isC := [6, 1]) (wc := (k_X10_takeLetters T a_p1_rows_0 a_row 60 60 v_p1_rows_0 v_row)) (w1 := (k_X10_takeLetters T a_p1_rows_0 a_row 60 60 v_p1_rows_0 u22)) hP (mp_D_of hD rfl) hS hA rfl rfl (mp_runS (As := [.ref a_p1_rows_0, .ref a_row, .int x5]) (rest := []) X me_X10_takeLetters lk_X10_45 (c_X10_takeLetters l D T fu a_p1_rows_0 a_row 60 60 x5 v_p1_rows_0 v_row r21 u22 c23) rfl rfl ⟨(Nat.le_of_ble_eq_true rfl), (Nat.le_of_ble_eq_true rfl)⟩ hK hPc hDc rfl hl.1 rfl (Nat.le_of_ble_eq_true rfl) dX10_load_108 ⟨Nat.zero_le _, Nat.zero_le _⟩) (fun H locs hP _ hS => ?_)
                      replace hP : va_P D mp_cl (k_X10_load T a_ a_word a_row a_ways a_places a_p1 a_p1_rows a_p1_sorts a_p1_lengths a_p1_rows_0 a_p1_rows_1 a_p1_rows_2 a_p1_rows_3 x3 x5 u22 u15 v_p1_lengths v_p1_rows_0 v_p1_rows_1 v_p1_rows_2 v_p1_rows_3) H := hP
                      refine lv_if_eq (tgt := 118) hx hb dX10_load_111 (by decide) (fun h24 => ?_) (fun h24 => ?_)
                      · replace hf := if_t hf h24
                        refine lv_iconst (v := (nI 0)) hx hb dX10_load_118 (by decide) ?_
                        refine lv_istore (lv' := [(7, .int (nI 0)), (6, .int r1), (0, .ref a_), (1, .ref a_p1), (2, .int x2), (3, .int x3), (4, .int x4), (5, .int x5)]) hx hb dX10_load_119 hl (by decide) rfl (fun ls hl => ?_)
                        refine lv_iload hx hb dX10_load_121 (lv_at hl 0 rfl) ?_
                        refine lv_if_eq (tgt := 130) hx hb dX10_load_123 (by decide) (fun h25 => ?_) (fun h25 => ?_)
                        · replace hf := if_t hf h25
                          refine lv_iconst (v := (nI 5)) hx hb dX10_load_130 (by decide) ?_
                          cases hf
                          exact mp_reti X hP hS rfl dX10_load_131
                        · replace hf := if_f hf h25
                          refine lv_iconst (v := (nI 0)) hx hb dX10_load_126 (by decide) ?_
                          refine lv_goto (tgt := 131) hx hb dX10_load_127 (by decide) ?_
                          cases hf
                          exact mp_reti X hP hS rfl dX10_load_131
                      · replace hf := if_f hf h24
                        refine lv_iconst (v := (nI 1)) hx hb dX10_load_114 (by decide) ?_
                        refine lv_goto (tgt := 119) hx hb dX10_load_115 (by decide) ?_
                        refine lv_istore (lv' := [(7, .int (nI 1)), (6, .int r1), (0, .ref a_), (1, .ref a_p1), (2, .int x2), (3, .int x3), (4, .int x4), (5, .int x5)]) hx hb dX10_load_119 hl (by decide) rfl (fun ls hl => ?_)
                        refine lv_iload hx hb dX10_load_121 (lv_at hl 0 rfl) ?_
                        refine lv_if_eq (tgt := 130) hx hb dX10_load_123 (by decide) (fun h26 => ?_) (fun h26 => ?_)
                        · replace hf := if_t hf h26
                          refine lv_iconst (v := (nI 5)) hx hb dX10_load_130 (by decide) ?_
                          cases hf
                          exact mp_reti X hP hS rfl dX10_load_131
                        · replace hf := if_f hf h26
                          refine lv_iconst (v := (nI 0)) hx hb dX10_load_126 (by decide) ?_
                          refine lv_goto (tgt := 131) hx hb dX10_load_127 (by decide) ?_
                          cases hf
                          exact mp_reti X hP hS rfl dX10_load_131
                    replace hf := if_f hf h20
                    by_cases h27 : x4 = (nI 1)
                    · replace hf := if_t hf h27
                      rw [show va_rf (mp_ol [a_p1_rows_0, a_p1_rows_1, a_p1_rows_2, a_p1_rows_3] (x4).toNatClampNeg) = .ref a_p1_rows_1 from by rw [h27]; rfl]
                      refine lv_aload_n hx hb dX10_load_102 rfl (lv_at hl 1 rfl) ?_
                      refine mp_get X fl_X10_15 hK hP 0 rfl rfl dX10_load_103 ?_
                      refine lv_iload hx hb dX10_load_106 (lv_at hl 6 rfl) ?_
                      obtain ⟨⟨r28, u29⟩, c30, hf⟩ := bd_of hf
                      dsimp only at hf
                      have hPc := hP.sub (ws' := (k_X10_takeLetters T a_p1_rows_1 a_row 60 60 v_p1_rows_1 v_row)) [7, 1] rfl
                      have hDc := (mp_D_of (w1 := (k_X10_load T a_ a_word a_row a_ways a_places a_p1 a_p1_rows a_p1_sorts a_p1_lengths a_p1_rows_0 a_p1_rows_1 a_p1_rows_2 a_p1_rows_3 x3 x5 v_row u15 v_p1_lengths v_p1_rows_0 v_p1_rows_1 v_p1_rows_2 v_p1_rows_3)) hD rfl).sub (ws' := (k_X10_takeLetters T a_p1_rows_1 a_row 60 60 v_p1_rows_1 v_row)) [7, 1] rfl rfl
                      refine mp_calli (isC := [7, 1]) (wc := (k_X10_takeLetters T a_p1_rows_1 a_row 60 60 v_p1_rows_1 v_row)) (w1 := (k_X10_takeLetters T a_p1_rows_1 a_row 60 60 v_p1_rows_1 u29)) hP (mp_D_of hD rfl) hS hA rfl rfl (mp_runS (As := [.ref a_p1_rows_1, .ref a_row, .int x5]) (rest := []) X me_X10_takeLetters lk_X10_45 (c_X10_takeLetters l D T fu a_p1_rows_1 a_row 60 60 x5 v_p1_rows_1 v_row r28 u29 c30) rfl rfl ⟨(Nat.le_of_ble_eq_true rfl), (Nat.le_of_ble_eq_true rfl)⟩ hK hPc hDc rfl hl.1 rfl (Nat.le_of_ble_eq_true rfl) dX10_load_108 ⟨Nat.zero_le _, Nat.zero_le _⟩) (fun H locs hP _ hS => ?_)
                      replace hP : va_P D mp_cl (k_X10_load T a_ a_word a_row a_ways a_places a_p1 a_p1_rows a_p1_sorts a_p1_lengths a_p1_rows_0 a_p1_rows_1 a_p1_rows_2 a_p1_rows_3 x3 x5 u29 u15 v_p1_lengths v_p1_rows_0 v_p1_rows_1 v_p1_rows_2 v_p1_rows_3) H := hP
                      refine lv_if_eq (tgt := 118) hx hb dX10_load_111 (by decide) (fun h31 => ?_) (fun h31 => ?_)
                      · replace hf := if_t hf h31
                        refine lv_iconst (v := (nI 0)) hx hb dX10_load_118 (by decide) ?_
                        refine lv_istore (lv' := [(7, .int (nI 0)), (6, .int r1), (0, .ref a_), (1, .ref a_p1), (2, .int x2), (3, .int x3), (4, .int x4), (5, .int x5)]) hx hb dX10_load_119 hl (by decide) rfl (fun ls hl => ?_)
                        refine lv_iload hx hb dX10_load_121 (lv_at hl 0 rfl) ?_
                        refine lv_if_eq (tgt := 130) hx hb dX10_load_123 (by decide) (fun h32 => ?_) (fun h32 => ?_)
                        · replace hf := if_t hf h32
                          refine lv_iconst (v := (nI 5)) hx hb dX10_load_130 (by decide) ?_
                          cases hf
                          exact mp_reti X hP hS rfl dX10_load_131
                        · replace hf := if_f hf h32
                          refine lv_iconst (v := (nI 0)) hx hb dX10_load_126 (by decide) ?_
                          refine lv_goto (tgt := 131) hx hb dX10_load_127 (by decide) ?_
                          cases hf
                          exact mp_reti X hP hS rfl dX10_load_131
                      · replace hf := if_f hf h31
                        refine lv_iconst (v := (nI 1)) hx hb dX10_load_114 (by decide) ?_
                        refine lv_goto (tgt := 119) hx hb dX10_load_115 (by decide) ?_
                        refine lv_istore (lv' := [(7, .int (nI 1)), (6, .int r1), (0, .ref a_), (1, .ref a_p1), (2, .int x2), (3, .int x3), (4, .int x4), (5, .int x5)]) hx hb dX10_load_119 hl (by decide) rfl (fun ls hl => ?_)
                        refine lv_iload hx hb dX10_load_121 (lv_at hl 0 rfl) ?_
                        refine lv_if_eq (tgt := 130) hx hb dX10_load_123 (by decide) (fun h33 => ?_) (fun h33 => ?_)
                        · replace hf := if_t hf h33
                          refine lv_iconst (v := (nI 5)) hx hb dX10_load_130 (by decide) ?_
                          cases hf
                          exact mp_reti X hP hS rfl dX10_load_131
                        · replace hf := if_f hf h33
                          refine lv_iconst (v := (nI 0)) hx hb dX10_load_126 (by decide) ?_
                          refine lv_goto (tgt := 131) hx hb dX10_load_127 (by decide) ?_
                          cases hf
                          exact mp_reti X hP hS rfl dX10_load_131
                    replace hf := if_f hf h27
                    by_cases h34 : x4 = (nI 2)
                    · replace hf := if_t hf h34
                      rw [show va_rf (mp_ol [a_p1_rows_0, a_p1_rows_1, a_p1_rows_2, a_p1_rows_3] (x4).toNatClampNeg) = .ref a_p1_rows_2 from by rw [h34]; rfl]
                      refine lv_aload_n hx hb dX10_load_102 rfl (lv_at hl 1 rfl) ?_
                      refine mp_get X fl_X10_15 hK hP 0 rfl rfl dX10_load_103 ?_
                      refine lv_iload hx hb dX10_load_106 (lv_at hl 6 rfl) ?_
                      obtain ⟨⟨r35, u36⟩, c37, hf⟩ := bd_of hf
                      dsimp only at hf
                      have hPc := hP.sub (ws' := (k_X10_takeLetters T a_p1_rows_2 a_row 60 60 v_p1_rows_2 v_row)) [8, 1] rfl
                      have hDc := (mp_D_of (w1 := (k_X10_load T a_ a_word a_row a_ways a_places a_p1 a_p1_rows a_p1_sorts a_p1_lengths a_p1_rows_0 a_p1_rows_1 a_p1_rows_2 a_p1_rows_3 x3 x5 v_row u15 v_p1_lengths v_p1_rows_0 v_p1_rows_1 v_p1_rows_2 v_p1_rows_3)) hD rfl).sub (ws' := (k_X10_takeLetters T a_p1_rows_2 a_row 60 60 v_p1_rows_2 v_row)) [8, 1] rfl rfl
                      refine mp_calli (isC := [8, 1]) (wc := (k_X10_takeLetters T a_p1_rows_2 a_row 60 60 v_p1_rows_2 v_row)) (w1 := (k_X10_takeLetters T a_p1_rows_2 a_row 60 60 v_p1_rows_2 u36)) hP (mp_D_of hD rfl) hS hA rfl rfl (mp_runS (As := [.ref a_p1_rows_2, .ref a_row, .int x5]) (rest := []) X me_X10_takeLetters lk_X10_45 (c_X10_takeLetters l D T fu a_p1_rows_2 a_row 60 60 x5 v_p1_rows_2 v_row r35 u36 c37) rfl rfl ⟨(Nat.le_of_ble_eq_true rfl), (Nat.le_of_ble_eq_true rfl)⟩ hK hPc hDc rfl hl.1 rfl (Nat.le_of_ble_eq_true rfl) dX10_load_108 ⟨Nat.zero_le _, Nat.zero_le _⟩) (fun H locs hP _ hS => ?_)
                      replace hP : va_P D mp_cl (k_X10_load T a_ a_word a_row a_ways a_places a_p1 a_p1_rows a_p1_sorts a_p1_lengths a_p1_rows_0 a_p1_rows_1 a_p1_rows_2 a_p1_rows_3 x3 x5 u36 u15 v_p1_lengths v_p1_rows_0 v_p1_rows_1 v_p1_rows_2 v_p1_rows_3) H := hP
                      refine lv_if_eq (tgt := 118) hx hb dX10_load_111 (by decide) (fun h38 => ?_) (fun h38 => ?_)
                      · replace hf := if_t hf h38
                        refine lv_iconst (v := (nI 0)) hx hb dX10_load_118 (by decide) ?_
                        refine lv_istore (lv' := [(7, .int (nI 0)), (6, .int r1), (0, .ref a_), (1, .ref a_p1), (2, .int x2), (3, .int x3), (4, .int x4), (5, .int x5)]) hx hb dX10_load_119 hl (by decide) rfl (fun ls hl => ?_)
                        refine lv_iload hx hb dX10_load_121 (lv_at hl 0 rfl) ?_
                        refine lv_if_eq (tgt := 130) hx hb dX10_load_123 (by decide) (fun h39 => ?_) (fun h39 => ?_)
                        · replace hf := if_t hf h39
                          refine lv_iconst (v := (nI 5)) hx hb dX10_load_130 (by decide) ?_
                          cases hf
                          exact mp_reti X hP hS rfl dX10_load_131
                        · replace hf := if_f hf h39
                          refine lv_iconst (v := (nI 0)) hx hb dX10_load_126 (by decide) ?_
                          refine lv_goto (tgt := 131) hx hb dX10_load_127 (by decide) ?_
                          cases hf
                          exact mp_reti X hP hS rfl dX10_load_131
                      · replace hf := if_f hf h38
                        refine lv_iconst (v := (nI 1)) hx hb dX10_load_114 (by decide) ?_
                        refine lv_goto (tgt := 119) hx hb dX10_load_115 (by decide) ?_
                        refine lv_istore (lv' := [(7, .int (nI 1)), (6, .int r1), (0, .ref a_), (1, .ref a_p1), (2, .int x2), (3, .int x3), (4, .int x4), (5, .int x5)]) hx hb dX10_load_119 hl (by decide) rfl (fun ls hl => ?_)
                        refine lv_iload hx hb dX10_load_121 (lv_at hl 0 rfl) ?_
                        refine lv_if_eq (tgt := 130) hx hb dX10_load_123 (by decide) (fun h40 => ?_) (fun h40 => ?_)
                        · replace hf := if_t hf h40
                          refine lv_iconst (v := (nI 5)) hx hb dX10_load_130 (by decide) ?_
                          cases hf
                          exact mp_reti X hP hS rfl dX10_load_131
                        · replace hf := if_f hf h40
                          refine lv_iconst (v := (nI 0)) hx hb dX10_load_126 (by decide) ?_
                          refine lv_goto (tgt := 131) hx hb dX10_load_127 (by decide) ?_
                          cases hf
                          exact mp_reti X hP hS rfl dX10_load_131
                    replace hf := if_f hf h34
                    have h41 : x4 = (nI 3) := mp_last4 h19 h20 h27 h34
                    rw [show va_rf (mp_ol [a_p1_rows_0, a_p1_rows_1, a_p1_rows_2, a_p1_rows_3] (x4).toNatClampNeg) = .ref a_p1_rows_3 from by rw [h41]; rfl]
                    refine lv_aload_n hx hb dX10_load_102 rfl (lv_at hl 1 rfl) ?_
                    refine mp_get X fl_X10_15 hK hP 0 rfl rfl dX10_load_103 ?_
                    refine lv_iload hx hb dX10_load_106 (lv_at hl 6 rfl) ?_
                    obtain ⟨⟨r42, u43⟩, c44, hf⟩ := bd_of hf
                    dsimp only at hf
                    have hPc := hP.sub (ws' := (k_X10_takeLetters T a_p1_rows_3 a_row 60 60 v_p1_rows_3 v_row)) [9, 1] rfl
                    have hDc := (mp_D_of (w1 := (k_X10_load T a_ a_word a_row a_ways a_places a_p1 a_p1_rows a_p1_sorts a_p1_lengths a_p1_rows_0 a_p1_rows_1 a_p1_rows_2 a_p1_rows_3 x3 x5 v_row u15 v_p1_lengths v_p1_rows_0 v_p1_rows_1 v_p1_rows_2 v_p1_rows_3)) hD rfl).sub (ws' := (k_X10_takeLetters T a_p1_rows_3 a_row 60 60 v_p1_rows_3 v_row)) [9, 1] rfl rfl
                    refine mp_calli (isC := [9, 1]) (wc := (k_X10_takeLetters T a_p1_rows_3 a_row 60 60 v_p1_rows_3 v_row)) (w1 := (k_X10_takeLetters T a_p1_rows_3 a_row 60 60 v_p1_rows_3 u43)) hP (mp_D_of hD rfl) hS hA rfl rfl (mp_runS (As := [.ref a_p1_rows_3, .ref a_row, .int x5]) (rest := []) X me_X10_takeLetters lk_X10_45 (c_X10_takeLetters l D T fu a_p1_rows_3 a_row 60 60 x5 v_p1_rows_3 v_row r42 u43 c44) rfl rfl ⟨(Nat.le_of_ble_eq_true rfl), (Nat.le_of_ble_eq_true rfl)⟩ hK hPc hDc rfl hl.1 rfl (Nat.le_of_ble_eq_true rfl) dX10_load_108 ⟨Nat.zero_le _, Nat.zero_le _⟩) (fun H locs hP _ hS => ?_)
                    replace hP : va_P D mp_cl (k_X10_load T a_ a_word a_row a_ways a_places a_p1 a_p1_rows a_p1_sorts a_p1_lengths a_p1_rows_0 a_p1_rows_1 a_p1_rows_2 a_p1_rows_3 x3 x5 u43 u15 v_p1_lengths v_p1_rows_0 v_p1_rows_1 v_p1_rows_2 v_p1_rows_3) H := hP
                    refine lv_if_eq (tgt := 118) hx hb dX10_load_111 (by decide) (fun h45 => ?_) (fun h45 => ?_)
                    · replace hf := if_t hf h45
                      refine lv_iconst (v := (nI 0)) hx hb dX10_load_118 (by decide) ?_
                      refine lv_istore (lv' := [(7, .int (nI 0)), (6, .int r1), (0, .ref a_), (1, .ref a_p1), (2, .int x2), (3, .int x3), (4, .int x4), (5, .int x5)]) hx hb dX10_load_119 hl (by decide) rfl (fun ls hl => ?_)
                      refine lv_iload hx hb dX10_load_121 (lv_at hl 0 rfl) ?_
                      refine lv_if_eq (tgt := 130) hx hb dX10_load_123 (by decide) (fun h46 => ?_) (fun h46 => ?_)
                      · replace hf := if_t hf h46
                        refine lv_iconst (v := (nI 5)) hx hb dX10_load_130 (by decide) ?_
                        cases hf
                        exact mp_reti X hP hS rfl dX10_load_131
                      · replace hf := if_f hf h46
                        refine lv_iconst (v := (nI 0)) hx hb dX10_load_126 (by decide) ?_
                        refine lv_goto (tgt := 131) hx hb dX10_load_127 (by decide) ?_
                        cases hf
                        exact mp_reti X hP hS rfl dX10_load_131
                    · replace hf := if_f hf h45
                      refine lv_iconst (v := (nI 1)) hx hb dX10_load_114 (by decide) ?_
                      refine lv_goto (tgt := 119) hx hb dX10_load_115 (by decide) ?_
                      refine lv_istore (lv' := [(7, .int (nI 1)), (6, .int r1), (0, .ref a_), (1, .ref a_p1), (2, .int x2), (3, .int x3), (4, .int x4), (5, .int x5)]) hx hb dX10_load_119 hl (by decide) rfl (fun ls hl => ?_)
                      refine lv_iload hx hb dX10_load_121 (lv_at hl 0 rfl) ?_
                      refine lv_if_eq (tgt := 130) hx hb dX10_load_123 (by decide) (fun h47 => ?_) (fun h47 => ?_)
                      · replace hf := if_t hf h47
                        refine lv_iconst (v := (nI 5)) hx hb dX10_load_130 (by decide) ?_
                        cases hf
                        exact mp_reti X hP hS rfl dX10_load_131
                      · replace hf := if_f hf h47
                        refine lv_iconst (v := (nI 0)) hx hb dX10_load_126 (by decide) ?_
                        refine lv_goto (tgt := 131) hx hb dX10_load_127 (by decide) ?_
                        cases hf
                        exact mp_reti X hP hS rfl dX10_load_131
                replace hf := if_f hf h13
                by_cases h48 : x2 = (nI 1)
                · replace hf := if_t hf h48
                  rw [show va_rf (mp_ol [a_p1_rows_0, a_p1_rows_1, a_p1_rows_2, a_p1_rows_3] (x2).toNatClampNeg) = .ref a_p1_rows_1 from by rw [h48]; rfl]
                  refine lv_aload_n hx hb dX10_load_84 rfl (lv_at hl 1 rfl) ?_
                  refine mp_get X fl_X10_9 hK hP 0 rfl rfl dX10_load_85 ?_
                  refine lv_iload_n hx hb dX10_load_88 rfl (lv_at hl 4 rfl) ?_
                  obtain ⟨⟨r49, u50⟩, c51, hf⟩ := bd_of hf
                  dsimp only at hf
                  have hPc := hP.sub (ws' := (k_X10_takeLetters T a_p1_rows_1 a_word 60 10 v_p1_rows_1 v_word)) [7, 2] rfl
                  have hDc := (mp_D_of (w1 := (k_X10_load T a_ a_word a_row a_ways a_places a_p1 a_p1_rows a_p1_sorts a_p1_lengths a_p1_rows_0 a_p1_rows_1 a_p1_rows_2 a_p1_rows_3 x3 x5 v_row v_word v_p1_lengths v_p1_rows_0 v_p1_rows_1 v_p1_rows_2 v_p1_rows_3)) hD rfl).sub (ws' := (k_X10_takeLetters T a_p1_rows_1 a_word 60 10 v_p1_rows_1 v_word)) [7, 2] rfl rfl
                  refine mp_calli (isC := [7, 2]) (wc := (k_X10_takeLetters T a_p1_rows_1 a_word 60 10 v_p1_rows_1 v_word)) (w1 := (k_X10_takeLetters T a_p1_rows_1 a_word 60 10 v_p1_rows_1 u50)) hP (mp_D_of hD rfl) hS hA rfl rfl (mp_runS (As := [.ref a_p1_rows_1, .ref a_word, .int x3]) (rest := []) X me_X10_takeLetters lk_X10_45 (c_X10_takeLetters l D T fu a_p1_rows_1 a_word 60 10 x3 v_p1_rows_1 v_word r49 u50 c51) rfl rfl ⟨(Nat.le_of_ble_eq_true rfl), (Nat.le_of_ble_eq_true rfl)⟩ hK hPc hDc rfl hl.1 rfl (Nat.le_of_ble_eq_true rfl) dX10_load_89 ⟨Nat.zero_le _, Nat.zero_le _⟩) (fun H locs hP _ hS => ?_)
                  replace hP : va_P D mp_cl (k_X10_load T a_ a_word a_row a_ways a_places a_p1 a_p1_rows a_p1_sorts a_p1_lengths a_p1_rows_0 a_p1_rows_1 a_p1_rows_2 a_p1_rows_3 x3 x5 v_row u50 v_p1_lengths v_p1_rows_0 v_p1_rows_1 v_p1_rows_2 v_p1_rows_3) H := hP
                  refine lv_if_eq (tgt := 118) hx hb dX10_load_92 (by decide) (fun h52 => ?_) (fun h52 => ?_)
                  · replace hf := if_t hf h52
                    refine lv_iconst (v := (nI 0)) hx hb dX10_load_118 (by decide) ?_
                    refine lv_istore (lv' := [(7, .int (nI 0)), (6, .int r1), (0, .ref a_), (1, .ref a_p1), (2, .int x2), (3, .int x3), (4, .int x4), (5, .int x5)]) hx hb dX10_load_119 hl (by decide) rfl (fun ls hl => ?_)
                    refine lv_iload hx hb dX10_load_121 (lv_at hl 0 rfl) ?_
                    refine lv_if_eq (tgt := 130) hx hb dX10_load_123 (by decide) (fun h53 => ?_) (fun h53 => ?_)
                    · replace hf := if_t hf h53
                      refine lv_iconst (v := (nI 5)) hx hb dX10_load_130 (by decide) ?_
                      cases hf
                      exact mp_reti X hP hS rfl dX10_load_131
                    · replace hf := if_f hf h53
                      refine lv_iconst (v := (nI 0)) hx hb dX10_load_126 (by decide) ?_
                      refine lv_goto (tgt := 131) hx hb dX10_load_127 (by decide) ?_
                      cases hf
                      exact mp_reti X hP hS rfl dX10_load_131
                  · replace hf := if_f hf h52
                    refine lv_aload_n hx hb dX10_load_95 rfl (lv_at hl 2 rfl) ?_
                    refine mp_get X fl_X10_41 hK hP 3 rfl rfl dX10_load_96 ?_
                    refine lv_iload hx hb dX10_load_99 (lv_at hl 5 rfl) ?_
                    obtain ⟨h54, hf⟩ := gi_of hf
                    refine va_aldqA hx hb hK hP 5 3 rfl rfl h54 dX10_load_101 ?_
                    by_cases h55 : x4 = (nI 0)
                    · replace hf := if_t hf h55
                      rw [show va_rf (mp_ol [a_p1_rows_0, a_p1_rows_1, a_p1_rows_2, a_p1_rows_3] (x4).toNatClampNeg) = .ref a_p1_rows_0 from by rw [h55]; rfl]
                      refine lv_aload_n hx hb dX10_load_102 rfl (lv_at hl 1 rfl) ?_
                      refine mp_get X fl_X10_15 hK hP 0 rfl rfl dX10_load_103 ?_
                      refine lv_iload hx hb dX10_load_106 (lv_at hl 6 rfl) ?_
                      obtain ⟨⟨r56, u57⟩, c58, hf⟩ := bd_of hf
                      dsimp only at hf
                      have hPc := hP.sub (ws' := (k_X10_takeLetters T a_p1_rows_0 a_row 60 60 v_p1_rows_0 v_row)) [6, 1] rfl
                      have hDc := (mp_D_of (w1 := (k_X10_load T a_ a_word a_row a_ways a_places a_p1 a_p1_rows a_p1_sorts a_p1_lengths a_p1_rows_0 a_p1_rows_1 a_p1_rows_2 a_p1_rows_3 x3 x5 v_row u50 v_p1_lengths v_p1_rows_0 v_p1_rows_1 v_p1_rows_2 v_p1_rows_3)) hD rfl).sub (ws' := (k_X10_takeLetters T a_p1_rows_0 a_row 60 60 v_p1_rows_0 v_row)) [6, 1] rfl rfl
                      refine mp_calli (isC := [6, 1]) (wc := (k_X10_takeLetters T a_p1_rows_0 a_row 60 60 v_p1_rows_0 v_row)) (w1 := (k_X10_takeLetters T a_p1_rows_0 a_row 60 60 v_p1_rows_0 u57)) hP (mp_D_of hD rfl) hS hA rfl rfl (mp_runS (As := [.ref a_p1_rows_0, .ref a_row, .int x5]) (rest := []) X me_X10_takeLetters lk_X10_45 (c_X10_takeLetters l D T fu a_p1_rows_0 a_row 60 60 x5 v_p1_rows_0 v_row r56 u57 c58) rfl rfl ⟨(Nat.le_of_ble_eq_true rfl), (Nat.le_of_ble_eq_true rfl)⟩ hK hPc hDc rfl hl.1 rfl (Nat.le_of_ble_eq_true rfl) dX10_load_108 ⟨Nat.zero_le _, Nat.zero_le _⟩) (fun H locs hP _ hS => ?_)
                      replace hP : va_P D mp_cl (k_X10_load T a_ a_word a_row a_ways a_places a_p1 a_p1_rows a_p1_sorts a_p1_lengths a_p1_rows_0 a_p1_rows_1 a_p1_rows_2 a_p1_rows_3 x3 x5 u57 u50 v_p1_lengths v_p1_rows_0 v_p1_rows_1 v_p1_rows_2 v_p1_rows_3) H := hP
                      refine lv_if_eq (tgt := 118) hx hb dX10_load_111 (by decide) (fun h59 => ?_) (fun h59 => ?_)
                      · replace hf := if_t hf h59
                        refine lv_iconst (v := (nI 0)) hx hb dX10_load_118 (by decide) ?_
                        refine lv_istore (lv' := [(7, .int (nI 0)), (6, .int r1), (0, .ref a_), (1, .ref a_p1), (2, .int x2), (3, .int x3), (4, .int x4), (5, .int x5)]) hx hb dX10_load_119 hl (by decide) rfl (fun ls hl => ?_)
                        refine lv_iload hx hb dX10_load_121 (lv_at hl 0 rfl) ?_
                        refine lv_if_eq (tgt := 130) hx hb dX10_load_123 (by decide) (fun h60 => ?_) (fun h60 => ?_)
                        · replace hf := if_t hf h60
                          refine lv_iconst (v := (nI 5)) hx hb dX10_load_130 (by decide) ?_
                          cases hf
                          exact mp_reti X hP hS rfl dX10_load_131
                        · replace hf := if_f hf h60
                          refine lv_iconst (v := (nI 0)) hx hb dX10_load_126 (by decide) ?_
                          refine lv_goto (tgt := 131) hx hb dX10_load_127 (by decide) ?_
                          cases hf
                          exact mp_reti X hP hS rfl dX10_load_131
                      · replace hf := if_f hf h59
                        refine lv_iconst (v := (nI 1)) hx hb dX10_load_114 (by decide) ?_
                        refine lv_goto (tgt := 119) hx hb dX10_load_115 (by decide) ?_
                        refine lv_istore (lv' := [(7, .int (nI 1)), (6, .int r1), (0, .ref a_), (1, .ref a_p1), (2, .int x2), (3, .int x3), (4, .int x4), (5, .int x5)]) hx hb dX10_load_119 hl (by decide) rfl (fun ls hl => ?_)
                        refine lv_iload hx hb dX10_load_121 (lv_at hl 0 rfl) ?_
                        refine lv_if_eq (tgt := 130) hx hb dX10_load_123 (by decide) (fun h61 => ?_) (fun h61 => ?_)
                        · replace hf := if_t hf h61
                          refine lv_iconst (v := (nI 5)) hx hb dX10_load_130 (by decide) ?_
                          cases hf
                          exact mp_reti X hP hS rfl dX10_load_131
                        · replace hf := if_f hf h61
                          refine lv_iconst (v := (nI 0)) hx hb dX10_load_126 (by decide) ?_
                          refine lv_goto (tgt := 131) hx hb dX10_load_127 (by decide) ?_
                          cases hf
                          exact mp_reti X hP hS rfl dX10_load_131
                    replace hf := if_f hf h55
                    by_cases h62 : x4 = (nI 1)
                    · replace hf := if_t hf h62
                      rw [show va_rf (mp_ol [a_p1_rows_0, a_p1_rows_1, a_p1_rows_2, a_p1_rows_3] (x4).toNatClampNeg) = .ref a_p1_rows_1 from by rw [h62]; rfl]
                      refine lv_aload_n hx hb dX10_load_102 rfl (lv_at hl 1 rfl) ?_
                      refine mp_get X fl_X10_15 hK hP 0 rfl rfl dX10_load_103 ?_
                      refine lv_iload hx hb dX10_load_106 (lv_at hl 6 rfl) ?_
                      obtain ⟨⟨r63, u64⟩, c65, hf⟩ := bd_of hf
                      dsimp only at hf
                      have hPc := hP.sub (ws' := (k_X10_takeLetters T a_p1_rows_1 a_row 60 60 v_p1_rows_1 v_row)) [7, 1] rfl
                      have hDc := (mp_D_of (w1 := (k_X10_load T a_ a_word a_row a_ways a_places a_p1 a_p1_rows a_p1_sorts a_p1_lengths a_p1_rows_0 a_p1_rows_1 a_p1_rows_2 a_p1_rows_3 x3 x5 v_row u50 v_p1_lengths v_p1_rows_0 v_p1_rows_1 v_p1_rows_2 v_p1_rows_3)) hD rfl).sub (ws' := (k_X10_takeLetters T a_p1_rows_1 a_row 60 60 v_p1_rows_1 v_row)) [7, 1] rfl rfl
                      refine mp_calli (isC := [7, 1]) (wc := (k_X10_takeLetters T a_p1_rows_1 a_row 60 60 v_p1_rows_1 v_row)) (w1 := (k_X10_takeLetters T a_p1_rows_1 a_row 60 60 v_p1_rows_1 u64)) hP (mp_D_of hD rfl) hS hA rfl rfl (mp_runS (As := [.ref a_p1_rows_1, .ref a_row, .int x5]) (rest := []) X me_X10_takeLetters lk_X10_45 (c_X10_takeLetters l D T fu a_p1_rows_1 a_row 60 60 x5 v_p1_rows_1 v_row r63 u64 c65) rfl rfl ⟨(Nat.le_of_ble_eq_true rfl), (Nat.le_of_ble_eq_true rfl)⟩ hK hPc hDc rfl hl.1 rfl (Nat.le_of_ble_eq_true rfl) dX10_load_108 ⟨Nat.zero_le _, Nat.zero_le _⟩) (fun H locs hP _ hS => ?_)
                      replace hP : va_P D mp_cl (k_X10_load T a_ a_word a_row a_ways a_places a_p1 a_p1_rows a_p1_sorts a_p1_lengths a_p1_rows_0 a_p1_rows_1 a_p1_rows_2 a_p1_rows_3 x3 x5 u64 u50 v_p1_lengths v_p1_rows_0 v_p1_rows_1 v_p1_rows_2 v_p1_rows_3) H := hP
                      refine lv_if_eq (tgt := 118) hx hb dX10_load_111 (by decide) (fun h66 => ?_) (fun h66 => ?_)
                      · replace hf := if_t hf h66
                        refine lv_iconst (v := (nI 0)) hx hb dX10_load_118 (by decide) ?_
                        refine lv_istore (lv' := [(7, .int (nI 0)), (6, .int r1), (0, .ref a_), (1, .ref a_p1), (2, .int x2), (3, .int x3), (4, .int x4), (5, .int x5)]) hx hb dX10_load_119 hl (by decide) rfl (fun ls hl => ?_)
                        refine lv_iload hx hb dX10_load_121 (lv_at hl 0 rfl) ?_
                        refine lv_if_eq (tgt := 130) hx hb dX10_load_123 (by decide) (fun h67 => ?_) (fun h67 => ?_)
                        · replace hf := if_t hf h67
                          refine lv_iconst (v := (nI 5)) hx hb dX10_load_130 (by decide) ?_
                          cases hf
                          exact mp_reti X hP hS rfl dX10_load_131
                        · replace hf := if_f hf h67
                          refine lv_iconst (v := (nI 0)) hx hb dX10_load_126 (by decide) ?_
                          refine lv_goto (tgt := 131) hx hb dX10_load_127 (by decide) ?_
                          cases hf
                          exact mp_reti X hP hS rfl dX10_load_131
                      · replace hf := if_f hf h66
                        refine lv_iconst (v := (nI 1)) hx hb dX10_load_114 (by decide) ?_
                        refine lv_goto (tgt := 119) hx hb dX10_load_115 (by decide) ?_
                        refine lv_istore (lv' := [(7, .int (nI 1)), (6, .int r1), (0, .ref a_), (1, .ref a_p1), (2, .int x2), (3, .int x3), (4, .int x4), (5, .int x5)]) hx hb dX10_load_119 hl (by decide) rfl (fun ls hl => ?_)
                        refine lv_iload hx hb dX10_load_121 (lv_at hl 0 rfl) ?_
                        refine lv_if_eq (tgt := 130) hx hb dX10_load_123 (by decide) (fun h68 => ?_) (fun h68 => ?_)
                        · replace hf := if_t hf h68
                          refine lv_iconst (v := (nI 5)) hx hb dX10_load_130 (by decide) ?_
                          cases hf
                          exact mp_reti X hP hS rfl dX10_load_131
                        · replace hf := if_f hf h68
                          refine lv_iconst (v := (nI 0)) hx hb dX10_load_126 (by decide) ?_
                          refine lv_goto (tgt := 131) hx hb dX10_load_127 (by decide) ?_
                          cases hf
                          exact mp_reti X hP hS rfl dX10_load_131
                    replace hf := if_f hf h62
                    by_cases h69 : x4 = (nI 2)
                    · replace hf := if_t hf h69
                      rw [show va_rf (mp_ol [a_p1_rows_0, a_p1_rows_1, a_p1_rows_2, a_p1_rows_3] (x4).toNatClampNeg) = .ref a_p1_rows_2 from by rw [h69]; rfl]
                      refine lv_aload_n hx hb dX10_load_102 rfl (lv_at hl 1 rfl) ?_
                      refine mp_get X fl_X10_15 hK hP 0 rfl rfl dX10_load_103 ?_
                      refine lv_iload hx hb dX10_load_106 (lv_at hl 6 rfl) ?_
                      obtain ⟨⟨r70, u71⟩, c72, hf⟩ := bd_of hf
                      dsimp only at hf
                      have hPc := hP.sub (ws' := (k_X10_takeLetters T a_p1_rows_2 a_row 60 60 v_p1_rows_2 v_row)) [8, 1] rfl
                      have hDc := (mp_D_of (w1 := (k_X10_load T a_ a_word a_row a_ways a_places a_p1 a_p1_rows a_p1_sorts a_p1_lengths a_p1_rows_0 a_p1_rows_1 a_p1_rows_2 a_p1_rows_3 x3 x5 v_row u50 v_p1_lengths v_p1_rows_0 v_p1_rows_1 v_p1_rows_2 v_p1_rows_3)) hD rfl).sub (ws' := (k_X10_takeLetters T a_p1_rows_2 a_row 60 60 v_p1_rows_2 v_row)) [8, 1] rfl rfl
                      refine mp_calli (isC := [8, 1]) (wc := (k_X10_takeLetters T a_p1_rows_2 a_row 60 60 v_p1_rows_2 v_row)) (w1 := (k_X10_takeLetters T a_p1_rows_2 a_row 60 60 v_p1_rows_2 u71)) hP (mp_D_of hD rfl) hS hA rfl rfl (mp_runS (As := [.ref a_p1_rows_2, .ref a_row, .int x5]) (rest := []) X me_X10_takeLetters lk_X10_45 (c_X10_takeLetters l D T fu a_p1_rows_2 a_row 60 60 x5 v_p1_rows_2 v_row r70 u71 c72) rfl rfl ⟨(Nat.le_of_ble_eq_true rfl), (Nat.le_of_ble_eq_true rfl)⟩ hK hPc hDc rfl hl.1 rfl (Nat.le_of_ble_eq_true rfl) dX10_load_108 ⟨Nat.zero_le _, Nat.zero_le _⟩) (fun H locs hP _ hS => ?_)
                      replace hP : va_P D mp_cl (k_X10_load T a_ a_word a_row a_ways a_places a_p1 a_p1_rows a_p1_sorts a_p1_lengths a_p1_rows_0 a_p1_rows_1 a_p1_rows_2 a_p1_rows_3 x3 x5 u71 u50 v_p1_lengths v_p1_rows_0 v_p1_rows_1 v_p1_rows_2 v_p1_rows_3) H := hP
                      refine lv_if_eq (tgt := 118) hx hb dX10_load_111 (by decide) (fun h73 => ?_) (fun h73 => ?_)
                      · replace hf := if_t hf h73
                        refine lv_iconst (v := (nI 0)) hx hb dX10_load_118 (by decide) ?_
                        refine lv_istore (lv' := [(7, .int (nI 0)), (6, .int r1), (0, .ref a_), (1, .ref a_p1), (2, .int x2), (3, .int x3), (4, .int x4), (5, .int x5)]) hx hb dX10_load_119 hl (by decide) rfl (fun ls hl => ?_)
                        refine lv_iload hx hb dX10_load_121 (lv_at hl 0 rfl) ?_
                        refine lv_if_eq (tgt := 130) hx hb dX10_load_123 (by decide) (fun h74 => ?_) (fun h74 => ?_)
                        · replace hf := if_t hf h74
                          refine lv_iconst (v := (nI 5)) hx hb dX10_load_130 (by decide) ?_
                          cases hf
                          exact mp_reti X hP hS rfl dX10_load_131
                        · replace hf := if_f hf h74
                          refine lv_iconst (v := (nI 0)) hx hb dX10_load_126 (by decide) ?_
                          refine lv_goto (tgt := 131) hx hb dX10_load_127 (by decide) ?_
                          cases hf
                          exact mp_reti X hP hS rfl dX10_load_131
                      · replace hf := if_f hf h73
                        refine lv_iconst (v := (nI 1)) hx hb dX10_load_114 (by decide) ?_
                        refine lv_goto (tgt := 119) hx hb dX10_load_115 (by decide) ?_
                        refine lv_istore (lv' := [(7, .int (nI 1)), (6, .int r1), (0, .ref a_), (1, .ref a_p1), (2, .int x2), (3, .int x3), (4, .int x4), (5, .int x5)]) hx hb dX10_load_119 hl (by decide) rfl (fun ls hl => ?_)
                        refine lv_iload hx hb dX10_load_121 (lv_at hl 0 rfl) ?_
                        refine lv_if_eq (tgt := 130) hx hb dX10_load_123 (by decide) (fun h75 => ?_) (fun h75 => ?_)
                        · replace hf := if_t hf h75
                          refine lv_iconst (v := (nI 5)) hx hb dX10_load_130 (by decide) ?_
                          cases hf
                          exact mp_reti X hP hS rfl dX10_load_131
                        · replace hf := if_f hf h75
                          refine lv_iconst (v := (nI 0)) hx hb dX10_load_126 (by decide) ?_
                          refine lv_goto (tgt := 131) hx hb dX10_load_127 (by decide) ?_
                          cases hf
                          exact mp_reti X hP hS rfl dX10_load_131
                    replace hf := if_f hf h69
                    have h76 : x4 = (nI 3) := mp_last4 h54 h55 h62 h69
                    rw [show va_rf (mp_ol [a_p1_rows_0, a_p1_rows_1, a_p1_rows_2, a_p1_rows_3] (x4).toNatClampNeg) = .ref a_p1_rows_3 from by rw [h76]; rfl]
                    refine lv_aload_n hx hb dX10_load_102 rfl (lv_at hl 1 rfl) ?_
                    refine mp_get X fl_X10_15 hK hP 0 rfl rfl dX10_load_103 ?_
                    refine lv_iload hx hb dX10_load_106 (lv_at hl 6 rfl) ?_
                    obtain ⟨⟨r77, u78⟩, c79, hf⟩ := bd_of hf
                    dsimp only at hf
                    have hPc := hP.sub (ws' := (k_X10_takeLetters T a_p1_rows_3 a_row 60 60 v_p1_rows_3 v_row)) [9, 1] rfl
                    have hDc := (mp_D_of (w1 := (k_X10_load T a_ a_word a_row a_ways a_places a_p1 a_p1_rows a_p1_sorts a_p1_lengths a_p1_rows_0 a_p1_rows_1 a_p1_rows_2 a_p1_rows_3 x3 x5 v_row u50 v_p1_lengths v_p1_rows_0 v_p1_rows_1 v_p1_rows_2 v_p1_rows_3)) hD rfl).sub (ws' := (k_X10_takeLetters T a_p1_rows_3 a_row 60 60 v_p1_rows_3 v_row)) [9, 1] rfl rfl
                    refine mp_calli (isC := [9, 1]) (wc := (k_X10_takeLetters T a_p1_rows_3 a_row 60 60 v_p1_rows_3 v_row)) (w1 := (k_X10_takeLetters T a_p1_rows_3 a_row 60 60 v_p1_rows_3 u78)) hP (mp_D_of hD rfl) hS hA rfl rfl (mp_runS (As := [.ref a_p1_rows_3, .ref a_row, .int x5]) (rest := []) X me_X10_takeLetters lk_X10_45 (c_X10_takeLetters l D T fu a_p1_rows_3 a_row 60 60 x5 v_p1_rows_3 v_row r77 u78 c79) rfl rfl ⟨(Nat.le_of_ble_eq_true rfl), (Nat.le_of_ble_eq_true rfl)⟩ hK hPc hDc rfl hl.1 rfl (Nat.le_of_ble_eq_true rfl) dX10_load_108 ⟨Nat.zero_le _, Nat.zero_le _⟩) (fun H locs hP _ hS => ?_)
                    replace hP : va_P D mp_cl (k_X10_load T a_ a_word a_row a_ways a_places a_p1 a_p1_rows a_p1_sorts a_p1_lengths a_p1_rows_0 a_p1_rows_1 a_p1_rows_2 a_p1_rows_3 x3 x5 u78 u50 v_p1_lengths v_p1_rows_0 v_p1_rows_1 v_p1_rows_2 v_p1_rows_3) H := hP
                    refine lv_if_eq (tgt := 118) hx hb dX10_load_111 (by decide) (fun h80 => ?_) (fun h80 => ?_)
                    · replace hf := if_t hf h80
                      refine lv_iconst (v := (nI 0)) hx hb dX10_load_118 (by decide) ?_
                      refine lv_istore (lv' := [(7, .int (nI 0)), (6, .int r1), (0, .ref a_), (1, .ref a_p1), (2, .int x2), (3, .int x3), (4, .int x4), (5, .int x5)]) hx hb dX10_load_119 hl (by decide) rfl (fun ls hl => ?_)
                      refine lv_iload hx hb dX10_load_121 (lv_at hl 0 rfl) ?_
                      refine lv_if_eq (tgt := 130) hx hb dX10_load_123 (by decide) (fun h81 => ?_) (fun h81 => ?_)
                      · replace hf := if_t hf h81
                        refine lv_iconst (v := (nI 5)) hx hb dX10_load_130 (by decide) ?_
                        cases hf
                        exact mp_reti X hP hS rfl dX10_load_131
                      · replace hf := if_f hf h81
                        refine lv_iconst (v := (nI 0)) hx hb dX10_load_126 (by decide) ?_
                        refine lv_goto (tgt := 131) hx hb dX10_load_127 (by decide) ?_
                        cases hf
                        exact mp_reti X hP hS rfl dX10_load_131
                    · replace hf := if_f hf h80
                      refine lv_iconst (v := (nI 1)) hx hb dX10_load_114 (by decide) ?_
                      refine lv_goto (tgt := 119) hx hb dX10_load_115 (by decide) ?_
                      refine lv_istore (lv' := [(7, .int (nI 1)), (6, .int r1), (0, .ref a_), (1, .ref a_p1), (2, .int x2), (3, .int x3), (4, .int x4), (5, .int x5)]) hx hb dX10_load_119 hl (by decide) rfl (fun ls hl => ?_)
                      refine lv_iload hx hb dX10_load_121 (lv_at hl 0 rfl) ?_
                      refine lv_if_eq (tgt := 130) hx hb dX10_load_123 (by decide) (fun h82 => ?_) (fun h82 => ?_)
                      · replace hf := if_t hf h82
                        refine lv_iconst (v := (nI 5)) hx hb dX10_load_130 (by decide) ?_
                        cases hf
                        exact mp_reti X hP hS rfl dX10_load_131
                      · replace hf := if_f hf h82
                        refine lv_iconst (v := (nI 0)) hx hb dX10_load_126 (by decide) ?_
                        refine lv_goto (tgt := 131) hx hb dX10_load_127 (by decide) ?_
                        cases hf
                        exact mp_reti X hP hS rfl dX10_load_131
                replace hf := if_f hf h48
                by_cases h83 : x2 = (nI 2)
                · replace hf := if_t hf h83
                  rw [show va_rf (mp_ol [a_p1_rows_0, a_p1_rows_1, a_p1_rows_2, a_p1_rows_3] (x2).toNatClampNeg) = .ref a_p1_rows_2 from by rw [h83]; rfl]
                  refine lv_aload_n hx hb dX10_load_84 rfl (lv_at hl 1 rfl) ?_
                  refine mp_get X fl_X10_9 hK hP 0 rfl rfl dX10_load_85 ?_
                  refine lv_iload_n hx hb dX10_load_88 rfl (lv_at hl 4 rfl) ?_
                  obtain ⟨⟨r84, u85⟩, c86, hf⟩ := bd_of hf
                  dsimp only at hf
                  have hPc := hP.sub (ws' := (k_X10_takeLetters T a_p1_rows_2 a_word 60 10 v_p1_rows_2 v_word)) [8, 2] rfl
                  have hDc := (mp_D_of (w1 := (k_X10_load T a_ a_word a_row a_ways a_places a_p1 a_p1_rows a_p1_sorts a_p1_lengths a_p1_rows_0 a_p1_rows_1 a_p1_rows_2 a_p1_rows_3 x3 x5 v_row v_word v_p1_lengths v_p1_rows_0 v_p1_rows_1 v_p1_rows_2 v_p1_rows_3)) hD rfl).sub (ws' := (k_X10_takeLetters T a_p1_rows_2 a_word 60 10 v_p1_rows_2 v_word)) [8, 2] rfl rfl
                  refine mp_calli (isC := [8, 2]) (wc := (k_X10_takeLetters T a_p1_rows_2 a_word 60 10 v_p1_rows_2 v_word)) (w1 := (k_X10_takeLetters T a_p1_rows_2 a_word 60 10 v_p1_rows_2 u85)) hP (mp_D_of hD rfl) hS hA rfl rfl (mp_runS (As := [.ref a_p1_rows_2, .ref a_word, .int x3]) (rest := []) X me_X10_takeLetters lk_X10_45 (c_X10_takeLetters l D T fu a_p1_rows_2 a_word 60 10 x3 v_p1_rows_2 v_word r84 u85 c86) rfl rfl ⟨(Nat.le_of_ble_eq_true rfl), (Nat.le_of_ble_eq_true rfl)⟩ hK hPc hDc rfl hl.1 rfl (Nat.le_of_ble_eq_true rfl) dX10_load_89 ⟨Nat.zero_le _, Nat.zero_le _⟩) (fun H locs hP _ hS => ?_)
                  replace hP : va_P D mp_cl (k_X10_load T a_ a_word a_row a_ways a_places a_p1 a_p1_rows a_p1_sorts a_p1_lengths a_p1_rows_0 a_p1_rows_1 a_p1_rows_2 a_p1_rows_3 x3 x5 v_row u85 v_p1_lengths v_p1_rows_0 v_p1_rows_1 v_p1_rows_2 v_p1_rows_3) H := hP
                  refine lv_if_eq (tgt := 118) hx hb dX10_load_92 (by decide) (fun h87 => ?_) (fun h87 => ?_)
                  · replace hf := if_t hf h87
                    refine lv_iconst (v := (nI 0)) hx hb dX10_load_118 (by decide) ?_
                    refine lv_istore (lv' := [(7, .int (nI 0)), (6, .int r1), (0, .ref a_), (1, .ref a_p1), (2, .int x2), (3, .int x3), (4, .int x4), (5, .int x5)]) hx hb dX10_load_119 hl (by decide) rfl (fun ls hl => ?_)
                    refine lv_iload hx hb dX10_load_121 (lv_at hl 0 rfl) ?_
                    refine lv_if_eq (tgt := 130) hx hb dX10_load_123 (by decide) (fun h88 => ?_) (fun h88 => ?_)
                    · replace hf := if_t hf h88
                      refine lv_iconst (v := (nI 5)) hx hb dX10_load_130 (by decide) ?_
                      cases hf
                      exact mp_reti X hP hS rfl dX10_load_131
                    · replace hf := if_f hf h88
                      refine lv_iconst (v := (nI 0)) hx hb dX10_load_126 (by decide) ?_
                      refine lv_goto (tgt := 131) hx hb dX10_load_127 (by decide) ?_
                      cases hf
                      exact mp_reti X hP hS rfl dX10_load_131
                  · replace hf := if_f hf h87
                    refine lv_aload_n hx hb dX10_load_95 rfl (lv_at hl 2 rfl) ?_
                    refine mp_get X fl_X10_41 hK hP 3 rfl rfl dX10_load_96 ?_
                    refine lv_iload hx hb dX10_load_99 (lv_at hl 5 rfl) ?_
                    obtain ⟨h89, hf⟩ := gi_of hf
                    refine va_aldqA hx hb hK hP 5 3 rfl rfl h89 dX10_load_101 ?_
                    by_cases h90 : x4 = (nI 0)
                    · replace hf := if_t hf h90
                      rw [show va_rf (mp_ol [a_p1_rows_0, a_p1_rows_1, a_p1_rows_2, a_p1_rows_3] (x4).toNatClampNeg) = .ref a_p1_rows_0 from by rw [h90]; rfl]
                      refine lv_aload_n hx hb dX10_load_102 rfl (lv_at hl 1 rfl) ?_
                      refine mp_get X fl_X10_15 hK hP 0 rfl rfl dX10_load_103 ?_
                      refine lv_iload hx hb dX10_load_106 (lv_at hl 6 rfl) ?_
                      obtain ⟨⟨r91, u92⟩, c93, hf⟩ := bd_of hf
                      dsimp only at hf
                      have hPc := hP.sub (ws' := (k_X10_takeLetters T a_p1_rows_0 a_row 60 60 v_p1_rows_0 v_row)) [6, 1] rfl
                      have hDc := (mp_D_of (w1 := (k_X10_load T a_ a_word a_row a_ways a_places a_p1 a_p1_rows a_p1_sorts a_p1_lengths a_p1_rows_0 a_p1_rows_1 a_p1_rows_2 a_p1_rows_3 x3 x5 v_row u85 v_p1_lengths v_p1_rows_0 v_p1_rows_1 v_p1_rows_2 v_p1_rows_3)) hD rfl).sub (ws' := (k_X10_takeLetters T a_p1_rows_0 a_row 60 60 v_p1_rows_0 v_row)) [6, 1] rfl rfl
                      refine mp_calli (isC := [6, 1]) (wc := (k_X10_takeLetters T a_p1_rows_0 a_row 60 60 v_p1_rows_0 v_row)) (w1 := (k_X10_takeLetters T a_p1_rows_0 a_row 60 60 v_p1_rows_0 u92)) hP (mp_D_of hD rfl) hS hA rfl rfl (mp_runS (As := [.ref a_p1_rows_0, .ref a_row, .int x5]) (rest := []) X me_X10_takeLetters lk_X10_45 (c_X10_takeLetters l D T fu a_p1_rows_0 a_row 60 60 x5 v_p1_rows_0 v_row r91 u92 c93) rfl rfl ⟨(Nat.le_of_ble_eq_true rfl), (Nat.le_of_ble_eq_true rfl)⟩ hK hPc hDc rfl hl.1 rfl (Nat.le_of_ble_eq_true rfl) dX10_load_108 ⟨Nat.zero_le _, Nat.zero_le _⟩) (fun H locs hP _ hS => ?_)
                      replace hP : va_P D mp_cl (k_X10_load T a_ a_word a_row a_ways a_places a_p1 a_p1_rows a_p1_sorts a_p1_lengths a_p1_rows_0 a_p1_rows_1 a_p1_rows_2 a_p1_rows_3 x3 x5 u92 u85 v_p1_lengths v_p1_rows_0 v_p1_rows_1 v_p1_rows_2 v_p1_rows_3) H := hP
                      refine lv_if_eq (tgt := 118) hx hb dX10_load_111 (by decide) (fun h94 => ?_) (fun h94 => ?_)
                      · replace hf := if_t hf h94
                        refine lv_iconst (v := (nI 0)) hx hb dX10_load_118 (by decide) ?_
                        refine lv_istore (lv' := [(7, .int (nI 0)), (6, .int r1), (0, .ref a_), (1, .ref a_p1), (2, .int x2), (3, .int x3), (4, .int x4), (5, .int x5)]) hx hb dX10_load_119 hl (by decide) rfl (fun ls hl => ?_)
                        refine lv_iload hx hb dX10_load_121 (lv_at hl 0 rfl) ?_
                        refine lv_if_eq (tgt := 130) hx hb dX10_load_123 (by decide) (fun h95 => ?_) (fun h95 => ?_)
                        · replace hf := if_t hf h95
                          refine lv_iconst (v := (nI 5)) hx hb dX10_load_130 (by decide) ?_
                          cases hf
                          exact mp_reti X hP hS rfl dX10_load_131
                        · replace hf := if_f hf h95
                          refine lv_iconst (v := (nI 0)) hx hb dX10_load_126 (by decide) ?_
                          refine lv_goto (tgt := 131) hx hb dX10_load_127 (by decide) ?_
                          cases hf
                          exact mp_reti X hP hS rfl dX10_load_131
                      · replace hf := if_f hf h94
                        refine lv_iconst (v := (nI 1)) hx hb dX10_load_114 (by decide) ?_
                        refine lv_goto (tgt := 119) hx hb dX10_load_115 (by decide) ?_
                        refine lv_istore (lv' := [(7, .int (nI 1)), (6, .int r1), (0, .ref a_), (1, .ref a_p1), (2, .int x2), (3, .int x3), (4, .int x4), (5, .int x5)]) hx hb dX10_load_119 hl (by decide) rfl (fun ls hl => ?_)
                        refine lv_iload hx hb dX10_load_121 (lv_at hl 0 rfl) ?_
                        refine lv_if_eq (tgt := 130) hx hb dX10_load_123 (by decide) (fun h96 => ?_) (fun h96 => ?_)
                        · replace hf := if_t hf h96
                          refine lv_iconst (v := (nI 5)) hx hb dX10_load_130 (by decide) ?_
                          cases hf
                          exact mp_reti X hP hS rfl dX10_load_131
                        · replace hf := if_f hf h96
                          refine lv_iconst (v := (nI 0)) hx hb dX10_load_126 (by decide) ?_
                          refine lv_goto (tgt := 131) hx hb dX10_load_127 (by decide) ?_
                          cases hf
                          exact mp_reti X hP hS rfl dX10_load_131
                    replace hf := if_f hf h90
                    by_cases h97 : x4 = (nI 1)
                    · replace hf := if_t hf h97
                      rw [show va_rf (mp_ol [a_p1_rows_0, a_p1_rows_1, a_p1_rows_2, a_p1_rows_3] (x4).toNatClampNeg) = .ref a_p1_rows_1 from by rw [h97]; rfl]
                      refine lv_aload_n hx hb dX10_load_102 rfl (lv_at hl 1 rfl) ?_
                      refine mp_get X fl_X10_15 hK hP 0 rfl rfl dX10_load_103 ?_
                      refine lv_iload hx hb dX10_load_106 (lv_at hl 6 rfl) ?_
                      obtain ⟨⟨r98, u99⟩, c100, hf⟩ := bd_of hf
                      dsimp only at hf
                      have hPc := hP.sub (ws' := (k_X10_takeLetters T a_p1_rows_1 a_row 60 60 v_p1_rows_1 v_row)) [7, 1] rfl
                      have hDc := (mp_D_of (w1 := (k_X10_load T a_ a_word a_row a_ways a_places a_p1 a_p1_rows a_p1_sorts a_p1_lengths a_p1_rows_0 a_p1_rows_1 a_p1_rows_2 a_p1_rows_3 x3 x5 v_row u85 v_p1_lengths v_p1_rows_0 v_p1_rows_1 v_p1_rows_2 v_p1_rows_3)) hD rfl).sub (ws' := (k_X10_takeLetters T a_p1_rows_1 a_row 60 60 v_p1_rows_1 v_row)) [7, 1] rfl rfl
                      refine mp_calli (isC := [7, 1]) (wc := (k_X10_takeLetters T a_p1_rows_1 a_row 60 60 v_p1_rows_1 v_row)) (w1 := (k_X10_takeLetters T a_p1_rows_1 a_row 60 60 v_p1_rows_1 u99)) hP (mp_D_of hD rfl) hS hA rfl rfl (mp_runS (As := [.ref a_p1_rows_1, .ref a_row, .int x5]) (rest := []) X me_X10_takeLetters lk_X10_45 (c_X10_takeLetters l D T fu a_p1_rows_1 a_row 60 60 x5 v_p1_rows_1 v_row r98 u99 c100) rfl rfl ⟨(Nat.le_of_ble_eq_true rfl), (Nat.le_of_ble_eq_true rfl)⟩ hK hPc hDc rfl hl.1 rfl (Nat.le_of_ble_eq_true rfl) dX10_load_108 ⟨Nat.zero_le _, Nat.zero_le _⟩) (fun H locs hP _ hS => ?_)
                      replace hP : va_P D mp_cl (k_X10_load T a_ a_word a_row a_ways a_places a_p1 a_p1_rows a_p1_sorts a_p1_lengths a_p1_rows_0 a_p1_rows_1 a_p1_rows_2 a_p1_rows_3 x3 x5 u99 u85 v_p1_lengths v_p1_rows_0 v_p1_rows_1 v_p1_rows_2 v_p1_rows_3) H := hP
                      refine lv_if_eq (tgt := 118) hx hb dX10_load_111 (by decide) (fun h101 => ?_) (fun h101 => ?_)
                      · replace hf := if_t hf h101
                        refine lv_iconst (v := (nI 0)) hx hb dX10_load_118 (by decide) ?_
                        refine lv_istore (lv' := [(7, .int (nI 0)), (6, .int r1), (0, .ref a_), (1, .ref a_p1), (2, .int x2), (3, .int x3), (4, .int x4), (5, .int x5)]) hx hb dX10_load_119 hl (by decide) rfl (fun ls hl => ?_)
                        refine lv_iload hx hb dX10_load_121 (lv_at hl 0 rfl) ?_
                        refine lv_if_eq (tgt := 130) hx hb dX10_load_123 (by decide) (fun h102 => ?_) (fun h102 => ?_)
                        · replace hf := if_t hf h102
                          refine lv_iconst (v := (nI 5)) hx hb dX10_load_130 (by decide) ?_
                          cases hf
                          exact mp_reti X hP hS rfl dX10_load_131
                        · replace hf := if_f hf h102
                          refine lv_iconst (v := (nI 0)) hx hb dX10_load_126 (by decide) ?_
                          refine lv_goto (tgt := 131) hx hb dX10_load_127 (by decide) ?_
                          cases hf
                          exact mp_reti X hP hS rfl dX10_load_131
                      · replace hf := if_f hf h101
                        refine lv_iconst (v := (nI 1)) hx hb dX10_load_114 (by decide) ?_
                        refine lv_goto (tgt := 119) hx hb dX10_load_115 (by decide) ?_
                        refine lv_istore (lv' := [(7, .int (nI 1)), (6, .int r1), (0, .ref a_), (1, .ref a_p1), (2, .int x2), (3, .int x3), (4, .int x4), (5, .int x5)]) hx hb dX10_load_119 hl (by decide) rfl (fun ls hl => ?_)
                        refine lv_iload hx hb dX10_load_121 (lv_at hl 0 rfl) ?_
                        refine lv_if_eq (tgt := 130) hx hb dX10_load_123 (by decide) (fun h103 => ?_) (fun h103 => ?_)
                        · replace hf := if_t hf h103
                          refine lv_iconst (v := (nI 5)) hx hb dX10_load_130 (by decide) ?_
                          cases hf
                          exact mp_reti X hP hS rfl dX10_load_131
                        · replace hf := if_f hf h103
                          refine lv_iconst (v := (nI 0)) hx hb dX10_load_126 (by decide) ?_
                          refine lv_goto (tgt := 131) hx hb dX10_load_127 (by decide) ?_
                          cases hf
                          exact mp_reti X hP hS rfl dX10_load_131
                    replace hf := if_f hf h97
                    by_cases h104 : x4 = (nI 2)
                    · replace hf := if_t hf h104
                      rw [show va_rf (mp_ol [a_p1_rows_0, a_p1_rows_1, a_p1_rows_2, a_p1_rows_3] (x4).toNatClampNeg) = .ref a_p1_rows_2 from by rw [h104]; rfl]
                      refine lv_aload_n hx hb dX10_load_102 rfl (lv_at hl 1 rfl) ?_
                      refine mp_get X fl_X10_15 hK hP 0 rfl rfl dX10_load_103 ?_
                      refine lv_iload hx hb dX10_load_106 (lv_at hl 6 rfl) ?_
                      obtain ⟨⟨r105, u106⟩, c107, hf⟩ := bd_of hf
                      dsimp only at hf
                      have hPc := hP.sub (ws' := (k_X10_takeLetters T a_p1_rows_2 a_row 60 60 v_p1_rows_2 v_row)) [8, 1] rfl
                      have hDc := (mp_D_of (w1 := (k_X10_load T a_ a_word a_row a_ways a_places a_p1 a_p1_rows a_p1_sorts a_p1_lengths a_p1_rows_0 a_p1_rows_1 a_p1_rows_2 a_p1_rows_3 x3 x5 v_row u85 v_p1_lengths v_p1_rows_0 v_p1_rows_1 v_p1_rows_2 v_p1_rows_3)) hD rfl).sub (ws' := (k_X10_takeLetters T a_p1_rows_2 a_row 60 60 v_p1_rows_2 v_row)) [8, 1] rfl rfl
                      refine mp_calli (isC := [8, 1]) (wc := (k_X10_takeLetters T a_p1_rows_2 a_row 60 60 v_p1_rows_2 v_row)) (w1 := (k_X10_takeLetters T a_p1_rows_2 a_row 60 60 v_p1_rows_2 u106)) hP (mp_D_of hD rfl) hS hA rfl rfl (mp_runS (As := [.ref a_p1_rows_2, .ref a_row, .int x5]) (rest := []) X me_X10_takeLetters lk_X10_45 (c_X10_takeLetters l D T fu a_p1_rows_2 a_row 60 60 x5 v_p1_rows_2 v_row r105 u106 c107) rfl rfl ⟨(Nat.le_of_ble_eq_true rfl), (Nat.le_of_ble_eq_true rfl)⟩ hK hPc hDc rfl hl.1 rfl (Nat.le_of_ble_eq_true rfl) dX10_load_108 ⟨Nat.zero_le _, Nat.zero_le _⟩) (fun H locs hP _ hS => ?_)
                      replace hP : va_P D mp_cl (k_X10_load T a_ a_word a_row a_ways a_places a_p1 a_p1_rows a_p1_sorts a_p1_lengths a_p1_rows_0 a_p1_rows_1 a_p1_rows_2 a_p1_rows_3 x3 x5 u106 u85 v_p1_lengths v_p1_rows_0 v_p1_rows_1 v_p1_rows_2 v_p1_rows_3) H := hP
                      refine lv_if_eq (tgt := 118) hx hb dX10_load_111 (by decide) (fun h108 => ?_) (fun h108 => ?_)
                      · replace hf := if_t hf h108
                        refine lv_iconst (v := (nI 0)) hx hb dX10_load_118 (by decide) ?_
                        refine lv_istore (lv' := [(7, .int (nI 0)), (6, .int r1), (0, .ref a_), (1, .ref a_p1), (2, .int x2), (3, .int x3), (4, .int x4), (5, .int x5)]) hx hb dX10_load_119 hl (by decide) rfl (fun ls hl => ?_)
                        refine lv_iload hx hb dX10_load_121 (lv_at hl 0 rfl) ?_
                        refine lv_if_eq (tgt := 130) hx hb dX10_load_123 (by decide) (fun h109 => ?_) (fun h109 => ?_)
                        · replace hf := if_t hf h109
                          refine lv_iconst (v := (nI 5)) hx hb dX10_load_130 (by decide) ?_
                          cases hf
                          exact mp_reti X hP hS rfl dX10_load_131
                        · replace hf := if_f hf h109
                          refine lv_iconst (v := (nI 0)) hx hb dX10_load_126 (by decide) ?_
                          refine lv_goto (tgt := 131) hx hb dX10_load_127 (by decide) ?_
                          cases hf
                          exact mp_reti X hP hS rfl dX10_load_131
                      · replace hf := if_f hf h108
                        refine lv_iconst (v := (nI 1)) hx hb dX10_load_114 (by decide) ?_
                        refine lv_goto (tgt := 119) hx hb dX10_load_115 (by decide) ?_
                        refine lv_istore (lv' := [(7, .int (nI 1)), (6, .int r1), (0, .ref a_), (1, .ref a_p1), (2, .int x2), (3, .int x3), (4, .int x4), (5, .int x5)]) hx hb dX10_load_119 hl (by decide) rfl (fun ls hl => ?_)
                        refine lv_iload hx hb dX10_load_121 (lv_at hl 0 rfl) ?_
                        refine lv_if_eq (tgt := 130) hx hb dX10_load_123 (by decide) (fun h110 => ?_) (fun h110 => ?_)
                        · replace hf := if_t hf h110
                          refine lv_iconst (v := (nI 5)) hx hb dX10_load_130 (by decide) ?_
                          cases hf
                          exact mp_reti X hP hS rfl dX10_load_131
                        · replace hf := if_f hf h110
                          refine lv_iconst (v := (nI 0)) hx hb dX10_load_126 (by decide) ?_
                          refine lv_goto (tgt := 131) hx hb dX10_load_127 (by decide) ?_
                          cases hf
                          exact mp_reti X hP hS rfl dX10_load_131
                    replace hf := if_f hf h104
                    have h111 : x4 = (nI 3) := mp_last4 h89 h90 h97 h104
                    rw [show va_rf (mp_ol [a_p1_rows_0, a_p1_rows_1, a_p1_rows_2, a_p1_rows_3] (x4).toNatClampNeg) = .ref a_p1_rows_3 from by rw [h111]; rfl]
                    refine lv_aload_n hx hb dX10_load_102 rfl (lv_at hl 1 rfl) ?_
                    refine mp_get X fl_X10_15 hK hP 0 rfl rfl dX10_load_103 ?_
                    refine lv_iload hx hb dX10_load_106 (lv_at hl 6 rfl) ?_
                    obtain ⟨⟨r112, u113⟩, c114, hf⟩ := bd_of hf
                    dsimp only at hf
                    have hPc := hP.sub (ws' := (k_X10_takeLetters T a_p1_rows_3 a_row 60 60 v_p1_rows_3 v_row)) [9, 1] rfl
                    have hDc := (mp_D_of (w1 := (k_X10_load T a_ a_word a_row a_ways a_places a_p1 a_p1_rows a_p1_sorts a_p1_lengths a_p1_rows_0 a_p1_rows_1 a_p1_rows_2 a_p1_rows_3 x3 x5 v_row u85 v_p1_lengths v_p1_rows_0 v_p1_rows_1 v_p1_rows_2 v_p1_rows_3)) hD rfl).sub (ws' := (k_X10_takeLetters T a_p1_rows_3 a_row 60 60 v_p1_rows_3 v_row)) [9, 1] rfl rfl
                    refine mp_calli (isC := [9, 1]) (wc := (k_X10_takeLetters T a_p1_rows_3 a_row 60 60 v_p1_rows_3 v_row)) (w1 := (k_X10_takeLetters T a_p1_rows_3 a_row 60 60 v_p1_rows_3 u113)) hP (mp_D_of hD rfl) hS hA rfl rfl (mp_runS (As := [.ref a_p1_rows_3, .ref a_row, .int x5]) (rest := []) X me_X10_takeLetters lk_X10_45 (c_X10_takeLetters l D T fu a_p1_rows_3 a_row 60 60 x5 v_p1_rows_3 v_row r112 u113 c114) rfl rfl ⟨(Nat.le_of_ble_eq_true rfl), (Nat.le_of_ble_eq_true rfl)⟩ hK hPc hDc rfl hl.1 rfl (Nat.le_of_ble_eq_true rfl) dX10_load_108 ⟨Nat.zero_le _, Nat.zero_le _⟩) (fun H locs hP _ hS => ?_)
                    replace hP : va_P D mp_cl (k_X10_load T a_ a_word a_row a_ways a_places a_p1 a_p1_rows a_p1_sorts a_p1_lengths a_p1_rows_0 a_p1_rows_1 a_p1_rows_2 a_p1_rows_3 x3 x5 u113 u85 v_p1_lengths v_p1_rows_0 v_p1_rows_1 v_p1_rows_2 v_p1_rows_3) H := hP
                    refine lv_if_eq (tgt := 118) hx hb dX10_load_111 (by decide) (fun h115 => ?_) (fun h115 => ?_)
                    · replace hf := if_t hf h115
                      refine lv_iconst (v := (nI 0)) hx hb dX10_load_118 (by decide) ?_
                      refine lv_istore (lv' := [(7, .int (nI 0)), (6, .int r1), (0, .ref a_), (1, .ref a_p1), (2, .int x2), (3, .int x3), (4, .int x4), (5, .int x5)]) hx hb dX10_load_119 hl (by decide) rfl (fun ls hl => ?_)
                      refine lv_iload hx hb dX10_load_121 (lv_at hl 0 rfl) ?_
                      refine lv_if_eq (tgt := 130) hx hb dX10_load_123 (by decide) (fun h116 => ?_) (fun h116 => ?_)
                      · replace hf := if_t hf h116
                        refine lv_iconst (v := (nI 5)) hx hb dX10_load_130 (by decide) ?_
                        cases hf
                        exact mp_reti X hP hS rfl dX10_load_131
                      · replace hf := if_f hf h116
                        refine lv_iconst (v := (nI 0)) hx hb dX10_load_126 (by decide) ?_
                        refine lv_goto (tgt := 131) hx hb dX10_load_127 (by decide) ?_
                        cases hf
                        exact mp_reti X hP hS rfl dX10_load_131
                    · replace hf := if_f hf h115
                      refine lv_iconst (v := (nI 1)) hx hb dX10_load_114 (by decide) ?_
                      refine lv_goto (tgt := 119) hx hb dX10_load_115 (by decide) ?_
                      refine lv_istore (lv' := [(7, .int (nI 1)), (6, .int r1), (0, .ref a_), (1, .ref a_p1), (2, .int x2), (3, .int x3), (4, .int x4), (5, .int x5)]) hx hb dX10_load_119 hl (by decide) rfl (fun ls hl => ?_)
                      refine lv_iload hx hb dX10_load_121 (lv_at hl 0 rfl) ?_
                      refine lv_if_eq (tgt := 130) hx hb dX10_load_123 (by decide) (fun h117 => ?_) (fun h117 => ?_)
                      · replace hf := if_t hf h117
                        refine lv_iconst (v := (nI 5)) hx hb dX10_load_130 (by decide) ?_
                        cases hf
                        exact mp_reti X hP hS rfl dX10_load_131
                      · replace hf := if_f hf h117
                        refine lv_iconst (v := (nI 0)) hx hb dX10_load_126 (by decide) ?_
                        refine lv_goto (tgt := 131) hx hb dX10_load_127 (by decide) ?_
                        cases hf
                        exact mp_reti X hP hS rfl dX10_load_131
                replace hf := if_f hf h83
                have h118 : x2 = (nI 3) := mp_last4 h12 h13 h48 h83
                rw [show va_rf (mp_ol [a_p1_rows_0, a_p1_rows_1, a_p1_rows_2, a_p1_rows_3] (x2).toNatClampNeg) = .ref a_p1_rows_3 from by rw [h118]; rfl]
                refine lv_aload_n hx hb dX10_load_84 rfl (lv_at hl 1 rfl) ?_
                refine mp_get X fl_X10_9 hK hP 0 rfl rfl dX10_load_85 ?_
                refine lv_iload_n hx hb dX10_load_88 rfl (lv_at hl 4 rfl) ?_
                obtain ⟨⟨r119, u120⟩, c121, hf⟩ := bd_of hf
                dsimp only at hf
                have hPc := hP.sub (ws' := (k_X10_takeLetters T a_p1_rows_3 a_word 60 10 v_p1_rows_3 v_word)) [9, 2] rfl
                have hDc := (mp_D_of (w1 := (k_X10_load T a_ a_word a_row a_ways a_places a_p1 a_p1_rows a_p1_sorts a_p1_lengths a_p1_rows_0 a_p1_rows_1 a_p1_rows_2 a_p1_rows_3 x3 x5 v_row v_word v_p1_lengths v_p1_rows_0 v_p1_rows_1 v_p1_rows_2 v_p1_rows_3)) hD rfl).sub (ws' := (k_X10_takeLetters T a_p1_rows_3 a_word 60 10 v_p1_rows_3 v_word)) [9, 2] rfl rfl
                refine mp_calli (isC := [9, 2]) (wc := (k_X10_takeLetters T a_p1_rows_3 a_word 60 10 v_p1_rows_3 v_word)) (w1 := (k_X10_takeLetters T a_p1_rows_3 a_word 60 10 v_p1_rows_3 u120)) hP (mp_D_of hD rfl) hS hA rfl rfl (mp_runS (As := [.ref a_p1_rows_3, .ref a_word, .int x3]) (rest := []) X me_X10_takeLetters lk_X10_45 (c_X10_takeLetters l D T fu a_p1_rows_3 a_word 60 10 x3 v_p1_rows_3 v_word r119 u120 c121) rfl rfl ⟨(Nat.le_of_ble_eq_true rfl), (Nat.le_of_ble_eq_true rfl)⟩ hK hPc hDc rfl hl.1 rfl (Nat.le_of_ble_eq_true rfl) dX10_load_89 ⟨Nat.zero_le _, Nat.zero_le _⟩) (fun H locs hP _ hS => ?_)
                replace hP : va_P D mp_cl (k_X10_load T a_ a_word a_row a_ways a_places a_p1 a_p1_rows a_p1_sorts a_p1_lengths a_p1_rows_0 a_p1_rows_1 a_p1_rows_2 a_p1_rows_3 x3 x5 v_row u120 v_p1_lengths v_p1_rows_0 v_p1_rows_1 v_p1_rows_2 v_p1_rows_3) H := hP
                refine lv_if_eq (tgt := 118) hx hb dX10_load_92 (by decide) (fun h122 => ?_) (fun h122 => ?_)
                · replace hf := if_t hf h122
                  refine lv_iconst (v := (nI 0)) hx hb dX10_load_118 (by decide) ?_
                  refine lv_istore (lv' := [(7, .int (nI 0)), (6, .int r1), (0, .ref a_), (1, .ref a_p1), (2, .int x2), (3, .int x3), (4, .int x4), (5, .int x5)]) hx hb dX10_load_119 hl (by decide) rfl (fun ls hl => ?_)
                  refine lv_iload hx hb dX10_load_121 (lv_at hl 0 rfl) ?_
                  refine lv_if_eq (tgt := 130) hx hb dX10_load_123 (by decide) (fun h123 => ?_) (fun h123 => ?_)
                  · replace hf := if_t hf h123
                    refine lv_iconst (v := (nI 5)) hx hb dX10_load_130 (by decide) ?_
                    cases hf
                    exact mp_reti X hP hS rfl dX10_load_131
                  · replace hf := if_f hf h123
                    refine lv_iconst (v := (nI 0)) hx hb dX10_load_126 (by decide) ?_
                    refine lv_goto (tgt := 131) hx hb dX10_load_127 (by decide) ?_
                    cases hf
                    exact mp_reti X hP hS rfl dX10_load_131
                · replace hf := if_f hf h122
                  refine lv_aload_n hx hb dX10_load_95 rfl (lv_at hl 2 rfl) ?_
                  refine mp_get X fl_X10_41 hK hP 3 rfl rfl dX10_load_96 ?_
                  refine lv_iload hx hb dX10_load_99 (lv_at hl 5 rfl) ?_
                  obtain ⟨h124, hf⟩ := gi_of hf
                  refine va_aldqA hx hb hK hP 5 3 rfl rfl h124 dX10_load_101 ?_
                  by_cases h125 : x4 = (nI 0)
                  · replace hf := if_t hf h125
                    rw [show va_rf (mp_ol [a_p1_rows_0, a_p1_rows_1, a_p1_rows_2, a_p1_rows_3] (x4).toNatClampNeg) = .ref a_p1_rows_0 from by rw [h125]; rfl]
                    refine lv_aload_n hx hb dX10_load_102 rfl (lv_at hl 1 rfl) ?_
                    refine mp_get X fl_X10_15 hK hP 0 rfl rfl dX10_load_103 ?_
                    refine lv_iload hx hb dX10_load_106 (lv_at hl 6 rfl) ?_
                    obtain ⟨⟨r126, u127⟩, c128, hf⟩ := bd_of hf
                    dsimp only at hf
                    have hPc := hP.sub (ws' := (k_X10_takeLetters T a_p1_rows_0 a_row 60 60 v_p1_rows_0 v_row)) [6, 1] rfl
                    have hDc := (mp_D_of (w1 := (k_X10_load T a_ a_word a_row a_ways a_places a_p1 a_p1_rows a_p1_sorts a_p1_lengths a_p1_rows_0 a_p1_rows_1 a_p1_rows_2 a_p1_rows_3 x3 x5 v_row u120 v_p1_lengths v_p1_rows_0 v_p1_rows_1 v_p1_rows_2 v_p1_rows_3)) hD rfl).sub (ws' := (k_X10_takeLetters T a_p1_rows_0 a_row 60 60 v_p1_rows_0 v_row)) [6, 1] rfl rfl
                    refine mp_calli (isC := [6, 1]) (wc := (k_X10_takeLetters T a_p1_rows_0 a_row 60 60 v_p1_rows_0 v_row)) (w1 := (k_X10_takeLetters T a_p1_rows_0 a_row 60 60 v_p1_rows_0 u127)) hP (mp_D_of hD rfl) hS hA rfl rfl (mp_runS (As := [.ref a_p1_rows_0, .ref a_row, .int x5]) (rest := []) X me_X10_takeLetters lk_X10_45 (c_X10_takeLetters l D T fu a_p1_rows_0 a_row 60 60 x5 v_p1_rows_0 v_row r126 u127 c128) rfl rfl ⟨(Nat.le_of_ble_eq_true rfl), (Nat.le_of_ble_eq_true rfl)⟩ hK hPc hDc rfl hl.1 rfl (Nat.le_of_ble_eq_true rfl) dX10_load_108 ⟨Nat.zero_le _, Nat.zero_le _⟩) (fun H locs hP _ hS => ?_)
                    replace hP : va_P D mp_cl (k_X10_load T a_ a_word a_row a_ways a_places a_p1 a_p1_rows a_p1_sorts a_p1_lengths a_p1_rows_0 a_p1_rows_1 a_p1_rows_2 a_p1_rows_3 x3 x5 u127 u120 v_p1_lengths v_p1_rows_0 v_p1_rows_1 v_p1_rows_2 v_p1_rows_3) H := hP
                    refine lv_if_eq (tgt := 118) hx hb dX10_load_111 (by decide) (fun h129 => ?_) (fun h129 => ?_)
                    · replace hf := if_t hf h129
                      refine lv_iconst (v := (nI 0)) hx hb dX10_load_118 (by decide) ?_
                      refine lv_istore (lv' := [(7, .int (nI 0)), (6, .int r1), (0, .ref a_), (1, .ref a_p1), (2, .int x2), (3, .int x3), (4, .int x4), (5, .int x5)]) hx hb dX10_load_119 hl (by decide) rfl (fun ls hl => ?_)
                      refine lv_iload hx hb dX10_load_121 (lv_at hl 0 rfl) ?_
                      refine lv_if_eq (tgt := 130) hx hb dX10_load_123 (by decide) (fun h130 => ?_) (fun h130 => ?_)
                      · replace hf := if_t hf h130
                        refine lv_iconst (v := (nI 5)) hx hb dX10_load_130 (by decide) ?_
                        cases hf
                        exact mp_reti X hP hS rfl dX10_load_131
                      · replace hf := if_f hf h130
                        refine lv_iconst (v := (nI 0)) hx hb dX10_load_126 (by decide) ?_
                        refine lv_goto (tgt := 131) hx hb dX10_load_127 (by decide) ?_
                        cases hf
                        exact mp_reti X hP hS rfl dX10_load_131
                    · replace hf := if_f hf h129
                      refine lv_iconst (v := (nI 1)) hx hb dX10_load_114 (by decide) ?_
                      refine lv_goto (tgt := 119) hx hb dX10_load_115 (by decide) ?_
                      refine lv_istore (lv' := [(7, .int (nI 1)), (6, .int r1), (0, .ref a_), (1, .ref a_p1), (2, .int x2), (3, .int x3), (4, .int x4), (5, .int x5)]) hx hb dX10_load_119 hl (by decide) rfl (fun ls hl => ?_)
                      refine lv_iload hx hb dX10_load_121 (lv_at hl 0 rfl) ?_
                      refine lv_if_eq (tgt := 130) hx hb dX10_load_123 (by decide) (fun h131 => ?_) (fun h131 => ?_)
                      · replace hf := if_t hf h131
                        refine lv_iconst (v := (nI 5)) hx hb dX10_load_130 (by decide) ?_
                        cases hf
                        exact mp_reti X hP hS rfl dX10_load_131
                      · replace hf := if_f hf h131
                        refine lv_iconst (v := (nI 0)) hx hb dX10_load_126 (by decide) ?_
                        refine lv_goto (tgt := 131) hx hb dX10_load_127 (by decide) ?_
                        cases hf
                        exact mp_reti X hP hS rfl dX10_load_131
                  replace hf := if_f hf h125
                  by_cases h132 : x4 = (nI 1)
                  · replace hf := if_t hf h132
                    rw [show va_rf (mp_ol [a_p1_rows_0, a_p1_rows_1, a_p1_rows_2, a_p1_rows_3] (x4).toNatClampNeg) = .ref a_p1_rows_1 from by rw [h132]; rfl]
                    refine lv_aload_n hx hb dX10_load_102 rfl (lv_at hl 1 rfl) ?_
                    refine mp_get X fl_X10_15 hK hP 0 rfl rfl dX10_load_103 ?_
                    refine lv_iload hx hb dX10_load_106 (lv_at hl 6 rfl) ?_
                    obtain ⟨⟨r133, u134⟩, c135, hf⟩ := bd_of hf
                    dsimp only at hf
                    have hPc := hP.sub (ws' := (k_X10_takeLetters T a_p1_rows_1 a_row 60 60 v_p1_rows_1 v_row)) [7, 1] rfl
                    have hDc := (mp_D_of (w1 := (k_X10_load T a_ a_word a_row a_ways a_places a_p1 a_p1_rows a_p1_sorts a_p1_lengths a_p1_rows_0 a_p1_rows_1 a_p1_rows_2 a_p1_rows_3 x3 x5 v_row u120 v_p1_lengths v_p1_rows_0 v_p1_rows_1 v_p1_rows_2 v_p1_rows_3)) hD rfl).sub (ws' := (k_X10_takeLetters T a_p1_rows_1 a_row 60 60 v_p1_rows_1 v_row)) [7, 1] rfl rfl
                    refine mp_calli (isC := [7, 1]) (wc := (k_X10_takeLetters T a_p1_rows_1 a_row 60 60 v_p1_rows_1 v_row)) (w1 := (k_X10_takeLetters T a_p1_rows_1 a_row 60 60 v_p1_rows_1 u134)) hP (mp_D_of hD rfl) hS hA rfl rfl (mp_runS (As := [.ref a_p1_rows_1, .ref a_row, .int x5]) (rest := []) X me_X10_takeLetters lk_X10_45 (c_X10_takeLetters l D T fu a_p1_rows_1 a_row 60 60 x5 v_p1_rows_1 v_row r133 u134 c135) rfl rfl ⟨(Nat.le_of_ble_eq_true rfl), (Nat.le_of_ble_eq_true rfl)⟩ hK hPc hDc rfl hl.1 rfl (Nat.le_of_ble_eq_true rfl) dX10_load_108 ⟨Nat.zero_le _, Nat.zero_le _⟩) (fun H locs hP _ hS => ?_)
                    replace hP : va_P D mp_cl (k_X10_load T a_ a_word a_row a_ways a_places a_p1 a_p1_rows a_p1_sorts a_p1_lengths a_p1_rows_0 a_p1_rows_1 a_p1_rows_2 a_p1_rows_3 x3 x5 u134 u120 v_p1_lengths v_p1_rows_0 v_p1_rows_1 v_p1_rows_2 v_p1_rows_3) H := hP
                    refine lv_if_eq (tgt := 118) hx hb dX10_load_111 (by decide) (fun h136 => ?_) (fun h136 => ?_)
                    · replace hf := if_t hf h136
                      refine lv_iconst (v := (nI 0)) hx hb dX10_load_118 (by decide) ?_
                      refine lv_istore (lv' := [(7, .int (nI 0)), (6, .int r1), (0, .ref a_), (1, .ref a_p1), (2, .int x2), (3, .int x3), (4, .int x4), (5, .int x5)]) hx hb dX10_load_119 hl (by decide) rfl (fun ls hl => ?_)
                      refine lv_iload hx hb dX10_load_121 (lv_at hl 0 rfl) ?_
                      refine lv_if_eq (tgt := 130) hx hb dX10_load_123 (by decide) (fun h137 => ?_) (fun h137 => ?_)
                      · replace hf := if_t hf h137
                        refine lv_iconst (v := (nI 5)) hx hb dX10_load_130 (by decide) ?_
                        cases hf
                        exact mp_reti X hP hS rfl dX10_load_131
                      · replace hf := if_f hf h137
                        refine lv_iconst (v := (nI 0)) hx hb dX10_load_126 (by decide) ?_
                        refine lv_goto (tgt := 131) hx hb dX10_load_127 (by decide) ?_
                        cases hf
                        exact mp_reti X hP hS rfl dX10_load_131
                    · replace hf := if_f hf h136
                      refine lv_iconst (v := (nI 1)) hx hb dX10_load_114 (by decide) ?_
                      refine lv_goto (tgt := 119) hx hb dX10_load_115 (by decide) ?_
                      refine lv_istore (lv' := [(7, .int (nI 1)), (6, .int r1), (0, .ref a_), (1, .ref a_p1), (2, .int x2), (3, .int x3), (4, .int x4), (5, .int x5)]) hx hb dX10_load_119 hl (by decide) rfl (fun ls hl => ?_)
                      refine lv_iload hx hb dX10_load_121 (lv_at hl 0 rfl) ?_
                      refine lv_if_eq (tgt := 130) hx hb dX10_load_123 (by decide) (fun h138 => ?_) (fun h138 => ?_)
                      · replace hf := if_t hf h138
                        refine lv_iconst (v := (nI 5)) hx hb dX10_load_130 (by decide) ?_
                        cases hf
                        exact mp_reti X hP hS rfl dX10_load_131
                      · replace hf := if_f hf h138
                        refine lv_iconst (v := (nI 0)) hx hb dX10_load_126 (by decide) ?_
                        refine lv_goto (tgt := 131) hx hb dX10_load_127 (by decide) ?_
                        cases hf
                        exact mp_reti X hP hS rfl dX10_load_131
                  replace hf := if_f hf h132
                  by_cases h139 : x4 = (nI 2)
                  · replace hf := if_t hf h139
                    rw [show va_rf (mp_ol [a_p1_rows_0, a_p1_rows_1, a_p1_rows_2, a_p1_rows_3] (x4).toNatClampNeg) = .ref a_p1_rows_2 from by rw [h139]; rfl]
                    refine lv_aload_n hx hb dX10_load_102 rfl (lv_at hl 1 rfl) ?_
                    refine mp_get X fl_X10_15 hK hP 0 rfl rfl dX10_load_103 ?_
                    refine lv_iload hx hb dX10_load_106 (lv_at hl 6 rfl) ?_
                    obtain ⟨⟨r140, u141⟩, c142, hf⟩ := bd_of hf
                    dsimp only at hf
                    have hPc := hP.sub (ws' := (k_X10_takeLetters T a_p1_rows_2 a_row 60 60 v_p1_rows_2 v_row)) [8, 1] rfl
                    have hDc := (mp_D_of (w1 := (k_X10_load T a_ a_word a_row a_ways a_places a_p1 a_p1_rows a_p1_sorts a_p1_lengths a_p1_rows_0 a_p1_rows_1 a_p1_rows_2 a_p1_rows_3 x3 x5 v_row u120 v_p1_lengths v_p1_rows_0 v_p1_rows_1 v_p1_rows_2 v_p1_rows_3)) hD rfl).sub (ws' := (k_X10_takeLetters T a_p1_rows_2 a_row 60 60 v_p1_rows_2 v_row)) [8, 1] rfl rfl
                    refine mp_calli (isC := [8, 1]) (wc := (k_X10_takeLetters T a_p1_rows_2 a_row 60 60 v_p1_rows_2 v_row)) (w1 := (k_X10_takeLetters T a_p1_rows_2 a_row 60 60 v_p1_rows_2 u141)) hP (mp_D_of hD rfl) hS hA rfl rfl (mp_runS (As := [.ref a_p1_rows_2, .ref a_row, .int x5]) (rest := []) X me_X10_takeLetters lk_X10_45 (c_X10_takeLetters l D T fu a_p1_rows_2 a_row 60 60 x5 v_p1_rows_2 v_row r140 u141 c142) rfl rfl ⟨(Nat.le_of_ble_eq_true rfl), (Nat.le_of_ble_eq_true rfl)⟩ hK hPc hDc rfl hl.1 rfl (Nat.le_of_ble_eq_true rfl) dX10_load_108 ⟨Nat.zero_le _, Nat.zero_le _⟩) (fun H locs hP _ hS => ?_)
                    replace hP : va_P D mp_cl (k_X10_load T a_ a_word a_row a_ways a_places a_p1 a_p1_rows a_p1_sorts a_p1_lengths a_p1_rows_0 a_p1_rows_1 a_p1_rows_2 a_p1_rows_3 x3 x5 u141 u120 v_p1_lengths v_p1_rows_0 v_p1_rows_1 v_p1_rows_2 v_p1_rows_3) H := hP
                    refine lv_if_eq (tgt := 118) hx hb dX10_load_111 (by decide) (fun h143 => ?_) (fun h143 => ?_)
                    · replace hf := if_t hf h143
                      refine lv_iconst (v := (nI 0)) hx hb dX10_load_118 (by decide) ?_
                      refine lv_istore (lv' := [(7, .int (nI 0)), (6, .int r1), (0, .ref a_), (1, .ref a_p1), (2, .int x2), (3, .int x3), (4, .int x4), (5, .int x5)]) hx hb dX10_load_119 hl (by decide) rfl (fun ls hl => ?_)
                      refine lv_iload hx hb dX10_load_121 (lv_at hl 0 rfl) ?_
                      refine lv_if_eq (tgt := 130) hx hb dX10_load_123 (by decide) (fun h144 => ?_) (fun h144 => ?_)
                      · replace hf := if_t hf h144
                        refine lv_iconst (v := (nI 5)) hx hb dX10_load_130 (by decide) ?_
                        cases hf
                        exact mp_reti X hP hS rfl dX10_load_131
                      · replace hf := if_f hf h144
                        refine lv_iconst (v := (nI 0)) hx hb dX10_load_126 (by decide) ?_
                        refine lv_goto (tgt := 131) hx hb dX10_load_127 (by decide) ?_
                        cases hf
                        exact mp_reti X hP hS rfl dX10_load_131
                    · replace hf := if_f hf h143
                      refine lv_iconst (v := (nI 1)) hx hb dX10_load_114 (by decide) ?_
                      refine lv_goto (tgt := 119) hx hb dX10_load_115 (by decide) ?_
                      refine lv_istore (lv' := [(7, .int (nI 1)), (6, .int r1), (0, .ref a_), (1, .ref a_p1), (2, .int x2), (3, .int x3), (4, .int x4), (5, .int x5)]) hx hb dX10_load_119 hl (by decide) rfl (fun ls hl => ?_)
                      refine lv_iload hx hb dX10_load_121 (lv_at hl 0 rfl) ?_
                      refine lv_if_eq (tgt := 130) hx hb dX10_load_123 (by decide) (fun h145 => ?_) (fun h145 => ?_)
                      · replace hf := if_t hf h145
                        refine lv_iconst (v := (nI 5)) hx hb dX10_load_130 (by decide) ?_
                        cases hf
                        exact mp_reti X hP hS rfl dX10_load_131
                      · replace hf := if_f hf h145
                        refine lv_iconst (v := (nI 0)) hx hb dX10_load_126 (by decide) ?_
                        refine lv_goto (tgt := 131) hx hb dX10_load_127 (by decide) ?_
                        cases hf
                        exact mp_reti X hP hS rfl dX10_load_131
                  replace hf := if_f hf h139
                  have h146 : x4 = (nI 3) := mp_last4 h124 h125 h132 h139
                  rw [show va_rf (mp_ol [a_p1_rows_0, a_p1_rows_1, a_p1_rows_2, a_p1_rows_3] (x4).toNatClampNeg) = .ref a_p1_rows_3 from by rw [h146]; rfl]
                  refine lv_aload_n hx hb dX10_load_102 rfl (lv_at hl 1 rfl) ?_
                  refine mp_get X fl_X10_15 hK hP 0 rfl rfl dX10_load_103 ?_
                  refine lv_iload hx hb dX10_load_106 (lv_at hl 6 rfl) ?_
                  obtain ⟨⟨r147, u148⟩, c149, hf⟩ := bd_of hf
                  dsimp only at hf
                  have hPc := hP.sub (ws' := (k_X10_takeLetters T a_p1_rows_3 a_row 60 60 v_p1_rows_3 v_row)) [9, 1] rfl
                  have hDc := (mp_D_of (w1 := (k_X10_load T a_ a_word a_row a_ways a_places a_p1 a_p1_rows a_p1_sorts a_p1_lengths a_p1_rows_0 a_p1_rows_1 a_p1_rows_2 a_p1_rows_3 x3 x5 v_row u120 v_p1_lengths v_p1_rows_0 v_p1_rows_1 v_p1_rows_2 v_p1_rows_3)) hD rfl).sub (ws' := (k_X10_takeLetters T a_p1_rows_3 a_row 60 60 v_p1_rows_3 v_row)) [9, 1] rfl rfl
                  refine mp_calli (isC := [9, 1]) (wc := (k_X10_takeLetters T a_p1_rows_3 a_row 60 60 v_p1_rows_3 v_row)) (w1 := (k_X10_takeLetters T a_p1_rows_3 a_row 60 60 v_p1_rows_3 u148)) hP (mp_D_of hD rfl) hS hA rfl rfl (mp_runS (As := [.ref a_p1_rows_3, .ref a_row, .int x5]) (rest := []) X me_X10_takeLetters lk_X10_45 (c_X10_takeLetters l D T fu a_p1_rows_3 a_row 60 60 x5 v_p1_rows_3 v_row r147 u148 c149) rfl rfl ⟨(Nat.le_of_ble_eq_true rfl), (Nat.le_of_ble_eq_true rfl)⟩ hK hPc hDc rfl hl.1 rfl (Nat.le_of_ble_eq_true rfl) dX10_load_108 ⟨Nat.zero_le _, Nat.zero_le _⟩) (fun H locs hP _ hS => ?_)
                  replace hP : va_P D mp_cl (k_X10_load T a_ a_word a_row a_ways a_places a_p1 a_p1_rows a_p1_sorts a_p1_lengths a_p1_rows_0 a_p1_rows_1 a_p1_rows_2 a_p1_rows_3 x3 x5 u148 u120 v_p1_lengths v_p1_rows_0 v_p1_rows_1 v_p1_rows_2 v_p1_rows_3) H := hP
                  refine lv_if_eq (tgt := 118) hx hb dX10_load_111 (by decide) (fun h150 => ?_) (fun h150 => ?_)
                  · replace hf := if_t hf h150
                    refine lv_iconst (v := (nI 0)) hx hb dX10_load_118 (by decide) ?_
                    refine lv_istore (lv' := [(7, .int (nI 0)), (6, .int r1), (0, .ref a_), (1, .ref a_p1), (2, .int x2), (3, .int x3), (4, .int x4), (5, .int x5)]) hx hb dX10_load_119 hl (by decide) rfl (fun ls hl => ?_)
                    refine lv_iload hx hb dX10_load_121 (lv_at hl 0 rfl) ?_
                    refine lv_if_eq (tgt := 130) hx hb dX10_load_123 (by decide) (fun h151 => ?_) (fun h151 => ?_)
                    · replace hf := if_t hf h151
                      refine lv_iconst (v := (nI 5)) hx hb dX10_load_130 (by decide) ?_
                      cases hf
                      exact mp_reti X hP hS rfl dX10_load_131
                    · replace hf := if_f hf h151
                      refine lv_iconst (v := (nI 0)) hx hb dX10_load_126 (by decide) ?_
                      refine lv_goto (tgt := 131) hx hb dX10_load_127 (by decide) ?_
                      cases hf
                      exact mp_reti X hP hS rfl dX10_load_131
                  · replace hf := if_f hf h150
                    refine lv_iconst (v := (nI 1)) hx hb dX10_load_114 (by decide) ?_
                    refine lv_goto (tgt := 119) hx hb dX10_load_115 (by decide) ?_
                    refine lv_istore (lv' := [(7, .int (nI 1)), (6, .int r1), (0, .ref a_), (1, .ref a_p1), (2, .int x2), (3, .int x3), (4, .int x4), (5, .int x5)]) hx hb dX10_load_119 hl (by decide) rfl (fun ls hl => ?_)
                    refine lv_iload hx hb dX10_load_121 (lv_at hl 0 rfl) ?_
                    refine lv_if_eq (tgt := 130) hx hb dX10_load_123 (by decide) (fun h152 => ?_) (fun h152 => ?_)
                    · replace hf := if_t hf h152
                      refine lv_iconst (v := (nI 5)) hx hb dX10_load_130 (by decide) ?_
                      cases hf
                      exact mp_reti X hP hS rfl dX10_load_131
                    · replace hf := if_f hf h152
                      refine lv_iconst (v := (nI 0)) hx hb dX10_load_126 (by decide) ?_
                      refine lv_goto (tgt := 131) hx hb dX10_load_127 (by decide) ?_
                      cases hf
                      exact mp_reti X hP hS rfl dX10_load_131
              · replace hf := if_f hf h11
                refine lv_iconst (v := (nI 5)) hx hb dX10_load_65 (by decide) ?_
                cases hf
                exact mp_reti X hP hS rfl dX10_load_66
      · replace hf := if_f hf h7
        refine lv_iconst (v := (nI 4)) hx hb dX10_load_39 (by decide) ?_
        cases hf
        exact mp_reti X hP hS rfl dX10_load_40
  · replace hf := if_f hf h3
    refine lv_iload hx hb dX10_load_14 (lv_at hl 0 rfl) ?_
    cases hf
    exact mp_reti X hP hS rfl dX10_load_16


def k_X10_countWays (T : Nat → ClassId) (a_ a_word a_row a_ways a_places : Nat) (v_wordLength : Int32) (v_rowLength : Int32) (v_row : (Nat → Int32)) (v_ways : (Nat → Int64)) (v_word : (Nat → Int32)) : va_W := [(a_, oX10 a_word a_row v_wordLength v_rowLength a_ways a_places), (a_row, mp_aI T 60 v_row), (a_ways, mp_aJ T 11 v_ways), (a_word, mp_aI T 10 v_word)]
set_option maxHeartbeats 4000000 in
set_option maxRecDepth 100000 in
theorem w_X10_countWays_32 {p : Program} {l : Launch} {e : Env} {s : State} {m : MethodId} {args : Array Value} {below : List Frame} {meth : Method} {c : Code} {D : va_G} {T : Nat → ClassId} {A : Nat → Prop} (X : mp_X p s m meth c args RX10 "countWays" cX10_countWays 3 (some .long)) (hK : va_K D mp_cl (mp_ty T) s) (hA : ∀ q, s.heap.size ≤ q → A q) (fu : Nat) (a_ a_word a_row a_ways a_places : Nat) (v_wordLength : Int32) (v_rowLength : Int32) (v_row : (Nat → Int32)) (v_word : (Nat → Int32)) (r_ : Int64) (o_ways : (Nat → Int64)) (K17 : Int32 → (Nat → Int64) → Option (Int64 × (Nat → Int64))) (hK17 : ∀ (z1 : Int32) (v_ways : (Nat → Int64)), K17 z1 v_ways = some (r_, o_ways) → ∀ (H : Heap) (locs : List Loc) (ls : Array Slot), va_P D mp_cl (k_X10_countWays T a_ a_word a_row a_ways a_places v_wordLength v_rowLength v_row v_ways v_word) H → va_D A (k_X10_countWays T a_ a_word a_row a_ways a_places v_wordLength v_rowLength v_row v_ways v_word) → va_S A s.heap H locs → lv_has ls 3 [(0, .ref a_), (1, .int z1)] → W p l e ({ frames := 1, cells := 0, slots := 0, locals := 24 }) s m args below meth c H locs 0 0 (MQ below ((mp_Ql D r_ (k_X10_countWays T a_ a_word a_row a_ways a_places v_wordLength v_rowLength v_row o_ways v_word)) A) args s 0 0 A) (F0 m 17 ls [])) :
    ∀ (n : Nat) (z1 : Int32) (z2 : Int32) (v_ways : (Nat → Int64)), f_X10_countWays_32 fu v_wordLength v_rowLength v_row v_word K17 n z1 z2 v_ways = some (r_, o_ways) → ∀ (H : Heap) (locs : List Loc) (ls : Array Slot), va_P D mp_cl (k_X10_countWays T a_ a_word a_row a_ways a_places v_wordLength v_rowLength v_row v_ways v_word) H → va_D A (k_X10_countWays T a_ a_word a_row a_ways a_places v_wordLength v_rowLength v_row v_ways v_word) → va_S A s.heap H locs → lv_has ls 3 [(0, .ref a_), (1, .int z1), (2, .int z2)] → W p l e ({ frames := 1, cells := 0, slots := 0, locals := 24 }) s m args below meth c H locs 0 0 (MQ below ((mp_Ql D r_ (k_X10_countWays T a_ a_word a_row a_ways a_places v_wordLength v_rowLength v_row o_ways v_word)) A) args s 0 0 A) (F0 m 32 ls []) := by
  have hx := X.1
  have hb := X.2.1
  have hml := X.2.2.1
  have hown := X.2.2.2.2.1
  have hts := X.2.2.2.2.2.1
  intro n
  induction n with
  | zero => intro z1 z2 v_ways hf; exact absurd hf (by intro h; cases h)
  | succ n ih =>
    intro z1 z2 v_ways hf H locs ls hP hD hS hl
    replace hf : (if z2 < 0 then lt_ (z1 + (nI 1)) (fun (y2 : Int32) => K17 y2 v_ways) else gi_ z2 10 (gi_ z1 60 ((if (v_word (z2).toNatClampNeg) = (v_row (z1).toNatClampNeg) then gi_ (z2 + (nI 1)) 11 (gi_ z2 11 (lt_ ((v_ways (z2 + (nI 1)).toNatClampNeg) + (v_ways (z2).toNatClampNeg)) (fun (y9 : Int64) => gi_ (z2 + (nI 1)) 11 (lt_ (z2 + (-1 : Int32)) (fun (y11 : Int32) => f_X10_countWays_32 fu v_wordLength v_rowLength v_row v_word K17 n z1 y11 (vp_updL v_ways (z2 + (nI 1)).toNatClampNeg y9)))))) else lt_ (z2 + (-1 : Int32)) (fun (y6 : Int32) => f_X10_countWays_32 fu v_wordLength v_rowLength v_row v_word K17 n z1 y6 v_ways))))) = some (r_, o_ways) := hf
    refine lv_iload_n hx hb dX10_countWays_32 rfl (lv_at hl 2 rfl) ?_
    refine lv_if_lt (tgt := 74) hx hb dX10_countWays_33 (by decide) (fun h1 => ?_) (fun h1 => ?_)
    · replace hf := if_t hf h1
      obtain ⟨y2, e2⟩ : ∃ y : Int32, y = z1 + (nI 1) := ⟨_, rfl⟩
      replace hf := lt_of e2 hf
      refine lv_iinc (v := y2) (lv' := [(1, .int y2), (0, .ref a_), (2, .int z2)]) hx hb dX10_countWays_74 hl (k := 1) rfl (by rw [e2]; rfl) (by decide) rfl (fun ls hl => ?_)
      refine lv_goto (tgt := 17) hx hb dX10_countWays_77 (by decide) ?_
      exact hK17 y2 v_ways hf _ _ _ hP (mp_D_of hD rfl) hS (lv_sub hl [1, 0] rfl)
    · replace hf := if_f hf h1
      refine lv_aload_n hx hb dX10_countWays_36 rfl (lv_at hl 0 rfl) ?_
      refine mp_get X fl_X10_9 hK hP 0 rfl rfl dX10_countWays_37 ?_
      refine lv_iload_n hx hb dX10_countWays_40 rfl (lv_at hl 2 rfl) ?_
      obtain ⟨h3, hf⟩ := gi_of hf
      refine va_iald hx hb hK hP 3 0 rfl rfl h3 dX10_countWays_41 ?_
      refine lv_aload_n hx hb dX10_countWays_42 rfl (lv_at hl 0 rfl) ?_
      refine mp_get X fl_X10_15 hK hP 0 rfl rfl dX10_countWays_43 ?_
      refine lv_iload_n hx hb dX10_countWays_46 rfl (lv_at hl 1 rfl) ?_
      obtain ⟨h4, hf⟩ := gi_of hf
      refine va_iald hx hb hK hP 1 0 rfl rfl h4 dX10_countWays_47 ?_
      refine lv_icmp_ne (tgt := 68) hx hb dX10_countWays_48 (by decide) (fun h5 => ?_) (fun h5 => ?_)
      · replace hf := if_f hf h5
        obtain ⟨y6, e6⟩ : ∃ y : Int32, y = z2 + (-1 : Int32) := ⟨_, rfl⟩
        replace hf := lt_of e6 hf
        refine lv_iinc (v := y6) (lv' := [(2, .int y6), (0, .ref a_), (1, .int z1)]) hx hb dX10_countWays_68 hl (k := 2) rfl (by rw [e6]; rfl) (by decide) rfl (fun ls hl => ?_)
        refine lv_goto (tgt := 32) hx hb dX10_countWays_71 (by decide) ?_
        exact ih z1 y6 v_ways hf _ _ _ hP (mp_D_of hD rfl) hS (lv_sub hl [1, 2, 0] rfl)
      · replace hf := if_t hf h5
        refine lv_aload_n hx hb dX10_countWays_51 rfl (lv_at hl 0 rfl) ?_
        refine mp_get X fl_X10_25 hK hP 0 rfl rfl dX10_countWays_52 ?_
        refine lv_iload_n hx hb dX10_countWays_55 rfl (lv_at hl 2 rfl) ?_
        refine lv_iconst (v := (nI 1)) hx hb dX10_countWays_56 (by decide) ?_
        refine lv_iadd hx hb dX10_countWays_57 ?_
        refine lv_dup2_11 hx hb dX10_countWays_58 rfl rfl ?_
        obtain ⟨h7, hf⟩ := gi_of hf
        refine va_lald hx hb hK hP 2 1 rfl rfl h7 dX10_countWays_59 ?_
        refine lv_aload_n hx hb dX10_countWays_60 rfl (lv_at hl 0 rfl) ?_
        refine mp_get X fl_X10_25 hK hP 0 rfl rfl dX10_countWays_61 ?_
        refine lv_iload_n hx hb dX10_countWays_64 rfl (lv_at hl 2 rfl) ?_
        obtain ⟨h8, hf⟩ := gi_of hf
        refine va_lald hx hb hK hP 2 1 rfl rfl h8 dX10_countWays_65 ?_
        refine lv_ladd hx hb dX10_countWays_66 ?_
        refine lv_topl (fun y9 e9 => ?_)
        replace hf := lt_of e9 hf
        obtain ⟨h10, hf⟩ := gi_of hf
        refine va_last hx hb hK hP (mp_D_of hD rfl) hS 2 1 rfl rfl h10 dX10_countWays_67 (fun H locs hP _ hS => ?_)
        replace hP : va_P D mp_cl (k_X10_countWays T a_ a_word a_row a_ways a_places v_wordLength v_rowLength v_row (vp_updL v_ways (z2 + (nI 1)).toNatClampNeg y9) v_word) H := hP
        obtain ⟨y11, e11⟩ : ∃ y : Int32, y = z2 + (-1 : Int32) := ⟨_, rfl⟩
        replace hf := lt_of e11 hf
        refine lv_iinc (v := y11) (lv' := [(2, .int y11), (0, .ref a_), (1, .int z1)]) hx hb dX10_countWays_68 hl (k := 2) rfl (by rw [e11]; rfl) (by decide) rfl (fun ls hl => ?_)
        refine lv_goto (tgt := 32) hx hb dX10_countWays_71 (by decide) ?_
        exact ih z1 y11 (vp_updL v_ways (z2 + (nI 1)).toNatClampNeg y9) hf _ _ _ hP (mp_D_of hD rfl) hS (lv_sub hl [1, 2, 0] rfl)

set_option maxHeartbeats 4000000 in
set_option maxRecDepth 100000 in
theorem w_X10_countWays_17 {p : Program} {l : Launch} {e : Env} {s : State} {m : MethodId} {args : Array Value} {below : List Frame} {meth : Method} {c : Code} {D : va_G} {T : Nat → ClassId} {A : Nat → Prop} (X : mp_X p s m meth c args RX10 "countWays" cX10_countWays 3 (some .long)) (hK : va_K D mp_cl (mp_ty T) s) (hA : ∀ q, s.heap.size ≤ q → A q) (fu : Nat) (a_ a_word a_row a_ways a_places : Nat) (v_wordLength : Int32) (v_rowLength : Int32) (v_row : (Nat → Int32)) (v_word : (Nat → Int32)) (r_ : Int64) (o_ways : (Nat → Int64)) :
    ∀ (n : Nat) (z1 : Int32) (v_ways : (Nat → Int64)), f_X10_countWays_17 fu v_wordLength v_rowLength v_row v_word  n z1 v_ways = some (r_, o_ways) → ∀ (H : Heap) (locs : List Loc) (ls : Array Slot), va_P D mp_cl (k_X10_countWays T a_ a_word a_row a_ways a_places v_wordLength v_rowLength v_row v_ways v_word) H → va_D A (k_X10_countWays T a_ a_word a_row a_ways a_places v_wordLength v_rowLength v_row v_ways v_word) → va_S A s.heap H locs → lv_has ls 3 [(0, .ref a_), (1, .int z1)] → W p l e ({ frames := 1, cells := 0, slots := 0, locals := 24 }) s m args below meth c H locs 0 0 (MQ below ((mp_Ql D r_ (k_X10_countWays T a_ a_word a_row a_ways a_places v_wordLength v_rowLength v_row o_ways v_word)) A) args s 0 0 A) (F0 m 17 ls []) := by
  have hx := X.1
  have hb := X.2.1
  have hml := X.2.2.1
  have hown := X.2.2.2.2.1
  have hts := X.2.2.2.2.2.1
  intro n
  induction n with
  | zero => intro z1 v_ways hf; exact absurd hf (by intro h; cases h)
  | succ n ih =>
    intro z1 v_ways hf H locs ls hP hD hS hl
    replace hf : (if v_rowLength ≤ z1 then gi_ v_wordLength 11 (some (v_ways (v_wordLength).toNatClampNeg, v_ways)) else lt_ (v_wordLength - (nI 1)) (fun (y3 : Int32) => f_X10_countWays_32 fu v_wordLength v_rowLength v_row v_word (f_X10_countWays_17 fu v_wordLength v_rowLength v_row v_word  n) fu z1 y3 v_ways)) = some (r_, o_ways) := hf
    refine lv_iload_n hx hb dX10_countWays_17 rfl (lv_at hl 1 rfl) ?_
    refine lv_aload_n hx hb dX10_countWays_18 rfl (lv_at hl 0 rfl) ?_
    refine mp_get X fl_X10_22 hK hP 0 rfl rfl dX10_countWays_19 ?_
    refine lv_icmp_ge (tgt := 80) hx hb dX10_countWays_22 (by decide) (fun h1 => ?_) (fun h1 => ?_)
    · replace hf := if_t hf h1
      refine lv_aload_n hx hb dX10_countWays_80 rfl (lv_at hl 0 rfl) ?_
      refine mp_get X fl_X10_25 hK hP 0 rfl rfl dX10_countWays_81 ?_
      refine lv_aload_n hx hb dX10_countWays_84 rfl (lv_at hl 0 rfl) ?_
      refine mp_get X fl_X10_18 hK hP 0 rfl rfl dX10_countWays_85 ?_
      obtain ⟨h2, hf⟩ := gi_of hf
      refine va_lald hx hb hK hP 2 1 rfl rfl h2 dX10_countWays_88 ?_
      cases hf
      exact mp_retl X hP hS rfl dX10_countWays_89
    · replace hf := if_f hf h1
      refine lv_aload_n hx hb dX10_countWays_25 rfl (lv_at hl 0 rfl) ?_
      refine mp_get X fl_X10_18 hK hP 0 rfl rfl dX10_countWays_26 ?_
      refine lv_iconst (v := (nI 1)) hx hb dX10_countWays_29 (by decide) ?_
      refine lv_isub hx hb dX10_countWays_30 ?_
      refine lv_topi (fun y3 e3 => ?_)
      replace hf := lt_of e3 hf
      refine lv_istore_n (lv' := [(2, .int y3), (0, .ref a_), (1, .int z1)]) hx hb dX10_countWays_31 rfl hl (by decide) rfl (fun ls hl => ?_)
      exact w_X10_countWays_32 X hK hA  fu a_ a_word a_row a_ways a_places v_wordLength v_rowLength v_row v_word r_ o_ways  (f_X10_countWays_17 fu v_wordLength v_rowLength v_row v_word  n) (ih) fu z1 y3 v_ways hf _ _ _ hP (mp_D_of hD rfl) hS (lv_sub hl [1, 2, 0] rfl)

set_option maxHeartbeats 4000000 in
set_option maxRecDepth 100000 in
theorem c_X10_countWays (l : Launch) (D : va_G) (T : Nat → ClassId) (fu : Nat) (a_ a_word a_row a_ways a_places : Nat) (v_wordLength : Int32) (v_rowLength : Int32) (v_row : (Nat → Int32)) (v_ways : (Nat → Int64)) (v_word : (Nat → Int32)) (r_ : Int64) (o_ways : (Nat → Int64)) (hf : f_X10_countWays fu v_wordLength v_rowLength v_row v_ways v_word = some (r_, o_ways)) :
    mp_M l D T yX10_countWays cX10_countWays 3 (some .long) ({ frames := 1, cells := 0, slots := 0, locals := 24 }) 0 0 [.ref a_] (k_X10_countWays T a_ a_word a_row a_ways a_places v_wordLength v_rowLength v_row v_ways v_word) (mp_Ql D r_ (k_X10_countWays T a_ a_word a_row a_ways a_places v_wordLength v_rowLength v_row o_ways v_word)) := by
  refine mp_of (by decide) (Nat.le_of_ble_eq_true rfl) rfl ?_
  intro p e s m args below meth c A ls X hK hP hD hS hA hl
  replace X : mp_X p s m meth c args RX10 "countWays" cX10_countWays 3 (some .long) := X
  have hx := X.1
  have hb := X.2.1
  have hml := X.2.2.1
  have hown := X.2.2.2.2.1
  have hts := X.2.2.2.2.2.1
  replace hl : lv_has ls 3 [(0, .ref a_)] := hl
  replace hf : bd_ (f_J7_fill_d0a16 fu 11 (lN 0) v_ways) (fun (u1 : (Nat → Int64)) => gi_ (nI 0) 11 (f_X10_countWays_17 fu v_wordLength v_rowLength v_row v_word  fu (nI 0) (vp_updL u1 ((nI 0)).toNatClampNeg (lN 1)))) = some (r_, o_ways) := hf
  refine lv_aload_n hx hb dX10_countWays_0 rfl (lv_at hl 0 rfl) ?_
  refine mp_get X fl_X10_25 hK hP 0 rfl rfl dX10_countWays_1 ?_
  refine lv_lconst (v := (lN 0)) hx hb dX10_countWays_4 (by decide) ?_
  obtain ⟨u1, c2, hf⟩ := bd_of hf
  have hPc := hP.sub (ws' := (k_J7_fill_d0a16 T a_ways 11 v_ways)) [2] rfl
  have hDc := (mp_D_of (w1 := (k_X10_countWays T a_ a_word a_row a_ways a_places v_wordLength v_rowLength v_row v_ways v_word)) hD rfl).sub (ws' := (k_J7_fill_d0a16 T a_ways 11 v_ways)) [2] rfl rfl
  refine mp_callv (isC := [2]) (wc := (k_J7_fill_d0a16 T a_ways 11 v_ways)) (w1 := (k_J7_fill_d0a16 T a_ways 11 u1)) hP (mp_D_of hD rfl) hS hA rfl rfl (mp_runS (As := [.ref a_ways, .long (lN 0)]) (rest := []) X me_J7_fill_d0a16 lk_X10_51 (c_J7_fill_d0a16 l D T fu a_ways 11 (lN 0) v_ways u1 c2) rfl rfl ⟨(Nat.le_of_ble_eq_true rfl), (Nat.le_of_ble_eq_true rfl)⟩ hK hPc hDc rfl hl.1 rfl (Nat.le_of_ble_eq_true rfl) dX10_countWays_5 ⟨Nat.zero_le _, Nat.zero_le _⟩) (fun H locs hP _ hS => ?_)
  replace hP : va_P D mp_cl (k_X10_countWays T a_ a_word a_row a_ways a_places v_wordLength v_rowLength v_row u1 v_word) H := hP
  refine lv_aload_n hx hb dX10_countWays_8 rfl (lv_at hl 0 rfl) ?_
  refine mp_get X fl_X10_25 hK hP 0 rfl rfl dX10_countWays_9 ?_
  refine lv_iconst (v := (nI 0)) hx hb dX10_countWays_12 (by decide) ?_
  refine lv_lconst (v := (lN 1)) hx hb dX10_countWays_13 (by decide) ?_
  obtain ⟨h3, hf⟩ := gi_of hf
  refine va_last hx hb hK hP (mp_D_of hD rfl) hS 2 1 rfl rfl h3 dX10_countWays_14 (fun H locs hP _ hS => ?_)
  replace hP : va_P D mp_cl (k_X10_countWays T a_ a_word a_row a_ways a_places v_wordLength v_rowLength v_row (vp_updL u1 ((nI 0)).toNatClampNeg (lN 1)) v_word) H := hP
  refine lv_iconst (v := (nI 0)) hx hb dX10_countWays_15 (by decide) ?_
  refine lv_istore_n (lv' := [(1, .int (nI 0)), (0, .ref a_)]) hx hb dX10_countWays_16 rfl hl (by decide) rfl (fun ls hl => ?_)
  exact w_X10_countWays_17 X hK hA  fu a_ a_word a_row a_ways a_places v_wordLength v_rowLength v_row v_word r_ o_ways   fu (nI 0) (vp_updL u1 ((nI 0)).toNatClampNeg (lN 1)) hf _ _ _ hP (mp_D_of hD rfl) hS (lv_sub hl [1, 0] rfl)


def k_X10_follow (T : Nat → ClassId) (a_ a_word a_row a_ways a_places : Nat) (v_wordLength : Int32) (v_rowLength : Int32) (v_places : (Nat → Int32)) (v_row : (Nat → Int32)) (v_word : (Nat → Int32)) : va_W := [(a_, oX10 a_word a_row v_wordLength v_rowLength a_ways a_places), (a_places, mp_aI T 10 v_places), (a_row, mp_aI T 60 v_row), (a_word, mp_aI T 10 v_word)]
set_option maxHeartbeats 4000000 in
set_option maxRecDepth 100000 in
theorem w_X10_follow_7 {p : Program} {l : Launch} {e : Env} {s : State} {m : MethodId} {args : Array Value} {below : List Frame} {meth : Method} {c : Code} {D : va_G} {T : Nat → ClassId} {A : Nat → Prop} (X : mp_X p s m meth c args RX10 "follow" cX10_follow 5 (some .int)) (hK : va_K D mp_cl (mp_ty T) s) (hA : ∀ q, s.heap.size ≤ q → A q) (fu : Nat) (a_ a_word a_row a_ways a_places : Nat) (v_wordLength : Int32) (v_rowLength : Int32) (v_row : (Nat → Int32)) (v_word : (Nat → Int32)) (r_ : Int32) (o_places : (Nat → Int32)) :
    ∀ (n : Nat) (z2 : Int32) (z3 : Int32) (z4 : Int32) (v_places : (Nat → Int32)), f_X10_follow_7 fu v_wordLength v_rowLength v_row v_word  n z2 z3 z4 v_places = some (r_, o_places) → ∀ (H : Heap) (locs : List Loc) (ls : Array Slot), va_P D mp_cl (k_X10_follow T a_ a_word a_row a_ways a_places v_wordLength v_rowLength v_places v_row v_word) H → va_D A (k_X10_follow T a_ a_word a_row a_ways a_places v_wordLength v_rowLength v_places v_row v_word) → va_S A s.heap H locs → lv_has ls 5 [(0, .ref a_), (2, .int z2), (3, .int z3), (4, .int z4)] → W p l e ({ frames := 0, cells := 0, slots := 0, locals := 0 }) s m args below meth c H locs 0 0 (MQ below ((mp_Qi D r_ (k_X10_follow T a_ a_word a_row a_ways a_places v_wordLength v_rowLength o_places v_row v_word)) A) args s 0 0 A) (F0 m 7 ls []) := by
  have hx := X.1
  have hb := X.2.1
  have hml := X.2.2.1
  have hown := X.2.2.2.2.1
  have hts := X.2.2.2.2.2.1
  intro n
  induction n with
  | zero => intro z2 z3 z4 v_places hf; exact absurd hf (by intro h; cases h)
  | succ n ih =>
    intro z2 z3 z4 v_places hf H locs ls hP hD hS hl
    replace hf : (if v_rowLength ≤ z4 then (if z2 = v_wordLength then some (z3, v_places) else some ((-1 : Int32), v_places)) else (if v_wordLength ≤ z2 then (if z2 = v_wordLength then some (z3, v_places) else some ((-1 : Int32), v_places)) else gi_ z4 60 (gi_ z2 10 ((if (v_row (z4).toNatClampNeg) = (v_word (z2).toNatClampNeg) then gi_ z2 10 (lt_ (z2 + (nI 1)) (fun (y10 : Int32) => lt_ (z4 + (nI 1)) (fun (y11 : Int32) => f_X10_follow_7 fu v_wordLength v_rowLength v_row v_word  n y10 z4 y11 (upd v_places (z2).toNatClampNeg z4)))) else lt_ (z4 + (nI 1)) (fun (y8 : Int32) => f_X10_follow_7 fu v_wordLength v_rowLength v_row v_word  n z2 z3 y8 v_places)))))) = some (r_, o_places) := hf
    refine lv_iload hx hb dX10_follow_7 (lv_at hl 3 rfl) ?_
    refine lv_aload_n hx hb dX10_follow_9 rfl (lv_at hl 0 rfl) ?_
    refine mp_get X fl_X10_22 hK hP 0 rfl rfl dX10_follow_10 ?_
    refine lv_icmp_ge (tgt := 60) hx hb dX10_follow_13 (by decide) (fun h1 => ?_) (fun h1 => ?_)
    · replace hf := if_t hf h1
      refine lv_iload_n hx hb dX10_follow_60 rfl (lv_at hl 1 rfl) ?_
      refine lv_aload_n hx hb dX10_follow_61 rfl (lv_at hl 0 rfl) ?_
      refine mp_get X fl_X10_18 hK hP 0 rfl rfl dX10_follow_62 ?_
      refine lv_icmp_ne (tgt := 72) hx hb dX10_follow_65 (by decide) (fun h2 => ?_) (fun h2 => ?_)
      · replace hf := if_f hf h2
        refine lv_iconst (v := (-1 : Int32)) hx hb dX10_follow_72 (by decide) ?_
        cases hf
        exact mp_reti X hP hS rfl dX10_follow_73
      · replace hf := if_t hf h2
        refine lv_iload_n hx hb dX10_follow_68 rfl (lv_at hl 2 rfl) ?_
        refine lv_goto (tgt := 73) hx hb dX10_follow_69 (by decide) ?_
        cases hf
        exact mp_reti X hP hS rfl dX10_follow_73
    · replace hf := if_f hf h1
      refine lv_iload_n hx hb dX10_follow_16 rfl (lv_at hl 1 rfl) ?_
      refine lv_aload_n hx hb dX10_follow_17 rfl (lv_at hl 0 rfl) ?_
      refine mp_get X fl_X10_18 hK hP 0 rfl rfl dX10_follow_18 ?_
      refine lv_icmp_ge (tgt := 60) hx hb dX10_follow_21 (by decide) (fun h3 => ?_) (fun h3 => ?_)
      · replace hf := if_t hf h3
        refine lv_iload_n hx hb dX10_follow_60 rfl (lv_at hl 1 rfl) ?_
        refine lv_aload_n hx hb dX10_follow_61 rfl (lv_at hl 0 rfl) ?_
        refine mp_get X fl_X10_18 hK hP 0 rfl rfl dX10_follow_62 ?_
        refine lv_icmp_ne (tgt := 72) hx hb dX10_follow_65 (by decide) (fun h4 => ?_) (fun h4 => ?_)
        · replace hf := if_f hf h4
          refine lv_iconst (v := (-1 : Int32)) hx hb dX10_follow_72 (by decide) ?_
          cases hf
          exact mp_reti X hP hS rfl dX10_follow_73
        · replace hf := if_t hf h4
          refine lv_iload_n hx hb dX10_follow_68 rfl (lv_at hl 2 rfl) ?_
          refine lv_goto (tgt := 73) hx hb dX10_follow_69 (by decide) ?_
          cases hf
          exact mp_reti X hP hS rfl dX10_follow_73
      · replace hf := if_f hf h3
        refine lv_aload_n hx hb dX10_follow_24 rfl (lv_at hl 0 rfl) ?_
        refine mp_get X fl_X10_15 hK hP 0 rfl rfl dX10_follow_25 ?_
        refine lv_iload hx hb dX10_follow_28 (lv_at hl 3 rfl) ?_
        obtain ⟨h5, hf⟩ := gi_of hf
        refine va_iald hx hb hK hP 2 0 rfl rfl h5 dX10_follow_30 ?_
        refine lv_aload_n hx hb dX10_follow_31 rfl (lv_at hl 0 rfl) ?_
        refine mp_get X fl_X10_9 hK hP 0 rfl rfl dX10_follow_32 ?_
        refine lv_iload_n hx hb dX10_follow_35 rfl (lv_at hl 1 rfl) ?_
        obtain ⟨h6, hf⟩ := gi_of hf
        refine va_iald hx hb hK hP 3 0 rfl rfl h6 dX10_follow_36 ?_
        refine lv_icmp_ne (tgt := 54) hx hb dX10_follow_37 (by decide) (fun h7 => ?_) (fun h7 => ?_)
        · replace hf := if_f hf h7
          obtain ⟨y8, e8⟩ : ∃ y : Int32, y = z4 + (nI 1) := ⟨_, rfl⟩
          replace hf := lt_of e8 hf
          refine lv_iinc (v := y8) (lv' := [(4, .int y8), (0, .ref a_), (2, .int z2), (3, .int z3)]) hx hb dX10_follow_54 hl (k := 3) rfl (by rw [e8]; rfl) (by decide) rfl (fun ls hl => ?_)
          refine lv_goto (tgt := 7) hx hb dX10_follow_57 (by decide) ?_
          exact ih z2 z3 y8 v_places hf _ _ _ hP (mp_D_of hD rfl) hS (lv_sub hl [1, 2, 3, 0] rfl)
        · replace hf := if_t hf h7
          refine lv_aload_n hx hb dX10_follow_40 rfl (lv_at hl 0 rfl) ?_
          refine mp_get X fl_X10_29 hK hP 0 rfl rfl dX10_follow_41 ?_
          refine lv_iload_n hx hb dX10_follow_44 rfl (lv_at hl 1 rfl) ?_
          refine lv_iload hx hb dX10_follow_45 (lv_at hl 3 rfl) ?_
          obtain ⟨h9, hf⟩ := gi_of hf
          refine va_iast hx hb hK hP (mp_D_of hD rfl) hS 1 0 rfl rfl h9 dX10_follow_47 (fun H locs hP _ hS => ?_)
          replace hP : va_P D mp_cl (k_X10_follow T a_ a_word a_row a_ways a_places v_wordLength v_rowLength (upd v_places (z2).toNatClampNeg z4) v_row v_word) H := hP
          refine lv_iload hx hb dX10_follow_48 (lv_at hl 3 rfl) ?_
          refine lv_istore_n (lv' := [(3, .int z4), (0, .ref a_), (2, .int z2), (4, .int z4)]) hx hb dX10_follow_50 rfl hl (by decide) rfl (fun ls hl => ?_)
          obtain ⟨y10, e10⟩ : ∃ y : Int32, y = z2 + (nI 1) := ⟨_, rfl⟩
          replace hf := lt_of e10 hf
          refine lv_iinc (v := y10) (lv' := [(2, .int y10), (3, .int z4), (0, .ref a_), (4, .int z4)]) hx hb dX10_follow_51 hl (k := 2) rfl (by rw [e10]; rfl) (by decide) rfl (fun ls hl => ?_)
          obtain ⟨y11, e11⟩ : ∃ y : Int32, y = z4 + (nI 1) := ⟨_, rfl⟩
          replace hf := lt_of e11 hf
          refine lv_iinc (v := y11) (lv' := [(4, .int y11), (2, .int y10), (3, .int z4), (0, .ref a_)]) hx hb dX10_follow_54 hl (k := 3) rfl (by rw [e11]; rfl) (by decide) rfl (fun ls hl => ?_)
          refine lv_goto (tgt := 7) hx hb dX10_follow_57 (by decide) ?_
          exact ih y10 z4 y11 (upd v_places (z2).toNatClampNeg z4) hf _ _ _ hP (mp_D_of hD rfl) hS (lv_sub hl [3, 1, 2, 0] rfl)

set_option maxHeartbeats 4000000 in
set_option maxRecDepth 100000 in
theorem c_X10_follow (l : Launch) (D : va_G) (T : Nat → ClassId) (fu : Nat) (a_ a_word a_row a_ways a_places : Nat) (x1 : Int32) (v_wordLength : Int32) (v_rowLength : Int32) (v_places : (Nat → Int32)) (v_row : (Nat → Int32)) (v_word : (Nat → Int32)) (r_ : Int32) (o_places : (Nat → Int32)) (hf : f_X10_follow fu x1 v_wordLength v_rowLength v_places v_row v_word = some (r_, o_places)) :
    mp_M l D T yX10_follow cX10_follow 5 (some .int) ({ frames := 0, cells := 0, slots := 0, locals := 0 }) 0 0 [.ref a_, .int x1] (k_X10_follow T a_ a_word a_row a_ways a_places v_wordLength v_rowLength v_places v_row v_word) (mp_Qi D r_ (k_X10_follow T a_ a_word a_row a_ways a_places v_wordLength v_rowLength o_places v_row v_word)) := by
  refine mp_of (by decide) (Nat.le_of_ble_eq_true rfl) rfl ?_
  intro p e s m args below meth c A ls X hK hP hD hS hA hl
  replace X : mp_X p s m meth c args RX10 "follow" cX10_follow 5 (some .int) := X
  have hx := X.1
  have hb := X.2.1
  have hml := X.2.2.1
  have hown := X.2.2.2.2.1
  have hts := X.2.2.2.2.2.1
  replace hl : lv_has ls 5 [(0, .ref a_), (1, .int x1)] := hl
  replace hf : f_X10_follow_7 fu v_wordLength v_rowLength v_row v_word  fu (nI 0) (-1 : Int32) x1 v_places = some (r_, o_places) := hf
  refine lv_iconst (v := (nI 0)) hx hb dX10_follow_0 (by decide) ?_
  refine lv_istore_n (lv' := [(2, .int (nI 0)), (0, .ref a_), (1, .int x1)]) hx hb dX10_follow_1 rfl hl (by decide) rfl (fun ls hl => ?_)
  refine lv_iconst (v := (-1 : Int32)) hx hb dX10_follow_2 (by decide) ?_
  refine lv_istore_n (lv' := [(3, .int (-1 : Int32)), (2, .int (nI 0)), (0, .ref a_), (1, .int x1)]) hx hb dX10_follow_3 rfl hl (by decide) rfl (fun ls hl => ?_)
  refine lv_iload_n hx hb dX10_follow_4 rfl (lv_at hl 3 rfl) ?_
  refine lv_istore (lv' := [(4, .int x1), (3, .int (-1 : Int32)), (2, .int (nI 0)), (0, .ref a_), (1, .int x1)]) hx hb dX10_follow_5 hl (by decide) rfl (fun ls hl => ?_)
  exact w_X10_follow_7 X hK hA  fu a_ a_word a_row a_ways a_places v_wordLength v_rowLength v_row v_word r_ o_places   fu (nI 0) (-1 : Int32) x1 v_places hf _ _ _ hP (mp_D_of hD rfl) hS (lv_sub hl [3, 2, 1, 0] rfl)


def k_X10_leastLength (T : Nat → ClassId) (a_ a_word a_row a_ways a_places : Nat) (v_wordLength : Int32) (v_rowLength : Int32) (v_places : (Nat → Int32)) (v_row : (Nat → Int32)) (v_word : (Nat → Int32)) : va_W := [(a_, oX10 a_word a_row v_wordLength v_rowLength a_ways a_places), (a_places, mp_aI T 10 v_places), (a_row, mp_aI T 60 v_row), (a_word, mp_aI T 10 v_word)]
set_option maxHeartbeats 4000000 in
set_option maxRecDepth 100000 in
theorem w_X10_leastLength_36 {p : Program} {l : Launch} {e : Env} {s : State} {m : MethodId} {args : Array Value} {below : List Frame} {meth : Method} {c : Code} {D : va_G} {T : Nat → ClassId} {A : Nat → Prop} (X : mp_X p s m meth c args RX10 "leastLength" cX10_leastLength 4 (some .int)) (hK : va_K D mp_cl (mp_ty T) s) (hA : ∀ q, s.heap.size ≤ q → A q) (fu : Nat) (a_ a_word a_row a_ways a_places : Nat) (v_wordLength : Int32) (v_rowLength : Int32) (v_row : (Nat → Int32)) (v_word : (Nat → Int32)) (r_ : Int32) (o_places : (Nat → Int32)) (K4 : Int32 → Int32 → (Nat → Int32) → Option (Int32 × (Nat → Int32))) (hK4 : ∀ (z1 : Int32) (z2 : Int32) (v_places : (Nat → Int32)), K4 z1 z2 v_places = some (r_, o_places) → ∀ (H : Heap) (locs : List Loc) (ls : Array Slot), va_P D mp_cl (k_X10_leastLength T a_ a_word a_row a_ways a_places v_wordLength v_rowLength v_places v_row v_word) H → va_D A (k_X10_leastLength T a_ a_word a_row a_ways a_places v_wordLength v_rowLength v_places v_row v_word) → va_S A s.heap H locs → lv_has ls 4 [(0, .ref a_), (1, .int z1), (2, .int z2)] → W p l e ({ frames := 1, cells := 0, slots := 0, locals := 24 }) s m args below meth c H locs 0 0 (MQ below ((mp_Qi D r_ (k_X10_leastLength T a_ a_word a_row a_ways a_places v_wordLength v_rowLength o_places v_row v_word)) A) args s 0 0 A) (F0 m 4 ls [])) :
    ∀  (z1 : Int32) (z2 : Int32) (w0 : Int32) (v_places : (Nat → Int32)), f_X10_leastLength_36 fu v_wordLength v_rowLength v_row v_word K4 z1 z2 w0 v_places = some (r_, o_places) → ∀ (H : Heap) (locs : List Loc) (ls : Array Slot), va_P D mp_cl (k_X10_leastLength T a_ a_word a_row a_ways a_places v_wordLength v_rowLength v_places v_row v_word) H → va_D A (k_X10_leastLength T a_ a_word a_row a_ways a_places v_wordLength v_rowLength v_places v_row v_word) → va_S A s.heap H locs → lv_has ls 4 [(0, .ref a_), (1, .int z1), (2, .int z2)] → W p l e ({ frames := 1, cells := 0, slots := 0, locals := 24 }) s m args below meth c H locs 0 0 (MQ below ((mp_Qi D r_ (k_X10_leastLength T a_ a_word a_row a_ways a_places v_wordLength v_rowLength o_places v_row v_word)) A) args s 0 0 A) (F0 m 36 ls [.int w0]) := by
  have hx := X.1
  have hb := X.2.1
  have hml := X.2.2.1
  have hown := X.2.2.2.2.1
  have hts := X.2.2.2.2.2.1
  intro z1 z2 w0 v_places hf H locs ls hP hD hS hl
  replace hf : (if w0 = (-1 : Int32) then lt_ (z2 + (nI 1)) (fun (y2 : Int32) => K4 z1 y2 v_places) else (if z1 = (-1 : Int32) then lt_ ((w0 - z2) + (nI 1)) (fun (y4 : Int32) => lt_ (z2 + (nI 1)) (fun (y5 : Int32) => K4 y4 y5 v_places)) else (if z1 ≤ ((w0 - z2) + (nI 1)) then lt_ (z2 + (nI 1)) (fun (y7 : Int32) => K4 z1 y7 v_places) else lt_ ((w0 - z2) + (nI 1)) (fun (y8 : Int32) => lt_ (z2 + (nI 1)) (fun (y9 : Int32) => K4 y8 y9 v_places))))) = some (r_, o_places) := hf
  refine lv_istore_n (lv' := [(3, .int w0), (0, .ref a_), (1, .int z1), (2, .int z2)]) hx hb dX10_leastLength_36 rfl hl (by decide) rfl (fun ls hl => ?_)
  refine lv_iload_n hx hb dX10_leastLength_37 rfl (lv_at hl 0 rfl) ?_
  refine lv_iconst (v := (-1 : Int32)) hx hb dX10_leastLength_38 (by decide) ?_
  refine lv_icmp_eq (tgt := 62) hx hb dX10_leastLength_39 (by decide) (fun h1 => ?_) (fun h1 => ?_)
  · replace hf := if_t hf h1
    obtain ⟨y2, e2⟩ : ∃ y : Int32, y = z2 + (nI 1) := ⟨_, rfl⟩
    replace hf := lt_of e2 hf
    refine lv_iinc (v := y2) (lv' := [(2, .int y2), (3, .int w0), (0, .ref a_), (1, .int z1)]) hx hb dX10_leastLength_62 hl (k := 3) rfl (by rw [e2]; rfl) (by decide) rfl (fun ls hl => ?_)
    refine lv_goto (tgt := 4) hx hb dX10_leastLength_65 (by decide) ?_
    exact hK4 z1 y2 v_places hf _ _ _ hP (mp_D_of hD rfl) hS (lv_sub hl [2, 3, 0] rfl)
  · replace hf := if_f hf h1
    refine lv_iload_n hx hb dX10_leastLength_42 rfl (lv_at hl 2 rfl) ?_
    refine lv_iconst (v := (-1 : Int32)) hx hb dX10_leastLength_43 (by decide) ?_
    refine lv_icmp_eq (tgt := 56) hx hb dX10_leastLength_44 (by decide) (fun h3 => ?_) (fun h3 => ?_)
    · replace hf := if_t hf h3
      refine lv_iload_n hx hb dX10_leastLength_56 rfl (lv_at hl 0 rfl) ?_
      refine lv_iload_n hx hb dX10_leastLength_57 rfl (lv_at hl 3 rfl) ?_
      refine lv_isub hx hb dX10_leastLength_58 ?_
      refine lv_iconst (v := (nI 1)) hx hb dX10_leastLength_59 (by decide) ?_
      refine lv_iadd hx hb dX10_leastLength_60 ?_
      refine lv_topi (fun y4 e4 => ?_)
      replace hf := lt_of e4 hf
      refine lv_istore_n (lv' := [(1, .int y4), (3, .int w0), (0, .ref a_), (2, .int z2)]) hx hb dX10_leastLength_61 rfl hl (by decide) rfl (fun ls hl => ?_)
      obtain ⟨y5, e5⟩ : ∃ y : Int32, y = z2 + (nI 1) := ⟨_, rfl⟩
      replace hf := lt_of e5 hf
      refine lv_iinc (v := y5) (lv' := [(2, .int y5), (1, .int y4), (3, .int w0), (0, .ref a_)]) hx hb dX10_leastLength_62 hl (k := 3) rfl (by rw [e5]; rfl) (by decide) rfl (fun ls hl => ?_)
      refine lv_goto (tgt := 4) hx hb dX10_leastLength_65 (by decide) ?_
      exact hK4 y4 y5 v_places hf _ _ _ hP (mp_D_of hD rfl) hS (lv_sub hl [3, 1, 0] rfl)
    · replace hf := if_f hf h3
      refine lv_iload_n hx hb dX10_leastLength_47 rfl (lv_at hl 0 rfl) ?_
      refine lv_iload_n hx hb dX10_leastLength_48 rfl (lv_at hl 3 rfl) ?_
      refine lv_isub hx hb dX10_leastLength_49 ?_
      refine lv_iconst (v := (nI 1)) hx hb dX10_leastLength_50 (by decide) ?_
      refine lv_iadd hx hb dX10_leastLength_51 ?_
      refine lv_iload_n hx hb dX10_leastLength_52 rfl (lv_at hl 2 rfl) ?_
      refine lv_icmp_ge (tgt := 62) hx hb dX10_leastLength_53 (by decide) (fun h6 => ?_) (fun h6 => ?_)
      · replace hf := if_t hf h6
        obtain ⟨y7, e7⟩ : ∃ y : Int32, y = z2 + (nI 1) := ⟨_, rfl⟩
        replace hf := lt_of e7 hf
        refine lv_iinc (v := y7) (lv' := [(2, .int y7), (3, .int w0), (0, .ref a_), (1, .int z1)]) hx hb dX10_leastLength_62 hl (k := 3) rfl (by rw [e7]; rfl) (by decide) rfl (fun ls hl => ?_)
        refine lv_goto (tgt := 4) hx hb dX10_leastLength_65 (by decide) ?_
        exact hK4 z1 y7 v_places hf _ _ _ hP (mp_D_of hD rfl) hS (lv_sub hl [2, 3, 0] rfl)
      · replace hf := if_f hf h6
        refine lv_iload_n hx hb dX10_leastLength_56 rfl (lv_at hl 0 rfl) ?_
        refine lv_iload_n hx hb dX10_leastLength_57 rfl (lv_at hl 3 rfl) ?_
        refine lv_isub hx hb dX10_leastLength_58 ?_
        refine lv_iconst (v := (nI 1)) hx hb dX10_leastLength_59 (by decide) ?_
        refine lv_iadd hx hb dX10_leastLength_60 ?_
        refine lv_topi (fun y8 e8 => ?_)
        replace hf := lt_of e8 hf
        refine lv_istore_n (lv' := [(1, .int y8), (3, .int w0), (0, .ref a_), (2, .int z2)]) hx hb dX10_leastLength_61 rfl hl (by decide) rfl (fun ls hl => ?_)
        obtain ⟨y9, e9⟩ : ∃ y : Int32, y = z2 + (nI 1) := ⟨_, rfl⟩
        replace hf := lt_of e9 hf
        refine lv_iinc (v := y9) (lv' := [(2, .int y9), (1, .int y8), (3, .int w0), (0, .ref a_)]) hx hb dX10_leastLength_62 hl (k := 3) rfl (by rw [e9]; rfl) (by decide) rfl (fun ls hl => ?_)
        refine lv_goto (tgt := 4) hx hb dX10_leastLength_65 (by decide) ?_
        exact hK4 y8 y9 v_places hf _ _ _ hP (mp_D_of hD rfl) hS (lv_sub hl [3, 1, 0] rfl)

set_option maxHeartbeats 4000000 in
set_option maxRecDepth 100000 in
theorem w_X10_leastLength_4 {p : Program} {l : Launch} {e : Env} {s : State} {m : MethodId} {args : Array Value} {below : List Frame} {meth : Method} {c : Code} {D : va_G} {T : Nat → ClassId} {A : Nat → Prop} (X : mp_X p s m meth c args RX10 "leastLength" cX10_leastLength 4 (some .int)) (hK : va_K D mp_cl (mp_ty T) s) (hA : ∀ q, s.heap.size ≤ q → A q) (fu : Nat) (a_ a_word a_row a_ways a_places : Nat) (v_wordLength : Int32) (v_rowLength : Int32) (v_row : (Nat → Int32)) (v_word : (Nat → Int32)) (r_ : Int32) (o_places : (Nat → Int32)) :
    ∀ (n : Nat) (z1 : Int32) (z2 : Int32) (v_places : (Nat → Int32)), f_X10_leastLength_4 fu v_wordLength v_rowLength v_row v_word  n z1 z2 v_places = some (r_, o_places) → ∀ (H : Heap) (locs : List Loc) (ls : Array Slot), va_P D mp_cl (k_X10_leastLength T a_ a_word a_row a_ways a_places v_wordLength v_rowLength v_places v_row v_word) H → va_D A (k_X10_leastLength T a_ a_word a_row a_ways a_places v_wordLength v_rowLength v_places v_row v_word) → va_S A s.heap H locs → lv_has ls 4 [(0, .ref a_), (1, .int z1), (2, .int z2)] → W p l e ({ frames := 1, cells := 0, slots := 0, locals := 24 }) s m args below meth c H locs 0 0 (MQ below ((mp_Qi D r_ (k_X10_leastLength T a_ a_word a_row a_ways a_places v_wordLength v_rowLength o_places v_row v_word)) A) args s 0 0 A) (F0 m 4 ls []) := by
  have hx := X.1
  have hb := X.2.1
  have hml := X.2.2.1
  have hown := X.2.2.2.2.1
  have hts := X.2.2.2.2.2.1
  intro n
  induction n with
  | zero => intro z1 z2 v_places hf; exact absurd hf (by intro h; cases h)
  | succ n ih =>
    intro z1 z2 v_places hf H locs ls hP hD hS hl
    replace hf : (if v_rowLength ≤ z2 then some (z1, v_places) else gi_ z2 60 (gi_ (nI 0) 10 ((if (v_row (z2).toNatClampNeg) = (v_word ((nI 0)).toNatClampNeg) then bd_ (f_X10_follow fu z2 v_wordLength v_rowLength v_places v_row v_word) (fun (z : Int32 × (Nat → Int32)) => match z with | (r5, u6) => f_X10_leastLength_36 fu v_wordLength v_rowLength v_row v_word (f_X10_leastLength_4 fu v_wordLength v_rowLength v_row v_word  n) z1 z2 r5 u6) else f_X10_leastLength_36 fu v_wordLength v_rowLength v_row v_word (f_X10_leastLength_4 fu v_wordLength v_rowLength v_row v_word  n) z1 z2 (-1 : Int32) v_places)))) = some (r_, o_places) := hf
    refine lv_iload_n hx hb dX10_leastLength_4 rfl (lv_at hl 2 rfl) ?_
    refine lv_aload_n hx hb dX10_leastLength_5 rfl (lv_at hl 0 rfl) ?_
    refine mp_get X fl_X10_22 hK hP 0 rfl rfl dX10_leastLength_6 ?_
    refine lv_icmp_ge (tgt := 68) hx hb dX10_leastLength_9 (by decide) (fun h1 => ?_) (fun h1 => ?_)
    · replace hf := if_t hf h1
      refine lv_iload_n hx hb dX10_leastLength_68 rfl (lv_at hl 1 rfl) ?_
      cases hf
      exact mp_reti X hP hS rfl dX10_leastLength_69
    · replace hf := if_f hf h1
      refine lv_aload_n hx hb dX10_leastLength_12 rfl (lv_at hl 0 rfl) ?_
      refine mp_get X fl_X10_15 hK hP 0 rfl rfl dX10_leastLength_13 ?_
      refine lv_iload_n hx hb dX10_leastLength_16 rfl (lv_at hl 2 rfl) ?_
      obtain ⟨h2, hf⟩ := gi_of hf
      refine va_iald hx hb hK hP 2 0 rfl rfl h2 dX10_leastLength_17 ?_
      refine lv_aload_n hx hb dX10_leastLength_18 rfl (lv_at hl 0 rfl) ?_
      refine mp_get X fl_X10_9 hK hP 0 rfl rfl dX10_leastLength_19 ?_
      refine lv_iconst (v := (nI 0)) hx hb dX10_leastLength_22 (by decide) ?_
      obtain ⟨h3, hf⟩ := gi_of hf
      refine va_iald hx hb hK hP 3 0 rfl rfl h3 dX10_leastLength_23 ?_
      refine lv_icmp_ne (tgt := 35) hx hb dX10_leastLength_24 (by decide) (fun h4 => ?_) (fun h4 => ?_)
      · replace hf := if_f hf h4
        refine lv_iconst (v := (-1 : Int32)) hx hb dX10_leastLength_35 (by decide) ?_
        exact w_X10_leastLength_36 X hK hA  fu a_ a_word a_row a_ways a_places v_wordLength v_rowLength v_row v_word r_ o_places  (f_X10_leastLength_4 fu v_wordLength v_rowLength v_row v_word  n) (ih) z1 z2 (-1 : Int32) v_places hf _ _ _ hP (mp_D_of hD rfl) hS (lv_sub hl [0, 1, 2] rfl)
      · replace hf := if_t hf h4
        refine lv_aload_n hx hb dX10_leastLength_27 rfl (lv_at hl 0 rfl) ?_
        refine lv_iload_n hx hb dX10_leastLength_28 rfl (lv_at hl 2 rfl) ?_
        obtain ⟨⟨r5, u6⟩, c7, hf⟩ := bd_of hf
        dsimp only at hf
        have hPc := hP.sub (ws' := (k_X10_follow T a_ a_word a_row a_ways a_places v_wordLength v_rowLength v_places v_row v_word)) [0, 1, 2, 3] rfl
        have hDc := (mp_D_of (w1 := (k_X10_leastLength T a_ a_word a_row a_ways a_places v_wordLength v_rowLength v_places v_row v_word)) hD rfl).sub (ws' := (k_X10_follow T a_ a_word a_row a_ways a_places v_wordLength v_rowLength v_places v_row v_word)) [0, 1, 2, 3] rfl rfl
        refine mp_calli (isC := [0, 1, 2, 3]) (wc := (k_X10_follow T a_ a_word a_row a_ways a_places v_wordLength v_rowLength v_places v_row v_word)) (w1 := (k_X10_follow T a_ a_word a_row a_ways a_places v_wordLength v_rowLength u6 v_row v_word)) hP (mp_D_of hD rfl) hS hA rfl rfl (mp_runV (As := [.int z2]) (rest := []) X me_X10_follow lk_X10_57 (c_X10_follow l D T fu a_ a_word a_row a_ways a_places z2 v_wordLength v_rowLength v_places v_row v_word r5 u6 c7) rfl rfl ⟨(Nat.le_of_ble_eq_true rfl), (Nat.le_of_ble_eq_true rfl)⟩ hK hPc hDc rfl rfl rfl rfl hl.1 rfl (Nat.le_of_ble_eq_true rfl) dX10_leastLength_29 ⟨Nat.zero_le _, Nat.zero_le _⟩) (fun H locs hP _ hS => ?_)
        replace hP : va_P D mp_cl (k_X10_leastLength T a_ a_word a_row a_ways a_places v_wordLength v_rowLength u6 v_row v_word) H := hP
        refine lv_goto (tgt := 36) hx hb dX10_leastLength_32 (by decide) ?_
        exact w_X10_leastLength_36 X hK hA  fu a_ a_word a_row a_ways a_places v_wordLength v_rowLength v_row v_word r_ o_places  (f_X10_leastLength_4 fu v_wordLength v_rowLength v_row v_word  n) (ih) z1 z2 r5 u6 hf _ _ _ hP (mp_D_of hD rfl) hS (lv_sub hl [0, 1, 2] rfl)

set_option maxHeartbeats 4000000 in
set_option maxRecDepth 100000 in
theorem c_X10_leastLength (l : Launch) (D : va_G) (T : Nat → ClassId) (fu : Nat) (a_ a_word a_row a_ways a_places : Nat) (v_wordLength : Int32) (v_rowLength : Int32) (v_places : (Nat → Int32)) (v_row : (Nat → Int32)) (v_word : (Nat → Int32)) (r_ : Int32) (o_places : (Nat → Int32)) (hf : f_X10_leastLength fu v_wordLength v_rowLength v_places v_row v_word = some (r_, o_places)) :
    mp_M l D T yX10_leastLength cX10_leastLength 4 (some .int) ({ frames := 1, cells := 0, slots := 0, locals := 24 }) 0 0 [.ref a_] (k_X10_leastLength T a_ a_word a_row a_ways a_places v_wordLength v_rowLength v_places v_row v_word) (mp_Qi D r_ (k_X10_leastLength T a_ a_word a_row a_ways a_places v_wordLength v_rowLength o_places v_row v_word)) := by
  refine mp_of (by decide) (Nat.le_of_ble_eq_true rfl) rfl ?_
  intro p e s m args below meth c A ls X hK hP hD hS hA hl
  replace X : mp_X p s m meth c args RX10 "leastLength" cX10_leastLength 4 (some .int) := X
  have hx := X.1
  have hb := X.2.1
  have hml := X.2.2.1
  have hown := X.2.2.2.2.1
  have hts := X.2.2.2.2.2.1
  replace hl : lv_has ls 4 [(0, .ref a_)] := hl
  replace hf : f_X10_leastLength_4 fu v_wordLength v_rowLength v_row v_word  fu (-1 : Int32) (nI 0) v_places = some (r_, o_places) := hf
  refine lv_iconst (v := (-1 : Int32)) hx hb dX10_leastLength_0 (by decide) ?_
  refine lv_istore_n (lv' := [(1, .int (-1 : Int32)), (0, .ref a_)]) hx hb dX10_leastLength_1 rfl hl (by decide) rfl (fun ls hl => ?_)
  refine lv_iconst (v := (nI 0)) hx hb dX10_leastLength_2 (by decide) ?_
  refine lv_istore_n (lv' := [(2, .int (nI 0)), (1, .int (-1 : Int32)), (0, .ref a_)]) hx hb dX10_leastLength_3 rfl hl (by decide) rfl (fun ls hl => ?_)
  exact w_X10_leastLength_4 X hK hA  fu a_ a_word a_row a_ways a_places v_wordLength v_rowLength v_row v_word r_ o_places   fu (-1 : Int32) (nI 0) v_places hf _ _ _ hP (mp_D_of hD rfl) hS (lv_sub hl [2, 1, 0] rfl)

