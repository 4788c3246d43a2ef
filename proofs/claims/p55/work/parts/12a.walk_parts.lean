def k_X0_probeTill (T : Nat → ClassId) (a_ a_probe a_trial a_best a_probe_order a_probe_knows a_probe_made a_probe_sixteenths a_probe_dots a_probe_used a_probe_stands a_p1 a_p1_cellNames a_p1_secretNames a_p1_pageNames a_p1_speed a_p1_letters a_p1_room a_p1_now a_p1_rounds : Nat) (v_bestMany : Int32) (v_probe_inOrder : Int32) (v_probe_place : Int32) (v_probe_ill : Int32) (v_probe_shut : Int32) (v_probe_turns : Int32) (v_probe_madeInAll : Int32) (v_probe_dots : (Nat → Int32)) (v_probe_knows : (Nat → Int32)) (v_probe_made : (Nat → Int32)) (v_probe_order : (Nat → Int32)) (v_probe_stands : (Nat → Int32)) (v_probe_used : (Nat → Int32)) (v_p1_cells : Int32) (v_p1_secrets : Int32) (v_p1_pages : Int32) (v_p1_blind : Int32) (v_p1_rubs : Int32) (v_p1_letters : (Nat → Int32)) (v_p1_room : (Nat → Int32)) (v_p1_speed : (Nat → Int32)) : va_W := [(a_, oX0 a_probe a_trial a_best v_bestMany), (a_probe, oX7 a_probe_order v_probe_inOrder v_probe_place a_probe_knows a_probe_made a_probe_sixteenths a_probe_dots a_probe_used a_probe_stands v_probe_ill v_probe_shut v_probe_turns v_probe_madeInAll), (a_probe_dots, mp_aI T 36 v_probe_dots), (a_probe_knows, mp_aI T 8 v_probe_knows), (a_probe_made, mp_aI T 8 v_probe_made), (a_probe_order, mp_aI T 8 v_probe_order), (a_probe_stands, mp_aI T 6 v_probe_stands), (a_probe_used, mp_aI T 6 v_probe_used), (a_p1, oX1 v_p1_cells v_p1_secrets v_p1_pages a_p1_cellNames a_p1_secretNames a_p1_pageNames a_p1_speed v_p1_blind v_p1_rubs a_p1_letters a_p1_room a_p1_now a_p1_rounds), (a_p1_letters, mp_aI T 6 v_p1_letters), (a_p1_room, mp_aI T 6 v_p1_room), (a_p1_speed, mp_aI T 8 v_p1_speed)]
set_option maxHeartbeats 4000000 in
set_option maxRecDepth 100000 in
theorem w_X0_probeTill_6 {p : Program} {l : Launch} {e : Env} {s : State} {m : MethodId} {args : Array Value} {below : List Frame} {meth : Method} {c : Code} {D : va_G} {T : Nat → ClassId} {A : Nat → Prop} (X : mp_X p s m meth c args RX0 "probeTill" cX0_probeTill 7 (some .int)) (hK : va_K D mp_cl (mp_ty T) s) (hA : ∀ q, s.heap.size ≤ q → A q) (fu : Nat) (a_ a_probe a_trial a_best a_probe_order a_probe_knows a_probe_made a_probe_sixteenths a_probe_dots a_probe_used a_probe_stands a_p1 a_p1_cellNames a_p1_secretNames a_p1_pageNames a_p1_speed a_p1_letters a_p1_room a_p1_now a_p1_rounds : Nat) (v_bestMany : Int32) (v_p1_cells : Int32) (v_probe_inOrder : Int32) (v_probe_ill : Int32) (v_probe_shut : Int32) (v_probe_order : (Nat → Int32)) (v_p1_secrets : Int32) (v_p1_pages : Int32) (v_p1_blind : Int32) (v_p1_rubs : Int32) (v_p1_letters : (Nat → Int32)) (v_p1_room : (Nat → Int32)) (v_p1_speed : (Nat → Int32)) (r_ : Int32) (o_probe_place : Int32) (o_probe_turns : Int32) (o_probe_madeInAll : Int32) (o_probe_dots : (Nat → Int32)) (o_probe_knows : (Nat → Int32)) (o_probe_made : (Nat → Int32)) (o_probe_stands : (Nat → Int32)) (o_probe_used : (Nat → Int32)) :
    ∀ (n : Nat) (z2 : Int32) (z3 : Int32) (z4 : Int32) (z5 : Int32) (z6 : Int32) (v_probe_place : Int32) (v_probe_turns : Int32) (v_probe_madeInAll : Int32) (v_probe_dots : (Nat → Int32)) (v_probe_knows : (Nat → Int32)) (v_probe_made : (Nat → Int32)) (v_probe_stands : (Nat → Int32)) (v_probe_used : (Nat → Int32)), f_X0_probeTill_6 fu v_probe_inOrder v_probe_ill v_probe_shut v_probe_order v_p1_secrets v_p1_pages v_p1_blind v_p1_rubs v_p1_letters v_p1_room v_p1_speed  n z2 z3 z4 z5 z6 v_probe_place v_probe_turns v_probe_madeInAll v_probe_dots v_probe_knows v_probe_made v_probe_stands v_probe_used = some (r_, o_probe_place, o_probe_turns, o_probe_madeInAll, o_probe_dots, o_probe_knows, o_probe_made, o_probe_stands, o_probe_used) → ∀ (H : Heap) (locs : List Loc) (ls : Array Slot), va_P D mp_cl (k_X0_probeTill T a_ a_probe a_trial a_best a_probe_order a_probe_knows a_probe_made a_probe_sixteenths a_probe_dots a_probe_used a_probe_stands a_p1 a_p1_cellNames a_p1_secretNames a_p1_pageNames a_p1_speed a_p1_letters a_p1_room a_p1_now a_p1_rounds v_bestMany v_probe_inOrder v_probe_place v_probe_ill v_probe_shut v_probe_turns v_probe_madeInAll v_probe_dots v_probe_knows v_probe_made v_probe_order v_probe_stands v_probe_used v_p1_cells v_p1_secrets v_p1_pages v_p1_blind v_p1_rubs v_p1_letters v_p1_room v_p1_speed) H → va_D A (k_X0_probeTill T a_ a_probe a_trial a_best a_probe_order a_probe_knows a_probe_made a_probe_sixteenths a_probe_dots a_probe_used a_probe_stands a_p1 a_p1_cellNames a_p1_secretNames a_p1_pageNames a_p1_speed a_p1_letters a_p1_room a_p1_now a_p1_rounds v_bestMany v_probe_inOrder v_probe_place v_probe_ill v_probe_shut v_probe_turns v_probe_madeInAll v_probe_dots v_probe_knows v_probe_made v_probe_order v_probe_stands v_probe_used v_p1_cells v_p1_secrets v_p1_pages v_p1_blind v_p1_rubs v_p1_letters v_p1_room v_p1_speed) → va_S A s.heap H locs → lv_has ls 7 [(0, .ref a_), (1, .ref a_p1), (2, .int z2), (3, .int z3), (4, .int z4), (5, .int z5), (6, .int z6)] → W p l e ({ frames := 4, cells := 0, slots := 0, locals := 117 }) s m args below meth c H locs 0 0 (MQ below ((mp_Qi D r_ (k_X0_probeTill T a_ a_probe a_trial a_best a_probe_order a_probe_knows a_probe_made a_probe_sixteenths a_probe_dots a_probe_used a_probe_stands a_p1 a_p1_cellNames a_p1_secretNames a_p1_pageNames a_p1_speed a_p1_letters a_p1_room a_p1_now a_p1_rounds v_bestMany v_probe_inOrder o_probe_place v_probe_ill v_probe_shut o_probe_turns o_probe_madeInAll o_probe_dots o_probe_knows o_probe_made v_probe_order o_probe_stands o_probe_used v_p1_cells v_p1_secrets v_p1_pages v_p1_blind v_p1_rubs v_p1_letters v_p1_room v_p1_speed)) A) args s 0 0 A) (F0 m 6 ls []) := by
  have hx := X.1
  have hb := X.2.1
  have hml := X.2.2.1
  have hown := X.2.2.2.2.1
  have hts := X.2.2.2.2.2.1
  intro n
  induction n with
  | zero => intro z2 z3 z4 z5 z6 v_probe_place v_probe_turns v_probe_madeInAll v_probe_dots v_probe_knows v_probe_made v_probe_stands v_probe_used hf; exact absurd hf (by intro h; cases h)
  | succ n ih =>
    intro z2 z3 z4 z5 z6 v_probe_place v_probe_turns v_probe_madeInAll v_probe_dots v_probe_knows v_probe_made v_probe_stands v_probe_used hf H locs ls hP hD hS hl
    replace hf : (if z4 < z6 then some ((-1 : Int32), v_probe_place, v_probe_turns, v_probe_madeInAll, v_probe_dots, v_probe_knows, v_probe_made, v_probe_stands, v_probe_used) else bd_ (f_X7_isReached fu z2 z3 v_probe_knows) (fun (r2 : Int32) => (if r2 = 0 then (if z5 < v_probe_inOrder then bd_ (f_X7_pass fu v_probe_inOrder v_probe_place v_probe_ill v_probe_shut v_probe_turns v_probe_madeInAll v_probe_dots v_probe_knows v_probe_made v_probe_order v_probe_stands v_probe_used v_p1_secrets v_p1_pages v_p1_blind v_p1_rubs v_p1_letters v_p1_room v_p1_speed) (fun (z : Int32 × Int32 × Int32 × Int32 × (Nat → Int32) × (Nat → Int32) × (Nat → Int32) × (Nat → Int32) × (Nat → Int32)) => match z with | (r6, u7, u8, u9, u10, u11, u12, u13, u14) => (if r6 = 0 then lt_ (z5 + (nI 1)) (fun (y17 : Int32) => lt_ (z6 + (nI 1)) (fun (y18 : Int32) => f_X0_probeTill_6 fu v_probe_inOrder v_probe_ill v_probe_shut v_probe_order v_p1_secrets v_p1_pages v_p1_blind v_p1_rubs v_p1_letters v_p1_room v_p1_speed  n z2 z3 z4 y17 y18 u7 u8 u9 u10 u11 u12 u13 u14)) else lt_ (z6 + (nI 1)) (fun (y19 : Int32) => f_X0_probeTill_6 fu v_probe_inOrder v_probe_ill v_probe_shut v_probe_order v_p1_secrets v_p1_pages v_p1_blind v_p1_rubs v_p1_letters v_p1_room v_p1_speed  n z2 z3 z4 (nI 0) y19 u7 u8 u9 u10 u11 u12 u13 u14))) else some ((-1 : Int32), v_probe_place, v_probe_turns, v_probe_madeInAll, v_probe_dots, v_probe_knows, v_probe_made, v_probe_stands, v_probe_used)) else some (z6, v_probe_place, v_probe_turns, v_probe_madeInAll, v_probe_dots, v_probe_knows, v_probe_made, v_probe_stands, v_probe_used)))) = some (r_, o_probe_place, o_probe_turns, o_probe_madeInAll, o_probe_dots, o_probe_knows, o_probe_made, o_probe_stands, o_probe_used) := hf
    refine lv_iload hx hb dX0_probeTill_6 (lv_at hl 6 rfl) ?_
    refine lv_iload hx hb dX0_probeTill_8 (lv_at hl 4 rfl) ?_
    refine lv_icmp_gt (tgt := 69) hx hb dX0_probeTill_10 (by decide) (fun h1 => ?_) (fun h1 => ?_)
    · replace hf := if_t hf h1
      refine lv_iconst (v := (-1 : Int32)) hx hb dX0_probeTill_69 (by decide) ?_
      cases hf
      exact mp_reti X hP hS rfl dX0_probeTill_70
    · replace hf := if_f hf h1
      refine lv_aload_n hx hb dX0_probeTill_13 rfl (lv_at hl 0 rfl) ?_
      refine mp_get X fl_X0_12 hK hP 0 rfl rfl dX0_probeTill_14 ?_
      refine lv_iload_n hx hb dX0_probeTill_17 rfl (lv_at hl 2 rfl) ?_
      refine lv_iload_n hx hb dX0_probeTill_18 rfl (lv_at hl 3 rfl) ?_
      obtain ⟨r2, c3, hf⟩ := bd_of hf
      have hPc := hP.sub (ws' := (k_X7_isReached T a_probe a_probe_order a_probe_knows a_probe_made a_probe_sixteenths a_probe_dots a_probe_used a_probe_stands v_probe_inOrder v_probe_place v_probe_ill v_probe_shut v_probe_turns v_probe_madeInAll v_probe_knows)) [1, 3] rfl
      have hDc := (mp_D_of (w1 := (k_X0_probeTill T a_ a_probe a_trial a_best a_probe_order a_probe_knows a_probe_made a_probe_sixteenths a_probe_dots a_probe_used a_probe_stands a_p1 a_p1_cellNames a_p1_secretNames a_p1_pageNames a_p1_speed a_p1_letters a_p1_room a_p1_now a_p1_rounds v_bestMany v_probe_inOrder v_probe_place v_probe_ill v_probe_shut v_probe_turns v_probe_madeInAll v_probe_dots v_probe_knows v_probe_made v_probe_order v_probe_stands v_probe_used v_p1_cells v_p1_secrets v_p1_pages v_p1_blind v_p1_rubs v_p1_letters v_p1_room v_p1_speed)) hD rfl).sub (ws' := (k_X7_isReached T a_probe a_probe_order a_probe_knows a_probe_made a_probe_sixteenths a_probe_dots a_probe_used a_probe_stands v_probe_inOrder v_probe_place v_probe_ill v_probe_shut v_probe_turns v_probe_madeInAll v_probe_knows)) [1, 3] rfl rfl
      refine mp_calli (isC := [1, 3]) (wc := (k_X7_isReached T a_probe a_probe_order a_probe_knows a_probe_made a_probe_sixteenths a_probe_dots a_probe_used a_probe_stands v_probe_inOrder v_probe_place v_probe_ill v_probe_shut v_probe_turns v_probe_madeInAll v_probe_knows)) (w1 := (k_X7_isReached T a_probe a_probe_order a_probe_knows a_probe_made a_probe_sixteenths a_probe_dots a_probe_used a_probe_stands v_probe_inOrder v_probe_place v_probe_ill v_probe_shut v_probe_turns v_probe_madeInAll v_probe_knows)) hP (mp_D_of hD rfl) hS hA rfl rfl (mp_runV (As := [.int z2, .int z3]) (rest := []) X me_X7_isReached lk_X0_46 (c_X7_isReached l D T fu a_probe a_probe_order a_probe_knows a_probe_made a_probe_sixteenths a_probe_dots a_probe_used a_probe_stands z2 z3 v_probe_inOrder v_probe_place v_probe_ill v_probe_shut v_probe_turns v_probe_madeInAll v_probe_knows r2 c3) rfl rfl ⟨(Nat.le_of_ble_eq_true rfl), (Nat.le_of_ble_eq_true rfl)⟩ hK hPc hDc rfl rfl rfl rfl hl.1 rfl (Nat.le_of_ble_eq_true rfl) dX0_probeTill_19 ⟨Nat.zero_le _, Nat.zero_le _⟩) (fun H locs hP _ hS => ?_)
      replace hP : va_P D mp_cl (k_X0_probeTill T a_ a_probe a_trial a_best a_probe_order a_probe_knows a_probe_made a_probe_sixteenths a_probe_dots a_probe_used a_probe_stands a_p1 a_p1_cellNames a_p1_secretNames a_p1_pageNames a_p1_speed a_p1_letters a_p1_room a_p1_now a_p1_rounds v_bestMany v_probe_inOrder v_probe_place v_probe_ill v_probe_shut v_probe_turns v_probe_madeInAll v_probe_dots v_probe_knows v_probe_made v_probe_order v_probe_stands v_probe_used v_p1_cells v_p1_secrets v_p1_pages v_p1_blind v_p1_rubs v_p1_letters v_p1_room v_p1_speed) H := hP
      refine lv_if_eq (tgt := 28) hx hb dX0_probeTill_22 (by decide) (fun h4 => ?_) (fun h4 => ?_)
      · replace hf := if_t hf h4
        refine lv_iload hx hb dX0_probeTill_28 (lv_at hl 5 rfl) ?_
        refine lv_aload_n hx hb dX0_probeTill_30 rfl (lv_at hl 0 rfl) ?_
        refine mp_get X fl_X0_12 hK hP 0 rfl rfl dX0_probeTill_31 ?_
        refine mp_get X fl_X0_50 hK hP 1 rfl rfl dX0_probeTill_34 ?_
        refine lv_icmp_lt (tgt := 42) hx hb dX0_probeTill_37 (by decide) (fun h5 => ?_) (fun h5 => ?_)
        · replace hf := if_t hf h5
          refine lv_aload_n hx hb dX0_probeTill_42 rfl (lv_at hl 0 rfl) ?_
          refine mp_get X fl_X0_12 hK hP 0 rfl rfl dX0_probeTill_43 ?_
          refine lv_aload_n hx hb dX0_probeTill_46 rfl (lv_at hl 1 rfl) ?_
          obtain ⟨⟨r6, u7, u8, u9, u10, u11, u12, u13, u14⟩, c15, hf⟩ := bd_of hf
          dsimp only at hf
          have hPc := hP.sub (ws' := (k_X7_pass T a_probe a_probe_order a_probe_knows a_probe_made a_probe_sixteenths a_probe_dots a_probe_used a_probe_stands a_p1 a_p1_cellNames a_p1_secretNames a_p1_pageNames a_p1_speed a_p1_letters a_p1_room a_p1_now a_p1_rounds v_probe_inOrder v_probe_place v_probe_ill v_probe_shut v_probe_turns v_probe_madeInAll v_probe_dots v_probe_knows v_probe_made v_probe_order v_probe_stands v_probe_used v_p1_cells v_p1_secrets v_p1_pages v_p1_blind v_p1_rubs v_p1_letters v_p1_room v_p1_speed)) [1, 2, 3, 4, 5, 6, 7, 8, 9, 10, 11] rfl
          have hDc := (mp_D_of (w1 := (k_X0_probeTill T a_ a_probe a_trial a_best a_probe_order a_probe_knows a_probe_made a_probe_sixteenths a_probe_dots a_probe_used a_probe_stands a_p1 a_p1_cellNames a_p1_secretNames a_p1_pageNames a_p1_speed a_p1_letters a_p1_room a_p1_now a_p1_rounds v_bestMany v_probe_inOrder v_probe_place v_probe_ill v_probe_shut v_probe_turns v_probe_madeInAll v_probe_dots v_probe_knows v_probe_made v_probe_order v_probe_stands v_probe_used v_p1_cells v_p1_secrets v_p1_pages v_p1_blind v_p1_rubs v_p1_letters v_p1_room v_p1_speed)) hD rfl).sub (ws' := (k_X7_pass T a_probe a_probe_order a_probe_knows a_probe_made a_probe_sixteenths a_probe_dots a_probe_used a_probe_stands a_p1 a_p1_cellNames a_p1_secretNames a_p1_pageNames a_p1_speed a_p1_letters a_p1_room a_p1_now a_p1_rounds v_probe_inOrder v_probe_place v_probe_ill v_probe_shut v_probe_turns v_probe_madeInAll v_probe_dots v_probe_knows v_probe_made v_probe_order v_probe_stands v_probe_used v_p1_cells v_p1_secrets v_p1_pages v_p1_blind v_p1_rubs v_p1_letters v_p1_room v_p1_speed)) [1, 2, 3, 4, 5, 6, 7, 8, 9, 10, 11] rfl rfl
          refine mp_calli2 (isC := [1, 2, 3, 4, 5, 6, 7, 8, 9, 10, 11]) (isO := [0]) (wc := (k_X7_pass T a_probe a_probe_order a_probe_knows a_probe_made a_probe_sixteenths a_probe_dots a_probe_used a_probe_stands a_p1 a_p1_cellNames a_p1_secretNames a_p1_pageNames a_p1_speed a_p1_letters a_p1_room a_p1_now a_p1_rounds v_probe_inOrder v_probe_place v_probe_ill v_probe_shut v_probe_turns v_probe_madeInAll v_probe_dots v_probe_knows v_probe_made v_probe_order v_probe_stands v_probe_used v_p1_cells v_p1_secrets v_p1_pages v_p1_blind v_p1_rubs v_p1_letters v_p1_room v_p1_speed)) (w1 := (k_X7_pass T a_probe a_probe_order a_probe_knows a_probe_made a_probe_sixteenths a_probe_dots a_probe_used a_probe_stands a_p1 a_p1_cellNames a_p1_secretNames a_p1_pageNames a_p1_speed a_p1_letters a_p1_room a_p1_now a_p1_rounds v_probe_inOrder u7 v_probe_ill v_probe_shut u8 u9 u10 u11 u12 v_probe_order u13 u14 v_p1_cells v_p1_secrets v_p1_pages v_p1_blind v_p1_rubs v_p1_letters v_p1_room v_p1_speed)) (wo := [(a_, oX0 a_probe a_trial a_best v_bestMany)]) (w2 := (k_X0_probeTill T a_ a_probe a_trial a_best a_probe_order a_probe_knows a_probe_made a_probe_sixteenths a_probe_dots a_probe_used a_probe_stands a_p1 a_p1_cellNames a_p1_secretNames a_p1_pageNames a_p1_speed a_p1_letters a_p1_room a_p1_now a_p1_rounds v_bestMany v_probe_inOrder u7 v_probe_ill v_probe_shut u8 u9 u10 u11 u12 v_probe_order u13 u14 v_p1_cells v_p1_secrets v_p1_pages v_p1_blind v_p1_rubs v_p1_letters v_p1_room v_p1_speed)) (n := 12) hP (mp_D_of hD rfl) hS hA rfl rfl rfl rfl rfl rfl (by decide +kernel) (mp_runV (As := [.ref a_p1]) (rest := []) X me_X7_pass lk_X0_53 (c_X7_pass l D T fu a_probe a_probe_order a_probe_knows a_probe_made a_probe_sixteenths a_probe_dots a_probe_used a_probe_stands a_p1 a_p1_cellNames a_p1_secretNames a_p1_pageNames a_p1_speed a_p1_letters a_p1_room a_p1_now a_p1_rounds v_p1_cells v_probe_inOrder v_probe_place v_probe_ill v_probe_shut v_probe_turns v_probe_madeInAll v_probe_dots v_probe_knows v_probe_made v_probe_order v_probe_stands v_probe_used v_p1_secrets v_p1_pages v_p1_blind v_p1_rubs v_p1_letters v_p1_room v_p1_speed r6 u7 u8 u9 u10 u11 u12 u13 u14 c15) rfl rfl ⟨(Nat.le_of_ble_eq_true rfl), (Nat.le_of_ble_eq_true rfl)⟩ hK hPc hDc rfl rfl rfl rfl hl.1 rfl (Nat.le_of_ble_eq_true rfl) dX0_probeTill_47 ⟨Nat.zero_le _, Nat.zero_le _⟩) (fun H locs hP _ hS => ?_)
          refine lv_if_eq (tgt := 57) hx hb dX0_probeTill_50 (by decide) (fun h16 => ?_) (fun h16 => ?_)
          · replace hf := if_t hf h16
            refine lv_iload hx hb dX0_probeTill_57 (lv_at hl 5 rfl) ?_
            refine lv_iconst (v := (nI 1)) hx hb dX0_probeTill_59 (by decide) ?_
            refine lv_iadd hx hb dX0_probeTill_60 ?_
            refine lv_topi (fun y17 e17 => ?_)
            replace hf := lt_of e17 hf
            refine lv_istore (lv' := [(5, .int y17), (0, .ref a_), (1, .ref a_p1), (2, .int z2), (3, .int z3), (4, .int z4), (6, .int z6)]) hx hb dX0_probeTill_61 hl (by decide) rfl (fun ls hl => ?_)
            obtain ⟨y18, e18⟩ : ∃ y : Int32, y = z6 + (nI 1) := ⟨_, rfl⟩
            replace hf := lt_of e18 hf
            refine lv_iinc (v := y18) (lv' := [(6, .int y18), (5, .int y17), (0, .ref a_), (1, .ref a_p1), (2, .int z2), (3, .int z3), (4, .int z4)]) hx hb dX0_probeTill_63 hl (k := 6) rfl (by rw [e18]; rfl) (by decide) rfl (fun ls hl => ?_)
            refine lv_goto (tgt := 6) hx hb dX0_probeTill_66 (by decide) ?_
            exact ih z2 z3 z4 y17 y18 u7 u8 u9 u10 u11 u12 u13 u14 hf _ _ _ hP (mp_D_of hD rfl) hS (lv_sub hl [2, 3, 4, 5, 6, 1, 0] rfl)
          · replace hf := if_f hf h16
            refine lv_iconst (v := (nI 0)) hx hb dX0_probeTill_53 (by decide) ?_
            refine lv_goto (tgt := 61) hx hb dX0_probeTill_54 (by decide) ?_
            refine lv_istore (lv' := [(5, .int (nI 0)), (0, .ref a_), (1, .ref a_p1), (2, .int z2), (3, .int z3), (4, .int z4), (6, .int z6)]) hx hb dX0_probeTill_61 hl (by decide) rfl (fun ls hl => ?_)
            obtain ⟨y19, e19⟩ : ∃ y : Int32, y = z6 + (nI 1) := ⟨_, rfl⟩
            replace hf := lt_of e19 hf
            refine lv_iinc (v := y19) (lv' := [(6, .int y19), (5, .int (nI 0)), (0, .ref a_), (1, .ref a_p1), (2, .int z2), (3, .int z3), (4, .int z4)]) hx hb dX0_probeTill_63 hl (k := 6) rfl (by rw [e19]; rfl) (by decide) rfl (fun ls hl => ?_)
            refine lv_goto (tgt := 6) hx hb dX0_probeTill_66 (by decide) ?_
            exact ih z2 z3 z4 (nI 0) y19 u7 u8 u9 u10 u11 u12 u13 u14 hf _ _ _ hP (mp_D_of hD rfl) hS (lv_sub hl [2, 3, 4, 5, 6, 1, 0] rfl)
        · replace hf := if_f hf h5
          refine lv_iconst (v := (-1 : Int32)) hx hb dX0_probeTill_40 (by decide) ?_
          cases hf
          exact mp_reti X hP hS rfl dX0_probeTill_41
      · replace hf := if_f hf h4
        refine lv_iload hx hb dX0_probeTill_25 (lv_at hl 6 rfl) ?_
        cases hf
        exact mp_reti X hP hS rfl dX0_probeTill_27

set_option maxHeartbeats 4000000 in
set_option maxRecDepth 100000 in
theorem c_X0_probeTill (l : Launch) (D : va_G) (T : Nat → ClassId) (fu : Nat) (a_ a_probe a_trial a_best a_probe_order a_probe_knows a_probe_made a_probe_sixteenths a_probe_dots a_probe_used a_probe_stands a_p1 a_p1_cellNames a_p1_secretNames a_p1_pageNames a_p1_speed a_p1_letters a_p1_room a_p1_now a_p1_rounds : Nat) (x2 : Int32) (x3 : Int32) (x4 : Int32) (v_bestMany : Int32) (v_p1_cells : Int32) (v_probe_inOrder : Int32) (v_probe_place : Int32) (v_probe_ill : Int32) (v_probe_shut : Int32) (v_probe_turns : Int32) (v_probe_madeInAll : Int32) (v_probe_dots : (Nat → Int32)) (v_probe_knows : (Nat → Int32)) (v_probe_made : (Nat → Int32)) (v_probe_order : (Nat → Int32)) (v_probe_stands : (Nat → Int32)) (v_probe_used : (Nat → Int32)) (v_p1_secrets : Int32) (v_p1_pages : Int32) (v_p1_blind : Int32) (v_p1_rubs : Int32) (v_p1_letters : (Nat → Int32)) (v_p1_room : (Nat → Int32)) (v_p1_speed : (Nat → Int32)) (r_ : Int32) (o_probe_place : Int32) (o_probe_turns : Int32) (o_probe_madeInAll : Int32) (o_probe_dots : (Nat → Int32)) (o_probe_knows : (Nat → Int32)) (o_probe_made : (Nat → Int32)) (o_probe_stands : (Nat → Int32)) (o_probe_used : (Nat → Int32)) (hf : f_X0_probeTill fu x2 x3 x4 v_probe_inOrder v_probe_place v_probe_ill v_probe_shut v_probe_turns v_probe_madeInAll v_probe_dots v_probe_knows v_probe_made v_probe_order v_probe_stands v_probe_used v_p1_secrets v_p1_pages v_p1_blind v_p1_rubs v_p1_letters v_p1_room v_p1_speed = some (r_, o_probe_place, o_probe_turns, o_probe_madeInAll, o_probe_dots, o_probe_knows, o_probe_made, o_probe_stands, o_probe_used)) :
    mp_M l D T yX0_probeTill cX0_probeTill 7 (some .int) ({ frames := 4, cells := 0, slots := 0, locals := 117 }) 0 0 [.ref a_, .ref a_p1, .int x2, .int x3, .int x4] (k_X0_probeTill T a_ a_probe a_trial a_best a_probe_order a_probe_knows a_probe_made a_probe_sixteenths a_probe_dots a_probe_used a_probe_stands a_p1 a_p1_cellNames a_p1_secretNames a_p1_pageNames a_p1_speed a_p1_letters a_p1_room a_p1_now a_p1_rounds v_bestMany v_probe_inOrder v_probe_place v_probe_ill v_probe_shut v_probe_turns v_probe_madeInAll v_probe_dots v_probe_knows v_probe_made v_probe_order v_probe_stands v_probe_used v_p1_cells v_p1_secrets v_p1_pages v_p1_blind v_p1_rubs v_p1_letters v_p1_room v_p1_speed) (mp_Qi D r_ (k_X0_probeTill T a_ a_probe a_trial a_best a_probe_order a_probe_knows a_probe_made a_probe_sixteenths a_probe_dots a_probe_used a_probe_stands a_p1 a_p1_cellNames a_p1_secretNames a_p1_pageNames a_p1_speed a_p1_letters a_p1_room a_p1_now a_p1_rounds v_bestMany v_probe_inOrder o_probe_place v_probe_ill v_probe_shut o_probe_turns o_probe_madeInAll o_probe_dots o_probe_knows o_probe_made v_probe_order o_probe_stands o_probe_used v_p1_cells v_p1_secrets v_p1_pages v_p1_blind v_p1_rubs v_p1_letters v_p1_room v_p1_speed)) := by
  refine mp_of (by decide) (Nat.le_of_ble_eq_true rfl) rfl ?_
  intro p e s m args below meth c A ls X hK hP hD hS hA hl
  replace X : mp_X p s m meth c args RX0 "probeTill" cX0_probeTill 7 (some .int) := X
  have hx := X.1
  have hb := X.2.1
  have hml := X.2.2.1
  have hown := X.2.2.2.2.1
  have hts := X.2.2.2.2.2.1
  replace hl : lv_has ls 7 [(0, .ref a_), (1, .ref a_p1), (2, .int x2), (3, .int x3), (4, .int x4)] := hl
  replace hf : f_X0_probeTill_6 fu v_probe_inOrder v_probe_ill v_probe_shut v_probe_order v_p1_secrets v_p1_pages v_p1_blind v_p1_rubs v_p1_letters v_p1_room v_p1_speed  fu x2 x3 x4 (nI 0) (nI 0) v_probe_place v_probe_turns v_probe_madeInAll v_probe_dots v_probe_knows v_probe_made v_probe_stands v_probe_used = some (r_, o_probe_place, o_probe_turns, o_probe_madeInAll, o_probe_dots, o_probe_knows, o_probe_made, o_probe_stands, o_probe_used) := hf
  refine lv_iconst (v := (nI 0)) hx hb dX0_probeTill_0 (by decide) ?_
  refine lv_istore (lv' := [(5, .int (nI 0)), (0, .ref a_), (1, .ref a_p1), (2, .int x2), (3, .int x3), (4, .int x4)]) hx hb dX0_probeTill_1 hl (by decide) rfl (fun ls hl => ?_)
  refine lv_iconst (v := (nI 0)) hx hb dX0_probeTill_3 (by decide) ?_
  refine lv_istore (lv' := [(6, .int (nI 0)), (5, .int (nI 0)), (0, .ref a_), (1, .ref a_p1), (2, .int x2), (3, .int x3), (4, .int x4)]) hx hb dX0_probeTill_4 hl (by decide) rfl (fun ls hl => ?_)
  exact w_X0_probeTill_6 X hK hA  fu a_ a_probe a_trial a_best a_probe_order a_probe_knows a_probe_made a_probe_sixteenths a_probe_dots a_probe_used a_probe_stands a_p1 a_p1_cellNames a_p1_secretNames a_p1_pageNames a_p1_speed a_p1_letters a_p1_room a_p1_now a_p1_rounds v_bestMany v_p1_cells v_probe_inOrder v_probe_ill v_probe_shut v_probe_order v_p1_secrets v_p1_pages v_p1_blind v_p1_rubs v_p1_letters v_p1_room v_p1_speed r_ o_probe_place o_probe_turns o_probe_madeInAll o_probe_dots o_probe_knows o_probe_made o_probe_stands o_probe_used   fu x2 x3 x4 (nI 0) (nI 0) v_probe_place v_probe_turns v_probe_madeInAll v_probe_dots v_probe_knows v_probe_made v_probe_stands v_probe_used hf _ _ _ hP (mp_D_of hD rfl) hS (lv_sub hl [2, 3, 4, 5, 6, 1, 0] rfl)


def k_X0_turnsTill (T : Nat → ClassId) (a_ a_probe a_trial a_best a_probe_order a_probe_knows a_probe_made a_probe_sixteenths a_probe_dots a_probe_used a_probe_stands a_p1 a_p1_cellNames a_p1_secretNames a_p1_pageNames a_p1_speed a_p1_letters a_p1_room a_p1_now a_p1_rounds a_p1_now_order a_p1_now_knows a_p1_now_made a_p1_now_sixteenths a_p1_now_dots a_p1_now_used a_p1_now_stands : Nat) (v_bestMany : Int32) (v_probe_inOrder : Int32) (v_probe_place : Int32) (v_probe_ill : Int32) (v_probe_shut : Int32) (v_probe_turns : Int32) (v_probe_madeInAll : Int32) (v_probe_dots : (Nat → Int32)) (v_probe_knows : (Nat → Int32)) (v_probe_made : (Nat → Int32)) (v_probe_order : (Nat → Int32)) (v_probe_sixteenths : (Nat → Int32)) (v_probe_stands : (Nat → Int32)) (v_probe_used : (Nat → Int32)) (v_p1_cells : Int32) (v_p1_secrets : Int32) (v_p1_pages : Int32) (v_p1_blind : Int32) (v_p1_rubs : Int32) (v_p1_letters : (Nat → Int32)) (v_p1_now_inOrder : Int32) (v_p1_now_place : Int32) (v_p1_now_ill : Int32) (v_p1_now_shut : Int32) (v_p1_now_turns : Int32) (v_p1_now_madeInAll : Int32) (v_p1_now_dots : (Nat → Int32)) (v_p1_now_knows : (Nat → Int32)) (v_p1_now_made : (Nat → Int32)) (v_p1_now_order : (Nat → Int32)) (v_p1_now_sixteenths : (Nat → Int32)) (v_p1_now_stands : (Nat → Int32)) (v_p1_now_used : (Nat → Int32)) (v_p1_room : (Nat → Int32)) (v_p1_speed : (Nat → Int32)) : va_W := [(a_, oX0 a_probe a_trial a_best v_bestMany), (a_probe, oX7 a_probe_order v_probe_inOrder v_probe_place a_probe_knows a_probe_made a_probe_sixteenths a_probe_dots a_probe_used a_probe_stands v_probe_ill v_probe_shut v_probe_turns v_probe_madeInAll), (a_probe_dots, mp_aI T 36 v_probe_dots), (a_probe_knows, mp_aI T 8 v_probe_knows), (a_probe_made, mp_aI T 8 v_probe_made), (a_probe_order, mp_aI T 8 v_probe_order), (a_probe_sixteenths, mp_aI T 6 v_probe_sixteenths), (a_probe_stands, mp_aI T 6 v_probe_stands), (a_probe_used, mp_aI T 6 v_probe_used), (a_p1, oX1 v_p1_cells v_p1_secrets v_p1_pages a_p1_cellNames a_p1_secretNames a_p1_pageNames a_p1_speed v_p1_blind v_p1_rubs a_p1_letters a_p1_room a_p1_now a_p1_rounds), (a_p1_letters, mp_aI T 6 v_p1_letters), (a_p1_now, oX7 a_p1_now_order v_p1_now_inOrder v_p1_now_place a_p1_now_knows a_p1_now_made a_p1_now_sixteenths a_p1_now_dots a_p1_now_used a_p1_now_stands v_p1_now_ill v_p1_now_shut v_p1_now_turns v_p1_now_madeInAll), (a_p1_now_dots, mp_aI T 36 v_p1_now_dots), (a_p1_now_knows, mp_aI T 8 v_p1_now_knows), (a_p1_now_made, mp_aI T 8 v_p1_now_made), (a_p1_now_order, mp_aI T 8 v_p1_now_order), (a_p1_now_sixteenths, mp_aI T 6 v_p1_now_sixteenths), (a_p1_now_stands, mp_aI T 6 v_p1_now_stands), (a_p1_now_used, mp_aI T 6 v_p1_now_used), (a_p1_room, mp_aI T 6 v_p1_room), (a_p1_speed, mp_aI T 8 v_p1_speed)]
set_option maxHeartbeats 4000000 in
set_option maxRecDepth 100000 in
theorem c_X0_turnsTill (l : Launch) (D : va_G) (T : Nat → ClassId) (fu : Nat) (a_ a_probe a_trial a_best a_probe_order a_probe_knows a_probe_made a_probe_sixteenths a_probe_dots a_probe_used a_probe_stands a_p1 a_p1_cellNames a_p1_secretNames a_p1_pageNames a_p1_speed a_p1_letters a_p1_room a_p1_now a_p1_rounds a_p1_now_order a_p1_now_knows a_p1_now_made a_p1_now_sixteenths a_p1_now_dots a_p1_now_used a_p1_now_stands : Nat) (x2 : Int32) (x3 : Int32) (v_bestMany : Int32) (v_p1_cells : Int32) (v_probe_inOrder : Int32) (v_probe_place : Int32) (v_probe_ill : Int32) (v_probe_shut : Int32) (v_probe_turns : Int32) (v_probe_madeInAll : Int32) (v_probe_dots : (Nat → Int32)) (v_probe_knows : (Nat → Int32)) (v_probe_made : (Nat → Int32)) (v_probe_order : (Nat → Int32)) (v_probe_sixteenths : (Nat → Int32)) (v_probe_stands : (Nat → Int32)) (v_probe_used : (Nat → Int32)) (v_p1_secrets : Int32) (v_p1_pages : Int32) (v_p1_blind : Int32) (v_p1_rubs : Int32) (v_p1_letters : (Nat → Int32)) (v_p1_now_inOrder : Int32) (v_p1_now_place : Int32) (v_p1_now_ill : Int32) (v_p1_now_shut : Int32) (v_p1_now_turns : Int32) (v_p1_now_madeInAll : Int32) (v_p1_now_dots : (Nat → Int32)) (v_p1_now_knows : (Nat → Int32)) (v_p1_now_made : (Nat → Int32)) (v_p1_now_order : (Nat → Int32)) (v_p1_now_sixteenths : (Nat → Int32)) (v_p1_now_stands : (Nat → Int32)) (v_p1_now_used : (Nat → Int32)) (v_p1_room : (Nat → Int32)) (v_p1_speed : (Nat → Int32)) (r_ : Int32) (o_probe_inOrder : Int32) (o_probe_place : Int32) (o_probe_ill : Int32) (o_probe_shut : Int32) (o_probe_turns : Int32) (o_probe_madeInAll : Int32) (o_probe_dots : (Nat → Int32)) (o_probe_knows : (Nat → Int32)) (o_probe_made : (Nat → Int32)) (o_probe_order : (Nat → Int32)) (o_probe_sixteenths : (Nat → Int32)) (o_probe_stands : (Nat → Int32)) (o_probe_used : (Nat → Int32)) (hf : f_X0_turnsTill fu x2 x3 v_probe_inOrder v_probe_place v_probe_ill v_probe_shut v_probe_turns v_probe_madeInAll v_probe_dots v_probe_knows v_probe_made v_probe_order v_probe_sixteenths v_probe_stands v_probe_used v_p1_secrets v_p1_pages v_p1_blind v_p1_rubs v_p1_letters v_p1_now_inOrder v_p1_now_place v_p1_now_ill v_p1_now_shut v_p1_now_turns v_p1_now_madeInAll v_p1_now_dots v_p1_now_knows v_p1_now_made v_p1_now_order v_p1_now_sixteenths v_p1_now_stands v_p1_now_used v_p1_room v_p1_speed = some (r_, o_probe_inOrder, o_probe_place, o_probe_ill, o_probe_shut, o_probe_turns, o_probe_madeInAll, o_probe_dots, o_probe_knows, o_probe_made, o_probe_order, o_probe_sixteenths, o_probe_stands, o_probe_used)) :
    mp_M l D T yX0_turnsTill cX0_turnsTill 4 (some .int) ({ frames := 5, cells := 0, slots := 0, locals := 143 }) 0 0 [.ref a_, .ref a_p1, .int x2, .int x3] (k_X0_turnsTill T a_ a_probe a_trial a_best a_probe_order a_probe_knows a_probe_made a_probe_sixteenths a_probe_dots a_probe_used a_probe_stands a_p1 a_p1_cellNames a_p1_secretNames a_p1_pageNames a_p1_speed a_p1_letters a_p1_room a_p1_now a_p1_rounds a_p1_now_order a_p1_now_knows a_p1_now_made a_p1_now_sixteenths a_p1_now_dots a_p1_now_used a_p1_now_stands v_bestMany v_probe_inOrder v_probe_place v_probe_ill v_probe_shut v_probe_turns v_probe_madeInAll v_probe_dots v_probe_knows v_probe_made v_probe_order v_probe_sixteenths v_probe_stands v_probe_used v_p1_cells v_p1_secrets v_p1_pages v_p1_blind v_p1_rubs v_p1_letters v_p1_now_inOrder v_p1_now_place v_p1_now_ill v_p1_now_shut v_p1_now_turns v_p1_now_madeInAll v_p1_now_dots v_p1_now_knows v_p1_now_made v_p1_now_order v_p1_now_sixteenths v_p1_now_stands v_p1_now_used v_p1_room v_p1_speed) (mp_Qi D r_ (k_X0_turnsTill T a_ a_probe a_trial a_best a_probe_order a_probe_knows a_probe_made a_probe_sixteenths a_probe_dots a_probe_used a_probe_stands a_p1 a_p1_cellNames a_p1_secretNames a_p1_pageNames a_p1_speed a_p1_letters a_p1_room a_p1_now a_p1_rounds a_p1_now_order a_p1_now_knows a_p1_now_made a_p1_now_sixteenths a_p1_now_dots a_p1_now_used a_p1_now_stands v_bestMany o_probe_inOrder o_probe_place o_probe_ill o_probe_shut o_probe_turns o_probe_madeInAll o_probe_dots o_probe_knows o_probe_made o_probe_order o_probe_sixteenths o_probe_stands o_probe_used v_p1_cells v_p1_secrets v_p1_pages v_p1_blind v_p1_rubs v_p1_letters v_p1_now_inOrder v_p1_now_place v_p1_now_ill v_p1_now_shut v_p1_now_turns v_p1_now_madeInAll v_p1_now_dots v_p1_now_knows v_p1_now_made v_p1_now_order v_p1_now_sixteenths v_p1_now_stands v_p1_now_used v_p1_room v_p1_speed)) := by
  refine mp_of (by decide) (Nat.le_of_ble_eq_true rfl) rfl ?_
  intro p e s m args below meth c A ls X hK hP hD hS hA hl
  replace X : mp_X p s m meth c args RX0 "turnsTill" cX0_turnsTill 4 (some .int) := X
  have hx := X.1
  have hb := X.2.1
  have hml := X.2.2.1
  have hown := X.2.2.2.2.1
  have hts := X.2.2.2.2.2.1
  replace hl : lv_has ls 4 [(0, .ref a_), (1, .ref a_p1), (2, .int x2), (3, .int x3)] := hl
  replace hf : bd_ (f_X7_copyFrom v_probe_inOrder v_probe_place v_probe_ill v_probe_shut v_probe_turns v_probe_madeInAll v_probe_dots v_probe_knows v_probe_made v_probe_order v_probe_sixteenths v_probe_stands v_probe_used v_p1_now_inOrder v_p1_now_place v_p1_now_ill v_p1_now_shut v_p1_now_turns v_p1_now_madeInAll v_p1_now_dots v_p1_now_knows v_p1_now_made v_p1_now_order v_p1_now_sixteenths v_p1_now_stands v_p1_now_used) (fun (z : Int32 × Int32 × Int32 × Int32 × Int32 × Int32 × (Nat → Int32) × (Nat → Int32) × (Nat → Int32) × (Nat → Int32) × (Nat → Int32) × (Nat → Int32) × (Nat → Int32)) => match z with | (u1, u2, u3, u4, u5, u6, u7, u8, u9, u10, u11, u12, u13) => bd_ (f_X0_probeTill fu x2 x3 (nI 999) u1 u2 u3 u4 u5 u6 u7 u8 u9 u10 u12 u13 v_p1_secrets v_p1_pages v_p1_blind v_p1_rubs v_p1_letters v_p1_room v_p1_speed) (fun (z : Int32 × Int32 × Int32 × Int32 × (Nat → Int32) × (Nat → Int32) × (Nat → Int32) × (Nat → Int32) × (Nat → Int32)) => match z with | (r15, u16, u17, u18, u19, u20, u21, u22, u23) => some (r15, u1, u16, u3, u4, u17, u18, u19, u20, u21, u10, u11, u22, u23))) = some (r_, o_probe_inOrder, o_probe_place, o_probe_ill, o_probe_shut, o_probe_turns, o_probe_madeInAll, o_probe_dots, o_probe_knows, o_probe_made, o_probe_order, o_probe_sixteenths, o_probe_stands, o_probe_used) := hf
  refine lv_aload_n hx hb dX0_turnsTill_0 rfl (lv_at hl 0 rfl) ?_
  refine mp_get X fl_X0_12 hK hP 0 rfl rfl dX0_turnsTill_1 ?_
  refine lv_aload_n hx hb dX0_turnsTill_4 rfl (lv_at hl 1 rfl) ?_
  refine mp_get X fl_X0_29 hK hP 9 rfl rfl dX0_turnsTill_5 ?_
  obtain ⟨⟨u1, u2, u3, u4, u5, u6, u7, u8, u9, u10, u11, u12, u13⟩, c14, hf⟩ := bd_of hf
  dsimp only at hf
  have hPc := hP.sub (ws' := (k_X7_copyFrom T a_probe a_probe_order a_probe_knows a_probe_made a_probe_sixteenths a_probe_dots a_probe_used a_probe_stands a_p1_now a_p1_now_order a_p1_now_knows a_p1_now_made a_p1_now_sixteenths a_p1_now_dots a_p1_now_used a_p1_now_stands v_probe_inOrder v_probe_place v_probe_ill v_probe_shut v_probe_turns v_probe_madeInAll v_probe_dots v_probe_knows v_probe_made v_probe_order v_probe_sixteenths v_probe_stands v_probe_used v_p1_now_inOrder v_p1_now_place v_p1_now_ill v_p1_now_shut v_p1_now_turns v_p1_now_madeInAll v_p1_now_dots v_p1_now_knows v_p1_now_made v_p1_now_order v_p1_now_sixteenths v_p1_now_stands v_p1_now_used)) [1, 2, 3, 4, 5, 6, 7, 8, 11, 12, 13, 14, 15, 16, 17, 18] rfl
  have hDc := (mp_D_of (w1 := (k_X0_turnsTill T a_ a_probe a_trial a_best a_probe_order a_probe_knows a_probe_made a_probe_sixteenths a_probe_dots a_probe_used a_probe_stands a_p1 a_p1_cellNames a_p1_secretNames a_p1_pageNames a_p1_speed a_p1_letters a_p1_room a_p1_now a_p1_rounds a_p1_now_order a_p1_now_knows a_p1_now_made a_p1_now_sixteenths a_p1_now_dots a_p1_now_used a_p1_now_stands v_bestMany v_probe_inOrder v_probe_place v_probe_ill v_probe_shut v_probe_turns v_probe_madeInAll v_probe_dots v_probe_knows v_probe_made v_probe_order v_probe_sixteenths v_probe_stands v_probe_used v_p1_cells v_p1_secrets v_p1_pages v_p1_blind v_p1_rubs v_p1_letters v_p1_now_inOrder v_p1_now_place v_p1_now_ill v_p1_now_shut v_p1_now_turns v_p1_now_madeInAll v_p1_now_dots v_p1_now_knows v_p1_now_made v_p1_now_order v_p1_now_sixteenths v_p1_now_stands v_p1_now_used v_p1_room v_p1_speed)) hD rfl).sub (ws' := (k_X7_copyFrom T a_probe a_probe_order a_probe_knows a_probe_made a_probe_sixteenths a_probe_dots a_probe_used a_probe_stands a_p1_now a_p1_now_order a_p1_now_knows a_p1_now_made a_p1_now_sixteenths a_p1_now_dots a_p1_now_used a_p1_now_stands v_probe_inOrder v_probe_place v_probe_ill v_probe_shut v_probe_turns v_probe_madeInAll v_probe_dots v_probe_knows v_probe_made v_probe_order v_probe_sixteenths v_probe_stands v_probe_used v_p1_now_inOrder v_p1_now_place v_p1_now_ill v_p1_now_shut v_p1_now_turns v_p1_now_madeInAll v_p1_now_dots v_p1_now_knows v_p1_now_made v_p1_now_order v_p1_now_sixteenths v_p1_now_stands v_p1_now_used)) [1, 2, 3, 4, 5, 6, 7, 8, 11, 12, 13, 14, 15, 16, 17, 18] rfl rfl
  refine mp_callv2 (isC := [1, 2, 3, 4, 5, 6, 7, 8, 11, 12, 13, 14, 15, 16, 17, 18]) (isO := [0, 9, 10, 19, 20]) (wc := (k_X7_copyFrom T a_probe a_probe_order a_probe_knows a_probe_made a_probe_sixteenths a_probe_dots a_probe_used a_probe_stands a_p1_now a_p1_now_order a_p1_now_knows a_p1_now_made a_p1_now_sixteenths a_p1_now_dots a_p1_now_used a_p1_now_stands v_probe_inOrder v_probe_place v_probe_ill v_probe_shut v_probe_turns v_probe_madeInAll v_probe_dots v_probe_knows v_probe_made v_probe_order v_probe_sixteenths v_probe_stands v_probe_used v_p1_now_inOrder v_p1_now_place v_p1_now_ill v_p1_now_shut v_p1_now_turns v_p1_now_madeInAll v_p1_now_dots v_p1_now_knows v_p1_now_made v_p1_now_order v_p1_now_sixteenths v_p1_now_stands v_p1_now_used)) (w1 := (k_X7_copyFrom T a_probe a_probe_order a_probe_knows a_probe_made a_probe_sixteenths a_probe_dots a_probe_used a_probe_stands a_p1_now a_p1_now_order a_p1_now_knows a_p1_now_made a_p1_now_sixteenths a_p1_now_dots a_p1_now_used a_p1_now_stands u1 u2 u3 u4 u5 u6 u7 u8 u9 u10 u11 u12 u13 v_p1_now_inOrder v_p1_now_place v_p1_now_ill v_p1_now_shut v_p1_now_turns v_p1_now_madeInAll v_p1_now_dots v_p1_now_knows v_p1_now_made v_p1_now_order v_p1_now_sixteenths v_p1_now_stands v_p1_now_used)) (wo := [(a_, oX0 a_probe a_trial a_best v_bestMany), (a_p1, oX1 v_p1_cells v_p1_secrets v_p1_pages a_p1_cellNames a_p1_secretNames a_p1_pageNames a_p1_speed v_p1_blind v_p1_rubs a_p1_letters a_p1_room a_p1_now a_p1_rounds), (a_p1_letters, mp_aI T 6 v_p1_letters), (a_p1_room, mp_aI T 6 v_p1_room), (a_p1_speed, mp_aI T 8 v_p1_speed)]) (w2 := (k_X0_turnsTill T a_ a_probe a_trial a_best a_probe_order a_probe_knows a_probe_made a_probe_sixteenths a_probe_dots a_probe_used a_probe_stands a_p1 a_p1_cellNames a_p1_secretNames a_p1_pageNames a_p1_speed a_p1_letters a_p1_room a_p1_now a_p1_rounds a_p1_now_order a_p1_now_knows a_p1_now_made a_p1_now_sixteenths a_p1_now_dots a_p1_now_used a_p1_now_stands v_bestMany u1 u2 u3 u4 u5 u6 u7 u8 u9 u10 u11 u12 u13 v_p1_cells v_p1_secrets v_p1_pages v_p1_blind v_p1_rubs v_p1_letters v_p1_now_inOrder v_p1_now_place v_p1_now_ill v_p1_now_shut v_p1_now_turns v_p1_now_madeInAll v_p1_now_dots v_p1_now_knows v_p1_now_made v_p1_now_order v_p1_now_sixteenths v_p1_now_stands v_p1_now_used v_p1_room v_p1_speed)) (n := 21) hP (mp_D_of hD rfl) hS hA rfl rfl rfl rfl rfl rfl (by decide +kernel) (mp_runV (As := [.ref a_p1_now]) (rest := []) X me_X7_copyFrom lk_X0_34 (c_X7_copyFrom l D T a_probe a_probe_order a_probe_knows a_probe_made a_probe_sixteenths a_probe_dots a_probe_used a_probe_stands a_p1_now a_p1_now_order a_p1_now_knows a_p1_now_made a_p1_now_sixteenths a_p1_now_dots a_p1_now_used a_p1_now_stands v_probe_inOrder v_probe_place v_probe_ill v_probe_shut v_probe_turns v_probe_madeInAll v_probe_dots v_probe_knows v_probe_made v_probe_order v_probe_sixteenths v_probe_stands v_probe_used v_p1_now_inOrder v_p1_now_place v_p1_now_ill v_p1_now_shut v_p1_now_turns v_p1_now_madeInAll v_p1_now_dots v_p1_now_knows v_p1_now_made v_p1_now_order v_p1_now_sixteenths v_p1_now_stands v_p1_now_used u1 u2 u3 u4 u5 u6 u7 u8 u9 u10 u11 u12 u13 c14) rfl rfl ⟨(Nat.le_of_ble_eq_true rfl), (Nat.le_of_ble_eq_true rfl)⟩ hK hPc hDc rfl rfl rfl rfl hl.1 rfl (Nat.le_of_ble_eq_true rfl) dX0_turnsTill_8 ⟨Nat.zero_le _, Nat.zero_le _⟩) (fun H locs hP _ hS => ?_)
  refine lv_aload_n hx hb dX0_turnsTill_11 rfl (lv_at hl 0 rfl) ?_
  refine lv_aload_n hx hb dX0_turnsTill_12 rfl (lv_at hl 1 rfl) ?_
  refine lv_iload_n hx hb dX0_turnsTill_13 rfl (lv_at hl 2 rfl) ?_
  refine lv_iload_n hx hb dX0_turnsTill_14 rfl (lv_at hl 3 rfl) ?_
  refine lv_sipush (v := (nI 999)) hx hb dX0_turnsTill_15 (by decide) ?_
  obtain ⟨⟨r15, u16, u17, u18, u19, u20, u21, u22, u23⟩, c24, hf⟩ := bd_of hf
  dsimp only at hf
  have hPc := hP.sub (ws' := (k_X0_probeTill T a_ a_probe a_trial a_best a_probe_order a_probe_knows a_probe_made a_probe_sixteenths a_probe_dots a_probe_used a_probe_stands a_p1 a_p1_cellNames a_p1_secretNames a_p1_pageNames a_p1_speed a_p1_letters a_p1_room a_p1_now a_p1_rounds v_bestMany u1 u2 u3 u4 u5 u6 u7 u8 u9 u10 u12 u13 v_p1_cells v_p1_secrets v_p1_pages v_p1_blind v_p1_rubs v_p1_letters v_p1_room v_p1_speed)) [0, 1, 2, 3, 4, 5, 7, 8, 9, 10, 19, 20] rfl
  have hDc := (mp_D_of (w1 := (k_X0_turnsTill T a_ a_probe a_trial a_best a_probe_order a_probe_knows a_probe_made a_probe_sixteenths a_probe_dots a_probe_used a_probe_stands a_p1 a_p1_cellNames a_p1_secretNames a_p1_pageNames a_p1_speed a_p1_letters a_p1_room a_p1_now a_p1_rounds a_p1_now_order a_p1_now_knows a_p1_now_made a_p1_now_sixteenths a_p1_now_dots a_p1_now_used a_p1_now_stands v_bestMany u1 u2 u3 u4 u5 u6 u7 u8 u9 u10 u11 u12 u13 v_p1_cells v_p1_secrets v_p1_pages v_p1_blind v_p1_rubs v_p1_letters v_p1_now_inOrder v_p1_now_place v_p1_now_ill v_p1_now_shut v_p1_now_turns v_p1_now_madeInAll v_p1_now_dots v_p1_now_knows v_p1_now_made v_p1_now_order v_p1_now_sixteenths v_p1_now_stands v_p1_now_used v_p1_room v_p1_speed)) hD rfl).sub (ws' := (k_X0_probeTill T a_ a_probe a_trial a_best a_probe_order a_probe_knows a_probe_made a_probe_sixteenths a_probe_dots a_probe_used a_probe_stands a_p1 a_p1_cellNames a_p1_secretNames a_p1_pageNames a_p1_speed a_p1_letters a_p1_room a_p1_now a_p1_rounds v_bestMany u1 u2 u3 u4 u5 u6 u7 u8 u9 u10 u12 u13 v_p1_cells v_p1_secrets v_p1_pages v_p1_blind v_p1_rubs v_p1_letters v_p1_room v_p1_speed)) [0, 1, 2, 3, 4, 5, 7, 8, 9, 10, 19, 20] rfl rfl
  refine mp_calli2 (isC := [0, 1, 2, 3, 4, 5, 7, 8, 9, 10, 19, 20]) (isO := [6, 11, 12, 13, 14, 15, 16, 17, 18]) (wc := (k_X0_probeTill T a_ a_probe a_trial a_best a_probe_order a_probe_knows a_probe_made a_probe_sixteenths a_probe_dots a_probe_used a_probe_stands a_p1 a_p1_cellNames a_p1_secretNames a_p1_pageNames a_p1_speed a_p1_letters a_p1_room a_p1_now a_p1_rounds v_bestMany u1 u2 u3 u4 u5 u6 u7 u8 u9 u10 u12 u13 v_p1_cells v_p1_secrets v_p1_pages v_p1_blind v_p1_rubs v_p1_letters v_p1_room v_p1_speed)) (w1 := (k_X0_probeTill T a_ a_probe a_trial a_best a_probe_order a_probe_knows a_probe_made a_probe_sixteenths a_probe_dots a_probe_used a_probe_stands a_p1 a_p1_cellNames a_p1_secretNames a_p1_pageNames a_p1_speed a_p1_letters a_p1_room a_p1_now a_p1_rounds v_bestMany u1 u16 u3 u4 u17 u18 u19 u20 u21 u10 u22 u23 v_p1_cells v_p1_secrets v_p1_pages v_p1_blind v_p1_rubs v_p1_letters v_p1_room v_p1_speed)) (wo := [(a_probe_sixteenths, mp_aI T 6 u11), (a_p1_now, oX7 a_p1_now_order v_p1_now_inOrder v_p1_now_place a_p1_now_knows a_p1_now_made a_p1_now_sixteenths a_p1_now_dots a_p1_now_used a_p1_now_stands v_p1_now_ill v_p1_now_shut v_p1_now_turns v_p1_now_madeInAll), (a_p1_now_dots, mp_aI T 36 v_p1_now_dots), (a_p1_now_knows, mp_aI T 8 v_p1_now_knows), (a_p1_now_made, mp_aI T 8 v_p1_now_made), (a_p1_now_order, mp_aI T 8 v_p1_now_order), (a_p1_now_sixteenths, mp_aI T 6 v_p1_now_sixteenths), (a_p1_now_stands, mp_aI T 6 v_p1_now_stands), (a_p1_now_used, mp_aI T 6 v_p1_now_used)]) (w2 := (k_X0_turnsTill T a_ a_probe a_trial a_best a_probe_order a_probe_knows a_probe_made a_probe_sixteenths a_probe_dots a_probe_used a_probe_stands a_p1 a_p1_cellNames a_p1_secretNames a_p1_pageNames a_p1_speed a_p1_letters a_p1_room a_p1_now a_p1_rounds a_p1_now_order a_p1_now_knows a_p1_now_made a_p1_now_sixteenths a_p1_now_dots a_p1_now_used a_p1_now_stands v_bestMany u1 u16 u3 u4 u17 u18 u19 u20 u21 u10 u11 u22 u23 v_p1_cells v_p1_secrets v_p1_pages v_p1_blind v_p1_rubs v_p1_letters v_p1_now_inOrder v_p1_now_place v_p1_now_ill v_p1_now_shut v_p1_now_turns v_p1_now_madeInAll v_p1_now_dots v_p1_now_knows v_p1_now_made v_p1_now_order v_p1_now_sixteenths v_p1_now_stands v_p1_now_used v_p1_room v_p1_speed)) (n := 21) hP (mp_D_of hD rfl) hS hA rfl rfl rfl rfl rfl rfl (by decide +kernel) (mp_runV (As := [.ref a_p1, .int x2, .int x3, .int (nI 999)]) (rest := []) X me_X0_probeTill lk_X0_38 (c_X0_probeTill l D T fu a_ a_probe a_trial a_best a_probe_order a_probe_knows a_probe_made a_probe_sixteenths a_probe_dots a_probe_used a_probe_stands a_p1 a_p1_cellNames a_p1_secretNames a_p1_pageNames a_p1_speed a_p1_letters a_p1_room a_p1_now a_p1_rounds x2 x3 (nI 999) v_bestMany v_p1_cells u1 u2 u3 u4 u5 u6 u7 u8 u9 u10 u12 u13 v_p1_secrets v_p1_pages v_p1_blind v_p1_rubs v_p1_letters v_p1_room v_p1_speed r15 u16 u17 u18 u19 u20 u21 u22 u23 c24) rfl rfl ⟨(Nat.le_of_ble_eq_true rfl), (Nat.le_of_ble_eq_true rfl)⟩ hK hPc hDc rfl rfl rfl rfl hl.1 rfl (Nat.le_of_ble_eq_true rfl) dX0_turnsTill_18 ⟨Nat.zero_le _, Nat.zero_le _⟩) (fun H locs hP _ hS => ?_)
  cases hf
  exact mp_reti X hP hS rfl dX0_turnsTill_21


def k_X0_behind (T : Nat → ClassId) (a_ a_probe a_trial a_best a_probe_order a_probe_knows a_probe_made a_probe_sixteenths a_probe_dots a_probe_used a_probe_stands a_p1 a_p1_cellNames a_p1_secretNames a_p1_pageNames a_p1_speed a_p1_letters a_p1_room a_p1_now a_p1_rounds a_p1_now_order a_p1_now_knows a_p1_now_made a_p1_now_sixteenths a_p1_now_dots a_p1_now_used a_p1_now_stands : Nat) (v_bestMany : Int32) (v_probe_inOrder : Int32) (v_probe_place : Int32) (v_probe_ill : Int32) (v_probe_shut : Int32) (v_probe_turns : Int32) (v_probe_madeInAll : Int32) (v_probe_dots : (Nat → Int32)) (v_probe_knows : (Nat → Int32)) (v_probe_made : (Nat → Int32)) (v_probe_order : (Nat → Int32)) (v_probe_sixteenths : (Nat → Int32)) (v_probe_stands : (Nat → Int32)) (v_probe_used : (Nat → Int32)) (v_p1_cells : Int32) (v_p1_secrets : Int32) (v_p1_pages : Int32) (v_p1_blind : Int32) (v_p1_rubs : Int32) (v_p1_letters : (Nat → Int32)) (v_p1_now_inOrder : Int32) (v_p1_now_place : Int32) (v_p1_now_ill : Int32) (v_p1_now_shut : Int32) (v_p1_now_turns : Int32) (v_p1_now_madeInAll : Int32) (v_p1_now_dots : (Nat → Int32)) (v_p1_now_knows : (Nat → Int32)) (v_p1_now_made : (Nat → Int32)) (v_p1_now_order : (Nat → Int32)) (v_p1_now_sixteenths : (Nat → Int32)) (v_p1_now_stands : (Nat → Int32)) (v_p1_now_used : (Nat → Int32)) (v_p1_room : (Nat → Int32)) (v_p1_speed : (Nat → Int32)) : va_W := [(a_, oX0 a_probe a_trial a_best v_bestMany), (a_probe, oX7 a_probe_order v_probe_inOrder v_probe_place a_probe_knows a_probe_made a_probe_sixteenths a_probe_dots a_probe_used a_probe_stands v_probe_ill v_probe_shut v_probe_turns v_probe_madeInAll), (a_probe_dots, mp_aI T 36 v_probe_dots), (a_probe_knows, mp_aI T 8 v_probe_knows), (a_probe_made, mp_aI T 8 v_probe_made), (a_probe_order, mp_aI T 8 v_probe_order), (a_probe_sixteenths, mp_aI T 6 v_probe_sixteenths), (a_probe_stands, mp_aI T 6 v_probe_stands), (a_probe_used, mp_aI T 6 v_probe_used), (a_p1, oX1 v_p1_cells v_p1_secrets v_p1_pages a_p1_cellNames a_p1_secretNames a_p1_pageNames a_p1_speed v_p1_blind v_p1_rubs a_p1_letters a_p1_room a_p1_now a_p1_rounds), (a_p1_letters, mp_aI T 6 v_p1_letters), (a_p1_now, oX7 a_p1_now_order v_p1_now_inOrder v_p1_now_place a_p1_now_knows a_p1_now_made a_p1_now_sixteenths a_p1_now_dots a_p1_now_used a_p1_now_stands v_p1_now_ill v_p1_now_shut v_p1_now_turns v_p1_now_madeInAll), (a_p1_now_dots, mp_aI T 36 v_p1_now_dots), (a_p1_now_knows, mp_aI T 8 v_p1_now_knows), (a_p1_now_made, mp_aI T 8 v_p1_now_made), (a_p1_now_order, mp_aI T 8 v_p1_now_order), (a_p1_now_sixteenths, mp_aI T 6 v_p1_now_sixteenths), (a_p1_now_stands, mp_aI T 6 v_p1_now_stands), (a_p1_now_used, mp_aI T 6 v_p1_now_used), (a_p1_room, mp_aI T 6 v_p1_room), (a_p1_speed, mp_aI T 8 v_p1_speed)]
set_option maxHeartbeats 4000000 in
set_option maxRecDepth 100000 in
theorem c_X0_behind (l : Launch) (D : va_G) (T : Nat → ClassId) (fu : Nat) (a_ a_probe a_trial a_best a_probe_order a_probe_knows a_probe_made a_probe_sixteenths a_probe_dots a_probe_used a_probe_stands a_p1 a_p1_cellNames a_p1_secretNames a_p1_pageNames a_p1_speed a_p1_letters a_p1_room a_p1_now a_p1_rounds a_p1_now_order a_p1_now_knows a_p1_now_made a_p1_now_sixteenths a_p1_now_dots a_p1_now_used a_p1_now_stands : Nat) (x2 : Int32) (v_bestMany : Int32) (v_p1_cells : Int32) (v_probe_inOrder : Int32) (v_probe_place : Int32) (v_probe_ill : Int32) (v_probe_shut : Int32) (v_probe_turns : Int32) (v_probe_madeInAll : Int32) (v_probe_dots : (Nat → Int32)) (v_probe_knows : (Nat → Int32)) (v_probe_made : (Nat → Int32)) (v_probe_order : (Nat → Int32)) (v_probe_sixteenths : (Nat → Int32)) (v_probe_stands : (Nat → Int32)) (v_probe_used : (Nat → Int32)) (v_p1_secrets : Int32) (v_p1_pages : Int32) (v_p1_blind : Int32) (v_p1_rubs : Int32) (v_p1_letters : (Nat → Int32)) (v_p1_now_inOrder : Int32) (v_p1_now_place : Int32) (v_p1_now_ill : Int32) (v_p1_now_shut : Int32) (v_p1_now_turns : Int32) (v_p1_now_madeInAll : Int32) (v_p1_now_dots : (Nat → Int32)) (v_p1_now_knows : (Nat → Int32)) (v_p1_now_made : (Nat → Int32)) (v_p1_now_order : (Nat → Int32)) (v_p1_now_sixteenths : (Nat → Int32)) (v_p1_now_stands : (Nat → Int32)) (v_p1_now_used : (Nat → Int32)) (v_p1_room : (Nat → Int32)) (v_p1_speed : (Nat → Int32)) (o_probe_inOrder : Int32) (o_probe_place : Int32) (o_probe_ill : Int32) (o_probe_shut : Int32) (o_probe_turns : Int32) (o_probe_madeInAll : Int32) (o_probe_dots : (Nat → Int32)) (o_probe_knows : (Nat → Int32)) (o_probe_made : (Nat → Int32)) (o_probe_order : (Nat → Int32)) (o_probe_sixteenths : (Nat → Int32)) (o_probe_stands : (Nat → Int32)) (o_probe_used : (Nat → Int32)) (hf : f_X0_behind fu x2 v_probe_inOrder v_probe_place v_probe_ill v_probe_shut v_probe_turns v_probe_madeInAll v_probe_dots v_probe_knows v_probe_made v_probe_order v_probe_sixteenths v_probe_stands v_probe_used v_p1_secrets v_p1_pages v_p1_blind v_p1_rubs v_p1_letters v_p1_now_inOrder v_p1_now_place v_p1_now_ill v_p1_now_shut v_p1_now_turns v_p1_now_madeInAll v_p1_now_dots v_p1_now_knows v_p1_now_made v_p1_now_order v_p1_now_sixteenths v_p1_now_stands v_p1_now_used v_p1_room v_p1_speed = some (o_probe_inOrder, o_probe_place, o_probe_ill, o_probe_shut, o_probe_turns, o_probe_madeInAll, o_probe_dots, o_probe_knows, o_probe_made, o_probe_order, o_probe_sixteenths, o_probe_stands, o_probe_used)) :
    mp_M l D T yX0_behind cX0_behind 3 (some (.object "MarginPlan$State")) ({ frames := 5, cells := 0, slots := 0, locals := 141 }) 0 0 [.ref a_, .ref a_p1, .int x2] (k_X0_behind T a_ a_probe a_trial a_best a_probe_order a_probe_knows a_probe_made a_probe_sixteenths a_probe_dots a_probe_used a_probe_stands a_p1 a_p1_cellNames a_p1_secretNames a_p1_pageNames a_p1_speed a_p1_letters a_p1_room a_p1_now a_p1_rounds a_p1_now_order a_p1_now_knows a_p1_now_made a_p1_now_sixteenths a_p1_now_dots a_p1_now_used a_p1_now_stands v_bestMany v_probe_inOrder v_probe_place v_probe_ill v_probe_shut v_probe_turns v_probe_madeInAll v_probe_dots v_probe_knows v_probe_made v_probe_order v_probe_sixteenths v_probe_stands v_probe_used v_p1_cells v_p1_secrets v_p1_pages v_p1_blind v_p1_rubs v_p1_letters v_p1_now_inOrder v_p1_now_place v_p1_now_ill v_p1_now_shut v_p1_now_turns v_p1_now_madeInAll v_p1_now_dots v_p1_now_knows v_p1_now_made v_p1_now_order v_p1_now_sixteenths v_p1_now_stands v_p1_now_used v_p1_room v_p1_speed) (mp_Qr D a_probe (k_X0_behind T a_ a_probe a_trial a_best a_probe_order a_probe_knows a_probe_made a_probe_sixteenths a_probe_dots a_probe_used a_probe_stands a_p1 a_p1_cellNames a_p1_secretNames a_p1_pageNames a_p1_speed a_p1_letters a_p1_room a_p1_now a_p1_rounds a_p1_now_order a_p1_now_knows a_p1_now_made a_p1_now_sixteenths a_p1_now_dots a_p1_now_used a_p1_now_stands v_bestMany o_probe_inOrder o_probe_place o_probe_ill o_probe_shut o_probe_turns o_probe_madeInAll o_probe_dots o_probe_knows o_probe_made o_probe_order o_probe_sixteenths o_probe_stands o_probe_used v_p1_cells v_p1_secrets v_p1_pages v_p1_blind v_p1_rubs v_p1_letters v_p1_now_inOrder v_p1_now_place v_p1_now_ill v_p1_now_shut v_p1_now_turns v_p1_now_madeInAll v_p1_now_dots v_p1_now_knows v_p1_now_made v_p1_now_order v_p1_now_sixteenths v_p1_now_stands v_p1_now_used v_p1_room v_p1_speed)) := by
  refine mp_of (by decide) (Nat.le_of_ble_eq_true rfl) rfl ?_
  intro p e s m args below meth c A ls X hK hP hD hS hA hl
  replace X : mp_X p s m meth c args RX0 "behind" cX0_behind 3 (some (.object "MarginPlan$State")) := X
  have hx := X.1
  have hb := X.2.1
  have hml := X.2.2.1
  have hown := X.2.2.2.2.1
  have hts := X.2.2.2.2.2.1
  replace hl : lv_has ls 3 [(0, .ref a_), (1, .ref a_p1), (2, .int x2)] := hl
  replace hf : bd_ (f_X7_copyFrom v_probe_inOrder v_probe_place v_probe_ill v_probe_shut v_probe_turns v_probe_madeInAll v_probe_dots v_probe_knows v_probe_made v_probe_order v_probe_sixteenths v_probe_stands v_probe_used v_p1_now_inOrder v_p1_now_place v_p1_now_ill v_p1_now_shut v_p1_now_turns v_p1_now_madeInAll v_p1_now_dots v_p1_now_knows v_p1_now_made v_p1_now_order v_p1_now_sixteenths v_p1_now_stands v_p1_now_used) (fun (z : Int32 × Int32 × Int32 × Int32 × Int32 × Int32 × (Nat → Int32) × (Nat → Int32) × (Nat → Int32) × (Nat → Int32) × (Nat → Int32) × (Nat → Int32) × (Nat → Int32)) => match z with | (u1, u2, u3, u4, u5, u6, u7, u8, u9, u10, u11, u12, u13) => bd_ (f_X7_passMany fu x2 u1 u2 u3 u4 u5 u6 u7 u8 u9 u10 u12 u13 v_p1_secrets v_p1_pages v_p1_blind v_p1_rubs v_p1_letters v_p1_room v_p1_speed) (fun (z : Int32 × Int32 × Int32 × (Nat → Int32) × (Nat → Int32) × (Nat → Int32) × (Nat → Int32) × (Nat → Int32)) => match z with | (u15, u16, u17, u18, u19, u20, u21, u22) => some (u1, u15, u3, u4, u16, u17, u18, u19, u20, u10, u11, u21, u22))) = some (o_probe_inOrder, o_probe_place, o_probe_ill, o_probe_shut, o_probe_turns, o_probe_madeInAll, o_probe_dots, o_probe_knows, o_probe_made, o_probe_order, o_probe_sixteenths, o_probe_stands, o_probe_used) := hf
  refine lv_aload_n hx hb dX0_behind_0 rfl (lv_at hl 0 rfl) ?_
  refine mp_get X fl_X0_12 hK hP 0 rfl rfl dX0_behind_1 ?_
  refine lv_aload_n hx hb dX0_behind_4 rfl (lv_at hl 1 rfl) ?_
  refine mp_get X fl_X0_29 hK hP 9 rfl rfl dX0_behind_5 ?_
  obtain ⟨⟨u1, u2, u3, u4, u5, u6, u7, u8, u9, u10, u11, u12, u13⟩, c14, hf⟩ := bd_of hf
  dsimp only at hf
  have hPc := hP.sub (ws' := (k_X7_copyFrom T a_probe a_probe_order a_probe_knows a_probe_made a_probe_sixteenths a_probe_dots a_probe_used a_probe_stands a_p1_now a_p1_now_order a_p1_now_knows a_p1_now_made a_p1_now_sixteenths a_p1_now_dots a_p1_now_used a_p1_now_stands v_probe_inOrder v_probe_place v_probe_ill v_probe_shut v_probe_turns v_probe_madeInAll v_probe_dots v_probe_knows v_probe_made v_probe_order v_probe_sixteenths v_probe_stands v_probe_used v_p1_now_inOrder v_p1_now_place v_p1_now_ill v_p1_now_shut v_p1_now_turns v_p1_now_madeInAll v_p1_now_dots v_p1_now_knows v_p1_now_made v_p1_now_order v_p1_now_sixteenths v_p1_now_stands v_p1_now_used)) [1, 2, 3, 4, 5, 6, 7, 8, 11, 12, 13, 14, 15, 16, 17, 18] rfl
  have hDc := (mp_D_of (w1 := (k_X0_behind T a_ a_probe a_trial a_best a_probe_order a_probe_knows a_probe_made a_probe_sixteenths a_probe_dots a_probe_used a_probe_stands a_p1 a_p1_cellNames a_p1_secretNames a_p1_pageNames a_p1_speed a_p1_letters a_p1_room a_p1_now a_p1_rounds a_p1_now_order a_p1_now_knows a_p1_now_made a_p1_now_sixteenths a_p1_now_dots a_p1_now_used a_p1_now_stands v_bestMany v_probe_inOrder v_probe_place v_probe_ill v_probe_shut v_probe_turns v_probe_madeInAll v_probe_dots v_probe_knows v_probe_made v_probe_order v_probe_sixteenths v_probe_stands v_probe_used v_p1_cells v_p1_secrets v_p1_pages v_p1_blind v_p1_rubs v_p1_letters v_p1_now_inOrder v_p1_now_place v_p1_now_ill v_p1_now_shut v_p1_now_turns v_p1_now_madeInAll v_p1_now_dots v_p1_now_knows v_p1_now_made v_p1_now_order v_p1_now_sixteenths v_p1_now_stands v_p1_now_used v_p1_room v_p1_speed)) hD rfl).sub (ws' := (k_X7_copyFrom T a_probe a_probe_order a_probe_knows a_probe_made a_probe_sixteenths a_probe_dots a_probe_used a_probe_stands a_p1_now a_p1_now_order a_p1_now_knows a_p1_now_made a_p1_now_sixteenths a_p1_now_dots a_p1_now_used a_p1_now_stands v_probe_inOrder v_probe_place v_probe_ill v_probe_shut v_probe_turns v_probe_madeInAll v_probe_dots v_probe_knows v_probe_made v_probe_order v_probe_sixteenths v_probe_stands v_probe_used v_p1_now_inOrder v_p1_now_place v_p1_now_ill v_p1_now_shut v_p1_now_turns v_p1_now_madeInAll v_p1_now_dots v_p1_now_knows v_p1_now_made v_p1_now_order v_p1_now_sixteenths v_p1_now_stands v_p1_now_used)) [1, 2, 3, 4, 5, 6, 7, 8, 11, 12, 13, 14, 15, 16, 17, 18] rfl rfl
  refine mp_callv2 (isC := [1, 2, 3, 4, 5, 6, 7, 8, 11, 12, 13, 14, 15, 16, 17, 18]) (isO := [0, 9, 10, 19, 20]) (wc := (k_X7_copyFrom T a_probe a_probe_order a_probe_knows a_probe_made a_probe_sixteenths a_probe_dots a_probe_used a_probe_stands a_p1_now a_p1_now_order a_p1_now_knows a_p1_now_made a_p1_now_sixteenths a_p1_now_dots a_p1_now_used a_p1_now_stands v_probe_inOrder v_probe_place v_probe_ill v_probe_shut v_probe_turns v_probe_madeInAll v_probe_dots v_probe_knows v_probe_made v_probe_order v_probe_sixteenths v_probe_stands v_probe_used v_p1_now_inOrder v_p1_now_place v_p1_now_ill v_p1_now_shut v_p1_now_turns v_p1_now_madeInAll v_p1_now_dots v_p1_now_knows v_p1_now_made v_p1_now_order v_p1_now_sixteenths v_p1_now_stands v_p1_now_used)) (w1 := (k_X7_copyFrom T a_probe a_probe_order a_probe_knows a_probe_made a_probe_sixteenths a_probe_dots a_probe_used a_probe_stands a_p1_now a_p1_now_order a_p1_now_knows a_p1_now_made a_p1_now_sixteenths a_p1_now_dots a_p1_now_used a_p1_now_stands u1 u2 u3 u4 u5 u6 u7 u8 u9 u10 u11 u12 u13 v_p1_now_inOrder v_p1_now_place v_p1_now_ill v_p1_now_shut v_p1_now_turns v_p1_now_madeInAll v_p1_now_dots v_p1_now_knows v_p1_now_made v_p1_now_order v_p1_now_sixteenths v_p1_now_stands v_p1_now_used)) (wo := [(a_, oX0 a_probe a_trial a_best v_bestMany), (a_p1, oX1 v_p1_cells v_p1_secrets v_p1_pages a_p1_cellNames a_p1_secretNames a_p1_pageNames a_p1_speed v_p1_blind v_p1_rubs a_p1_letters a_p1_room a_p1_now a_p1_rounds), (a_p1_letters, mp_aI T 6 v_p1_letters), (a_p1_room, mp_aI T 6 v_p1_room), (a_p1_speed, mp_aI T 8 v_p1_speed)]) (w2 := (k_X0_behind T a_ a_probe a_trial a_best a_probe_order a_probe_knows a_probe_made a_probe_sixteenths a_probe_dots a_probe_used a_probe_stands a_p1 a_p1_cellNames a_p1_secretNames a_p1_pageNames a_p1_speed a_p1_letters a_p1_room a_p1_now a_p1_rounds a_p1_now_order a_p1_now_knows a_p1_now_made a_p1_now_sixteenths a_p1_now_dots a_p1_now_used a_p1_now_stands v_bestMany u1 u2 u3 u4 u5 u6 u7 u8 u9 u10 u11 u12 u13 v_p1_cells v_p1_secrets v_p1_pages v_p1_blind v_p1_rubs v_p1_letters v_p1_now_inOrder v_p1_now_place v_p1_now_ill v_p1_now_shut v_p1_now_turns v_p1_now_madeInAll v_p1_now_dots v_p1_now_knows v_p1_now_made v_p1_now_order v_p1_now_sixteenths v_p1_now_stands v_p1_now_used v_p1_room v_p1_speed)) (n := 21) hP (mp_D_of hD rfl) hS hA rfl rfl rfl rfl rfl rfl (by decide +kernel) (mp_runV (As := [.ref a_p1_now]) (rest := []) X me_X7_copyFrom lk_X0_34 (c_X7_copyFrom l D T a_probe a_probe_order a_probe_knows a_probe_made a_probe_sixteenths a_probe_dots a_probe_used a_probe_stands a_p1_now a_p1_now_order a_p1_now_knows a_p1_now_made a_p1_now_sixteenths a_p1_now_dots a_p1_now_used a_p1_now_stands v_probe_inOrder v_probe_place v_probe_ill v_probe_shut v_probe_turns v_probe_madeInAll v_probe_dots v_probe_knows v_probe_made v_probe_order v_probe_sixteenths v_probe_stands v_probe_used v_p1_now_inOrder v_p1_now_place v_p1_now_ill v_p1_now_shut v_p1_now_turns v_p1_now_madeInAll v_p1_now_dots v_p1_now_knows v_p1_now_made v_p1_now_order v_p1_now_sixteenths v_p1_now_stands v_p1_now_used u1 u2 u3 u4 u5 u6 u7 u8 u9 u10 u11 u12 u13 c14) rfl rfl ⟨(Nat.le_of_ble_eq_true rfl), (Nat.le_of_ble_eq_true rfl)⟩ hK hPc hDc rfl rfl rfl rfl hl.1 rfl (Nat.le_of_ble_eq_true rfl) dX0_behind_8 ⟨Nat.zero_le _, Nat.zero_le _⟩) (fun H locs hP _ hS => ?_)
  refine lv_aload_n hx hb dX0_behind_11 rfl (lv_at hl 0 rfl) ?_
  refine mp_get X fl_X0_12 hK hP 0 rfl rfl dX0_behind_12 ?_
  refine lv_aload_n hx hb dX0_behind_15 rfl (lv_at hl 1 rfl) ?_
  refine lv_iload_n hx hb dX0_behind_16 rfl (lv_at hl 2 rfl) ?_
  obtain ⟨⟨u15, u16, u17, u18, u19, u20, u21, u22⟩, c23, hf⟩ := bd_of hf
  dsimp only at hf
  have hPc := hP.sub (ws' := (k_X7_passMany T a_probe a_probe_order a_probe_knows a_probe_made a_probe_sixteenths a_probe_dots a_probe_used a_probe_stands a_p1 a_p1_cellNames a_p1_secretNames a_p1_pageNames a_p1_speed a_p1_letters a_p1_room a_p1_now a_p1_rounds u1 u2 u3 u4 u5 u6 u7 u8 u9 u10 u12 u13 v_p1_cells v_p1_secrets v_p1_pages v_p1_blind v_p1_rubs v_p1_letters v_p1_room v_p1_speed)) [1, 2, 3, 4, 5, 7, 8, 9, 10, 19, 20] rfl
  have hDc := (mp_D_of (w1 := (k_X0_behind T a_ a_probe a_trial a_best a_probe_order a_probe_knows a_probe_made a_probe_sixteenths a_probe_dots a_probe_used a_probe_stands a_p1 a_p1_cellNames a_p1_secretNames a_p1_pageNames a_p1_speed a_p1_letters a_p1_room a_p1_now a_p1_rounds a_p1_now_order a_p1_now_knows a_p1_now_made a_p1_now_sixteenths a_p1_now_dots a_p1_now_used a_p1_now_stands v_bestMany u1 u2 u3 u4 u5 u6 u7 u8 u9 u10 u11 u12 u13 v_p1_cells v_p1_secrets v_p1_pages v_p1_blind v_p1_rubs v_p1_letters v_p1_now_inOrder v_p1_now_place v_p1_now_ill v_p1_now_shut v_p1_now_turns v_p1_now_madeInAll v_p1_now_dots v_p1_now_knows v_p1_now_made v_p1_now_order v_p1_now_sixteenths v_p1_now_stands v_p1_now_used v_p1_room v_p1_speed)) hD rfl).sub (ws' := (k_X7_passMany T a_probe a_probe_order a_probe_knows a_probe_made a_probe_sixteenths a_probe_dots a_probe_used a_probe_stands a_p1 a_p1_cellNames a_p1_secretNames a_p1_pageNames a_p1_speed a_p1_letters a_p1_room a_p1_now a_p1_rounds u1 u2 u3 u4 u5 u6 u7 u8 u9 u10 u12 u13 v_p1_cells v_p1_secrets v_p1_pages v_p1_blind v_p1_rubs v_p1_letters v_p1_room v_p1_speed)) [1, 2, 3, 4, 5, 7, 8, 9, 10, 19, 20] rfl rfl
  refine mp_callv2 (isC := [1, 2, 3, 4, 5, 7, 8, 9, 10, 19, 20]) (isO := [0, 6, 11, 12, 13, 14, 15, 16, 17, 18]) (wc := (k_X7_passMany T a_probe a_probe_order a_probe_knows a_probe_made a_probe_sixteenths a_probe_dots a_probe_used a_probe_stands a_p1 a_p1_cellNames a_p1_secretNames a_p1_pageNames a_p1_speed a_p1_letters a_p1_room a_p1_now a_p1_rounds u1 u2 u3 u4 u5 u6 u7 u8 u9 u10 u12 u13 v_p1_cells v_p1_secrets v_p1_pages v_p1_blind v_p1_rubs v_p1_letters v_p1_room v_p1_speed)) (w1 := (k_X7_passMany T a_probe a_probe_order a_probe_knows a_probe_made a_probe_sixteenths a_probe_dots a_probe_used a_probe_stands a_p1 a_p1_cellNames a_p1_secretNames a_p1_pageNames a_p1_speed a_p1_letters a_p1_room a_p1_now a_p1_rounds u1 u15 u3 u4 u16 u17 u18 u19 u20 u10 u21 u22 v_p1_cells v_p1_secrets v_p1_pages v_p1_blind v_p1_rubs v_p1_letters v_p1_room v_p1_speed)) (wo := [(a_, oX0 a_probe a_trial a_best v_bestMany), (a_probe_sixteenths, mp_aI T 6 u11), (a_p1_now, oX7 a_p1_now_order v_p1_now_inOrder v_p1_now_place a_p1_now_knows a_p1_now_made a_p1_now_sixteenths a_p1_now_dots a_p1_now_used a_p1_now_stands v_p1_now_ill v_p1_now_shut v_p1_now_turns v_p1_now_madeInAll), (a_p1_now_dots, mp_aI T 36 v_p1_now_dots), (a_p1_now_knows, mp_aI T 8 v_p1_now_knows), (a_p1_now_made, mp_aI T 8 v_p1_now_made), (a_p1_now_order, mp_aI T 8 v_p1_now_order), (a_p1_now_sixteenths, mp_aI T 6 v_p1_now_sixteenths), (a_p1_now_stands, mp_aI T 6 v_p1_now_stands), (a_p1_now_used, mp_aI T 6 v_p1_now_used)]) (w2 := (k_X0_behind T a_ a_probe a_trial a_best a_probe_order a_probe_knows a_probe_made a_probe_sixteenths a_probe_dots a_probe_used a_probe_stands a_p1 a_p1_cellNames a_p1_secretNames a_p1_pageNames a_p1_speed a_p1_letters a_p1_room a_p1_now a_p1_rounds a_p1_now_order a_p1_now_knows a_p1_now_made a_p1_now_sixteenths a_p1_now_dots a_p1_now_used a_p1_now_stands v_bestMany u1 u15 u3 u4 u16 u17 u18 u19 u20 u10 u11 u21 u22 v_p1_cells v_p1_secrets v_p1_pages v_p1_blind v_p1_rubs v_p1_letters v_p1_now_inOrder v_p1_now_place v_p1_now_ill v_p1_now_shut v_p1_now_turns v_p1_now_madeInAll v_p1_now_dots v_p1_now_knows v_p1_now_made v_p1_now_order v_p1_now_sixteenths v_p1_now_stands v_p1_now_used v_p1_room v_p1_speed)) (n := 21) hP (mp_D_of hD rfl) hS hA rfl rfl rfl rfl rfl rfl (by decide +kernel) (mp_runV (As := [.ref a_p1, .int x2]) (rest := []) X me_X7_passMany lk_X0_42 (c_X7_passMany l D T fu a_probe a_probe_order a_probe_knows a_probe_made a_probe_sixteenths a_probe_dots a_probe_used a_probe_stands a_p1 a_p1_cellNames a_p1_secretNames a_p1_pageNames a_p1_speed a_p1_letters a_p1_room a_p1_now a_p1_rounds x2 v_p1_cells u1 u2 u3 u4 u5 u6 u7 u8 u9 u10 u12 u13 v_p1_secrets v_p1_pages v_p1_blind v_p1_rubs v_p1_letters v_p1_room v_p1_speed u15 u16 u17 u18 u19 u20 u21 u22 c23) rfl rfl ⟨(Nat.le_of_ble_eq_true rfl), (Nat.le_of_ble_eq_true rfl)⟩ hK hPc hDc rfl rfl rfl rfl hl.1 rfl (Nat.le_of_ble_eq_true rfl) dX0_behind_17 ⟨Nat.zero_le _, Nat.zero_le _⟩) (fun H locs hP _ hS => ?_)
  refine lv_aload_n hx hb dX0_behind_20 rfl (lv_at hl 0 rfl) ?_
  refine mp_get X fl_X0_12 hK hP 0 rfl rfl dX0_behind_21 ?_
  cases hf
  exact mp_reta X hP hS dX0_behind_24


def k_X0_sortInto (T : Nat → ClassId) (a_ a_probe a_trial a_best a_p1 a_p1_order a_p1_knows a_p1_made a_p1_sixteenths a_p1_dots a_p1_used a_p1_stands : Nat) (v_bestMany : Int32) (v_trial : (Nat → Int32)) (v_p1_inOrder : Int32) (v_p1_place : Int32) (v_p1_ill : Int32) (v_p1_shut : Int32) (v_p1_turns : Int32) (v_p1_madeInAll : Int32) (v_p1_order : (Nat → Int32)) : va_W := [(a_, oX0 a_probe a_trial a_best v_bestMany), (a_trial, mp_aI T 8 v_trial), (a_p1, oX7 a_p1_order v_p1_inOrder v_p1_place a_p1_knows a_p1_made a_p1_sixteenths a_p1_dots a_p1_used a_p1_stands v_p1_ill v_p1_shut v_p1_turns v_p1_madeInAll), (a_p1_order, mp_aI T 8 v_p1_order)]
set_option maxHeartbeats 4000000 in
set_option maxRecDepth 100000 in
theorem w_X0_sortInto_4 {p : Program} {l : Launch} {e : Env} {s : State} {m : MethodId} {args : Array Value} {below : List Frame} {meth : Method} {c : Code} {D : va_G} {T : Nat → ClassId} {A : Nat → Prop} (X : mp_X p s m meth c args RX0 "sortInto" cX0_sortInto 4 none) (hK : va_K D mp_cl (mp_ty T) s) (hA : ∀ q, s.heap.size ≤ q → A q) (fu : Nat) (a_ a_probe a_trial a_best a_p1 a_p1_order a_p1_knows a_p1_made a_p1_sixteenths a_p1_dots a_p1_used a_p1_stands : Nat) (v_bestMany : Int32) (v_p1_place : Int32) (v_p1_ill : Int32) (v_p1_shut : Int32) (v_p1_turns : Int32) (v_p1_madeInAll : Int32) (v_p1_inOrder : Int32) (v_p1_order : (Nat → Int32)) (o_trial : (Nat → Int32)) :
    ∀ (n : Nat) (z2 : Int32) (z3 : Int32) (v_trial : (Nat → Int32)), f_X0_sortInto_4 fu v_p1_inOrder v_p1_order  n z2 z3 v_trial = some o_trial → ∀ (H : Heap) (locs : List Loc) (ls : Array Slot), va_P D mp_cl (k_X0_sortInto T a_ a_probe a_trial a_best a_p1 a_p1_order a_p1_knows a_p1_made a_p1_sixteenths a_p1_dots a_p1_used a_p1_stands v_bestMany v_trial v_p1_inOrder v_p1_place v_p1_ill v_p1_shut v_p1_turns v_p1_madeInAll v_p1_order) H → va_D A (k_X0_sortInto T a_ a_probe a_trial a_best a_p1 a_p1_order a_p1_knows a_p1_made a_p1_sixteenths a_p1_dots a_p1_used a_p1_stands v_bestMany v_trial v_p1_inOrder v_p1_place v_p1_ill v_p1_shut v_p1_turns v_p1_madeInAll v_p1_order) → va_S A s.heap H locs → lv_has ls 4 [(0, .ref a_), (1, .ref a_p1), (2, .int z2), (3, .int z3)] → W p l e ({ frames := 1, cells := 0, slots := 0, locals := 22 }) s m args below meth c H locs 0 0 (MQ below ((mp_Qv D (k_X0_sortInto T a_ a_probe a_trial a_best a_p1 a_p1_order a_p1_knows a_p1_made a_p1_sixteenths a_p1_dots a_p1_used a_p1_stands v_bestMany o_trial v_p1_inOrder v_p1_place v_p1_ill v_p1_shut v_p1_turns v_p1_madeInAll v_p1_order)) A) args s 0 0 A) (F0 m 4 ls []) := by
  have hx := X.1
  have hb := X.2.1
  have hml := X.2.2.1
  have hown := X.2.2.2.2.1
  have hts := X.2.2.2.2.2.1
  intro n
  induction n with
  | zero => intro z2 z3 v_trial hf; exact absurd hf (by intro h; cases h)
  | succ n ih =>
    intro z2 z3 v_trial hf H locs ls hP hD hS hl
    replace hf : (if (nI 8) ≤ z3 then some (v_trial) else bd_ (f_X7_placeOf fu z3 v_p1_inOrder v_p1_order) (fun (r2 : Int32) => (if r2 = (-1 : Int32) then lt_ (z3 + (nI 1)) (fun (y5 : Int32) => f_X0_sortInto_4 fu v_p1_inOrder v_p1_order  n z2 y5 v_trial) else gi_ z2 8 (lt_ (z2 + (nI 1)) (fun (y7 : Int32) => lt_ (z3 + (nI 1)) (fun (y8 : Int32) => f_X0_sortInto_4 fu v_p1_inOrder v_p1_order  n y7 y8 (upd v_trial (z2).toNatClampNeg z3))))))) = some o_trial := hf
    refine lv_iload_n hx hb dX0_sortInto_4 rfl (lv_at hl 3 rfl) ?_
    refine lv_bipush (v := (nI 8)) hx hb dX0_sortInto_5 (by decide) ?_
    refine lv_icmp_ge (tgt := 35) hx hb dX0_sortInto_7 (by decide) (fun h1 => ?_) (fun h1 => ?_)
    · replace hf := if_t hf h1
      cases hf
      exact mp_retv X hP hS dX0_sortInto_35
    · replace hf := if_f hf h1
      refine lv_aload_n hx hb dX0_sortInto_10 rfl (lv_at hl 1 rfl) ?_
      refine lv_iload_n hx hb dX0_sortInto_11 rfl (lv_at hl 3 rfl) ?_
      obtain ⟨r2, c3, hf⟩ := bd_of hf
      have hPc := hP.sub (ws' := (k_X7_placeOf T a_p1 a_p1_order a_p1_knows a_p1_made a_p1_sixteenths a_p1_dots a_p1_used a_p1_stands v_p1_inOrder v_p1_place v_p1_ill v_p1_shut v_p1_turns v_p1_madeInAll v_p1_order)) [2, 3] rfl
      have hDc := (mp_D_of (w1 := (k_X0_sortInto T a_ a_probe a_trial a_best a_p1 a_p1_order a_p1_knows a_p1_made a_p1_sixteenths a_p1_dots a_p1_used a_p1_stands v_bestMany v_trial v_p1_inOrder v_p1_place v_p1_ill v_p1_shut v_p1_turns v_p1_madeInAll v_p1_order)) hD rfl).sub (ws' := (k_X7_placeOf T a_p1 a_p1_order a_p1_knows a_p1_made a_p1_sixteenths a_p1_dots a_p1_used a_p1_stands v_p1_inOrder v_p1_place v_p1_ill v_p1_shut v_p1_turns v_p1_madeInAll v_p1_order)) [2, 3] rfl rfl
      refine mp_calli (isC := [2, 3]) (wc := (k_X7_placeOf T a_p1 a_p1_order a_p1_knows a_p1_made a_p1_sixteenths a_p1_dots a_p1_used a_p1_stands v_p1_inOrder v_p1_place v_p1_ill v_p1_shut v_p1_turns v_p1_madeInAll v_p1_order)) (w1 := (k_X7_placeOf T a_p1 a_p1_order a_p1_knows a_p1_made a_p1_sixteenths a_p1_dots a_p1_used a_p1_stands v_p1_inOrder v_p1_place v_p1_ill v_p1_shut v_p1_turns v_p1_madeInAll v_p1_order)) hP (mp_D_of hD rfl) hS hA rfl rfl (mp_runV (As := [.int z3]) (rest := []) X me_X7_placeOf lk_X0_81 (c_X7_placeOf l D T fu a_p1 a_p1_order a_p1_knows a_p1_made a_p1_sixteenths a_p1_dots a_p1_used a_p1_stands z3 v_p1_place v_p1_ill v_p1_shut v_p1_turns v_p1_madeInAll v_p1_inOrder v_p1_order r2 c3) rfl rfl ⟨(Nat.le_of_ble_eq_true rfl), (Nat.le_of_ble_eq_true rfl)⟩ hK hPc hDc rfl rfl rfl rfl hl.1 rfl (Nat.le_of_ble_eq_true rfl) dX0_sortInto_12 ⟨Nat.zero_le _, Nat.zero_le _⟩) (fun H locs hP _ hS => ?_)
      replace hP : va_P D mp_cl (k_X0_sortInto T a_ a_probe a_trial a_best a_p1 a_p1_order a_p1_knows a_p1_made a_p1_sixteenths a_p1_dots a_p1_used a_p1_stands v_bestMany v_trial v_p1_inOrder v_p1_place v_p1_ill v_p1_shut v_p1_turns v_p1_madeInAll v_p1_order) H := hP
      refine lv_iconst (v := (-1 : Int32)) hx hb dX0_sortInto_15 (by decide) ?_
      refine lv_icmp_eq (tgt := 29) hx hb dX0_sortInto_16 (by decide) (fun h4 => ?_) (fun h4 => ?_)
      · replace hf := if_t hf h4
        obtain ⟨y5, e5⟩ : ∃ y : Int32, y = z3 + (nI 1) := ⟨_, rfl⟩
        replace hf := lt_of e5 hf
        refine lv_iinc (v := y5) (lv' := [(3, .int y5), (0, .ref a_), (1, .ref a_p1), (2, .int z2)]) hx hb dX0_sortInto_29 hl (k := 3) rfl (by rw [e5]; rfl) (by decide) rfl (fun ls hl => ?_)
        refine lv_goto (tgt := 4) hx hb dX0_sortInto_32 (by decide) ?_
        exact ih z2 y5 v_trial hf _ _ _ hP (mp_D_of hD rfl) hS (lv_sub hl [1, 2, 3, 0] rfl)
      · replace hf := if_f hf h4
        refine lv_aload_n hx hb dX0_sortInto_19 rfl (lv_at hl 0 rfl) ?_
        refine mp_get X fl_X0_18 hK hP 0 rfl rfl dX0_sortInto_20 ?_
        refine lv_iload_n hx hb dX0_sortInto_23 rfl (lv_at hl 2 rfl) ?_
        refine lv_iload_n hx hb dX0_sortInto_24 rfl (lv_at hl 3 rfl) ?_
        obtain ⟨h6, hf⟩ := gi_of hf
        refine va_iast hx hb hK hP (mp_D_of hD rfl) hS 1 0 rfl rfl h6 dX0_sortInto_25 (fun H locs hP _ hS => ?_)
        replace hP : va_P D mp_cl (k_X0_sortInto T a_ a_probe a_trial a_best a_p1 a_p1_order a_p1_knows a_p1_made a_p1_sixteenths a_p1_dots a_p1_used a_p1_stands v_bestMany (upd v_trial (z2).toNatClampNeg z3) v_p1_inOrder v_p1_place v_p1_ill v_p1_shut v_p1_turns v_p1_madeInAll v_p1_order) H := hP
        obtain ⟨y7, e7⟩ : ∃ y : Int32, y = z2 + (nI 1) := ⟨_, rfl⟩
        replace hf := lt_of e7 hf
        refine lv_iinc (v := y7) (lv' := [(2, .int y7), (0, .ref a_), (1, .ref a_p1), (3, .int z3)]) hx hb dX0_sortInto_26 hl (k := 2) rfl (by rw [e7]; rfl) (by decide) rfl (fun ls hl => ?_)
        obtain ⟨y8, e8⟩ : ∃ y : Int32, y = z3 + (nI 1) := ⟨_, rfl⟩
        replace hf := lt_of e8 hf
        refine lv_iinc (v := y8) (lv' := [(3, .int y8), (2, .int y7), (0, .ref a_), (1, .ref a_p1)]) hx hb dX0_sortInto_29 hl (k := 3) rfl (by rw [e8]; rfl) (by decide) rfl (fun ls hl => ?_)
        refine lv_goto (tgt := 4) hx hb dX0_sortInto_32 (by decide) ?_
        exact ih y7 y8 (upd v_trial (z2).toNatClampNeg z3) hf _ _ _ hP (mp_D_of hD rfl) hS (lv_sub hl [2, 3, 1, 0] rfl)

set_option maxHeartbeats 4000000 in
set_option maxRecDepth 100000 in
theorem c_X0_sortInto (l : Launch) (D : va_G) (T : Nat → ClassId) (fu : Nat) (a_ a_probe a_trial a_best a_p1 a_p1_order a_p1_knows a_p1_made a_p1_sixteenths a_p1_dots a_p1_used a_p1_stands : Nat) (v_bestMany : Int32) (v_p1_place : Int32) (v_p1_ill : Int32) (v_p1_shut : Int32) (v_p1_turns : Int32) (v_p1_madeInAll : Int32) (v_trial : (Nat → Int32)) (v_p1_inOrder : Int32) (v_p1_order : (Nat → Int32)) (o_trial : (Nat → Int32)) (hf : f_X0_sortInto fu v_trial v_p1_inOrder v_p1_order = some o_trial) :
    mp_M l D T yX0_sortInto cX0_sortInto 4 none ({ frames := 1, cells := 0, slots := 0, locals := 22 }) 0 0 [.ref a_, .ref a_p1] (k_X0_sortInto T a_ a_probe a_trial a_best a_p1 a_p1_order a_p1_knows a_p1_made a_p1_sixteenths a_p1_dots a_p1_used a_p1_stands v_bestMany v_trial v_p1_inOrder v_p1_place v_p1_ill v_p1_shut v_p1_turns v_p1_madeInAll v_p1_order) (mp_Qv D (k_X0_sortInto T a_ a_probe a_trial a_best a_p1 a_p1_order a_p1_knows a_p1_made a_p1_sixteenths a_p1_dots a_p1_used a_p1_stands v_bestMany o_trial v_p1_inOrder v_p1_place v_p1_ill v_p1_shut v_p1_turns v_p1_madeInAll v_p1_order)) := by
  refine mp_of (by decide) (Nat.le_of_ble_eq_true rfl) rfl ?_
  intro p e s m args below meth c A ls X hK hP hD hS hA hl
  replace X : mp_X p s m meth c args RX0 "sortInto" cX0_sortInto 4 none := X
  have hx := X.1
  have hb := X.2.1
  have hml := X.2.2.1
  have hown := X.2.2.2.2.1
  have hts := X.2.2.2.2.2.1
  replace hl : lv_has ls 4 [(0, .ref a_), (1, .ref a_p1)] := hl
  replace hf : f_X0_sortInto_4 fu v_p1_inOrder v_p1_order  fu (nI 0) (nI 0) v_trial = some o_trial := hf
  refine lv_iconst (v := (nI 0)) hx hb dX0_sortInto_0 (by decide) ?_
  refine lv_istore_n (lv' := [(2, .int (nI 0)), (0, .ref a_), (1, .ref a_p1)]) hx hb dX0_sortInto_1 rfl hl (by decide) rfl (fun ls hl => ?_)
  refine lv_iconst (v := (nI 0)) hx hb dX0_sortInto_2 (by decide) ?_
  refine lv_istore_n (lv' := [(3, .int (nI 0)), (2, .int (nI 0)), (0, .ref a_), (1, .ref a_p1)]) hx hb dX0_sortInto_3 rfl hl (by decide) rfl (fun ls hl => ?_)
  exact w_X0_sortInto_4 X hK hA  fu a_ a_probe a_trial a_best a_p1 a_p1_order a_p1_knows a_p1_made a_p1_sixteenths a_p1_dots a_p1_used a_p1_stands v_bestMany v_p1_place v_p1_ill v_p1_shut v_p1_turns v_p1_madeInAll v_p1_inOrder v_p1_order o_trial   fu (nI 0) (nI 0) v_trial hf _ _ _ hP (mp_D_of hD rfl) hS (lv_sub hl [2, 3, 1, 0] rfl)


def k_X0_swap (T : Nat → ClassId) (a_ a_probe a_trial a_best : Nat) (v_bestMany : Int32) (v_trial : (Nat → Int32)) : va_W := [(a_, oX0 a_probe a_trial a_best v_bestMany), (a_trial, mp_aI T 8 v_trial)]
set_option maxHeartbeats 4000000 in
set_option maxRecDepth 100000 in
theorem c_X0_swap (l : Launch) (D : va_G) (T : Nat → ClassId) (a_ a_probe a_trial a_best : Nat) (x1 : Int32) (x2 : Int32) (v_bestMany : Int32) (v_trial : (Nat → Int32)) (o_trial : (Nat → Int32)) (hf : f_X0_swap x1 x2 v_trial = some o_trial) :
    mp_M l D T yX0_swap cX0_swap 4 none ({ frames := 0, cells := 0, slots := 0, locals := 0 }) 0 0 [.ref a_, .int x1, .int x2] (k_X0_swap T a_ a_probe a_trial a_best v_bestMany v_trial) (mp_Qv D (k_X0_swap T a_ a_probe a_trial a_best v_bestMany o_trial)) := by
  refine mp_of (by decide) (Nat.le_of_ble_eq_true rfl) rfl ?_
  intro p e s m args below meth c A ls X hK hP hD hS hA hl
  replace X : mp_X p s m meth c args RX0 "swap" cX0_swap 4 none := X
  have hx := X.1
  have hb := X.2.1
  have hml := X.2.2.1
  have hown := X.2.2.2.2.1
  have hts := X.2.2.2.2.2.1
  replace hl : lv_has ls 4 [(0, .ref a_), (1, .int x1), (2, .int x2)] := hl
  replace hf : gi_ x1 8 (lt_ (v_trial (x1).toNatClampNeg) (fun (y2 : Int32) => gi_ x2 8 (lt_ (v_trial (x2).toNatClampNeg) (fun (y4 : Int32) => gi_ x1 8 (gi_ x2 8 (some (upd (upd v_trial (x1).toNatClampNeg y4) (x2).toNatClampNeg y2))))))) = some o_trial := hf
  refine lv_aload_n hx hb dX0_swap_0 rfl (lv_at hl 0 rfl) ?_
  refine mp_get X fl_X0_18 hK hP 0 rfl rfl dX0_swap_1 ?_
  refine lv_iload_n hx hb dX0_swap_4 rfl (lv_at hl 1 rfl) ?_
  obtain ⟨h1, hf⟩ := gi_of hf
  refine va_iald hx hb hK hP 1 0 rfl rfl h1 dX0_swap_5 ?_
  refine lv_topi (fun y2 e2 => ?_)
  replace hf := lt_of e2 hf
  refine lv_istore_n (lv' := [(3, .int y2), (0, .ref a_), (1, .int x1), (2, .int x2)]) hx hb dX0_swap_6 rfl hl (by decide) rfl (fun ls hl => ?_)
  refine lv_aload_n hx hb dX0_swap_7 rfl (lv_at hl 1 rfl) ?_
  refine mp_get X fl_X0_18 hK hP 0 rfl rfl dX0_swap_8 ?_
  refine lv_iload_n hx hb dX0_swap_11 rfl (lv_at hl 2 rfl) ?_
  refine lv_aload_n hx hb dX0_swap_12 rfl (lv_at hl 1 rfl) ?_
  refine mp_get X fl_X0_18 hK hP 0 rfl rfl dX0_swap_13 ?_
  refine lv_iload_n hx hb dX0_swap_16 rfl (lv_at hl 3 rfl) ?_
  obtain ⟨h3, hf⟩ := gi_of hf
  refine va_iald hx hb hK hP 1 0 rfl rfl h3 dX0_swap_17 ?_
  refine lv_topi (fun y4 e4 => ?_)
  replace hf := lt_of e4 hf
  obtain ⟨h5, hf⟩ := gi_of hf
  refine va_iast hx hb hK hP (mp_D_of hD rfl) hS 1 0 rfl rfl h5 dX0_swap_18 (fun H locs hP _ hS => ?_)
  replace hP : va_P D mp_cl (k_X0_swap T a_ a_probe a_trial a_best v_bestMany (upd v_trial (x1).toNatClampNeg y4)) H := hP
  refine lv_aload_n hx hb dX0_swap_19 rfl (lv_at hl 1 rfl) ?_
  refine mp_get X fl_X0_18 hK hP 0 rfl rfl dX0_swap_20 ?_
  refine lv_iload_n hx hb dX0_swap_23 rfl (lv_at hl 3 rfl) ?_
  refine lv_iload_n hx hb dX0_swap_24 rfl (lv_at hl 0 rfl) ?_
  obtain ⟨h6, hf⟩ := gi_of hf
  refine va_iast hx hb hK hP (mp_D_of hD rfl) hS 1 0 rfl rfl h6 dX0_swap_25 (fun H locs hP _ hS => ?_)
  replace hP : va_P D mp_cl (k_X0_swap T a_ a_probe a_trial a_best v_bestMany (upd (upd v_trial (x1).toNatClampNeg y4) (x2).toNatClampNeg y2)) H := hP
  cases hf
  exact mp_retv X hP hS dX0_swap_26


def k_X0_permute (T : Nat → ClassId) (a_ a_probe a_trial a_best : Nat) (v_bestMany : Int32) (v_trial : (Nat → Int32)) : va_W := [(a_, oX0 a_probe a_trial a_best v_bestMany), (a_trial, mp_aI T 8 v_trial)]
set_option maxHeartbeats 4000000 in
set_option maxRecDepth 100000 in
theorem w_X0_permute_85 {p : Program} {l : Launch} {e : Env} {s : State} {m : MethodId} {args : Array Value} {below : List Frame} {meth : Method} {c : Code} {D : va_G} {T : Nat → ClassId} {A : Nat → Prop} (X : mp_X p s m meth c args RX0 "permute" cX0_permute 6 (some .boolean)) (hK : va_K D mp_cl (mp_ty T) s) (hA : ∀ q, s.heap.size ≤ q → A q) (fu : Nat) (a_ a_probe a_trial a_best : Nat) (v_bestMany : Int32) (r_ : Int32) (o_trial : (Nat → Int32)) :
    ∀ (n : Nat) (z4 : Int32) (z5 : Int32) (v_trial : (Nat → Int32)), f_X0_permute_85 fu   n z4 z5 v_trial = some (r_, o_trial) → ∀ (H : Heap) (locs : List Loc) (ls : Array Slot), va_P D mp_cl (k_X0_permute T a_ a_probe a_trial a_best v_bestMany v_trial) H → va_D A (k_X0_permute T a_ a_probe a_trial a_best v_bestMany v_trial) → va_S A s.heap H locs → lv_has ls 6 [(0, .ref a_), (4, .int z4), (5, .int z5)] → W p l e ({ frames := 1, cells := 0, slots := 0, locals := 23 }) s m args below meth c H locs 0 0 (MQ below ((mp_Qi D r_ (k_X0_permute T a_ a_probe a_trial a_best v_bestMany o_trial)) A) args s 0 0 A) (F0 m 85 ls []) := by
  have hx := X.1
  have hb := X.2.1
  have hml := X.2.2.1
  have hown := X.2.2.2.2.1
  have hts := X.2.2.2.2.2.1
  intro n
  induction n with
  | zero => intro z4 z5 v_trial hf; exact absurd hf (by intro h; cases h)
  | succ n ih =>
    intro z4 z5 v_trial hf H locs ls hP hD hS hl
    replace hf : (if z5 ≤ z4 then some ((nI 1), v_trial) else bd_ (f_X0_swap z4 z5 v_trial) (fun (u2 : (Nat → Int32)) => lt_ (z4 + (nI 1)) (fun (y4 : Int32) => lt_ (z5 + (-1 : Int32)) (fun (y5 : Int32) => f_X0_permute_85 fu   n y4 y5 u2)))) = some (r_, o_trial) := hf
    refine lv_iload hx hb dX0_permute_85 (lv_at hl 1 rfl) ?_
    refine lv_iload hx hb dX0_permute_87 (lv_at hl 2 rfl) ?_
    refine lv_icmp_ge (tgt := 109) hx hb dX0_permute_89 (by decide) (fun h1 => ?_) (fun h1 => ?_)
    · replace hf := if_t hf h1
      refine lv_iconst (v := (nI 1)) hx hb dX0_permute_109 (by decide) ?_
      cases hf
      exact mp_retz X hP hS rfl (Or.inr rfl) dX0_permute_110
    · replace hf := if_f hf h1
      refine lv_aload_n hx hb dX0_permute_92 rfl (lv_at hl 0 rfl) ?_
      refine lv_iload hx hb dX0_permute_93 (lv_at hl 1 rfl) ?_
      refine lv_iload hx hb dX0_permute_95 (lv_at hl 2 rfl) ?_
      obtain ⟨u2, c3, hf⟩ := bd_of hf
      have hPc := hP.sub (ws' := (k_X0_swap T a_ a_probe a_trial a_best v_bestMany v_trial)) [0, 1] rfl
      have hDc := (mp_D_of (w1 := (k_X0_permute T a_ a_probe a_trial a_best v_bestMany v_trial)) hD rfl).sub (ws' := (k_X0_swap T a_ a_probe a_trial a_best v_bestMany v_trial)) [0, 1] rfl rfl
      refine mp_callv (isC := [0, 1]) (wc := (k_X0_swap T a_ a_probe a_trial a_best v_bestMany v_trial)) (w1 := (k_X0_swap T a_ a_probe a_trial a_best v_bestMany u2)) hP (mp_D_of hD rfl) hS hA rfl rfl (mp_runV (As := [.int z4, .int z5]) (rest := []) X me_X0_swap lk_X0_85 (c_X0_swap l D T a_ a_probe a_trial a_best z4 z5 v_bestMany v_trial u2 c3) rfl rfl ⟨(Nat.le_of_ble_eq_true rfl), (Nat.le_of_ble_eq_true rfl)⟩ hK hPc hDc rfl rfl rfl rfl hl.1 rfl (Nat.le_of_ble_eq_true rfl) dX0_permute_97 ⟨Nat.zero_le _, Nat.zero_le _⟩) (fun H locs hP _ hS => ?_)
      replace hP : va_P D mp_cl (k_X0_permute T a_ a_probe a_trial a_best v_bestMany u2) H := hP
      obtain ⟨y4, e4⟩ : ∃ y : Int32, y = z4 + (nI 1) := ⟨_, rfl⟩
      replace hf := lt_of e4 hf
      refine lv_iinc (v := y4) (lv' := [(4, .int y4), (0, .ref a_), (5, .int z5)]) hx hb dX0_permute_100 hl (k := 1) rfl (by rw [e4]; rfl) (by decide) rfl (fun ls hl => ?_)
      obtain ⟨y5, e5⟩ : ∃ y : Int32, y = z5 + (-1 : Int32) := ⟨_, rfl⟩
      replace hf := lt_of e5 hf
      refine lv_iinc (v := y5) (lv' := [(5, .int y5), (4, .int y4), (0, .ref a_)]) hx hb dX0_permute_103 hl (k := 2) rfl (by rw [e5]; rfl) (by decide) rfl (fun ls hl => ?_)
      refine lv_goto (tgt := 85) hx hb dX0_permute_106 (by decide) ?_
      exact ih y4 y5 u2 hf _ _ _ hP (mp_D_of hD rfl) hS (lv_sub hl [2, 1, 0] rfl)

set_option maxHeartbeats 4000000 in
set_option maxRecDepth 100000 in
theorem w_X0_permute_69 {p : Program} {l : Launch} {e : Env} {s : State} {m : MethodId} {args : Array Value} {below : List Frame} {meth : Method} {c : Code} {D : va_G} {T : Nat → ClassId} {A : Nat → Prop} (X : mp_X p s m meth c args RX0 "permute" cX0_permute 6 (some .boolean)) (hK : va_K D mp_cl (mp_ty T) s) (hA : ∀ q, s.heap.size ≤ q → A q) (fu : Nat) (a_ a_probe a_trial a_best : Nat) (v_bestMany : Int32) (r_ : Int32) (o_trial : (Nat → Int32)) :
    ∀  (z1 : Int32) (z2 : Int32) (z3 : Int32) (v_trial : (Nat → Int32)), f_X0_permute_69 fu   z1 z2 z3 v_trial = some (r_, o_trial) → ∀ (H : Heap) (locs : List Loc) (ls : Array Slot), va_P D mp_cl (k_X0_permute T a_ a_probe a_trial a_best v_bestMany v_trial) H → va_D A (k_X0_permute T a_ a_probe a_trial a_best v_bestMany v_trial) → va_S A s.heap H locs → lv_has ls 6 [(0, .ref a_), (1, .int z1), (2, .int z2), (3, .int z3)] → W p l e ({ frames := 1, cells := 0, slots := 0, locals := 23 }) s m args below meth c H locs 0 0 (MQ below ((mp_Qi D r_ (k_X0_permute T a_ a_probe a_trial a_best v_bestMany o_trial)) A) args s 0 0 A) (F0 m 69 ls []) := by
  have hx := X.1
  have hb := X.2.1
  have hml := X.2.2.1
  have hown := X.2.2.2.2.1
  have hts := X.2.2.2.2.2.1
  intro z1 z2 z3 v_trial hf H locs ls hP hD hS hl
  replace hf : bd_ (f_X0_swap z2 z3 v_trial) (fun (u1 : (Nat → Int32)) => lt_ (z2 + (nI 1)) (fun (y3 : Int32) => lt_ (z1 - (nI 1)) (fun (y4 : Int32) => f_X0_permute_85 fu   fu y3 y4 u1))) = some (r_, o_trial) := hf
  refine lv_aload_n hx hb dX0_permute_69 rfl (lv_at hl 0 rfl) ?_
  refine lv_iload_n hx hb dX0_permute_70 rfl (lv_at hl 2 rfl) ?_
  refine lv_iload_n hx hb dX0_permute_71 rfl (lv_at hl 3 rfl) ?_
  obtain ⟨u1, c2, hf⟩ := bd_of hf
  have hPc := hP.sub (ws' := (k_X0_swap T a_ a_probe a_trial a_best v_bestMany v_trial)) [0, 1] rfl
  have hDc := (mp_D_of (w1 := (k_X0_permute T a_ a_probe a_trial a_best v_bestMany v_trial)) hD rfl).sub (ws' := (k_X0_swap T a_ a_probe a_trial a_best v_bestMany v_trial)) [0, 1] rfl rfl
  refine mp_callv (isC := [0, 1]) (wc := (k_X0_swap T a_ a_probe a_trial a_best v_bestMany v_trial)) (w1 := (k_X0_swap T a_ a_probe a_trial a_best v_bestMany u1)) hP (mp_D_of hD rfl) hS hA rfl rfl (mp_runV (As := [.int z2, .int z3]) (rest := []) X me_X0_swap lk_X0_85 (c_X0_swap l D T a_ a_probe a_trial a_best z2 z3 v_bestMany v_trial u1 c2) rfl rfl ⟨(Nat.le_of_ble_eq_true rfl), (Nat.le_of_ble_eq_true rfl)⟩ hK hPc hDc rfl rfl rfl rfl hl.1 rfl (Nat.le_of_ble_eq_true rfl) dX0_permute_72 ⟨Nat.zero_le _, Nat.zero_le _⟩) (fun H locs hP _ hS => ?_)
  replace hP : va_P D mp_cl (k_X0_permute T a_ a_probe a_trial a_best v_bestMany u1) H := hP
  refine lv_iload_n hx hb dX0_permute_75 rfl (lv_at hl 2 rfl) ?_
  refine lv_iconst (v := (nI 1)) hx hb dX0_permute_76 (by decide) ?_
  refine lv_iadd hx hb dX0_permute_77 ?_
  refine lv_topi (fun y3 e3 => ?_)
  replace hf := lt_of e3 hf
  refine lv_istore (lv' := [(4, .int y3), (0, .ref a_), (1, .int z1), (2, .int z2), (3, .int z3)]) hx hb dX0_permute_78 hl (by decide) rfl (fun ls hl => ?_)
  refine lv_iload_n hx hb dX0_permute_80 rfl (lv_at hl 2 rfl) ?_
  refine lv_iconst (v := (nI 1)) hx hb dX0_permute_81 (by decide) ?_
  refine lv_isub hx hb dX0_permute_82 ?_
  refine lv_topi (fun y4 e4 => ?_)
  replace hf := lt_of e4 hf
  refine lv_istore (lv' := [(5, .int y4), (4, .int y3), (0, .ref a_), (1, .int z1), (2, .int z2), (3, .int z3)]) hx hb dX0_permute_83 hl (by decide) rfl (fun ls hl => ?_)
  exact w_X0_permute_85 X hK hA  fu a_ a_probe a_trial a_best v_bestMany r_ o_trial   fu y3 y4 u1 hf _ _ _ hP (mp_D_of hD rfl) hS (lv_sub hl [2, 1, 0] rfl)

set_option maxHeartbeats 4000000 in
set_option maxRecDepth 100000 in
theorem w_X0_permute_41 {p : Program} {l : Launch} {e : Env} {s : State} {m : MethodId} {args : Array Value} {below : List Frame} {meth : Method} {c : Code} {D : va_G} {T : Nat → ClassId} {A : Nat → Prop} (X : mp_X p s m meth c args RX0 "permute" cX0_permute 6 (some .boolean)) (hK : va_K D mp_cl (mp_ty T) s) (hA : ∀ q, s.heap.size ≤ q → A q) (fu : Nat) (a_ a_probe a_trial a_best : Nat) (v_bestMany : Int32) (r_ : Int32) (o_trial : (Nat → Int32)) :
    ∀ (n : Nat) (z1 : Int32) (z2 : Int32) (z3 : Int32) (v_trial : (Nat → Int32)), f_X0_permute_41 fu   n z1 z2 z3 v_trial = some (r_, o_trial) → ∀ (H : Heap) (locs : List Loc) (ls : Array Slot), va_P D mp_cl (k_X0_permute T a_ a_probe a_trial a_best v_bestMany v_trial) H → va_D A (k_X0_permute T a_ a_probe a_trial a_best v_bestMany v_trial) → va_S A s.heap H locs → lv_has ls 6 [(0, .ref a_), (1, .int z1), (2, .int z2), (3, .int z3)] → W p l e ({ frames := 1, cells := 0, slots := 0, locals := 23 }) s m args below meth c H locs 0 0 (MQ below ((mp_Qi D r_ (k_X0_permute T a_ a_probe a_trial a_best v_bestMany o_trial)) A) args s 0 0 A) (F0 m 41 ls []) := by
  have hx := X.1
  have hb := X.2.1
  have hml := X.2.2.1
  have hown := X.2.2.2.2.1
  have hts := X.2.2.2.2.2.1
  intro n
  induction n with
  | zero => intro z1 z2 z3 v_trial hf; exact absurd hf (by intro h; cases h)
  | succ n ih =>
    intro z1 z2 z3 v_trial hf H locs ls hP hD hS hl
    replace hf : (if z3 ≤ (z2 + (nI 1)) then f_X0_permute_69 fu   z1 z2 z3 v_trial else gi_ z3 8 (gi_ z2 8 ((if (v_trial (z2).toNatClampNeg) ≤ (v_trial (z3).toNatClampNeg) then f_X0_permute_69 fu   z1 z2 z3 v_trial else lt_ (z3 + (-1 : Int32)) (fun (y5 : Int32) => f_X0_permute_41 fu   n z1 z2 y5 v_trial))))) = some (r_, o_trial) := hf
    refine lv_iload_n hx hb dX0_permute_41 rfl (lv_at hl 3 rfl) ?_
    refine lv_iload_n hx hb dX0_permute_42 rfl (lv_at hl 2 rfl) ?_
    refine lv_iconst (v := (nI 1)) hx hb dX0_permute_43 (by decide) ?_
    refine lv_iadd hx hb dX0_permute_44 ?_
    refine lv_icmp_le (tgt := 69) hx hb dX0_permute_45 (by decide) (fun h1 => ?_) (fun h1 => ?_)
    · replace hf := if_t hf h1
      exact w_X0_permute_69 X hK hA  fu a_ a_probe a_trial a_best v_bestMany r_ o_trial   z1 z2 z3 v_trial hf _ _ _ hP (mp_D_of hD rfl) hS (lv_sub hl [0, 1, 2, 3] rfl)
    · replace hf := if_f hf h1
      refine lv_aload_n hx hb dX0_permute_48 rfl (lv_at hl 0 rfl) ?_
      refine mp_get X fl_X0_18 hK hP 0 rfl rfl dX0_permute_49 ?_
      refine lv_iload_n hx hb dX0_permute_52 rfl (lv_at hl 3 rfl) ?_
      obtain ⟨h2, hf⟩ := gi_of hf
      refine va_iald hx hb hK hP 1 0 rfl rfl h2 dX0_permute_53 ?_
      refine lv_aload_n hx hb dX0_permute_54 rfl (lv_at hl 0 rfl) ?_
      refine mp_get X fl_X0_18 hK hP 0 rfl rfl dX0_permute_55 ?_
      refine lv_iload_n hx hb dX0_permute_58 rfl (lv_at hl 2 rfl) ?_
      obtain ⟨h3, hf⟩ := gi_of hf
      refine va_iald hx hb hK hP 1 0 rfl rfl h3 dX0_permute_59 ?_
      refine lv_icmp_ge (tgt := 69) hx hb dX0_permute_60 (by decide) (fun h4 => ?_) (fun h4 => ?_)
      · replace hf := if_t hf h4
        exact w_X0_permute_69 X hK hA  fu a_ a_probe a_trial a_best v_bestMany r_ o_trial   z1 z2 z3 v_trial hf _ _ _ hP (mp_D_of hD rfl) hS (lv_sub hl [0, 1, 2, 3] rfl)
      · replace hf := if_f hf h4
        obtain ⟨y5, e5⟩ : ∃ y : Int32, y = z3 + (-1 : Int32) := ⟨_, rfl⟩
        replace hf := lt_of e5 hf
        refine lv_iinc (v := y5) (lv' := [(3, .int y5), (0, .ref a_), (1, .int z1), (2, .int z2)]) hx hb dX0_permute_63 hl (k := 3) rfl (by rw [e5]; rfl) (by decide) rfl (fun ls hl => ?_)
        refine lv_goto (tgt := 41) hx hb dX0_permute_66 (by decide) ?_
        exact ih z1 z2 y5 v_trial hf _ _ _ hP (mp_D_of hD rfl) hS (lv_sub hl [1, 2, 3, 0] rfl)

set_option maxHeartbeats 4000000 in
set_option maxRecDepth 100000 in
theorem w_X0_permute_4 {p : Program} {l : Launch} {e : Env} {s : State} {m : MethodId} {args : Array Value} {below : List Frame} {meth : Method} {c : Code} {D : va_G} {T : Nat → ClassId} {A : Nat → Prop} (X : mp_X p s m meth c args RX0 "permute" cX0_permute 6 (some .boolean)) (hK : va_K D mp_cl (mp_ty T) s) (hA : ∀ q, s.heap.size ≤ q → A q) (fu : Nat) (a_ a_probe a_trial a_best : Nat) (v_bestMany : Int32) (r_ : Int32) (o_trial : (Nat → Int32)) :
    ∀ (n : Nat) (z1 : Int32) (z2 : Int32) (v_trial : (Nat → Int32)), f_X0_permute_4 fu   n z1 z2 v_trial = some (r_, o_trial) → ∀ (H : Heap) (locs : List Loc) (ls : Array Slot), va_P D mp_cl (k_X0_permute T a_ a_probe a_trial a_best v_bestMany v_trial) H → va_D A (k_X0_permute T a_ a_probe a_trial a_best v_bestMany v_trial) → va_S A s.heap H locs → lv_has ls 6 [(0, .ref a_), (1, .int z1), (2, .int z2)] → W p l e ({ frames := 1, cells := 0, slots := 0, locals := 23 }) s m args below meth c H locs 0 0 (MQ below ((mp_Qi D r_ (k_X0_permute T a_ a_probe a_trial a_best v_bestMany o_trial)) A) args s 0 0 A) (F0 m 4 ls []) := by
  have hx := X.1
  have hb := X.2.1
  have hml := X.2.2.1
  have hown := X.2.2.2.2.1
  have hts := X.2.2.2.2.2.1
  intro n
  induction n with
  | zero => intro z1 z2 v_trial hf; exact absurd hf (by intro h; cases h)
  | succ n ih =>
    intro z1 z2 v_trial hf H locs ls hP hD hS hl
    replace hf : (if z2 < 0 then (if 0 ≤ z2 then lt_ (z1 - (nI 1)) (fun (y3 : Int32) => f_X0_permute_41 fu   fu z1 z2 y3 v_trial) else some ((nI 0), v_trial)) else gi_ z2 8 (gi_ (z2 + (nI 1)) 8 ((if (v_trial (z2).toNatClampNeg) ≤ (v_trial (z2 + (nI 1)).toNatClampNeg) then (if 0 ≤ z2 then lt_ (z1 - (nI 1)) (fun (y8 : Int32) => f_X0_permute_41 fu   fu z1 z2 y8 v_trial) else some ((nI 0), v_trial)) else lt_ (z2 + (-1 : Int32)) (fun (y9 : Int32) => f_X0_permute_4 fu   n z1 y9 v_trial))))) = some (r_, o_trial) := hf
    refine lv_iload_n hx hb dX0_permute_4 rfl (lv_at hl 2 rfl) ?_
    refine lv_if_lt (tgt := 31) hx hb dX0_permute_5 (by decide) (fun h1 => ?_) (fun h1 => ?_)
    · replace hf := if_t hf h1
      refine lv_iload_n hx hb dX0_permute_31 rfl (lv_at hl 2 rfl) ?_
      refine lv_if_ge (tgt := 37) hx hb dX0_permute_32 (by decide) (fun h2 => ?_) (fun h2 => ?_)
      · replace hf := if_t hf h2
        refine lv_iload_n hx hb dX0_permute_37 rfl (lv_at hl 1 rfl) ?_
        refine lv_iconst (v := (nI 1)) hx hb dX0_permute_38 (by decide) ?_
        refine lv_isub hx hb dX0_permute_39 ?_
        refine lv_topi (fun y3 e3 => ?_)
        replace hf := lt_of e3 hf
        refine lv_istore_n (lv' := [(3, .int y3), (0, .ref a_), (1, .int z1), (2, .int z2)]) hx hb dX0_permute_40 rfl hl (by decide) rfl (fun ls hl => ?_)
        exact w_X0_permute_41 X hK hA  fu a_ a_probe a_trial a_best v_bestMany r_ o_trial   fu z1 z2 y3 v_trial hf _ _ _ hP (mp_D_of hD rfl) hS (lv_sub hl [1, 2, 3, 0] rfl)
      · replace hf := if_f hf h2
        refine lv_iconst (v := (nI 0)) hx hb dX0_permute_35 (by decide) ?_
        cases hf
        exact mp_retz X hP hS rfl (Or.inl rfl) dX0_permute_36
    · replace hf := if_f hf h1
      refine lv_aload_n hx hb dX0_permute_8 rfl (lv_at hl 0 rfl) ?_
      refine mp_get X fl_X0_18 hK hP 0 rfl rfl dX0_permute_9 ?_
      refine lv_iload_n hx hb dX0_permute_12 rfl (lv_at hl 2 rfl) ?_
      obtain ⟨h4, hf⟩ := gi_of hf
      refine va_iald hx hb hK hP 1 0 rfl rfl h4 dX0_permute_13 ?_
      refine lv_aload_n hx hb dX0_permute_14 rfl (lv_at hl 0 rfl) ?_
      refine mp_get X fl_X0_18 hK hP 0 rfl rfl dX0_permute_15 ?_
      refine lv_iload_n hx hb dX0_permute_18 rfl (lv_at hl 2 rfl) ?_
      refine lv_iconst (v := (nI 1)) hx hb dX0_permute_19 (by decide) ?_
      refine lv_iadd hx hb dX0_permute_20 ?_
      obtain ⟨h5, hf⟩ := gi_of hf
      refine va_iald hx hb hK hP 1 0 rfl rfl h5 dX0_permute_21 ?_
      refine lv_icmp_le (tgt := 31) hx hb dX0_permute_22 (by decide) (fun h6 => ?_) (fun h6 => ?_)
      · replace hf := if_t hf h6
        refine lv_iload_n hx hb dX0_permute_31 rfl (lv_at hl 2 rfl) ?_
        refine lv_if_ge (tgt := 37) hx hb dX0_permute_32 (by decide) (fun h7 => ?_) (fun h7 => ?_)
        · replace hf := if_t hf h7
          refine lv_iload_n hx hb dX0_permute_37 rfl (lv_at hl 1 rfl) ?_
          refine lv_iconst (v := (nI 1)) hx hb dX0_permute_38 (by decide) ?_
          refine lv_isub hx hb dX0_permute_39 ?_
          refine lv_topi (fun y8 e8 => ?_)
          replace hf := lt_of e8 hf
          refine lv_istore_n (lv' := [(3, .int y8), (0, .ref a_), (1, .int z1), (2, .int z2)]) hx hb dX0_permute_40 rfl hl (by decide) rfl (fun ls hl => ?_)
          exact w_X0_permute_41 X hK hA  fu a_ a_probe a_trial a_best v_bestMany r_ o_trial   fu z1 z2 y8 v_trial hf _ _ _ hP (mp_D_of hD rfl) hS (lv_sub hl [1, 2, 3, 0] rfl)
        · replace hf := if_f hf h7
          refine lv_iconst (v := (nI 0)) hx hb dX0_permute_35 (by decide) ?_
          cases hf
          exact mp_retz X hP hS rfl (Or.inl rfl) dX0_permute_36
      · replace hf := if_f hf h6
        obtain ⟨y9, e9⟩ : ∃ y : Int32, y = z2 + (-1 : Int32) := ⟨_, rfl⟩
        replace hf := lt_of e9 hf
        refine lv_iinc (v := y9) (lv' := [(2, .int y9), (0, .ref a_), (1, .int z1)]) hx hb dX0_permute_25 hl (k := 2) rfl (by rw [e9]; rfl) (by decide) rfl (fun ls hl => ?_)
        refine lv_goto (tgt := 4) hx hb dX0_permute_28 (by decide) ?_
        exact ih z1 y9 v_trial hf _ _ _ hP (mp_D_of hD rfl) hS (lv_sub hl [1, 2, 0] rfl)

set_option maxHeartbeats 4000000 in
set_option maxRecDepth 100000 in
theorem c_X0_permute (l : Launch) (D : va_G) (T : Nat → ClassId) (fu : Nat) (a_ a_probe a_trial a_best : Nat) (x1 : Int32) (v_bestMany : Int32) (v_trial : (Nat → Int32)) (r_ : Int32) (o_trial : (Nat → Int32)) (hf : f_X0_permute fu x1 v_trial = some (r_, o_trial)) :
    mp_M l D T yX0_permute cX0_permute 6 (some .boolean) ({ frames := 1, cells := 0, slots := 0, locals := 23 }) 0 0 [.ref a_, .int x1] (k_X0_permute T a_ a_probe a_trial a_best v_bestMany v_trial) (mp_Qi D r_ (k_X0_permute T a_ a_probe a_trial a_best v_bestMany o_trial)) := by
  refine mp_of (by decide) (Nat.le_of_ble_eq_true rfl) rfl ?_
  intro p e s m args below meth c A ls X hK hP hD hS hA hl
  replace X : mp_X p s m meth c args RX0 "permute" cX0_permute 6 (some .boolean) := X
  have hx := X.1
  have hb := X.2.1
  have hml := X.2.2.1
  have hown := X.2.2.2.2.1
  have hts := X.2.2.2.2.2.1
  replace hl : lv_has ls 6 [(0, .ref a_), (1, .int x1)] := hl
  replace hf : lt_ (x1 - (nI 2)) (fun (y1 : Int32) => f_X0_permute_4 fu   fu x1 y1 v_trial) = some (r_, o_trial) := hf
  refine lv_iload_n hx hb dX0_permute_0 rfl (lv_at hl 1 rfl) ?_
  refine lv_iconst (v := (nI 2)) hx hb dX0_permute_1 (by decide) ?_
  refine lv_isub hx hb dX0_permute_2 ?_
  refine lv_topi (fun y1 e1 => ?_)
  replace hf := lt_of e1 hf
  refine lv_istore_n (lv' := [(2, .int y1), (0, .ref a_), (1, .int x1)]) hx hb dX0_permute_3 rfl hl (by decide) rfl (fun ls hl => ?_)
  exact w_X0_permute_4 X hK hA  fu a_ a_probe a_trial a_best v_bestMany r_ o_trial   fu x1 y1 v_trial hf _ _ _ hP (mp_D_of hD rfl) hS (lv_sub hl [1, 2, 0] rfl)


def k_X0_seekBest (T : Nat → ClassId) (a_ a_probe a_trial a_best a_probe_order a_probe_knows a_probe_made a_probe_sixteenths a_probe_dots a_probe_used a_probe_stands a_p1 a_p1_cellNames a_p1_secretNames a_p1_pageNames a_p1_speed a_p1_letters a_p1_room a_p1_now a_p1_rounds a_p1_now_order a_p1_now_knows a_p1_now_made a_p1_now_sixteenths a_p1_now_dots a_p1_now_used a_p1_now_stands : Nat) (v_bestMany : Int32) (v_best : (Nat → Int32)) (v_probe_inOrder : Int32) (v_probe_place : Int32) (v_probe_ill : Int32) (v_probe_shut : Int32) (v_probe_turns : Int32) (v_probe_madeInAll : Int32) (v_probe_dots : (Nat → Int32)) (v_probe_knows : (Nat → Int32)) (v_probe_made : (Nat → Int32)) (v_probe_order : (Nat → Int32)) (v_probe_sixteenths : (Nat → Int32)) (v_probe_stands : (Nat → Int32)) (v_probe_used : (Nat → Int32)) (v_trial : (Nat → Int32)) (v_p1_cells : Int32) (v_p1_secrets : Int32) (v_p1_pages : Int32) (v_p1_blind : Int32) (v_p1_rubs : Int32) (v_p1_letters : (Nat → Int32)) (v_p1_now_inOrder : Int32) (v_p1_now_place : Int32) (v_p1_now_ill : Int32) (v_p1_now_shut : Int32) (v_p1_now_turns : Int32) (v_p1_now_madeInAll : Int32) (v_p1_now_dots : (Nat → Int32)) (v_p1_now_knows : (Nat → Int32)) (v_p1_now_made : (Nat → Int32)) (v_p1_now_order : (Nat → Int32)) (v_p1_now_sixteenths : (Nat → Int32)) (v_p1_now_stands : (Nat → Int32)) (v_p1_now_used : (Nat → Int32)) (v_p1_room : (Nat → Int32)) (v_p1_speed : (Nat → Int32)) : va_W := [(a_, oX0 a_probe a_trial a_best v_bestMany), (a_best, mp_aI T 6 v_best), (a_probe, oX7 a_probe_order v_probe_inOrder v_probe_place a_probe_knows a_probe_made a_probe_sixteenths a_probe_dots a_probe_used a_probe_stands v_probe_ill v_probe_shut v_probe_turns v_probe_madeInAll), (a_probe_dots, mp_aI T 36 v_probe_dots), (a_probe_knows, mp_aI T 8 v_probe_knows), (a_probe_made, mp_aI T 8 v_probe_made), (a_probe_order, mp_aI T 8 v_probe_order), (a_probe_sixteenths, mp_aI T 6 v_probe_sixteenths), (a_probe_stands, mp_aI T 6 v_probe_stands), (a_probe_used, mp_aI T 6 v_probe_used), (a_trial, mp_aI T 8 v_trial), (a_p1, oX1 v_p1_cells v_p1_secrets v_p1_pages a_p1_cellNames a_p1_secretNames a_p1_pageNames a_p1_speed v_p1_blind v_p1_rubs a_p1_letters a_p1_room a_p1_now a_p1_rounds), (a_p1_letters, mp_aI T 6 v_p1_letters), (a_p1_now, oX7 a_p1_now_order v_p1_now_inOrder v_p1_now_place a_p1_now_knows a_p1_now_made a_p1_now_sixteenths a_p1_now_dots a_p1_now_used a_p1_now_stands v_p1_now_ill v_p1_now_shut v_p1_now_turns v_p1_now_madeInAll), (a_p1_now_dots, mp_aI T 36 v_p1_now_dots), (a_p1_now_knows, mp_aI T 8 v_p1_now_knows), (a_p1_now_made, mp_aI T 8 v_p1_now_made), (a_p1_now_order, mp_aI T 8 v_p1_now_order), (a_p1_now_sixteenths, mp_aI T 6 v_p1_now_sixteenths), (a_p1_now_stands, mp_aI T 6 v_p1_now_stands), (a_p1_now_used, mp_aI T 6 v_p1_now_used), (a_p1_room, mp_aI T 6 v_p1_room), (a_p1_speed, mp_aI T 8 v_p1_speed)]
set_option maxHeartbeats 4000000 in
set_option maxRecDepth 100000 in
theorem w_X0_seekBest_33 {p : Program} {l : Launch} {e : Env} {s : State} {m : MethodId} {args : Array Value} {below : List Frame} {meth : Method} {c : Code} {D : va_G} {T : Nat → ClassId} {A : Nat → Prop} (X : mp_X p s m meth c args RX0 "seekBest" cX0_seekBest 7 (some .int)) (hK : va_K D mp_cl (mp_ty T) s) (hA : ∀ q, s.heap.size ≤ q → A q) (fu : Nat) (a_ a_probe a_trial a_best a_probe_order a_probe_knows a_probe_made a_probe_sixteenths a_probe_dots a_probe_used a_probe_stands a_p1 a_p1_cellNames a_p1_secretNames a_p1_pageNames a_p1_speed a_p1_letters a_p1_room a_p1_now a_p1_rounds a_p1_now_order a_p1_now_knows a_p1_now_made a_p1_now_sixteenths a_p1_now_dots a_p1_now_used a_p1_now_stands : Nat) (v_p1_cells : Int32) (v_p1_secrets : Int32) (v_p1_pages : Int32) (v_p1_blind : Int32) (v_p1_rubs : Int32) (v_p1_letters : (Nat → Int32)) (v_p1_now_inOrder : Int32) (v_p1_now_place : Int32) (v_p1_now_ill : Int32) (v_p1_now_shut : Int32) (v_p1_now_turns : Int32) (v_p1_now_madeInAll : Int32) (v_p1_now_dots : (Nat → Int32)) (v_p1_now_knows : (Nat → Int32)) (v_p1_now_made : (Nat → Int32)) (v_p1_now_order : (Nat → Int32)) (v_p1_now_sixteenths : (Nat → Int32)) (v_p1_now_stands : (Nat → Int32)) (v_p1_now_used : (Nat → Int32)) (v_p1_room : (Nat → Int32)) (v_p1_speed : (Nat → Int32)) (r_ : Int32) (o_bestMany : Int32) (o_best : (Nat → Int32)) (o_probe_inOrder : Int32) (o_probe_place : Int32) (o_probe_ill : Int32) (o_probe_shut : Int32) (o_probe_turns : Int32) (o_probe_madeInAll : Int32) (o_probe_dots : (Nat → Int32)) (o_probe_knows : (Nat → Int32)) (o_probe_made : (Nat → Int32)) (o_probe_order : (Nat → Int32)) (o_probe_sixteenths : (Nat → Int32)) (o_probe_stands : (Nat → Int32)) (o_probe_used : (Nat → Int32)) (o_trial : (Nat → Int32)) :
    ∀ (n : Nat) (z2 : Int32) (z3 : Int32) (z4 : Int32) (z5 : Int32) (v_bestMany : Int32) (v_best : (Nat → Int32)) (v_probe_inOrder : Int32) (v_probe_place : Int32) (v_probe_ill : Int32) (v_probe_shut : Int32) (v_probe_turns : Int32) (v_probe_madeInAll : Int32) (v_probe_dots : (Nat → Int32)) (v_probe_knows : (Nat → Int32)) (v_probe_made : (Nat → Int32)) (v_probe_order : (Nat → Int32)) (v_probe_sixteenths : (Nat → Int32)) (v_probe_stands : (Nat → Int32)) (v_probe_used : (Nat → Int32)) (v_trial : (Nat → Int32)), f_X0_seekBest_33 fu v_p1_cells v_p1_secrets v_p1_pages v_p1_blind v_p1_rubs v_p1_letters v_p1_now_inOrder v_p1_now_place v_p1_now_ill v_p1_now_shut v_p1_now_turns v_p1_now_madeInAll v_p1_now_dots v_p1_now_knows v_p1_now_made v_p1_now_order v_p1_now_sixteenths v_p1_now_stands v_p1_now_used v_p1_room v_p1_speed  n z2 z3 z4 z5 v_bestMany v_best v_probe_inOrder v_probe_place v_probe_ill v_probe_shut v_probe_turns v_probe_madeInAll v_probe_dots v_probe_knows v_probe_made v_probe_order v_probe_sixteenths v_probe_stands v_probe_used v_trial = some (r_, o_bestMany, o_best, o_probe_inOrder, o_probe_place, o_probe_ill, o_probe_shut, o_probe_turns, o_probe_madeInAll, o_probe_dots, o_probe_knows, o_probe_made, o_probe_order, o_probe_sixteenths, o_probe_stands, o_probe_used, o_trial) → ∀ (H : Heap) (locs : List Loc) (ls : Array Slot), va_P D mp_cl (k_X0_seekBest T a_ a_probe a_trial a_best a_probe_order a_probe_knows a_probe_made a_probe_sixteenths a_probe_dots a_probe_used a_probe_stands a_p1 a_p1_cellNames a_p1_secretNames a_p1_pageNames a_p1_speed a_p1_letters a_p1_room a_p1_now a_p1_rounds a_p1_now_order a_p1_now_knows a_p1_now_made a_p1_now_sixteenths a_p1_now_dots a_p1_now_used a_p1_now_stands v_bestMany v_best v_probe_inOrder v_probe_place v_probe_ill v_probe_shut v_probe_turns v_probe_madeInAll v_probe_dots v_probe_knows v_probe_made v_probe_order v_probe_sixteenths v_probe_stands v_probe_used v_trial v_p1_cells v_p1_secrets v_p1_pages v_p1_blind v_p1_rubs v_p1_letters v_p1_now_inOrder v_p1_now_place v_p1_now_ill v_p1_now_shut v_p1_now_turns v_p1_now_madeInAll v_p1_now_dots v_p1_now_knows v_p1_now_made v_p1_now_order v_p1_now_sixteenths v_p1_now_stands v_p1_now_used v_p1_room v_p1_speed) H → va_D A (k_X0_seekBest T a_ a_probe a_trial a_best a_probe_order a_probe_knows a_probe_made a_probe_sixteenths a_probe_dots a_probe_used a_probe_stands a_p1 a_p1_cellNames a_p1_secretNames a_p1_pageNames a_p1_speed a_p1_letters a_p1_room a_p1_now a_p1_rounds a_p1_now_order a_p1_now_knows a_p1_now_made a_p1_now_sixteenths a_p1_now_dots a_p1_now_used a_p1_now_stands v_bestMany v_best v_probe_inOrder v_probe_place v_probe_ill v_probe_shut v_probe_turns v_probe_madeInAll v_probe_dots v_probe_knows v_probe_made v_probe_order v_probe_sixteenths v_probe_stands v_probe_used v_trial v_p1_cells v_p1_secrets v_p1_pages v_p1_blind v_p1_rubs v_p1_letters v_p1_now_inOrder v_p1_now_place v_p1_now_ill v_p1_now_shut v_p1_now_turns v_p1_now_madeInAll v_p1_now_dots v_p1_now_knows v_p1_now_made v_p1_now_order v_p1_now_sixteenths v_p1_now_stands v_p1_now_used v_p1_room v_p1_speed) → va_S A s.heap H locs → lv_has ls 7 [(0, .ref a_), (1, .ref a_p1), (2, .int z2), (3, .int z3), (4, .int z4), (5, .int z5)] → W p l e ({ frames := 5, cells := 0, slots := 0, locals := 143 }) s m args below meth c H locs 0 0 (MQ below ((mp_Qi D r_ (k_X0_seekBest T a_ a_probe a_trial a_best a_probe_order a_probe_knows a_probe_made a_probe_sixteenths a_probe_dots a_probe_used a_probe_stands a_p1 a_p1_cellNames a_p1_secretNames a_p1_pageNames a_p1_speed a_p1_letters a_p1_room a_p1_now a_p1_rounds a_p1_now_order a_p1_now_knows a_p1_now_made a_p1_now_sixteenths a_p1_now_dots a_p1_now_used a_p1_now_stands o_bestMany o_best o_probe_inOrder o_probe_place o_probe_ill o_probe_shut o_probe_turns o_probe_madeInAll o_probe_dots o_probe_knows o_probe_made o_probe_order o_probe_sixteenths o_probe_stands o_probe_used o_trial v_p1_cells v_p1_secrets v_p1_pages v_p1_blind v_p1_rubs v_p1_letters v_p1_now_inOrder v_p1_now_place v_p1_now_ill v_p1_now_shut v_p1_now_turns v_p1_now_madeInAll v_p1_now_dots v_p1_now_knows v_p1_now_made v_p1_now_order v_p1_now_sixteenths v_p1_now_stands v_p1_now_used v_p1_room v_p1_speed)) A) args s 0 0 A) (F0 m 33 ls []) := by
  have hx := X.1
  have hb := X.2.1
  have hml := X.2.2.1
  have hown := X.2.2.2.2.1
  have hts := X.2.2.2.2.2.1
  intro n
  induction n with
  | zero => intro z2 z3 z4 z5 v_bestMany v_best v_probe_inOrder v_probe_place v_probe_ill v_probe_shut v_probe_turns v_probe_madeInAll v_probe_dots v_probe_knows v_probe_made v_probe_order v_probe_sixteenths v_probe_stands v_probe_used v_trial hf; exact absurd hf (by intro h; cases h)
  | succ n ih =>
    intro z2 z3 z4 z5 v_bestMany v_best v_probe_inOrder v_probe_place v_probe_ill v_probe_shut v_probe_turns v_probe_madeInAll v_probe_dots v_probe_knows v_probe_made v_probe_order v_probe_sixteenths v_probe_stands v_probe_used v_trial hf H locs ls hP hD hS hl
    replace hf : (if (nI 720) ≤ z5 then (if z3 ≤ (nI 99) then some (z3, v_bestMany, v_best, v_probe_inOrder, v_probe_place, v_probe_ill, v_probe_shut, v_probe_turns, v_probe_madeInAll, v_probe_dots, v_probe_knows, v_probe_made, v_probe_order, v_probe_sixteenths, v_probe_stands, v_probe_used, v_trial) else some ((-1 : Int32), v_bestMany, v_best, v_probe_inOrder, v_probe_place, v_probe_ill, v_probe_shut, v_probe_turns, v_probe_madeInAll, v_probe_dots, v_probe_knows, v_probe_made, v_probe_order, v_probe_sixteenths, v_probe_stands, v_probe_used, v_trial)) else (if z4 = 0 then (if z3 ≤ (nI 99) then some (z3, v_bestMany, v_best, v_probe_inOrder, v_probe_place, v_probe_ill, v_probe_shut, v_probe_turns, v_probe_madeInAll, v_probe_dots, v_probe_knows, v_probe_made, v_probe_order, v_probe_sixteenths, v_probe_stands, v_probe_used, v_trial) else some ((-1 : Int32), v_bestMany, v_best, v_probe_inOrder, v_probe_place, v_probe_ill, v_probe_shut, v_probe_turns, v_probe_madeInAll, v_probe_dots, v_probe_knows, v_probe_made, v_probe_order, v_probe_sixteenths, v_probe_stands, v_probe_used, v_trial)) else (if z3 ≤ 0 then (if z3 ≤ (nI 99) then some (z3, v_bestMany, v_best, v_probe_inOrder, v_probe_place, v_probe_ill, v_probe_shut, v_probe_turns, v_probe_madeInAll, v_probe_dots, v_probe_knows, v_probe_made, v_probe_order, v_probe_sixteenths, v_probe_stands, v_probe_used, v_trial) else some ((-1 : Int32), v_bestMany, v_best, v_probe_inOrder, v_probe_place, v_probe_ill, v_probe_shut, v_probe_turns, v_probe_madeInAll, v_probe_dots, v_probe_knows, v_probe_made, v_probe_order, v_probe_sixteenths, v_probe_stands, v_probe_used, v_trial)) else bd_ (f_X7_copyFrom v_probe_inOrder v_probe_place v_probe_ill v_probe_shut v_probe_turns v_probe_madeInAll v_probe_dots v_probe_knows v_probe_made v_probe_order v_probe_sixteenths v_probe_stands v_probe_used v_p1_now_inOrder v_p1_now_place v_p1_now_ill v_p1_now_shut v_p1_now_turns v_p1_now_madeInAll v_p1_now_dots v_p1_now_knows v_p1_now_made v_p1_now_order v_p1_now_sixteenths v_p1_now_stands v_p1_now_used) (fun (z : Int32 × Int32 × Int32 × Int32 × Int32 × Int32 × (Nat → Int32) × (Nat → Int32) × (Nat → Int32) × (Nat → Int32) × (Nat → Int32) × (Nat → Int32) × (Nat → Int32)) => match z with | (u7, u8, u9, u10, u11, u12, u13, u14, u15, u16, u17, u18, u19) => bd_ (f_X7_orderAnew 8 u7 u8 u16 v_trial) (fun (z : Int32 × (Nat → Int32)) => match z with | (u21, u22) => bd_ (f_X1_seeing v_p1_cells v_p1_blind) (fun (r24 : Int32) => bd_ (f_X1_allSecrets v_p1_secrets) (fun (r26 : Int32) => bd_ (f_X0_probeTill fu r24 r26 (z3 - (nI 1)) u7 u21 u9 u10 u11 u12 u13 u14 u15 u22 u18 u19 v_p1_secrets v_p1_pages v_p1_blind v_p1_rubs v_p1_letters v_p1_room v_p1_speed) (fun (z : Int32 × Int32 × Int32 × Int32 × (Nat → Int32) × (Nat → Int32) × (Nat → Int32) × (Nat → Int32) × (Nat → Int32)) => match z with | (r28, u29, u30, u31, u32, u33, u34, u35, u36) => (if r28 = (-1 : Int32) then bd_ (f_X0_permute fu z2 v_trial) (fun (z : Int32 × (Nat → Int32)) => match z with | (r39, u40) => lt_ (z5 + (nI 1)) (fun (y42 : Int32) => f_X0_seekBest_33 fu v_p1_cells v_p1_secrets v_p1_pages v_p1_blind v_p1_rubs v_p1_letters v_p1_now_inOrder v_p1_now_place v_p1_now_ill v_p1_now_shut v_p1_now_turns v_p1_now_madeInAll v_p1_now_dots v_p1_now_knows v_p1_now_made v_p1_now_order v_p1_now_sixteenths v_p1_now_stands v_p1_now_used v_p1_room v_p1_speed  n z2 z3 r39 y42 v_bestMany v_best u7 u29 u9 u10 u30 u31 u32 u33 u34 u22 u17 u35 u36 u40)) else gc_ (nI 0) (nI 0) z2 8 6 (bd_ (f_X0_permute fu z2 v_trial) (fun (z : Int32 × (Nat → Int32)) => match z with | (r44, u45) => lt_ (z5 + (nI 1)) (fun (y47 : Int32) => f_X0_seekBest_33 fu v_p1_cells v_p1_secrets v_p1_pages v_p1_blind v_p1_rubs v_p1_letters v_p1_now_inOrder v_p1_now_place v_p1_now_ill v_p1_now_shut v_p1_now_turns v_p1_now_madeInAll v_p1_now_dots v_p1_now_knows v_p1_now_made v_p1_now_order v_p1_now_sixteenths v_p1_now_stands v_p1_now_used v_p1_room v_p1_speed  n z2 r28 r44 y47 z2 (va_cpy v_trial v_best ((nI 0)).toNatClampNeg ((nI 0)).toNatClampNeg (z2).toNatClampNeg) u7 u29 u9 u10 u30 u31 u32 u33 u34 u22 u17 u35 u36 u45)))))))))))) = some (r_, o_bestMany, o_best, o_probe_inOrder, o_probe_place, o_probe_ill, o_probe_shut, o_probe_turns, o_probe_madeInAll, o_probe_dots, o_probe_knows, o_probe_made, o_probe_order, o_probe_sixteenths, o_probe_stands, o_probe_used, o_trial) := hf
    refine lv_iload hx hb dX0_seekBest_33 (lv_at hl 5 rfl) ?_
    refine lv_sipush (v := (nI 720)) hx hb dX0_seekBest_35 (by decide) ?_
    refine lv_icmp_ge (tgt := 131) hx hb dX0_seekBest_38 (by decide) (fun h1 => ?_) (fun h1 => ?_)
    · replace hf := if_t hf h1
      refine lv_iload_n hx hb dX0_seekBest_131 rfl (lv_at hl 3 rfl) ?_
      refine lv_bipush (v := (nI 99)) hx hb dX0_seekBest_132 (by decide) ?_
      refine lv_icmp_le (tgt := 141) hx hb dX0_seekBest_134 (by decide) (fun h2 => ?_) (fun h2 => ?_)
      · replace hf := if_t hf h2
        refine lv_iload_n hx hb dX0_seekBest_141 rfl (lv_at hl 3 rfl) ?_
        cases hf
        exact mp_reti X hP hS rfl dX0_seekBest_142
      · replace hf := if_f hf h2
        refine lv_iconst (v := (-1 : Int32)) hx hb dX0_seekBest_137 (by decide) ?_
        refine lv_goto (tgt := 142) hx hb dX0_seekBest_138 (by decide) ?_
        cases hf
        exact mp_reti X hP hS rfl dX0_seekBest_142
    · replace hf := if_f hf h1
      refine lv_iload hx hb dX0_seekBest_41 (lv_at hl 4 rfl) ?_
      refine lv_if_eq (tgt := 131) hx hb dX0_seekBest_43 (by decide) (fun h3 => ?_) (fun h3 => ?_)
      · replace hf := if_t hf h3
        refine lv_iload_n hx hb dX0_seekBest_131 rfl (lv_at hl 3 rfl) ?_
        refine lv_bipush (v := (nI 99)) hx hb dX0_seekBest_132 (by decide) ?_
        refine lv_icmp_le (tgt := 141) hx hb dX0_seekBest_134 (by decide) (fun h4 => ?_) (fun h4 => ?_)
        · replace hf := if_t hf h4
          refine lv_iload_n hx hb dX0_seekBest_141 rfl (lv_at hl 3 rfl) ?_
          cases hf
          exact mp_reti X hP hS rfl dX0_seekBest_142
        · replace hf := if_f hf h4
          refine lv_iconst (v := (-1 : Int32)) hx hb dX0_seekBest_137 (by decide) ?_
          refine lv_goto (tgt := 142) hx hb dX0_seekBest_138 (by decide) ?_
          cases hf
          exact mp_reti X hP hS rfl dX0_seekBest_142
      · replace hf := if_f hf h3
        refine lv_iload_n hx hb dX0_seekBest_46 rfl (lv_at hl 3 rfl) ?_
        refine lv_if_le (tgt := 131) hx hb dX0_seekBest_47 (by decide) (fun h5 => ?_) (fun h5 => ?_)
        · replace hf := if_t hf h5
          refine lv_iload_n hx hb dX0_seekBest_131 rfl (lv_at hl 3 rfl) ?_
          refine lv_bipush (v := (nI 99)) hx hb dX0_seekBest_132 (by decide) ?_
          refine lv_icmp_le (tgt := 141) hx hb dX0_seekBest_134 (by decide) (fun h6 => ?_) (fun h6 => ?_)
          · replace hf := if_t hf h6
            refine lv_iload_n hx hb dX0_seekBest_141 rfl (lv_at hl 3 rfl) ?_
            cases hf
            exact mp_reti X hP hS rfl dX0_seekBest_142
          · replace hf := if_f hf h6
            refine lv_iconst (v := (-1 : Int32)) hx hb dX0_seekBest_137 (by decide) ?_
            refine lv_goto (tgt := 142) hx hb dX0_seekBest_138 (by decide) ?_
            cases hf
            exact mp_reti X hP hS rfl dX0_seekBest_142
        · replace hf := if_f hf h5
          refine lv_aload_n hx hb dX0_seekBest_50 rfl (lv_at hl 0 rfl) ?_
          refine mp_get X fl_X0_12 hK hP 0 rfl rfl dX0_seekBest_51 ?_
          refine lv_aload_n hx hb dX0_seekBest_54 rfl (lv_at hl 1 rfl) ?_
          refine mp_get X fl_X0_29 hK hP 11 rfl rfl dX0_seekBest_55 ?_
          obtain ⟨⟨u7, u8, u9, u10, u11, u12, u13, u14, u15, u16, u17, u18, u19⟩, c20, hf⟩ := bd_of hf
          dsimp only at hf
          have hPc := hP.sub (ws' := (k_X7_copyFrom T a_probe a_probe_order a_probe_knows a_probe_made a_probe_sixteenths a_probe_dots a_probe_used a_probe_stands a_p1_now a_p1_now_order a_p1_now_knows a_p1_now_made a_p1_now_sixteenths a_p1_now_dots a_p1_now_used a_p1_now_stands v_probe_inOrder v_probe_place v_probe_ill v_probe_shut v_probe_turns v_probe_madeInAll v_probe_dots v_probe_knows v_probe_made v_probe_order v_probe_sixteenths v_probe_stands v_probe_used v_p1_now_inOrder v_p1_now_place v_p1_now_ill v_p1_now_shut v_p1_now_turns v_p1_now_madeInAll v_p1_now_dots v_p1_now_knows v_p1_now_made v_p1_now_order v_p1_now_sixteenths v_p1_now_stands v_p1_now_used)) [2, 3, 4, 5, 6, 7, 8, 9, 13, 14, 15, 16, 17, 18, 19, 20] rfl
          have hDc := (mp_D_of (w1 := (k_X0_seekBest T a_ a_probe a_trial a_best a_probe_order a_probe_knows a_probe_made a_probe_sixteenths a_probe_dots a_probe_used a_probe_stands a_p1 a_p1_cellNames a_p1_secretNames a_p1_pageNames a_p1_speed a_p1_letters a_p1_room a_p1_now a_p1_rounds a_p1_now_order a_p1_now_knows a_p1_now_made a_p1_now_sixteenths a_p1_now_dots a_p1_now_used a_p1_now_stands v_bestMany v_best v_probe_inOrder v_probe_place v_probe_ill v_probe_shut v_probe_turns v_probe_madeInAll v_probe_dots v_probe_knows v_probe_made v_probe_order v_probe_sixteenths v_probe_stands v_probe_used v_trial v_p1_cells v_p1_secrets v_p1_pages v_p1_blind v_p1_rubs v_p1_letters v_p1_now_inOrder v_p1_now_place v_p1_now_ill v_p1_now_shut v_p1_now_turns v_p1_now_madeInAll v_p1_now_dots v_p1_now_knows v_p1_now_made v_p1_now_order v_p1_now_sixteenths v_p1_now_stands v_p1_now_used v_p1_room v_p1_speed)) hD rfl).sub (ws' := (k_X7_copyFrom T a_probe a_probe_order a_probe_knows a_probe_made a_probe_sixteenths a_probe_dots a_probe_used a_probe_stands a_p1_now a_p1_now_order a_p1_now_knows a_p1_now_made a_p1_now_sixteenths a_p1_now_dots a_p1_now_used a_p1_now_stands v_probe_inOrder v_probe_place v_probe_ill v_probe_shut v_probe_turns v_probe_madeInAll v_probe_dots v_probe_knows v_probe_made v_probe_order v_probe_sixteenths v_probe_stands v_probe_used v_p1_now_inOrder v_p1_now_place v_p1_now_ill v_p1_now_shut v_p1_now_turns v_p1_now_madeInAll v_p1_now_dots v_p1_now_knows v_p1_now_made v_p1_now_order v_p1_now_sixteenths v_p1_now_stands v_p1_now_used)) [2, 3, 4, 5, 6, 7, 8, 9, 13, 14, 15, 16, 17, 18, 19, 20] rfl rfl
          refine mp_callv2 (isC := [2, 3, 4, 5, 6, 7, 8, 9, 13, 14, 15, 16, 17, 18, 19, 20]) (isO := [0, 1, 10, 11, 12, 21, 22]) (wc := (k_X7_copyFrom T a_probe a_probe_order a_probe_knows a_probe_made a_probe_sixteenths a_probe_dots a_probe_used a_probe_stands a_p1_now a_p1_now_order a_p1_now_knows a_p1_now_made a_p1_now_sixteenths a_p1_now_dots a_p1_now_used a_p1_now_stands v_probe_inOrder v_probe_place v_probe_ill v_probe_shut v_probe_turns v_probe_madeInAll v_probe_dots v_probe_knows v_probe_made v_probe_order v_probe_sixteenths v_probe_stands v_probe_used v_p1_now_inOrder v_p1_now_place v_p1_now_ill v_p1_now_shut v_p1_now_turns v_p1_now_madeInAll v_p1_now_dots v_p1_now_knows v_p1_now_made v_p1_now_order v_p1_now_sixteenths v_p1_now_stands v_p1_now_used)) (w1 := (k_X7_copyFrom T a_probe a_probe_order a_probe_knows a_probe_made a_probe_sixteenths a_probe_dots a_probe_used a_probe_stands a_p1_now a_p1_now_order a_p1_now_knows a_p1_now_made a_p1_now_sixteenths a_p1_now_dots a_p1_now_used a_p1_now_stands u7 u8 u9 u10 u11 u12 u13 u14 u15 u16 u17 u18 u19 v_p1_now_inOrder v_p1_now_place v_p1_now_ill v_p1_now_shut v_p1_now_turns v_p1_now_madeInAll v_p1_now_dots v_p1_now_knows v_p1_now_made v_p1_now_order v_p1_now_sixteenths v_p1_now_stands v_p1_now_used)) (wo := [(a_, oX0 a_probe a_trial a_best v_bestMany), (a_best, mp_aI T 6 v_best), (a_trial, mp_aI T 8 v_trial), (a_p1, oX1 v_p1_cells v_p1_secrets v_p1_pages a_p1_cellNames a_p1_secretNames a_p1_pageNames a_p1_speed v_p1_blind v_p1_rubs a_p1_letters a_p1_room a_p1_now a_p1_rounds), (a_p1_letters, mp_aI T 6 v_p1_letters), (a_p1_room, mp_aI T 6 v_p1_room), (a_p1_speed, mp_aI T 8 v_p1_speed)]) (w2 := (k_X0_seekBest T a_ a_probe a_trial a_best a_probe_order a_probe_knows a_probe_made a_probe_sixteenths a_probe_dots a_probe_used a_probe_stands a_p1 a_p1_cellNames a_p1_secretNames a_p1_pageNames a_p1_speed a_p1_letters a_p1_room a_p1_now a_p1_rounds a_p1_now_order a_p1_now_knows a_p1_now_made a_p1_now_sixteenths a_p1_now_dots a_p1_now_used a_p1_now_stands v_bestMany v_best u7 u8 u9 u10 u11 u12 u13 u14 u15 u16 u17 u18 u19 v_trial v_p1_cells v_p1_secrets v_p1_pages v_p1_blind v_p1_rubs v_p1_letters v_p1_now_inOrder v_p1_now_place v_p1_now_ill v_p1_now_shut v_p1_now_turns v_p1_now_madeInAll v_p1_now_dots v_p1_now_knows v_p1_now_made v_p1_now_order v_p1_now_sixteenths v_p1_now_stands v_p1_now_used v_p1_room v_p1_speed)) (n := 23) hP (mp_D_of hD rfl) hS hA rfl rfl rfl rfl rfl rfl (by decide +kernel) (mp_runV (As := [.ref a_p1_now]) (rest := []) X me_X7_copyFrom lk_X0_34 (c_X7_copyFrom l D T a_probe a_probe_order a_probe_knows a_probe_made a_probe_sixteenths a_probe_dots a_probe_used a_probe_stands a_p1_now a_p1_now_order a_p1_now_knows a_p1_now_made a_p1_now_sixteenths a_p1_now_dots a_p1_now_used a_p1_now_stands v_probe_inOrder v_probe_place v_probe_ill v_probe_shut v_probe_turns v_probe_madeInAll v_probe_dots v_probe_knows v_probe_made v_probe_order v_probe_sixteenths v_probe_stands v_probe_used v_p1_now_inOrder v_p1_now_place v_p1_now_ill v_p1_now_shut v_p1_now_turns v_p1_now_madeInAll v_p1_now_dots v_p1_now_knows v_p1_now_made v_p1_now_order v_p1_now_sixteenths v_p1_now_stands v_p1_now_used u7 u8 u9 u10 u11 u12 u13 u14 u15 u16 u17 u18 u19 c20) rfl rfl ⟨(Nat.le_of_ble_eq_true rfl), (Nat.le_of_ble_eq_true rfl)⟩ hK hPc hDc rfl rfl rfl rfl hl.1 rfl (Nat.le_of_ble_eq_true rfl) dX0_seekBest_58 ⟨Nat.zero_le _, Nat.zero_le _⟩) (fun H locs hP _ hS => ?_)
          refine lv_aload_n hx hb dX0_seekBest_61 rfl (lv_at hl 0 rfl) ?_
          refine mp_get X fl_X0_12 hK hP 0 rfl rfl dX0_seekBest_62 ?_
          refine lv_aload_n hx hb dX0_seekBest_65 rfl (lv_at hl 0 rfl) ?_
          refine mp_get X fl_X0_18 hK hP 0 rfl rfl dX0_seekBest_66 ?_
          obtain ⟨⟨u21, u22⟩, c23, hf⟩ := bd_of hf
          dsimp only at hf
          have hPc := hP.sub (ws' := (k_X7_orderAnew T a_probe a_probe_order a_probe_knows a_probe_made a_probe_sixteenths a_probe_dots a_probe_used a_probe_stands a_trial 8 u7 u8 u9 u10 u11 u12 u16 v_trial)) [2, 6, 10] rfl
          have hDc := (mp_D_of (w1 := (k_X0_seekBest T a_ a_probe a_trial a_best a_probe_order a_probe_knows a_probe_made a_probe_sixteenths a_probe_dots a_probe_used a_probe_stands a_p1 a_p1_cellNames a_p1_secretNames a_p1_pageNames a_p1_speed a_p1_letters a_p1_room a_p1_now a_p1_rounds a_p1_now_order a_p1_now_knows a_p1_now_made a_p1_now_sixteenths a_p1_now_dots a_p1_now_used a_p1_now_stands v_bestMany v_best u7 u8 u9 u10 u11 u12 u13 u14 u15 u16 u17 u18 u19 v_trial v_p1_cells v_p1_secrets v_p1_pages v_p1_blind v_p1_rubs v_p1_letters v_p1_now_inOrder v_p1_now_place v_p1_now_ill v_p1_now_shut v_p1_now_turns v_p1_now_madeInAll v_p1_now_dots v_p1_now_knows v_p1_now_made v_p1_now_order v_p1_now_sixteenths v_p1_now_stands v_p1_now_used v_p1_room v_p1_speed)) hD rfl).sub (ws' := (k_X7_orderAnew T a_probe a_probe_order a_probe_knows a_probe_made a_probe_sixteenths a_probe_dots a_probe_used a_probe_stands a_trial 8 u7 u8 u9 u10 u11 u12 u16 v_trial)) [2, 6, 10] rfl rfl
          refine mp_callv (isC := [2, 6, 10]) (wc := (k_X7_orderAnew T a_probe a_probe_order a_probe_knows a_probe_made a_probe_sixteenths a_probe_dots a_probe_used a_probe_stands a_trial 8 u7 u8 u9 u10 u11 u12 u16 v_trial)) (w1 := (k_X7_orderAnew T a_probe a_probe_order a_probe_knows a_probe_made a_probe_sixteenths a_probe_dots a_probe_used a_probe_stands a_trial 8 u7 u21 u9 u10 u11 u12 u22 v_trial)) hP (mp_D_of hD rfl) hS hA rfl rfl (mp_runV (As := [.ref a_trial]) (rest := []) X me_X7_orderAnew lk_X0_60 (c_X7_orderAnew l D T a_probe a_probe_order a_probe_knows a_probe_made a_probe_sixteenths a_probe_dots a_probe_used a_probe_stands a_trial 8 u9 u10 u11 u12 u7 u8 u16 v_trial u21 u22 c23) rfl rfl ⟨(Nat.le_of_ble_eq_true rfl), (Nat.le_of_ble_eq_true rfl)⟩ hK hPc hDc rfl rfl rfl rfl hl.1 rfl (Nat.le_of_ble_eq_true rfl) dX0_seekBest_69 ⟨Nat.zero_le _, Nat.zero_le _⟩) (fun H locs hP _ hS => ?_)
          replace hP : va_P D mp_cl (k_X0_seekBest T a_ a_probe a_trial a_best a_probe_order a_probe_knows a_probe_made a_probe_sixteenths a_probe_dots a_probe_used a_probe_stands a_p1 a_p1_cellNames a_p1_secretNames a_p1_pageNames a_p1_speed a_p1_letters a_p1_room a_p1_now a_p1_rounds a_p1_now_order a_p1_now_knows a_p1_now_made a_p1_now_sixteenths a_p1_now_dots a_p1_now_used a_p1_now_stands v_bestMany v_best u7 u21 u9 u10 u11 u12 u13 u14 u15 u22 u17 u18 u19 v_trial v_p1_cells v_p1_secrets v_p1_pages v_p1_blind v_p1_rubs v_p1_letters v_p1_now_inOrder v_p1_now_place v_p1_now_ill v_p1_now_shut v_p1_now_turns v_p1_now_madeInAll v_p1_now_dots v_p1_now_knows v_p1_now_made v_p1_now_order v_p1_now_sixteenths v_p1_now_stands v_p1_now_used v_p1_room v_p1_speed) H := hP
          refine lv_aload_n hx hb dX0_seekBest_72 rfl (lv_at hl 0 rfl) ?_
          refine lv_aload_n hx hb dX0_seekBest_73 rfl (lv_at hl 1 rfl) ?_
          refine lv_aload_n hx hb dX0_seekBest_74 rfl (lv_at hl 1 rfl) ?_
          obtain ⟨r24, c25, hf⟩ := bd_of hf
          have hPc := hP.sub (ws' := (k_X1_seeing T a_p1 a_p1_cellNames a_p1_secretNames a_p1_pageNames a_p1_speed a_p1_letters a_p1_room a_p1_now a_p1_rounds v_p1_cells v_p1_secrets v_p1_pages v_p1_blind v_p1_rubs)) [11] rfl
          have hDc := (mp_D_of (w1 := (k_X0_seekBest T a_ a_probe a_trial a_best a_probe_order a_probe_knows a_probe_made a_probe_sixteenths a_probe_dots a_probe_used a_probe_stands a_p1 a_p1_cellNames a_p1_secretNames a_p1_pageNames a_p1_speed a_p1_letters a_p1_room a_p1_now a_p1_rounds a_p1_now_order a_p1_now_knows a_p1_now_made a_p1_now_sixteenths a_p1_now_dots a_p1_now_used a_p1_now_stands v_bestMany v_best u7 u21 u9 u10 u11 u12 u13 u14 u15 u22 u17 u18 u19 v_trial v_p1_cells v_p1_secrets v_p1_pages v_p1_blind v_p1_rubs v_p1_letters v_p1_now_inOrder v_p1_now_place v_p1_now_ill v_p1_now_shut v_p1_now_turns v_p1_now_madeInAll v_p1_now_dots v_p1_now_knows v_p1_now_made v_p1_now_order v_p1_now_sixteenths v_p1_now_stands v_p1_now_used v_p1_room v_p1_speed)) hD rfl).sub (ws' := (k_X1_seeing T a_p1 a_p1_cellNames a_p1_secretNames a_p1_pageNames a_p1_speed a_p1_letters a_p1_room a_p1_now a_p1_rounds v_p1_cells v_p1_secrets v_p1_pages v_p1_blind v_p1_rubs)) [11] rfl rfl
          refine mp_calli (isC := [11]) (wc := (k_X1_seeing T a_p1 a_p1_cellNames a_p1_secretNames a_p1_pageNames a_p1_speed a_p1_letters a_p1_room a_p1_now a_p1_rounds v_p1_cells v_p1_secrets v_p1_pages v_p1_blind v_p1_rubs)) (w1 := (k_X1_seeing T a_p1 a_p1_cellNames a_p1_secretNames a_p1_pageNames a_p1_speed a_p1_letters a_p1_room a_p1_now a_p1_rounds v_p1_cells v_p1_secrets v_p1_pages v_p1_blind v_p1_rubs)) hP (mp_D_of hD rfl) hS hA rfl rfl (mp_runV (As := []) (rest := [.ref a_p1, .ref a_]) X me_X1_seeing lk_X0_64 (c_X1_seeing l D T a_p1 a_p1_cellNames a_p1_secretNames a_p1_pageNames a_p1_speed a_p1_letters a_p1_room a_p1_now a_p1_rounds v_p1_secrets v_p1_pages v_p1_rubs v_p1_cells v_p1_blind r24 c25) rfl rfl ⟨(Nat.le_of_ble_eq_true rfl), (Nat.le_of_ble_eq_true rfl)⟩ hK hPc hDc rfl rfl rfl rfl hl.1 rfl (Nat.le_of_ble_eq_true rfl) dX0_seekBest_75 ⟨Nat.zero_le _, Nat.zero_le _⟩) (fun H locs hP _ hS => ?_)
          replace hP : va_P D mp_cl (k_X0_seekBest T a_ a_probe a_trial a_best a_probe_order a_probe_knows a_probe_made a_probe_sixteenths a_probe_dots a_probe_used a_probe_stands a_p1 a_p1_cellNames a_p1_secretNames a_p1_pageNames a_p1_speed a_p1_letters a_p1_room a_p1_now a_p1_rounds a_p1_now_order a_p1_now_knows a_p1_now_made a_p1_now_sixteenths a_p1_now_dots a_p1_now_used a_p1_now_stands v_bestMany v_best u7 u21 u9 u10 u11 u12 u13 u14 u15 u22 u17 u18 u19 v_trial v_p1_cells v_p1_secrets v_p1_pages v_p1_blind v_p1_rubs v_p1_letters v_p1_now_inOrder v_p1_now_place v_p1_now_ill v_p1_now_shut v_p1_now_turns v_p1_now_madeInAll v_p1_now_dots v_p1_now_knows v_p1_now_made v_p1_now_order v_p1_now_sixteenths v_p1_now_stands v_p1_now_used v_p1_room v_p1_speed) H := hP
          refine lv_aload_n hx hb dX0_seekBest_78 rfl (lv_at hl 1 rfl) ?_
          obtain ⟨r26, c27, hf⟩ := bd_of hf
          have hPc := hP.sub (ws' := (k_X1_allSecrets T a_p1 a_p1_cellNames a_p1_secretNames a_p1_pageNames a_p1_speed a_p1_letters a_p1_room a_p1_now a_p1_rounds v_p1_cells v_p1_secrets v_p1_pages v_p1_blind v_p1_rubs)) [11] rfl
          have hDc := (mp_D_of (w1 := (k_X0_seekBest T a_ a_probe a_trial a_best a_probe_order a_probe_knows a_probe_made a_probe_sixteenths a_probe_dots a_probe_used a_probe_stands a_p1 a_p1_cellNames a_p1_secretNames a_p1_pageNames a_p1_speed a_p1_letters a_p1_room a_p1_now a_p1_rounds a_p1_now_order a_p1_now_knows a_p1_now_made a_p1_now_sixteenths a_p1_now_dots a_p1_now_used a_p1_now_stands v_bestMany v_best u7 u21 u9 u10 u11 u12 u13 u14 u15 u22 u17 u18 u19 v_trial v_p1_cells v_p1_secrets v_p1_pages v_p1_blind v_p1_rubs v_p1_letters v_p1_now_inOrder v_p1_now_place v_p1_now_ill v_p1_now_shut v_p1_now_turns v_p1_now_madeInAll v_p1_now_dots v_p1_now_knows v_p1_now_made v_p1_now_order v_p1_now_sixteenths v_p1_now_stands v_p1_now_used v_p1_room v_p1_speed)) hD rfl).sub (ws' := (k_X1_allSecrets T a_p1 a_p1_cellNames a_p1_secretNames a_p1_pageNames a_p1_speed a_p1_letters a_p1_room a_p1_now a_p1_rounds v_p1_cells v_p1_secrets v_p1_pages v_p1_blind v_p1_rubs)) [11] rfl rfl
          refine mp_calli (isC := [11]) (wc := (k_X1_allSecrets T a_p1 a_p1_cellNames a_p1_secretNames a_p1_pageNames a_p1_speed a_p1_letters a_p1_room a_p1_now a_p1_rounds v_p1_cells v_p1_secrets v_p1_pages v_p1_blind v_p1_rubs)) (w1 := (k_X1_allSecrets T a_p1 a_p1_cellNames a_p1_secretNames a_p1_pageNames a_p1_speed a_p1_letters a_p1_room a_p1_now a_p1_rounds v_p1_cells v_p1_secrets v_p1_pages v_p1_blind v_p1_rubs)) hP (mp_D_of hD rfl) hS hA rfl rfl (mp_runV (As := []) (rest := [.int r24, .ref a_p1, .ref a_]) X me_X1_allSecrets lk_X0_68 (c_X1_allSecrets l D T a_p1 a_p1_cellNames a_p1_secretNames a_p1_pageNames a_p1_speed a_p1_letters a_p1_room a_p1_now a_p1_rounds v_p1_cells v_p1_pages v_p1_blind v_p1_rubs v_p1_secrets r26 c27) rfl rfl ⟨(Nat.le_of_ble_eq_true rfl), (Nat.le_of_ble_eq_true rfl)⟩ hK hPc hDc rfl rfl rfl rfl hl.1 rfl (Nat.le_of_ble_eq_true rfl) dX0_seekBest_79 ⟨Nat.zero_le _, Nat.zero_le _⟩) (fun H locs hP _ hS => ?_)
          replace hP : va_P D mp_cl (k_X0_seekBest T a_ a_probe a_trial a_best a_probe_order a_probe_knows a_probe_made a_probe_sixteenths a_probe_dots a_probe_used a_probe_stands a_p1 a_p1_cellNames a_p1_secretNames a_p1_pageNames a_p1_speed a_p1_letters a_p1_room a_p1_now a_p1_rounds a_p1_now_order a_p1_now_knows a_p1_now_made a_p1_now_sixteenths a_p1_now_dots a_p1_now_used a_p1_now_stands v_bestMany v_best u7 u21 u9 u10 u11 u12 u13 u14 u15 u22 u17 u18 u19 v_trial v_p1_cells v_p1_secrets v_p1_pages v_p1_blind v_p1_rubs v_p1_letters v_p1_now_inOrder v_p1_now_place v_p1_now_ill v_p1_now_shut v_p1_now_turns v_p1_now_madeInAll v_p1_now_dots v_p1_now_knows v_p1_now_made v_p1_now_order v_p1_now_sixteenths v_p1_now_stands v_p1_now_used v_p1_room v_p1_speed) H := hP
          refine lv_iload_n hx hb dX0_seekBest_82 rfl (lv_at hl 3 rfl) ?_
          refine lv_iconst (v := (nI 1)) hx hb dX0_seekBest_83 (by decide) ?_
          refine lv_isub hx hb dX0_seekBest_84 ?_
          obtain ⟨⟨r28, u29, u30, u31, u32, u33, u34, u35, u36⟩, c37, hf⟩ := bd_of hf
          dsimp only at hf
          have hPc := hP.sub (ws' := (k_X0_probeTill T a_ a_probe a_trial a_best a_probe_order a_probe_knows a_probe_made a_probe_sixteenths a_probe_dots a_probe_used a_probe_stands a_p1 a_p1_cellNames a_p1_secretNames a_p1_pageNames a_p1_speed a_p1_letters a_p1_room a_p1_now a_p1_rounds v_bestMany u7 u21 u9 u10 u11 u12 u13 u14 u15 u22 u18 u19 v_p1_cells v_p1_secrets v_p1_pages v_p1_blind v_p1_rubs v_p1_letters v_p1_room v_p1_speed)) [0, 2, 3, 4, 5, 6, 8, 9, 11, 12, 21, 22] rfl
          have hDc := (mp_D_of (w1 := (k_X0_seekBest T a_ a_probe a_trial a_best a_probe_order a_probe_knows a_probe_made a_probe_sixteenths a_probe_dots a_probe_used a_probe_stands a_p1 a_p1_cellNames a_p1_secretNames a_p1_pageNames a_p1_speed a_p1_letters a_p1_room a_p1_now a_p1_rounds a_p1_now_order a_p1_now_knows a_p1_now_made a_p1_now_sixteenths a_p1_now_dots a_p1_now_used a_p1_now_stands v_bestMany v_best u7 u21 u9 u10 u11 u12 u13 u14 u15 u22 u17 u18 u19 v_trial v_p1_cells v_p1_secrets v_p1_pages v_p1_blind v_p1_rubs v_p1_letters v_p1_now_inOrder v_p1_now_place v_p1_now_ill v_p1_now_shut v_p1_now_turns v_p1_now_madeInAll v_p1_now_dots v_p1_now_knows v_p1_now_made v_p1_now_order v_p1_now_sixteenths v_p1_now_stands v_p1_now_used v_p1_room v_p1_speed)) hD rfl).sub (ws' := (k_X0_probeTill T a_ a_probe a_trial a_best a_probe_order a_probe_knows a_probe_made a_probe_sixteenths a_probe_dots a_probe_used a_probe_stands a_p1 a_p1_cellNames a_p1_secretNames a_p1_pageNames a_p1_speed a_p1_letters a_p1_room a_p1_now a_p1_rounds v_bestMany u7 u21 u9 u10 u11 u12 u13 u14 u15 u22 u18 u19 v_p1_cells v_p1_secrets v_p1_pages v_p1_blind v_p1_rubs v_p1_letters v_p1_room v_p1_speed)) [0, 2, 3, 4, 5, 6, 8, 9, 11, 12, 21, 22] rfl rfl
          refine mp_calli2 (isC := [0, 2, 3, 4, 5, 6, 8, 9, 11, 12, 21, 22]) (isO := [1, 7, 10, 13, 14, 15, 16, 17, 18, 19, 20]) (wc := (k_X0_probeTill T a_ a_probe a_trial a_best a_probe_order a_probe_knows a_probe_made a_probe_sixteenths a_probe_dots a_probe_used a_probe_stands a_p1 a_p1_cellNames a_p1_secretNames a_p1_pageNames a_p1_speed a_p1_letters a_p1_room a_p1_now a_p1_rounds v_bestMany u7 u21 u9 u10 u11 u12 u13 u14 u15 u22 u18 u19 v_p1_cells v_p1_secrets v_p1_pages v_p1_blind v_p1_rubs v_p1_letters v_p1_room v_p1_speed)) (w1 := (k_X0_probeTill T a_ a_probe a_trial a_best a_probe_order a_probe_knows a_probe_made a_probe_sixteenths a_probe_dots a_probe_used a_probe_stands a_p1 a_p1_cellNames a_p1_secretNames a_p1_pageNames a_p1_speed a_p1_letters a_p1_room a_p1_now a_p1_rounds v_bestMany u7 u29 u9 u10 u30 u31 u32 u33 u34 u22 u35 u36 v_p1_cells v_p1_secrets v_p1_pages v_p1_blind v_p1_rubs v_p1_letters v_p1_room v_p1_speed)) (wo := [(a_best, mp_aI T 6 v_best), (a_probe_sixteenths, mp_aI T 6 u17), (a_trial, mp_aI T 8 v_trial), (a_p1_now, oX7 a_p1_now_order v_p1_now_inOrder v_p1_now_place a_p1_now_knows a_p1_now_made a_p1_now_sixteenths a_p1_now_dots a_p1_now_used a_p1_now_stands v_p1_now_ill v_p1_now_shut v_p1_now_turns v_p1_now_madeInAll), (a_p1_now_dots, mp_aI T 36 v_p1_now_dots), (a_p1_now_knows, mp_aI T 8 v_p1_now_knows), (a_p1_now_made, mp_aI T 8 v_p1_now_made), (a_p1_now_order, mp_aI T 8 v_p1_now_order), (a_p1_now_sixteenths, mp_aI T 6 v_p1_now_sixteenths), (a_p1_now_stands, mp_aI T 6 v_p1_now_stands), (a_p1_now_used, mp_aI T 6 v_p1_now_used)]) (w2 := (k_X0_seekBest T a_ a_probe a_trial a_best a_probe_order a_probe_knows a_probe_made a_probe_sixteenths a_probe_dots a_probe_used a_probe_stands a_p1 a_p1_cellNames a_p1_secretNames a_p1_pageNames a_p1_speed a_p1_letters a_p1_room a_p1_now a_p1_rounds a_p1_now_order a_p1_now_knows a_p1_now_made a_p1_now_sixteenths a_p1_now_dots a_p1_now_used a_p1_now_stands v_bestMany v_best u7 u29 u9 u10 u30 u31 u32 u33 u34 u22 u17 u35 u36 v_trial v_p1_cells v_p1_secrets v_p1_pages v_p1_blind v_p1_rubs v_p1_letters v_p1_now_inOrder v_p1_now_place v_p1_now_ill v_p1_now_shut v_p1_now_turns v_p1_now_madeInAll v_p1_now_dots v_p1_now_knows v_p1_now_made v_p1_now_order v_p1_now_sixteenths v_p1_now_stands v_p1_now_used v_p1_room v_p1_speed)) (n := 23) hP (mp_D_of hD rfl) hS hA rfl rfl rfl rfl rfl rfl (by decide +kernel) (mp_runV (As := [.ref a_p1, .int r24, .int r26, .int (z3 - (nI 1))]) (rest := []) X me_X0_probeTill lk_X0_38 (c_X0_probeTill l D T fu a_ a_probe a_trial a_best a_probe_order a_probe_knows a_probe_made a_probe_sixteenths a_probe_dots a_probe_used a_probe_stands a_p1 a_p1_cellNames a_p1_secretNames a_p1_pageNames a_p1_speed a_p1_letters a_p1_room a_p1_now a_p1_rounds r24 r26 (z3 - (nI 1)) v_bestMany v_p1_cells u7 u21 u9 u10 u11 u12 u13 u14 u15 u22 u18 u19 v_p1_secrets v_p1_pages v_p1_blind v_p1_rubs v_p1_letters v_p1_room v_p1_speed r28 u29 u30 u31 u32 u33 u34 u35 u36 c37) rfl rfl ⟨(Nat.le_of_ble_eq_true rfl), (Nat.le_of_ble_eq_true rfl)⟩ hK hPc hDc rfl rfl rfl rfl hl.1 rfl (Nat.le_of_ble_eq_true rfl) dX0_seekBest_85 ⟨Nat.zero_le _, Nat.zero_le _⟩) (fun H locs hP _ hS => ?_)
          refine lv_istore (lv' := [(6, .int r28), (0, .ref a_), (1, .ref a_p1), (2, .int z2), (3, .int z3), (4, .int z4), (5, .int z5)]) hx hb dX0_seekBest_88 hl (by decide) rfl (fun ls hl => ?_)
          refine lv_iload hx hb dX0_seekBest_90 (lv_at hl 0 rfl) ?_
          refine lv_iconst (v := (-1 : Int32)) hx hb dX0_seekBest_92 (by decide) ?_
          refine lv_icmp_eq (tgt := 118) hx hb dX0_seekBest_93 (by decide) (fun h38 => ?_) (fun h38 => ?_)
          · replace hf := if_t hf h38
            refine lv_aload_n hx hb dX0_seekBest_118 rfl (lv_at hl 1 rfl) ?_
            refine lv_iload_n hx hb dX0_seekBest_119 rfl (lv_at hl 3 rfl) ?_
            obtain ⟨⟨r39, u40⟩, c41, hf⟩ := bd_of hf
            dsimp only at hf
            have hPc := hP.sub (ws' := (k_X0_permute T a_ a_probe a_trial a_best v_bestMany v_trial)) [0, 10] rfl
            have hDc := (mp_D_of (w1 := (k_X0_seekBest T a_ a_probe a_trial a_best a_probe_order a_probe_knows a_probe_made a_probe_sixteenths a_probe_dots a_probe_used a_probe_stands a_p1 a_p1_cellNames a_p1_secretNames a_p1_pageNames a_p1_speed a_p1_letters a_p1_room a_p1_now a_p1_rounds a_p1_now_order a_p1_now_knows a_p1_now_made a_p1_now_sixteenths a_p1_now_dots a_p1_now_used a_p1_now_stands v_bestMany v_best u7 u29 u9 u10 u30 u31 u32 u33 u34 u22 u17 u35 u36 v_trial v_p1_cells v_p1_secrets v_p1_pages v_p1_blind v_p1_rubs v_p1_letters v_p1_now_inOrder v_p1_now_place v_p1_now_ill v_p1_now_shut v_p1_now_turns v_p1_now_madeInAll v_p1_now_dots v_p1_now_knows v_p1_now_made v_p1_now_order v_p1_now_sixteenths v_p1_now_stands v_p1_now_used v_p1_room v_p1_speed)) hD rfl).sub (ws' := (k_X0_permute T a_ a_probe a_trial a_best v_bestMany v_trial)) [0, 10] rfl rfl
            refine mp_calli (isC := [0, 10]) (wc := (k_X0_permute T a_ a_probe a_trial a_best v_bestMany v_trial)) (w1 := (k_X0_permute T a_ a_probe a_trial a_best v_bestMany u40)) hP (mp_D_of hD rfl) hS hA rfl rfl (mp_runV (As := [.int z2]) (rest := []) X me_X0_permute lk_X0_77 (c_X0_permute l D T fu a_ a_probe a_trial a_best z2 v_bestMany v_trial r39 u40 c41) rfl rfl ⟨(Nat.le_of_ble_eq_true rfl), (Nat.le_of_ble_eq_true rfl)⟩ hK hPc hDc rfl rfl rfl rfl hl.1 rfl (Nat.le_of_ble_eq_true rfl) dX0_seekBest_120 ⟨Nat.zero_le _, Nat.zero_le _⟩) (fun H locs hP _ hS => ?_)
            replace hP : va_P D mp_cl (k_X0_seekBest T a_ a_probe a_trial a_best a_probe_order a_probe_knows a_probe_made a_probe_sixteenths a_probe_dots a_probe_used a_probe_stands a_p1 a_p1_cellNames a_p1_secretNames a_p1_pageNames a_p1_speed a_p1_letters a_p1_room a_p1_now a_p1_rounds a_p1_now_order a_p1_now_knows a_p1_now_made a_p1_now_sixteenths a_p1_now_dots a_p1_now_used a_p1_now_stands v_bestMany v_best u7 u29 u9 u10 u30 u31 u32 u33 u34 u22 u17 u35 u36 u40 v_p1_cells v_p1_secrets v_p1_pages v_p1_blind v_p1_rubs v_p1_letters v_p1_now_inOrder v_p1_now_place v_p1_now_ill v_p1_now_shut v_p1_now_turns v_p1_now_madeInAll v_p1_now_dots v_p1_now_knows v_p1_now_made v_p1_now_order v_p1_now_sixteenths v_p1_now_stands v_p1_now_used v_p1_room v_p1_speed) H := hP
            refine lv_istore (lv' := [(4, .int r39), (6, .int r28), (0, .ref a_), (1, .ref a_p1), (2, .int z2), (3, .int z3), (5, .int z5)]) hx hb dX0_seekBest_123 hl (by decide) rfl (fun ls hl => ?_)
            obtain ⟨y42, e42⟩ : ∃ y : Int32, y = z5 + (nI 1) := ⟨_, rfl⟩
            replace hf := lt_of e42 hf
            refine lv_iinc (v := y42) (lv' := [(5, .int y42), (4, .int r39), (6, .int r28), (0, .ref a_), (1, .ref a_p1), (2, .int z2), (3, .int z3)]) hx hb dX0_seekBest_125 hl (k := 6) rfl (by rw [e42]; rfl) (by decide) rfl (fun ls hl => ?_)
            refine lv_goto (tgt := 33) hx hb dX0_seekBest_128 (by decide) ?_
            exact ih z2 z3 r39 y42 v_bestMany v_best u7 u29 u9 u10 u30 u31 u32 u33 u34 u22 u17 u35 u36 u40 hf _ _ _ hP (mp_D_of hD rfl) hS (lv_sub hl [3, 4, 5, 6, 1, 0] rfl)
          · replace hf := if_f hf h38
            refine lv_iload hx hb dX0_seekBest_96 (lv_at hl 0 rfl) ?_
            refine lv_istore_n (lv' := [(3, .int r28), (6, .int r28), (0, .ref a_), (1, .ref a_p1), (2, .int z2), (4, .int z4), (5, .int z5)]) hx hb dX0_seekBest_98 rfl hl (by decide) rfl (fun ls hl => ?_)
            refine lv_aload_n hx hb dX0_seekBest_99 rfl (lv_at hl 2 rfl) ?_
            refine lv_iload_n hx hb dX0_seekBest_100 rfl (lv_at hl 4 rfl) ?_
            refine mp_putf X fl_X0_25 fp_X0 rfl hK hP (mp_D_of hD rfl) hS 0 rfl rfl rfl (Nat.le_of_ble_eq_true rfl) dX0_seekBest_101 (fun H locs hP _ hS => ?_)
            replace hP : va_P D mp_cl (k_X0_seekBest T a_ a_probe a_trial a_best a_probe_order a_probe_knows a_probe_made a_probe_sixteenths a_probe_dots a_probe_used a_probe_stands a_p1 a_p1_cellNames a_p1_secretNames a_p1_pageNames a_p1_speed a_p1_letters a_p1_room a_p1_now a_p1_rounds a_p1_now_order a_p1_now_knows a_p1_now_made a_p1_now_sixteenths a_p1_now_dots a_p1_now_used a_p1_now_stands z2 v_best u7 u29 u9 u10 u30 u31 u32 u33 u34 u22 u17 u35 u36 v_trial v_p1_cells v_p1_secrets v_p1_pages v_p1_blind v_p1_rubs v_p1_letters v_p1_now_inOrder v_p1_now_place v_p1_now_ill v_p1_now_shut v_p1_now_turns v_p1_now_madeInAll v_p1_now_dots v_p1_now_knows v_p1_now_made v_p1_now_order v_p1_now_sixteenths v_p1_now_stands v_p1_now_used v_p1_room v_p1_speed) H := hP
            refine lv_aload_n hx hb dX0_seekBest_104 rfl (lv_at hl 2 rfl) ?_
            refine mp_get X fl_X0_18 hK hP 0 rfl rfl dX0_seekBest_105 ?_
            refine lv_iconst (v := (nI 0)) hx hb dX0_seekBest_108 (by decide) ?_
            refine lv_aload_n hx hb dX0_seekBest_109 rfl (lv_at hl 2 rfl) ?_
            refine mp_get X fl_X0_22 hK hP 0 rfl rfl dX0_seekBest_110 ?_
            refine lv_iconst (v := (nI 0)) hx hb dX0_seekBest_113 (by decide) ?_
            refine lv_iload_n hx hb dX0_seekBest_114 rfl (lv_at hl 4 rfl) ?_
            obtain ⟨h43, hf⟩ := gc_of hf
            refine va_copyi hx hb (hml.trans hl.1.symm) hown (hts _ lk_X0_71_ac) (hts _ ac_nat) (hts _ ac_stat) (hts _ ac_ini) hK hP (mp_D_of hD rfl) hS 10 1 0 0 rfl rfl rfl rfl rfl h43.1 h43.2.1 h43.2.2.1 h43.2.2.2.1 h43.2.2.2.2 (fun _ _ => rfl) (Nat.le_of_ble_eq_true rfl) (Nat.le_of_ble_eq_true rfl) dX0_seekBest_115 (fun H locs hP _ hS => ?_)
            replace hP : va_P D mp_cl (k_X0_seekBest T a_ a_probe a_trial a_best a_probe_order a_probe_knows a_probe_made a_probe_sixteenths a_probe_dots a_probe_used a_probe_stands a_p1 a_p1_cellNames a_p1_secretNames a_p1_pageNames a_p1_speed a_p1_letters a_p1_room a_p1_now a_p1_rounds a_p1_now_order a_p1_now_knows a_p1_now_made a_p1_now_sixteenths a_p1_now_dots a_p1_now_used a_p1_now_stands z2 (va_cpy v_trial v_best ((nI 0)).toNatClampNeg ((nI 0)).toNatClampNeg (z2).toNatClampNeg) u7 u29 u9 u10 u30 u31 u32 u33 u34 u22 u17 u35 u36 v_trial v_p1_cells v_p1_secrets v_p1_pages v_p1_blind v_p1_rubs v_p1_letters v_p1_now_inOrder v_p1_now_place v_p1_now_ill v_p1_now_shut v_p1_now_turns v_p1_now_madeInAll v_p1_now_dots v_p1_now_knows v_p1_now_made v_p1_now_order v_p1_now_sixteenths v_p1_now_stands v_p1_now_used v_p1_room v_p1_speed) H := hP
            refine lv_aload_n hx hb dX0_seekBest_118 rfl (lv_at hl 2 rfl) ?_
            refine lv_iload_n hx hb dX0_seekBest_119 rfl (lv_at hl 4 rfl) ?_
            obtain ⟨⟨r44, u45⟩, c46, hf⟩ := bd_of hf
            dsimp only at hf
            have hPc := hP.sub (ws' := (k_X0_permute T a_ a_probe a_trial a_best z2 v_trial)) [0, 10] rfl
            have hDc := (mp_D_of (w1 := (k_X0_seekBest T a_ a_probe a_trial a_best a_probe_order a_probe_knows a_probe_made a_probe_sixteenths a_probe_dots a_probe_used a_probe_stands a_p1 a_p1_cellNames a_p1_secretNames a_p1_pageNames a_p1_speed a_p1_letters a_p1_room a_p1_now a_p1_rounds a_p1_now_order a_p1_now_knows a_p1_now_made a_p1_now_sixteenths a_p1_now_dots a_p1_now_used a_p1_now_stands z2 (va_cpy v_trial v_best ((nI 0)).toNatClampNeg ((nI 0)).toNatClampNeg (z2).toNatClampNeg) u7 u29 u9 u10 u30 u31 u32 u33 u34 u22 u17 u35 u36 v_trial v_p1_cells v_p1_secrets v_p1_pages v_p1_blind v_p1_rubs v_p1_letters v_p1_now_inOrder v_p1_now_place v_p1_now_ill v_p1_now_shut v_p1_now_turns v_p1_now_madeInAll v_p1_now_dots v_p1_now_knows v_p1_now_made v_p1_now_order v_p1_now_sixteenths v_p1_now_stands v_p1_now_used v_p1_room v_p1_speed)) hD rfl).sub (ws' := (k_X0_permute T a_ a_probe a_trial a_best z2 v_trial)) [0, 10] rfl rfl
            refine mp_calli (isC := [0, 10]) (wc := (k_X0_permute T a_ a_probe a_trial a_best z2 v_trial)) (w1 := (k_X0_permute T a_ a_probe a_trial a_best z2 u45)) hP (mp_D_of hD rfl) hS hA rfl rfl (mp_runV (As := [.int z2]) (rest := []) X me_X0_permute lk_X0_77 (c_X0_permute l D T fu a_ a_probe a_trial a_best z2 z2 v_trial r44 u45 c46) rfl rfl ⟨(Nat.le_of_ble_eq_true rfl), (Nat.le_of_ble_eq_true rfl)⟩ hK hPc hDc rfl rfl rfl rfl hl.1 rfl (Nat.le_of_ble_eq_true rfl) dX0_seekBest_120 ⟨Nat.zero_le _, Nat.zero_le _⟩) (fun H locs hP _ hS => ?_)
            replace hP : va_P D mp_cl (k_X0_seekBest T a_ a_probe a_trial a_best a_probe_order a_probe_knows a_probe_made a_probe_sixteenths a_probe_dots a_probe_used a_probe_stands a_p1 a_p1_cellNames a_p1_secretNames a_p1_pageNames a_p1_speed a_p1_letters a_p1_room a_p1_now a_p1_rounds a_p1_now_order a_p1_now_knows a_p1_now_made a_p1_now_sixteenths a_p1_now_dots a_p1_now_used a_p1_now_stands z2 (va_cpy v_trial v_best ((nI 0)).toNatClampNeg ((nI 0)).toNatClampNeg (z2).toNatClampNeg) u7 u29 u9 u10 u30 u31 u32 u33 u34 u22 u17 u35 u36 u45 v_p1_cells v_p1_secrets v_p1_pages v_p1_blind v_p1_rubs v_p1_letters v_p1_now_inOrder v_p1_now_place v_p1_now_ill v_p1_now_shut v_p1_now_turns v_p1_now_madeInAll v_p1_now_dots v_p1_now_knows v_p1_now_made v_p1_now_order v_p1_now_sixteenths v_p1_now_stands v_p1_now_used v_p1_room v_p1_speed) H := hP
            refine lv_istore (lv' := [(4, .int r44), (3, .int r28), (6, .int r28), (0, .ref a_), (1, .ref a_p1), (2, .int z2), (5, .int z5)]) hx hb dX0_seekBest_123 hl (by decide) rfl (fun ls hl => ?_)
            obtain ⟨y47, e47⟩ : ∃ y : Int32, y = z5 + (nI 1) := ⟨_, rfl⟩
            replace hf := lt_of e47 hf
            refine lv_iinc (v := y47) (lv' := [(5, .int y47), (4, .int r44), (3, .int r28), (6, .int r28), (0, .ref a_), (1, .ref a_p1), (2, .int z2)]) hx hb dX0_seekBest_125 hl (k := 6) rfl (by rw [e47]; rfl) (by decide) rfl (fun ls hl => ?_)
            refine lv_goto (tgt := 33) hx hb dX0_seekBest_128 (by decide) ?_
            exact ih z2 r28 r44 y47 z2 (va_cpy v_trial v_best ((nI 0)).toNatClampNeg ((nI 0)).toNatClampNeg (z2).toNatClampNeg) u7 u29 u9 u10 u30 u31 u32 u33 u34 u22 u17 u35 u36 u45 hf _ _ _ hP (mp_D_of hD rfl) hS (lv_sub hl [4, 5, 6, 2, 1, 0] rfl)

set_option maxHeartbeats 4000000 in
set_option maxRecDepth 100000 in
theorem c_X0_seekBest (l : Launch) (D : va_G) (T : Nat → ClassId) (fu : Nat) (a_ a_probe a_trial a_best a_probe_order a_probe_knows a_probe_made a_probe_sixteenths a_probe_dots a_probe_used a_probe_stands a_p1 a_p1_cellNames a_p1_secretNames a_p1_pageNames a_p1_speed a_p1_letters a_p1_room a_p1_now a_p1_rounds a_p1_now_order a_p1_now_knows a_p1_now_made a_p1_now_sixteenths a_p1_now_dots a_p1_now_used a_p1_now_stands : Nat) (v_bestMany : Int32) (v_best : (Nat → Int32)) (v_probe_inOrder : Int32) (v_probe_place : Int32) (v_probe_ill : Int32) (v_probe_shut : Int32) (v_probe_turns : Int32) (v_probe_madeInAll : Int32) (v_probe_dots : (Nat → Int32)) (v_probe_knows : (Nat → Int32)) (v_probe_made : (Nat → Int32)) (v_probe_order : (Nat → Int32)) (v_probe_sixteenths : (Nat → Int32)) (v_probe_stands : (Nat → Int32)) (v_probe_used : (Nat → Int32)) (v_trial : (Nat → Int32)) (v_p1_cells : Int32) (v_p1_secrets : Int32) (v_p1_pages : Int32) (v_p1_blind : Int32) (v_p1_rubs : Int32) (v_p1_letters : (Nat → Int32)) (v_p1_now_inOrder : Int32) (v_p1_now_place : Int32) (v_p1_now_ill : Int32) (v_p1_now_shut : Int32) (v_p1_now_turns : Int32) (v_p1_now_madeInAll : Int32) (v_p1_now_dots : (Nat → Int32)) (v_p1_now_knows : (Nat → Int32)) (v_p1_now_made : (Nat → Int32)) (v_p1_now_order : (Nat → Int32)) (v_p1_now_sixteenths : (Nat → Int32)) (v_p1_now_stands : (Nat → Int32)) (v_p1_now_used : (Nat → Int32)) (v_p1_room : (Nat → Int32)) (v_p1_speed : (Nat → Int32)) (r_ : Int32) (o_bestMany : Int32) (o_best : (Nat → Int32)) (o_probe_inOrder : Int32) (o_probe_place : Int32) (o_probe_ill : Int32) (o_probe_shut : Int32) (o_probe_turns : Int32) (o_probe_madeInAll : Int32) (o_probe_dots : (Nat → Int32)) (o_probe_knows : (Nat → Int32)) (o_probe_made : (Nat → Int32)) (o_probe_order : (Nat → Int32)) (o_probe_sixteenths : (Nat → Int32)) (o_probe_stands : (Nat → Int32)) (o_probe_used : (Nat → Int32)) (o_trial : (Nat → Int32)) (hf : f_X0_seekBest fu v_bestMany v_best v_probe_inOrder v_probe_place v_probe_ill v_probe_shut v_probe_turns v_probe_madeInAll v_probe_dots v_probe_knows v_probe_made v_probe_order v_probe_sixteenths v_probe_stands v_probe_used v_trial v_p1_cells v_p1_secrets v_p1_pages v_p1_blind v_p1_rubs v_p1_letters v_p1_now_inOrder v_p1_now_place v_p1_now_ill v_p1_now_shut v_p1_now_turns v_p1_now_madeInAll v_p1_now_dots v_p1_now_knows v_p1_now_made v_p1_now_order v_p1_now_sixteenths v_p1_now_stands v_p1_now_used v_p1_room v_p1_speed = some (r_, o_bestMany, o_best, o_probe_inOrder, o_probe_place, o_probe_ill, o_probe_shut, o_probe_turns, o_probe_madeInAll, o_probe_dots, o_probe_knows, o_probe_made, o_probe_order, o_probe_sixteenths, o_probe_stands, o_probe_used, o_trial)) :
    mp_M l D T yX0_seekBest cX0_seekBest 7 (some .int) ({ frames := 5, cells := 0, slots := 0, locals := 143 }) 0 0 [.ref a_, .ref a_p1] (k_X0_seekBest T a_ a_probe a_trial a_best a_probe_order a_probe_knows a_probe_made a_probe_sixteenths a_probe_dots a_probe_used a_probe_stands a_p1 a_p1_cellNames a_p1_secretNames a_p1_pageNames a_p1_speed a_p1_letters a_p1_room a_p1_now a_p1_rounds a_p1_now_order a_p1_now_knows a_p1_now_made a_p1_now_sixteenths a_p1_now_dots a_p1_now_used a_p1_now_stands v_bestMany v_best v_probe_inOrder v_probe_place v_probe_ill v_probe_shut v_probe_turns v_probe_madeInAll v_probe_dots v_probe_knows v_probe_made v_probe_order v_probe_sixteenths v_probe_stands v_probe_used v_trial v_p1_cells v_p1_secrets v_p1_pages v_p1_blind v_p1_rubs v_p1_letters v_p1_now_inOrder v_p1_now_place v_p1_now_ill v_p1_now_shut v_p1_now_turns v_p1_now_madeInAll v_p1_now_dots v_p1_now_knows v_p1_now_made v_p1_now_order v_p1_now_sixteenths v_p1_now_stands v_p1_now_used v_p1_room v_p1_speed) (mp_Qi D r_ (k_X0_seekBest T a_ a_probe a_trial a_best a_probe_order a_probe_knows a_probe_made a_probe_sixteenths a_probe_dots a_probe_used a_probe_stands a_p1 a_p1_cellNames a_p1_secretNames a_p1_pageNames a_p1_speed a_p1_letters a_p1_room a_p1_now a_p1_rounds a_p1_now_order a_p1_now_knows a_p1_now_made a_p1_now_sixteenths a_p1_now_dots a_p1_now_used a_p1_now_stands o_bestMany o_best o_probe_inOrder o_probe_place o_probe_ill o_probe_shut o_probe_turns o_probe_madeInAll o_probe_dots o_probe_knows o_probe_made o_probe_order o_probe_sixteenths o_probe_stands o_probe_used o_trial v_p1_cells v_p1_secrets v_p1_pages v_p1_blind v_p1_rubs v_p1_letters v_p1_now_inOrder v_p1_now_place v_p1_now_ill v_p1_now_shut v_p1_now_turns v_p1_now_madeInAll v_p1_now_dots v_p1_now_knows v_p1_now_made v_p1_now_order v_p1_now_sixteenths v_p1_now_stands v_p1_now_used v_p1_room v_p1_speed)) := by
  refine mp_of (by decide) (Nat.le_of_ble_eq_true rfl) rfl ?_
  intro p e s m args below meth c A ls X hK hP hD hS hA hl
  replace X : mp_X p s m meth c args RX0 "seekBest" cX0_seekBest 7 (some .int) := X
  have hx := X.1
  have hb := X.2.1
  have hml := X.2.2.1
  have hown := X.2.2.2.2.1
  have hts := X.2.2.2.2.2.1
  replace hl : lv_has ls 7 [(0, .ref a_), (1, .ref a_p1)] := hl
  replace hf : (if v_p1_now_inOrder ≤ (nI 6) then bd_ (f_X0_sortInto fu v_trial v_p1_now_inOrder v_p1_now_order) (fun (u2 : (Nat → Int32)) => f_X0_seekBest_33 fu v_p1_cells v_p1_secrets v_p1_pages v_p1_blind v_p1_rubs v_p1_letters v_p1_now_inOrder v_p1_now_place v_p1_now_ill v_p1_now_shut v_p1_now_turns v_p1_now_madeInAll v_p1_now_dots v_p1_now_knows v_p1_now_made v_p1_now_order v_p1_now_sixteenths v_p1_now_stands v_p1_now_used v_p1_room v_p1_speed  fu v_p1_now_inOrder (nI 100) (nI 1) (nI 0) v_bestMany v_best v_probe_inOrder v_probe_place v_probe_ill v_probe_shut v_probe_turns v_probe_madeInAll v_probe_dots v_probe_knows v_probe_made v_probe_order v_probe_sixteenths v_probe_stands v_probe_used u2) else some ((-1 : Int32), v_bestMany, v_best, v_probe_inOrder, v_probe_place, v_probe_ill, v_probe_shut, v_probe_turns, v_probe_madeInAll, v_probe_dots, v_probe_knows, v_probe_made, v_probe_order, v_probe_sixteenths, v_probe_stands, v_probe_used, v_trial)) = some (r_, o_bestMany, o_best, o_probe_inOrder, o_probe_place, o_probe_ill, o_probe_shut, o_probe_turns, o_probe_madeInAll, o_probe_dots, o_probe_knows, o_probe_made, o_probe_order, o_probe_sixteenths, o_probe_stands, o_probe_used, o_trial) := hf
  refine lv_aload_n hx hb dX0_seekBest_0 rfl (lv_at hl 1 rfl) ?_
  refine mp_get X fl_X0_29 hK hP 11 rfl rfl dX0_seekBest_1 ?_
  refine mp_get X fl_X0_50 hK hP 13 rfl rfl dX0_seekBest_4 ?_
  refine lv_istore_n (lv' := [(2, .int v_p1_now_inOrder), (0, .ref a_), (1, .ref a_p1)]) hx hb dX0_seekBest_7 rfl hl (by decide) rfl (fun ls hl => ?_)
  refine lv_iload_n hx hb dX0_seekBest_8 rfl (lv_at hl 0 rfl) ?_
  refine lv_bipush (v := (nI 6)) hx hb dX0_seekBest_9 (by decide) ?_
  refine lv_icmp_le (tgt := 16) hx hb dX0_seekBest_11 (by decide) (fun h1 => ?_) (fun h1 => ?_)
  · replace hf := if_t hf h1
    refine lv_aload_n hx hb dX0_seekBest_16 rfl (lv_at hl 1 rfl) ?_
    refine lv_aload_n hx hb dX0_seekBest_17 rfl (lv_at hl 2 rfl) ?_
    refine mp_get X fl_X0_29 hK hP 11 rfl rfl dX0_seekBest_18 ?_
    obtain ⟨u2, c3, hf⟩ := bd_of hf
    have hPc := hP.sub (ws' := (k_X0_sortInto T a_ a_probe a_trial a_best a_p1_now a_p1_now_order a_p1_now_knows a_p1_now_made a_p1_now_sixteenths a_p1_now_dots a_p1_now_used a_p1_now_stands v_bestMany v_trial v_p1_now_inOrder v_p1_now_place v_p1_now_ill v_p1_now_shut v_p1_now_turns v_p1_now_madeInAll v_p1_now_order)) [0, 10, 13, 17] rfl
    have hDc := (mp_D_of (w1 := (k_X0_seekBest T a_ a_probe a_trial a_best a_probe_order a_probe_knows a_probe_made a_probe_sixteenths a_probe_dots a_probe_used a_probe_stands a_p1 a_p1_cellNames a_p1_secretNames a_p1_pageNames a_p1_speed a_p1_letters a_p1_room a_p1_now a_p1_rounds a_p1_now_order a_p1_now_knows a_p1_now_made a_p1_now_sixteenths a_p1_now_dots a_p1_now_used a_p1_now_stands v_bestMany v_best v_probe_inOrder v_probe_place v_probe_ill v_probe_shut v_probe_turns v_probe_madeInAll v_probe_dots v_probe_knows v_probe_made v_probe_order v_probe_sixteenths v_probe_stands v_probe_used v_trial v_p1_cells v_p1_secrets v_p1_pages v_p1_blind v_p1_rubs v_p1_letters v_p1_now_inOrder v_p1_now_place v_p1_now_ill v_p1_now_shut v_p1_now_turns v_p1_now_madeInAll v_p1_now_dots v_p1_now_knows v_p1_now_made v_p1_now_order v_p1_now_sixteenths v_p1_now_stands v_p1_now_used v_p1_room v_p1_speed)) hD rfl).sub (ws' := (k_X0_sortInto T a_ a_probe a_trial a_best a_p1_now a_p1_now_order a_p1_now_knows a_p1_now_made a_p1_now_sixteenths a_p1_now_dots a_p1_now_used a_p1_now_stands v_bestMany v_trial v_p1_now_inOrder v_p1_now_place v_p1_now_ill v_p1_now_shut v_p1_now_turns v_p1_now_madeInAll v_p1_now_order)) [0, 10, 13, 17] rfl rfl
    refine mp_callv (isC := [0, 10, 13, 17]) (wc := (k_X0_sortInto T a_ a_probe a_trial a_best a_p1_now a_p1_now_order a_p1_now_knows a_p1_now_made a_p1_now_sixteenths a_p1_now_dots a_p1_now_used a_p1_now_stands v_bestMany v_trial v_p1_now_inOrder v_p1_now_place v_p1_now_ill v_p1_now_shut v_p1_now_turns v_p1_now_madeInAll v_p1_now_order)) (w1 := (k_X0_sortInto T a_ a_probe a_trial a_best a_p1_now a_p1_now_order a_p1_now_knows a_p1_now_made a_p1_now_sixteenths a_p1_now_dots a_p1_now_used a_p1_now_stands v_bestMany u2 v_p1_now_inOrder v_p1_now_place v_p1_now_ill v_p1_now_shut v_p1_now_turns v_p1_now_madeInAll v_p1_now_order)) hP (mp_D_of hD rfl) hS hA rfl rfl (mp_runV (As := [.ref a_p1_now]) (rest := []) X me_X0_sortInto lk_X0_57 (c_X0_sortInto l D T fu a_ a_probe a_trial a_best a_p1_now a_p1_now_order a_p1_now_knows a_p1_now_made a_p1_now_sixteenths a_p1_now_dots a_p1_now_used a_p1_now_stands v_bestMany v_p1_now_place v_p1_now_ill v_p1_now_shut v_p1_now_turns v_p1_now_madeInAll v_trial v_p1_now_inOrder v_p1_now_order u2 c3) rfl rfl ⟨(Nat.le_of_ble_eq_true rfl), (Nat.le_of_ble_eq_true rfl)⟩ hK hPc hDc rfl rfl rfl rfl hl.1 rfl (Nat.le_of_ble_eq_true rfl) dX0_seekBest_21 ⟨Nat.zero_le _, Nat.zero_le _⟩) (fun H locs hP _ hS => ?_)
    replace hP : va_P D mp_cl (k_X0_seekBest T a_ a_probe a_trial a_best a_probe_order a_probe_knows a_probe_made a_probe_sixteenths a_probe_dots a_probe_used a_probe_stands a_p1 a_p1_cellNames a_p1_secretNames a_p1_pageNames a_p1_speed a_p1_letters a_p1_room a_p1_now a_p1_rounds a_p1_now_order a_p1_now_knows a_p1_now_made a_p1_now_sixteenths a_p1_now_dots a_p1_now_used a_p1_now_stands v_bestMany v_best v_probe_inOrder v_probe_place v_probe_ill v_probe_shut v_probe_turns v_probe_madeInAll v_probe_dots v_probe_knows v_probe_made v_probe_order v_probe_sixteenths v_probe_stands v_probe_used u2 v_p1_cells v_p1_secrets v_p1_pages v_p1_blind v_p1_rubs v_p1_letters v_p1_now_inOrder v_p1_now_place v_p1_now_ill v_p1_now_shut v_p1_now_turns v_p1_now_madeInAll v_p1_now_dots v_p1_now_knows v_p1_now_made v_p1_now_order v_p1_now_sixteenths v_p1_now_stands v_p1_now_used v_p1_room v_p1_speed) H := hP
    refine lv_bipush (v := (nI 100)) hx hb dX0_seekBest_24 (by decide) ?_
    refine lv_istore_n (lv' := [(3, .int (nI 100)), (2, .int v_p1_now_inOrder), (0, .ref a_), (1, .ref a_p1)]) hx hb dX0_seekBest_26 rfl hl (by decide) rfl (fun ls hl => ?_)
    refine lv_iconst (v := (nI 1)) hx hb dX0_seekBest_27 (by decide) ?_
    refine lv_istore (lv' := [(4, .int (nI 1)), (3, .int (nI 100)), (2, .int v_p1_now_inOrder), (0, .ref a_), (1, .ref a_p1)]) hx hb dX0_seekBest_28 hl (by decide) rfl (fun ls hl => ?_)
    refine lv_iconst (v := (nI 0)) hx hb dX0_seekBest_30 (by decide) ?_
    refine lv_istore (lv' := [(5, .int (nI 0)), (4, .int (nI 1)), (3, .int (nI 100)), (2, .int v_p1_now_inOrder), (0, .ref a_), (1, .ref a_p1)]) hx hb dX0_seekBest_31 hl (by decide) rfl (fun ls hl => ?_)
    exact w_X0_seekBest_33 X hK hA  fu a_ a_probe a_trial a_best a_probe_order a_probe_knows a_probe_made a_probe_sixteenths a_probe_dots a_probe_used a_probe_stands a_p1 a_p1_cellNames a_p1_secretNames a_p1_pageNames a_p1_speed a_p1_letters a_p1_room a_p1_now a_p1_rounds a_p1_now_order a_p1_now_knows a_p1_now_made a_p1_now_sixteenths a_p1_now_dots a_p1_now_used a_p1_now_stands v_p1_cells v_p1_secrets v_p1_pages v_p1_blind v_p1_rubs v_p1_letters v_p1_now_inOrder v_p1_now_place v_p1_now_ill v_p1_now_shut v_p1_now_turns v_p1_now_madeInAll v_p1_now_dots v_p1_now_knows v_p1_now_made v_p1_now_order v_p1_now_sixteenths v_p1_now_stands v_p1_now_used v_p1_room v_p1_speed r_ o_bestMany o_best o_probe_inOrder o_probe_place o_probe_ill o_probe_shut o_probe_turns o_probe_madeInAll o_probe_dots o_probe_knows o_probe_made o_probe_order o_probe_sixteenths o_probe_stands o_probe_used o_trial   fu v_p1_now_inOrder (nI 100) (nI 1) (nI 0) v_bestMany v_best v_probe_inOrder v_probe_place v_probe_ill v_probe_shut v_probe_turns v_probe_madeInAll v_probe_dots v_probe_knows v_probe_made v_probe_order v_probe_sixteenths v_probe_stands v_probe_used u2 hf _ _ _ hP (mp_D_of hD rfl) hS (lv_sub hl [4, 5, 3, 2, 1, 0] rfl)
  · replace hf := if_f hf h1
    refine lv_iconst (v := (-1 : Int32)) hx hb dX0_seekBest_14 (by decide) ?_
    cases hf
    exact mp_reti X hP hS rfl dX0_seekBest_15


def k_X4_commonDivisor (T : Nat → ClassId) : va_W := []
set_option maxHeartbeats 4000000 in
set_option maxRecDepth 100000 in
theorem w_X4_commonDivisor_9 {p : Program} {l : Launch} {e : Env} {s : State} {m : MethodId} {args : Array Value} {below : List Frame} {meth : Method} {c : Code} {D : va_G} {T : Nat → ClassId} {A : Nat → Prop} (X : mp_X p s m meth c args RX4 "commonDivisor" cX4_commonDivisor 11 (some .long)) (hK : va_K D mp_cl (mp_ty T) s) (hA : ∀ q, s.heap.size ≤ q → A q) (fu : Nat) (r_ : Int64) :
    ∀ (n : Nat) (z4 : Int64) (z6 : Int64) (z8 : Int32), f_X4_commonDivisor_9 fu   n z4 z6 z8 = some r_ → ∀ (H : Heap) (locs : List Loc) (ls : Array Slot), va_P D mp_cl (k_X4_commonDivisor T ) H → va_D A (k_X4_commonDivisor T ) → va_S A s.heap H locs → lv_has ls 11 [(4, .long z4), (6, .long z6), (8, .int z8)] → W p l e ({ frames := 0, cells := 0, slots := 0, locals := 0 }) s m args below meth c H locs 0 0 (MQ below ((mp_Ql D r_ (k_X4_commonDivisor T )) A) args s 0 0 A) (F0 m 9 ls []) := by
  have hx := X.1
  have hb := X.2.1
  have hml := X.2.2.1
  have hown := X.2.2.2.2.1
  have hts := X.2.2.2.2.2.1
  intro n
  induction n with
  | zero => intro z4 z6 z8 hf; exact absurd hf (by intro h; cases h)
  | succ n ih =>
    intro z4 z6 z8 hf H locs ls hP hD hS hl
    replace hf : (if (nI 200) ≤ z8 then some (z4) else (if (lg_cmp z6 (lN 0)) = 0 then some (z4) else gd_ (¬ z6 = 0) (lt_ (z4 - z4 / z6 * z6) (fun (y4 : Int64) => lt_ (z8 + (nI 1)) (fun (y5 : Int32) => f_X4_commonDivisor_9 fu   n z6 y4 y5))))) = some r_ := hf
    refine lv_iload hx hb dX4_commonDivisor_9 (lv_at hl 2 rfl) ?_
    refine lv_sipush (v := (nI 200)) hx hb dX4_commonDivisor_11 (by decide) ?_
    refine lv_icmp_ge (tgt := 45) hx hb dX4_commonDivisor_14 (by decide) (fun h1 => ?_) (fun h1 => ?_)
    · replace hf := if_t hf h1
      refine lv_lload hx hb dX4_commonDivisor_45 (lv_at hl 0 rfl) ?_
      cases hf
      exact mp_retl X hP hS rfl dX4_commonDivisor_47
    · replace hf := if_f hf h1
      refine lv_lload hx hb dX4_commonDivisor_17 (lv_at hl 1 rfl) ?_
      refine lv_lconst (v := (lN 0)) hx hb dX4_commonDivisor_19 (by decide) ?_
      refine W.lcmp hx hb dX4_commonDivisor_20 ?_
      refine lv_if_eq (tgt := 45) hx hb dX4_commonDivisor_21 (by decide) (fun h2 => ?_) (fun h2 => ?_)
      · replace hf := if_t hf h2
        refine lv_lload hx hb dX4_commonDivisor_45 (lv_at hl 0 rfl) ?_
        cases hf
        exact mp_retl X hP hS rfl dX4_commonDivisor_47
      · replace hf := if_f hf h2
        refine lv_lload hx hb dX4_commonDivisor_24 (lv_at hl 0 rfl) ?_
        refine lv_lload hx hb dX4_commonDivisor_26 (lv_at hl 1 rfl) ?_
        obtain ⟨h3, hf⟩ := gd_of hf
        refine lv_lrem hx hb dX4_commonDivisor_28 h3 ?_
        refine lv_topl (fun y4 e4 => ?_)
        replace hf := lt_of e4 hf
        refine lv_lstore (lv' := [(9, .long y4), (4, .long z4), (6, .long z6), (8, .int z8)]) hx hb dX4_commonDivisor_29 hl (by decide) rfl (fun ls hl => ?_)
        refine lv_lload hx hb dX4_commonDivisor_31 (lv_at hl 2 rfl) ?_
        refine lv_lstore (lv' := [(4, .long z6), (9, .long y4), (6, .long z6), (8, .int z8)]) hx hb dX4_commonDivisor_33 hl (by decide) rfl (fun ls hl => ?_)
        refine lv_lload hx hb dX4_commonDivisor_35 (lv_at hl 1 rfl) ?_
        refine lv_lstore (lv' := [(6, .long y4), (4, .long z6), (9, .long y4), (8, .int z8)]) hx hb dX4_commonDivisor_37 hl (by decide) rfl (fun ls hl => ?_)
        obtain ⟨y5, e5⟩ : ∃ y : Int32, y = z8 + (nI 1) := ⟨_, rfl⟩
        replace hf := lt_of e5 hf
        refine lv_iinc (v := y5) (lv' := [(8, .int y5), (6, .long y4), (4, .long z6), (9, .long y4)]) hx hb dX4_commonDivisor_39 hl (k := 3) rfl (by rw [e5]; rfl) (by decide) rfl (fun ls hl => ?_)
        refine lv_goto (tgt := 9) hx hb dX4_commonDivisor_42 (by decide) ?_
        exact ih z6 y4 y5 hf _ _ _ hP (mp_D_of hD rfl) hS (lv_sub hl [2, 1, 0] rfl)

set_option maxHeartbeats 4000000 in
set_option maxRecDepth 100000 in
theorem c_X4_commonDivisor (l : Launch) (D : va_G) (T : Nat → ClassId) (fu : Nat) (x1 : Int64) (x2 : Int64) (r_ : Int64) (hf : f_X4_commonDivisor fu x1 x2 = some r_) :
    mp_M l D T yX4_commonDivisor cX4_commonDivisor 11 (some .long) ({ frames := 0, cells := 0, slots := 0, locals := 0 }) 0 0 [.long x1, .long x2] (k_X4_commonDivisor T ) (mp_Ql D r_ (k_X4_commonDivisor T )) := by
  refine mp_of (by decide) (Nat.le_of_ble_eq_true rfl) rfl ?_
  intro p e s m args below meth c A ls X hK hP hD hS hA hl
  replace X : mp_X p s m meth c args RX4 "commonDivisor" cX4_commonDivisor 11 (some .long) := X
  have hx := X.1
  have hb := X.2.1
  have hml := X.2.2.1
  have hown := X.2.2.2.2.1
  have hts := X.2.2.2.2.2.1
  replace hl : lv_has ls 11 [(0, .long x1), (2, .long x2)] := hl
  replace hf : f_X4_commonDivisor_9 fu   fu x1 x2 (nI 0) = some r_ := hf
  refine lv_lload_n hx hb dX4_commonDivisor_0 rfl (lv_at hl 0 rfl) ?_
  refine lv_lstore (lv' := [(4, .long x1), (0, .long x1), (2, .long x2)]) hx hb dX4_commonDivisor_1 hl (by decide) rfl (fun ls hl => ?_)
  refine lv_lload_n hx hb dX4_commonDivisor_3 rfl (lv_at hl 2 rfl) ?_
  refine lv_lstore (lv' := [(6, .long x2), (4, .long x1), (0, .long x1), (2, .long x2)]) hx hb dX4_commonDivisor_4 hl (by decide) rfl (fun ls hl => ?_)
  refine lv_iconst (v := (nI 0)) hx hb dX4_commonDivisor_6 (by decide) ?_
  refine lv_istore (lv' := [(8, .int (nI 0)), (6, .long x2), (4, .long x1), (0, .long x1), (2, .long x2)]) hx hb dX4_commonDivisor_7 hl (by decide) rfl (fun ls hl => ?_)
  exact w_X4_commonDivisor_9 X hK hA  fu r_   fu x1 x2 (nI 0) hf _ _ _ hP (mp_D_of hD rfl) hS (lv_sub hl [2, 1, 0] rfl)


def k_X4_keep (T : Nat → ClassId) (a_ a_holds a_lettersOf : Nat) (v_above : Int64) (v_below : Int64) : va_W := [(a_, oX4 v_above v_below a_holds a_lettersOf)]
set_option maxHeartbeats 4000000 in
set_option maxRecDepth 100000 in
theorem c_X4_keep (l : Launch) (D : va_G) (T : Nat → ClassId) (fu : Nat) (a_ a_holds a_lettersOf : Nat) (x1 : Int64) (x2 : Int64) (v_above : Int64) (v_below : Int64) (o_above : Int64) (o_below : Int64) (hf : f_X4_keep fu x1 x2 v_above v_below = some (o_above, o_below)) :
    mp_M l D T yX4_keep cX4_keep 7 none ({ frames := 1, cells := 0, slots := 0, locals := 30 }) 0 0 [.ref a_, .long x1, .long x2] (k_X4_keep T a_ a_holds a_lettersOf v_above v_below) (mp_Qv D (k_X4_keep T a_ a_holds a_lettersOf o_above o_below)) := by
  refine mp_of (by decide) (Nat.le_of_ble_eq_true rfl) rfl ?_
  intro p e s m args below meth c A ls X hK hP hD hS hA hl
  replace X : mp_X p s m meth c args RX4 "keep" cX4_keep 7 none := X
  have hx := X.1
  have hb := X.2.1
  have hml := X.2.2.1
  have hown := X.2.2.2.2.1
  have hts := X.2.2.2.2.2.1
  replace hl : lv_has ls 7 [(0, .ref a_), (1, .long x1), (3, .long x2)] := hl
  replace hf : bd_ (f_X4_commonDivisor fu x2 x1) (fun (r1 : Int64) => (if (lg_cmp r1 (lN 0)) ≤ 0 then some (v_above, v_below) else gd_ (¬ r1 = 0) (lt_ (x1 / r1) (fun (y5 : Int64) => gd_ (¬ r1 = 0) (lt_ (x2 / r1) (fun (y7 : Int64) => some (y5, y7))))))) = some (o_above, o_below) := hf
  refine lv_lload_n hx hb dX4_keep_0 rfl (lv_at hl 2 rfl) ?_
  refine lv_lload_n hx hb dX4_keep_1 rfl (lv_at hl 1 rfl) ?_
  obtain ⟨r1, c2, hf⟩ := bd_of hf
  have hPc := hP.sub (ws' := (k_X4_commonDivisor T )) [] rfl
  have hDc := (mp_D_of (w1 := (k_X4_keep T a_ a_holds a_lettersOf v_above v_below)) hD rfl).sub (ws' := (k_X4_commonDivisor T )) [] rfl rfl
  refine mp_calll (isC := []) (wc := (k_X4_commonDivisor T )) (w1 := (k_X4_commonDivisor T )) hP (mp_D_of hD rfl) hS hA rfl rfl (mp_runS (As := [.long x2, .long x1]) (rest := []) X me_X4_commonDivisor lk_X4_26 (c_X4_commonDivisor l D T fu x2 x1 r1 c2) rfl rfl ⟨(Nat.le_of_ble_eq_true rfl), (Nat.le_of_ble_eq_true rfl)⟩ hK hPc hDc rfl hl.1 rfl (Nat.le_of_ble_eq_true rfl) dX4_keep_2 ⟨Nat.zero_le _, Nat.zero_le _⟩) (fun H locs hP _ hS => ?_)
  replace hP : va_P D mp_cl (k_X4_keep T a_ a_holds a_lettersOf v_above v_below) H := hP
  refine lv_lstore (lv' := [(5, .long r1), (0, .ref a_), (1, .long x1), (3, .long x2)]) hx hb dX4_keep_5 hl (by decide) rfl (fun ls hl => ?_)
  refine lv_lload hx hb dX4_keep_7 (lv_at hl 0 rfl) ?_
  refine lv_lconst (v := (lN 0)) hx hb dX4_keep_9 (by decide) ?_
  refine W.lcmp hx hb dX4_keep_10 ?_
  refine lv_if_le (tgt := 30) hx hb dX4_keep_11 (by decide) (fun h3 => ?_) (fun h3 => ?_)
  · replace hf := if_t hf h3
    cases hf
    exact mp_retv X hP hS dX4_keep_30
  · replace hf := if_f hf h3
    refine lv_aload_n hx hb dX4_keep_14 rfl (lv_at hl 1 rfl) ?_
    refine lv_lload_n hx hb dX4_keep_15 rfl (lv_at hl 2 rfl) ?_
    refine lv_lload hx hb dX4_keep_16 (lv_at hl 0 rfl) ?_
    obtain ⟨h4, hf⟩ := gd_of hf
    refine lv_ldiv hx hb dX4_keep_18 h4 ?_
    refine lv_topl (fun y5 e5 => ?_)
    replace hf := lt_of e5 hf
    refine mp_putf X fl_X4_9 fp_X4 rfl hK hP (mp_D_of hD rfl) hS 0 rfl rfl rfl (Nat.le_of_ble_eq_true rfl) dX4_keep_19 (fun H locs hP _ hS => ?_)
    replace hP : va_P D mp_cl (k_X4_keep T a_ a_holds a_lettersOf y5 v_below) H := hP
    refine lv_aload_n hx hb dX4_keep_22 rfl (lv_at hl 1 rfl) ?_
    refine lv_lload_n hx hb dX4_keep_23 rfl (lv_at hl 3 rfl) ?_
    refine lv_lload hx hb dX4_keep_24 (lv_at hl 0 rfl) ?_
    obtain ⟨h6, hf⟩ := gd_of hf
    refine lv_ldiv hx hb dX4_keep_26 h6 ?_
    refine lv_topl (fun y7 e7 => ?_)
    replace hf := lt_of e7 hf
    refine mp_putf X fl_X4_15 fp_X4 rfl hK hP (mp_D_of hD rfl) hS 0 rfl rfl rfl (Nat.le_of_ble_eq_true rfl) dX4_keep_27 (fun H locs hP _ hS => ?_)
    replace hP : va_P D mp_cl (k_X4_keep T a_ a_holds a_lettersOf y5 y7) H := hP
    cases hf
    exact mp_retv X hP hS dX4_keep_30


def k_X4_firstSafe (T : Nat → ClassId) (a_p1 a_p1_cellNames a_p1_secretNames a_p1_pageNames a_p1_speed a_p1_letters a_p1_room a_p1_now a_p1_rounds a_p1_now_order a_p1_now_knows a_p1_now_made a_p1_now_sixteenths a_p1_now_dots a_p1_now_used a_p1_now_stands : Nat) (v_p1_cells : Int32) (v_p1_secrets : Int32) (v_p1_pages : Int32) (v_p1_blind : Int32) (v_p1_rubs : Int32) (v_p1_now_inOrder : Int32) (v_p1_now_place : Int32) (v_p1_now_ill : Int32) (v_p1_now_shut : Int32) (v_p1_now_turns : Int32) (v_p1_now_madeInAll : Int32) (v_p1_now_sixteenths : (Nat → Int32)) : va_W := [(a_p1, oX1 v_p1_cells v_p1_secrets v_p1_pages a_p1_cellNames a_p1_secretNames a_p1_pageNames a_p1_speed v_p1_blind v_p1_rubs a_p1_letters a_p1_room a_p1_now a_p1_rounds), (a_p1_now, oX7 a_p1_now_order v_p1_now_inOrder v_p1_now_place a_p1_now_knows a_p1_now_made a_p1_now_sixteenths a_p1_now_dots a_p1_now_used a_p1_now_stands v_p1_now_ill v_p1_now_shut v_p1_now_turns v_p1_now_madeInAll), (a_p1_now_sixteenths, mp_aI T 6 v_p1_now_sixteenths)]
set_option maxHeartbeats 4000000 in
set_option maxRecDepth 100000 in
theorem w_X4_firstSafe_2 {p : Program} {l : Launch} {e : Env} {s : State} {m : MethodId} {args : Array Value} {below : List Frame} {meth : Method} {c : Code} {D : va_G} {T : Nat → ClassId} {A : Nat → Prop} (X : mp_X p s m meth c args RX4 "firstSafe" cX4_firstSafe 2 (some .int)) (hK : va_K D mp_cl (mp_ty T) s) (hA : ∀ q, s.heap.size ≤ q → A q) (fu : Nat) (a_p1 a_p1_cellNames a_p1_secretNames a_p1_pageNames a_p1_speed a_p1_letters a_p1_room a_p1_now a_p1_rounds a_p1_now_order a_p1_now_knows a_p1_now_made a_p1_now_sixteenths a_p1_now_dots a_p1_now_used a_p1_now_stands : Nat) (v_p1_cells : Int32) (v_p1_secrets : Int32) (v_p1_blind : Int32) (v_p1_rubs : Int32) (v_p1_now_inOrder : Int32) (v_p1_now_place : Int32) (v_p1_now_ill : Int32) (v_p1_now_turns : Int32) (v_p1_now_madeInAll : Int32) (v_p1_pages : Int32) (v_p1_now_shut : Int32) (v_p1_now_sixteenths : (Nat → Int32)) (r_ : Int32) :
    ∀ (n : Nat) (z1 : Int32), f_X4_firstSafe_2 fu v_p1_pages v_p1_now_shut v_p1_now_sixteenths  n z1 = some r_ → ∀ (H : Heap) (locs : List Loc) (ls : Array Slot), va_P D mp_cl (k_X4_firstSafe T a_p1 a_p1_cellNames a_p1_secretNames a_p1_pageNames a_p1_speed a_p1_letters a_p1_room a_p1_now a_p1_rounds a_p1_now_order a_p1_now_knows a_p1_now_made a_p1_now_sixteenths a_p1_now_dots a_p1_now_used a_p1_now_stands v_p1_cells v_p1_secrets v_p1_pages v_p1_blind v_p1_rubs v_p1_now_inOrder v_p1_now_place v_p1_now_ill v_p1_now_shut v_p1_now_turns v_p1_now_madeInAll v_p1_now_sixteenths) H → va_D A (k_X4_firstSafe T a_p1 a_p1_cellNames a_p1_secretNames a_p1_pageNames a_p1_speed a_p1_letters a_p1_room a_p1_now a_p1_rounds a_p1_now_order a_p1_now_knows a_p1_now_made a_p1_now_sixteenths a_p1_now_dots a_p1_now_used a_p1_now_stands v_p1_cells v_p1_secrets v_p1_pages v_p1_blind v_p1_rubs v_p1_now_inOrder v_p1_now_place v_p1_now_ill v_p1_now_shut v_p1_now_turns v_p1_now_madeInAll v_p1_now_sixteenths) → va_S A s.heap H locs → lv_has ls 2 [(0, .ref a_p1), (1, .int z1)] → W p l e ({ frames := 1, cells := 0, slots := 0, locals := 21 }) s m args below meth c H locs 0 0 (MQ below ((mp_Qi D r_ (k_X4_firstSafe T a_p1 a_p1_cellNames a_p1_secretNames a_p1_pageNames a_p1_speed a_p1_letters a_p1_room a_p1_now a_p1_rounds a_p1_now_order a_p1_now_knows a_p1_now_made a_p1_now_sixteenths a_p1_now_dots a_p1_now_used a_p1_now_stands v_p1_cells v_p1_secrets v_p1_pages v_p1_blind v_p1_rubs v_p1_now_inOrder v_p1_now_place v_p1_now_ill v_p1_now_shut v_p1_now_turns v_p1_now_madeInAll v_p1_now_sixteenths)) A) args s 0 0 A) (F0 m 2 ls []) := by
  have hx := X.1
  have hb := X.2.1
  have hml := X.2.2.1
  have hown := X.2.2.2.2.1
  have hts := X.2.2.2.2.2.1
  intro n
  induction n with
  | zero => intro z1 hf; exact absurd hf (by intro h; cases h)
  | succ n ih =>
    intro z1 hf H locs ls hP hD hS hl
    replace hf : (if v_p1_pages ≤ z1 then some ((-1 : Int32)) else bd_ (f_X7_has v_p1_now_shut z1) (fun (r2 : Int32) => (if r2 = 0 then gi_ z1 6 ((if (v_p1_now_sixteenths (z1).toNatClampNeg) = 0 then some (z1) else lt_ (z1 + (nI 1)) (fun (y8 : Int32) => f_X4_firstSafe_2 fu v_p1_pages v_p1_now_shut v_p1_now_sixteenths  n y8))) else lt_ (z1 + (nI 1)) (fun (y5 : Int32) => f_X4_firstSafe_2 fu v_p1_pages v_p1_now_shut v_p1_now_sixteenths  n y5)))) = some r_ := hf
    refine lv_iload_n hx hb dX4_firstSafe_2 rfl (lv_at hl 1 rfl) ?_
    refine lv_aload_n hx hb dX4_firstSafe_3 rfl (lv_at hl 0 rfl) ?_
    refine mp_get X fl_X4_30 hK hP 0 rfl rfl dX4_firstSafe_4 ?_
    refine lv_icmp_ge (tgt := 44) hx hb dX4_firstSafe_7 (by decide) (fun h1 => ?_) (fun h1 => ?_)
    · replace hf := if_t hf h1
      refine lv_iconst (v := (-1 : Int32)) hx hb dX4_firstSafe_44 (by decide) ?_
      cases hf
      exact mp_reti X hP hS rfl dX4_firstSafe_45
    · replace hf := if_f hf h1
      refine lv_aload_n hx hb dX4_firstSafe_10 rfl (lv_at hl 0 rfl) ?_
      refine mp_get X fl_X4_36 hK hP 0 rfl rfl dX4_firstSafe_11 ?_
      refine mp_get X fl_X4_40 hK hP 1 rfl rfl dX4_firstSafe_14 ?_
      refine lv_iload_n hx hb dX4_firstSafe_17 rfl (lv_at hl 1 rfl) ?_
      obtain ⟨r2, c3, hf⟩ := bd_of hf
      have hPc := hP.sub (ws' := (k_X7_has T )) [] rfl
      have hDc := (mp_D_of (w1 := (k_X4_firstSafe T a_p1 a_p1_cellNames a_p1_secretNames a_p1_pageNames a_p1_speed a_p1_letters a_p1_room a_p1_now a_p1_rounds a_p1_now_order a_p1_now_knows a_p1_now_made a_p1_now_sixteenths a_p1_now_dots a_p1_now_used a_p1_now_stands v_p1_cells v_p1_secrets v_p1_pages v_p1_blind v_p1_rubs v_p1_now_inOrder v_p1_now_place v_p1_now_ill v_p1_now_shut v_p1_now_turns v_p1_now_madeInAll v_p1_now_sixteenths)) hD rfl).sub (ws' := (k_X7_has T )) [] rfl rfl
      refine mp_calli (isC := []) (wc := (k_X7_has T )) (w1 := (k_X7_has T )) hP (mp_D_of hD rfl) hS hA rfl rfl (mp_runS (As := [.int v_p1_now_shut, .int z1]) (rest := []) X me_X7_has lk_X4_45 (c_X7_has l D T v_p1_now_shut z1 r2 c3) rfl rfl ⟨(Nat.le_of_ble_eq_true rfl), (Nat.le_of_ble_eq_true rfl)⟩ hK hPc hDc rfl hl.1 rfl (Nat.le_of_ble_eq_true rfl) dX4_firstSafe_18 ⟨Nat.zero_le _, Nat.zero_le _⟩) (fun H locs hP _ hS => ?_)
      replace hP : va_P D mp_cl (k_X4_firstSafe T a_p1 a_p1_cellNames a_p1_secretNames a_p1_pageNames a_p1_speed a_p1_letters a_p1_room a_p1_now a_p1_rounds a_p1_now_order a_p1_now_knows a_p1_now_made a_p1_now_sixteenths a_p1_now_dots a_p1_now_used a_p1_now_stands v_p1_cells v_p1_secrets v_p1_pages v_p1_blind v_p1_rubs v_p1_now_inOrder v_p1_now_place v_p1_now_ill v_p1_now_shut v_p1_now_turns v_p1_now_madeInAll v_p1_now_sixteenths) H := hP
      refine lv_if_ne (tgt := 38) hx hb dX4_firstSafe_21 (by decide) (fun h4 => ?_) (fun h4 => ?_)
      · replace hf := if_f hf h4
        obtain ⟨y5, e5⟩ : ∃ y : Int32, y = z1 + (nI 1) := ⟨_, rfl⟩
        replace hf := lt_of e5 hf
        refine lv_iinc (v := y5) (lv' := [(1, .int y5), (0, .ref a_p1)]) hx hb dX4_firstSafe_38 hl (k := 1) rfl (by rw [e5]; rfl) (by decide) rfl (fun ls hl => ?_)
        refine lv_goto (tgt := 2) hx hb dX4_firstSafe_41 (by decide) ?_
        exact ih y5 hf _ _ _ hP (mp_D_of hD rfl) hS (lv_sub hl [1, 0] rfl)
      · replace hf := if_t hf h4
        refine lv_aload_n hx hb dX4_firstSafe_24 rfl (lv_at hl 0 rfl) ?_
        refine mp_get X fl_X4_36 hK hP 0 rfl rfl dX4_firstSafe_25 ?_
        refine mp_get X fl_X4_52 hK hP 1 rfl rfl dX4_firstSafe_28 ?_
        refine lv_iload_n hx hb dX4_firstSafe_31 rfl (lv_at hl 1 rfl) ?_
        obtain ⟨h6, hf⟩ := gi_of hf
        refine va_iald hx hb hK hP 2 0 rfl rfl h6 dX4_firstSafe_32 ?_
        refine lv_if_ne (tgt := 38) hx hb dX4_firstSafe_33 (by decide) (fun h7 => ?_) (fun h7 => ?_)
        · replace hf := if_f hf h7
          obtain ⟨y8, e8⟩ : ∃ y : Int32, y = z1 + (nI 1) := ⟨_, rfl⟩
          replace hf := lt_of e8 hf
          refine lv_iinc (v := y8) (lv' := [(1, .int y8), (0, .ref a_p1)]) hx hb dX4_firstSafe_38 hl (k := 1) rfl (by rw [e8]; rfl) (by decide) rfl (fun ls hl => ?_)
          refine lv_goto (tgt := 2) hx hb dX4_firstSafe_41 (by decide) ?_
          exact ih y8 hf _ _ _ hP (mp_D_of hD rfl) hS (lv_sub hl [1, 0] rfl)
        · replace hf := if_t hf h7
          refine lv_iload_n hx hb dX4_firstSafe_36 rfl (lv_at hl 1 rfl) ?_
          cases hf
          exact mp_reti X hP hS rfl dX4_firstSafe_37

set_option maxHeartbeats 4000000 in
set_option maxRecDepth 100000 in
theorem c_X4_firstSafe (l : Launch) (D : va_G) (T : Nat → ClassId) (fu : Nat) (a_p1 a_p1_cellNames a_p1_secretNames a_p1_pageNames a_p1_speed a_p1_letters a_p1_room a_p1_now a_p1_rounds a_p1_now_order a_p1_now_knows a_p1_now_made a_p1_now_sixteenths a_p1_now_dots a_p1_now_used a_p1_now_stands : Nat) (v_p1_cells : Int32) (v_p1_secrets : Int32) (v_p1_blind : Int32) (v_p1_rubs : Int32) (v_p1_now_inOrder : Int32) (v_p1_now_place : Int32) (v_p1_now_ill : Int32) (v_p1_now_turns : Int32) (v_p1_now_madeInAll : Int32) (v_p1_pages : Int32) (v_p1_now_shut : Int32) (v_p1_now_sixteenths : (Nat → Int32)) (r_ : Int32) (hf : f_X4_firstSafe fu v_p1_pages v_p1_now_shut v_p1_now_sixteenths = some r_) :
    mp_M l D T yX4_firstSafe cX4_firstSafe 2 (some .int) ({ frames := 1, cells := 0, slots := 0, locals := 21 }) 0 0 [.ref a_p1] (k_X4_firstSafe T a_p1 a_p1_cellNames a_p1_secretNames a_p1_pageNames a_p1_speed a_p1_letters a_p1_room a_p1_now a_p1_rounds a_p1_now_order a_p1_now_knows a_p1_now_made a_p1_now_sixteenths a_p1_now_dots a_p1_now_used a_p1_now_stands v_p1_cells v_p1_secrets v_p1_pages v_p1_blind v_p1_rubs v_p1_now_inOrder v_p1_now_place v_p1_now_ill v_p1_now_shut v_p1_now_turns v_p1_now_madeInAll v_p1_now_sixteenths) (mp_Qi D r_ (k_X4_firstSafe T a_p1 a_p1_cellNames a_p1_secretNames a_p1_pageNames a_p1_speed a_p1_letters a_p1_room a_p1_now a_p1_rounds a_p1_now_order a_p1_now_knows a_p1_now_made a_p1_now_sixteenths a_p1_now_dots a_p1_now_used a_p1_now_stands v_p1_cells v_p1_secrets v_p1_pages v_p1_blind v_p1_rubs v_p1_now_inOrder v_p1_now_place v_p1_now_ill v_p1_now_shut v_p1_now_turns v_p1_now_madeInAll v_p1_now_sixteenths)) := by
  refine mp_of (by decide) (Nat.le_of_ble_eq_true rfl) rfl ?_
  intro p e s m args below meth c A ls X hK hP hD hS hA hl
  replace X : mp_X p s m meth c args RX4 "firstSafe" cX4_firstSafe 2 (some .int) := X
  have hx := X.1
  have hb := X.2.1
  have hml := X.2.2.1
  have hown := X.2.2.2.2.1
  have hts := X.2.2.2.2.2.1
  replace hl : lv_has ls 2 [(0, .ref a_p1)] := hl
  replace hf : f_X4_firstSafe_2 fu v_p1_pages v_p1_now_shut v_p1_now_sixteenths  fu (nI 0) = some r_ := hf
  refine lv_iconst (v := (nI 0)) hx hb dX4_firstSafe_0 (by decide) ?_
  refine lv_istore_n (lv' := [(1, .int (nI 0)), (0, .ref a_p1)]) hx hb dX4_firstSafe_1 rfl hl (by decide) rfl (fun ls hl => ?_)
  exact w_X4_firstSafe_2 X hK hA  fu a_p1 a_p1_cellNames a_p1_secretNames a_p1_pageNames a_p1_speed a_p1_letters a_p1_room a_p1_now a_p1_rounds a_p1_now_order a_p1_now_knows a_p1_now_made a_p1_now_sixteenths a_p1_now_dots a_p1_now_used a_p1_now_stands v_p1_cells v_p1_secrets v_p1_blind v_p1_rubs v_p1_now_inOrder v_p1_now_place v_p1_now_ill v_p1_now_turns v_p1_now_madeInAll v_p1_pages v_p1_now_shut v_p1_now_sixteenths r_   fu (nI 0) hf _ _ _ hP (mp_D_of hD rfl) hS (lv_sub hl [1, 0] rfl)


def k_X4_part (T : Nat → ClassId) (a_p1 a_p1_cellNames a_p1_secretNames a_p1_pageNames a_p1_speed a_p1_letters a_p1_room a_p1_now a_p1_rounds a_p1_now_order a_p1_now_knows a_p1_now_made a_p1_now_sixteenths a_p1_now_dots a_p1_now_used a_p1_now_stands : Nat) (v_p1_cells : Int32) (v_p1_secrets : Int32) (v_p1_pages : Int32) (v_p1_blind : Int32) (v_p1_rubs : Int32) (v_p1_now_inOrder : Int32) (v_p1_now_place : Int32) (v_p1_now_ill : Int32) (v_p1_now_shut : Int32) (v_p1_now_turns : Int32) (v_p1_now_madeInAll : Int32) (v_p1_now_sixteenths : (Nat → Int32)) : va_W := [(a_p1, oX1 v_p1_cells v_p1_secrets v_p1_pages a_p1_cellNames a_p1_secretNames a_p1_pageNames a_p1_speed v_p1_blind v_p1_rubs a_p1_letters a_p1_room a_p1_now a_p1_rounds), (a_p1_now, oX7 a_p1_now_order v_p1_now_inOrder v_p1_now_place a_p1_now_knows a_p1_now_made a_p1_now_sixteenths a_p1_now_dots a_p1_now_used a_p1_now_stands v_p1_now_ill v_p1_now_shut v_p1_now_turns v_p1_now_madeInAll), (a_p1_now_sixteenths, mp_aI T 6 v_p1_now_sixteenths)]
set_option maxHeartbeats 4000000 in
set_option maxRecDepth 100000 in
theorem c_X4_part (l : Launch) (D : va_G) (T : Nat → ClassId) (a_p1 a_p1_cellNames a_p1_secretNames a_p1_pageNames a_p1_speed a_p1_letters a_p1_room a_p1_now a_p1_rounds a_p1_now_order a_p1_now_knows a_p1_now_made a_p1_now_sixteenths a_p1_now_dots a_p1_now_used a_p1_now_stands : Nat) (x2 : Int32) (v_p1_cells : Int32) (v_p1_secrets : Int32) (v_p1_pages : Int32) (v_p1_blind : Int32) (v_p1_rubs : Int32) (v_p1_now_inOrder : Int32) (v_p1_now_place : Int32) (v_p1_now_ill : Int32) (v_p1_now_shut : Int32) (v_p1_now_turns : Int32) (v_p1_now_madeInAll : Int32) (v_p1_now_sixteenths : (Nat → Int32)) (r_ : Int64) (hf : f_X4_part x2 v_p1_now_sixteenths = some r_) :
    mp_M l D T yX4_part cX4_part 3 (some .long) ({ frames := 0, cells := 0, slots := 0, locals := 0 }) 0 0 [.ref a_p1, .int x2] (k_X4_part T a_p1 a_p1_cellNames a_p1_secretNames a_p1_pageNames a_p1_speed a_p1_letters a_p1_room a_p1_now a_p1_rounds a_p1_now_order a_p1_now_knows a_p1_now_made a_p1_now_sixteenths a_p1_now_dots a_p1_now_used a_p1_now_stands v_p1_cells v_p1_secrets v_p1_pages v_p1_blind v_p1_rubs v_p1_now_inOrder v_p1_now_place v_p1_now_ill v_p1_now_shut v_p1_now_turns v_p1_now_madeInAll v_p1_now_sixteenths) (mp_Ql D r_ (k_X4_part T a_p1 a_p1_cellNames a_p1_secretNames a_p1_pageNames a_p1_speed a_p1_letters a_p1_room a_p1_now a_p1_rounds a_p1_now_order a_p1_now_knows a_p1_now_made a_p1_now_sixteenths a_p1_now_dots a_p1_now_used a_p1_now_stands v_p1_cells v_p1_secrets v_p1_pages v_p1_blind v_p1_rubs v_p1_now_inOrder v_p1_now_place v_p1_now_ill v_p1_now_shut v_p1_now_turns v_p1_now_madeInAll v_p1_now_sixteenths)) := by
  refine mp_of (by decide) (Nat.le_of_ble_eq_true rfl) rfl ?_
  intro p e s m args below meth c A ls X hK hP hD hS hA hl
  replace X : mp_X p s m meth c args RX4 "part" cX4_part 3 (some .long) := X
  have hx := X.1
  have hb := X.2.1
  have hml := X.2.2.1
  have hown := X.2.2.2.2.1
  have hts := X.2.2.2.2.2.1
  replace hl : lv_has ls 3 [(0, .ref a_p1), (1, .int x2)] := hl
  replace hf : gi_ x2 6 (lt_ (v_p1_now_sixteenths (x2).toNatClampNeg) (fun (y2 : Int32) => (if y2 = 0 then some ((lN 0)) else gd_ (¬ (y2).toInt64 = 0) (some ((lN 720720) / (y2).toInt64))))) = some r_ := hf
  refine lv_aload_n hx hb dX4_part_0 rfl (lv_at hl 0 rfl) ?_
  refine mp_get X fl_X4_36 hK hP 0 rfl rfl dX4_part_1 ?_
  refine mp_get X fl_X4_52 hK hP 1 rfl rfl dX4_part_4 ?_
  refine lv_iload_n hx hb dX4_part_7 rfl (lv_at hl 1 rfl) ?_
  obtain ⟨h1, hf⟩ := gi_of hf
  refine va_iald hx hb hK hP 2 0 rfl rfl h1 dX4_part_8 ?_
  refine lv_topi (fun y2 e2 => ?_)
  replace hf := lt_of e2 hf
  refine lv_istore_n (lv' := [(2, .int y2), (0, .ref a_p1), (1, .int x2)]) hx hb dX4_part_9 rfl hl (by decide) rfl (fun ls hl => ?_)
  refine lv_iload_n hx hb dX4_part_10 rfl (lv_at hl 0 rfl) ?_
  refine lv_if_ne (tgt := 18) hx hb dX4_part_11 (by decide) (fun h3 => ?_) (fun h3 => ?_)
  · replace hf := if_f hf h3
    refine lv_ldc2 (v := (lN 720720)) hx hb hown (hts _ (cw_X4_69)) dX4_part_18 ?_
    refine lv_iload_n hx hb dX4_part_21 rfl (lv_at hl 0 rfl) ?_
    refine lv_i2l hx hb dX4_part_22 rfl ?_
    obtain ⟨h4, hf⟩ := gd_of hf
    refine lv_ldiv hx hb dX4_part_23 h4 ?_
    cases hf
    exact mp_retl X hP hS rfl dX4_part_24
  · replace hf := if_t hf h3
    refine lv_lconst (v := (lN 0)) hx hb dX4_part_14 (by decide) ?_
    refine lv_goto (tgt := 24) hx hb dX4_part_15 (by decide) ?_
    cases hf
    exact mp_retl X hP hS rfl dX4_part_24


def k_X4_sumOfParts (T : Nat → ClassId) (a_p1 a_p1_cellNames a_p1_secretNames a_p1_pageNames a_p1_speed a_p1_letters a_p1_room a_p1_now a_p1_rounds a_p1_now_order a_p1_now_knows a_p1_now_made a_p1_now_sixteenths a_p1_now_dots a_p1_now_used a_p1_now_stands : Nat) (v_p1_cells : Int32) (v_p1_secrets : Int32) (v_p1_pages : Int32) (v_p1_blind : Int32) (v_p1_rubs : Int32) (v_p1_now_inOrder : Int32) (v_p1_now_place : Int32) (v_p1_now_ill : Int32) (v_p1_now_shut : Int32) (v_p1_now_turns : Int32) (v_p1_now_madeInAll : Int32) (v_p1_now_sixteenths : (Nat → Int32)) : va_W := [(a_p1, oX1 v_p1_cells v_p1_secrets v_p1_pages a_p1_cellNames a_p1_secretNames a_p1_pageNames a_p1_speed v_p1_blind v_p1_rubs a_p1_letters a_p1_room a_p1_now a_p1_rounds), (a_p1_now, oX7 a_p1_now_order v_p1_now_inOrder v_p1_now_place a_p1_now_knows a_p1_now_made a_p1_now_sixteenths a_p1_now_dots a_p1_now_used a_p1_now_stands v_p1_now_ill v_p1_now_shut v_p1_now_turns v_p1_now_madeInAll), (a_p1_now_sixteenths, mp_aI T 6 v_p1_now_sixteenths)]
set_option maxHeartbeats 4000000 in
set_option maxRecDepth 100000 in
theorem w_X4_sumOfParts_4 {p : Program} {l : Launch} {e : Env} {s : State} {m : MethodId} {args : Array Value} {below : List Frame} {meth : Method} {c : Code} {D : va_G} {T : Nat → ClassId} {A : Nat → Prop} (X : mp_X p s m meth c args RX4 "sumOfParts" cX4_sumOfParts 4 (some .long)) (hK : va_K D mp_cl (mp_ty T) s) (hA : ∀ q, s.heap.size ≤ q → A q) (fu : Nat) (a_p1 a_p1_cellNames a_p1_secretNames a_p1_pageNames a_p1_speed a_p1_letters a_p1_room a_p1_now a_p1_rounds a_p1_now_order a_p1_now_knows a_p1_now_made a_p1_now_sixteenths a_p1_now_dots a_p1_now_used a_p1_now_stands : Nat) (v_p1_cells : Int32) (v_p1_secrets : Int32) (v_p1_blind : Int32) (v_p1_rubs : Int32) (v_p1_now_inOrder : Int32) (v_p1_now_place : Int32) (v_p1_now_ill : Int32) (v_p1_now_turns : Int32) (v_p1_now_madeInAll : Int32) (v_p1_pages : Int32) (v_p1_now_shut : Int32) (v_p1_now_sixteenths : (Nat → Int32)) (r_ : Int64) :
    ∀ (n : Nat) (z1 : Int64) (z3 : Int32), f_X4_sumOfParts_4 fu v_p1_pages v_p1_now_shut v_p1_now_sixteenths  n z1 z3 = some r_ → ∀ (H : Heap) (locs : List Loc) (ls : Array Slot), va_P D mp_cl (k_X4_sumOfParts T a_p1 a_p1_cellNames a_p1_secretNames a_p1_pageNames a_p1_speed a_p1_letters a_p1_room a_p1_now a_p1_rounds a_p1_now_order a_p1_now_knows a_p1_now_made a_p1_now_sixteenths a_p1_now_dots a_p1_now_used a_p1_now_stands v_p1_cells v_p1_secrets v_p1_pages v_p1_blind v_p1_rubs v_p1_now_inOrder v_p1_now_place v_p1_now_ill v_p1_now_shut v_p1_now_turns v_p1_now_madeInAll v_p1_now_sixteenths) H → va_D A (k_X4_sumOfParts T a_p1 a_p1_cellNames a_p1_secretNames a_p1_pageNames a_p1_speed a_p1_letters a_p1_room a_p1_now a_p1_rounds a_p1_now_order a_p1_now_knows a_p1_now_made a_p1_now_sixteenths a_p1_now_dots a_p1_now_used a_p1_now_stands v_p1_cells v_p1_secrets v_p1_pages v_p1_blind v_p1_rubs v_p1_now_inOrder v_p1_now_place v_p1_now_ill v_p1_now_shut v_p1_now_turns v_p1_now_madeInAll v_p1_now_sixteenths) → va_S A s.heap H locs → lv_has ls 4 [(0, .ref a_p1), (1, .long z1), (3, .int z3)] → W p l e ({ frames := 1, cells := 0, slots := 0, locals := 22 }) s m args below meth c H locs 0 0 (MQ below ((mp_Ql D r_ (k_X4_sumOfParts T a_p1 a_p1_cellNames a_p1_secretNames a_p1_pageNames a_p1_speed a_p1_letters a_p1_room a_p1_now a_p1_rounds a_p1_now_order a_p1_now_knows a_p1_now_made a_p1_now_sixteenths a_p1_now_dots a_p1_now_used a_p1_now_stands v_p1_cells v_p1_secrets v_p1_pages v_p1_blind v_p1_rubs v_p1_now_inOrder v_p1_now_place v_p1_now_ill v_p1_now_shut v_p1_now_turns v_p1_now_madeInAll v_p1_now_sixteenths)) A) args s 0 0 A) (F0 m 4 ls []) := by
  have hx := X.1
  have hb := X.2.1
  have hml := X.2.2.1
  have hown := X.2.2.2.2.1
  have hts := X.2.2.2.2.2.1
  intro n
  induction n with
  | zero => intro z1 z3 hf; exact absurd hf (by intro h; cases h)
  | succ n ih =>
    intro z1 z3 hf H locs ls hP hD hS hl
    replace hf : (if v_p1_pages ≤ z3 then some (z1) else bd_ (f_X7_has v_p1_now_shut z3) (fun (r2 : Int32) => (if r2 = 0 then bd_ (f_X4_part z3 v_p1_now_sixteenths) (fun (r6 : Int64) => lt_ (z1 + r6) (fun (y8 : Int64) => lt_ (z3 + (nI 1)) (fun (y9 : Int32) => f_X4_sumOfParts_4 fu v_p1_pages v_p1_now_shut v_p1_now_sixteenths  n y8 y9))) else lt_ (z3 + (nI 1)) (fun (y5 : Int32) => f_X4_sumOfParts_4 fu v_p1_pages v_p1_now_shut v_p1_now_sixteenths  n z1 y5)))) = some r_ := hf
    refine lv_iload_n hx hb dX4_sumOfParts_4 rfl (lv_at hl 2 rfl) ?_
    refine lv_aload_n hx hb dX4_sumOfParts_5 rfl (lv_at hl 0 rfl) ?_
    refine mp_get X fl_X4_30 hK hP 0 rfl rfl dX4_sumOfParts_6 ?_
    refine lv_icmp_ge (tgt := 40) hx hb dX4_sumOfParts_9 (by decide) (fun h1 => ?_) (fun h1 => ?_)
    · replace hf := if_t hf h1
      refine lv_lload_n hx hb dX4_sumOfParts_40 rfl (lv_at hl 1 rfl) ?_
      cases hf
      exact mp_retl X hP hS rfl dX4_sumOfParts_41
    · replace hf := if_f hf h1
      refine lv_aload_n hx hb dX4_sumOfParts_12 rfl (lv_at hl 0 rfl) ?_
      refine mp_get X fl_X4_36 hK hP 0 rfl rfl dX4_sumOfParts_13 ?_
      refine mp_get X fl_X4_40 hK hP 1 rfl rfl dX4_sumOfParts_16 ?_
      refine lv_iload_n hx hb dX4_sumOfParts_19 rfl (lv_at hl 2 rfl) ?_
      obtain ⟨r2, c3, hf⟩ := bd_of hf
      have hPc := hP.sub (ws' := (k_X7_has T )) [] rfl
      have hDc := (mp_D_of (w1 := (k_X4_sumOfParts T a_p1 a_p1_cellNames a_p1_secretNames a_p1_pageNames a_p1_speed a_p1_letters a_p1_room a_p1_now a_p1_rounds a_p1_now_order a_p1_now_knows a_p1_now_made a_p1_now_sixteenths a_p1_now_dots a_p1_now_used a_p1_now_stands v_p1_cells v_p1_secrets v_p1_pages v_p1_blind v_p1_rubs v_p1_now_inOrder v_p1_now_place v_p1_now_ill v_p1_now_shut v_p1_now_turns v_p1_now_madeInAll v_p1_now_sixteenths)) hD rfl).sub (ws' := (k_X7_has T )) [] rfl rfl
      refine mp_calli (isC := []) (wc := (k_X7_has T )) (w1 := (k_X7_has T )) hP (mp_D_of hD rfl) hS hA rfl rfl (mp_runS (As := [.int v_p1_now_shut, .int z3]) (rest := []) X me_X7_has lk_X4_45 (c_X7_has l D T v_p1_now_shut z3 r2 c3) rfl rfl ⟨(Nat.le_of_ble_eq_true rfl), (Nat.le_of_ble_eq_true rfl)⟩ hK hPc hDc rfl hl.1 rfl (Nat.le_of_ble_eq_true rfl) dX4_sumOfParts_20 ⟨Nat.zero_le _, Nat.zero_le _⟩) (fun H locs hP _ hS => ?_)
      replace hP : va_P D mp_cl (k_X4_sumOfParts T a_p1 a_p1_cellNames a_p1_secretNames a_p1_pageNames a_p1_speed a_p1_letters a_p1_room a_p1_now a_p1_rounds a_p1_now_order a_p1_now_knows a_p1_now_made a_p1_now_sixteenths a_p1_now_dots a_p1_now_used a_p1_now_stands v_p1_cells v_p1_secrets v_p1_pages v_p1_blind v_p1_rubs v_p1_now_inOrder v_p1_now_place v_p1_now_ill v_p1_now_shut v_p1_now_turns v_p1_now_madeInAll v_p1_now_sixteenths) H := hP
      refine lv_if_ne (tgt := 34) hx hb dX4_sumOfParts_23 (by decide) (fun h4 => ?_) (fun h4 => ?_)
      · replace hf := if_f hf h4
        obtain ⟨y5, e5⟩ : ∃ y : Int32, y = z3 + (nI 1) := ⟨_, rfl⟩
        replace hf := lt_of e5 hf
        refine lv_iinc (v := y5) (lv' := [(3, .int y5), (0, .ref a_p1), (1, .long z1)]) hx hb dX4_sumOfParts_34 hl (k := 2) rfl (by rw [e5]; rfl) (by decide) rfl (fun ls hl => ?_)
        refine lv_goto (tgt := 4) hx hb dX4_sumOfParts_37 (by decide) ?_
        exact ih z1 y5 hf _ _ _ hP (mp_D_of hD rfl) hS (lv_sub hl [1, 2, 0] rfl)
      · replace hf := if_t hf h4
        refine lv_lload_n hx hb dX4_sumOfParts_26 rfl (lv_at hl 1 rfl) ?_
        refine lv_aload_n hx hb dX4_sumOfParts_27 rfl (lv_at hl 0 rfl) ?_
        refine lv_iload_n hx hb dX4_sumOfParts_28 rfl (lv_at hl 2 rfl) ?_
        obtain ⟨r6, c7, hf⟩ := bd_of hf
        have hPc := hP.sub (ws' := (k_X4_part T a_p1 a_p1_cellNames a_p1_secretNames a_p1_pageNames a_p1_speed a_p1_letters a_p1_room a_p1_now a_p1_rounds a_p1_now_order a_p1_now_knows a_p1_now_made a_p1_now_sixteenths a_p1_now_dots a_p1_now_used a_p1_now_stands v_p1_cells v_p1_secrets v_p1_pages v_p1_blind v_p1_rubs v_p1_now_inOrder v_p1_now_place v_p1_now_ill v_p1_now_shut v_p1_now_turns v_p1_now_madeInAll v_p1_now_sixteenths)) [0, 1, 2] rfl
        have hDc := (mp_D_of (w1 := (k_X4_sumOfParts T a_p1 a_p1_cellNames a_p1_secretNames a_p1_pageNames a_p1_speed a_p1_letters a_p1_room a_p1_now a_p1_rounds a_p1_now_order a_p1_now_knows a_p1_now_made a_p1_now_sixteenths a_p1_now_dots a_p1_now_used a_p1_now_stands v_p1_cells v_p1_secrets v_p1_pages v_p1_blind v_p1_rubs v_p1_now_inOrder v_p1_now_place v_p1_now_ill v_p1_now_shut v_p1_now_turns v_p1_now_madeInAll v_p1_now_sixteenths)) hD rfl).sub (ws' := (k_X4_part T a_p1 a_p1_cellNames a_p1_secretNames a_p1_pageNames a_p1_speed a_p1_letters a_p1_room a_p1_now a_p1_rounds a_p1_now_order a_p1_now_knows a_p1_now_made a_p1_now_sixteenths a_p1_now_dots a_p1_now_used a_p1_now_stands v_p1_cells v_p1_secrets v_p1_pages v_p1_blind v_p1_rubs v_p1_now_inOrder v_p1_now_place v_p1_now_ill v_p1_now_shut v_p1_now_turns v_p1_now_madeInAll v_p1_now_sixteenths)) [0, 1, 2] rfl rfl
        refine mp_calll (isC := [0, 1, 2]) (wc := (k_X4_part T a_p1 a_p1_cellNames a_p1_secretNames a_p1_pageNames a_p1_speed a_p1_letters a_p1_room a_p1_now a_p1_rounds a_p1_now_order a_p1_now_knows a_p1_now_made a_p1_now_sixteenths a_p1_now_dots a_p1_now_used a_p1_now_stands v_p1_cells v_p1_secrets v_p1_pages v_p1_blind v_p1_rubs v_p1_now_inOrder v_p1_now_place v_p1_now_ill v_p1_now_shut v_p1_now_turns v_p1_now_madeInAll v_p1_now_sixteenths)) (w1 := (k_X4_part T a_p1 a_p1_cellNames a_p1_secretNames a_p1_pageNames a_p1_speed a_p1_letters a_p1_room a_p1_now a_p1_rounds a_p1_now_order a_p1_now_knows a_p1_now_made a_p1_now_sixteenths a_p1_now_dots a_p1_now_used a_p1_now_stands v_p1_cells v_p1_secrets v_p1_pages v_p1_blind v_p1_rubs v_p1_now_inOrder v_p1_now_place v_p1_now_ill v_p1_now_shut v_p1_now_turns v_p1_now_madeInAll v_p1_now_sixteenths)) hP (mp_D_of hD rfl) hS hA rfl rfl (mp_runS (As := [.ref a_p1, .int z3]) (rest := [.long z1]) X me_X4_part lk_X4_71 (c_X4_part l D T a_p1 a_p1_cellNames a_p1_secretNames a_p1_pageNames a_p1_speed a_p1_letters a_p1_room a_p1_now a_p1_rounds a_p1_now_order a_p1_now_knows a_p1_now_made a_p1_now_sixteenths a_p1_now_dots a_p1_now_used a_p1_now_stands z3 v_p1_cells v_p1_secrets v_p1_pages v_p1_blind v_p1_rubs v_p1_now_inOrder v_p1_now_place v_p1_now_ill v_p1_now_shut v_p1_now_turns v_p1_now_madeInAll v_p1_now_sixteenths r6 c7) rfl rfl ⟨(Nat.le_of_ble_eq_true rfl), (Nat.le_of_ble_eq_true rfl)⟩ hK hPc hDc rfl hl.1 rfl (Nat.le_of_ble_eq_true rfl) dX4_sumOfParts_29 ⟨Nat.zero_le _, Nat.zero_le _⟩) (fun H locs hP _ hS => ?_)
        replace hP : va_P D mp_cl (k_X4_sumOfParts T a_p1 a_p1_cellNames a_p1_secretNames a_p1_pageNames a_p1_speed a_p1_letters a_p1_room a_p1_now a_p1_rounds a_p1_now_order a_p1_now_knows a_p1_now_made a_p1_now_sixteenths a_p1_now_dots a_p1_now_used a_p1_now_stands v_p1_cells v_p1_secrets v_p1_pages v_p1_blind v_p1_rubs v_p1_now_inOrder v_p1_now_place v_p1_now_ill v_p1_now_shut v_p1_now_turns v_p1_now_madeInAll v_p1_now_sixteenths) H := hP
        refine lv_ladd hx hb dX4_sumOfParts_32 ?_
        refine lv_topl (fun y8 e8 => ?_)
        replace hf := lt_of e8 hf
        refine lv_lstore_n (lv' := [(1, .long y8), (0, .ref a_p1), (3, .int z3)]) hx hb dX4_sumOfParts_33 rfl hl (by decide) rfl (fun ls hl => ?_)
        obtain ⟨y9, e9⟩ : ∃ y : Int32, y = z3 + (nI 1) := ⟨_, rfl⟩
        replace hf := lt_of e9 hf
        refine lv_iinc (v := y9) (lv' := [(3, .int y9), (1, .long y8), (0, .ref a_p1)]) hx hb dX4_sumOfParts_34 hl (k := 2) rfl (by rw [e9]; rfl) (by decide) rfl (fun ls hl => ?_)
        refine lv_goto (tgt := 4) hx hb dX4_sumOfParts_37 (by decide) ?_
        exact ih y8 y9 hf _ _ _ hP (mp_D_of hD rfl) hS (lv_sub hl [2, 1, 0] rfl)

set_option maxHeartbeats 4000000 in
set_option maxRecDepth 100000 in
theorem c_X4_sumOfParts (l : Launch) (D : va_G) (T : Nat → ClassId) (fu : Nat) (a_p1 a_p1_cellNames a_p1_secretNames a_p1_pageNames a_p1_speed a_p1_letters a_p1_room a_p1_now a_p1_rounds a_p1_now_order a_p1_now_knows a_p1_now_made a_p1_now_sixteenths a_p1_now_dots a_p1_now_used a_p1_now_stands : Nat) (v_p1_cells : Int32) (v_p1_secrets : Int32) (v_p1_blind : Int32) (v_p1_rubs : Int32) (v_p1_now_inOrder : Int32) (v_p1_now_place : Int32) (v_p1_now_ill : Int32) (v_p1_now_turns : Int32) (v_p1_now_madeInAll : Int32) (v_p1_pages : Int32) (v_p1_now_shut : Int32) (v_p1_now_sixteenths : (Nat → Int32)) (r_ : Int64) (hf : f_X4_sumOfParts fu v_p1_pages v_p1_now_shut v_p1_now_sixteenths = some r_) :
    mp_M l D T yX4_sumOfParts cX4_sumOfParts 4 (some .long) ({ frames := 1, cells := 0, slots := 0, locals := 22 }) 0 0 [.ref a_p1] (k_X4_sumOfParts T a_p1 a_p1_cellNames a_p1_secretNames a_p1_pageNames a_p1_speed a_p1_letters a_p1_room a_p1_now a_p1_rounds a_p1_now_order a_p1_now_knows a_p1_now_made a_p1_now_sixteenths a_p1_now_dots a_p1_now_used a_p1_now_stands v_p1_cells v_p1_secrets v_p1_pages v_p1_blind v_p1_rubs v_p1_now_inOrder v_p1_now_place v_p1_now_ill v_p1_now_shut v_p1_now_turns v_p1_now_madeInAll v_p1_now_sixteenths) (mp_Ql D r_ (k_X4_sumOfParts T a_p1 a_p1_cellNames a_p1_secretNames a_p1_pageNames a_p1_speed a_p1_letters a_p1_room a_p1_now a_p1_rounds a_p1_now_order a_p1_now_knows a_p1_now_made a_p1_now_sixteenths a_p1_now_dots a_p1_now_used a_p1_now_stands v_p1_cells v_p1_secrets v_p1_pages v_p1_blind v_p1_rubs v_p1_now_inOrder v_p1_now_place v_p1_now_ill v_p1_now_shut v_p1_now_turns v_p1_now_madeInAll v_p1_now_sixteenths)) := by
  refine mp_of (by decide) (Nat.le_of_ble_eq_true rfl) rfl ?_
  intro p e s m args below meth c A ls X hK hP hD hS hA hl
  replace X : mp_X p s m meth c args RX4 "sumOfParts" cX4_sumOfParts 4 (some .long) := X
  have hx := X.1
  have hb := X.2.1
  have hml := X.2.2.1
  have hown := X.2.2.2.2.1
  have hts := X.2.2.2.2.2.1
  replace hl : lv_has ls 4 [(0, .ref a_p1)] := hl
  replace hf : f_X4_sumOfParts_4 fu v_p1_pages v_p1_now_shut v_p1_now_sixteenths  fu (lN 0) (nI 0) = some r_ := hf
  refine lv_lconst (v := (lN 0)) hx hb dX4_sumOfParts_0 (by decide) ?_
  refine lv_lstore_n (lv' := [(1, .long (lN 0)), (0, .ref a_p1)]) hx hb dX4_sumOfParts_1 rfl hl (by decide) rfl (fun ls hl => ?_)
  refine lv_iconst (v := (nI 0)) hx hb dX4_sumOfParts_2 (by decide) ?_
  refine lv_istore_n (lv' := [(3, .int (nI 0)), (1, .long (lN 0)), (0, .ref a_p1)]) hx hb dX4_sumOfParts_3 rfl hl (by decide) rfl (fun ls hl => ?_)
  exact w_X4_sumOfParts_4 X hK hA  fu a_p1 a_p1_cellNames a_p1_secretNames a_p1_pageNames a_p1_speed a_p1_letters a_p1_room a_p1_now a_p1_rounds a_p1_now_order a_p1_now_knows a_p1_now_made a_p1_now_sixteenths a_p1_now_dots a_p1_now_used a_p1_now_stands v_p1_cells v_p1_secrets v_p1_blind v_p1_rubs v_p1_now_inOrder v_p1_now_place v_p1_now_ill v_p1_now_turns v_p1_now_madeInAll v_p1_pages v_p1_now_shut v_p1_now_sixteenths r_   fu (lN 0) (nI 0) hf _ _ _ hP (mp_D_of hD rfl) hS (lv_sub hl [2, 1, 0] rfl)


def k_X4_tellMix (T : Nat → ClassId) (a_ a_holds a_lettersOf a_p1 a_p1_cellNames a_p1_secretNames a_p1_pageNames a_p1_speed a_p1_letters a_p1_room a_p1_now a_p1_rounds a_p1_now_order a_p1_now_knows a_p1_now_made a_p1_now_sixteenths a_p1_now_dots a_p1_now_used a_p1_now_stands : Nat) (v_above : Int64) (v_below : Int64) (v_p1_cells : Int32) (v_p1_secrets : Int32) (v_p1_pages : Int32) (v_p1_blind : Int32) (v_p1_rubs : Int32) (v_p1_now_inOrder : Int32) (v_p1_now_place : Int32) (v_p1_now_ill : Int32) (v_p1_now_shut : Int32) (v_p1_now_turns : Int32) (v_p1_now_madeInAll : Int32) (v_p1_now_sixteenths : (Nat → Int32)) : va_W := [(a_, oX4 v_above v_below a_holds a_lettersOf), (a_p1, oX1 v_p1_cells v_p1_secrets v_p1_pages a_p1_cellNames a_p1_secretNames a_p1_pageNames a_p1_speed v_p1_blind v_p1_rubs a_p1_letters a_p1_room a_p1_now a_p1_rounds), (a_p1_now, oX7 a_p1_now_order v_p1_now_inOrder v_p1_now_place a_p1_now_knows a_p1_now_made a_p1_now_sixteenths a_p1_now_dots a_p1_now_used a_p1_now_stands v_p1_now_ill v_p1_now_shut v_p1_now_turns v_p1_now_madeInAll), (a_p1_now_sixteenths, mp_aI T 6 v_p1_now_sixteenths)]
set_option maxHeartbeats 4000000 in
set_option maxRecDepth 100000 in
theorem c_X4_tellMix (l : Launch) (D : va_G) (T : Nat → ClassId) (fu : Nat) (a_ a_holds a_lettersOf a_p1 a_p1_cellNames a_p1_secretNames a_p1_pageNames a_p1_speed a_p1_letters a_p1_room a_p1_now a_p1_rounds a_p1_now_order a_p1_now_knows a_p1_now_made a_p1_now_sixteenths a_p1_now_dots a_p1_now_used a_p1_now_stands : Nat) (x2 : Int32) (v_p1_cells : Int32) (v_p1_secrets : Int32) (v_p1_blind : Int32) (v_p1_rubs : Int32) (v_p1_now_inOrder : Int32) (v_p1_now_place : Int32) (v_p1_now_ill : Int32) (v_p1_now_turns : Int32) (v_p1_now_madeInAll : Int32) (v_above : Int64) (v_below : Int64) (v_p1_pages : Int32) (v_p1_now_shut : Int32) (v_p1_now_sixteenths : (Nat → Int32)) (o_above : Int64) (o_below : Int64) (hf : f_X4_tellMix fu x2 v_above v_below v_p1_pages v_p1_now_shut v_p1_now_sixteenths = some (o_above, o_below)) :
    mp_M l D T yX4_tellMix cX4_tellMix 4 none ({ frames := 2, cells := 0, slots := 0, locals := 56 }) 0 0 [.ref a_, .ref a_p1, .int x2] (k_X4_tellMix T a_ a_holds a_lettersOf a_p1 a_p1_cellNames a_p1_secretNames a_p1_pageNames a_p1_speed a_p1_letters a_p1_room a_p1_now a_p1_rounds a_p1_now_order a_p1_now_knows a_p1_now_made a_p1_now_sixteenths a_p1_now_dots a_p1_now_used a_p1_now_stands v_above v_below v_p1_cells v_p1_secrets v_p1_pages v_p1_blind v_p1_rubs v_p1_now_inOrder v_p1_now_place v_p1_now_ill v_p1_now_shut v_p1_now_turns v_p1_now_madeInAll v_p1_now_sixteenths) (mp_Qv D (k_X4_tellMix T a_ a_holds a_lettersOf a_p1 a_p1_cellNames a_p1_secretNames a_p1_pageNames a_p1_speed a_p1_letters a_p1_room a_p1_now a_p1_rounds a_p1_now_order a_p1_now_knows a_p1_now_made a_p1_now_sixteenths a_p1_now_dots a_p1_now_used a_p1_now_stands o_above o_below v_p1_cells v_p1_secrets v_p1_pages v_p1_blind v_p1_rubs v_p1_now_inOrder v_p1_now_place v_p1_now_ill v_p1_now_shut v_p1_now_turns v_p1_now_madeInAll v_p1_now_sixteenths)) := by
  refine mp_of (by decide) (Nat.le_of_ble_eq_true rfl) rfl ?_
  intro p e s m args below meth c A ls X hK hP hD hS hA hl
  replace X : mp_X p s m meth c args RX4 "tellMix" cX4_tellMix 4 none := X
  have hx := X.1
  have hb := X.2.1
  have hml := X.2.2.1
  have hown := X.2.2.2.2.1
  have hts := X.2.2.2.2.2.1
  replace hl : lv_has ls 4 [(0, .ref a_), (1, .ref a_p1), (2, .int x2)] := hl
  replace hf : bd_ (f_X4_firstSafe fu v_p1_pages v_p1_now_shut v_p1_now_sixteenths) (fun (r1 : Int32) => (if r1 = (-1 : Int32) then bd_ (f_X4_part x2 v_p1_now_sixteenths) (fun (r4 : Int64) => bd_ (f_X4_sumOfParts fu v_p1_pages v_p1_now_shut v_p1_now_sixteenths) (fun (r6 : Int64) => bd_ (f_X4_keep fu r4 r6 v_above v_below) (fun (z : Int64 × Int64) => match z with | (u8, u9) => some (u8, u9)))) else (if x2 = r1 then bd_ (f_X4_keep fu (lN 1) (lN 1) v_above v_below) (fun (z : Int64 × Int64) => match z with | (u15, u16) => some (u15, u16)) else bd_ (f_X4_keep fu (lN 0) (lN 1) v_above v_below) (fun (z : Int64 × Int64) => match z with | (u12, u13) => some (u12, u13))))) = some (o_above, o_below) := hf
  refine lv_aload_n hx hb dX4_tellMix_0 rfl (lv_at hl 1 rfl) ?_
  obtain ⟨r1, c2, hf⟩ := bd_of hf
  have hPc := hP.sub (ws' := (k_X4_firstSafe T a_p1 a_p1_cellNames a_p1_secretNames a_p1_pageNames a_p1_speed a_p1_letters a_p1_room a_p1_now a_p1_rounds a_p1_now_order a_p1_now_knows a_p1_now_made a_p1_now_sixteenths a_p1_now_dots a_p1_now_used a_p1_now_stands v_p1_cells v_p1_secrets v_p1_pages v_p1_blind v_p1_rubs v_p1_now_inOrder v_p1_now_place v_p1_now_ill v_p1_now_shut v_p1_now_turns v_p1_now_madeInAll v_p1_now_sixteenths)) [1, 2, 3] rfl
  have hDc := (mp_D_of (w1 := (k_X4_tellMix T a_ a_holds a_lettersOf a_p1 a_p1_cellNames a_p1_secretNames a_p1_pageNames a_p1_speed a_p1_letters a_p1_room a_p1_now a_p1_rounds a_p1_now_order a_p1_now_knows a_p1_now_made a_p1_now_sixteenths a_p1_now_dots a_p1_now_used a_p1_now_stands v_above v_below v_p1_cells v_p1_secrets v_p1_pages v_p1_blind v_p1_rubs v_p1_now_inOrder v_p1_now_place v_p1_now_ill v_p1_now_shut v_p1_now_turns v_p1_now_madeInAll v_p1_now_sixteenths)) hD rfl).sub (ws' := (k_X4_firstSafe T a_p1 a_p1_cellNames a_p1_secretNames a_p1_pageNames a_p1_speed a_p1_letters a_p1_room a_p1_now a_p1_rounds a_p1_now_order a_p1_now_knows a_p1_now_made a_p1_now_sixteenths a_p1_now_dots a_p1_now_used a_p1_now_stands v_p1_cells v_p1_secrets v_p1_pages v_p1_blind v_p1_rubs v_p1_now_inOrder v_p1_now_place v_p1_now_ill v_p1_now_shut v_p1_now_turns v_p1_now_madeInAll v_p1_now_sixteenths)) [1, 2, 3] rfl rfl
  refine mp_calli (isC := [1, 2, 3]) (wc := (k_X4_firstSafe T a_p1 a_p1_cellNames a_p1_secretNames a_p1_pageNames a_p1_speed a_p1_letters a_p1_room a_p1_now a_p1_rounds a_p1_now_order a_p1_now_knows a_p1_now_made a_p1_now_sixteenths a_p1_now_dots a_p1_now_used a_p1_now_stands v_p1_cells v_p1_secrets v_p1_pages v_p1_blind v_p1_rubs v_p1_now_inOrder v_p1_now_place v_p1_now_ill v_p1_now_shut v_p1_now_turns v_p1_now_madeInAll v_p1_now_sixteenths)) (w1 := (k_X4_firstSafe T a_p1 a_p1_cellNames a_p1_secretNames a_p1_pageNames a_p1_speed a_p1_letters a_p1_room a_p1_now a_p1_rounds a_p1_now_order a_p1_now_knows a_p1_now_made a_p1_now_sixteenths a_p1_now_dots a_p1_now_used a_p1_now_stands v_p1_cells v_p1_secrets v_p1_pages v_p1_blind v_p1_rubs v_p1_now_inOrder v_p1_now_place v_p1_now_ill v_p1_now_shut v_p1_now_turns v_p1_now_madeInAll v_p1_now_sixteenths)) hP (mp_D_of hD rfl) hS hA rfl rfl (mp_runS (As := [.ref a_p1]) (rest := []) X me_X4_firstSafe lk_X4_61 (c_X4_firstSafe l D T fu a_p1 a_p1_cellNames a_p1_secretNames a_p1_pageNames a_p1_speed a_p1_letters a_p1_room a_p1_now a_p1_rounds a_p1_now_order a_p1_now_knows a_p1_now_made a_p1_now_sixteenths a_p1_now_dots a_p1_now_used a_p1_now_stands v_p1_cells v_p1_secrets v_p1_blind v_p1_rubs v_p1_now_inOrder v_p1_now_place v_p1_now_ill v_p1_now_turns v_p1_now_madeInAll v_p1_pages v_p1_now_shut v_p1_now_sixteenths r1 c2) rfl rfl ⟨(Nat.le_of_ble_eq_true rfl), (Nat.le_of_ble_eq_true rfl)⟩ hK hPc hDc rfl hl.1 rfl (Nat.le_of_ble_eq_true rfl) dX4_tellMix_1 ⟨Nat.zero_le _, Nat.zero_le _⟩) (fun H locs hP _ hS => ?_)
  replace hP : va_P D mp_cl (k_X4_tellMix T a_ a_holds a_lettersOf a_p1 a_p1_cellNames a_p1_secretNames a_p1_pageNames a_p1_speed a_p1_letters a_p1_room a_p1_now a_p1_rounds a_p1_now_order a_p1_now_knows a_p1_now_made a_p1_now_sixteenths a_p1_now_dots a_p1_now_used a_p1_now_stands v_above v_below v_p1_cells v_p1_secrets v_p1_pages v_p1_blind v_p1_rubs v_p1_now_inOrder v_p1_now_place v_p1_now_ill v_p1_now_shut v_p1_now_turns v_p1_now_madeInAll v_p1_now_sixteenths) H := hP
  refine lv_istore_n (lv' := [(3, .int r1), (0, .ref a_), (1, .ref a_p1), (2, .int x2)]) hx hb dX4_tellMix_4 rfl hl (by decide) rfl (fun ls hl => ?_)
  refine lv_iload_n hx hb dX4_tellMix_5 rfl (lv_at hl 0 rfl) ?_
  refine lv_iconst (v := (-1 : Int32)) hx hb dX4_tellMix_6 (by decide) ?_
  refine lv_icmp_eq (tgt := 28) hx hb dX4_tellMix_7 (by decide) (fun h3 => ?_) (fun h3 => ?_)
  · replace hf := if_t hf h3
    refine lv_aload_n hx hb dX4_tellMix_28 rfl (lv_at hl 1 rfl) ?_
    refine lv_aload_n hx hb dX4_tellMix_29 rfl (lv_at hl 2 rfl) ?_
    refine lv_iload_n hx hb dX4_tellMix_30 rfl (lv_at hl 3 rfl) ?_
    obtain ⟨r4, c5, hf⟩ := bd_of hf
    have hPc := hP.sub (ws' := (k_X4_part T a_p1 a_p1_cellNames a_p1_secretNames a_p1_pageNames a_p1_speed a_p1_letters a_p1_room a_p1_now a_p1_rounds a_p1_now_order a_p1_now_knows a_p1_now_made a_p1_now_sixteenths a_p1_now_dots a_p1_now_used a_p1_now_stands v_p1_cells v_p1_secrets v_p1_pages v_p1_blind v_p1_rubs v_p1_now_inOrder v_p1_now_place v_p1_now_ill v_p1_now_shut v_p1_now_turns v_p1_now_madeInAll v_p1_now_sixteenths)) [1, 2, 3] rfl
    have hDc := (mp_D_of (w1 := (k_X4_tellMix T a_ a_holds a_lettersOf a_p1 a_p1_cellNames a_p1_secretNames a_p1_pageNames a_p1_speed a_p1_letters a_p1_room a_p1_now a_p1_rounds a_p1_now_order a_p1_now_knows a_p1_now_made a_p1_now_sixteenths a_p1_now_dots a_p1_now_used a_p1_now_stands v_above v_below v_p1_cells v_p1_secrets v_p1_pages v_p1_blind v_p1_rubs v_p1_now_inOrder v_p1_now_place v_p1_now_ill v_p1_now_shut v_p1_now_turns v_p1_now_madeInAll v_p1_now_sixteenths)) hD rfl).sub (ws' := (k_X4_part T a_p1 a_p1_cellNames a_p1_secretNames a_p1_pageNames a_p1_speed a_p1_letters a_p1_room a_p1_now a_p1_rounds a_p1_now_order a_p1_now_knows a_p1_now_made a_p1_now_sixteenths a_p1_now_dots a_p1_now_used a_p1_now_stands v_p1_cells v_p1_secrets v_p1_pages v_p1_blind v_p1_rubs v_p1_now_inOrder v_p1_now_place v_p1_now_ill v_p1_now_shut v_p1_now_turns v_p1_now_madeInAll v_p1_now_sixteenths)) [1, 2, 3] rfl rfl
    refine mp_calll (isC := [1, 2, 3]) (wc := (k_X4_part T a_p1 a_p1_cellNames a_p1_secretNames a_p1_pageNames a_p1_speed a_p1_letters a_p1_room a_p1_now a_p1_rounds a_p1_now_order a_p1_now_knows a_p1_now_made a_p1_now_sixteenths a_p1_now_dots a_p1_now_used a_p1_now_stands v_p1_cells v_p1_secrets v_p1_pages v_p1_blind v_p1_rubs v_p1_now_inOrder v_p1_now_place v_p1_now_ill v_p1_now_shut v_p1_now_turns v_p1_now_madeInAll v_p1_now_sixteenths)) (w1 := (k_X4_part T a_p1 a_p1_cellNames a_p1_secretNames a_p1_pageNames a_p1_speed a_p1_letters a_p1_room a_p1_now a_p1_rounds a_p1_now_order a_p1_now_knows a_p1_now_made a_p1_now_sixteenths a_p1_now_dots a_p1_now_used a_p1_now_stands v_p1_cells v_p1_secrets v_p1_pages v_p1_blind v_p1_rubs v_p1_now_inOrder v_p1_now_place v_p1_now_ill v_p1_now_shut v_p1_now_turns v_p1_now_madeInAll v_p1_now_sixteenths)) hP (mp_D_of hD rfl) hS hA rfl rfl (mp_runS (As := [.ref a_p1, .int x2]) (rest := [.ref a_]) X me_X4_part lk_X4_71 (c_X4_part l D T a_p1 a_p1_cellNames a_p1_secretNames a_p1_pageNames a_p1_speed a_p1_letters a_p1_room a_p1_now a_p1_rounds a_p1_now_order a_p1_now_knows a_p1_now_made a_p1_now_sixteenths a_p1_now_dots a_p1_now_used a_p1_now_stands x2 v_p1_cells v_p1_secrets v_p1_pages v_p1_blind v_p1_rubs v_p1_now_inOrder v_p1_now_place v_p1_now_ill v_p1_now_shut v_p1_now_turns v_p1_now_madeInAll v_p1_now_sixteenths r4 c5) rfl rfl ⟨(Nat.le_of_ble_eq_true rfl), (Nat.le_of_ble_eq_true rfl)⟩ hK hPc hDc rfl hl.1 rfl (Nat.le_of_ble_eq_true rfl) dX4_tellMix_31 ⟨Nat.zero_le _, Nat.zero_le _⟩) (fun H locs hP _ hS => ?_)
    replace hP : va_P D mp_cl (k_X4_tellMix T a_ a_holds a_lettersOf a_p1 a_p1_cellNames a_p1_secretNames a_p1_pageNames a_p1_speed a_p1_letters a_p1_room a_p1_now a_p1_rounds a_p1_now_order a_p1_now_knows a_p1_now_made a_p1_now_sixteenths a_p1_now_dots a_p1_now_used a_p1_now_stands v_above v_below v_p1_cells v_p1_secrets v_p1_pages v_p1_blind v_p1_rubs v_p1_now_inOrder v_p1_now_place v_p1_now_ill v_p1_now_shut v_p1_now_turns v_p1_now_madeInAll v_p1_now_sixteenths) H := hP
    refine lv_aload_n hx hb dX4_tellMix_34 rfl (lv_at hl 2 rfl) ?_
    obtain ⟨r6, c7, hf⟩ := bd_of hf
    have hPc := hP.sub (ws' := (k_X4_sumOfParts T a_p1 a_p1_cellNames a_p1_secretNames a_p1_pageNames a_p1_speed a_p1_letters a_p1_room a_p1_now a_p1_rounds a_p1_now_order a_p1_now_knows a_p1_now_made a_p1_now_sixteenths a_p1_now_dots a_p1_now_used a_p1_now_stands v_p1_cells v_p1_secrets v_p1_pages v_p1_blind v_p1_rubs v_p1_now_inOrder v_p1_now_place v_p1_now_ill v_p1_now_shut v_p1_now_turns v_p1_now_madeInAll v_p1_now_sixteenths)) [1, 2, 3] rfl
    have hDc := (mp_D_of (w1 := (k_X4_tellMix T a_ a_holds a_lettersOf a_p1 a_p1_cellNames a_p1_secretNames a_p1_pageNames a_p1_speed a_p1_letters a_p1_room a_p1_now a_p1_rounds a_p1_now_order a_p1_now_knows a_p1_now_made a_p1_now_sixteenths a_p1_now_dots a_p1_now_used a_p1_now_stands v_above v_below v_p1_cells v_p1_secrets v_p1_pages v_p1_blind v_p1_rubs v_p1_now_inOrder v_p1_now_place v_p1_now_ill v_p1_now_shut v_p1_now_turns v_p1_now_madeInAll v_p1_now_sixteenths)) hD rfl).sub (ws' := (k_X4_sumOfParts T a_p1 a_p1_cellNames a_p1_secretNames a_p1_pageNames a_p1_speed a_p1_letters a_p1_room a_p1_now a_p1_rounds a_p1_now_order a_p1_now_knows a_p1_now_made a_p1_now_sixteenths a_p1_now_dots a_p1_now_used a_p1_now_stands v_p1_cells v_p1_secrets v_p1_pages v_p1_blind v_p1_rubs v_p1_now_inOrder v_p1_now_place v_p1_now_ill v_p1_now_shut v_p1_now_turns v_p1_now_madeInAll v_p1_now_sixteenths)) [1, 2, 3] rfl rfl
    refine mp_calll (isC := [1, 2, 3]) (wc := (k_X4_sumOfParts T a_p1 a_p1_cellNames a_p1_secretNames a_p1_pageNames a_p1_speed a_p1_letters a_p1_room a_p1_now a_p1_rounds a_p1_now_order a_p1_now_knows a_p1_now_made a_p1_now_sixteenths a_p1_now_dots a_p1_now_used a_p1_now_stands v_p1_cells v_p1_secrets v_p1_pages v_p1_blind v_p1_rubs v_p1_now_inOrder v_p1_now_place v_p1_now_ill v_p1_now_shut v_p1_now_turns v_p1_now_madeInAll v_p1_now_sixteenths)) (w1 := (k_X4_sumOfParts T a_p1 a_p1_cellNames a_p1_secretNames a_p1_pageNames a_p1_speed a_p1_letters a_p1_room a_p1_now a_p1_rounds a_p1_now_order a_p1_now_knows a_p1_now_made a_p1_now_sixteenths a_p1_now_dots a_p1_now_used a_p1_now_stands v_p1_cells v_p1_secrets v_p1_pages v_p1_blind v_p1_rubs v_p1_now_inOrder v_p1_now_place v_p1_now_ill v_p1_now_shut v_p1_now_turns v_p1_now_madeInAll v_p1_now_sixteenths)) hP (mp_D_of hD rfl) hS hA rfl rfl (mp_runS (As := [.ref a_p1]) (rest := [.long r4, .ref a_]) X me_X4_sumOfParts lk_X4_65 (c_X4_sumOfParts l D T fu a_p1 a_p1_cellNames a_p1_secretNames a_p1_pageNames a_p1_speed a_p1_letters a_p1_room a_p1_now a_p1_rounds a_p1_now_order a_p1_now_knows a_p1_now_made a_p1_now_sixteenths a_p1_now_dots a_p1_now_used a_p1_now_stands v_p1_cells v_p1_secrets v_p1_blind v_p1_rubs v_p1_now_inOrder v_p1_now_place v_p1_now_ill v_p1_now_turns v_p1_now_madeInAll v_p1_pages v_p1_now_shut v_p1_now_sixteenths r6 c7) rfl rfl ⟨(Nat.le_of_ble_eq_true rfl), (Nat.le_of_ble_eq_true rfl)⟩ hK hPc hDc rfl hl.1 rfl (Nat.le_of_ble_eq_true rfl) dX4_tellMix_35 ⟨Nat.zero_le _, Nat.zero_le _⟩) (fun H locs hP _ hS => ?_)
    replace hP : va_P D mp_cl (k_X4_tellMix T a_ a_holds a_lettersOf a_p1 a_p1_cellNames a_p1_secretNames a_p1_pageNames a_p1_speed a_p1_letters a_p1_room a_p1_now a_p1_rounds a_p1_now_order a_p1_now_knows a_p1_now_made a_p1_now_sixteenths a_p1_now_dots a_p1_now_used a_p1_now_stands v_above v_below v_p1_cells v_p1_secrets v_p1_pages v_p1_blind v_p1_rubs v_p1_now_inOrder v_p1_now_place v_p1_now_ill v_p1_now_shut v_p1_now_turns v_p1_now_madeInAll v_p1_now_sixteenths) H := hP
    obtain ⟨⟨u8, u9⟩, c10, hf⟩ := bd_of hf
    dsimp only at hf
    have hPc := hP.sub (ws' := (k_X4_keep T a_ a_holds a_lettersOf v_above v_below)) [0] rfl
    have hDc := (mp_D_of (w1 := (k_X4_tellMix T a_ a_holds a_lettersOf a_p1 a_p1_cellNames a_p1_secretNames a_p1_pageNames a_p1_speed a_p1_letters a_p1_room a_p1_now a_p1_rounds a_p1_now_order a_p1_now_knows a_p1_now_made a_p1_now_sixteenths a_p1_now_dots a_p1_now_used a_p1_now_stands v_above v_below v_p1_cells v_p1_secrets v_p1_pages v_p1_blind v_p1_rubs v_p1_now_inOrder v_p1_now_place v_p1_now_ill v_p1_now_shut v_p1_now_turns v_p1_now_madeInAll v_p1_now_sixteenths)) hD rfl).sub (ws' := (k_X4_keep T a_ a_holds a_lettersOf v_above v_below)) [0] rfl rfl
    refine mp_callv (isC := [0]) (wc := (k_X4_keep T a_ a_holds a_lettersOf v_above v_below)) (w1 := (k_X4_keep T a_ a_holds a_lettersOf u8 u9)) hP (mp_D_of hD rfl) hS hA rfl rfl (mp_runV (As := [.long r4, .long r6]) (rest := []) X me_X4_keep lk_X4_57 (c_X4_keep l D T fu a_ a_holds a_lettersOf r4 r6 v_above v_below u8 u9 c10) rfl rfl ⟨(Nat.le_of_ble_eq_true rfl), (Nat.le_of_ble_eq_true rfl)⟩ hK hPc hDc rfl rfl rfl rfl hl.1 rfl (Nat.le_of_ble_eq_true rfl) dX4_tellMix_38 ⟨Nat.zero_le _, Nat.zero_le _⟩) (fun H locs hP _ hS => ?_)
    replace hP : va_P D mp_cl (k_X4_tellMix T a_ a_holds a_lettersOf a_p1 a_p1_cellNames a_p1_secretNames a_p1_pageNames a_p1_speed a_p1_letters a_p1_room a_p1_now a_p1_rounds a_p1_now_order a_p1_now_knows a_p1_now_made a_p1_now_sixteenths a_p1_now_dots a_p1_now_used a_p1_now_stands u8 u9 v_p1_cells v_p1_secrets v_p1_pages v_p1_blind v_p1_rubs v_p1_now_inOrder v_p1_now_place v_p1_now_ill v_p1_now_shut v_p1_now_turns v_p1_now_madeInAll v_p1_now_sixteenths) H := hP
    cases hf
    exact mp_retv X hP hS dX4_tellMix_41
  · replace hf := if_f hf h3
    refine lv_aload_n hx hb dX4_tellMix_10 rfl (lv_at hl 1 rfl) ?_
    refine lv_iload_n hx hb dX4_tellMix_11 rfl (lv_at hl 3 rfl) ?_
    refine lv_iload_n hx hb dX4_tellMix_12 rfl (lv_at hl 0 rfl) ?_
    refine lv_icmp_ne (tgt := 20) hx hb dX4_tellMix_13 (by decide) (fun h11 => ?_) (fun h11 => ?_)
    · replace hf := if_f hf h11
      refine lv_lconst (v := (lN 0)) hx hb dX4_tellMix_20 (by decide) ?_
      refine lv_lconst (v := (lN 1)) hx hb dX4_tellMix_21 (by decide) ?_
      obtain ⟨⟨u12, u13⟩, c14, hf⟩ := bd_of hf
      dsimp only at hf
      have hPc := hP.sub (ws' := (k_X4_keep T a_ a_holds a_lettersOf v_above v_below)) [0] rfl
      have hDc := (mp_D_of (w1 := (k_X4_tellMix T a_ a_holds a_lettersOf a_p1 a_p1_cellNames a_p1_secretNames a_p1_pageNames a_p1_speed a_p1_letters a_p1_room a_p1_now a_p1_rounds a_p1_now_order a_p1_now_knows a_p1_now_made a_p1_now_sixteenths a_p1_now_dots a_p1_now_used a_p1_now_stands v_above v_below v_p1_cells v_p1_secrets v_p1_pages v_p1_blind v_p1_rubs v_p1_now_inOrder v_p1_now_place v_p1_now_ill v_p1_now_shut v_p1_now_turns v_p1_now_madeInAll v_p1_now_sixteenths)) hD rfl).sub (ws' := (k_X4_keep T a_ a_holds a_lettersOf v_above v_below)) [0] rfl rfl
      refine mp_callv (isC := [0]) (wc := (k_X4_keep T a_ a_holds a_lettersOf v_above v_below)) (w1 := (k_X4_keep T a_ a_holds a_lettersOf u12 u13)) hP (mp_D_of hD rfl) hS hA rfl rfl (mp_runV (As := [.long (lN 0), .long (lN 1)]) (rest := []) X me_X4_keep lk_X4_57 (c_X4_keep l D T fu a_ a_holds a_lettersOf (lN 0) (lN 1) v_above v_below u12 u13 c14) rfl rfl ⟨(Nat.le_of_ble_eq_true rfl), (Nat.le_of_ble_eq_true rfl)⟩ hK hPc hDc rfl rfl rfl rfl hl.1 rfl (Nat.le_of_ble_eq_true rfl) dX4_tellMix_22 ⟨Nat.zero_le _, Nat.zero_le _⟩) (fun H locs hP _ hS => ?_)
      replace hP : va_P D mp_cl (k_X4_tellMix T a_ a_holds a_lettersOf a_p1 a_p1_cellNames a_p1_secretNames a_p1_pageNames a_p1_speed a_p1_letters a_p1_room a_p1_now a_p1_rounds a_p1_now_order a_p1_now_knows a_p1_now_made a_p1_now_sixteenths a_p1_now_dots a_p1_now_used a_p1_now_stands u12 u13 v_p1_cells v_p1_secrets v_p1_pages v_p1_blind v_p1_rubs v_p1_now_inOrder v_p1_now_place v_p1_now_ill v_p1_now_shut v_p1_now_turns v_p1_now_madeInAll v_p1_now_sixteenths) H := hP
      refine lv_goto (tgt := 41) hx hb dX4_tellMix_25 (by decide) ?_
      cases hf
      exact mp_retv X hP hS dX4_tellMix_41
    · replace hf := if_t hf h11
      refine lv_lconst (v := (lN 1)) hx hb dX4_tellMix_16 (by decide) ?_
      refine lv_goto (tgt := 21) hx hb dX4_tellMix_17 (by decide) ?_
      refine lv_lconst (v := (lN 1)) hx hb dX4_tellMix_21 (by decide) ?_
      obtain ⟨⟨u15, u16⟩, c17, hf⟩ := bd_of hf
      dsimp only at hf
      have hPc := hP.sub (ws' := (k_X4_keep T a_ a_holds a_lettersOf v_above v_below)) [0] rfl
      have hDc := (mp_D_of (w1 := (k_X4_tellMix T a_ a_holds a_lettersOf a_p1 a_p1_cellNames a_p1_secretNames a_p1_pageNames a_p1_speed a_p1_letters a_p1_room a_p1_now a_p1_rounds a_p1_now_order a_p1_now_knows a_p1_now_made a_p1_now_sixteenths a_p1_now_dots a_p1_now_used a_p1_now_stands v_above v_below v_p1_cells v_p1_secrets v_p1_pages v_p1_blind v_p1_rubs v_p1_now_inOrder v_p1_now_place v_p1_now_ill v_p1_now_shut v_p1_now_turns v_p1_now_madeInAll v_p1_now_sixteenths)) hD rfl).sub (ws' := (k_X4_keep T a_ a_holds a_lettersOf v_above v_below)) [0] rfl rfl
      refine mp_callv (isC := [0]) (wc := (k_X4_keep T a_ a_holds a_lettersOf v_above v_below)) (w1 := (k_X4_keep T a_ a_holds a_lettersOf u15 u16)) hP (mp_D_of hD rfl) hS hA rfl rfl (mp_runV (As := [.long (lN 1), .long (lN 1)]) (rest := []) X me_X4_keep lk_X4_57 (c_X4_keep l D T fu a_ a_holds a_lettersOf (lN 1) (lN 1) v_above v_below u15 u16 c17) rfl rfl ⟨(Nat.le_of_ble_eq_true rfl), (Nat.le_of_ble_eq_true rfl)⟩ hK hPc hDc rfl rfl rfl rfl hl.1 rfl (Nat.le_of_ble_eq_true rfl) dX4_tellMix_22 ⟨Nat.zero_le _, Nat.zero_le _⟩) (fun H locs hP _ hS => ?_)
      replace hP : va_P D mp_cl (k_X4_tellMix T a_ a_holds a_lettersOf a_p1 a_p1_cellNames a_p1_secretNames a_p1_pageNames a_p1_speed a_p1_letters a_p1_room a_p1_now a_p1_rounds a_p1_now_order a_p1_now_knows a_p1_now_made a_p1_now_sixteenths a_p1_now_dots a_p1_now_used a_p1_now_stands u15 u16 v_p1_cells v_p1_secrets v_p1_pages v_p1_blind v_p1_rubs v_p1_now_inOrder v_p1_now_place v_p1_now_ill v_p1_now_shut v_p1_now_turns v_p1_now_madeInAll v_p1_now_sixteenths) H := hP
      refine lv_goto (tgt := 41) hx hb dX4_tellMix_25 (by decide) ?_
      cases hf
      exact mp_retv X hP hS dX4_tellMix_41


