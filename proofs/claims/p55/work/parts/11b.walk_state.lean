def k_X5_clear (T : Nat → ClassId) (a_ a_code a_one a_other a_mate : Nat) (v_present : Int32) (v_steps : Int32) (v_size : Int32) : va_W := [(a_, oX5 v_present v_steps v_size a_code a_one a_other a_mate)]
set_option maxHeartbeats 4000000 in
set_option maxRecDepth 100000 in
theorem c_X5_clear (l : Launch) (D : va_G) (T : Nat → ClassId) (a_ a_code a_one a_other a_mate : Nat) (v_present : Int32) (v_steps : Int32) (v_size : Int32) (o_present : Int32) (o_steps : Int32) (o_size : Int32) (hf : f_X5_clear v_present v_steps v_size = some (o_present, o_steps, o_size)) :
    mp_M l D T yX5_clear cX5_clear 1 none ({ frames := 0, cells := 0, slots := 0, locals := 0 }) 0 0 [.ref a_] (k_X5_clear T a_ a_code a_one a_other a_mate v_present v_steps v_size) (mp_Qv D (k_X5_clear T a_ a_code a_one a_other a_mate o_present o_steps o_size)) := by
  refine mp_of (by decide) (Nat.le_of_ble_eq_true rfl) rfl ?_
  intro p e s m args below meth c A ls X hK hP hD hS hA hl
  replace X : mp_X p s m meth c args RX5 "clear" cX5_clear 1 none := X
  have hx := X.1
  have hb := X.2.1
  have hml := X.2.2.1
  have hown := X.2.2.2.2.1
  have hts := X.2.2.2.2.2.1
  replace hl : lv_has ls 1 [(0, .ref a_)] := hl
  replace hf : some ((nI 0), (nI 0), (nI 0)) = some (o_present, o_steps, o_size) := hf
  refine lv_aload_n hx hb dX5_clear_0 rfl (lv_at hl 0 rfl) ?_
  refine lv_iconst (v := (nI 0)) hx hb dX5_clear_1 (by decide) ?_
  refine mp_putf X fl_X5_9 fp_X5 rfl hK hP (mp_D_of hD rfl) hS 0 rfl rfl rfl (Nat.le_of_ble_eq_true rfl) dX5_clear_2 (fun H locs hP _ hS => ?_)
  replace hP : va_P D mp_cl (k_X5_clear T a_ a_code a_one a_other a_mate (nI 0) v_steps v_size) H := hP
  refine lv_aload_n hx hb dX5_clear_5 rfl (lv_at hl 0 rfl) ?_
  refine lv_iconst (v := (nI 0)) hx hb dX5_clear_6 (by decide) ?_
  refine mp_putf X fl_X5_15 fp_X5 rfl hK hP (mp_D_of hD rfl) hS 0 rfl rfl rfl (Nat.le_of_ble_eq_true rfl) dX5_clear_7 (fun H locs hP _ hS => ?_)
  replace hP : va_P D mp_cl (k_X5_clear T a_ a_code a_one a_other a_mate (nI 0) (nI 0) v_size) H := hP
  refine lv_aload_n hx hb dX5_clear_10 rfl (lv_at hl 0 rfl) ?_
  refine lv_iconst (v := (nI 0)) hx hb dX5_clear_11 (by decide) ?_
  refine mp_putf X fl_X5_19 fp_X5 rfl hK hP (mp_D_of hD rfl) hS 0 rfl rfl rfl (Nat.le_of_ble_eq_true rfl) dX5_clear_12 (fun H locs hP _ hS => ?_)
  replace hP : va_P D mp_cl (k_X5_clear T a_ a_code a_one a_other a_mate (nI 0) (nI 0) (nI 0)) H := hP
  cases hf
  exact mp_retv X hP hS dX5_clear_15


def k_X1_clear (T : Nat → ClassId) (a_ a_cellNames a_secretNames a_pageNames a_speed a_letters a_room a_now a_rounds a_now_order a_now_knows a_now_made a_now_sixteenths a_now_dots a_now_used a_now_stands a_rounds_code a_rounds_one a_rounds_other a_rounds_mate : Nat) (v_cells : Int32) (v_secrets : Int32) (v_pages : Int32) (v_blind : Int32) (v_rubs : Int32) (v_now_inOrder : Int32) (v_now_place : Int32) (v_now_ill : Int32) (v_now_shut : Int32) (v_now_turns : Int32) (v_now_madeInAll : Int32) (v_now_dots : (Nat → Int32)) (v_now_knows : (Nat → Int32)) (v_now_made : (Nat → Int32)) (v_now_sixteenths : (Nat → Int32)) (v_now_stands : (Nat → Int32)) (v_now_used : (Nat → Int32)) (v_rounds_present : Int32) (v_rounds_steps : Int32) (v_rounds_size : Int32) : va_W := [(a_, oX1 v_cells v_secrets v_pages a_cellNames a_secretNames a_pageNames a_speed v_blind v_rubs a_letters a_room a_now a_rounds), (a_now, oX7 a_now_order v_now_inOrder v_now_place a_now_knows a_now_made a_now_sixteenths a_now_dots a_now_used a_now_stands v_now_ill v_now_shut v_now_turns v_now_madeInAll), (a_now_dots, mp_aI T 36 v_now_dots), (a_now_knows, mp_aI T 8 v_now_knows), (a_now_made, mp_aI T 8 v_now_made), (a_now_sixteenths, mp_aI T 6 v_now_sixteenths), (a_now_stands, mp_aI T 6 v_now_stands), (a_now_used, mp_aI T 6 v_now_used), (a_rounds, oX5 v_rounds_present v_rounds_steps v_rounds_size a_rounds_code a_rounds_one a_rounds_other a_rounds_mate)]
set_option maxHeartbeats 4000000 in
set_option maxRecDepth 100000 in
theorem c_X1_clear (l : Launch) (D : va_G) (T : Nat → ClassId) (fu : Nat) (a_ a_cellNames a_secretNames a_pageNames a_speed a_letters a_room a_now a_rounds a_now_order a_now_knows a_now_made a_now_sixteenths a_now_dots a_now_used a_now_stands a_rounds_code a_rounds_one a_rounds_other a_rounds_mate : Nat) (v_cells : Int32) (v_secrets : Int32) (v_pages : Int32) (v_blind : Int32) (v_rubs : Int32) (v_now_inOrder : Int32) (v_now_place : Int32) (v_now_ill : Int32) (v_now_shut : Int32) (v_now_turns : Int32) (v_now_madeInAll : Int32) (v_now_dots : (Nat → Int32)) (v_now_knows : (Nat → Int32)) (v_now_made : (Nat → Int32)) (v_now_sixteenths : (Nat → Int32)) (v_now_stands : (Nat → Int32)) (v_now_used : (Nat → Int32)) (v_rounds_present : Int32) (v_rounds_steps : Int32) (v_rounds_size : Int32) (o_cells : Int32) (o_secrets : Int32) (o_pages : Int32) (o_blind : Int32) (o_rubs : Int32) (o_now_inOrder : Int32) (o_now_place : Int32) (o_now_ill : Int32) (o_now_shut : Int32) (o_now_turns : Int32) (o_now_madeInAll : Int32) (o_now_dots : (Nat → Int32)) (o_now_knows : (Nat → Int32)) (o_now_made : (Nat → Int32)) (o_now_sixteenths : (Nat → Int32)) (o_now_stands : (Nat → Int32)) (o_now_used : (Nat → Int32)) (o_rounds_present : Int32) (o_rounds_steps : Int32) (o_rounds_size : Int32) (hf : f_X1_clear fu v_cells v_secrets v_pages v_blind v_rubs v_now_inOrder v_now_place v_now_ill v_now_shut v_now_turns v_now_madeInAll v_now_dots v_now_knows v_now_made v_now_sixteenths v_now_stands v_now_used v_rounds_present v_rounds_steps v_rounds_size = some (o_cells, o_secrets, o_pages, o_blind, o_rubs, o_now_inOrder, o_now_place, o_now_ill, o_now_shut, o_now_turns, o_now_madeInAll, o_now_dots, o_now_knows, o_now_made, o_now_sixteenths, o_now_stands, o_now_used, o_rounds_present, o_rounds_steps, o_rounds_size)) :
    mp_M l D T yX1_clear cX1_clear 1 none ({ frames := 2, cells := 0, slots := 0, locals := 43 }) 0 0 [.ref a_] (k_X1_clear T a_ a_cellNames a_secretNames a_pageNames a_speed a_letters a_room a_now a_rounds a_now_order a_now_knows a_now_made a_now_sixteenths a_now_dots a_now_used a_now_stands a_rounds_code a_rounds_one a_rounds_other a_rounds_mate v_cells v_secrets v_pages v_blind v_rubs v_now_inOrder v_now_place v_now_ill v_now_shut v_now_turns v_now_madeInAll v_now_dots v_now_knows v_now_made v_now_sixteenths v_now_stands v_now_used v_rounds_present v_rounds_steps v_rounds_size) (mp_Qv D (k_X1_clear T a_ a_cellNames a_secretNames a_pageNames a_speed a_letters a_room a_now a_rounds a_now_order a_now_knows a_now_made a_now_sixteenths a_now_dots a_now_used a_now_stands a_rounds_code a_rounds_one a_rounds_other a_rounds_mate o_cells o_secrets o_pages o_blind o_rubs o_now_inOrder o_now_place o_now_ill o_now_shut o_now_turns o_now_madeInAll o_now_dots o_now_knows o_now_made o_now_sixteenths o_now_stands o_now_used o_rounds_present o_rounds_steps o_rounds_size)) := by
  refine mp_of (by decide) (Nat.le_of_ble_eq_true rfl) rfl ?_
  intro p e s m args below meth c A ls X hK hP hD hS hA hl
  replace X : mp_X p s m meth c args RX1 "clear" cX1_clear 1 none := X
  have hx := X.1
  have hb := X.2.1
  have hml := X.2.2.1
  have hown := X.2.2.2.2.1
  have hts := X.2.2.2.2.2.1
  replace hl : lv_has ls 1 [(0, .ref a_)] := hl
  replace hf : bd_ (f_X7_clear fu v_now_inOrder v_now_place v_now_ill v_now_shut v_now_turns v_now_madeInAll v_now_dots v_now_knows v_now_made v_now_sixteenths v_now_stands v_now_used) (fun (z : Int32 × Int32 × Int32 × Int32 × Int32 × Int32 × (Nat → Int32) × (Nat → Int32) × (Nat → Int32) × (Nat → Int32) × (Nat → Int32) × (Nat → Int32)) => match z with | (u1, u2, u3, u4, u5, u6, u7, u8, u9, u10, u11, u12) => bd_ (f_X5_clear v_rounds_present v_rounds_steps v_rounds_size) (fun (z : Int32 × Int32 × Int32) => match z with | (u14, u15, u16) => some ((nI 0), (nI 0), (nI 0), (nI 0), (nI 0), u1, u2, u3, u4, u5, u6, u7, u8, u9, u10, u11, u12, u14, u15, u16))) = some (o_cells, o_secrets, o_pages, o_blind, o_rubs, o_now_inOrder, o_now_place, o_now_ill, o_now_shut, o_now_turns, o_now_madeInAll, o_now_dots, o_now_knows, o_now_made, o_now_sixteenths, o_now_stands, o_now_used, o_rounds_present, o_rounds_steps, o_rounds_size) := hf
  refine lv_aload_n hx hb dX1_clear_0 rfl (lv_at hl 0 rfl) ?_
  refine lv_iconst (v := (nI 0)) hx hb dX1_clear_1 (by decide) ?_
  refine mp_putf X fl_X1_9 fp_X1 rfl hK hP (mp_D_of hD rfl) hS 0 rfl rfl rfl (Nat.le_of_ble_eq_true rfl) dX1_clear_2 (fun H locs hP _ hS => ?_)
  replace hP : va_P D mp_cl (k_X1_clear T a_ a_cellNames a_secretNames a_pageNames a_speed a_letters a_room a_now a_rounds a_now_order a_now_knows a_now_made a_now_sixteenths a_now_dots a_now_used a_now_stands a_rounds_code a_rounds_one a_rounds_other a_rounds_mate (nI 0) v_secrets v_pages v_blind v_rubs v_now_inOrder v_now_place v_now_ill v_now_shut v_now_turns v_now_madeInAll v_now_dots v_now_knows v_now_made v_now_sixteenths v_now_stands v_now_used v_rounds_present v_rounds_steps v_rounds_size) H := hP
  refine lv_aload_n hx hb dX1_clear_5 rfl (lv_at hl 0 rfl) ?_
  refine lv_iconst (v := (nI 0)) hx hb dX1_clear_6 (by decide) ?_
  refine mp_putf X fl_X1_15 fp_X1 rfl hK hP (mp_D_of hD rfl) hS 0 rfl rfl rfl (Nat.le_of_ble_eq_true rfl) dX1_clear_7 (fun H locs hP _ hS => ?_)
  replace hP : va_P D mp_cl (k_X1_clear T a_ a_cellNames a_secretNames a_pageNames a_speed a_letters a_room a_now a_rounds a_now_order a_now_knows a_now_made a_now_sixteenths a_now_dots a_now_used a_now_stands a_rounds_code a_rounds_one a_rounds_other a_rounds_mate (nI 0) (nI 0) v_pages v_blind v_rubs v_now_inOrder v_now_place v_now_ill v_now_shut v_now_turns v_now_madeInAll v_now_dots v_now_knows v_now_made v_now_sixteenths v_now_stands v_now_used v_rounds_present v_rounds_steps v_rounds_size) H := hP
  refine lv_aload_n hx hb dX1_clear_10 rfl (lv_at hl 0 rfl) ?_
  refine lv_iconst (v := (nI 0)) hx hb dX1_clear_11 (by decide) ?_
  refine mp_putf X fl_X1_18 fp_X1 rfl hK hP (mp_D_of hD rfl) hS 0 rfl rfl rfl (Nat.le_of_ble_eq_true rfl) dX1_clear_12 (fun H locs hP _ hS => ?_)
  replace hP : va_P D mp_cl (k_X1_clear T a_ a_cellNames a_secretNames a_pageNames a_speed a_letters a_room a_now a_rounds a_now_order a_now_knows a_now_made a_now_sixteenths a_now_dots a_now_used a_now_stands a_rounds_code a_rounds_one a_rounds_other a_rounds_mate (nI 0) (nI 0) (nI 0) v_blind v_rubs v_now_inOrder v_now_place v_now_ill v_now_shut v_now_turns v_now_madeInAll v_now_dots v_now_knows v_now_made v_now_sixteenths v_now_stands v_now_used v_rounds_present v_rounds_steps v_rounds_size) H := hP
  refine lv_aload_n hx hb dX1_clear_15 rfl (lv_at hl 0 rfl) ?_
  refine lv_iconst (v := (nI 0)) hx hb dX1_clear_16 (by decide) ?_
  refine mp_putf X fl_X1_35 fp_X1 rfl hK hP (mp_D_of hD rfl) hS 0 rfl rfl rfl (Nat.le_of_ble_eq_true rfl) dX1_clear_17 (fun H locs hP _ hS => ?_)
  replace hP : va_P D mp_cl (k_X1_clear T a_ a_cellNames a_secretNames a_pageNames a_speed a_letters a_room a_now a_rounds a_now_order a_now_knows a_now_made a_now_sixteenths a_now_dots a_now_used a_now_stands a_rounds_code a_rounds_one a_rounds_other a_rounds_mate (nI 0) (nI 0) (nI 0) (nI 0) v_rubs v_now_inOrder v_now_place v_now_ill v_now_shut v_now_turns v_now_madeInAll v_now_dots v_now_knows v_now_made v_now_sixteenths v_now_stands v_now_used v_rounds_present v_rounds_steps v_rounds_size) H := hP
  refine lv_aload_n hx hb dX1_clear_20 rfl (lv_at hl 0 rfl) ?_
  refine lv_iconst (v := (nI 0)) hx hb dX1_clear_21 (by decide) ?_
  refine mp_putf X fl_X1_38 fp_X1 rfl hK hP (mp_D_of hD rfl) hS 0 rfl rfl rfl (Nat.le_of_ble_eq_true rfl) dX1_clear_22 (fun H locs hP _ hS => ?_)
  replace hP : va_P D mp_cl (k_X1_clear T a_ a_cellNames a_secretNames a_pageNames a_speed a_letters a_room a_now a_rounds a_now_order a_now_knows a_now_made a_now_sixteenths a_now_dots a_now_used a_now_stands a_rounds_code a_rounds_one a_rounds_other a_rounds_mate (nI 0) (nI 0) (nI 0) (nI 0) (nI 0) v_now_inOrder v_now_place v_now_ill v_now_shut v_now_turns v_now_madeInAll v_now_dots v_now_knows v_now_made v_now_sixteenths v_now_stands v_now_used v_rounds_present v_rounds_steps v_rounds_size) H := hP
  refine lv_aload_n hx hb dX1_clear_25 rfl (lv_at hl 0 rfl) ?_
  refine mp_get X fl_X1_50 hK hP 0 rfl rfl dX1_clear_26 ?_
  obtain ⟨⟨u1, u2, u3, u4, u5, u6, u7, u8, u9, u10, u11, u12⟩, c13, hf⟩ := bd_of hf
  dsimp only at hf
  have hPc := hP.sub (ws' := (k_X7_clear T a_now a_now_order a_now_knows a_now_made a_now_sixteenths a_now_dots a_now_used a_now_stands v_now_inOrder v_now_place v_now_ill v_now_shut v_now_turns v_now_madeInAll v_now_dots v_now_knows v_now_made v_now_sixteenths v_now_stands v_now_used)) [1, 2, 3, 4, 5, 6, 7] rfl
  have hDc := (mp_D_of (w1 := (k_X1_clear T a_ a_cellNames a_secretNames a_pageNames a_speed a_letters a_room a_now a_rounds a_now_order a_now_knows a_now_made a_now_sixteenths a_now_dots a_now_used a_now_stands a_rounds_code a_rounds_one a_rounds_other a_rounds_mate (nI 0) (nI 0) (nI 0) (nI 0) (nI 0) v_now_inOrder v_now_place v_now_ill v_now_shut v_now_turns v_now_madeInAll v_now_dots v_now_knows v_now_made v_now_sixteenths v_now_stands v_now_used v_rounds_present v_rounds_steps v_rounds_size)) hD rfl).sub (ws' := (k_X7_clear T a_now a_now_order a_now_knows a_now_made a_now_sixteenths a_now_dots a_now_used a_now_stands v_now_inOrder v_now_place v_now_ill v_now_shut v_now_turns v_now_madeInAll v_now_dots v_now_knows v_now_made v_now_sixteenths v_now_stands v_now_used)) [1, 2, 3, 4, 5, 6, 7] rfl rfl
  refine mp_callv2 (isC := [1, 2, 3, 4, 5, 6, 7]) (isO := [0, 8]) (wc := (k_X7_clear T a_now a_now_order a_now_knows a_now_made a_now_sixteenths a_now_dots a_now_used a_now_stands v_now_inOrder v_now_place v_now_ill v_now_shut v_now_turns v_now_madeInAll v_now_dots v_now_knows v_now_made v_now_sixteenths v_now_stands v_now_used)) (w1 := (k_X7_clear T a_now a_now_order a_now_knows a_now_made a_now_sixteenths a_now_dots a_now_used a_now_stands u1 u2 u3 u4 u5 u6 u7 u8 u9 u10 u11 u12)) (wo := [(a_, oX1 (nI 0) (nI 0) (nI 0) a_cellNames a_secretNames a_pageNames a_speed (nI 0) (nI 0) a_letters a_room a_now a_rounds), (a_rounds, oX5 v_rounds_present v_rounds_steps v_rounds_size a_rounds_code a_rounds_one a_rounds_other a_rounds_mate)]) (w2 := (k_X1_clear T a_ a_cellNames a_secretNames a_pageNames a_speed a_letters a_room a_now a_rounds a_now_order a_now_knows a_now_made a_now_sixteenths a_now_dots a_now_used a_now_stands a_rounds_code a_rounds_one a_rounds_other a_rounds_mate (nI 0) (nI 0) (nI 0) (nI 0) (nI 0) u1 u2 u3 u4 u5 u6 u7 u8 u9 u10 u11 u12 v_rounds_present v_rounds_steps v_rounds_size)) (n := 9) hP (mp_D_of hD rfl) hS hA rfl rfl rfl rfl rfl rfl (by decide +kernel) (mp_runV (As := []) (rest := []) X me_X7_clear lk_X1_61 (c_X7_clear l D T fu a_now a_now_order a_now_knows a_now_made a_now_sixteenths a_now_dots a_now_used a_now_stands v_now_inOrder v_now_place v_now_ill v_now_shut v_now_turns v_now_madeInAll v_now_dots v_now_knows v_now_made v_now_sixteenths v_now_stands v_now_used u1 u2 u3 u4 u5 u6 u7 u8 u9 u10 u11 u12 c13) rfl rfl ⟨(Nat.le_of_ble_eq_true rfl), (Nat.le_of_ble_eq_true rfl)⟩ hK hPc hDc rfl rfl rfl rfl hl.1 rfl (Nat.le_of_ble_eq_true rfl) dX1_clear_29 ⟨Nat.zero_le _, Nat.zero_le _⟩) (fun H locs hP _ hS => ?_)
  refine lv_aload_n hx hb dX1_clear_32 rfl (lv_at hl 0 rfl) ?_
  refine mp_get X fl_X1_57 hK hP 0 rfl rfl dX1_clear_33 ?_
  obtain ⟨⟨u14, u15, u16⟩, c17, hf⟩ := bd_of hf
  dsimp only at hf
  have hPc := hP.sub (ws' := (k_X5_clear T a_rounds a_rounds_code a_rounds_one a_rounds_other a_rounds_mate v_rounds_present v_rounds_steps v_rounds_size)) [8] rfl
  have hDc := (mp_D_of (w1 := (k_X1_clear T a_ a_cellNames a_secretNames a_pageNames a_speed a_letters a_room a_now a_rounds a_now_order a_now_knows a_now_made a_now_sixteenths a_now_dots a_now_used a_now_stands a_rounds_code a_rounds_one a_rounds_other a_rounds_mate (nI 0) (nI 0) (nI 0) (nI 0) (nI 0) u1 u2 u3 u4 u5 u6 u7 u8 u9 u10 u11 u12 v_rounds_present v_rounds_steps v_rounds_size)) hD rfl).sub (ws' := (k_X5_clear T a_rounds a_rounds_code a_rounds_one a_rounds_other a_rounds_mate v_rounds_present v_rounds_steps v_rounds_size)) [8] rfl rfl
  refine mp_callv (isC := [8]) (wc := (k_X5_clear T a_rounds a_rounds_code a_rounds_one a_rounds_other a_rounds_mate v_rounds_present v_rounds_steps v_rounds_size)) (w1 := (k_X5_clear T a_rounds a_rounds_code a_rounds_one a_rounds_other a_rounds_mate u14 u15 u16)) hP (mp_D_of hD rfl) hS hA rfl rfl (mp_runV (As := []) (rest := []) X me_X5_clear lk_X1_64 (c_X5_clear l D T a_rounds a_rounds_code a_rounds_one a_rounds_other a_rounds_mate v_rounds_present v_rounds_steps v_rounds_size u14 u15 u16 c17) rfl rfl ⟨(Nat.le_of_ble_eq_true rfl), (Nat.le_of_ble_eq_true rfl)⟩ hK hPc hDc rfl rfl rfl rfl hl.1 rfl (Nat.le_of_ble_eq_true rfl) dX1_clear_36 ⟨Nat.zero_le _, Nat.zero_le _⟩) (fun H locs hP _ hS => ?_)
  replace hP : va_P D mp_cl (k_X1_clear T a_ a_cellNames a_secretNames a_pageNames a_speed a_letters a_room a_now a_rounds a_now_order a_now_knows a_now_made a_now_sixteenths a_now_dots a_now_used a_now_stands a_rounds_code a_rounds_one a_rounds_other a_rounds_mate (nI 0) (nI 0) (nI 0) (nI 0) (nI 0) u1 u2 u3 u4 u5 u6 u7 u8 u9 u10 u11 u12 u14 u15 u16) H := hP
  cases hf
  exact mp_retv X hP hS dX1_clear_39


def k_X5_copyFrom (T : Nat → ClassId) (a_ a_code a_one a_other a_mate a_p1 a_p1_code a_p1_one a_p1_other a_p1_mate : Nat) (v_present : Int32) (v_steps : Int32) (v_size : Int32) (v_code : (Nat → Int32)) (v_mate : (Nat → Int32)) (v_one : (Nat → Int32)) (v_other : (Nat → Int32)) (v_p1_present : Int32) (v_p1_steps : Int32) (v_p1_size : Int32) (v_p1_code : (Nat → Int32)) (v_p1_mate : (Nat → Int32)) (v_p1_one : (Nat → Int32)) (v_p1_other : (Nat → Int32)) : va_W := [(a_, oX5 v_present v_steps v_size a_code a_one a_other a_mate), (a_code, mp_aI T 60 v_code), (a_mate, mp_aI T 60 v_mate), (a_one, mp_aI T 60 v_one), (a_other, mp_aI T 60 v_other), (a_p1, oX5 v_p1_present v_p1_steps v_p1_size a_p1_code a_p1_one a_p1_other a_p1_mate), (a_p1_code, mp_aI T 60 v_p1_code), (a_p1_mate, mp_aI T 60 v_p1_mate), (a_p1_one, mp_aI T 60 v_p1_one), (a_p1_other, mp_aI T 60 v_p1_other)]
set_option maxHeartbeats 4000000 in
set_option maxRecDepth 100000 in
theorem c_X5_copyFrom (l : Launch) (D : va_G) (T : Nat → ClassId) (a_ a_code a_one a_other a_mate a_p1 a_p1_code a_p1_one a_p1_other a_p1_mate : Nat) (v_present : Int32) (v_steps : Int32) (v_size : Int32) (v_code : (Nat → Int32)) (v_mate : (Nat → Int32)) (v_one : (Nat → Int32)) (v_other : (Nat → Int32)) (v_p1_present : Int32) (v_p1_steps : Int32) (v_p1_size : Int32) (v_p1_code : (Nat → Int32)) (v_p1_mate : (Nat → Int32)) (v_p1_one : (Nat → Int32)) (v_p1_other : (Nat → Int32)) (o_present : Int32) (o_steps : Int32) (o_size : Int32) (o_code : (Nat → Int32)) (o_mate : (Nat → Int32)) (o_one : (Nat → Int32)) (o_other : (Nat → Int32)) (hf : f_X5_copyFrom v_present v_steps v_size v_code v_mate v_one v_other v_p1_present v_p1_steps v_p1_size v_p1_code v_p1_mate v_p1_one v_p1_other = some (o_present, o_steps, o_size, o_code, o_mate, o_one, o_other)) :
    mp_M l D T yX5_copyFrom cX5_copyFrom 2 none ({ frames := 1, cells := 0, slots := 0, locals := 40 }) 0 0 [.ref a_, .ref a_p1] (k_X5_copyFrom T a_ a_code a_one a_other a_mate a_p1 a_p1_code a_p1_one a_p1_other a_p1_mate v_present v_steps v_size v_code v_mate v_one v_other v_p1_present v_p1_steps v_p1_size v_p1_code v_p1_mate v_p1_one v_p1_other) (mp_Qv D (k_X5_copyFrom T a_ a_code a_one a_other a_mate a_p1 a_p1_code a_p1_one a_p1_other a_p1_mate o_present o_steps o_size o_code o_mate o_one o_other v_p1_present v_p1_steps v_p1_size v_p1_code v_p1_mate v_p1_one v_p1_other)) := by
  refine mp_of (by decide) (Nat.le_of_ble_eq_true rfl) rfl ?_
  intro p e s m args below meth c A ls X hK hP hD hS hA hl
  replace X : mp_X p s m meth c args RX5 "copyFrom" cX5_copyFrom 2 none := X
  have hx := X.1
  have hb := X.2.1
  have hml := X.2.2.1
  have hown := X.2.2.2.2.1
  have hts := X.2.2.2.2.2.1
  replace hl : lv_has ls 2 [(0, .ref a_), (1, .ref a_p1)] := hl
  replace hf : gd_ (v_p1_present = 0 ∨ v_p1_present = 1) (gc_ (nI 0) (nI 0) v_p1_size 60 60 (gc_ (nI 0) (nI 0) v_p1_size 60 60 (gc_ (nI 0) (nI 0) v_p1_size 60 60 (gc_ (nI 0) (nI 0) v_p1_size 60 60 (some (v_p1_present, v_p1_steps, v_p1_size, va_cpy v_p1_code v_code ((nI 0)).toNatClampNeg ((nI 0)).toNatClampNeg (v_p1_size).toNatClampNeg, va_cpy v_p1_mate v_mate ((nI 0)).toNatClampNeg ((nI 0)).toNatClampNeg (v_p1_size).toNatClampNeg, va_cpy v_p1_one v_one ((nI 0)).toNatClampNeg ((nI 0)).toNatClampNeg (v_p1_size).toNatClampNeg, va_cpy v_p1_other v_other ((nI 0)).toNatClampNeg ((nI 0)).toNatClampNeg (v_p1_size).toNatClampNeg)))))) = some (o_present, o_steps, o_size, o_code, o_mate, o_one, o_other) := hf
  refine lv_aload_n hx hb dX5_copyFrom_0 rfl (lv_at hl 0 rfl) ?_
  refine lv_aload_n hx hb dX5_copyFrom_1 rfl (lv_at hl 1 rfl) ?_
  refine mp_get X fl_X5_9 hK hP 5 rfl rfl dX5_copyFrom_2 ?_
  obtain ⟨h1, hf⟩ := gd_of hf
  refine mp_putf X fl_X5_9 fp_X5 rfl hK hP (mp_D_of hD rfl) hS 0 rfl (by rcases h1 with rfl | rfl <;> rfl) (by rcases h1 with rfl | rfl <;> rfl) (Nat.le_of_ble_eq_true rfl) dX5_copyFrom_5 (fun H locs hP _ hS => ?_)
  replace hP : va_P D mp_cl (k_X5_copyFrom T a_ a_code a_one a_other a_mate a_p1 a_p1_code a_p1_one a_p1_other a_p1_mate v_p1_present v_steps v_size v_code v_mate v_one v_other v_p1_present v_p1_steps v_p1_size v_p1_code v_p1_mate v_p1_one v_p1_other) H := hP
  refine lv_aload_n hx hb dX5_copyFrom_8 rfl (lv_at hl 0 rfl) ?_
  refine lv_aload_n hx hb dX5_copyFrom_9 rfl (lv_at hl 1 rfl) ?_
  refine mp_get X fl_X5_15 hK hP 5 rfl rfl dX5_copyFrom_10 ?_
  refine mp_putf X fl_X5_15 fp_X5 rfl hK hP (mp_D_of hD rfl) hS 0 rfl rfl rfl (Nat.le_of_ble_eq_true rfl) dX5_copyFrom_13 (fun H locs hP _ hS => ?_)
  replace hP : va_P D mp_cl (k_X5_copyFrom T a_ a_code a_one a_other a_mate a_p1 a_p1_code a_p1_one a_p1_other a_p1_mate v_p1_present v_p1_steps v_size v_code v_mate v_one v_other v_p1_present v_p1_steps v_p1_size v_p1_code v_p1_mate v_p1_one v_p1_other) H := hP
  refine lv_aload_n hx hb dX5_copyFrom_16 rfl (lv_at hl 0 rfl) ?_
  refine lv_aload_n hx hb dX5_copyFrom_17 rfl (lv_at hl 1 rfl) ?_
  refine mp_get X fl_X5_19 hK hP 5 rfl rfl dX5_copyFrom_18 ?_
  refine mp_putf X fl_X5_19 fp_X5 rfl hK hP (mp_D_of hD rfl) hS 0 rfl rfl rfl (Nat.le_of_ble_eq_true rfl) dX5_copyFrom_21 (fun H locs hP _ hS => ?_)
  replace hP : va_P D mp_cl (k_X5_copyFrom T a_ a_code a_one a_other a_mate a_p1 a_p1_code a_p1_one a_p1_other a_p1_mate v_p1_present v_p1_steps v_p1_size v_code v_mate v_one v_other v_p1_present v_p1_steps v_p1_size v_p1_code v_p1_mate v_p1_one v_p1_other) H := hP
  refine lv_aload_n hx hb dX5_copyFrom_24 rfl (lv_at hl 1 rfl) ?_
  refine mp_get X fl_X5_22 hK hP 5 rfl rfl dX5_copyFrom_25 ?_
  refine lv_iconst (v := (nI 0)) hx hb dX5_copyFrom_28 (by decide) ?_
  refine lv_aload_n hx hb dX5_copyFrom_29 rfl (lv_at hl 0 rfl) ?_
  refine mp_get X fl_X5_22 hK hP 0 rfl rfl dX5_copyFrom_30 ?_
  refine lv_iconst (v := (nI 0)) hx hb dX5_copyFrom_33 (by decide) ?_
  refine lv_aload_n hx hb dX5_copyFrom_34 rfl (lv_at hl 0 rfl) ?_
  refine mp_get X fl_X5_19 hK hP 0 rfl rfl dX5_copyFrom_35 ?_
  obtain ⟨h2, hf⟩ := gc_of hf
  refine va_copyi hx hb (hml.trans hl.1.symm) hown (hts _ lk_X5_35_ac) (hts _ ac_nat) (hts _ ac_stat) (hts _ ac_ini) hK hP (mp_D_of hD rfl) hS 6 1 0 0 rfl rfl rfl rfl rfl h2.1 h2.2.1 h2.2.2.1 h2.2.2.2.1 h2.2.2.2.2 (fun _ _ => rfl) (Nat.le_of_ble_eq_true rfl) (Nat.le_of_ble_eq_true rfl) dX5_copyFrom_38 (fun H locs hP _ hS => ?_)
  replace hP : va_P D mp_cl (k_X5_copyFrom T a_ a_code a_one a_other a_mate a_p1 a_p1_code a_p1_one a_p1_other a_p1_mate v_p1_present v_p1_steps v_p1_size (va_cpy v_p1_code v_code ((nI 0)).toNatClampNeg ((nI 0)).toNatClampNeg (v_p1_size).toNatClampNeg) v_mate v_one v_other v_p1_present v_p1_steps v_p1_size v_p1_code v_p1_mate v_p1_one v_p1_other) H := hP
  refine lv_aload_n hx hb dX5_copyFrom_41 rfl (lv_at hl 1 rfl) ?_
  refine mp_get X fl_X5_26 hK hP 5 rfl rfl dX5_copyFrom_42 ?_
  refine lv_iconst (v := (nI 0)) hx hb dX5_copyFrom_45 (by decide) ?_
  refine lv_aload_n hx hb dX5_copyFrom_46 rfl (lv_at hl 0 rfl) ?_
  refine mp_get X fl_X5_26 hK hP 0 rfl rfl dX5_copyFrom_47 ?_
  refine lv_iconst (v := (nI 0)) hx hb dX5_copyFrom_50 (by decide) ?_
  refine lv_aload_n hx hb dX5_copyFrom_51 rfl (lv_at hl 0 rfl) ?_
  refine mp_get X fl_X5_19 hK hP 0 rfl rfl dX5_copyFrom_52 ?_
  obtain ⟨h3, hf⟩ := gc_of hf
  refine va_copyi hx hb (hml.trans hl.1.symm) hown (hts _ lk_X5_35_ac) (hts _ ac_nat) (hts _ ac_stat) (hts _ ac_ini) hK hP (mp_D_of hD rfl) hS 8 3 0 0 rfl rfl rfl rfl rfl h3.1 h3.2.1 h3.2.2.1 h3.2.2.2.1 h3.2.2.2.2 (fun _ _ => rfl) (Nat.le_of_ble_eq_true rfl) (Nat.le_of_ble_eq_true rfl) dX5_copyFrom_55 (fun H locs hP _ hS => ?_)
  replace hP : va_P D mp_cl (k_X5_copyFrom T a_ a_code a_one a_other a_mate a_p1 a_p1_code a_p1_one a_p1_other a_p1_mate v_p1_present v_p1_steps v_p1_size (va_cpy v_p1_code v_code ((nI 0)).toNatClampNeg ((nI 0)).toNatClampNeg (v_p1_size).toNatClampNeg) v_mate (va_cpy v_p1_one v_one ((nI 0)).toNatClampNeg ((nI 0)).toNatClampNeg (v_p1_size).toNatClampNeg) v_other v_p1_present v_p1_steps v_p1_size v_p1_code v_p1_mate v_p1_one v_p1_other) H := hP
  refine lv_aload_n hx hb dX5_copyFrom_58 rfl (lv_at hl 1 rfl) ?_
  refine mp_get X fl_X5_29 hK hP 5 rfl rfl dX5_copyFrom_59 ?_
  refine lv_iconst (v := (nI 0)) hx hb dX5_copyFrom_62 (by decide) ?_
  refine lv_aload_n hx hb dX5_copyFrom_63 rfl (lv_at hl 0 rfl) ?_
  refine mp_get X fl_X5_29 hK hP 0 rfl rfl dX5_copyFrom_64 ?_
  refine lv_iconst (v := (nI 0)) hx hb dX5_copyFrom_67 (by decide) ?_
  refine lv_aload_n hx hb dX5_copyFrom_68 rfl (lv_at hl 0 rfl) ?_
  refine mp_get X fl_X5_19 hK hP 0 rfl rfl dX5_copyFrom_69 ?_
  obtain ⟨h4, hf⟩ := gc_of hf
  refine va_copyi hx hb (hml.trans hl.1.symm) hown (hts _ lk_X5_35_ac) (hts _ ac_nat) (hts _ ac_stat) (hts _ ac_ini) hK hP (mp_D_of hD rfl) hS 9 4 0 0 rfl rfl rfl rfl rfl h4.1 h4.2.1 h4.2.2.1 h4.2.2.2.1 h4.2.2.2.2 (fun _ _ => rfl) (Nat.le_of_ble_eq_true rfl) (Nat.le_of_ble_eq_true rfl) dX5_copyFrom_72 (fun H locs hP _ hS => ?_)
  replace hP : va_P D mp_cl (k_X5_copyFrom T a_ a_code a_one a_other a_mate a_p1 a_p1_code a_p1_one a_p1_other a_p1_mate v_p1_present v_p1_steps v_p1_size (va_cpy v_p1_code v_code ((nI 0)).toNatClampNeg ((nI 0)).toNatClampNeg (v_p1_size).toNatClampNeg) v_mate (va_cpy v_p1_one v_one ((nI 0)).toNatClampNeg ((nI 0)).toNatClampNeg (v_p1_size).toNatClampNeg) (va_cpy v_p1_other v_other ((nI 0)).toNatClampNeg ((nI 0)).toNatClampNeg (v_p1_size).toNatClampNeg) v_p1_present v_p1_steps v_p1_size v_p1_code v_p1_mate v_p1_one v_p1_other) H := hP
  refine lv_aload_n hx hb dX5_copyFrom_75 rfl (lv_at hl 1 rfl) ?_
  refine mp_get X fl_X5_32 hK hP 5 rfl rfl dX5_copyFrom_76 ?_
  refine lv_iconst (v := (nI 0)) hx hb dX5_copyFrom_79 (by decide) ?_
  refine lv_aload_n hx hb dX5_copyFrom_80 rfl (lv_at hl 0 rfl) ?_
  refine mp_get X fl_X5_32 hK hP 0 rfl rfl dX5_copyFrom_81 ?_
  refine lv_iconst (v := (nI 0)) hx hb dX5_copyFrom_84 (by decide) ?_
  refine lv_aload_n hx hb dX5_copyFrom_85 rfl (lv_at hl 0 rfl) ?_
  refine mp_get X fl_X5_19 hK hP 0 rfl rfl dX5_copyFrom_86 ?_
  obtain ⟨h5, hf⟩ := gc_of hf
  refine va_copyi hx hb (hml.trans hl.1.symm) hown (hts _ lk_X5_35_ac) (hts _ ac_nat) (hts _ ac_stat) (hts _ ac_ini) hK hP (mp_D_of hD rfl) hS 7 2 0 0 rfl rfl rfl rfl rfl h5.1 h5.2.1 h5.2.2.1 h5.2.2.2.1 h5.2.2.2.2 (fun _ _ => rfl) (Nat.le_of_ble_eq_true rfl) (Nat.le_of_ble_eq_true rfl) dX5_copyFrom_89 (fun H locs hP _ hS => ?_)
  replace hP : va_P D mp_cl (k_X5_copyFrom T a_ a_code a_one a_other a_mate a_p1 a_p1_code a_p1_one a_p1_other a_p1_mate v_p1_present v_p1_steps v_p1_size (va_cpy v_p1_code v_code ((nI 0)).toNatClampNeg ((nI 0)).toNatClampNeg (v_p1_size).toNatClampNeg) (va_cpy v_p1_mate v_mate ((nI 0)).toNatClampNeg ((nI 0)).toNatClampNeg (v_p1_size).toNatClampNeg) (va_cpy v_p1_one v_one ((nI 0)).toNatClampNeg ((nI 0)).toNatClampNeg (v_p1_size).toNatClampNeg) (va_cpy v_p1_other v_other ((nI 0)).toNatClampNeg ((nI 0)).toNatClampNeg (v_p1_size).toNatClampNeg) v_p1_present v_p1_steps v_p1_size v_p1_code v_p1_mate v_p1_one v_p1_other) H := hP
  cases hf
  exact mp_retv X hP hS dX5_copyFrom_92


def k_X1_copyFrom (T : Nat → ClassId) (a_ a_cellNames a_secretNames a_pageNames a_speed a_letters a_room a_now a_rounds a_now_order a_now_knows a_now_made a_now_sixteenths a_now_dots a_now_used a_now_stands a_rounds_code a_rounds_one a_rounds_other a_rounds_mate a_p1 a_p1_cellNames a_p1_secretNames a_p1_pageNames a_p1_speed a_p1_letters a_p1_room a_p1_now a_p1_rounds a_p1_now_order a_p1_now_knows a_p1_now_made a_p1_now_sixteenths a_p1_now_dots a_p1_now_used a_p1_now_stands a_p1_rounds_code a_p1_rounds_one a_p1_rounds_other a_p1_rounds_mate : Nat) (v_cells : Int32) (v_secrets : Int32) (v_pages : Int32) (v_blind : Int32) (v_rubs : Int32) (v_cellNames : (Nat → Int64)) (v_letters : (Nat → Int32)) (v_now_inOrder : Int32) (v_now_place : Int32) (v_now_ill : Int32) (v_now_shut : Int32) (v_now_turns : Int32) (v_now_madeInAll : Int32) (v_now_dots : (Nat → Int32)) (v_now_knows : (Nat → Int32)) (v_now_made : (Nat → Int32)) (v_now_order : (Nat → Int32)) (v_now_sixteenths : (Nat → Int32)) (v_now_stands : (Nat → Int32)) (v_now_used : (Nat → Int32)) (v_pageNames : (Nat → Int64)) (v_room : (Nat → Int32)) (v_rounds_present : Int32) (v_rounds_steps : Int32) (v_rounds_size : Int32) (v_rounds_code : (Nat → Int32)) (v_rounds_mate : (Nat → Int32)) (v_rounds_one : (Nat → Int32)) (v_rounds_other : (Nat → Int32)) (v_secretNames : (Nat → Int64)) (v_speed : (Nat → Int32)) (v_p1_cells : Int32) (v_p1_secrets : Int32) (v_p1_pages : Int32) (v_p1_blind : Int32) (v_p1_rubs : Int32) (v_p1_cellNames : (Nat → Int64)) (v_p1_letters : (Nat → Int32)) (v_p1_now_inOrder : Int32) (v_p1_now_place : Int32) (v_p1_now_ill : Int32) (v_p1_now_shut : Int32) (v_p1_now_turns : Int32) (v_p1_now_madeInAll : Int32) (v_p1_now_dots : (Nat → Int32)) (v_p1_now_knows : (Nat → Int32)) (v_p1_now_made : (Nat → Int32)) (v_p1_now_order : (Nat → Int32)) (v_p1_now_sixteenths : (Nat → Int32)) (v_p1_now_stands : (Nat → Int32)) (v_p1_now_used : (Nat → Int32)) (v_p1_pageNames : (Nat → Int64)) (v_p1_room : (Nat → Int32)) (v_p1_rounds_present : Int32) (v_p1_rounds_steps : Int32) (v_p1_rounds_size : Int32) (v_p1_rounds_code : (Nat → Int32)) (v_p1_rounds_mate : (Nat → Int32)) (v_p1_rounds_one : (Nat → Int32)) (v_p1_rounds_other : (Nat → Int32)) (v_p1_secretNames : (Nat → Int64)) (v_p1_speed : (Nat → Int32)) : va_W := [(a_, oX1 v_cells v_secrets v_pages a_cellNames a_secretNames a_pageNames a_speed v_blind v_rubs a_letters a_room a_now a_rounds), (a_cellNames, mp_aJ T 8 v_cellNames), (a_letters, mp_aI T 6 v_letters), (a_now, oX7 a_now_order v_now_inOrder v_now_place a_now_knows a_now_made a_now_sixteenths a_now_dots a_now_used a_now_stands v_now_ill v_now_shut v_now_turns v_now_madeInAll), (a_now_dots, mp_aI T 36 v_now_dots), (a_now_knows, mp_aI T 8 v_now_knows), (a_now_made, mp_aI T 8 v_now_made), (a_now_order, mp_aI T 8 v_now_order), (a_now_sixteenths, mp_aI T 6 v_now_sixteenths), (a_now_stands, mp_aI T 6 v_now_stands), (a_now_used, mp_aI T 6 v_now_used), (a_pageNames, mp_aJ T 6 v_pageNames), (a_room, mp_aI T 6 v_room), (a_rounds, oX5 v_rounds_present v_rounds_steps v_rounds_size a_rounds_code a_rounds_one a_rounds_other a_rounds_mate), (a_rounds_code, mp_aI T 60 v_rounds_code), (a_rounds_mate, mp_aI T 60 v_rounds_mate), (a_rounds_one, mp_aI T 60 v_rounds_one), (a_rounds_other, mp_aI T 60 v_rounds_other), (a_secretNames, mp_aJ T 6 v_secretNames), (a_speed, mp_aI T 8 v_speed), (a_p1, oX1 v_p1_cells v_p1_secrets v_p1_pages a_p1_cellNames a_p1_secretNames a_p1_pageNames a_p1_speed v_p1_blind v_p1_rubs a_p1_letters a_p1_room a_p1_now a_p1_rounds), (a_p1_cellNames, mp_aJ T 8 v_p1_cellNames), (a_p1_letters, mp_aI T 6 v_p1_letters), (a_p1_now, oX7 a_p1_now_order v_p1_now_inOrder v_p1_now_place a_p1_now_knows a_p1_now_made a_p1_now_sixteenths a_p1_now_dots a_p1_now_used a_p1_now_stands v_p1_now_ill v_p1_now_shut v_p1_now_turns v_p1_now_madeInAll), (a_p1_now_dots, mp_aI T 36 v_p1_now_dots), (a_p1_now_knows, mp_aI T 8 v_p1_now_knows), (a_p1_now_made, mp_aI T 8 v_p1_now_made), (a_p1_now_order, mp_aI T 8 v_p1_now_order), (a_p1_now_sixteenths, mp_aI T 6 v_p1_now_sixteenths), (a_p1_now_stands, mp_aI T 6 v_p1_now_stands), (a_p1_now_used, mp_aI T 6 v_p1_now_used), (a_p1_pageNames, mp_aJ T 6 v_p1_pageNames), (a_p1_room, mp_aI T 6 v_p1_room), (a_p1_rounds, oX5 v_p1_rounds_present v_p1_rounds_steps v_p1_rounds_size a_p1_rounds_code a_p1_rounds_one a_p1_rounds_other a_p1_rounds_mate), (a_p1_rounds_code, mp_aI T 60 v_p1_rounds_code), (a_p1_rounds_mate, mp_aI T 60 v_p1_rounds_mate), (a_p1_rounds_one, mp_aI T 60 v_p1_rounds_one), (a_p1_rounds_other, mp_aI T 60 v_p1_rounds_other), (a_p1_secretNames, mp_aJ T 6 v_p1_secretNames), (a_p1_speed, mp_aI T 8 v_p1_speed)]
set_option maxHeartbeats 4000000 in
set_option maxRecDepth 100000 in
theorem c_X1_copyFrom (l : Launch) (D : va_G) (T : Nat → ClassId) (a_ a_cellNames a_secretNames a_pageNames a_speed a_letters a_room a_now a_rounds a_now_order a_now_knows a_now_made a_now_sixteenths a_now_dots a_now_used a_now_stands a_rounds_code a_rounds_one a_rounds_other a_rounds_mate a_p1 a_p1_cellNames a_p1_secretNames a_p1_pageNames a_p1_speed a_p1_letters a_p1_room a_p1_now a_p1_rounds a_p1_now_order a_p1_now_knows a_p1_now_made a_p1_now_sixteenths a_p1_now_dots a_p1_now_used a_p1_now_stands a_p1_rounds_code a_p1_rounds_one a_p1_rounds_other a_p1_rounds_mate : Nat) (v_cells : Int32) (v_secrets : Int32) (v_pages : Int32) (v_blind : Int32) (v_rubs : Int32) (v_cellNames : (Nat → Int64)) (v_letters : (Nat → Int32)) (v_now_inOrder : Int32) (v_now_place : Int32) (v_now_ill : Int32) (v_now_shut : Int32) (v_now_turns : Int32) (v_now_madeInAll : Int32) (v_now_dots : (Nat → Int32)) (v_now_knows : (Nat → Int32)) (v_now_made : (Nat → Int32)) (v_now_order : (Nat → Int32)) (v_now_sixteenths : (Nat → Int32)) (v_now_stands : (Nat → Int32)) (v_now_used : (Nat → Int32)) (v_pageNames : (Nat → Int64)) (v_room : (Nat → Int32)) (v_rounds_present : Int32) (v_rounds_steps : Int32) (v_rounds_size : Int32) (v_rounds_code : (Nat → Int32)) (v_rounds_mate : (Nat → Int32)) (v_rounds_one : (Nat → Int32)) (v_rounds_other : (Nat → Int32)) (v_secretNames : (Nat → Int64)) (v_speed : (Nat → Int32)) (v_p1_cells : Int32) (v_p1_secrets : Int32) (v_p1_pages : Int32) (v_p1_blind : Int32) (v_p1_rubs : Int32) (v_p1_cellNames : (Nat → Int64)) (v_p1_letters : (Nat → Int32)) (v_p1_now_inOrder : Int32) (v_p1_now_place : Int32) (v_p1_now_ill : Int32) (v_p1_now_shut : Int32) (v_p1_now_turns : Int32) (v_p1_now_madeInAll : Int32) (v_p1_now_dots : (Nat → Int32)) (v_p1_now_knows : (Nat → Int32)) (v_p1_now_made : (Nat → Int32)) (v_p1_now_order : (Nat → Int32)) (v_p1_now_sixteenths : (Nat → Int32)) (v_p1_now_stands : (Nat → Int32)) (v_p1_now_used : (Nat → Int32)) (v_p1_pageNames : (Nat → Int64)) (v_p1_room : (Nat → Int32)) (v_p1_rounds_present : Int32) (v_p1_rounds_steps : Int32) (v_p1_rounds_size : Int32) (v_p1_rounds_code : (Nat → Int32)) (v_p1_rounds_mate : (Nat → Int32)) (v_p1_rounds_one : (Nat → Int32)) (v_p1_rounds_other : (Nat → Int32)) (v_p1_secretNames : (Nat → Int64)) (v_p1_speed : (Nat → Int32)) (o_cells : Int32) (o_secrets : Int32) (o_pages : Int32) (o_blind : Int32) (o_rubs : Int32) (o_cellNames : (Nat → Int64)) (o_letters : (Nat → Int32)) (o_now_inOrder : Int32) (o_now_place : Int32) (o_now_ill : Int32) (o_now_shut : Int32) (o_now_turns : Int32) (o_now_madeInAll : Int32) (o_now_dots : (Nat → Int32)) (o_now_knows : (Nat → Int32)) (o_now_made : (Nat → Int32)) (o_now_order : (Nat → Int32)) (o_now_sixteenths : (Nat → Int32)) (o_now_stands : (Nat → Int32)) (o_now_used : (Nat → Int32)) (o_pageNames : (Nat → Int64)) (o_room : (Nat → Int32)) (o_rounds_present : Int32) (o_rounds_steps : Int32) (o_rounds_size : Int32) (o_rounds_code : (Nat → Int32)) (o_rounds_mate : (Nat → Int32)) (o_rounds_one : (Nat → Int32)) (o_rounds_other : (Nat → Int32)) (o_secretNames : (Nat → Int64)) (o_speed : (Nat → Int32)) (hf : f_X1_copyFrom v_cells v_secrets v_pages v_blind v_rubs v_cellNames v_letters v_now_inOrder v_now_place v_now_ill v_now_shut v_now_turns v_now_madeInAll v_now_dots v_now_knows v_now_made v_now_order v_now_sixteenths v_now_stands v_now_used v_pageNames v_room v_rounds_present v_rounds_steps v_rounds_size v_rounds_code v_rounds_mate v_rounds_one v_rounds_other v_secretNames v_speed v_p1_cells v_p1_secrets v_p1_pages v_p1_blind v_p1_rubs v_p1_cellNames v_p1_letters v_p1_now_inOrder v_p1_now_place v_p1_now_ill v_p1_now_shut v_p1_now_turns v_p1_now_madeInAll v_p1_now_dots v_p1_now_knows v_p1_now_made v_p1_now_order v_p1_now_sixteenths v_p1_now_stands v_p1_now_used v_p1_pageNames v_p1_room v_p1_rounds_present v_p1_rounds_steps v_p1_rounds_size v_p1_rounds_code v_p1_rounds_mate v_p1_rounds_one v_p1_rounds_other v_p1_secretNames v_p1_speed = some (o_cells, o_secrets, o_pages, o_blind, o_rubs, o_cellNames, o_letters, o_now_inOrder, o_now_place, o_now_ill, o_now_shut, o_now_turns, o_now_madeInAll, o_now_dots, o_now_knows, o_now_made, o_now_order, o_now_sixteenths, o_now_stands, o_now_used, o_pageNames, o_room, o_rounds_present, o_rounds_steps, o_rounds_size, o_rounds_code, o_rounds_mate, o_rounds_one, o_rounds_other, o_secretNames, o_speed)) :
    mp_M l D T yX1_copyFrom cX1_copyFrom 2 none ({ frames := 2, cells := 0, slots := 0, locals := 61 }) 0 0 [.ref a_, .ref a_p1] (k_X1_copyFrom T a_ a_cellNames a_secretNames a_pageNames a_speed a_letters a_room a_now a_rounds a_now_order a_now_knows a_now_made a_now_sixteenths a_now_dots a_now_used a_now_stands a_rounds_code a_rounds_one a_rounds_other a_rounds_mate a_p1 a_p1_cellNames a_p1_secretNames a_p1_pageNames a_p1_speed a_p1_letters a_p1_room a_p1_now a_p1_rounds a_p1_now_order a_p1_now_knows a_p1_now_made a_p1_now_sixteenths a_p1_now_dots a_p1_now_used a_p1_now_stands a_p1_rounds_code a_p1_rounds_one a_p1_rounds_other a_p1_rounds_mate v_cells v_secrets v_pages v_blind v_rubs v_cellNames v_letters v_now_inOrder v_now_place v_now_ill v_now_shut v_now_turns v_now_madeInAll v_now_dots v_now_knows v_now_made v_now_order v_now_sixteenths v_now_stands v_now_used v_pageNames v_room v_rounds_present v_rounds_steps v_rounds_size v_rounds_code v_rounds_mate v_rounds_one v_rounds_other v_secretNames v_speed v_p1_cells v_p1_secrets v_p1_pages v_p1_blind v_p1_rubs v_p1_cellNames v_p1_letters v_p1_now_inOrder v_p1_now_place v_p1_now_ill v_p1_now_shut v_p1_now_turns v_p1_now_madeInAll v_p1_now_dots v_p1_now_knows v_p1_now_made v_p1_now_order v_p1_now_sixteenths v_p1_now_stands v_p1_now_used v_p1_pageNames v_p1_room v_p1_rounds_present v_p1_rounds_steps v_p1_rounds_size v_p1_rounds_code v_p1_rounds_mate v_p1_rounds_one v_p1_rounds_other v_p1_secretNames v_p1_speed) (mp_Qv D (k_X1_copyFrom T a_ a_cellNames a_secretNames a_pageNames a_speed a_letters a_room a_now a_rounds a_now_order a_now_knows a_now_made a_now_sixteenths a_now_dots a_now_used a_now_stands a_rounds_code a_rounds_one a_rounds_other a_rounds_mate a_p1 a_p1_cellNames a_p1_secretNames a_p1_pageNames a_p1_speed a_p1_letters a_p1_room a_p1_now a_p1_rounds a_p1_now_order a_p1_now_knows a_p1_now_made a_p1_now_sixteenths a_p1_now_dots a_p1_now_used a_p1_now_stands a_p1_rounds_code a_p1_rounds_one a_p1_rounds_other a_p1_rounds_mate o_cells o_secrets o_pages o_blind o_rubs o_cellNames o_letters o_now_inOrder o_now_place o_now_ill o_now_shut o_now_turns o_now_madeInAll o_now_dots o_now_knows o_now_made o_now_order o_now_sixteenths o_now_stands o_now_used o_pageNames o_room o_rounds_present o_rounds_steps o_rounds_size o_rounds_code o_rounds_mate o_rounds_one o_rounds_other o_secretNames o_speed v_p1_cells v_p1_secrets v_p1_pages v_p1_blind v_p1_rubs v_p1_cellNames v_p1_letters v_p1_now_inOrder v_p1_now_place v_p1_now_ill v_p1_now_shut v_p1_now_turns v_p1_now_madeInAll v_p1_now_dots v_p1_now_knows v_p1_now_made v_p1_now_order v_p1_now_sixteenths v_p1_now_stands v_p1_now_used v_p1_pageNames v_p1_room v_p1_rounds_present v_p1_rounds_steps v_p1_rounds_size v_p1_rounds_code v_p1_rounds_mate v_p1_rounds_one v_p1_rounds_other v_p1_secretNames v_p1_speed)) := by
  refine mp_of (by decide) (Nat.le_of_ble_eq_true rfl) rfl ?_
  intro p e s m args below meth c A ls X hK hP hD hS hA hl
  replace X : mp_X p s m meth c args RX1 "copyFrom" cX1_copyFrom 2 none := X
  have hx := X.1
  have hb := X.2.1
  have hml := X.2.2.1
  have hown := X.2.2.2.2.1
  have hts := X.2.2.2.2.2.1
  replace hl : lv_has ls 2 [(0, .ref a_), (1, .ref a_p1)] := hl
  replace hf : gc_ (nI 0) (nI 0) (nI 8) 8 8 (gc_ (nI 0) (nI 0) (nI 6) 6 6 (gc_ (nI 0) (nI 0) (nI 6) 6 6 (gc_ (nI 0) (nI 0) (nI 8) 8 8 (gc_ (nI 0) (nI 0) (nI 6) 6 6 (gc_ (nI 0) (nI 0) (nI 6) 6 6 (bd_ (f_X7_copyFrom v_now_inOrder v_now_place v_now_ill v_now_shut v_now_turns v_now_madeInAll v_now_dots v_now_knows v_now_made v_now_order v_now_sixteenths v_now_stands v_now_used v_p1_now_inOrder v_p1_now_place v_p1_now_ill v_p1_now_shut v_p1_now_turns v_p1_now_madeInAll v_p1_now_dots v_p1_now_knows v_p1_now_made v_p1_now_order v_p1_now_sixteenths v_p1_now_stands v_p1_now_used) (fun (z : Int32 × Int32 × Int32 × Int32 × Int32 × Int32 × (Nat → Int32) × (Nat → Int32) × (Nat → Int32) × (Nat → Int32) × (Nat → Int32) × (Nat → Int32) × (Nat → Int32)) => match z with | (u7, u8, u9, u10, u11, u12, u13, u14, u15, u16, u17, u18, u19) => bd_ (f_X5_copyFrom v_rounds_present v_rounds_steps v_rounds_size v_rounds_code v_rounds_mate v_rounds_one v_rounds_other v_p1_rounds_present v_p1_rounds_steps v_p1_rounds_size v_p1_rounds_code v_p1_rounds_mate v_p1_rounds_one v_p1_rounds_other) (fun (z : Int32 × Int32 × Int32 × (Nat → Int32) × (Nat → Int32) × (Nat → Int32) × (Nat → Int32)) => match z with | (u21, u22, u23, u24, u25, u26, u27) => some (v_p1_cells, v_p1_secrets, v_p1_pages, v_p1_blind, v_p1_rubs, va_cpy v_p1_cellNames v_cellNames ((nI 0)).toNatClampNeg ((nI 0)).toNatClampNeg ((nI 8)).toNatClampNeg, va_cpy v_p1_letters v_letters ((nI 0)).toNatClampNeg ((nI 0)).toNatClampNeg ((nI 6)).toNatClampNeg, u7, u8, u9, u10, u11, u12, u13, u14, u15, u16, u17, u18, u19, va_cpy v_p1_pageNames v_pageNames ((nI 0)).toNatClampNeg ((nI 0)).toNatClampNeg ((nI 6)).toNatClampNeg, va_cpy v_p1_room v_room ((nI 0)).toNatClampNeg ((nI 0)).toNatClampNeg ((nI 6)).toNatClampNeg, u21, u22, u23, u24, u25, u26, u27, va_cpy v_p1_secretNames v_secretNames ((nI 0)).toNatClampNeg ((nI 0)).toNatClampNeg ((nI 6)).toNatClampNeg, va_cpy v_p1_speed v_speed ((nI 0)).toNatClampNeg ((nI 0)).toNatClampNeg ((nI 8)).toNatClampNeg))))))))) = some (o_cells, o_secrets, o_pages, o_blind, o_rubs, o_cellNames, o_letters, o_now_inOrder, o_now_place, o_now_ill, o_now_shut, o_now_turns, o_now_madeInAll, o_now_dots, o_now_knows, o_now_made, o_now_order, o_now_sixteenths, o_now_stands, o_now_used, o_pageNames, o_room, o_rounds_present, o_rounds_steps, o_rounds_size, o_rounds_code, o_rounds_mate, o_rounds_one, o_rounds_other, o_secretNames, o_speed) := hf
  refine lv_aload_n hx hb dX1_copyFrom_0 rfl (lv_at hl 0 rfl) ?_
  refine lv_aload_n hx hb dX1_copyFrom_1 rfl (lv_at hl 1 rfl) ?_
  refine mp_get X fl_X1_9 hK hP 20 rfl rfl dX1_copyFrom_2 ?_
  refine mp_putf X fl_X1_9 fp_X1 rfl hK hP (mp_D_of hD rfl) hS 0 rfl rfl rfl (Nat.le_of_ble_eq_true rfl) dX1_copyFrom_5 (fun H locs hP _ hS => ?_)
  replace hP : va_P D mp_cl (k_X1_copyFrom T a_ a_cellNames a_secretNames a_pageNames a_speed a_letters a_room a_now a_rounds a_now_order a_now_knows a_now_made a_now_sixteenths a_now_dots a_now_used a_now_stands a_rounds_code a_rounds_one a_rounds_other a_rounds_mate a_p1 a_p1_cellNames a_p1_secretNames a_p1_pageNames a_p1_speed a_p1_letters a_p1_room a_p1_now a_p1_rounds a_p1_now_order a_p1_now_knows a_p1_now_made a_p1_now_sixteenths a_p1_now_dots a_p1_now_used a_p1_now_stands a_p1_rounds_code a_p1_rounds_one a_p1_rounds_other a_p1_rounds_mate v_p1_cells v_secrets v_pages v_blind v_rubs v_cellNames v_letters v_now_inOrder v_now_place v_now_ill v_now_shut v_now_turns v_now_madeInAll v_now_dots v_now_knows v_now_made v_now_order v_now_sixteenths v_now_stands v_now_used v_pageNames v_room v_rounds_present v_rounds_steps v_rounds_size v_rounds_code v_rounds_mate v_rounds_one v_rounds_other v_secretNames v_speed v_p1_cells v_p1_secrets v_p1_pages v_p1_blind v_p1_rubs v_p1_cellNames v_p1_letters v_p1_now_inOrder v_p1_now_place v_p1_now_ill v_p1_now_shut v_p1_now_turns v_p1_now_madeInAll v_p1_now_dots v_p1_now_knows v_p1_now_made v_p1_now_order v_p1_now_sixteenths v_p1_now_stands v_p1_now_used v_p1_pageNames v_p1_room v_p1_rounds_present v_p1_rounds_steps v_p1_rounds_size v_p1_rounds_code v_p1_rounds_mate v_p1_rounds_one v_p1_rounds_other v_p1_secretNames v_p1_speed) H := hP
  refine lv_aload_n hx hb dX1_copyFrom_8 rfl (lv_at hl 0 rfl) ?_
  refine lv_aload_n hx hb dX1_copyFrom_9 rfl (lv_at hl 1 rfl) ?_
  refine mp_get X fl_X1_15 hK hP 20 rfl rfl dX1_copyFrom_10 ?_
  refine mp_putf X fl_X1_15 fp_X1 rfl hK hP (mp_D_of hD rfl) hS 0 rfl rfl rfl (Nat.le_of_ble_eq_true rfl) dX1_copyFrom_13 (fun H locs hP _ hS => ?_)
  replace hP : va_P D mp_cl (k_X1_copyFrom T a_ a_cellNames a_secretNames a_pageNames a_speed a_letters a_room a_now a_rounds a_now_order a_now_knows a_now_made a_now_sixteenths a_now_dots a_now_used a_now_stands a_rounds_code a_rounds_one a_rounds_other a_rounds_mate a_p1 a_p1_cellNames a_p1_secretNames a_p1_pageNames a_p1_speed a_p1_letters a_p1_room a_p1_now a_p1_rounds a_p1_now_order a_p1_now_knows a_p1_now_made a_p1_now_sixteenths a_p1_now_dots a_p1_now_used a_p1_now_stands a_p1_rounds_code a_p1_rounds_one a_p1_rounds_other a_p1_rounds_mate v_p1_cells v_p1_secrets v_pages v_blind v_rubs v_cellNames v_letters v_now_inOrder v_now_place v_now_ill v_now_shut v_now_turns v_now_madeInAll v_now_dots v_now_knows v_now_made v_now_order v_now_sixteenths v_now_stands v_now_used v_pageNames v_room v_rounds_present v_rounds_steps v_rounds_size v_rounds_code v_rounds_mate v_rounds_one v_rounds_other v_secretNames v_speed v_p1_cells v_p1_secrets v_p1_pages v_p1_blind v_p1_rubs v_p1_cellNames v_p1_letters v_p1_now_inOrder v_p1_now_place v_p1_now_ill v_p1_now_shut v_p1_now_turns v_p1_now_madeInAll v_p1_now_dots v_p1_now_knows v_p1_now_made v_p1_now_order v_p1_now_sixteenths v_p1_now_stands v_p1_now_used v_p1_pageNames v_p1_room v_p1_rounds_present v_p1_rounds_steps v_p1_rounds_size v_p1_rounds_code v_p1_rounds_mate v_p1_rounds_one v_p1_rounds_other v_p1_secretNames v_p1_speed) H := hP
  refine lv_aload_n hx hb dX1_copyFrom_16 rfl (lv_at hl 0 rfl) ?_
  refine lv_aload_n hx hb dX1_copyFrom_17 rfl (lv_at hl 1 rfl) ?_
  refine mp_get X fl_X1_18 hK hP 20 rfl rfl dX1_copyFrom_18 ?_
  refine mp_putf X fl_X1_18 fp_X1 rfl hK hP (mp_D_of hD rfl) hS 0 rfl rfl rfl (Nat.le_of_ble_eq_true rfl) dX1_copyFrom_21 (fun H locs hP _ hS => ?_)
  replace hP : va_P D mp_cl (k_X1_copyFrom T a_ a_cellNames a_secretNames a_pageNames a_speed a_letters a_room a_now a_rounds a_now_order a_now_knows a_now_made a_now_sixteenths a_now_dots a_now_used a_now_stands a_rounds_code a_rounds_one a_rounds_other a_rounds_mate a_p1 a_p1_cellNames a_p1_secretNames a_p1_pageNames a_p1_speed a_p1_letters a_p1_room a_p1_now a_p1_rounds a_p1_now_order a_p1_now_knows a_p1_now_made a_p1_now_sixteenths a_p1_now_dots a_p1_now_used a_p1_now_stands a_p1_rounds_code a_p1_rounds_one a_p1_rounds_other a_p1_rounds_mate v_p1_cells v_p1_secrets v_p1_pages v_blind v_rubs v_cellNames v_letters v_now_inOrder v_now_place v_now_ill v_now_shut v_now_turns v_now_madeInAll v_now_dots v_now_knows v_now_made v_now_order v_now_sixteenths v_now_stands v_now_used v_pageNames v_room v_rounds_present v_rounds_steps v_rounds_size v_rounds_code v_rounds_mate v_rounds_one v_rounds_other v_secretNames v_speed v_p1_cells v_p1_secrets v_p1_pages v_p1_blind v_p1_rubs v_p1_cellNames v_p1_letters v_p1_now_inOrder v_p1_now_place v_p1_now_ill v_p1_now_shut v_p1_now_turns v_p1_now_madeInAll v_p1_now_dots v_p1_now_knows v_p1_now_made v_p1_now_order v_p1_now_sixteenths v_p1_now_stands v_p1_now_used v_p1_pageNames v_p1_room v_p1_rounds_present v_p1_rounds_steps v_p1_rounds_size v_p1_rounds_code v_p1_rounds_mate v_p1_rounds_one v_p1_rounds_other v_p1_secretNames v_p1_speed) H := hP
  refine lv_aload_n hx hb dX1_copyFrom_24 rfl (lv_at hl 0 rfl) ?_
  refine lv_aload_n hx hb dX1_copyFrom_25 rfl (lv_at hl 1 rfl) ?_
  refine mp_get X fl_X1_35 hK hP 20 rfl rfl dX1_copyFrom_26 ?_
  refine mp_putf X fl_X1_35 fp_X1 rfl hK hP (mp_D_of hD rfl) hS 0 rfl rfl rfl (Nat.le_of_ble_eq_true rfl) dX1_copyFrom_29 (fun H locs hP _ hS => ?_)
  replace hP : va_P D mp_cl (k_X1_copyFrom T a_ a_cellNames a_secretNames a_pageNames a_speed a_letters a_room a_now a_rounds a_now_order a_now_knows a_now_made a_now_sixteenths a_now_dots a_now_used a_now_stands a_rounds_code a_rounds_one a_rounds_other a_rounds_mate a_p1 a_p1_cellNames a_p1_secretNames a_p1_pageNames a_p1_speed a_p1_letters a_p1_room a_p1_now a_p1_rounds a_p1_now_order a_p1_now_knows a_p1_now_made a_p1_now_sixteenths a_p1_now_dots a_p1_now_used a_p1_now_stands a_p1_rounds_code a_p1_rounds_one a_p1_rounds_other a_p1_rounds_mate v_p1_cells v_p1_secrets v_p1_pages v_p1_blind v_rubs v_cellNames v_letters v_now_inOrder v_now_place v_now_ill v_now_shut v_now_turns v_now_madeInAll v_now_dots v_now_knows v_now_made v_now_order v_now_sixteenths v_now_stands v_now_used v_pageNames v_room v_rounds_present v_rounds_steps v_rounds_size v_rounds_code v_rounds_mate v_rounds_one v_rounds_other v_secretNames v_speed v_p1_cells v_p1_secrets v_p1_pages v_p1_blind v_p1_rubs v_p1_cellNames v_p1_letters v_p1_now_inOrder v_p1_now_place v_p1_now_ill v_p1_now_shut v_p1_now_turns v_p1_now_madeInAll v_p1_now_dots v_p1_now_knows v_p1_now_made v_p1_now_order v_p1_now_sixteenths v_p1_now_stands v_p1_now_used v_p1_pageNames v_p1_room v_p1_rounds_present v_p1_rounds_steps v_p1_rounds_size v_p1_rounds_code v_p1_rounds_mate v_p1_rounds_one v_p1_rounds_other v_p1_secretNames v_p1_speed) H := hP
  refine lv_aload_n hx hb dX1_copyFrom_32 rfl (lv_at hl 0 rfl) ?_
  refine lv_aload_n hx hb dX1_copyFrom_33 rfl (lv_at hl 1 rfl) ?_
  refine mp_get X fl_X1_38 hK hP 20 rfl rfl dX1_copyFrom_34 ?_
  refine mp_putf X fl_X1_38 fp_X1 rfl hK hP (mp_D_of hD rfl) hS 0 rfl rfl rfl (Nat.le_of_ble_eq_true rfl) dX1_copyFrom_37 (fun H locs hP _ hS => ?_)
  replace hP : va_P D mp_cl (k_X1_copyFrom T a_ a_cellNames a_secretNames a_pageNames a_speed a_letters a_room a_now a_rounds a_now_order a_now_knows a_now_made a_now_sixteenths a_now_dots a_now_used a_now_stands a_rounds_code a_rounds_one a_rounds_other a_rounds_mate a_p1 a_p1_cellNames a_p1_secretNames a_p1_pageNames a_p1_speed a_p1_letters a_p1_room a_p1_now a_p1_rounds a_p1_now_order a_p1_now_knows a_p1_now_made a_p1_now_sixteenths a_p1_now_dots a_p1_now_used a_p1_now_stands a_p1_rounds_code a_p1_rounds_one a_p1_rounds_other a_p1_rounds_mate v_p1_cells v_p1_secrets v_p1_pages v_p1_blind v_p1_rubs v_cellNames v_letters v_now_inOrder v_now_place v_now_ill v_now_shut v_now_turns v_now_madeInAll v_now_dots v_now_knows v_now_made v_now_order v_now_sixteenths v_now_stands v_now_used v_pageNames v_room v_rounds_present v_rounds_steps v_rounds_size v_rounds_code v_rounds_mate v_rounds_one v_rounds_other v_secretNames v_speed v_p1_cells v_p1_secrets v_p1_pages v_p1_blind v_p1_rubs v_p1_cellNames v_p1_letters v_p1_now_inOrder v_p1_now_place v_p1_now_ill v_p1_now_shut v_p1_now_turns v_p1_now_madeInAll v_p1_now_dots v_p1_now_knows v_p1_now_made v_p1_now_order v_p1_now_sixteenths v_p1_now_stands v_p1_now_used v_p1_pageNames v_p1_room v_p1_rounds_present v_p1_rounds_steps v_p1_rounds_size v_p1_rounds_code v_p1_rounds_mate v_p1_rounds_one v_p1_rounds_other v_p1_secretNames v_p1_speed) H := hP
  refine lv_aload_n hx hb dX1_copyFrom_40 rfl (lv_at hl 1 rfl) ?_
  refine mp_get X fl_X1_21 hK hP 20 rfl rfl dX1_copyFrom_41 ?_
  refine lv_iconst (v := (nI 0)) hx hb dX1_copyFrom_44 (by decide) ?_
  refine lv_aload_n hx hb dX1_copyFrom_45 rfl (lv_at hl 0 rfl) ?_
  refine mp_get X fl_X1_21 hK hP 0 rfl rfl dX1_copyFrom_46 ?_
  refine lv_iconst (v := (nI 0)) hx hb dX1_copyFrom_49 (by decide) ?_
  refine lv_bipush (v := (nI 8)) hx hb dX1_copyFrom_50 (by decide) ?_
  obtain ⟨h1, hf⟩ := gc_of hf
  refine va_copyl hx hb (hml.trans hl.1.symm) hown (hts _ lk_X1_65_ac) (hts _ ac_nat) (hts _ ac_stat) (hts _ ac_ini) hK hP (mp_D_of hD rfl) hS 21 1 1 1 rfl rfl rfl rfl rfl h1.1 h1.2.1 h1.2.2.1 h1.2.2.2.1 h1.2.2.2.2 (fun _ _ => rfl) (Nat.le_of_ble_eq_true rfl) (Nat.le_of_ble_eq_true rfl) dX1_copyFrom_52 (fun H locs hP _ hS => ?_)
  replace hP : va_P D mp_cl (k_X1_copyFrom T a_ a_cellNames a_secretNames a_pageNames a_speed a_letters a_room a_now a_rounds a_now_order a_now_knows a_now_made a_now_sixteenths a_now_dots a_now_used a_now_stands a_rounds_code a_rounds_one a_rounds_other a_rounds_mate a_p1 a_p1_cellNames a_p1_secretNames a_p1_pageNames a_p1_speed a_p1_letters a_p1_room a_p1_now a_p1_rounds a_p1_now_order a_p1_now_knows a_p1_now_made a_p1_now_sixteenths a_p1_now_dots a_p1_now_used a_p1_now_stands a_p1_rounds_code a_p1_rounds_one a_p1_rounds_other a_p1_rounds_mate v_p1_cells v_p1_secrets v_p1_pages v_p1_blind v_p1_rubs (va_cpy v_p1_cellNames v_cellNames ((nI 0)).toNatClampNeg ((nI 0)).toNatClampNeg ((nI 8)).toNatClampNeg) v_letters v_now_inOrder v_now_place v_now_ill v_now_shut v_now_turns v_now_madeInAll v_now_dots v_now_knows v_now_made v_now_order v_now_sixteenths v_now_stands v_now_used v_pageNames v_room v_rounds_present v_rounds_steps v_rounds_size v_rounds_code v_rounds_mate v_rounds_one v_rounds_other v_secretNames v_speed v_p1_cells v_p1_secrets v_p1_pages v_p1_blind v_p1_rubs v_p1_cellNames v_p1_letters v_p1_now_inOrder v_p1_now_place v_p1_now_ill v_p1_now_shut v_p1_now_turns v_p1_now_madeInAll v_p1_now_dots v_p1_now_knows v_p1_now_made v_p1_now_order v_p1_now_sixteenths v_p1_now_stands v_p1_now_used v_p1_pageNames v_p1_room v_p1_rounds_present v_p1_rounds_steps v_p1_rounds_size v_p1_rounds_code v_p1_rounds_mate v_p1_rounds_one v_p1_rounds_other v_p1_secretNames v_p1_speed) H := hP
  refine lv_aload_n hx hb dX1_copyFrom_55 rfl (lv_at hl 1 rfl) ?_
  refine mp_get X fl_X1_25 hK hP 20 rfl rfl dX1_copyFrom_56 ?_
  refine lv_iconst (v := (nI 0)) hx hb dX1_copyFrom_59 (by decide) ?_
  refine lv_aload_n hx hb dX1_copyFrom_60 rfl (lv_at hl 0 rfl) ?_
  refine mp_get X fl_X1_25 hK hP 0 rfl rfl dX1_copyFrom_61 ?_
  refine lv_iconst (v := (nI 0)) hx hb dX1_copyFrom_64 (by decide) ?_
  refine lv_bipush (v := (nI 6)) hx hb dX1_copyFrom_65 (by decide) ?_
  obtain ⟨h2, hf⟩ := gc_of hf
  refine va_copyl hx hb (hml.trans hl.1.symm) hown (hts _ lk_X1_65_ac) (hts _ ac_nat) (hts _ ac_stat) (hts _ ac_ini) hK hP (mp_D_of hD rfl) hS 38 18 1 1 rfl rfl rfl rfl rfl h2.1 h2.2.1 h2.2.2.1 h2.2.2.2.1 h2.2.2.2.2 (fun _ _ => rfl) (Nat.le_of_ble_eq_true rfl) (Nat.le_of_ble_eq_true rfl) dX1_copyFrom_67 (fun H locs hP _ hS => ?_)
  replace hP : va_P D mp_cl (k_X1_copyFrom T a_ a_cellNames a_secretNames a_pageNames a_speed a_letters a_room a_now a_rounds a_now_order a_now_knows a_now_made a_now_sixteenths a_now_dots a_now_used a_now_stands a_rounds_code a_rounds_one a_rounds_other a_rounds_mate a_p1 a_p1_cellNames a_p1_secretNames a_p1_pageNames a_p1_speed a_p1_letters a_p1_room a_p1_now a_p1_rounds a_p1_now_order a_p1_now_knows a_p1_now_made a_p1_now_sixteenths a_p1_now_dots a_p1_now_used a_p1_now_stands a_p1_rounds_code a_p1_rounds_one a_p1_rounds_other a_p1_rounds_mate v_p1_cells v_p1_secrets v_p1_pages v_p1_blind v_p1_rubs (va_cpy v_p1_cellNames v_cellNames ((nI 0)).toNatClampNeg ((nI 0)).toNatClampNeg ((nI 8)).toNatClampNeg) v_letters v_now_inOrder v_now_place v_now_ill v_now_shut v_now_turns v_now_madeInAll v_now_dots v_now_knows v_now_made v_now_order v_now_sixteenths v_now_stands v_now_used v_pageNames v_room v_rounds_present v_rounds_steps v_rounds_size v_rounds_code v_rounds_mate v_rounds_one v_rounds_other (va_cpy v_p1_secretNames v_secretNames ((nI 0)).toNatClampNeg ((nI 0)).toNatClampNeg ((nI 6)).toNatClampNeg) v_speed v_p1_cells v_p1_secrets v_p1_pages v_p1_blind v_p1_rubs v_p1_cellNames v_p1_letters v_p1_now_inOrder v_p1_now_place v_p1_now_ill v_p1_now_shut v_p1_now_turns v_p1_now_madeInAll v_p1_now_dots v_p1_now_knows v_p1_now_made v_p1_now_order v_p1_now_sixteenths v_p1_now_stands v_p1_now_used v_p1_pageNames v_p1_room v_p1_rounds_present v_p1_rounds_steps v_p1_rounds_size v_p1_rounds_code v_p1_rounds_mate v_p1_rounds_one v_p1_rounds_other v_p1_secretNames v_p1_speed) H := hP
  refine lv_aload_n hx hb dX1_copyFrom_70 rfl (lv_at hl 1 rfl) ?_
  refine mp_get X fl_X1_28 hK hP 20 rfl rfl dX1_copyFrom_71 ?_
  refine lv_iconst (v := (nI 0)) hx hb dX1_copyFrom_74 (by decide) ?_
  refine lv_aload_n hx hb dX1_copyFrom_75 rfl (lv_at hl 0 rfl) ?_
  refine mp_get X fl_X1_28 hK hP 0 rfl rfl dX1_copyFrom_76 ?_
  refine lv_iconst (v := (nI 0)) hx hb dX1_copyFrom_79 (by decide) ?_
  refine lv_bipush (v := (nI 6)) hx hb dX1_copyFrom_80 (by decide) ?_
  obtain ⟨h3, hf⟩ := gc_of hf
  refine va_copyl hx hb (hml.trans hl.1.symm) hown (hts _ lk_X1_65_ac) (hts _ ac_nat) (hts _ ac_stat) (hts _ ac_ini) hK hP (mp_D_of hD rfl) hS 31 11 1 1 rfl rfl rfl rfl rfl h3.1 h3.2.1 h3.2.2.1 h3.2.2.2.1 h3.2.2.2.2 (fun _ _ => rfl) (Nat.le_of_ble_eq_true rfl) (Nat.le_of_ble_eq_true rfl) dX1_copyFrom_82 (fun H locs hP _ hS => ?_)
  replace hP : va_P D mp_cl (k_X1_copyFrom T a_ a_cellNames a_secretNames a_pageNames a_speed a_letters a_room a_now a_rounds a_now_order a_now_knows a_now_made a_now_sixteenths a_now_dots a_now_used a_now_stands a_rounds_code a_rounds_one a_rounds_other a_rounds_mate a_p1 a_p1_cellNames a_p1_secretNames a_p1_pageNames a_p1_speed a_p1_letters a_p1_room a_p1_now a_p1_rounds a_p1_now_order a_p1_now_knows a_p1_now_made a_p1_now_sixteenths a_p1_now_dots a_p1_now_used a_p1_now_stands a_p1_rounds_code a_p1_rounds_one a_p1_rounds_other a_p1_rounds_mate v_p1_cells v_p1_secrets v_p1_pages v_p1_blind v_p1_rubs (va_cpy v_p1_cellNames v_cellNames ((nI 0)).toNatClampNeg ((nI 0)).toNatClampNeg ((nI 8)).toNatClampNeg) v_letters v_now_inOrder v_now_place v_now_ill v_now_shut v_now_turns v_now_madeInAll v_now_dots v_now_knows v_now_made v_now_order v_now_sixteenths v_now_stands v_now_used (va_cpy v_p1_pageNames v_pageNames ((nI 0)).toNatClampNeg ((nI 0)).toNatClampNeg ((nI 6)).toNatClampNeg) v_room v_rounds_present v_rounds_steps v_rounds_size v_rounds_code v_rounds_mate v_rounds_one v_rounds_other (va_cpy v_p1_secretNames v_secretNames ((nI 0)).toNatClampNeg ((nI 0)).toNatClampNeg ((nI 6)).toNatClampNeg) v_speed v_p1_cells v_p1_secrets v_p1_pages v_p1_blind v_p1_rubs v_p1_cellNames v_p1_letters v_p1_now_inOrder v_p1_now_place v_p1_now_ill v_p1_now_shut v_p1_now_turns v_p1_now_madeInAll v_p1_now_dots v_p1_now_knows v_p1_now_made v_p1_now_order v_p1_now_sixteenths v_p1_now_stands v_p1_now_used v_p1_pageNames v_p1_room v_p1_rounds_present v_p1_rounds_steps v_p1_rounds_size v_p1_rounds_code v_p1_rounds_mate v_p1_rounds_one v_p1_rounds_other v_p1_secretNames v_p1_speed) H := hP
  refine lv_aload_n hx hb dX1_copyFrom_85 rfl (lv_at hl 1 rfl) ?_
  refine mp_get X fl_X1_31 hK hP 20 rfl rfl dX1_copyFrom_86 ?_
  refine lv_iconst (v := (nI 0)) hx hb dX1_copyFrom_89 (by decide) ?_
  refine lv_aload_n hx hb dX1_copyFrom_90 rfl (lv_at hl 0 rfl) ?_
  refine mp_get X fl_X1_31 hK hP 0 rfl rfl dX1_copyFrom_91 ?_
  refine lv_iconst (v := (nI 0)) hx hb dX1_copyFrom_94 (by decide) ?_
  refine lv_bipush (v := (nI 8)) hx hb dX1_copyFrom_95 (by decide) ?_
  obtain ⟨h4, hf⟩ := gc_of hf
  refine va_copyi hx hb (hml.trans hl.1.symm) hown (hts _ lk_X1_65_ac) (hts _ ac_nat) (hts _ ac_stat) (hts _ ac_ini) hK hP (mp_D_of hD rfl) hS 39 19 0 0 rfl rfl rfl rfl rfl h4.1 h4.2.1 h4.2.2.1 h4.2.2.2.1 h4.2.2.2.2 (fun _ _ => rfl) (Nat.le_of_ble_eq_true rfl) (Nat.le_of_ble_eq_true rfl) dX1_copyFrom_97 (fun H locs hP _ hS => ?_)
  replace hP : va_P D mp_cl (k_X1_copyFrom T a_ a_cellNames a_secretNames a_pageNames a_speed a_letters a_room a_now a_rounds a_now_order a_now_knows a_now_made a_now_sixteenths a_now_dots a_now_used a_now_stands a_rounds_code a_rounds_one a_rounds_other a_rounds_mate a_p1 a_p1_cellNames a_p1_secretNames a_p1_pageNames a_p1_speed a_p1_letters a_p1_room a_p1_now a_p1_rounds a_p1_now_order a_p1_now_knows a_p1_now_made a_p1_now_sixteenths a_p1_now_dots a_p1_now_used a_p1_now_stands a_p1_rounds_code a_p1_rounds_one a_p1_rounds_other a_p1_rounds_mate v_p1_cells v_p1_secrets v_p1_pages v_p1_blind v_p1_rubs (va_cpy v_p1_cellNames v_cellNames ((nI 0)).toNatClampNeg ((nI 0)).toNatClampNeg ((nI 8)).toNatClampNeg) v_letters v_now_inOrder v_now_place v_now_ill v_now_shut v_now_turns v_now_madeInAll v_now_dots v_now_knows v_now_made v_now_order v_now_sixteenths v_now_stands v_now_used (va_cpy v_p1_pageNames v_pageNames ((nI 0)).toNatClampNeg ((nI 0)).toNatClampNeg ((nI 6)).toNatClampNeg) v_room v_rounds_present v_rounds_steps v_rounds_size v_rounds_code v_rounds_mate v_rounds_one v_rounds_other (va_cpy v_p1_secretNames v_secretNames ((nI 0)).toNatClampNeg ((nI 0)).toNatClampNeg ((nI 6)).toNatClampNeg) (va_cpy v_p1_speed v_speed ((nI 0)).toNatClampNeg ((nI 0)).toNatClampNeg ((nI 8)).toNatClampNeg) v_p1_cells v_p1_secrets v_p1_pages v_p1_blind v_p1_rubs v_p1_cellNames v_p1_letters v_p1_now_inOrder v_p1_now_place v_p1_now_ill v_p1_now_shut v_p1_now_turns v_p1_now_madeInAll v_p1_now_dots v_p1_now_knows v_p1_now_made v_p1_now_order v_p1_now_sixteenths v_p1_now_stands v_p1_now_used v_p1_pageNames v_p1_room v_p1_rounds_present v_p1_rounds_steps v_p1_rounds_size v_p1_rounds_code v_p1_rounds_mate v_p1_rounds_one v_p1_rounds_other v_p1_secretNames v_p1_speed) H := hP
  refine lv_aload_n hx hb dX1_copyFrom_100 rfl (lv_at hl 1 rfl) ?_
  refine mp_get X fl_X1_41 hK hP 20 rfl rfl dX1_copyFrom_101 ?_
  refine lv_iconst (v := (nI 0)) hx hb dX1_copyFrom_104 (by decide) ?_
  refine lv_aload_n hx hb dX1_copyFrom_105 rfl (lv_at hl 0 rfl) ?_
  refine mp_get X fl_X1_41 hK hP 0 rfl rfl dX1_copyFrom_106 ?_
  refine lv_iconst (v := (nI 0)) hx hb dX1_copyFrom_109 (by decide) ?_
  refine lv_bipush (v := (nI 6)) hx hb dX1_copyFrom_110 (by decide) ?_
  obtain ⟨h5, hf⟩ := gc_of hf
  refine va_copyi hx hb (hml.trans hl.1.symm) hown (hts _ lk_X1_65_ac) (hts _ ac_nat) (hts _ ac_stat) (hts _ ac_ini) hK hP (mp_D_of hD rfl) hS 22 2 0 0 rfl rfl rfl rfl rfl h5.1 h5.2.1 h5.2.2.1 h5.2.2.2.1 h5.2.2.2.2 (fun _ _ => rfl) (Nat.le_of_ble_eq_true rfl) (Nat.le_of_ble_eq_true rfl) dX1_copyFrom_112 (fun H locs hP _ hS => ?_)
  replace hP : va_P D mp_cl (k_X1_copyFrom T a_ a_cellNames a_secretNames a_pageNames a_speed a_letters a_room a_now a_rounds a_now_order a_now_knows a_now_made a_now_sixteenths a_now_dots a_now_used a_now_stands a_rounds_code a_rounds_one a_rounds_other a_rounds_mate a_p1 a_p1_cellNames a_p1_secretNames a_p1_pageNames a_p1_speed a_p1_letters a_p1_room a_p1_now a_p1_rounds a_p1_now_order a_p1_now_knows a_p1_now_made a_p1_now_sixteenths a_p1_now_dots a_p1_now_used a_p1_now_stands a_p1_rounds_code a_p1_rounds_one a_p1_rounds_other a_p1_rounds_mate v_p1_cells v_p1_secrets v_p1_pages v_p1_blind v_p1_rubs (va_cpy v_p1_cellNames v_cellNames ((nI 0)).toNatClampNeg ((nI 0)).toNatClampNeg ((nI 8)).toNatClampNeg) (va_cpy v_p1_letters v_letters ((nI 0)).toNatClampNeg ((nI 0)).toNatClampNeg ((nI 6)).toNatClampNeg) v_now_inOrder v_now_place v_now_ill v_now_shut v_now_turns v_now_madeInAll v_now_dots v_now_knows v_now_made v_now_order v_now_sixteenths v_now_stands v_now_used (va_cpy v_p1_pageNames v_pageNames ((nI 0)).toNatClampNeg ((nI 0)).toNatClampNeg ((nI 6)).toNatClampNeg) v_room v_rounds_present v_rounds_steps v_rounds_size v_rounds_code v_rounds_mate v_rounds_one v_rounds_other (va_cpy v_p1_secretNames v_secretNames ((nI 0)).toNatClampNeg ((nI 0)).toNatClampNeg ((nI 6)).toNatClampNeg) (va_cpy v_p1_speed v_speed ((nI 0)).toNatClampNeg ((nI 0)).toNatClampNeg ((nI 8)).toNatClampNeg) v_p1_cells v_p1_secrets v_p1_pages v_p1_blind v_p1_rubs v_p1_cellNames v_p1_letters v_p1_now_inOrder v_p1_now_place v_p1_now_ill v_p1_now_shut v_p1_now_turns v_p1_now_madeInAll v_p1_now_dots v_p1_now_knows v_p1_now_made v_p1_now_order v_p1_now_sixteenths v_p1_now_stands v_p1_now_used v_p1_pageNames v_p1_room v_p1_rounds_present v_p1_rounds_steps v_p1_rounds_size v_p1_rounds_code v_p1_rounds_mate v_p1_rounds_one v_p1_rounds_other v_p1_secretNames v_p1_speed) H := hP
  refine lv_aload_n hx hb dX1_copyFrom_115 rfl (lv_at hl 1 rfl) ?_
  refine mp_get X fl_X1_44 hK hP 20 rfl rfl dX1_copyFrom_116 ?_
  refine lv_iconst (v := (nI 0)) hx hb dX1_copyFrom_119 (by decide) ?_
  refine lv_aload_n hx hb dX1_copyFrom_120 rfl (lv_at hl 0 rfl) ?_
  refine mp_get X fl_X1_44 hK hP 0 rfl rfl dX1_copyFrom_121 ?_
  refine lv_iconst (v := (nI 0)) hx hb dX1_copyFrom_124 (by decide) ?_
  refine lv_bipush (v := (nI 6)) hx hb dX1_copyFrom_125 (by decide) ?_
  obtain ⟨h6, hf⟩ := gc_of hf
  refine va_copyi hx hb (hml.trans hl.1.symm) hown (hts _ lk_X1_65_ac) (hts _ ac_nat) (hts _ ac_stat) (hts _ ac_ini) hK hP (mp_D_of hD rfl) hS 32 12 0 0 rfl rfl rfl rfl rfl h6.1 h6.2.1 h6.2.2.1 h6.2.2.2.1 h6.2.2.2.2 (fun _ _ => rfl) (Nat.le_of_ble_eq_true rfl) (Nat.le_of_ble_eq_true rfl) dX1_copyFrom_127 (fun H locs hP _ hS => ?_)
  replace hP : va_P D mp_cl (k_X1_copyFrom T a_ a_cellNames a_secretNames a_pageNames a_speed a_letters a_room a_now a_rounds a_now_order a_now_knows a_now_made a_now_sixteenths a_now_dots a_now_used a_now_stands a_rounds_code a_rounds_one a_rounds_other a_rounds_mate a_p1 a_p1_cellNames a_p1_secretNames a_p1_pageNames a_p1_speed a_p1_letters a_p1_room a_p1_now a_p1_rounds a_p1_now_order a_p1_now_knows a_p1_now_made a_p1_now_sixteenths a_p1_now_dots a_p1_now_used a_p1_now_stands a_p1_rounds_code a_p1_rounds_one a_p1_rounds_other a_p1_rounds_mate v_p1_cells v_p1_secrets v_p1_pages v_p1_blind v_p1_rubs (va_cpy v_p1_cellNames v_cellNames ((nI 0)).toNatClampNeg ((nI 0)).toNatClampNeg ((nI 8)).toNatClampNeg) (va_cpy v_p1_letters v_letters ((nI 0)).toNatClampNeg ((nI 0)).toNatClampNeg ((nI 6)).toNatClampNeg) v_now_inOrder v_now_place v_now_ill v_now_shut v_now_turns v_now_madeInAll v_now_dots v_now_knows v_now_made v_now_order v_now_sixteenths v_now_stands v_now_used (va_cpy v_p1_pageNames v_pageNames ((nI 0)).toNatClampNeg ((nI 0)).toNatClampNeg ((nI 6)).toNatClampNeg) (va_cpy v_p1_room v_room ((nI 0)).toNatClampNeg ((nI 0)).toNatClampNeg ((nI 6)).toNatClampNeg) v_rounds_present v_rounds_steps v_rounds_size v_rounds_code v_rounds_mate v_rounds_one v_rounds_other (va_cpy v_p1_secretNames v_secretNames ((nI 0)).toNatClampNeg ((nI 0)).toNatClampNeg ((nI 6)).toNatClampNeg) (va_cpy v_p1_speed v_speed ((nI 0)).toNatClampNeg ((nI 0)).toNatClampNeg ((nI 8)).toNatClampNeg) v_p1_cells v_p1_secrets v_p1_pages v_p1_blind v_p1_rubs v_p1_cellNames v_p1_letters v_p1_now_inOrder v_p1_now_place v_p1_now_ill v_p1_now_shut v_p1_now_turns v_p1_now_madeInAll v_p1_now_dots v_p1_now_knows v_p1_now_made v_p1_now_order v_p1_now_sixteenths v_p1_now_stands v_p1_now_used v_p1_pageNames v_p1_room v_p1_rounds_present v_p1_rounds_steps v_p1_rounds_size v_p1_rounds_code v_p1_rounds_mate v_p1_rounds_one v_p1_rounds_other v_p1_secretNames v_p1_speed) H := hP
  refine lv_aload_n hx hb dX1_copyFrom_130 rfl (lv_at hl 0 rfl) ?_
  refine mp_get X fl_X1_50 hK hP 0 rfl rfl dX1_copyFrom_131 ?_
  refine lv_aload_n hx hb dX1_copyFrom_134 rfl (lv_at hl 1 rfl) ?_
  refine mp_get X fl_X1_50 hK hP 20 rfl rfl dX1_copyFrom_135 ?_
  obtain ⟨⟨u7, u8, u9, u10, u11, u12, u13, u14, u15, u16, u17, u18, u19⟩, c20, hf⟩ := bd_of hf
  dsimp only at hf
  have hPc := hP.sub (ws' := (k_X7_copyFrom T a_now a_now_order a_now_knows a_now_made a_now_sixteenths a_now_dots a_now_used a_now_stands a_p1_now a_p1_now_order a_p1_now_knows a_p1_now_made a_p1_now_sixteenths a_p1_now_dots a_p1_now_used a_p1_now_stands v_now_inOrder v_now_place v_now_ill v_now_shut v_now_turns v_now_madeInAll v_now_dots v_now_knows v_now_made v_now_order v_now_sixteenths v_now_stands v_now_used v_p1_now_inOrder v_p1_now_place v_p1_now_ill v_p1_now_shut v_p1_now_turns v_p1_now_madeInAll v_p1_now_dots v_p1_now_knows v_p1_now_made v_p1_now_order v_p1_now_sixteenths v_p1_now_stands v_p1_now_used)) [3, 4, 5, 6, 7, 8, 9, 10, 23, 24, 25, 26, 27, 28, 29, 30] rfl
  have hDc := (mp_D_of (w1 := (k_X1_copyFrom T a_ a_cellNames a_secretNames a_pageNames a_speed a_letters a_room a_now a_rounds a_now_order a_now_knows a_now_made a_now_sixteenths a_now_dots a_now_used a_now_stands a_rounds_code a_rounds_one a_rounds_other a_rounds_mate a_p1 a_p1_cellNames a_p1_secretNames a_p1_pageNames a_p1_speed a_p1_letters a_p1_room a_p1_now a_p1_rounds a_p1_now_order a_p1_now_knows a_p1_now_made a_p1_now_sixteenths a_p1_now_dots a_p1_now_used a_p1_now_stands a_p1_rounds_code a_p1_rounds_one a_p1_rounds_other a_p1_rounds_mate v_p1_cells v_p1_secrets v_p1_pages v_p1_blind v_p1_rubs (va_cpy v_p1_cellNames v_cellNames ((nI 0)).toNatClampNeg ((nI 0)).toNatClampNeg ((nI 8)).toNatClampNeg) (va_cpy v_p1_letters v_letters ((nI 0)).toNatClampNeg ((nI 0)).toNatClampNeg ((nI 6)).toNatClampNeg) v_now_inOrder v_now_place v_now_ill v_now_shut v_now_turns v_now_madeInAll v_now_dots v_now_knows v_now_made v_now_order v_now_sixteenths v_now_stands v_now_used (va_cpy v_p1_pageNames v_pageNames ((nI 0)).toNatClampNeg ((nI 0)).toNatClampNeg ((nI 6)).toNatClampNeg) (va_cpy v_p1_room v_room ((nI 0)).toNatClampNeg ((nI 0)).toNatClampNeg ((nI 6)).toNatClampNeg) v_rounds_present v_rounds_steps v_rounds_size v_rounds_code v_rounds_mate v_rounds_one v_rounds_other (va_cpy v_p1_secretNames v_secretNames ((nI 0)).toNatClampNeg ((nI 0)).toNatClampNeg ((nI 6)).toNatClampNeg) (va_cpy v_p1_speed v_speed ((nI 0)).toNatClampNeg ((nI 0)).toNatClampNeg ((nI 8)).toNatClampNeg) v_p1_cells v_p1_secrets v_p1_pages v_p1_blind v_p1_rubs v_p1_cellNames v_p1_letters v_p1_now_inOrder v_p1_now_place v_p1_now_ill v_p1_now_shut v_p1_now_turns v_p1_now_madeInAll v_p1_now_dots v_p1_now_knows v_p1_now_made v_p1_now_order v_p1_now_sixteenths v_p1_now_stands v_p1_now_used v_p1_pageNames v_p1_room v_p1_rounds_present v_p1_rounds_steps v_p1_rounds_size v_p1_rounds_code v_p1_rounds_mate v_p1_rounds_one v_p1_rounds_other v_p1_secretNames v_p1_speed)) hD rfl).sub (ws' := (k_X7_copyFrom T a_now a_now_order a_now_knows a_now_made a_now_sixteenths a_now_dots a_now_used a_now_stands a_p1_now a_p1_now_order a_p1_now_knows a_p1_now_made a_p1_now_sixteenths a_p1_now_dots a_p1_now_used a_p1_now_stands v_now_inOrder v_now_place v_now_ill v_now_shut v_now_turns v_now_madeInAll v_now_dots v_now_knows v_now_made v_now_order v_now_sixteenths v_now_stands v_now_used v_p1_now_inOrder v_p1_now_place v_p1_now_ill v_p1_now_shut v_p1_now_turns v_p1_now_madeInAll v_p1_now_dots v_p1_now_knows v_p1_now_made v_p1_now_order v_p1_now_sixteenths v_p1_now_stands v_p1_now_used)) [3, 4, 5, 6, 7, 8, 9, 10, 23, 24, 25, 26, 27, 28, 29, 30] rfl rfl
  refine mp_callv2 (isC := [3, 4, 5, 6, 7, 8, 9, 10, 23, 24, 25, 26, 27, 28, 29, 30]) (isO := [0, 1, 2, 11, 12, 13, 14, 15, 16, 17, 18, 19, 20, 21, 22, 31, 32, 33, 34, 35, 36, 37, 38, 39]) (wc := (k_X7_copyFrom T a_now a_now_order a_now_knows a_now_made a_now_sixteenths a_now_dots a_now_used a_now_stands a_p1_now a_p1_now_order a_p1_now_knows a_p1_now_made a_p1_now_sixteenths a_p1_now_dots a_p1_now_used a_p1_now_stands v_now_inOrder v_now_place v_now_ill v_now_shut v_now_turns v_now_madeInAll v_now_dots v_now_knows v_now_made v_now_order v_now_sixteenths v_now_stands v_now_used v_p1_now_inOrder v_p1_now_place v_p1_now_ill v_p1_now_shut v_p1_now_turns v_p1_now_madeInAll v_p1_now_dots v_p1_now_knows v_p1_now_made v_p1_now_order v_p1_now_sixteenths v_p1_now_stands v_p1_now_used)) (w1 := (k_X7_copyFrom T a_now a_now_order a_now_knows a_now_made a_now_sixteenths a_now_dots a_now_used a_now_stands a_p1_now a_p1_now_order a_p1_now_knows a_p1_now_made a_p1_now_sixteenths a_p1_now_dots a_p1_now_used a_p1_now_stands u7 u8 u9 u10 u11 u12 u13 u14 u15 u16 u17 u18 u19 v_p1_now_inOrder v_p1_now_place v_p1_now_ill v_p1_now_shut v_p1_now_turns v_p1_now_madeInAll v_p1_now_dots v_p1_now_knows v_p1_now_made v_p1_now_order v_p1_now_sixteenths v_p1_now_stands v_p1_now_used)) (wo := [(a_, oX1 v_p1_cells v_p1_secrets v_p1_pages a_cellNames a_secretNames a_pageNames a_speed v_p1_blind v_p1_rubs a_letters a_room a_now a_rounds), (a_cellNames, mp_aJ T 8 (va_cpy v_p1_cellNames v_cellNames ((nI 0)).toNatClampNeg ((nI 0)).toNatClampNeg ((nI 8)).toNatClampNeg)), (a_letters, mp_aI T 6 (va_cpy v_p1_letters v_letters ((nI 0)).toNatClampNeg ((nI 0)).toNatClampNeg ((nI 6)).toNatClampNeg)), (a_pageNames, mp_aJ T 6 (va_cpy v_p1_pageNames v_pageNames ((nI 0)).toNatClampNeg ((nI 0)).toNatClampNeg ((nI 6)).toNatClampNeg)), (a_room, mp_aI T 6 (va_cpy v_p1_room v_room ((nI 0)).toNatClampNeg ((nI 0)).toNatClampNeg ((nI 6)).toNatClampNeg)), (a_rounds, oX5 v_rounds_present v_rounds_steps v_rounds_size a_rounds_code a_rounds_one a_rounds_other a_rounds_mate), (a_rounds_code, mp_aI T 60 v_rounds_code), (a_rounds_mate, mp_aI T 60 v_rounds_mate), (a_rounds_one, mp_aI T 60 v_rounds_one), (a_rounds_other, mp_aI T 60 v_rounds_other), (a_secretNames, mp_aJ T 6 (va_cpy v_p1_secretNames v_secretNames ((nI 0)).toNatClampNeg ((nI 0)).toNatClampNeg ((nI 6)).toNatClampNeg)), (a_speed, mp_aI T 8 (va_cpy v_p1_speed v_speed ((nI 0)).toNatClampNeg ((nI 0)).toNatClampNeg ((nI 8)).toNatClampNeg)), (a_p1, oX1 v_p1_cells v_p1_secrets v_p1_pages a_p1_cellNames a_p1_secretNames a_p1_pageNames a_p1_speed v_p1_blind v_p1_rubs a_p1_letters a_p1_room a_p1_now a_p1_rounds), (a_p1_cellNames, mp_aJ T 8 v_p1_cellNames), (a_p1_letters, mp_aI T 6 v_p1_letters), (a_p1_pageNames, mp_aJ T 6 v_p1_pageNames), (a_p1_room, mp_aI T 6 v_p1_room), (a_p1_rounds, oX5 v_p1_rounds_present v_p1_rounds_steps v_p1_rounds_size a_p1_rounds_code a_p1_rounds_one a_p1_rounds_other a_p1_rounds_mate), (a_p1_rounds_code, mp_aI T 60 v_p1_rounds_code), (a_p1_rounds_mate, mp_aI T 60 v_p1_rounds_mate), (a_p1_rounds_one, mp_aI T 60 v_p1_rounds_one), (a_p1_rounds_other, mp_aI T 60 v_p1_rounds_other), (a_p1_secretNames, mp_aJ T 6 v_p1_secretNames), (a_p1_speed, mp_aI T 8 v_p1_speed)]) (w2 := (k_X1_copyFrom T a_ a_cellNames a_secretNames a_pageNames a_speed a_letters a_room a_now a_rounds a_now_order a_now_knows a_now_made a_now_sixteenths a_now_dots a_now_used a_now_stands a_rounds_code a_rounds_one a_rounds_other a_rounds_mate a_p1 a_p1_cellNames a_p1_secretNames a_p1_pageNames a_p1_speed a_p1_letters a_p1_room a_p1_now a_p1_rounds a_p1_now_order a_p1_now_knows a_p1_now_made a_p1_now_sixteenths a_p1_now_dots a_p1_now_used a_p1_now_stands a_p1_rounds_code a_p1_rounds_one a_p1_rounds_other a_p1_rounds_mate v_p1_cells v_p1_secrets v_p1_pages v_p1_blind v_p1_rubs (va_cpy v_p1_cellNames v_cellNames ((nI 0)).toNatClampNeg ((nI 0)).toNatClampNeg ((nI 8)).toNatClampNeg) (va_cpy v_p1_letters v_letters ((nI 0)).toNatClampNeg ((nI 0)).toNatClampNeg ((nI 6)).toNatClampNeg) u7 u8 u9 u10 u11 u12 u13 u14 u15 u16 u17 u18 u19 (va_cpy v_p1_pageNames v_pageNames ((nI 0)).toNatClampNeg ((nI 0)).toNatClampNeg ((nI 6)).toNatClampNeg) (va_cpy v_p1_room v_room ((nI 0)).toNatClampNeg ((nI 0)).toNatClampNeg ((nI 6)).toNatClampNeg) v_rounds_present v_rounds_steps v_rounds_size v_rounds_code v_rounds_mate v_rounds_one v_rounds_other (va_cpy v_p1_secretNames v_secretNames ((nI 0)).toNatClampNeg ((nI 0)).toNatClampNeg ((nI 6)).toNatClampNeg) (va_cpy v_p1_speed v_speed ((nI 0)).toNatClampNeg ((nI 0)).toNatClampNeg ((nI 8)).toNatClampNeg) v_p1_cells v_p1_secrets v_p1_pages v_p1_blind v_p1_rubs v_p1_cellNames v_p1_letters v_p1_now_inOrder v_p1_now_place v_p1_now_ill v_p1_now_shut v_p1_now_turns v_p1_now_madeInAll v_p1_now_dots v_p1_now_knows v_p1_now_made v_p1_now_order v_p1_now_sixteenths v_p1_now_stands v_p1_now_used v_p1_pageNames v_p1_room v_p1_rounds_present v_p1_rounds_steps v_p1_rounds_size v_p1_rounds_code v_p1_rounds_mate v_p1_rounds_one v_p1_rounds_other v_p1_secretNames v_p1_speed)) (n := 40) hP (mp_D_of hD rfl) hS hA rfl rfl rfl rfl rfl rfl (by decide +kernel) (mp_runV (As := [.ref a_p1_now]) (rest := []) X me_X7_copyFrom lk_X1_71 (c_X7_copyFrom l D T a_now a_now_order a_now_knows a_now_made a_now_sixteenths a_now_dots a_now_used a_now_stands a_p1_now a_p1_now_order a_p1_now_knows a_p1_now_made a_p1_now_sixteenths a_p1_now_dots a_p1_now_used a_p1_now_stands v_now_inOrder v_now_place v_now_ill v_now_shut v_now_turns v_now_madeInAll v_now_dots v_now_knows v_now_made v_now_order v_now_sixteenths v_now_stands v_now_used v_p1_now_inOrder v_p1_now_place v_p1_now_ill v_p1_now_shut v_p1_now_turns v_p1_now_madeInAll v_p1_now_dots v_p1_now_knows v_p1_now_made v_p1_now_order v_p1_now_sixteenths v_p1_now_stands v_p1_now_used u7 u8 u9 u10 u11 u12 u13 u14 u15 u16 u17 u18 u19 c20) rfl rfl ⟨(Nat.le_of_ble_eq_true rfl), (Nat.le_of_ble_eq_true rfl)⟩ hK hPc hDc rfl rfl rfl rfl hl.1 rfl (Nat.le_of_ble_eq_true rfl) dX1_copyFrom_138 ⟨Nat.zero_le _, Nat.zero_le _⟩) (fun H locs hP _ hS => ?_)
  refine lv_aload_n hx hb dX1_copyFrom_141 rfl (lv_at hl 0 rfl) ?_
  refine mp_get X fl_X1_57 hK hP 0 rfl rfl dX1_copyFrom_142 ?_
  refine lv_aload_n hx hb dX1_copyFrom_145 rfl (lv_at hl 1 rfl) ?_
  refine mp_get X fl_X1_57 hK hP 20 rfl rfl dX1_copyFrom_146 ?_
  obtain ⟨⟨u21, u22, u23, u24, u25, u26, u27⟩, c28, hf⟩ := bd_of hf
  dsimp only at hf
  have hPc := hP.sub (ws' := (k_X5_copyFrom T a_rounds a_rounds_code a_rounds_one a_rounds_other a_rounds_mate a_p1_rounds a_p1_rounds_code a_p1_rounds_one a_p1_rounds_other a_p1_rounds_mate v_rounds_present v_rounds_steps v_rounds_size v_rounds_code v_rounds_mate v_rounds_one v_rounds_other v_p1_rounds_present v_p1_rounds_steps v_p1_rounds_size v_p1_rounds_code v_p1_rounds_mate v_p1_rounds_one v_p1_rounds_other)) [13, 14, 15, 16, 17, 33, 34, 35, 36, 37] rfl
  have hDc := (mp_D_of (w1 := (k_X1_copyFrom T a_ a_cellNames a_secretNames a_pageNames a_speed a_letters a_room a_now a_rounds a_now_order a_now_knows a_now_made a_now_sixteenths a_now_dots a_now_used a_now_stands a_rounds_code a_rounds_one a_rounds_other a_rounds_mate a_p1 a_p1_cellNames a_p1_secretNames a_p1_pageNames a_p1_speed a_p1_letters a_p1_room a_p1_now a_p1_rounds a_p1_now_order a_p1_now_knows a_p1_now_made a_p1_now_sixteenths a_p1_now_dots a_p1_now_used a_p1_now_stands a_p1_rounds_code a_p1_rounds_one a_p1_rounds_other a_p1_rounds_mate v_p1_cells v_p1_secrets v_p1_pages v_p1_blind v_p1_rubs (va_cpy v_p1_cellNames v_cellNames ((nI 0)).toNatClampNeg ((nI 0)).toNatClampNeg ((nI 8)).toNatClampNeg) (va_cpy v_p1_letters v_letters ((nI 0)).toNatClampNeg ((nI 0)).toNatClampNeg ((nI 6)).toNatClampNeg) u7 u8 u9 u10 u11 u12 u13 u14 u15 u16 u17 u18 u19 (va_cpy v_p1_pageNames v_pageNames ((nI 0)).toNatClampNeg ((nI 0)).toNatClampNeg ((nI 6)).toNatClampNeg) (va_cpy v_p1_room v_room ((nI 0)).toNatClampNeg ((nI 0)).toNatClampNeg ((nI 6)).toNatClampNeg) v_rounds_present v_rounds_steps v_rounds_size v_rounds_code v_rounds_mate v_rounds_one v_rounds_other (va_cpy v_p1_secretNames v_secretNames ((nI 0)).toNatClampNeg ((nI 0)).toNatClampNeg ((nI 6)).toNatClampNeg) (va_cpy v_p1_speed v_speed ((nI 0)).toNatClampNeg ((nI 0)).toNatClampNeg ((nI 8)).toNatClampNeg) v_p1_cells v_p1_secrets v_p1_pages v_p1_blind v_p1_rubs v_p1_cellNames v_p1_letters v_p1_now_inOrder v_p1_now_place v_p1_now_ill v_p1_now_shut v_p1_now_turns v_p1_now_madeInAll v_p1_now_dots v_p1_now_knows v_p1_now_made v_p1_now_order v_p1_now_sixteenths v_p1_now_stands v_p1_now_used v_p1_pageNames v_p1_room v_p1_rounds_present v_p1_rounds_steps v_p1_rounds_size v_p1_rounds_code v_p1_rounds_mate v_p1_rounds_one v_p1_rounds_other v_p1_secretNames v_p1_speed)) hD rfl).sub (ws' := (k_X5_copyFrom T a_rounds a_rounds_code a_rounds_one a_rounds_other a_rounds_mate a_p1_rounds a_p1_rounds_code a_p1_rounds_one a_p1_rounds_other a_p1_rounds_mate v_rounds_present v_rounds_steps v_rounds_size v_rounds_code v_rounds_mate v_rounds_one v_rounds_other v_p1_rounds_present v_p1_rounds_steps v_p1_rounds_size v_p1_rounds_code v_p1_rounds_mate v_p1_rounds_one v_p1_rounds_other)) [13, 14, 15, 16, 17, 33, 34, 35, 36, 37] rfl rfl
  refine mp_callv2 (isC := [13, 14, 15, 16, 17, 33, 34, 35, 36, 37]) (isO := [0, 1, 2, 3, 4, 5, 6, 7, 8, 9, 10, 11, 12, 18, 19, 20, 21, 22, 23, 24, 25, 26, 27, 28, 29, 30, 31, 32, 38, 39]) (wc := (k_X5_copyFrom T a_rounds a_rounds_code a_rounds_one a_rounds_other a_rounds_mate a_p1_rounds a_p1_rounds_code a_p1_rounds_one a_p1_rounds_other a_p1_rounds_mate v_rounds_present v_rounds_steps v_rounds_size v_rounds_code v_rounds_mate v_rounds_one v_rounds_other v_p1_rounds_present v_p1_rounds_steps v_p1_rounds_size v_p1_rounds_code v_p1_rounds_mate v_p1_rounds_one v_p1_rounds_other)) (w1 := (k_X5_copyFrom T a_rounds a_rounds_code a_rounds_one a_rounds_other a_rounds_mate a_p1_rounds a_p1_rounds_code a_p1_rounds_one a_p1_rounds_other a_p1_rounds_mate u21 u22 u23 u24 u25 u26 u27 v_p1_rounds_present v_p1_rounds_steps v_p1_rounds_size v_p1_rounds_code v_p1_rounds_mate v_p1_rounds_one v_p1_rounds_other)) (wo := [(a_, oX1 v_p1_cells v_p1_secrets v_p1_pages a_cellNames a_secretNames a_pageNames a_speed v_p1_blind v_p1_rubs a_letters a_room a_now a_rounds), (a_cellNames, mp_aJ T 8 (va_cpy v_p1_cellNames v_cellNames ((nI 0)).toNatClampNeg ((nI 0)).toNatClampNeg ((nI 8)).toNatClampNeg)), (a_letters, mp_aI T 6 (va_cpy v_p1_letters v_letters ((nI 0)).toNatClampNeg ((nI 0)).toNatClampNeg ((nI 6)).toNatClampNeg)), (a_now, oX7 a_now_order u7 u8 a_now_knows a_now_made a_now_sixteenths a_now_dots a_now_used a_now_stands u9 u10 u11 u12), (a_now_dots, mp_aI T 36 u13), (a_now_knows, mp_aI T 8 u14), (a_now_made, mp_aI T 8 u15), (a_now_order, mp_aI T 8 u16), (a_now_sixteenths, mp_aI T 6 u17), (a_now_stands, mp_aI T 6 u18), (a_now_used, mp_aI T 6 u19), (a_pageNames, mp_aJ T 6 (va_cpy v_p1_pageNames v_pageNames ((nI 0)).toNatClampNeg ((nI 0)).toNatClampNeg ((nI 6)).toNatClampNeg)), (a_room, mp_aI T 6 (va_cpy v_p1_room v_room ((nI 0)).toNatClampNeg ((nI 0)).toNatClampNeg ((nI 6)).toNatClampNeg)), (a_secretNames, mp_aJ T 6 (va_cpy v_p1_secretNames v_secretNames ((nI 0)).toNatClampNeg ((nI 0)).toNatClampNeg ((nI 6)).toNatClampNeg)), (a_speed, mp_aI T 8 (va_cpy v_p1_speed v_speed ((nI 0)).toNatClampNeg ((nI 0)).toNatClampNeg ((nI 8)).toNatClampNeg)), (a_p1, oX1 v_p1_cells v_p1_secrets v_p1_pages a_p1_cellNames a_p1_secretNames a_p1_pageNames a_p1_speed v_p1_blind v_p1_rubs a_p1_letters a_p1_room a_p1_now a_p1_rounds), (a_p1_cellNames, mp_aJ T 8 v_p1_cellNames), (a_p1_letters, mp_aI T 6 v_p1_letters), (a_p1_now, oX7 a_p1_now_order v_p1_now_inOrder v_p1_now_place a_p1_now_knows a_p1_now_made a_p1_now_sixteenths a_p1_now_dots a_p1_now_used a_p1_now_stands v_p1_now_ill v_p1_now_shut v_p1_now_turns v_p1_now_madeInAll), (a_p1_now_dots, mp_aI T 36 v_p1_now_dots), (a_p1_now_knows, mp_aI T 8 v_p1_now_knows), (a_p1_now_made, mp_aI T 8 v_p1_now_made), (a_p1_now_order, mp_aI T 8 v_p1_now_order), (a_p1_now_sixteenths, mp_aI T 6 v_p1_now_sixteenths), (a_p1_now_stands, mp_aI T 6 v_p1_now_stands), (a_p1_now_used, mp_aI T 6 v_p1_now_used), (a_p1_pageNames, mp_aJ T 6 v_p1_pageNames), (a_p1_room, mp_aI T 6 v_p1_room), (a_p1_secretNames, mp_aJ T 6 v_p1_secretNames), (a_p1_speed, mp_aI T 8 v_p1_speed)]) (w2 := (k_X1_copyFrom T a_ a_cellNames a_secretNames a_pageNames a_speed a_letters a_room a_now a_rounds a_now_order a_now_knows a_now_made a_now_sixteenths a_now_dots a_now_used a_now_stands a_rounds_code a_rounds_one a_rounds_other a_rounds_mate a_p1 a_p1_cellNames a_p1_secretNames a_p1_pageNames a_p1_speed a_p1_letters a_p1_room a_p1_now a_p1_rounds a_p1_now_order a_p1_now_knows a_p1_now_made a_p1_now_sixteenths a_p1_now_dots a_p1_now_used a_p1_now_stands a_p1_rounds_code a_p1_rounds_one a_p1_rounds_other a_p1_rounds_mate v_p1_cells v_p1_secrets v_p1_pages v_p1_blind v_p1_rubs (va_cpy v_p1_cellNames v_cellNames ((nI 0)).toNatClampNeg ((nI 0)).toNatClampNeg ((nI 8)).toNatClampNeg) (va_cpy v_p1_letters v_letters ((nI 0)).toNatClampNeg ((nI 0)).toNatClampNeg ((nI 6)).toNatClampNeg) u7 u8 u9 u10 u11 u12 u13 u14 u15 u16 u17 u18 u19 (va_cpy v_p1_pageNames v_pageNames ((nI 0)).toNatClampNeg ((nI 0)).toNatClampNeg ((nI 6)).toNatClampNeg) (va_cpy v_p1_room v_room ((nI 0)).toNatClampNeg ((nI 0)).toNatClampNeg ((nI 6)).toNatClampNeg) u21 u22 u23 u24 u25 u26 u27 (va_cpy v_p1_secretNames v_secretNames ((nI 0)).toNatClampNeg ((nI 0)).toNatClampNeg ((nI 6)).toNatClampNeg) (va_cpy v_p1_speed v_speed ((nI 0)).toNatClampNeg ((nI 0)).toNatClampNeg ((nI 8)).toNatClampNeg) v_p1_cells v_p1_secrets v_p1_pages v_p1_blind v_p1_rubs v_p1_cellNames v_p1_letters v_p1_now_inOrder v_p1_now_place v_p1_now_ill v_p1_now_shut v_p1_now_turns v_p1_now_madeInAll v_p1_now_dots v_p1_now_knows v_p1_now_made v_p1_now_order v_p1_now_sixteenths v_p1_now_stands v_p1_now_used v_p1_pageNames v_p1_room v_p1_rounds_present v_p1_rounds_steps v_p1_rounds_size v_p1_rounds_code v_p1_rounds_mate v_p1_rounds_one v_p1_rounds_other v_p1_secretNames v_p1_speed)) (n := 40) hP (mp_D_of hD rfl) hS hA rfl rfl rfl rfl rfl rfl (by decide +kernel) (mp_runV (As := [.ref a_p1_rounds]) (rest := []) X me_X5_copyFrom lk_X1_75 (c_X5_copyFrom l D T a_rounds a_rounds_code a_rounds_one a_rounds_other a_rounds_mate a_p1_rounds a_p1_rounds_code a_p1_rounds_one a_p1_rounds_other a_p1_rounds_mate v_rounds_present v_rounds_steps v_rounds_size v_rounds_code v_rounds_mate v_rounds_one v_rounds_other v_p1_rounds_present v_p1_rounds_steps v_p1_rounds_size v_p1_rounds_code v_p1_rounds_mate v_p1_rounds_one v_p1_rounds_other u21 u22 u23 u24 u25 u26 u27 c28) rfl rfl ⟨(Nat.le_of_ble_eq_true rfl), (Nat.le_of_ble_eq_true rfl)⟩ hK hPc hDc rfl rfl rfl rfl hl.1 rfl (Nat.le_of_ble_eq_true rfl) dX1_copyFrom_149 ⟨Nat.zero_le _, Nat.zero_le _⟩) (fun H locs hP _ hS => ?_)
  cases hf
  exact mp_retv X hP hS dX1_copyFrom_152


def k_X1_indexOf (T : Nat → ClassId) (a_p1 : Nat) (n1 : Nat) (v_p1 : (Nat → Int64)) : va_W := [(a_p1, mp_aJ T n1 v_p1)]
set_option maxHeartbeats 4000000 in
set_option maxRecDepth 100000 in
theorem w_X1_indexOf_3 {p : Program} {l : Launch} {e : Env} {s : State} {m : MethodId} {args : Array Value} {below : List Frame} {meth : Method} {c : Code} {D : va_G} {T : Nat → ClassId} {A : Nat → Prop} (X : mp_X p s m meth c args RX1 "indexOf" cX1_indexOf 5 (some .int)) (hK : va_K D mp_cl (mp_ty T) s) (hA : ∀ q, s.heap.size ≤ q → A q) (fu : Nat) (a_p1 : Nat) (n1 : Nat) (v_p1 : (Nat → Int64)) (r_ : Int32) :
    ∀ (n : Nat) (z1 : Int32) (z2 : Int64) (z4 : Int32), f_X1_indexOf_3 fu n1 v_p1  n z1 z2 z4 = some r_ → ∀ (H : Heap) (locs : List Loc) (ls : Array Slot), va_P D mp_cl (k_X1_indexOf T a_p1 n1 v_p1) H → va_D A (k_X1_indexOf T a_p1 n1 v_p1) → va_S A s.heap H locs → lv_has ls 5 [(0, .ref a_p1), (1, .int z1), (2, .long z2), (4, .int z4)] → W p l e ({ frames := 0, cells := 0, slots := 0, locals := 0 }) s m args below meth c H locs 0 0 (MQ below ((mp_Qi D r_ (k_X1_indexOf T a_p1 n1 v_p1)) A) args s 0 0 A) (F0 m 3 ls []) := by
  have hx := X.1
  have hb := X.2.1
  have hml := X.2.2.1
  have hown := X.2.2.2.2.1
  have hts := X.2.2.2.2.2.1
  intro n
  induction n with
  | zero => intro z1 z2 z4 hf; exact absurd hf (by intro h; cases h)
  | succ n ih =>
    intro z1 z2 z4 hf H locs ls hP hD hS hl
    replace hf : (if z1 ≤ z4 then some ((-1 : Int32)) else gi_ z4 n1 ((if (lg_cmp (v_p1 (z4).toNatClampNeg) z2) = 0 then some (z4) else lt_ (z4 + (nI 1)) (fun (y4 : Int32) => f_X1_indexOf_3 fu n1 v_p1  n z1 z2 y4)))) = some r_ := hf
    refine lv_iload hx hb dX1_indexOf_3 (lv_at hl 3 rfl) ?_
    refine lv_iload_n hx hb dX1_indexOf_5 rfl (lv_at hl 1 rfl) ?_
    refine lv_icmp_ge (tgt := 27) hx hb dX1_indexOf_6 (by decide) (fun h1 => ?_) (fun h1 => ?_)
    · replace hf := if_t hf h1
      refine lv_iconst (v := (-1 : Int32)) hx hb dX1_indexOf_27 (by decide) ?_
      cases hf
      exact mp_reti X hP hS rfl dX1_indexOf_28
    · replace hf := if_f hf h1
      refine lv_aload_n hx hb dX1_indexOf_9 rfl (lv_at hl 0 rfl) ?_
      refine lv_iload hx hb dX1_indexOf_10 (lv_at hl 3 rfl) ?_
      obtain ⟨h2, hf⟩ := gi_of hf
      refine va_lald hx hb hK hP 0 1 rfl rfl h2 dX1_indexOf_12 ?_
      refine lv_lload_n hx hb dX1_indexOf_13 rfl (lv_at hl 2 rfl) ?_
      refine W.lcmp hx hb dX1_indexOf_14 ?_
      refine lv_if_ne (tgt := 21) hx hb dX1_indexOf_15 (by decide) (fun h3 => ?_) (fun h3 => ?_)
      · replace hf := if_f hf h3
        obtain ⟨y4, e4⟩ : ∃ y : Int32, y = z4 + (nI 1) := ⟨_, rfl⟩
        replace hf := lt_of e4 hf
        refine lv_iinc (v := y4) (lv' := [(4, .int y4), (0, .ref a_p1), (1, .int z1), (2, .long z2)]) hx hb dX1_indexOf_21 hl (k := 3) rfl (by rw [e4]; rfl) (by decide) rfl (fun ls hl => ?_)
        refine lv_goto (tgt := 3) hx hb dX1_indexOf_24 (by decide) ?_
        exact ih z1 z2 y4 hf _ _ _ hP (mp_D_of hD rfl) hS (lv_sub hl [1, 2, 3, 0] rfl)
      · replace hf := if_t hf h3
        refine lv_iload hx hb dX1_indexOf_18 (lv_at hl 3 rfl) ?_
        cases hf
        exact mp_reti X hP hS rfl dX1_indexOf_20

set_option maxHeartbeats 4000000 in
set_option maxRecDepth 100000 in
theorem c_X1_indexOf (l : Launch) (D : va_G) (T : Nat → ClassId) (fu : Nat) (a_p1 : Nat) (n1 : Nat) (x2 : Int32) (x3 : Int64) (v_p1 : (Nat → Int64)) (r_ : Int32) (hf : f_X1_indexOf fu n1 x2 x3 v_p1 = some r_) :
    mp_M l D T yX1_indexOf cX1_indexOf 5 (some .int) ({ frames := 0, cells := 0, slots := 0, locals := 0 }) 0 0 [.ref a_p1, .int x2, .long x3] (k_X1_indexOf T a_p1 n1 v_p1) (mp_Qi D r_ (k_X1_indexOf T a_p1 n1 v_p1)) := by
  refine mp_of (by decide) (Nat.le_of_ble_eq_true rfl) rfl ?_
  intro p e s m args below meth c A ls X hK hP hD hS hA hl
  replace X : mp_X p s m meth c args RX1 "indexOf" cX1_indexOf 5 (some .int) := X
  have hx := X.1
  have hb := X.2.1
  have hml := X.2.2.1
  have hown := X.2.2.2.2.1
  have hts := X.2.2.2.2.2.1
  replace hl : lv_has ls 5 [(0, .ref a_p1), (1, .int x2), (2, .long x3)] := hl
  replace hf : f_X1_indexOf_3 fu n1 v_p1  fu x2 x3 (nI 0) = some r_ := hf
  refine lv_iconst (v := (nI 0)) hx hb dX1_indexOf_0 (by decide) ?_
  refine lv_istore (lv' := [(4, .int (nI 0)), (0, .ref a_p1), (1, .int x2), (2, .long x3)]) hx hb dX1_indexOf_1 hl (by decide) rfl (fun ls hl => ?_)
  exact w_X1_indexOf_3 X hK hA  fu a_p1 n1 v_p1 r_   fu x2 x3 (nI 0) hf _ _ _ hP (mp_D_of hD rfl) hS (lv_sub hl [1, 2, 3, 0] rfl)


def k_X1_isTaken (T : Nat → ClassId) (a_ a_cellNames a_secretNames a_pageNames a_speed a_letters a_room a_now a_rounds : Nat) (v_cells : Int32) (v_secrets : Int32) (v_pages : Int32) (v_blind : Int32) (v_rubs : Int32) (v_cellNames : (Nat → Int64)) (v_pageNames : (Nat → Int64)) (v_secretNames : (Nat → Int64)) : va_W := [(a_, oX1 v_cells v_secrets v_pages a_cellNames a_secretNames a_pageNames a_speed v_blind v_rubs a_letters a_room a_now a_rounds), (a_cellNames, mp_aJ T 8 v_cellNames), (a_pageNames, mp_aJ T 6 v_pageNames), (a_secretNames, mp_aJ T 6 v_secretNames)]
set_option maxHeartbeats 4000000 in
set_option maxRecDepth 100000 in
theorem c_X1_isTaken (l : Launch) (D : va_G) (T : Nat → ClassId) (fu : Nat) (a_ a_cellNames a_secretNames a_pageNames a_speed a_letters a_room a_now a_rounds : Nat) (x1 : Int64) (v_blind : Int32) (v_rubs : Int32) (v_cells : Int32) (v_secrets : Int32) (v_pages : Int32) (v_cellNames : (Nat → Int64)) (v_pageNames : (Nat → Int64)) (v_secretNames : (Nat → Int64)) (r_ : Int32) (hf : f_X1_isTaken fu x1 v_cells v_secrets v_pages v_cellNames v_pageNames v_secretNames = some r_) :
    mp_M l D T yX1_isTaken cX1_isTaken 3 (some .boolean) ({ frames := 1, cells := 0, slots := 0, locals := 24 }) 0 0 [.ref a_, .long x1] (k_X1_isTaken T a_ a_cellNames a_secretNames a_pageNames a_speed a_letters a_room a_now a_rounds v_cells v_secrets v_pages v_blind v_rubs v_cellNames v_pageNames v_secretNames) (mp_Qi D r_ (k_X1_isTaken T a_ a_cellNames a_secretNames a_pageNames a_speed a_letters a_room a_now a_rounds v_cells v_secrets v_pages v_blind v_rubs v_cellNames v_pageNames v_secretNames)) := by
  refine mp_of (by decide) (Nat.le_of_ble_eq_true rfl) rfl ?_
  intro p e s m args below meth c A ls X hK hP hD hS hA hl
  replace X : mp_X p s m meth c args RX1 "isTaken" cX1_isTaken 3 (some .boolean) := X
  have hx := X.1
  have hb := X.2.1
  have hml := X.2.2.1
  have hown := X.2.2.2.2.1
  have hts := X.2.2.2.2.2.1
  replace hl : lv_has ls 3 [(0, .ref a_), (1, .long x1)] := hl
  replace hf : bd_ (f_X1_indexOf fu 8 v_cells x1 v_cellNames) (fun (r1 : Int32) => (if r1 = (-1 : Int32) then bd_ (f_X1_indexOf fu 6 v_secrets x1 v_secretNames) (fun (r4 : Int32) => (if r4 = (-1 : Int32) then bd_ (f_X1_indexOf fu 6 v_pages x1 v_pageNames) (fun (r7 : Int32) => (if r7 = (-1 : Int32) then some ((nI 0)) else some ((nI 1)))) else some ((nI 1)))) else some ((nI 1)))) = some r_ := hf
  refine lv_aload_n hx hb dX1_isTaken_0 rfl (lv_at hl 0 rfl) ?_
  refine mp_get X fl_X1_21 hK hP 0 rfl rfl dX1_isTaken_1 ?_
  refine lv_aload_n hx hb dX1_isTaken_4 rfl (lv_at hl 0 rfl) ?_
  refine mp_get X fl_X1_9 hK hP 0 rfl rfl dX1_isTaken_5 ?_
  refine lv_lload_n hx hb dX1_isTaken_8 rfl (lv_at hl 1 rfl) ?_
  obtain ⟨r1, c2, hf⟩ := bd_of hf
  have hPc := hP.sub (ws' := (k_X1_indexOf T a_cellNames 8 v_cellNames)) [1] rfl
  have hDc := (mp_D_of (w1 := (k_X1_isTaken T a_ a_cellNames a_secretNames a_pageNames a_speed a_letters a_room a_now a_rounds v_cells v_secrets v_pages v_blind v_rubs v_cellNames v_pageNames v_secretNames)) hD rfl).sub (ws' := (k_X1_indexOf T a_cellNames 8 v_cellNames)) [1] rfl rfl
  refine mp_calli (isC := [1]) (wc := (k_X1_indexOf T a_cellNames 8 v_cellNames)) (w1 := (k_X1_indexOf T a_cellNames 8 v_cellNames)) hP (mp_D_of hD rfl) hS hA rfl rfl (mp_runS (As := [.ref a_cellNames, .int v_cells, .long x1]) (rest := []) X me_X1_indexOf lk_X1_78 (c_X1_indexOf l D T fu a_cellNames 8 v_cells x1 v_cellNames r1 c2) rfl rfl ⟨(Nat.le_of_ble_eq_true rfl), (Nat.le_of_ble_eq_true rfl)⟩ hK hPc hDc rfl hl.1 rfl (Nat.le_of_ble_eq_true rfl) dX1_isTaken_9 ⟨Nat.zero_le _, Nat.zero_le _⟩) (fun H locs hP _ hS => ?_)
  replace hP : va_P D mp_cl (k_X1_isTaken T a_ a_cellNames a_secretNames a_pageNames a_speed a_letters a_room a_now a_rounds v_cells v_secrets v_pages v_blind v_rubs v_cellNames v_pageNames v_secretNames) H := hP
  refine lv_iconst (v := (-1 : Int32)) hx hb dX1_isTaken_12 (by decide) ?_
  refine lv_icmp_ne (tgt := 48) hx hb dX1_isTaken_13 (by decide) (fun h3 => ?_) (fun h3 => ?_)
  · replace hf := if_f hf h3
    refine lv_iconst (v := (nI 1)) hx hb dX1_isTaken_48 (by decide) ?_
    refine lv_goto (tgt := 53) hx hb dX1_isTaken_49 (by decide) ?_
    cases hf
    exact mp_retz X hP hS rfl (Or.inr rfl) dX1_isTaken_53
  · replace hf := if_t hf h3
    refine lv_aload_n hx hb dX1_isTaken_16 rfl (lv_at hl 0 rfl) ?_
    refine mp_get X fl_X1_25 hK hP 0 rfl rfl dX1_isTaken_17 ?_
    refine lv_aload_n hx hb dX1_isTaken_20 rfl (lv_at hl 0 rfl) ?_
    refine mp_get X fl_X1_15 hK hP 0 rfl rfl dX1_isTaken_21 ?_
    refine lv_lload_n hx hb dX1_isTaken_24 rfl (lv_at hl 1 rfl) ?_
    obtain ⟨r4, c5, hf⟩ := bd_of hf
    have hPc := hP.sub (ws' := (k_X1_indexOf T a_secretNames 6 v_secretNames)) [3] rfl
    have hDc := (mp_D_of (w1 := (k_X1_isTaken T a_ a_cellNames a_secretNames a_pageNames a_speed a_letters a_room a_now a_rounds v_cells v_secrets v_pages v_blind v_rubs v_cellNames v_pageNames v_secretNames)) hD rfl).sub (ws' := (k_X1_indexOf T a_secretNames 6 v_secretNames)) [3] rfl rfl
    refine mp_calli (isC := [3]) (wc := (k_X1_indexOf T a_secretNames 6 v_secretNames)) (w1 := (k_X1_indexOf T a_secretNames 6 v_secretNames)) hP (mp_D_of hD rfl) hS hA rfl rfl (mp_runS (As := [.ref a_secretNames, .int v_secrets, .long x1]) (rest := []) X me_X1_indexOf lk_X1_78 (c_X1_indexOf l D T fu a_secretNames 6 v_secrets x1 v_secretNames r4 c5) rfl rfl ⟨(Nat.le_of_ble_eq_true rfl), (Nat.le_of_ble_eq_true rfl)⟩ hK hPc hDc rfl hl.1 rfl (Nat.le_of_ble_eq_true rfl) dX1_isTaken_25 ⟨Nat.zero_le _, Nat.zero_le _⟩) (fun H locs hP _ hS => ?_)
    replace hP : va_P D mp_cl (k_X1_isTaken T a_ a_cellNames a_secretNames a_pageNames a_speed a_letters a_room a_now a_rounds v_cells v_secrets v_pages v_blind v_rubs v_cellNames v_pageNames v_secretNames) H := hP
    refine lv_iconst (v := (-1 : Int32)) hx hb dX1_isTaken_28 (by decide) ?_
    refine lv_icmp_ne (tgt := 48) hx hb dX1_isTaken_29 (by decide) (fun h6 => ?_) (fun h6 => ?_)
    · replace hf := if_f hf h6
      refine lv_iconst (v := (nI 1)) hx hb dX1_isTaken_48 (by decide) ?_
      refine lv_goto (tgt := 53) hx hb dX1_isTaken_49 (by decide) ?_
      cases hf
      exact mp_retz X hP hS rfl (Or.inr rfl) dX1_isTaken_53
    · replace hf := if_t hf h6
      refine lv_aload_n hx hb dX1_isTaken_32 rfl (lv_at hl 0 rfl) ?_
      refine mp_get X fl_X1_28 hK hP 0 rfl rfl dX1_isTaken_33 ?_
      refine lv_aload_n hx hb dX1_isTaken_36 rfl (lv_at hl 0 rfl) ?_
      refine mp_get X fl_X1_18 hK hP 0 rfl rfl dX1_isTaken_37 ?_
      refine lv_lload_n hx hb dX1_isTaken_40 rfl (lv_at hl 1 rfl) ?_
      obtain ⟨r7, c8, hf⟩ := bd_of hf
      have hPc := hP.sub (ws' := (k_X1_indexOf T a_pageNames 6 v_pageNames)) [2] rfl
      have hDc := (mp_D_of (w1 := (k_X1_isTaken T a_ a_cellNames a_secretNames a_pageNames a_speed a_letters a_room a_now a_rounds v_cells v_secrets v_pages v_blind v_rubs v_cellNames v_pageNames v_secretNames)) hD rfl).sub (ws' := (k_X1_indexOf T a_pageNames 6 v_pageNames)) [2] rfl rfl
      refine mp_calli (isC := [2]) (wc := (k_X1_indexOf T a_pageNames 6 v_pageNames)) (w1 := (k_X1_indexOf T a_pageNames 6 v_pageNames)) hP (mp_D_of hD rfl) hS hA rfl rfl (mp_runS (As := [.ref a_pageNames, .int v_pages, .long x1]) (rest := []) X me_X1_indexOf lk_X1_78 (c_X1_indexOf l D T fu a_pageNames 6 v_pages x1 v_pageNames r7 c8) rfl rfl ⟨(Nat.le_of_ble_eq_true rfl), (Nat.le_of_ble_eq_true rfl)⟩ hK hPc hDc rfl hl.1 rfl (Nat.le_of_ble_eq_true rfl) dX1_isTaken_41 ⟨Nat.zero_le _, Nat.zero_le _⟩) (fun H locs hP _ hS => ?_)
      replace hP : va_P D mp_cl (k_X1_isTaken T a_ a_cellNames a_secretNames a_pageNames a_speed a_letters a_room a_now a_rounds v_cells v_secrets v_pages v_blind v_rubs v_cellNames v_pageNames v_secretNames) H := hP
      refine lv_iconst (v := (-1 : Int32)) hx hb dX1_isTaken_44 (by decide) ?_
      refine lv_icmp_eq (tgt := 52) hx hb dX1_isTaken_45 (by decide) (fun h9 => ?_) (fun h9 => ?_)
      · replace hf := if_t hf h9
        refine lv_iconst (v := (nI 0)) hx hb dX1_isTaken_52 (by decide) ?_
        cases hf
        exact mp_retz X hP hS rfl (Or.inl rfl) dX1_isTaken_53
      · replace hf := if_f hf h9
        refine lv_iconst (v := (nI 1)) hx hb dX1_isTaken_48 (by decide) ?_
        refine lv_goto (tgt := 53) hx hb dX1_isTaken_49 (by decide) ?_
        cases hf
        exact mp_retz X hP hS rfl (Or.inr rfl) dX1_isTaken_53


def k_X1_addCell (T : Nat → ClassId) (a_ a_cellNames a_secretNames a_pageNames a_speed a_letters a_room a_now a_rounds : Nat) (v_cells : Int32) (v_secrets : Int32) (v_pages : Int32) (v_blind : Int32) (v_rubs : Int32) (v_cellNames : (Nat → Int64)) (v_speed : (Nat → Int32)) : va_W := [(a_, oX1 v_cells v_secrets v_pages a_cellNames a_secretNames a_pageNames a_speed v_blind v_rubs a_letters a_room a_now a_rounds), (a_cellNames, mp_aJ T 8 v_cellNames), (a_speed, mp_aI T 8 v_speed)]
set_option maxHeartbeats 4000000 in
set_option maxRecDepth 100000 in
theorem w_X1_addCell_64 {p : Program} {l : Launch} {e : Env} {s : State} {m : MethodId} {args : Array Value} {below : List Frame} {meth : Method} {c : Code} {D : va_G} {T : Nat → ClassId} {A : Nat → Prop} (X : mp_X p s m meth c args RX1 "addCell" cX1_addCell 6 none) (hK : va_K D mp_cl (mp_ty T) s) (hA : ∀ q, s.heap.size ≤ q → A q) (a_ a_cellNames a_secretNames a_pageNames a_speed a_letters a_room a_now a_rounds : Nat) (v_secrets : Int32) (v_pages : Int32) (o_cells : Int32) (o_blind : Int32) (o_rubs : Int32) (o_cellNames : (Nat → Int64)) (o_speed : (Nat → Int32)) :
    ∀  (w1 : Int32) (w2 : Int32) (v_cells : Int32) (v_blind : Int32) (v_rubs : Int32) (v_cellNames : (Nat → Int64)) (v_speed : (Nat → Int32)), f_X1_addCell_64   w1 w2 v_cells v_blind v_rubs v_cellNames v_speed = some (o_cells, o_blind, o_rubs, o_cellNames, o_speed) → ∀ (H : Heap) (locs : List Loc) (ls : Array Slot), va_P D mp_cl (k_X1_addCell T a_ a_cellNames a_secretNames a_pageNames a_speed a_letters a_room a_now a_rounds v_cells v_secrets v_pages v_blind v_rubs v_cellNames v_speed) H → va_D A (k_X1_addCell T a_ a_cellNames a_secretNames a_pageNames a_speed a_letters a_room a_now a_rounds v_cells v_secrets v_pages v_blind v_rubs v_cellNames v_speed) → va_S A s.heap H locs → lv_has ls 6 [(0, .ref a_)] → W p l e ({ frames := 0, cells := 0, slots := 0, locals := 0 }) s m args below meth c H locs 0 0 (MQ below ((mp_Qv D (k_X1_addCell T a_ a_cellNames a_secretNames a_pageNames a_speed a_letters a_room a_now a_rounds o_cells v_secrets v_pages o_blind o_rubs o_cellNames o_speed)) A) args s 0 0 A) (F0 m 64 ls [.int w2, .int w1, .ref a_]) := by
  have hx := X.1
  have hb := X.2.1
  have hml := X.2.2.1
  have hown := X.2.2.2.2.1
  have hts := X.2.2.2.2.2.1
  intro w1 w2 v_cells v_blind v_rubs v_cellNames v_speed hf H locs ls hP hD hS hl
  replace hf : lt_ (w1 ||| w2) (fun (y1 : Int32) => lt_ (v_cells + (nI 1)) (fun (y2 : Int32) => some (y2, v_blind, y1, v_cellNames, v_speed))) = some (o_cells, o_blind, o_rubs, o_cellNames, o_speed) := hf
  refine lv_ior hx hb dX1_addCell_64 ?_
  refine lv_topi (fun y1 e1 => ?_)
  replace hf := lt_of e1 hf
  refine mp_putf X fl_X1_38 fp_X1 rfl hK hP (mp_D_of hD rfl) hS 0 rfl rfl rfl (Nat.le_of_ble_eq_true rfl) dX1_addCell_65 (fun H locs hP _ hS => ?_)
  replace hP : va_P D mp_cl (k_X1_addCell T a_ a_cellNames a_secretNames a_pageNames a_speed a_letters a_room a_now a_rounds v_cells v_secrets v_pages v_blind y1 v_cellNames v_speed) H := hP
  refine lv_aload_n hx hb dX1_addCell_68 rfl (lv_at hl 0 rfl) ?_
  refine lv_dup hx hb dX1_addCell_69 rfl ?_
  refine mp_get X fl_X1_9 hK hP 0 rfl rfl dX1_addCell_70 ?_
  refine lv_iconst (v := (nI 1)) hx hb dX1_addCell_73 (by decide) ?_
  refine lv_iadd hx hb dX1_addCell_74 ?_
  refine lv_topi (fun y2 e2 => ?_)
  replace hf := lt_of e2 hf
  refine mp_putf X fl_X1_9 fp_X1 rfl hK hP (mp_D_of hD rfl) hS 0 rfl rfl rfl (Nat.le_of_ble_eq_true rfl) dX1_addCell_75 (fun H locs hP _ hS => ?_)
  replace hP : va_P D mp_cl (k_X1_addCell T a_ a_cellNames a_secretNames a_pageNames a_speed a_letters a_room a_now a_rounds y2 v_secrets v_pages v_blind y1 v_cellNames v_speed) H := hP
  cases hf
  exact mp_retv X hP hS dX1_addCell_78

set_option maxHeartbeats 4000000 in
set_option maxRecDepth 100000 in
theorem w_X1_addCell_40 {p : Program} {l : Launch} {e : Env} {s : State} {m : MethodId} {args : Array Value} {below : List Frame} {meth : Method} {c : Code} {D : va_G} {T : Nat → ClassId} {A : Nat → Prop} (X : mp_X p s m meth c args RX1 "addCell" cX1_addCell 6 none) (hK : va_K D mp_cl (mp_ty T) s) (hA : ∀ q, s.heap.size ≤ q → A q) (a_ a_cellNames a_secretNames a_pageNames a_speed a_letters a_room a_now a_rounds : Nat) (v_secrets : Int32) (v_pages : Int32) (o_cells : Int32) (o_blind : Int32) (o_rubs : Int32) (o_cellNames : (Nat → Int64)) (o_speed : (Nat → Int32)) :
    ∀  (z5 : Int32) (w1 : Int32) (w2 : Int32) (v_cells : Int32) (v_blind : Int32) (v_rubs : Int32) (v_cellNames : (Nat → Int64)) (v_speed : (Nat → Int32)), f_X1_addCell_40   z5 w1 w2 v_cells v_blind v_rubs v_cellNames v_speed = some (o_cells, o_blind, o_rubs, o_cellNames, o_speed) → ∀ (H : Heap) (locs : List Loc) (ls : Array Slot), va_P D mp_cl (k_X1_addCell T a_ a_cellNames a_secretNames a_pageNames a_speed a_letters a_room a_now a_rounds v_cells v_secrets v_pages v_blind v_rubs v_cellNames v_speed) H → va_D A (k_X1_addCell T a_ a_cellNames a_secretNames a_pageNames a_speed a_letters a_room a_now a_rounds v_cells v_secrets v_pages v_blind v_rubs v_cellNames v_speed) → va_S A s.heap H locs → lv_has ls 6 [(0, .ref a_), (5, .int z5)] → W p l e ({ frames := 0, cells := 0, slots := 0, locals := 0 }) s m args below meth c H locs 0 0 (MQ below ((mp_Qv D (k_X1_addCell T a_ a_cellNames a_secretNames a_pageNames a_speed a_letters a_room a_now a_rounds o_cells v_secrets v_pages o_blind o_rubs o_cellNames o_speed)) A) args s 0 0 A) (F0 m 40 ls [.int w2, .int w1, .ref a_]) := by
  have hx := X.1
  have hb := X.2.1
  have hml := X.2.2.1
  have hown := X.2.2.2.2.1
  have hts := X.2.2.2.2.2.1
  intro z5 w1 w2 v_cells v_blind v_rubs v_cellNames v_speed hf H locs ls hP hD hS hl
  replace hf : lt_ (w1 ||| w2) (fun (y1 : Int32) => (if z5 = 0 then f_X1_addCell_64   v_rubs (nI 0) v_cells y1 v_rubs v_cellNames v_speed else f_X1_addCell_64   v_rubs ((nI 1) <<< (v_cells &&& (31 : Int32))) v_cells y1 v_rubs v_cellNames v_speed)) = some (o_cells, o_blind, o_rubs, o_cellNames, o_speed) := hf
  refine lv_ior hx hb dX1_addCell_40 ?_
  refine lv_topi (fun y1 e1 => ?_)
  replace hf := lt_of e1 hf
  refine mp_putf X fl_X1_35 fp_X1 rfl hK hP (mp_D_of hD rfl) hS 0 rfl rfl rfl (Nat.le_of_ble_eq_true rfl) dX1_addCell_41 (fun H locs hP _ hS => ?_)
  replace hP : va_P D mp_cl (k_X1_addCell T a_ a_cellNames a_secretNames a_pageNames a_speed a_letters a_room a_now a_rounds v_cells v_secrets v_pages y1 v_rubs v_cellNames v_speed) H := hP
  refine lv_aload_n hx hb dX1_addCell_44 rfl (lv_at hl 0 rfl) ?_
  refine lv_dup hx hb dX1_addCell_45 rfl ?_
  refine mp_get X fl_X1_38 hK hP 0 rfl rfl dX1_addCell_46 ?_
  refine lv_iload hx hb dX1_addCell_49 (lv_at hl 1 rfl) ?_
  refine lv_if_eq (tgt := 63) hx hb dX1_addCell_51 (by decide) (fun h2 => ?_) (fun h2 => ?_)
  · replace hf := if_t hf h2
    refine lv_iconst (v := (nI 0)) hx hb dX1_addCell_63 (by decide) ?_
    exact w_X1_addCell_64 X hK hA  a_ a_cellNames a_secretNames a_pageNames a_speed a_letters a_room a_now a_rounds v_secrets v_pages o_cells o_blind o_rubs o_cellNames o_speed   v_rubs (nI 0) v_cells y1 v_rubs v_cellNames v_speed hf _ _ _ hP (mp_D_of hD rfl) hS (lv_sub hl [0] rfl)
  · replace hf := if_f hf h2
    refine lv_iconst (v := (nI 1)) hx hb dX1_addCell_54 (by decide) ?_
    refine lv_aload_n hx hb dX1_addCell_55 rfl (lv_at hl 0 rfl) ?_
    refine mp_get X fl_X1_9 hK hP 0 rfl rfl dX1_addCell_56 ?_
    refine lv_ishl hx hb dX1_addCell_59 ?_
    refine lv_goto (tgt := 64) hx hb dX1_addCell_60 (by decide) ?_
    exact w_X1_addCell_64 X hK hA  a_ a_cellNames a_secretNames a_pageNames a_speed a_letters a_room a_now a_rounds v_secrets v_pages o_cells o_blind o_rubs o_cellNames o_speed   v_rubs ((nI 1) <<< (v_cells &&& (31 : Int32))) v_cells y1 v_rubs v_cellNames v_speed hf _ _ _ hP (mp_D_of hD rfl) hS (lv_sub hl [0] rfl)

set_option maxHeartbeats 4000000 in
set_option maxRecDepth 100000 in
theorem c_X1_addCell (l : Launch) (D : va_G) (T : Nat → ClassId) (a_ a_cellNames a_secretNames a_pageNames a_speed a_letters a_room a_now a_rounds : Nat) (x1 : Int64) (x2 : Int32) (x3 : Int32) (x4 : Int32) (v_secrets : Int32) (v_pages : Int32) (v_cells : Int32) (v_blind : Int32) (v_rubs : Int32) (v_cellNames : (Nat → Int64)) (v_speed : (Nat → Int32)) (o_cells : Int32) (o_blind : Int32) (o_rubs : Int32) (o_cellNames : (Nat → Int64)) (o_speed : (Nat → Int32)) (hf : f_X1_addCell x1 x2 x3 x4 v_cells v_blind v_rubs v_cellNames v_speed = some (o_cells, o_blind, o_rubs, o_cellNames, o_speed)) :
    mp_M l D T yX1_addCell cX1_addCell 6 none ({ frames := 0, cells := 0, slots := 0, locals := 0 }) 0 0 [.ref a_, .long x1, .int x2, .int x3, .int x4] (k_X1_addCell T a_ a_cellNames a_secretNames a_pageNames a_speed a_letters a_room a_now a_rounds v_cells v_secrets v_pages v_blind v_rubs v_cellNames v_speed) (mp_Qv D (k_X1_addCell T a_ a_cellNames a_secretNames a_pageNames a_speed a_letters a_room a_now a_rounds o_cells v_secrets v_pages o_blind o_rubs o_cellNames o_speed)) := by
  refine mp_of (by decide) (Nat.le_of_ble_eq_true rfl) rfl ?_
  intro p e s m args below meth c A ls X hK hP hD hS hA hl
  replace X : mp_X p s m meth c args RX1 "addCell" cX1_addCell 6 none := X
  have hx := X.1
  have hb := X.2.1
  have hml := X.2.2.1
  have hown := X.2.2.2.2.1
  have hts := X.2.2.2.2.2.1
  replace hl : lv_has ls 6 [(0, .ref a_), (1, .long x1), (3, .int x2), (4, .int x3), (5, .int x4)] := hl
  replace hf : gi_ v_cells 8 (gi_ v_cells 8 ((if x3 = 0 then f_X1_addCell_40   x4 v_blind (nI 0) v_cells v_blind v_rubs (vp_updL v_cellNames (v_cells).toNatClampNeg x1) (upd v_speed (v_cells).toNatClampNeg x2) else f_X1_addCell_40   x4 v_blind ((nI 1) <<< (v_cells &&& (31 : Int32))) v_cells v_blind v_rubs (vp_updL v_cellNames (v_cells).toNatClampNeg x1) (upd v_speed (v_cells).toNatClampNeg x2)))) = some (o_cells, o_blind, o_rubs, o_cellNames, o_speed) := hf
  refine lv_aload_n hx hb dX1_addCell_0 rfl (lv_at hl 0 rfl) ?_
  refine mp_get X fl_X1_21 hK hP 0 rfl rfl dX1_addCell_1 ?_
  refine lv_aload_n hx hb dX1_addCell_4 rfl (lv_at hl 0 rfl) ?_
  refine mp_get X fl_X1_9 hK hP 0 rfl rfl dX1_addCell_5 ?_
  refine lv_lload_n hx hb dX1_addCell_8 rfl (lv_at hl 1 rfl) ?_
  obtain ⟨h1, hf⟩ := gi_of hf
  refine va_last hx hb hK hP (mp_D_of hD rfl) hS 1 1 rfl rfl h1 dX1_addCell_9 (fun H locs hP _ hS => ?_)
  replace hP : va_P D mp_cl (k_X1_addCell T a_ a_cellNames a_secretNames a_pageNames a_speed a_letters a_room a_now a_rounds v_cells v_secrets v_pages v_blind v_rubs (vp_updL v_cellNames (v_cells).toNatClampNeg x1) v_speed) H := hP
  refine lv_aload_n hx hb dX1_addCell_10 rfl (lv_at hl 0 rfl) ?_
  refine mp_get X fl_X1_31 hK hP 0 rfl rfl dX1_addCell_11 ?_
  refine lv_aload_n hx hb dX1_addCell_14 rfl (lv_at hl 0 rfl) ?_
  refine mp_get X fl_X1_9 hK hP 0 rfl rfl dX1_addCell_15 ?_
  refine lv_iload_n hx hb dX1_addCell_18 rfl (lv_at hl 2 rfl) ?_
  obtain ⟨h2, hf⟩ := gi_of hf
  refine va_iast hx hb hK hP (mp_D_of hD rfl) hS 2 0 rfl rfl h2 dX1_addCell_19 (fun H locs hP _ hS => ?_)
  replace hP : va_P D mp_cl (k_X1_addCell T a_ a_cellNames a_secretNames a_pageNames a_speed a_letters a_room a_now a_rounds v_cells v_secrets v_pages v_blind v_rubs (vp_updL v_cellNames (v_cells).toNatClampNeg x1) (upd v_speed (v_cells).toNatClampNeg x2)) H := hP
  refine lv_aload_n hx hb dX1_addCell_20 rfl (lv_at hl 0 rfl) ?_
  refine lv_dup hx hb dX1_addCell_21 rfl ?_
  refine mp_get X fl_X1_35 hK hP 0 rfl rfl dX1_addCell_22 ?_
  refine lv_iload hx hb dX1_addCell_25 (lv_at hl 3 rfl) ?_
  refine lv_if_eq (tgt := 39) hx hb dX1_addCell_27 (by decide) (fun h3 => ?_) (fun h3 => ?_)
  · replace hf := if_t hf h3
    refine lv_iconst (v := (nI 0)) hx hb dX1_addCell_39 (by decide) ?_
    exact w_X1_addCell_40 X hK hA  a_ a_cellNames a_secretNames a_pageNames a_speed a_letters a_room a_now a_rounds v_secrets v_pages o_cells o_blind o_rubs o_cellNames o_speed   x4 v_blind (nI 0) v_cells v_blind v_rubs (vp_updL v_cellNames (v_cells).toNatClampNeg x1) (upd v_speed (v_cells).toNatClampNeg x2) hf _ _ _ hP (mp_D_of hD rfl) hS (lv_sub hl [0, 4] rfl)
  · replace hf := if_f hf h3
    refine lv_iconst (v := (nI 1)) hx hb dX1_addCell_30 (by decide) ?_
    refine lv_aload_n hx hb dX1_addCell_31 rfl (lv_at hl 0 rfl) ?_
    refine mp_get X fl_X1_9 hK hP 0 rfl rfl dX1_addCell_32 ?_
    refine lv_ishl hx hb dX1_addCell_35 ?_
    refine lv_goto (tgt := 40) hx hb dX1_addCell_36 (by decide) ?_
    exact w_X1_addCell_40 X hK hA  a_ a_cellNames a_secretNames a_pageNames a_speed a_letters a_room a_now a_rounds v_secrets v_pages o_cells o_blind o_rubs o_cellNames o_speed   x4 v_blind ((nI 1) <<< (v_cells &&& (31 : Int32))) v_cells v_blind v_rubs (vp_updL v_cellNames (v_cells).toNatClampNeg x1) (upd v_speed (v_cells).toNatClampNeg x2) hf _ _ _ hP (mp_D_of hD rfl) hS (lv_sub hl [0, 4] rfl)


def k_X1_addSecret (T : Nat → ClassId) (a_ a_cellNames a_secretNames a_pageNames a_speed a_letters a_room a_now a_rounds : Nat) (v_cells : Int32) (v_secrets : Int32) (v_pages : Int32) (v_blind : Int32) (v_rubs : Int32) (v_letters : (Nat → Int32)) (v_secretNames : (Nat → Int64)) : va_W := [(a_, oX1 v_cells v_secrets v_pages a_cellNames a_secretNames a_pageNames a_speed v_blind v_rubs a_letters a_room a_now a_rounds), (a_letters, mp_aI T 6 v_letters), (a_secretNames, mp_aJ T 6 v_secretNames)]
set_option maxHeartbeats 4000000 in
set_option maxRecDepth 100000 in
theorem c_X1_addSecret (l : Launch) (D : va_G) (T : Nat → ClassId) (a_ a_cellNames a_secretNames a_pageNames a_speed a_letters a_room a_now a_rounds : Nat) (x1 : Int64) (x2 : Int32) (v_cells : Int32) (v_pages : Int32) (v_blind : Int32) (v_rubs : Int32) (v_secrets : Int32) (v_letters : (Nat → Int32)) (v_secretNames : (Nat → Int64)) (o_secrets : Int32) (o_letters : (Nat → Int32)) (o_secretNames : (Nat → Int64)) (hf : f_X1_addSecret x1 x2 v_secrets v_letters v_secretNames = some (o_secrets, o_letters, o_secretNames)) :
    mp_M l D T yX1_addSecret cX1_addSecret 4 none ({ frames := 0, cells := 0, slots := 0, locals := 0 }) 0 0 [.ref a_, .long x1, .int x2] (k_X1_addSecret T a_ a_cellNames a_secretNames a_pageNames a_speed a_letters a_room a_now a_rounds v_cells v_secrets v_pages v_blind v_rubs v_letters v_secretNames) (mp_Qv D (k_X1_addSecret T a_ a_cellNames a_secretNames a_pageNames a_speed a_letters a_room a_now a_rounds v_cells o_secrets v_pages v_blind v_rubs o_letters o_secretNames)) := by
  refine mp_of (by decide) (Nat.le_of_ble_eq_true rfl) rfl ?_
  intro p e s m args below meth c A ls X hK hP hD hS hA hl
  replace X : mp_X p s m meth c args RX1 "addSecret" cX1_addSecret 4 none := X
  have hx := X.1
  have hb := X.2.1
  have hml := X.2.2.1
  have hown := X.2.2.2.2.1
  have hts := X.2.2.2.2.2.1
  replace hl : lv_has ls 4 [(0, .ref a_), (1, .long x1), (3, .int x2)] := hl
  replace hf : gi_ v_secrets 6 (gi_ v_secrets 6 (lt_ (v_secrets + (nI 1)) (fun (y3 : Int32) => some (y3, upd v_letters (v_secrets).toNatClampNeg x2, vp_updL v_secretNames (v_secrets).toNatClampNeg x1)))) = some (o_secrets, o_letters, o_secretNames) := hf
  refine lv_aload_n hx hb dX1_addSecret_0 rfl (lv_at hl 0 rfl) ?_
  refine mp_get X fl_X1_25 hK hP 0 rfl rfl dX1_addSecret_1 ?_
  refine lv_aload_n hx hb dX1_addSecret_4 rfl (lv_at hl 0 rfl) ?_
  refine mp_get X fl_X1_15 hK hP 0 rfl rfl dX1_addSecret_5 ?_
  refine lv_lload_n hx hb dX1_addSecret_8 rfl (lv_at hl 1 rfl) ?_
  obtain ⟨h1, hf⟩ := gi_of hf
  refine va_last hx hb hK hP (mp_D_of hD rfl) hS 2 1 rfl rfl h1 dX1_addSecret_9 (fun H locs hP _ hS => ?_)
  replace hP : va_P D mp_cl (k_X1_addSecret T a_ a_cellNames a_secretNames a_pageNames a_speed a_letters a_room a_now a_rounds v_cells v_secrets v_pages v_blind v_rubs v_letters (vp_updL v_secretNames (v_secrets).toNatClampNeg x1)) H := hP
  refine lv_aload_n hx hb dX1_addSecret_10 rfl (lv_at hl 0 rfl) ?_
  refine mp_get X fl_X1_41 hK hP 0 rfl rfl dX1_addSecret_11 ?_
  refine lv_aload_n hx hb dX1_addSecret_14 rfl (lv_at hl 0 rfl) ?_
  refine mp_get X fl_X1_15 hK hP 0 rfl rfl dX1_addSecret_15 ?_
  refine lv_iload_n hx hb dX1_addSecret_18 rfl (lv_at hl 2 rfl) ?_
  obtain ⟨h2, hf⟩ := gi_of hf
  refine va_iast hx hb hK hP (mp_D_of hD rfl) hS 1 0 rfl rfl h2 dX1_addSecret_19 (fun H locs hP _ hS => ?_)
  replace hP : va_P D mp_cl (k_X1_addSecret T a_ a_cellNames a_secretNames a_pageNames a_speed a_letters a_room a_now a_rounds v_cells v_secrets v_pages v_blind v_rubs (upd v_letters (v_secrets).toNatClampNeg x2) (vp_updL v_secretNames (v_secrets).toNatClampNeg x1)) H := hP
  refine lv_aload_n hx hb dX1_addSecret_20 rfl (lv_at hl 0 rfl) ?_
  refine lv_dup hx hb dX1_addSecret_21 rfl ?_
  refine mp_get X fl_X1_15 hK hP 0 rfl rfl dX1_addSecret_22 ?_
  refine lv_iconst (v := (nI 1)) hx hb dX1_addSecret_25 (by decide) ?_
  refine lv_iadd hx hb dX1_addSecret_26 ?_
  refine lv_topi (fun y3 e3 => ?_)
  replace hf := lt_of e3 hf
  refine mp_putf X fl_X1_15 fp_X1 rfl hK hP (mp_D_of hD rfl) hS 0 rfl rfl rfl (Nat.le_of_ble_eq_true rfl) dX1_addSecret_27 (fun H locs hP _ hS => ?_)
  replace hP : va_P D mp_cl (k_X1_addSecret T a_ a_cellNames a_secretNames a_pageNames a_speed a_letters a_room a_now a_rounds v_cells y3 v_pages v_blind v_rubs (upd v_letters (v_secrets).toNatClampNeg x2) (vp_updL v_secretNames (v_secrets).toNatClampNeg x1)) H := hP
  cases hf
  exact mp_retv X hP hS dX1_addSecret_30


def k_X1_addPage (T : Nat → ClassId) (a_ a_cellNames a_secretNames a_pageNames a_speed a_letters a_room a_now a_rounds : Nat) (v_cells : Int32) (v_secrets : Int32) (v_pages : Int32) (v_blind : Int32) (v_rubs : Int32) (v_pageNames : (Nat → Int64)) (v_room : (Nat → Int32)) : va_W := [(a_, oX1 v_cells v_secrets v_pages a_cellNames a_secretNames a_pageNames a_speed v_blind v_rubs a_letters a_room a_now a_rounds), (a_pageNames, mp_aJ T 6 v_pageNames), (a_room, mp_aI T 6 v_room)]
set_option maxHeartbeats 4000000 in
set_option maxRecDepth 100000 in
theorem c_X1_addPage (l : Launch) (D : va_G) (T : Nat → ClassId) (a_ a_cellNames a_secretNames a_pageNames a_speed a_letters a_room a_now a_rounds : Nat) (x1 : Int64) (x2 : Int32) (v_cells : Int32) (v_secrets : Int32) (v_blind : Int32) (v_rubs : Int32) (v_pages : Int32) (v_pageNames : (Nat → Int64)) (v_room : (Nat → Int32)) (o_pages : Int32) (o_pageNames : (Nat → Int64)) (o_room : (Nat → Int32)) (hf : f_X1_addPage x1 x2 v_pages v_pageNames v_room = some (o_pages, o_pageNames, o_room)) :
    mp_M l D T yX1_addPage cX1_addPage 4 none ({ frames := 0, cells := 0, slots := 0, locals := 0 }) 0 0 [.ref a_, .long x1, .int x2] (k_X1_addPage T a_ a_cellNames a_secretNames a_pageNames a_speed a_letters a_room a_now a_rounds v_cells v_secrets v_pages v_blind v_rubs v_pageNames v_room) (mp_Qv D (k_X1_addPage T a_ a_cellNames a_secretNames a_pageNames a_speed a_letters a_room a_now a_rounds v_cells v_secrets o_pages v_blind v_rubs o_pageNames o_room)) := by
  refine mp_of (by decide) (Nat.le_of_ble_eq_true rfl) rfl ?_
  intro p e s m args below meth c A ls X hK hP hD hS hA hl
  replace X : mp_X p s m meth c args RX1 "addPage" cX1_addPage 4 none := X
  have hx := X.1
  have hb := X.2.1
  have hml := X.2.2.1
  have hown := X.2.2.2.2.1
  have hts := X.2.2.2.2.2.1
  replace hl : lv_has ls 4 [(0, .ref a_), (1, .long x1), (3, .int x2)] := hl
  replace hf : gi_ v_pages 6 (gi_ v_pages 6 (lt_ (v_pages + (nI 1)) (fun (y3 : Int32) => some (y3, vp_updL v_pageNames (v_pages).toNatClampNeg x1, upd v_room (v_pages).toNatClampNeg x2)))) = some (o_pages, o_pageNames, o_room) := hf
  refine lv_aload_n hx hb dX1_addPage_0 rfl (lv_at hl 0 rfl) ?_
  refine mp_get X fl_X1_28 hK hP 0 rfl rfl dX1_addPage_1 ?_
  refine lv_aload_n hx hb dX1_addPage_4 rfl (lv_at hl 0 rfl) ?_
  refine mp_get X fl_X1_18 hK hP 0 rfl rfl dX1_addPage_5 ?_
  refine lv_lload_n hx hb dX1_addPage_8 rfl (lv_at hl 1 rfl) ?_
  obtain ⟨h1, hf⟩ := gi_of hf
  refine va_last hx hb hK hP (mp_D_of hD rfl) hS 1 1 rfl rfl h1 dX1_addPage_9 (fun H locs hP _ hS => ?_)
  replace hP : va_P D mp_cl (k_X1_addPage T a_ a_cellNames a_secretNames a_pageNames a_speed a_letters a_room a_now a_rounds v_cells v_secrets v_pages v_blind v_rubs (vp_updL v_pageNames (v_pages).toNatClampNeg x1) v_room) H := hP
  refine lv_aload_n hx hb dX1_addPage_10 rfl (lv_at hl 0 rfl) ?_
  refine mp_get X fl_X1_44 hK hP 0 rfl rfl dX1_addPage_11 ?_
  refine lv_aload_n hx hb dX1_addPage_14 rfl (lv_at hl 0 rfl) ?_
  refine mp_get X fl_X1_18 hK hP 0 rfl rfl dX1_addPage_15 ?_
  refine lv_iload_n hx hb dX1_addPage_18 rfl (lv_at hl 2 rfl) ?_
  obtain ⟨h2, hf⟩ := gi_of hf
  refine va_iast hx hb hK hP (mp_D_of hD rfl) hS 2 0 rfl rfl h2 dX1_addPage_19 (fun H locs hP _ hS => ?_)
  replace hP : va_P D mp_cl (k_X1_addPage T a_ a_cellNames a_secretNames a_pageNames a_speed a_letters a_room a_now a_rounds v_cells v_secrets v_pages v_blind v_rubs (vp_updL v_pageNames (v_pages).toNatClampNeg x1) (upd v_room (v_pages).toNatClampNeg x2)) H := hP
  refine lv_aload_n hx hb dX1_addPage_20 rfl (lv_at hl 0 rfl) ?_
  refine lv_dup hx hb dX1_addPage_21 rfl ?_
  refine mp_get X fl_X1_18 hK hP 0 rfl rfl dX1_addPage_22 ?_
  refine lv_iconst (v := (nI 1)) hx hb dX1_addPage_25 (by decide) ?_
  refine lv_iadd hx hb dX1_addPage_26 ?_
  refine lv_topi (fun y3 e3 => ?_)
  replace hf := lt_of e3 hf
  refine mp_putf X fl_X1_18 fp_X1 rfl hK hP (mp_D_of hD rfl) hS 0 rfl rfl rfl (Nat.le_of_ble_eq_true rfl) dX1_addPage_27 (fun H locs hP _ hS => ?_)
  replace hP : va_P D mp_cl (k_X1_addPage T a_ a_cellNames a_secretNames a_pageNames a_speed a_letters a_room a_now a_rounds v_cells v_secrets y3 v_blind v_rubs (vp_updL v_pageNames (v_pages).toNatClampNeg x1) (upd v_room (v_pages).toNatClampNeg x2)) H := hP
  cases hf
  exact mp_retv X hP hS dX1_addPage_30


def k_X1_hasCell (T : Nat → ClassId) (a_ a_cellNames a_secretNames a_pageNames a_speed a_letters a_room a_now a_rounds : Nat) (v_cells : Int32) (v_secrets : Int32) (v_pages : Int32) (v_blind : Int32) (v_rubs : Int32) : va_W := [(a_, oX1 v_cells v_secrets v_pages a_cellNames a_secretNames a_pageNames a_speed v_blind v_rubs a_letters a_room a_now a_rounds)]
set_option maxHeartbeats 4000000 in
set_option maxRecDepth 100000 in
theorem c_X1_hasCell (l : Launch) (D : va_G) (T : Nat → ClassId) (a_ a_cellNames a_secretNames a_pageNames a_speed a_letters a_room a_now a_rounds : Nat) (x1 : Int32) (v_secrets : Int32) (v_pages : Int32) (v_blind : Int32) (v_rubs : Int32) (v_cells : Int32) (r_ : Int32) (hf : f_X1_hasCell x1 v_cells = some r_) :
    mp_M l D T yX1_hasCell cX1_hasCell 2 (some .boolean) ({ frames := 0, cells := 0, slots := 0, locals := 0 }) 0 0 [.ref a_, .int x1] (k_X1_hasCell T a_ a_cellNames a_secretNames a_pageNames a_speed a_letters a_room a_now a_rounds v_cells v_secrets v_pages v_blind v_rubs) (mp_Qi D r_ (k_X1_hasCell T a_ a_cellNames a_secretNames a_pageNames a_speed a_letters a_room a_now a_rounds v_cells v_secrets v_pages v_blind v_rubs)) := by
  refine mp_of (by decide) (Nat.le_of_ble_eq_true rfl) rfl ?_
  intro p e s m args below meth c A ls X hK hP hD hS hA hl
  replace X : mp_X p s m meth c args RX1 "hasCell" cX1_hasCell 2 (some .boolean) := X
  have hx := X.1
  have hb := X.2.1
  have hml := X.2.2.1
  have hown := X.2.2.2.2.1
  have hts := X.2.2.2.2.2.1
  replace hl : lv_has ls 2 [(0, .ref a_), (1, .int x1)] := hl
  replace hf : (if x1 < 0 then some ((nI 0)) else (if v_cells ≤ x1 then some ((nI 0)) else some ((nI 1)))) = some r_ := hf
  refine lv_iload_n hx hb dX1_hasCell_0 rfl (lv_at hl 1 rfl) ?_
  refine lv_if_lt (tgt := 16) hx hb dX1_hasCell_1 (by decide) (fun h1 => ?_) (fun h1 => ?_)
  · replace hf := if_t hf h1
    refine lv_iconst (v := (nI 0)) hx hb dX1_hasCell_16 (by decide) ?_
    cases hf
    exact mp_retz X hP hS rfl (Or.inl rfl) dX1_hasCell_17
  · replace hf := if_f hf h1
    refine lv_iload_n hx hb dX1_hasCell_4 rfl (lv_at hl 1 rfl) ?_
    refine lv_aload_n hx hb dX1_hasCell_5 rfl (lv_at hl 0 rfl) ?_
    refine mp_get X fl_X1_9 hK hP 0 rfl rfl dX1_hasCell_6 ?_
    refine lv_icmp_ge (tgt := 16) hx hb dX1_hasCell_9 (by decide) (fun h2 => ?_) (fun h2 => ?_)
    · replace hf := if_t hf h2
      refine lv_iconst (v := (nI 0)) hx hb dX1_hasCell_16 (by decide) ?_
      cases hf
      exact mp_retz X hP hS rfl (Or.inl rfl) dX1_hasCell_17
    · replace hf := if_f hf h2
      refine lv_iconst (v := (nI 1)) hx hb dX1_hasCell_12 (by decide) ?_
      refine lv_goto (tgt := 17) hx hb dX1_hasCell_13 (by decide) ?_
      cases hf
      exact mp_retz X hP hS rfl (Or.inr rfl) dX1_hasCell_17


def k_X1_hasSecret (T : Nat → ClassId) (a_ a_cellNames a_secretNames a_pageNames a_speed a_letters a_room a_now a_rounds : Nat) (v_cells : Int32) (v_secrets : Int32) (v_pages : Int32) (v_blind : Int32) (v_rubs : Int32) : va_W := [(a_, oX1 v_cells v_secrets v_pages a_cellNames a_secretNames a_pageNames a_speed v_blind v_rubs a_letters a_room a_now a_rounds)]
set_option maxHeartbeats 4000000 in
set_option maxRecDepth 100000 in
theorem c_X1_hasSecret (l : Launch) (D : va_G) (T : Nat → ClassId) (a_ a_cellNames a_secretNames a_pageNames a_speed a_letters a_room a_now a_rounds : Nat) (x1 : Int32) (v_cells : Int32) (v_pages : Int32) (v_blind : Int32) (v_rubs : Int32) (v_secrets : Int32) (r_ : Int32) (hf : f_X1_hasSecret x1 v_secrets = some r_) :
    mp_M l D T yX1_hasSecret cX1_hasSecret 2 (some .boolean) ({ frames := 0, cells := 0, slots := 0, locals := 0 }) 0 0 [.ref a_, .int x1] (k_X1_hasSecret T a_ a_cellNames a_secretNames a_pageNames a_speed a_letters a_room a_now a_rounds v_cells v_secrets v_pages v_blind v_rubs) (mp_Qi D r_ (k_X1_hasSecret T a_ a_cellNames a_secretNames a_pageNames a_speed a_letters a_room a_now a_rounds v_cells v_secrets v_pages v_blind v_rubs)) := by
  refine mp_of (by decide) (Nat.le_of_ble_eq_true rfl) rfl ?_
  intro p e s m args below meth c A ls X hK hP hD hS hA hl
  replace X : mp_X p s m meth c args RX1 "hasSecret" cX1_hasSecret 2 (some .boolean) := X
  have hx := X.1
  have hb := X.2.1
  have hml := X.2.2.1
  have hown := X.2.2.2.2.1
  have hts := X.2.2.2.2.2.1
  replace hl : lv_has ls 2 [(0, .ref a_), (1, .int x1)] := hl
  replace hf : (if x1 < 0 then some ((nI 0)) else (if v_secrets ≤ x1 then some ((nI 0)) else some ((nI 1)))) = some r_ := hf
  refine lv_iload_n hx hb dX1_hasSecret_0 rfl (lv_at hl 1 rfl) ?_
  refine lv_if_lt (tgt := 16) hx hb dX1_hasSecret_1 (by decide) (fun h1 => ?_) (fun h1 => ?_)
  · replace hf := if_t hf h1
    refine lv_iconst (v := (nI 0)) hx hb dX1_hasSecret_16 (by decide) ?_
    cases hf
    exact mp_retz X hP hS rfl (Or.inl rfl) dX1_hasSecret_17
  · replace hf := if_f hf h1
    refine lv_iload_n hx hb dX1_hasSecret_4 rfl (lv_at hl 1 rfl) ?_
    refine lv_aload_n hx hb dX1_hasSecret_5 rfl (lv_at hl 0 rfl) ?_
    refine mp_get X fl_X1_15 hK hP 0 rfl rfl dX1_hasSecret_6 ?_
    refine lv_icmp_ge (tgt := 16) hx hb dX1_hasSecret_9 (by decide) (fun h2 => ?_) (fun h2 => ?_)
    · replace hf := if_t hf h2
      refine lv_iconst (v := (nI 0)) hx hb dX1_hasSecret_16 (by decide) ?_
      cases hf
      exact mp_retz X hP hS rfl (Or.inl rfl) dX1_hasSecret_17
    · replace hf := if_f hf h2
      refine lv_iconst (v := (nI 1)) hx hb dX1_hasSecret_12 (by decide) ?_
      refine lv_goto (tgt := 17) hx hb dX1_hasSecret_13 (by decide) ?_
      cases hf
      exact mp_retz X hP hS rfl (Or.inr rfl) dX1_hasSecret_17


def k_X1_hasPage (T : Nat → ClassId) (a_ a_cellNames a_secretNames a_pageNames a_speed a_letters a_room a_now a_rounds : Nat) (v_cells : Int32) (v_secrets : Int32) (v_pages : Int32) (v_blind : Int32) (v_rubs : Int32) : va_W := [(a_, oX1 v_cells v_secrets v_pages a_cellNames a_secretNames a_pageNames a_speed v_blind v_rubs a_letters a_room a_now a_rounds)]
set_option maxHeartbeats 4000000 in
set_option maxRecDepth 100000 in
theorem c_X1_hasPage (l : Launch) (D : va_G) (T : Nat → ClassId) (a_ a_cellNames a_secretNames a_pageNames a_speed a_letters a_room a_now a_rounds : Nat) (x1 : Int32) (v_cells : Int32) (v_secrets : Int32) (v_blind : Int32) (v_rubs : Int32) (v_pages : Int32) (r_ : Int32) (hf : f_X1_hasPage x1 v_pages = some r_) :
    mp_M l D T yX1_hasPage cX1_hasPage 2 (some .boolean) ({ frames := 0, cells := 0, slots := 0, locals := 0 }) 0 0 [.ref a_, .int x1] (k_X1_hasPage T a_ a_cellNames a_secretNames a_pageNames a_speed a_letters a_room a_now a_rounds v_cells v_secrets v_pages v_blind v_rubs) (mp_Qi D r_ (k_X1_hasPage T a_ a_cellNames a_secretNames a_pageNames a_speed a_letters a_room a_now a_rounds v_cells v_secrets v_pages v_blind v_rubs)) := by
  refine mp_of (by decide) (Nat.le_of_ble_eq_true rfl) rfl ?_
  intro p e s m args below meth c A ls X hK hP hD hS hA hl
  replace X : mp_X p s m meth c args RX1 "hasPage" cX1_hasPage 2 (some .boolean) := X
  have hx := X.1
  have hb := X.2.1
  have hml := X.2.2.1
  have hown := X.2.2.2.2.1
  have hts := X.2.2.2.2.2.1
  replace hl : lv_has ls 2 [(0, .ref a_), (1, .int x1)] := hl
  replace hf : (if x1 < 0 then some ((nI 0)) else (if v_pages ≤ x1 then some ((nI 0)) else some ((nI 1)))) = some r_ := hf
  refine lv_iload_n hx hb dX1_hasPage_0 rfl (lv_at hl 1 rfl) ?_
  refine lv_if_lt (tgt := 16) hx hb dX1_hasPage_1 (by decide) (fun h1 => ?_) (fun h1 => ?_)
  · replace hf := if_t hf h1
    refine lv_iconst (v := (nI 0)) hx hb dX1_hasPage_16 (by decide) ?_
    cases hf
    exact mp_retz X hP hS rfl (Or.inl rfl) dX1_hasPage_17
  · replace hf := if_f hf h1
    refine lv_iload_n hx hb dX1_hasPage_4 rfl (lv_at hl 1 rfl) ?_
    refine lv_aload_n hx hb dX1_hasPage_5 rfl (lv_at hl 0 rfl) ?_
    refine mp_get X fl_X1_18 hK hP 0 rfl rfl dX1_hasPage_6 ?_
    refine lv_icmp_ge (tgt := 16) hx hb dX1_hasPage_9 (by decide) (fun h2 => ?_) (fun h2 => ?_)
    · replace hf := if_t hf h2
      refine lv_iconst (v := (nI 0)) hx hb dX1_hasPage_16 (by decide) ?_
      cases hf
      exact mp_retz X hP hS rfl (Or.inl rfl) dX1_hasPage_17
    · replace hf := if_f hf h2
      refine lv_iconst (v := (nI 1)) hx hb dX1_hasPage_12 (by decide) ?_
      refine lv_goto (tgt := 17) hx hb dX1_hasPage_13 (by decide) ?_
      cases hf
      exact mp_retz X hP hS rfl (Or.inr rfl) dX1_hasPage_17


def k_X7_orderAll (T : Nat → ClassId) (a_ a_order a_knows a_made a_sixteenths a_dots a_used a_stands : Nat) (v_inOrder : Int32) (v_place : Int32) (v_ill : Int32) (v_shut : Int32) (v_turns : Int32) (v_madeInAll : Int32) (v_order : (Nat → Int32)) : va_W := [(a_, oX7 a_order v_inOrder v_place a_knows a_made a_sixteenths a_dots a_used a_stands v_ill v_shut v_turns v_madeInAll), (a_order, mp_aI T 8 v_order)]
set_option maxHeartbeats 4000000 in
set_option maxRecDepth 100000 in
theorem w_X7_orderAll_2 {p : Program} {l : Launch} {e : Env} {s : State} {m : MethodId} {args : Array Value} {below : List Frame} {meth : Method} {c : Code} {D : va_G} {T : Nat → ClassId} {A : Nat → Prop} (X : mp_X p s m meth c args RX7 "orderAll" cX7_orderAll 3 none) (hK : va_K D mp_cl (mp_ty T) s) (hA : ∀ q, s.heap.size ≤ q → A q) (fu : Nat) (a_ a_order a_knows a_made a_sixteenths a_dots a_used a_stands : Nat) (v_place : Int32) (v_ill : Int32) (v_shut : Int32) (v_turns : Int32) (v_madeInAll : Int32) (o_inOrder : Int32) (o_order : (Nat → Int32)) :
    ∀ (n : Nat) (z1 : Int32) (z2 : Int32) (v_inOrder : Int32) (v_order : (Nat → Int32)), f_X7_orderAll_2 fu   n z1 z2 v_inOrder v_order = some (o_inOrder, o_order) → ∀ (H : Heap) (locs : List Loc) (ls : Array Slot), va_P D mp_cl (k_X7_orderAll T a_ a_order a_knows a_made a_sixteenths a_dots a_used a_stands v_inOrder v_place v_ill v_shut v_turns v_madeInAll v_order) H → va_D A (k_X7_orderAll T a_ a_order a_knows a_made a_sixteenths a_dots a_used a_stands v_inOrder v_place v_ill v_shut v_turns v_madeInAll v_order) → va_S A s.heap H locs → lv_has ls 3 [(0, .ref a_), (1, .int z1), (2, .int z2)] → W p l e ({ frames := 0, cells := 0, slots := 0, locals := 0 }) s m args below meth c H locs 0 0 (MQ below ((mp_Qv D (k_X7_orderAll T a_ a_order a_knows a_made a_sixteenths a_dots a_used a_stands o_inOrder v_place v_ill v_shut v_turns v_madeInAll o_order)) A) args s 0 0 A) (F0 m 2 ls []) := by
  have hx := X.1
  have hb := X.2.1
  have hml := X.2.2.1
  have hown := X.2.2.2.2.1
  have hts := X.2.2.2.2.2.1
  intro n
  induction n with
  | zero => intro z1 z2 v_inOrder v_order hf; exact absurd hf (by intro h; cases h)
  | succ n ih =>
    intro z1 z2 v_inOrder v_order hf H locs ls hP hD hS hl
    replace hf : (if z1 ≤ z2 then some (z1, v_order) else gi_ z2 8 (lt_ (z2 + (nI 1)) (fun (y3 : Int32) => f_X7_orderAll_2 fu   n z1 y3 v_inOrder (upd v_order (z2).toNatClampNeg z2)))) = some (o_inOrder, o_order) := hf
    refine lv_iload_n hx hb dX7_orderAll_2 rfl (lv_at hl 2 rfl) ?_
    refine lv_iload_n hx hb dX7_orderAll_3 rfl (lv_at hl 1 rfl) ?_
    refine lv_icmp_ge (tgt := 20) hx hb dX7_orderAll_4 (by decide) (fun h1 => ?_) (fun h1 => ?_)
    · replace hf := if_t hf h1
      refine lv_aload_n hx hb dX7_orderAll_20 rfl (lv_at hl 0 rfl) ?_
      refine lv_iload_n hx hb dX7_orderAll_21 rfl (lv_at hl 1 rfl) ?_
      refine mp_putf X fl_X7_15 fp_X7 rfl hK hP (mp_D_of hD rfl) hS 0 rfl rfl rfl (Nat.le_of_ble_eq_true rfl) dX7_orderAll_22 (fun H locs hP _ hS => ?_)
      replace hP : va_P D mp_cl (k_X7_orderAll T a_ a_order a_knows a_made a_sixteenths a_dots a_used a_stands z1 v_place v_ill v_shut v_turns v_madeInAll v_order) H := hP
      cases hf
      exact mp_retv X hP hS dX7_orderAll_25
    · replace hf := if_f hf h1
      refine lv_aload_n hx hb dX7_orderAll_7 rfl (lv_at hl 0 rfl) ?_
      refine mp_get X fl_X7_9 hK hP 0 rfl rfl dX7_orderAll_8 ?_
      refine lv_iload_n hx hb dX7_orderAll_11 rfl (lv_at hl 2 rfl) ?_
      refine lv_iload_n hx hb dX7_orderAll_12 rfl (lv_at hl 2 rfl) ?_
      obtain ⟨h2, hf⟩ := gi_of hf
      refine va_iast hx hb hK hP (mp_D_of hD rfl) hS 1 0 rfl rfl h2 dX7_orderAll_13 (fun H locs hP _ hS => ?_)
      replace hP : va_P D mp_cl (k_X7_orderAll T a_ a_order a_knows a_made a_sixteenths a_dots a_used a_stands v_inOrder v_place v_ill v_shut v_turns v_madeInAll (upd v_order (z2).toNatClampNeg z2)) H := hP
      obtain ⟨y3, e3⟩ : ∃ y : Int32, y = z2 + (nI 1) := ⟨_, rfl⟩
      replace hf := lt_of e3 hf
      refine lv_iinc (v := y3) (lv' := [(2, .int y3), (0, .ref a_), (1, .int z1)]) hx hb dX7_orderAll_14 hl (k := 2) rfl (by rw [e3]; rfl) (by decide) rfl (fun ls hl => ?_)
      refine lv_goto (tgt := 2) hx hb dX7_orderAll_17 (by decide) ?_
      exact ih z1 y3 v_inOrder (upd v_order (z2).toNatClampNeg z2) hf _ _ _ hP (mp_D_of hD rfl) hS (lv_sub hl [1, 2, 0] rfl)

set_option maxHeartbeats 4000000 in
set_option maxRecDepth 100000 in
theorem c_X7_orderAll (l : Launch) (D : va_G) (T : Nat → ClassId) (fu : Nat) (a_ a_order a_knows a_made a_sixteenths a_dots a_used a_stands : Nat) (x1 : Int32) (v_place : Int32) (v_ill : Int32) (v_shut : Int32) (v_turns : Int32) (v_madeInAll : Int32) (v_inOrder : Int32) (v_order : (Nat → Int32)) (o_inOrder : Int32) (o_order : (Nat → Int32)) (hf : f_X7_orderAll fu x1 v_inOrder v_order = some (o_inOrder, o_order)) :
    mp_M l D T yX7_orderAll cX7_orderAll 3 none ({ frames := 0, cells := 0, slots := 0, locals := 0 }) 0 0 [.ref a_, .int x1] (k_X7_orderAll T a_ a_order a_knows a_made a_sixteenths a_dots a_used a_stands v_inOrder v_place v_ill v_shut v_turns v_madeInAll v_order) (mp_Qv D (k_X7_orderAll T a_ a_order a_knows a_made a_sixteenths a_dots a_used a_stands o_inOrder v_place v_ill v_shut v_turns v_madeInAll o_order)) := by
  refine mp_of (by decide) (Nat.le_of_ble_eq_true rfl) rfl ?_
  intro p e s m args below meth c A ls X hK hP hD hS hA hl
  replace X : mp_X p s m meth c args RX7 "orderAll" cX7_orderAll 3 none := X
  have hx := X.1
  have hb := X.2.1
  have hml := X.2.2.1
  have hown := X.2.2.2.2.1
  have hts := X.2.2.2.2.2.1
  replace hl : lv_has ls 3 [(0, .ref a_), (1, .int x1)] := hl
  replace hf : f_X7_orderAll_2 fu   fu x1 (nI 0) v_inOrder v_order = some (o_inOrder, o_order) := hf
  refine lv_iconst (v := (nI 0)) hx hb dX7_orderAll_0 (by decide) ?_
  refine lv_istore_n (lv' := [(2, .int (nI 0)), (0, .ref a_), (1, .int x1)]) hx hb dX7_orderAll_1 rfl hl (by decide) rfl (fun ls hl => ?_)
  exact w_X7_orderAll_2 X hK hA  fu a_ a_order a_knows a_made a_sixteenths a_dots a_used a_stands v_place v_ill v_shut v_turns v_madeInAll o_inOrder o_order   fu x1 (nI 0) v_inOrder v_order hf _ _ _ hP (mp_D_of hD rfl) hS (lv_sub hl [1, 2, 0] rfl)


def k_X5_isTest (T : Nat → ClassId) : va_W := []
set_option maxHeartbeats 4000000 in
set_option maxRecDepth 100000 in
theorem c_X5_isTest (l : Launch) (D : va_G) (T : Nat → ClassId) (x1 : Int32) (r_ : Int32) (hf : f_X5_isTest x1 = some r_) :
    mp_M l D T yX5_isTest cX5_isTest 1 (some .boolean) ({ frames := 0, cells := 0, slots := 0, locals := 0 }) 0 0 [.int x1] (k_X5_isTest T ) (mp_Qi D r_ (k_X5_isTest T )) := by
  refine mp_of (by decide) (Nat.le_of_ble_eq_true rfl) rfl ?_
  intro p e s m args below meth c A ls X hK hP hD hS hA hl
  replace X : mp_X p s m meth c args RX5 "isTest" cX5_isTest 1 (some .boolean) := X
  have hx := X.1
  have hb := X.2.1
  have hml := X.2.2.1
  have hown := X.2.2.2.2.1
  have hts := X.2.2.2.2.2.1
  replace hl : lv_has ls 1 [(0, .int x1)] := hl
  replace hf : (if x1 = (nI 8) then some ((nI 1)) else (if x1 = (nI 19) then some ((nI 1)) else (if x1 = (nI 20) then some ((nI 1)) else some ((nI 0))))) = some r_ := hf
  refine lv_iload_n hx hb dX5_isTest_0 rfl (lv_at hl 0 rfl) ?_
  refine lv_bipush (v := (nI 8)) hx hb dX5_isTest_1 (by decide) ?_
  refine lv_icmp_eq (tgt := 18) hx hb dX5_isTest_3 (by decide) (fun h1 => ?_) (fun h1 => ?_)
  · replace hf := if_t hf h1
    refine lv_iconst (v := (nI 1)) hx hb dX5_isTest_18 (by decide) ?_
    refine lv_goto (tgt := 23) hx hb dX5_isTest_19 (by decide) ?_
    cases hf
    exact mp_retz X hP hS rfl (Or.inr rfl) dX5_isTest_23
  · replace hf := if_f hf h1
    refine lv_iload_n hx hb dX5_isTest_6 rfl (lv_at hl 0 rfl) ?_
    refine lv_bipush (v := (nI 19)) hx hb dX5_isTest_7 (by decide) ?_
    refine lv_icmp_eq (tgt := 18) hx hb dX5_isTest_9 (by decide) (fun h2 => ?_) (fun h2 => ?_)
    · replace hf := if_t hf h2
      refine lv_iconst (v := (nI 1)) hx hb dX5_isTest_18 (by decide) ?_
      refine lv_goto (tgt := 23) hx hb dX5_isTest_19 (by decide) ?_
      cases hf
      exact mp_retz X hP hS rfl (Or.inr rfl) dX5_isTest_23
    · replace hf := if_f hf h2
      refine lv_iload_n hx hb dX5_isTest_12 rfl (lv_at hl 0 rfl) ?_
      refine lv_bipush (v := (nI 20)) hx hb dX5_isTest_13 (by decide) ?_
      refine lv_icmp_ne (tgt := 22) hx hb dX5_isTest_15 (by decide) (fun h3 => ?_) (fun h3 => ?_)
      · replace hf := if_f hf h3
        refine lv_iconst (v := (nI 0)) hx hb dX5_isTest_22 (by decide) ?_
        cases hf
        exact mp_retz X hP hS rfl (Or.inl rfl) dX5_isTest_23
      · replace hf := if_t hf h3
        refine lv_iconst (v := (nI 1)) hx hb dX5_isTest_18 (by decide) ?_
        refine lv_goto (tgt := 23) hx hb dX5_isTest_19 (by decide) ?_
        cases hf
        exact mp_retz X hP hS rfl (Or.inr rfl) dX5_isTest_23


def k_X5_add (T : Nat → ClassId) (a_ a_code a_one a_other a_mate : Nat) (v_present : Int32) (v_steps : Int32) (v_size : Int32) (v_code : (Nat → Int32)) (v_mate : (Nat → Int32)) (v_one : (Nat → Int32)) (v_other : (Nat → Int32)) : va_W := [(a_, oX5 v_present v_steps v_size a_code a_one a_other a_mate), (a_code, mp_aI T 60 v_code), (a_mate, mp_aI T 60 v_mate), (a_one, mp_aI T 60 v_one), (a_other, mp_aI T 60 v_other)]
set_option maxHeartbeats 4000000 in
set_option maxRecDepth 100000 in
theorem c_X5_add (l : Launch) (D : va_G) (T : Nat → ClassId) (a_ a_code a_one a_other a_mate : Nat) (x1 : Int32) (x2 : Int32) (x3 : Int32) (v_present : Int32) (v_steps : Int32) (v_size : Int32) (v_code : (Nat → Int32)) (v_mate : (Nat → Int32)) (v_one : (Nat → Int32)) (v_other : (Nat → Int32)) (r_ : Int32) (o_size : Int32) (o_code : (Nat → Int32)) (o_mate : (Nat → Int32)) (o_one : (Nat → Int32)) (o_other : (Nat → Int32)) (hf : f_X5_add x1 x2 x3 v_size v_code v_mate v_one v_other = some (r_, o_size, o_code, o_mate, o_one, o_other)) :
    mp_M l D T yX5_add cX5_add 4 (some .int) ({ frames := 0, cells := 0, slots := 0, locals := 0 }) 0 0 [.ref a_, .int x1, .int x2, .int x3] (k_X5_add T a_ a_code a_one a_other a_mate v_present v_steps v_size v_code v_mate v_one v_other) (mp_Qi D r_ (k_X5_add T a_ a_code a_one a_other a_mate v_present v_steps o_size o_code o_mate o_one o_other)) := by
  refine mp_of (by decide) (Nat.le_of_ble_eq_true rfl) rfl ?_
  intro p e s m args below meth c A ls X hK hP hD hS hA hl
  replace X : mp_X p s m meth c args RX5 "add" cX5_add 4 (some .int) := X
  have hx := X.1
  have hb := X.2.1
  have hml := X.2.2.1
  have hown := X.2.2.2.2.1
  have hts := X.2.2.2.2.2.1
  replace hl : lv_has ls 4 [(0, .ref a_), (1, .int x1), (2, .int x2), (3, .int x3)] := hl
  replace hf : (if v_size < (nI 60) then gi_ v_size 60 (gi_ v_size 60 (gi_ v_size 60 (gi_ v_size 60 (lt_ (v_size + (nI 1)) (fun (y6 : Int32) => some (y6 - (nI 1), y6, upd v_code (v_size).toNatClampNeg x1, upd v_mate (v_size).toNatClampNeg (-1 : Int32), upd v_one (v_size).toNatClampNeg x2, upd v_other (v_size).toNatClampNeg x3)))))) else some ((-1 : Int32), v_size, v_code, v_mate, v_one, v_other)) = some (r_, o_size, o_code, o_mate, o_one, o_other) := hf
  refine lv_aload_n hx hb dX5_add_0 rfl (lv_at hl 0 rfl) ?_
  refine mp_get X fl_X5_19 hK hP 0 rfl rfl dX5_add_1 ?_
  refine lv_bipush (v := (nI 60)) hx hb dX5_add_4 (by decide) ?_
  refine lv_icmp_lt (tgt := 11) hx hb dX5_add_6 (by decide) (fun h1 => ?_) (fun h1 => ?_)
  · replace hf := if_t hf h1
    refine lv_aload_n hx hb dX5_add_11 rfl (lv_at hl 0 rfl) ?_
    refine mp_get X fl_X5_22 hK hP 0 rfl rfl dX5_add_12 ?_
    refine lv_aload_n hx hb dX5_add_15 rfl (lv_at hl 0 rfl) ?_
    refine mp_get X fl_X5_19 hK hP 0 rfl rfl dX5_add_16 ?_
    refine lv_iload_n hx hb dX5_add_19 rfl (lv_at hl 1 rfl) ?_
    obtain ⟨h2, hf⟩ := gi_of hf
    refine va_iast hx hb hK hP (mp_D_of hD rfl) hS 1 0 rfl rfl h2 dX5_add_20 (fun H locs hP _ hS => ?_)
    replace hP : va_P D mp_cl (k_X5_add T a_ a_code a_one a_other a_mate v_present v_steps v_size (upd v_code (v_size).toNatClampNeg x1) v_mate v_one v_other) H := hP
    refine lv_aload_n hx hb dX5_add_21 rfl (lv_at hl 0 rfl) ?_
    refine mp_get X fl_X5_26 hK hP 0 rfl rfl dX5_add_22 ?_
    refine lv_aload_n hx hb dX5_add_25 rfl (lv_at hl 0 rfl) ?_
    refine mp_get X fl_X5_19 hK hP 0 rfl rfl dX5_add_26 ?_
    refine lv_iload_n hx hb dX5_add_29 rfl (lv_at hl 2 rfl) ?_
    obtain ⟨h3, hf⟩ := gi_of hf
    refine va_iast hx hb hK hP (mp_D_of hD rfl) hS 3 0 rfl rfl h3 dX5_add_30 (fun H locs hP _ hS => ?_)
    replace hP : va_P D mp_cl (k_X5_add T a_ a_code a_one a_other a_mate v_present v_steps v_size (upd v_code (v_size).toNatClampNeg x1) v_mate (upd v_one (v_size).toNatClampNeg x2) v_other) H := hP
    refine lv_aload_n hx hb dX5_add_31 rfl (lv_at hl 0 rfl) ?_
    refine mp_get X fl_X5_29 hK hP 0 rfl rfl dX5_add_32 ?_
    refine lv_aload_n hx hb dX5_add_35 rfl (lv_at hl 0 rfl) ?_
    refine mp_get X fl_X5_19 hK hP 0 rfl rfl dX5_add_36 ?_
    refine lv_iload_n hx hb dX5_add_39 rfl (lv_at hl 3 rfl) ?_
    obtain ⟨h4, hf⟩ := gi_of hf
    refine va_iast hx hb hK hP (mp_D_of hD rfl) hS 4 0 rfl rfl h4 dX5_add_40 (fun H locs hP _ hS => ?_)
    replace hP : va_P D mp_cl (k_X5_add T a_ a_code a_one a_other a_mate v_present v_steps v_size (upd v_code (v_size).toNatClampNeg x1) v_mate (upd v_one (v_size).toNatClampNeg x2) (upd v_other (v_size).toNatClampNeg x3)) H := hP
    refine lv_aload_n hx hb dX5_add_41 rfl (lv_at hl 0 rfl) ?_
    refine mp_get X fl_X5_32 hK hP 0 rfl rfl dX5_add_42 ?_
    refine lv_aload_n hx hb dX5_add_45 rfl (lv_at hl 0 rfl) ?_
    refine mp_get X fl_X5_19 hK hP 0 rfl rfl dX5_add_46 ?_
    refine lv_iconst (v := (-1 : Int32)) hx hb dX5_add_49 (by decide) ?_
    obtain ⟨h5, hf⟩ := gi_of hf
    refine va_iast hx hb hK hP (mp_D_of hD rfl) hS 2 0 rfl rfl h5 dX5_add_50 (fun H locs hP _ hS => ?_)
    replace hP : va_P D mp_cl (k_X5_add T a_ a_code a_one a_other a_mate v_present v_steps v_size (upd v_code (v_size).toNatClampNeg x1) (upd v_mate (v_size).toNatClampNeg (-1 : Int32)) (upd v_one (v_size).toNatClampNeg x2) (upd v_other (v_size).toNatClampNeg x3)) H := hP
    refine lv_aload_n hx hb dX5_add_51 rfl (lv_at hl 0 rfl) ?_
    refine lv_dup hx hb dX5_add_52 rfl ?_
    refine mp_get X fl_X5_19 hK hP 0 rfl rfl dX5_add_53 ?_
    refine lv_iconst (v := (nI 1)) hx hb dX5_add_56 (by decide) ?_
    refine lv_iadd hx hb dX5_add_57 ?_
    refine lv_topi (fun y6 e6 => ?_)
    replace hf := lt_of e6 hf
    refine mp_putf X fl_X5_19 fp_X5 rfl hK hP (mp_D_of hD rfl) hS 0 rfl rfl rfl (Nat.le_of_ble_eq_true rfl) dX5_add_58 (fun H locs hP _ hS => ?_)
    replace hP : va_P D mp_cl (k_X5_add T a_ a_code a_one a_other a_mate v_present v_steps y6 (upd v_code (v_size).toNatClampNeg x1) (upd v_mate (v_size).toNatClampNeg (-1 : Int32)) (upd v_one (v_size).toNatClampNeg x2) (upd v_other (v_size).toNatClampNeg x3)) H := hP
    refine lv_aload_n hx hb dX5_add_61 rfl (lv_at hl 0 rfl) ?_
    refine mp_get X fl_X5_19 hK hP 0 rfl rfl dX5_add_62 ?_
    refine lv_iconst (v := (nI 1)) hx hb dX5_add_65 (by decide) ?_
    refine lv_isub hx hb dX5_add_66 ?_
    cases hf
    exact mp_reti X hP hS rfl dX5_add_67
  · replace hf := if_f hf h1
    refine lv_iconst (v := (-1 : Int32)) hx hb dX5_add_9 (by decide) ?_
    cases hf
    exact mp_reti X hP hS rfl dX5_add_10


def k_X5_close (T : Nat → ClassId) (a_ a_code a_one a_other a_mate : Nat) (v_present : Int32) (v_steps : Int32) (v_size : Int32) (v_code : (Nat → Int32)) (v_mate : (Nat → Int32)) (v_one : (Nat → Int32)) (v_other : (Nat → Int32)) : va_W := [(a_, oX5 v_present v_steps v_size a_code a_one a_other a_mate), (a_code, mp_aI T 60 v_code), (a_mate, mp_aI T 60 v_mate), (a_one, mp_aI T 60 v_one), (a_other, mp_aI T 60 v_other)]
set_option maxHeartbeats 4000000 in
set_option maxRecDepth 100000 in
theorem c_X5_close (l : Launch) (D : va_G) (T : Nat → ClassId) (a_ a_code a_one a_other a_mate : Nat) (x1 : Int32) (v_present : Int32) (v_steps : Int32) (v_size : Int32) (v_code : (Nat → Int32)) (v_mate : (Nat → Int32)) (v_one : (Nat → Int32)) (v_other : (Nat → Int32)) (o_size : Int32) (o_code : (Nat → Int32)) (o_mate : (Nat → Int32)) (o_one : (Nat → Int32)) (o_other : (Nat → Int32)) (hf : f_X5_close x1 v_size v_code v_mate v_one v_other = some (o_size, o_code, o_mate, o_one, o_other)) :
    mp_M l D T yX5_close cX5_close 3 none ({ frames := 1, cells := 0, slots := 0, locals := 23 }) 0 0 [.ref a_, .int x1] (k_X5_close T a_ a_code a_one a_other a_mate v_present v_steps v_size v_code v_mate v_one v_other) (mp_Qv D (k_X5_close T a_ a_code a_one a_other a_mate v_present v_steps o_size o_code o_mate o_one o_other)) := by
  refine mp_of (by decide) (Nat.le_of_ble_eq_true rfl) rfl ?_
  intro p e s m args below meth c A ls X hK hP hD hS hA hl
  replace X : mp_X p s m meth c args RX5 "close" cX5_close 3 none := X
  have hx := X.1
  have hb := X.2.1
  have hml := X.2.2.1
  have hown := X.2.2.2.2.1
  have hts := X.2.2.2.2.2.1
  replace hl : lv_has ls 3 [(0, .ref a_), (1, .int x1)] := hl
  replace hf : bd_ (f_X5_add (nI 22) (nI 0) (nI 0) v_size v_code v_mate v_one v_other) (fun (z : Int32 × Int32 × (Nat → Int32) × (Nat → Int32) × (Nat → Int32) × (Nat → Int32)) => match z with | (r1, u2, u3, u4, u5, u6) => (if r1 = (-1 : Int32) then some (u2, u3, u4, u5, u6) else (if x1 < 0 then some (u2, u3, u4, u5, u6) else (if r1 ≤ x1 then some (u2, u3, u4, u5, u6) else gi_ r1 60 (gi_ x1 60 (some (u2, u3, upd (upd u4 (r1).toNatClampNeg x1) (x1).toNatClampNeg r1, u5, u6))))))) = some (o_size, o_code, o_mate, o_one, o_other) := hf
  refine lv_aload_n hx hb dX5_close_0 rfl (lv_at hl 0 rfl) ?_
  refine lv_bipush (v := (nI 22)) hx hb dX5_close_1 (by decide) ?_
  refine lv_iconst (v := (nI 0)) hx hb dX5_close_3 (by decide) ?_
  refine lv_iconst (v := (nI 0)) hx hb dX5_close_4 (by decide) ?_
  obtain ⟨⟨r1, u2, u3, u4, u5, u6⟩, c7, hf⟩ := bd_of hf
  dsimp only at hf
  have hPc := hP.sub (ws' := (k_X5_add T a_ a_code a_one a_other a_mate v_present v_steps v_size v_code v_mate v_one v_other)) [0, 1, 2, 3, 4] rfl
  have hDc := (mp_D_of (w1 := (k_X5_close T a_ a_code a_one a_other a_mate v_present v_steps v_size v_code v_mate v_one v_other)) hD rfl).sub (ws' := (k_X5_add T a_ a_code a_one a_other a_mate v_present v_steps v_size v_code v_mate v_one v_other)) [0, 1, 2, 3, 4] rfl rfl
  refine mp_calli (isC := [0, 1, 2, 3, 4]) (wc := (k_X5_add T a_ a_code a_one a_other a_mate v_present v_steps v_size v_code v_mate v_one v_other)) (w1 := (k_X5_add T a_ a_code a_one a_other a_mate v_present v_steps u2 u3 u4 u5 u6)) hP (mp_D_of hD rfl) hS hA rfl rfl (mp_runV (As := [.int (nI 22), .int (nI 0), .int (nI 0)]) (rest := []) X me_X5_add lk_X5_41 (c_X5_add l D T a_ a_code a_one a_other a_mate (nI 22) (nI 0) (nI 0) v_present v_steps v_size v_code v_mate v_one v_other r1 u2 u3 u4 u5 u6 c7) rfl rfl ⟨(Nat.le_of_ble_eq_true rfl), (Nat.le_of_ble_eq_true rfl)⟩ hK hPc hDc rfl rfl rfl rfl hl.1 rfl (Nat.le_of_ble_eq_true rfl) dX5_close_5 ⟨Nat.zero_le _, Nat.zero_le _⟩) (fun H locs hP _ hS => ?_)
  replace hP : va_P D mp_cl (k_X5_close T a_ a_code a_one a_other a_mate v_present v_steps u2 u3 u4 u5 u6) H := hP
  refine lv_istore_n (lv' := [(2, .int r1), (0, .ref a_), (1, .int x1)]) hx hb dX5_close_8 rfl hl (by decide) rfl (fun ls hl => ?_)
  refine lv_iload_n hx hb dX5_close_9 rfl (lv_at hl 0 rfl) ?_
  refine lv_iconst (v := (-1 : Int32)) hx hb dX5_close_10 (by decide) ?_
  refine lv_icmp_eq (tgt := 37) hx hb dX5_close_11 (by decide) (fun h8 => ?_) (fun h8 => ?_)
  · replace hf := if_t hf h8
    cases hf
    exact mp_retv X hP hS dX5_close_37
  · replace hf := if_f hf h8
    refine lv_iload_n hx hb dX5_close_14 rfl (lv_at hl 2 rfl) ?_
    refine lv_if_lt (tgt := 37) hx hb dX5_close_15 (by decide) (fun h9 => ?_) (fun h9 => ?_)
    · replace hf := if_t hf h9
      cases hf
      exact mp_retv X hP hS dX5_close_37
    · replace hf := if_f hf h9
      refine lv_iload_n hx hb dX5_close_18 rfl (lv_at hl 2 rfl) ?_
      refine lv_iload_n hx hb dX5_close_19 rfl (lv_at hl 0 rfl) ?_
      refine lv_icmp_ge (tgt := 37) hx hb dX5_close_20 (by decide) (fun h10 => ?_) (fun h10 => ?_)
      · replace hf := if_t hf h10
        cases hf
        exact mp_retv X hP hS dX5_close_37
      · replace hf := if_f hf h10
        refine lv_aload_n hx hb dX5_close_23 rfl (lv_at hl 1 rfl) ?_
        refine mp_get X fl_X5_32 hK hP 0 rfl rfl dX5_close_24 ?_
        refine lv_iload_n hx hb dX5_close_27 rfl (lv_at hl 0 rfl) ?_
        refine lv_iload_n hx hb dX5_close_28 rfl (lv_at hl 2 rfl) ?_
        obtain ⟨h11, hf⟩ := gi_of hf
        refine va_iast hx hb hK hP (mp_D_of hD rfl) hS 2 0 rfl rfl h11 dX5_close_29 (fun H locs hP _ hS => ?_)
        replace hP : va_P D mp_cl (k_X5_close T a_ a_code a_one a_other a_mate v_present v_steps u2 u3 (upd u4 (r1).toNatClampNeg x1) u5 u6) H := hP
        refine lv_aload_n hx hb dX5_close_30 rfl (lv_at hl 1 rfl) ?_
        refine mp_get X fl_X5_32 hK hP 0 rfl rfl dX5_close_31 ?_
        refine lv_iload_n hx hb dX5_close_34 rfl (lv_at hl 2 rfl) ?_
        refine lv_iload_n hx hb dX5_close_35 rfl (lv_at hl 0 rfl) ?_
        obtain ⟨h12, hf⟩ := gi_of hf
        refine va_iast hx hb hK hP (mp_D_of hD rfl) hS 2 0 rfl rfl h12 dX5_close_36 (fun H locs hP _ hS => ?_)
        replace hP : va_P D mp_cl (k_X5_close T a_ a_code a_one a_other a_mate v_present v_steps u2 u3 (upd (upd u4 (r1).toNatClampNeg x1) (x1).toNatClampNeg r1) u5 u6) H := hP
        cases hf
        exact mp_retv X hP hS dX5_close_37


def k_X7_usedInAll (T : Nat → ClassId) (a_ a_order a_knows a_made a_sixteenths a_dots a_used a_stands : Nat) (v_inOrder : Int32) (v_place : Int32) (v_ill : Int32) (v_shut : Int32) (v_turns : Int32) (v_madeInAll : Int32) (v_used : (Nat → Int32)) : va_W := [(a_, oX7 a_order v_inOrder v_place a_knows a_made a_sixteenths a_dots a_used a_stands v_ill v_shut v_turns v_madeInAll), (a_used, mp_aI T 6 v_used)]
set_option maxHeartbeats 4000000 in
set_option maxRecDepth 100000 in
theorem w_X7_usedInAll_4 {p : Program} {l : Launch} {e : Env} {s : State} {m : MethodId} {args : Array Value} {below : List Frame} {meth : Method} {c : Code} {D : va_G} {T : Nat → ClassId} {A : Nat → Prop} (X : mp_X p s m meth c args RX7 "usedInAll" cX7_usedInAll 3 (some .int)) (hK : va_K D mp_cl (mp_ty T) s) (hA : ∀ q, s.heap.size ≤ q → A q) (fu : Nat) (a_ a_order a_knows a_made a_sixteenths a_dots a_used a_stands : Nat) (v_inOrder : Int32) (v_place : Int32) (v_ill : Int32) (v_shut : Int32) (v_turns : Int32) (v_madeInAll : Int32) (v_used : (Nat → Int32)) (r_ : Int32) :
    ∀ (n : Nat) (z1 : Int32) (z2 : Int32), f_X7_usedInAll_4 fu v_used  n z1 z2 = some r_ → ∀ (H : Heap) (locs : List Loc) (ls : Array Slot), va_P D mp_cl (k_X7_usedInAll T a_ a_order a_knows a_made a_sixteenths a_dots a_used a_stands v_inOrder v_place v_ill v_shut v_turns v_madeInAll v_used) H → va_D A (k_X7_usedInAll T a_ a_order a_knows a_made a_sixteenths a_dots a_used a_stands v_inOrder v_place v_ill v_shut v_turns v_madeInAll v_used) → va_S A s.heap H locs → lv_has ls 3 [(0, .ref a_), (1, .int z1), (2, .int z2)] → W p l e ({ frames := 0, cells := 0, slots := 0, locals := 0 }) s m args below meth c H locs 0 0 (MQ below ((mp_Qi D r_ (k_X7_usedInAll T a_ a_order a_knows a_made a_sixteenths a_dots a_used a_stands v_inOrder v_place v_ill v_shut v_turns v_madeInAll v_used)) A) args s 0 0 A) (F0 m 4 ls []) := by
  have hx := X.1
  have hb := X.2.1
  have hml := X.2.2.1
  have hown := X.2.2.2.2.1
  have hts := X.2.2.2.2.2.1
  intro n
  induction n with
  | zero => intro z1 z2 hf; exact absurd hf (by intro h; cases h)
  | succ n ih =>
    intro z1 z2 hf H locs ls hP hD hS hl
    replace hf : (if (nI 6) ≤ z2 then some (z1) else gi_ z2 6 (lt_ (z1 + (v_used (z2).toNatClampNeg)) (fun (y3 : Int32) => lt_ (z2 + (nI 1)) (fun (y4 : Int32) => f_X7_usedInAll_4 fu v_used  n y3 y4)))) = some r_ := hf
    refine lv_iload_n hx hb dX7_usedInAll_4 rfl (lv_at hl 2 rfl) ?_
    refine lv_bipush (v := (nI 6)) hx hb dX7_usedInAll_5 (by decide) ?_
    refine lv_icmp_ge (tgt := 25) hx hb dX7_usedInAll_7 (by decide) (fun h1 => ?_) (fun h1 => ?_)
    · replace hf := if_t hf h1
      refine lv_iload_n hx hb dX7_usedInAll_25 rfl (lv_at hl 1 rfl) ?_
      cases hf
      exact mp_reti X hP hS rfl dX7_usedInAll_26
    · replace hf := if_f hf h1
      refine lv_iload_n hx hb dX7_usedInAll_10 rfl (lv_at hl 1 rfl) ?_
      refine lv_aload_n hx hb dX7_usedInAll_11 rfl (lv_at hl 0 rfl) ?_
      refine mp_get X fl_X7_34 hK hP 0 rfl rfl dX7_usedInAll_12 ?_
      refine lv_iload_n hx hb dX7_usedInAll_15 rfl (lv_at hl 2 rfl) ?_
      obtain ⟨h2, hf⟩ := gi_of hf
      refine va_iald hx hb hK hP 1 0 rfl rfl h2 dX7_usedInAll_16 ?_
      refine lv_iadd hx hb dX7_usedInAll_17 ?_
      refine lv_topi (fun y3 e3 => ?_)
      replace hf := lt_of e3 hf
      refine lv_istore_n (lv' := [(1, .int y3), (0, .ref a_), (2, .int z2)]) hx hb dX7_usedInAll_18 rfl hl (by decide) rfl (fun ls hl => ?_)
      obtain ⟨y4, e4⟩ : ∃ y : Int32, y = z2 + (nI 1) := ⟨_, rfl⟩
      replace hf := lt_of e4 hf
      refine lv_iinc (v := y4) (lv' := [(2, .int y4), (1, .int y3), (0, .ref a_)]) hx hb dX7_usedInAll_19 hl (k := 2) rfl (by rw [e4]; rfl) (by decide) rfl (fun ls hl => ?_)
      refine lv_goto (tgt := 4) hx hb dX7_usedInAll_22 (by decide) ?_
      exact ih y3 y4 hf _ _ _ hP (mp_D_of hD rfl) hS (lv_sub hl [2, 1, 0] rfl)

set_option maxHeartbeats 4000000 in
set_option maxRecDepth 100000 in
theorem c_X7_usedInAll (l : Launch) (D : va_G) (T : Nat → ClassId) (fu : Nat) (a_ a_order a_knows a_made a_sixteenths a_dots a_used a_stands : Nat) (v_inOrder : Int32) (v_place : Int32) (v_ill : Int32) (v_shut : Int32) (v_turns : Int32) (v_madeInAll : Int32) (v_used : (Nat → Int32)) (r_ : Int32) (hf : f_X7_usedInAll fu v_used = some r_) :
    mp_M l D T yX7_usedInAll cX7_usedInAll 3 (some .int) ({ frames := 0, cells := 0, slots := 0, locals := 0 }) 0 0 [.ref a_] (k_X7_usedInAll T a_ a_order a_knows a_made a_sixteenths a_dots a_used a_stands v_inOrder v_place v_ill v_shut v_turns v_madeInAll v_used) (mp_Qi D r_ (k_X7_usedInAll T a_ a_order a_knows a_made a_sixteenths a_dots a_used a_stands v_inOrder v_place v_ill v_shut v_turns v_madeInAll v_used)) := by
  refine mp_of (by decide) (Nat.le_of_ble_eq_true rfl) rfl ?_
  intro p e s m args below meth c A ls X hK hP hD hS hA hl
  replace X : mp_X p s m meth c args RX7 "usedInAll" cX7_usedInAll 3 (some .int) := X
  have hx := X.1
  have hb := X.2.1
  have hml := X.2.2.1
  have hown := X.2.2.2.2.1
  have hts := X.2.2.2.2.2.1
  replace hl : lv_has ls 3 [(0, .ref a_)] := hl
  replace hf : f_X7_usedInAll_4 fu v_used  fu (nI 0) (nI 0) = some r_ := hf
  refine lv_iconst (v := (nI 0)) hx hb dX7_usedInAll_0 (by decide) ?_
  refine lv_istore_n (lv' := [(1, .int (nI 0)), (0, .ref a_)]) hx hb dX7_usedInAll_1 rfl hl (by decide) rfl (fun ls hl => ?_)
  refine lv_iconst (v := (nI 0)) hx hb dX7_usedInAll_2 (by decide) ?_
  refine lv_istore_n (lv' := [(2, .int (nI 0)), (1, .int (nI 0)), (0, .ref a_)]) hx hb dX7_usedInAll_3 rfl hl (by decide) rfl (fun ls hl => ?_)
  exact w_X7_usedInAll_4 X hK hA  fu a_ a_order a_knows a_made a_sixteenths a_dots a_used a_stands v_inOrder v_place v_ill v_shut v_turns v_madeInAll v_used r_   fu (nI 0) (nI 0) hf _ _ _ hP (mp_D_of hD rfl) hS (lv_sub hl [2, 1, 0] rfl)


def k_X7_swapPlaces (T : Nat → ClassId) (a_ a_order a_knows a_made a_sixteenths a_dots a_used a_stands : Nat) (v_inOrder : Int32) (v_place : Int32) (v_ill : Int32) (v_shut : Int32) (v_turns : Int32) (v_madeInAll : Int32) (v_order : (Nat → Int32)) : va_W := [(a_, oX7 a_order v_inOrder v_place a_knows a_made a_sixteenths a_dots a_used a_stands v_ill v_shut v_turns v_madeInAll), (a_order, mp_aI T 8 v_order)]
set_option maxHeartbeats 4000000 in
set_option maxRecDepth 100000 in
theorem c_X7_swapPlaces (l : Launch) (D : va_G) (T : Nat → ClassId) (fu : Nat) (a_ a_order a_knows a_made a_sixteenths a_dots a_used a_stands : Nat) (x1 : Int32) (x2 : Int32) (v_place : Int32) (v_ill : Int32) (v_shut : Int32) (v_turns : Int32) (v_madeInAll : Int32) (v_inOrder : Int32) (v_order : (Nat → Int32)) (r_ : Int32) (o_order : (Nat → Int32)) (hf : f_X7_swapPlaces fu x1 x2 v_inOrder v_order = some (r_, o_order)) :
    mp_M l D T yX7_swapPlaces cX7_swapPlaces 5 (some .boolean) ({ frames := 1, cells := 0, slots := 0, locals := 22 }) 0 0 [.ref a_, .int x1, .int x2] (k_X7_swapPlaces T a_ a_order a_knows a_made a_sixteenths a_dots a_used a_stands v_inOrder v_place v_ill v_shut v_turns v_madeInAll v_order) (mp_Qi D r_ (k_X7_swapPlaces T a_ a_order a_knows a_made a_sixteenths a_dots a_used a_stands v_inOrder v_place v_ill v_shut v_turns v_madeInAll o_order)) := by
  refine mp_of (by decide) (Nat.le_of_ble_eq_true rfl) rfl ?_
  intro p e s m args below meth c A ls X hK hP hD hS hA hl
  replace X : mp_X p s m meth c args RX7 "swapPlaces" cX7_swapPlaces 5 (some .boolean) := X
  have hx := X.1
  have hb := X.2.1
  have hml := X.2.2.1
  have hown := X.2.2.2.2.1
  have hts := X.2.2.2.2.2.1
  replace hl : lv_has ls 5 [(0, .ref a_), (1, .int x1), (2, .int x2)] := hl
  replace hf : bd_ (f_X7_placeOf fu x1 v_inOrder v_order) (fun (r1 : Int32) => bd_ (f_X7_placeOf fu x2 v_inOrder v_order) (fun (r3 : Int32) => (if r1 = r3 then some ((nI 0), v_order) else (if r1 = (-1 : Int32) then some ((nI 0), v_order) else (if r3 = (-1 : Int32) then some ((nI 0), v_order) else gi_ r1 8 (gi_ r3 8 (some ((nI 1), upd (upd v_order (r1).toNatClampNeg x2) (r3).toNatClampNeg x1)))))))) = some (r_, o_order) := hf
  refine lv_aload_n hx hb dX7_swapPlaces_0 rfl (lv_at hl 0 rfl) ?_
  refine lv_iload_n hx hb dX7_swapPlaces_1 rfl (lv_at hl 1 rfl) ?_
  obtain ⟨r1, c2, hf⟩ := bd_of hf
  have hPc := hP.sub (ws' := (k_X7_placeOf T a_ a_order a_knows a_made a_sixteenths a_dots a_used a_stands v_inOrder v_place v_ill v_shut v_turns v_madeInAll v_order)) [0, 1] rfl
  have hDc := (mp_D_of (w1 := (k_X7_swapPlaces T a_ a_order a_knows a_made a_sixteenths a_dots a_used a_stands v_inOrder v_place v_ill v_shut v_turns v_madeInAll v_order)) hD rfl).sub (ws' := (k_X7_placeOf T a_ a_order a_knows a_made a_sixteenths a_dots a_used a_stands v_inOrder v_place v_ill v_shut v_turns v_madeInAll v_order)) [0, 1] rfl rfl
  refine mp_calli (isC := [0, 1]) (wc := (k_X7_placeOf T a_ a_order a_knows a_made a_sixteenths a_dots a_used a_stands v_inOrder v_place v_ill v_shut v_turns v_madeInAll v_order)) (w1 := (k_X7_placeOf T a_ a_order a_knows a_made a_sixteenths a_dots a_used a_stands v_inOrder v_place v_ill v_shut v_turns v_madeInAll v_order)) hP (mp_D_of hD rfl) hS hA rfl rfl (mp_runV (As := [.int x1]) (rest := []) X me_X7_placeOf lk_X7_73 (c_X7_placeOf l D T fu a_ a_order a_knows a_made a_sixteenths a_dots a_used a_stands x1 v_place v_ill v_shut v_turns v_madeInAll v_inOrder v_order r1 c2) rfl rfl ⟨(Nat.le_of_ble_eq_true rfl), (Nat.le_of_ble_eq_true rfl)⟩ hK hPc hDc rfl rfl rfl rfl hl.1 rfl (Nat.le_of_ble_eq_true rfl) dX7_swapPlaces_2 ⟨Nat.zero_le _, Nat.zero_le _⟩) (fun H locs hP _ hS => ?_)
  replace hP : va_P D mp_cl (k_X7_swapPlaces T a_ a_order a_knows a_made a_sixteenths a_dots a_used a_stands v_inOrder v_place v_ill v_shut v_turns v_madeInAll v_order) H := hP
  refine lv_istore_n (lv' := [(3, .int r1), (0, .ref a_), (1, .int x1), (2, .int x2)]) hx hb dX7_swapPlaces_5 rfl hl (by decide) rfl (fun ls hl => ?_)
  refine lv_aload_n hx hb dX7_swapPlaces_6 rfl (lv_at hl 1 rfl) ?_
  refine lv_iload_n hx hb dX7_swapPlaces_7 rfl (lv_at hl 3 rfl) ?_
  obtain ⟨r3, c4, hf⟩ := bd_of hf
  have hPc := hP.sub (ws' := (k_X7_placeOf T a_ a_order a_knows a_made a_sixteenths a_dots a_used a_stands v_inOrder v_place v_ill v_shut v_turns v_madeInAll v_order)) [0, 1] rfl
  have hDc := (mp_D_of (w1 := (k_X7_swapPlaces T a_ a_order a_knows a_made a_sixteenths a_dots a_used a_stands v_inOrder v_place v_ill v_shut v_turns v_madeInAll v_order)) hD rfl).sub (ws' := (k_X7_placeOf T a_ a_order a_knows a_made a_sixteenths a_dots a_used a_stands v_inOrder v_place v_ill v_shut v_turns v_madeInAll v_order)) [0, 1] rfl rfl
  refine mp_calli (isC := [0, 1]) (wc := (k_X7_placeOf T a_ a_order a_knows a_made a_sixteenths a_dots a_used a_stands v_inOrder v_place v_ill v_shut v_turns v_madeInAll v_order)) (w1 := (k_X7_placeOf T a_ a_order a_knows a_made a_sixteenths a_dots a_used a_stands v_inOrder v_place v_ill v_shut v_turns v_madeInAll v_order)) hP (mp_D_of hD rfl) hS hA rfl rfl (mp_runV (As := [.int x2]) (rest := []) X me_X7_placeOf lk_X7_73 (c_X7_placeOf l D T fu a_ a_order a_knows a_made a_sixteenths a_dots a_used a_stands x2 v_place v_ill v_shut v_turns v_madeInAll v_inOrder v_order r3 c4) rfl rfl ⟨(Nat.le_of_ble_eq_true rfl), (Nat.le_of_ble_eq_true rfl)⟩ hK hPc hDc rfl rfl rfl rfl hl.1 rfl (Nat.le_of_ble_eq_true rfl) dX7_swapPlaces_8 ⟨Nat.zero_le _, Nat.zero_le _⟩) (fun H locs hP _ hS => ?_)
  replace hP : va_P D mp_cl (k_X7_swapPlaces T a_ a_order a_knows a_made a_sixteenths a_dots a_used a_stands v_inOrder v_place v_ill v_shut v_turns v_madeInAll v_order) H := hP
  refine lv_istore (lv' := [(4, .int r3), (3, .int r1), (0, .ref a_), (1, .int x1), (2, .int x2)]) hx hb dX7_swapPlaces_11 hl (by decide) rfl (fun ls hl => ?_)
  refine lv_iload_n hx hb dX7_swapPlaces_13 rfl (lv_at hl 1 rfl) ?_
  refine lv_iload hx hb dX7_swapPlaces_14 (lv_at hl 0 rfl) ?_
  refine lv_icmp_eq (tgt := 30) hx hb dX7_swapPlaces_16 (by decide) (fun h5 => ?_) (fun h5 => ?_)
  · replace hf := if_t hf h5
    refine lv_iconst (v := (nI 0)) hx hb dX7_swapPlaces_30 (by decide) ?_
    cases hf
    exact mp_retz X hP hS rfl (Or.inl rfl) dX7_swapPlaces_31
  · replace hf := if_f hf h5
    refine lv_iload_n hx hb dX7_swapPlaces_19 rfl (lv_at hl 1 rfl) ?_
    refine lv_iconst (v := (-1 : Int32)) hx hb dX7_swapPlaces_20 (by decide) ?_
    refine lv_icmp_eq (tgt := 30) hx hb dX7_swapPlaces_21 (by decide) (fun h6 => ?_) (fun h6 => ?_)
    · replace hf := if_t hf h6
      refine lv_iconst (v := (nI 0)) hx hb dX7_swapPlaces_30 (by decide) ?_
      cases hf
      exact mp_retz X hP hS rfl (Or.inl rfl) dX7_swapPlaces_31
    · replace hf := if_f hf h6
      refine lv_iload hx hb dX7_swapPlaces_24 (lv_at hl 0 rfl) ?_
      refine lv_iconst (v := (-1 : Int32)) hx hb dX7_swapPlaces_26 (by decide) ?_
      refine lv_icmp_ne (tgt := 32) hx hb dX7_swapPlaces_27 (by decide) (fun h7 => ?_) (fun h7 => ?_)
      · replace hf := if_f hf h7
        refine lv_aload_n hx hb dX7_swapPlaces_32 rfl (lv_at hl 2 rfl) ?_
        refine mp_get X fl_X7_9 hK hP 0 rfl rfl dX7_swapPlaces_33 ?_
        refine lv_iload_n hx hb dX7_swapPlaces_36 rfl (lv_at hl 1 rfl) ?_
        refine lv_iload_n hx hb dX7_swapPlaces_37 rfl (lv_at hl 4 rfl) ?_
        obtain ⟨h8, hf⟩ := gi_of hf
        refine va_iast hx hb hK hP (mp_D_of hD rfl) hS 1 0 rfl rfl h8 dX7_swapPlaces_38 (fun H locs hP _ hS => ?_)
        replace hP : va_P D mp_cl (k_X7_swapPlaces T a_ a_order a_knows a_made a_sixteenths a_dots a_used a_stands v_inOrder v_place v_ill v_shut v_turns v_madeInAll (upd v_order (r1).toNatClampNeg x2)) H := hP
        refine lv_aload_n hx hb dX7_swapPlaces_39 rfl (lv_at hl 2 rfl) ?_
        refine mp_get X fl_X7_9 hK hP 0 rfl rfl dX7_swapPlaces_40 ?_
        refine lv_iload hx hb dX7_swapPlaces_43 (lv_at hl 0 rfl) ?_
        refine lv_iload_n hx hb dX7_swapPlaces_45 rfl (lv_at hl 3 rfl) ?_
        obtain ⟨h9, hf⟩ := gi_of hf
        refine va_iast hx hb hK hP (mp_D_of hD rfl) hS 1 0 rfl rfl h9 dX7_swapPlaces_46 (fun H locs hP _ hS => ?_)
        replace hP : va_P D mp_cl (k_X7_swapPlaces T a_ a_order a_knows a_made a_sixteenths a_dots a_used a_stands v_inOrder v_place v_ill v_shut v_turns v_madeInAll (upd (upd v_order (r1).toNatClampNeg x2) (r3).toNatClampNeg x1)) H := hP
        refine lv_iconst (v := (nI 1)) hx hb dX7_swapPlaces_47 (by decide) ?_
        cases hf
        exact mp_retz X hP hS rfl (Or.inr rfl) dX7_swapPlaces_48
      · replace hf := if_t hf h7
        refine lv_iconst (v := (nI 0)) hx hb dX7_swapPlaces_30 (by decide) ?_
        cases hf
        exact mp_retz X hP hS rfl (Or.inl rfl) dX7_swapPlaces_31


def k_X7_erasePage (T : Nat → ClassId) (a_ a_order a_knows a_made a_sixteenths a_dots a_used a_stands : Nat) (v_inOrder : Int32) (v_place : Int32) (v_ill : Int32) (v_shut : Int32) (v_turns : Int32) (v_madeInAll : Int32) (v_dots : (Nat → Int32)) (v_stands : (Nat → Int32)) (v_used : (Nat → Int32)) : va_W := [(a_, oX7 a_order v_inOrder v_place a_knows a_made a_sixteenths a_dots a_used a_stands v_ill v_shut v_turns v_madeInAll), (a_dots, mp_aI T 36 v_dots), (a_stands, mp_aI T 6 v_stands), (a_used, mp_aI T 6 v_used)]
set_option maxHeartbeats 4000000 in
set_option maxRecDepth 100000 in
theorem w_X7_erasePage_9 {p : Program} {l : Launch} {e : Env} {s : State} {m : MethodId} {args : Array Value} {below : List Frame} {meth : Method} {c : Code} {D : va_G} {T : Nat → ClassId} {A : Nat → Prop} (X : mp_X p s m meth c args RX7 "erasePage" cX7_erasePage 4 (some .int)) (hK : va_K D mp_cl (mp_ty T) s) (hA : ∀ q, s.heap.size ≤ q → A q) (fu : Nat) (a_ a_order a_knows a_made a_sixteenths a_dots a_used a_stands : Nat) (v_inOrder : Int32) (v_place : Int32) (v_ill : Int32) (v_shut : Int32) (v_turns : Int32) (v_madeInAll : Int32) (r_ : Int32) (o_dots : (Nat → Int32)) (o_stands : (Nat → Int32)) (o_used : (Nat → Int32)) :
    ∀ (n : Nat) (z1 : Int32) (z2 : Int32) (z3 : Int32) (v_dots : (Nat → Int32)) (v_stands : (Nat → Int32)) (v_used : (Nat → Int32)), f_X7_erasePage_9 fu   n z1 z2 z3 v_dots v_stands v_used = some (r_, o_dots, o_stands, o_used) → ∀ (H : Heap) (locs : List Loc) (ls : Array Slot), va_P D mp_cl (k_X7_erasePage T a_ a_order a_knows a_made a_sixteenths a_dots a_used a_stands v_inOrder v_place v_ill v_shut v_turns v_madeInAll v_dots v_stands v_used) H → va_D A (k_X7_erasePage T a_ a_order a_knows a_made a_sixteenths a_dots a_used a_stands v_inOrder v_place v_ill v_shut v_turns v_madeInAll v_dots v_stands v_used) → va_S A s.heap H locs → lv_has ls 4 [(0, .ref a_), (1, .int z1), (2, .int z2), (3, .int z3)] → W p l e ({ frames := 0, cells := 0, slots := 0, locals := 0 }) s m args below meth c H locs 0 0 (MQ below ((mp_Qi D r_ (k_X7_erasePage T a_ a_order a_knows a_made a_sixteenths a_dots a_used a_stands v_inOrder v_place v_ill v_shut v_turns v_madeInAll o_dots o_stands o_used)) A) args s 0 0 A) (F0 m 9 ls []) := by
  have hx := X.1
  have hb := X.2.1
  have hml := X.2.2.1
  have hown := X.2.2.2.2.1
  have hts := X.2.2.2.2.2.1
  intro n
  induction n with
  | zero => intro z1 z2 z3 v_dots v_stands v_used hf; exact absurd hf (by intro h; cases h)
  | succ n ih =>
    intro z1 z2 z3 v_dots v_stands v_used hf H locs ls hP hD hS hl
    replace hf : (if (nI 6) ≤ z3 then gi_ z1 6 (gi_ z1 6 (some (z2, v_dots, upd v_stands (z1).toNatClampNeg (nI 0), upd v_used (z1).toNatClampNeg (nI 0)))) else gi_ ((z1 * (nI 6)) + z3) 36 (lt_ (z3 + (nI 1)) (fun (y5 : Int32) => f_X7_erasePage_9 fu   n z1 z2 y5 (upd v_dots ((z1 * (nI 6)) + z3).toNatClampNeg (nI 0)) v_stands v_used))) = some (r_, o_dots, o_stands, o_used) := hf
    refine lv_iload_n hx hb dX7_erasePage_9 rfl (lv_at hl 3 rfl) ?_
    refine lv_bipush (v := (nI 6)) hx hb dX7_erasePage_10 (by decide) ?_
    refine lv_icmp_ge (tgt := 33) hx hb dX7_erasePage_12 (by decide) (fun h1 => ?_) (fun h1 => ?_)
    · replace hf := if_t hf h1
      refine lv_aload_n hx hb dX7_erasePage_33 rfl (lv_at hl 0 rfl) ?_
      refine mp_get X fl_X7_34 hK hP 0 rfl rfl dX7_erasePage_34 ?_
      refine lv_iload_n hx hb dX7_erasePage_37 rfl (lv_at hl 1 rfl) ?_
      refine lv_iconst (v := (nI 0)) hx hb dX7_erasePage_38 (by decide) ?_
      obtain ⟨h2, hf⟩ := gi_of hf
      refine va_iast hx hb hK hP (mp_D_of hD rfl) hS 3 0 rfl rfl h2 dX7_erasePage_39 (fun H locs hP _ hS => ?_)
      replace hP : va_P D mp_cl (k_X7_erasePage T a_ a_order a_knows a_made a_sixteenths a_dots a_used a_stands v_inOrder v_place v_ill v_shut v_turns v_madeInAll v_dots v_stands (upd v_used (z1).toNatClampNeg (nI 0))) H := hP
      refine lv_aload_n hx hb dX7_erasePage_40 rfl (lv_at hl 0 rfl) ?_
      refine mp_get X fl_X7_37 hK hP 0 rfl rfl dX7_erasePage_41 ?_
      refine lv_iload_n hx hb dX7_erasePage_44 rfl (lv_at hl 1 rfl) ?_
      refine lv_iconst (v := (nI 0)) hx hb dX7_erasePage_45 (by decide) ?_
      obtain ⟨h3, hf⟩ := gi_of hf
      refine va_iast hx hb hK hP (mp_D_of hD rfl) hS 2 0 rfl rfl h3 dX7_erasePage_46 (fun H locs hP _ hS => ?_)
      replace hP : va_P D mp_cl (k_X7_erasePage T a_ a_order a_knows a_made a_sixteenths a_dots a_used a_stands v_inOrder v_place v_ill v_shut v_turns v_madeInAll v_dots (upd v_stands (z1).toNatClampNeg (nI 0)) (upd v_used (z1).toNatClampNeg (nI 0))) H := hP
      refine lv_iload_n hx hb dX7_erasePage_47 rfl (lv_at hl 2 rfl) ?_
      cases hf
      exact mp_reti X hP hS rfl dX7_erasePage_48
    · replace hf := if_f hf h1
      refine lv_aload_n hx hb dX7_erasePage_15 rfl (lv_at hl 0 rfl) ?_
      refine mp_get X fl_X7_31 hK hP 0 rfl rfl dX7_erasePage_16 ?_
      refine lv_iload_n hx hb dX7_erasePage_19 rfl (lv_at hl 1 rfl) ?_
      refine lv_bipush (v := (nI 6)) hx hb dX7_erasePage_20 (by decide) ?_
      refine lv_imul hx hb dX7_erasePage_22 ?_
      refine lv_iload_n hx hb dX7_erasePage_23 rfl (lv_at hl 3 rfl) ?_
      refine lv_iadd hx hb dX7_erasePage_24 ?_
      refine lv_iconst (v := (nI 0)) hx hb dX7_erasePage_25 (by decide) ?_
      obtain ⟨h4, hf⟩ := gi_of hf
      refine va_iast hx hb hK hP (mp_D_of hD rfl) hS 1 0 rfl rfl h4 dX7_erasePage_26 (fun H locs hP _ hS => ?_)
      replace hP : va_P D mp_cl (k_X7_erasePage T a_ a_order a_knows a_made a_sixteenths a_dots a_used a_stands v_inOrder v_place v_ill v_shut v_turns v_madeInAll (upd v_dots ((z1 * (nI 6)) + z3).toNatClampNeg (nI 0)) v_stands v_used) H := hP
      obtain ⟨y5, e5⟩ : ∃ y : Int32, y = z3 + (nI 1) := ⟨_, rfl⟩
      replace hf := lt_of e5 hf
      refine lv_iinc (v := y5) (lv' := [(3, .int y5), (0, .ref a_), (1, .int z1), (2, .int z2)]) hx hb dX7_erasePage_27 hl (k := 3) rfl (by rw [e5]; rfl) (by decide) rfl (fun ls hl => ?_)
      refine lv_goto (tgt := 9) hx hb dX7_erasePage_30 (by decide) ?_
      exact ih z1 z2 y5 (upd v_dots ((z1 * (nI 6)) + z3).toNatClampNeg (nI 0)) v_stands v_used hf _ _ _ hP (mp_D_of hD rfl) hS (lv_sub hl [1, 2, 3, 0] rfl)

set_option maxHeartbeats 4000000 in
set_option maxRecDepth 100000 in
theorem c_X7_erasePage (l : Launch) (D : va_G) (T : Nat → ClassId) (fu : Nat) (a_ a_order a_knows a_made a_sixteenths a_dots a_used a_stands : Nat) (x1 : Int32) (v_inOrder : Int32) (v_place : Int32) (v_ill : Int32) (v_shut : Int32) (v_turns : Int32) (v_madeInAll : Int32) (v_dots : (Nat → Int32)) (v_stands : (Nat → Int32)) (v_used : (Nat → Int32)) (r_ : Int32) (o_dots : (Nat → Int32)) (o_stands : (Nat → Int32)) (o_used : (Nat → Int32)) (hf : f_X7_erasePage fu x1 v_dots v_stands v_used = some (r_, o_dots, o_stands, o_used)) :
    mp_M l D T yX7_erasePage cX7_erasePage 4 (some .int) ({ frames := 0, cells := 0, slots := 0, locals := 0 }) 0 0 [.ref a_, .int x1] (k_X7_erasePage T a_ a_order a_knows a_made a_sixteenths a_dots a_used a_stands v_inOrder v_place v_ill v_shut v_turns v_madeInAll v_dots v_stands v_used) (mp_Qi D r_ (k_X7_erasePage T a_ a_order a_knows a_made a_sixteenths a_dots a_used a_stands v_inOrder v_place v_ill v_shut v_turns v_madeInAll o_dots o_stands o_used)) := by
  refine mp_of (by decide) (Nat.le_of_ble_eq_true rfl) rfl ?_
  intro p e s m args below meth c A ls X hK hP hD hS hA hl
  replace X : mp_X p s m meth c args RX7 "erasePage" cX7_erasePage 4 (some .int) := X
  have hx := X.1
  have hb := X.2.1
  have hml := X.2.2.1
  have hown := X.2.2.2.2.1
  have hts := X.2.2.2.2.2.1
  replace hl : lv_has ls 4 [(0, .ref a_), (1, .int x1)] := hl
  replace hf : gi_ x1 6 (lt_ (v_used (x1).toNatClampNeg) (fun (y2 : Int32) => f_X7_erasePage_9 fu   fu x1 y2 (nI 0) v_dots v_stands v_used)) = some (r_, o_dots, o_stands, o_used) := hf
  refine lv_aload_n hx hb dX7_erasePage_0 rfl (lv_at hl 0 rfl) ?_
  refine mp_get X fl_X7_34 hK hP 0 rfl rfl dX7_erasePage_1 ?_
  refine lv_iload_n hx hb dX7_erasePage_4 rfl (lv_at hl 1 rfl) ?_
  obtain ⟨h1, hf⟩ := gi_of hf
  refine va_iald hx hb hK hP 3 0 rfl rfl h1 dX7_erasePage_5 ?_
  refine lv_topi (fun y2 e2 => ?_)
  replace hf := lt_of e2 hf
  refine lv_istore_n (lv' := [(2, .int y2), (0, .ref a_), (1, .int x1)]) hx hb dX7_erasePage_6 rfl hl (by decide) rfl (fun ls hl => ?_)
  refine lv_iconst (v := (nI 0)) hx hb dX7_erasePage_7 (by decide) ?_
  refine lv_istore_n (lv' := [(3, .int (nI 0)), (2, .int y2), (0, .ref a_), (1, .int x1)]) hx hb dX7_erasePage_8 rfl hl (by decide) rfl (fun ls hl => ?_)
  exact w_X7_erasePage_9 X hK hA  fu a_ a_order a_knows a_made a_sixteenths a_dots a_used a_stands v_inOrder v_place v_ill v_shut v_turns v_madeInAll r_ o_dots o_stands o_used   fu x1 y2 (nI 0) v_dots v_stands v_used hf _ _ _ hP (mp_D_of hD rfl) hS (lv_sub hl [2, 3, 1, 0] rfl)


