def k_X7_copyFrom (T : Nat → ClassId) (a_ a_order a_knows a_made a_sixteenths a_dots a_used a_stands a_p1 a_p1_order a_p1_knows a_p1_made a_p1_sixteenths a_p1_dots a_p1_used a_p1_stands : Nat) (v_inOrder : Int32) (v_place : Int32) (v_ill : Int32) (v_shut : Int32) (v_turns : Int32) (v_madeInAll : Int32) (v_dots : (Nat → Int32)) (v_knows : (Nat → Int32)) (v_made : (Nat → Int32)) (v_order : (Nat → Int32)) (v_sixteenths : (Nat → Int32)) (v_stands : (Nat → Int32)) (v_used : (Nat → Int32)) (v_p1_inOrder : Int32) (v_p1_place : Int32) (v_p1_ill : Int32) (v_p1_shut : Int32) (v_p1_turns : Int32) (v_p1_madeInAll : Int32) (v_p1_dots : (Nat → Int32)) (v_p1_knows : (Nat → Int32)) (v_p1_made : (Nat → Int32)) (v_p1_order : (Nat → Int32)) (v_p1_sixteenths : (Nat → Int32)) (v_p1_stands : (Nat → Int32)) (v_p1_used : (Nat → Int32)) : va_W := [(a_, oX7 a_order v_inOrder v_place a_knows a_made a_sixteenths a_dots a_used a_stands v_ill v_shut v_turns v_madeInAll), (a_dots, mp_aI T 36 v_dots), (a_knows, mp_aI T 8 v_knows), (a_made, mp_aI T 8 v_made), (a_order, mp_aI T 8 v_order), (a_sixteenths, mp_aI T 6 v_sixteenths), (a_stands, mp_aI T 6 v_stands), (a_used, mp_aI T 6 v_used), (a_p1, oX7 a_p1_order v_p1_inOrder v_p1_place a_p1_knows a_p1_made a_p1_sixteenths a_p1_dots a_p1_used a_p1_stands v_p1_ill v_p1_shut v_p1_turns v_p1_madeInAll), (a_p1_dots, mp_aI T 36 v_p1_dots), (a_p1_knows, mp_aI T 8 v_p1_knows), (a_p1_made, mp_aI T 8 v_p1_made), (a_p1_order, mp_aI T 8 v_p1_order), (a_p1_sixteenths, mp_aI T 6 v_p1_sixteenths), (a_p1_stands, mp_aI T 6 v_p1_stands), (a_p1_used, mp_aI T 6 v_p1_used)]
set_option maxHeartbeats 4000000 in
set_option maxRecDepth 100000 in
theorem c_X7_copyFrom (l : Launch) (D : va_G) (T : Nat → ClassId) (a_ a_order a_knows a_made a_sixteenths a_dots a_used a_stands a_p1 a_p1_order a_p1_knows a_p1_made a_p1_sixteenths a_p1_dots a_p1_used a_p1_stands : Nat) (v_inOrder : Int32) (v_place : Int32) (v_ill : Int32) (v_shut : Int32) (v_turns : Int32) (v_madeInAll : Int32) (v_dots : (Nat → Int32)) (v_knows : (Nat → Int32)) (v_made : (Nat → Int32)) (v_order : (Nat → Int32)) (v_sixteenths : (Nat → Int32)) (v_stands : (Nat → Int32)) (v_used : (Nat → Int32)) (v_p1_inOrder : Int32) (v_p1_place : Int32) (v_p1_ill : Int32) (v_p1_shut : Int32) (v_p1_turns : Int32) (v_p1_madeInAll : Int32) (v_p1_dots : (Nat → Int32)) (v_p1_knows : (Nat → Int32)) (v_p1_made : (Nat → Int32)) (v_p1_order : (Nat → Int32)) (v_p1_sixteenths : (Nat → Int32)) (v_p1_stands : (Nat → Int32)) (v_p1_used : (Nat → Int32)) (o_inOrder : Int32) (o_place : Int32) (o_ill : Int32) (o_shut : Int32) (o_turns : Int32) (o_madeInAll : Int32) (o_dots : (Nat → Int32)) (o_knows : (Nat → Int32)) (o_made : (Nat → Int32)) (o_order : (Nat → Int32)) (o_sixteenths : (Nat → Int32)) (o_stands : (Nat → Int32)) (o_used : (Nat → Int32)) (hf : f_X7_copyFrom v_inOrder v_place v_ill v_shut v_turns v_madeInAll v_dots v_knows v_made v_order v_sixteenths v_stands v_used v_p1_inOrder v_p1_place v_p1_ill v_p1_shut v_p1_turns v_p1_madeInAll v_p1_dots v_p1_knows v_p1_made v_p1_order v_p1_sixteenths v_p1_stands v_p1_used = some (o_inOrder, o_place, o_ill, o_shut, o_turns, o_madeInAll, o_dots, o_knows, o_made, o_order, o_sixteenths, o_stands, o_used)) :
    mp_M l D T yX7_copyFrom cX7_copyFrom 2 none ({ frames := 1, cells := 0, slots := 0, locals := 40 }) 0 0 [.ref a_, .ref a_p1] (k_X7_copyFrom T a_ a_order a_knows a_made a_sixteenths a_dots a_used a_stands a_p1 a_p1_order a_p1_knows a_p1_made a_p1_sixteenths a_p1_dots a_p1_used a_p1_stands v_inOrder v_place v_ill v_shut v_turns v_madeInAll v_dots v_knows v_made v_order v_sixteenths v_stands v_used v_p1_inOrder v_p1_place v_p1_ill v_p1_shut v_p1_turns v_p1_madeInAll v_p1_dots v_p1_knows v_p1_made v_p1_order v_p1_sixteenths v_p1_stands v_p1_used) (mp_Qv D (k_X7_copyFrom T a_ a_order a_knows a_made a_sixteenths a_dots a_used a_stands a_p1 a_p1_order a_p1_knows a_p1_made a_p1_sixteenths a_p1_dots a_p1_used a_p1_stands o_inOrder o_place o_ill o_shut o_turns o_madeInAll o_dots o_knows o_made o_order o_sixteenths o_stands o_used v_p1_inOrder v_p1_place v_p1_ill v_p1_shut v_p1_turns v_p1_madeInAll v_p1_dots v_p1_knows v_p1_made v_p1_order v_p1_sixteenths v_p1_stands v_p1_used)) := by
  refine mp_of (by decide) (Nat.le_of_ble_eq_true rfl) rfl ?_
  intro p e s m args below meth c A ls X hK hP hD hS hA hl
  replace X : mp_X p s m meth c args RX7 "copyFrom" cX7_copyFrom 2 none := X
  have hx := X.1
  have hb := X.2.1
  have hml := X.2.2.1
  have hown := X.2.2.2.2.1
  have hts := X.2.2.2.2.2.1
  replace hl : lv_has ls 2 [(0, .ref a_), (1, .ref a_p1)] := hl
  replace hf : gc_ (nI 0) (nI 0) (nI 8) 8 8 (gc_ (nI 0) (nI 0) (nI 8) 8 8 (gc_ (nI 0) (nI 0) (nI 8) 8 8 (gc_ (nI 0) (nI 0) (nI 6) 6 6 (gc_ (nI 0) (nI 0) (nI 36) 36 36 (gc_ (nI 0) (nI 0) (nI 6) 6 6 (gc_ (nI 0) (nI 0) (nI 6) 6 6 (some (v_p1_inOrder, v_p1_place, v_p1_ill, v_p1_shut, v_p1_turns, v_p1_madeInAll, va_cpy v_p1_dots v_dots ((nI 0)).toNatClampNeg ((nI 0)).toNatClampNeg ((nI 36)).toNatClampNeg, va_cpy v_p1_knows v_knows ((nI 0)).toNatClampNeg ((nI 0)).toNatClampNeg ((nI 8)).toNatClampNeg, va_cpy v_p1_made v_made ((nI 0)).toNatClampNeg ((nI 0)).toNatClampNeg ((nI 8)).toNatClampNeg, va_cpy v_p1_order v_order ((nI 0)).toNatClampNeg ((nI 0)).toNatClampNeg ((nI 8)).toNatClampNeg, va_cpy v_p1_sixteenths v_sixteenths ((nI 0)).toNatClampNeg ((nI 0)).toNatClampNeg ((nI 6)).toNatClampNeg, va_cpy v_p1_stands v_stands ((nI 0)).toNatClampNeg ((nI 0)).toNatClampNeg ((nI 6)).toNatClampNeg, va_cpy v_p1_used v_used ((nI 0)).toNatClampNeg ((nI 0)).toNatClampNeg ((nI 6)).toNatClampNeg)))))))) = some (o_inOrder, o_place, o_ill, o_shut, o_turns, o_madeInAll, o_dots, o_knows, o_made, o_order, o_sixteenths, o_stands, o_used) := hf
  refine lv_aload_n hx hb dX7_copyFrom_0 rfl (lv_at hl 0 rfl) ?_
  refine lv_aload_n hx hb dX7_copyFrom_1 rfl (lv_at hl 1 rfl) ?_
  refine mp_get X fl_X7_15 hK hP 8 rfl rfl dX7_copyFrom_2 ?_
  refine mp_putf X fl_X7_15 fp_X7 rfl hK hP (mp_D_of hD rfl) hS 0 rfl rfl rfl (Nat.le_of_ble_eq_true rfl) dX7_copyFrom_5 (fun H locs hP _ hS => ?_)
  replace hP : va_P D mp_cl (k_X7_copyFrom T a_ a_order a_knows a_made a_sixteenths a_dots a_used a_stands a_p1 a_p1_order a_p1_knows a_p1_made a_p1_sixteenths a_p1_dots a_p1_used a_p1_stands v_p1_inOrder v_place v_ill v_shut v_turns v_madeInAll v_dots v_knows v_made v_order v_sixteenths v_stands v_used v_p1_inOrder v_p1_place v_p1_ill v_p1_shut v_p1_turns v_p1_madeInAll v_p1_dots v_p1_knows v_p1_made v_p1_order v_p1_sixteenths v_p1_stands v_p1_used) H := hP
  refine lv_aload_n hx hb dX7_copyFrom_8 rfl (lv_at hl 0 rfl) ?_
  refine lv_aload_n hx hb dX7_copyFrom_9 rfl (lv_at hl 1 rfl) ?_
  refine mp_get X fl_X7_19 hK hP 8 rfl rfl dX7_copyFrom_10 ?_
  refine mp_putf X fl_X7_19 fp_X7 rfl hK hP (mp_D_of hD rfl) hS 0 rfl rfl rfl (Nat.le_of_ble_eq_true rfl) dX7_copyFrom_13 (fun H locs hP _ hS => ?_)
  replace hP : va_P D mp_cl (k_X7_copyFrom T a_ a_order a_knows a_made a_sixteenths a_dots a_used a_stands a_p1 a_p1_order a_p1_knows a_p1_made a_p1_sixteenths a_p1_dots a_p1_used a_p1_stands v_p1_inOrder v_p1_place v_ill v_shut v_turns v_madeInAll v_dots v_knows v_made v_order v_sixteenths v_stands v_used v_p1_inOrder v_p1_place v_p1_ill v_p1_shut v_p1_turns v_p1_madeInAll v_p1_dots v_p1_knows v_p1_made v_p1_order v_p1_sixteenths v_p1_stands v_p1_used) H := hP
  refine lv_aload_n hx hb dX7_copyFrom_16 rfl (lv_at hl 0 rfl) ?_
  refine lv_aload_n hx hb dX7_copyFrom_17 rfl (lv_at hl 1 rfl) ?_
  refine mp_get X fl_X7_40 hK hP 8 rfl rfl dX7_copyFrom_18 ?_
  refine mp_putf X fl_X7_40 fp_X7 rfl hK hP (mp_D_of hD rfl) hS 0 rfl rfl rfl (Nat.le_of_ble_eq_true rfl) dX7_copyFrom_21 (fun H locs hP _ hS => ?_)
  replace hP : va_P D mp_cl (k_X7_copyFrom T a_ a_order a_knows a_made a_sixteenths a_dots a_used a_stands a_p1 a_p1_order a_p1_knows a_p1_made a_p1_sixteenths a_p1_dots a_p1_used a_p1_stands v_p1_inOrder v_p1_place v_p1_ill v_shut v_turns v_madeInAll v_dots v_knows v_made v_order v_sixteenths v_stands v_used v_p1_inOrder v_p1_place v_p1_ill v_p1_shut v_p1_turns v_p1_madeInAll v_p1_dots v_p1_knows v_p1_made v_p1_order v_p1_sixteenths v_p1_stands v_p1_used) H := hP
  refine lv_aload_n hx hb dX7_copyFrom_24 rfl (lv_at hl 0 rfl) ?_
  refine lv_aload_n hx hb dX7_copyFrom_25 rfl (lv_at hl 1 rfl) ?_
  refine mp_get X fl_X7_43 hK hP 8 rfl rfl dX7_copyFrom_26 ?_
  refine mp_putf X fl_X7_43 fp_X7 rfl hK hP (mp_D_of hD rfl) hS 0 rfl rfl rfl (Nat.le_of_ble_eq_true rfl) dX7_copyFrom_29 (fun H locs hP _ hS => ?_)
  replace hP : va_P D mp_cl (k_X7_copyFrom T a_ a_order a_knows a_made a_sixteenths a_dots a_used a_stands a_p1 a_p1_order a_p1_knows a_p1_made a_p1_sixteenths a_p1_dots a_p1_used a_p1_stands v_p1_inOrder v_p1_place v_p1_ill v_p1_shut v_turns v_madeInAll v_dots v_knows v_made v_order v_sixteenths v_stands v_used v_p1_inOrder v_p1_place v_p1_ill v_p1_shut v_p1_turns v_p1_madeInAll v_p1_dots v_p1_knows v_p1_made v_p1_order v_p1_sixteenths v_p1_stands v_p1_used) H := hP
  refine lv_aload_n hx hb dX7_copyFrom_32 rfl (lv_at hl 0 rfl) ?_
  refine lv_aload_n hx hb dX7_copyFrom_33 rfl (lv_at hl 1 rfl) ?_
  refine mp_get X fl_X7_46 hK hP 8 rfl rfl dX7_copyFrom_34 ?_
  refine mp_putf X fl_X7_46 fp_X7 rfl hK hP (mp_D_of hD rfl) hS 0 rfl rfl rfl (Nat.le_of_ble_eq_true rfl) dX7_copyFrom_37 (fun H locs hP _ hS => ?_)
  replace hP : va_P D mp_cl (k_X7_copyFrom T a_ a_order a_knows a_made a_sixteenths a_dots a_used a_stands a_p1 a_p1_order a_p1_knows a_p1_made a_p1_sixteenths a_p1_dots a_p1_used a_p1_stands v_p1_inOrder v_p1_place v_p1_ill v_p1_shut v_p1_turns v_madeInAll v_dots v_knows v_made v_order v_sixteenths v_stands v_used v_p1_inOrder v_p1_place v_p1_ill v_p1_shut v_p1_turns v_p1_madeInAll v_p1_dots v_p1_knows v_p1_made v_p1_order v_p1_sixteenths v_p1_stands v_p1_used) H := hP
  refine lv_aload_n hx hb dX7_copyFrom_40 rfl (lv_at hl 0 rfl) ?_
  refine lv_aload_n hx hb dX7_copyFrom_41 rfl (lv_at hl 1 rfl) ?_
  refine mp_get X fl_X7_49 hK hP 8 rfl rfl dX7_copyFrom_42 ?_
  refine mp_putf X fl_X7_49 fp_X7 rfl hK hP (mp_D_of hD rfl) hS 0 rfl rfl rfl (Nat.le_of_ble_eq_true rfl) dX7_copyFrom_45 (fun H locs hP _ hS => ?_)
  replace hP : va_P D mp_cl (k_X7_copyFrom T a_ a_order a_knows a_made a_sixteenths a_dots a_used a_stands a_p1 a_p1_order a_p1_knows a_p1_made a_p1_sixteenths a_p1_dots a_p1_used a_p1_stands v_p1_inOrder v_p1_place v_p1_ill v_p1_shut v_p1_turns v_p1_madeInAll v_dots v_knows v_made v_order v_sixteenths v_stands v_used v_p1_inOrder v_p1_place v_p1_ill v_p1_shut v_p1_turns v_p1_madeInAll v_p1_dots v_p1_knows v_p1_made v_p1_order v_p1_sixteenths v_p1_stands v_p1_used) H := hP
  refine lv_aload_n hx hb dX7_copyFrom_48 rfl (lv_at hl 1 rfl) ?_
  refine mp_get X fl_X7_9 hK hP 8 rfl rfl dX7_copyFrom_49 ?_
  refine lv_iconst (v := (nI 0)) hx hb dX7_copyFrom_52 (by decide) ?_
  refine lv_aload_n hx hb dX7_copyFrom_53 rfl (lv_at hl 0 rfl) ?_
  refine mp_get X fl_X7_9 hK hP 0 rfl rfl dX7_copyFrom_54 ?_
  refine lv_iconst (v := (nI 0)) hx hb dX7_copyFrom_57 (by decide) ?_
  refine lv_bipush (v := (nI 8)) hx hb dX7_copyFrom_58 (by decide) ?_
  obtain ⟨h1, hf⟩ := gc_of hf
  refine va_copyi hx hb (hml.trans hl.1.symm) hown (hts _ lk_X7_58_ac) (hts _ ac_nat) (hts _ ac_stat) (hts _ ac_ini) hK hP (mp_D_of hD rfl) hS 12 4 0 0 rfl rfl rfl rfl rfl h1.1 h1.2.1 h1.2.2.1 h1.2.2.2.1 h1.2.2.2.2 (fun _ _ => rfl) (Nat.le_of_ble_eq_true rfl) (Nat.le_of_ble_eq_true rfl) dX7_copyFrom_60 (fun H locs hP _ hS => ?_)
  replace hP : va_P D mp_cl (k_X7_copyFrom T a_ a_order a_knows a_made a_sixteenths a_dots a_used a_stands a_p1 a_p1_order a_p1_knows a_p1_made a_p1_sixteenths a_p1_dots a_p1_used a_p1_stands v_p1_inOrder v_p1_place v_p1_ill v_p1_shut v_p1_turns v_p1_madeInAll v_dots v_knows v_made (va_cpy v_p1_order v_order ((nI 0)).toNatClampNeg ((nI 0)).toNatClampNeg ((nI 8)).toNatClampNeg) v_sixteenths v_stands v_used v_p1_inOrder v_p1_place v_p1_ill v_p1_shut v_p1_turns v_p1_madeInAll v_p1_dots v_p1_knows v_p1_made v_p1_order v_p1_sixteenths v_p1_stands v_p1_used) H := hP
  refine lv_aload_n hx hb dX7_copyFrom_63 rfl (lv_at hl 1 rfl) ?_
  refine mp_get X fl_X7_22 hK hP 8 rfl rfl dX7_copyFrom_64 ?_
  refine lv_iconst (v := (nI 0)) hx hb dX7_copyFrom_67 (by decide) ?_
  refine lv_aload_n hx hb dX7_copyFrom_68 rfl (lv_at hl 0 rfl) ?_
  refine mp_get X fl_X7_22 hK hP 0 rfl rfl dX7_copyFrom_69 ?_
  refine lv_iconst (v := (nI 0)) hx hb dX7_copyFrom_72 (by decide) ?_
  refine lv_bipush (v := (nI 8)) hx hb dX7_copyFrom_73 (by decide) ?_
  obtain ⟨h2, hf⟩ := gc_of hf
  refine va_copyi hx hb (hml.trans hl.1.symm) hown (hts _ lk_X7_58_ac) (hts _ ac_nat) (hts _ ac_stat) (hts _ ac_ini) hK hP (mp_D_of hD rfl) hS 10 2 0 0 rfl rfl rfl rfl rfl h2.1 h2.2.1 h2.2.2.1 h2.2.2.2.1 h2.2.2.2.2 (fun _ _ => rfl) (Nat.le_of_ble_eq_true rfl) (Nat.le_of_ble_eq_true rfl) dX7_copyFrom_75 (fun H locs hP _ hS => ?_)
  replace hP : va_P D mp_cl (k_X7_copyFrom T a_ a_order a_knows a_made a_sixteenths a_dots a_used a_stands a_p1 a_p1_order a_p1_knows a_p1_made a_p1_sixteenths a_p1_dots a_p1_used a_p1_stands v_p1_inOrder v_p1_place v_p1_ill v_p1_shut v_p1_turns v_p1_madeInAll v_dots (va_cpy v_p1_knows v_knows ((nI 0)).toNatClampNeg ((nI 0)).toNatClampNeg ((nI 8)).toNatClampNeg) v_made (va_cpy v_p1_order v_order ((nI 0)).toNatClampNeg ((nI 0)).toNatClampNeg ((nI 8)).toNatClampNeg) v_sixteenths v_stands v_used v_p1_inOrder v_p1_place v_p1_ill v_p1_shut v_p1_turns v_p1_madeInAll v_p1_dots v_p1_knows v_p1_made v_p1_order v_p1_sixteenths v_p1_stands v_p1_used) H := hP
  refine lv_aload_n hx hb dX7_copyFrom_78 rfl (lv_at hl 1 rfl) ?_
  refine mp_get X fl_X7_25 hK hP 8 rfl rfl dX7_copyFrom_79 ?_
  refine lv_iconst (v := (nI 0)) hx hb dX7_copyFrom_82 (by decide) ?_
  refine lv_aload_n hx hb dX7_copyFrom_83 rfl (lv_at hl 0 rfl) ?_
  refine mp_get X fl_X7_25 hK hP 0 rfl rfl dX7_copyFrom_84 ?_
  refine lv_iconst (v := (nI 0)) hx hb dX7_copyFrom_87 (by decide) ?_
  refine lv_bipush (v := (nI 8)) hx hb dX7_copyFrom_88 (by decide) ?_
  obtain ⟨h3, hf⟩ := gc_of hf
  refine va_copyi hx hb (hml.trans hl.1.symm) hown (hts _ lk_X7_58_ac) (hts _ ac_nat) (hts _ ac_stat) (hts _ ac_ini) hK hP (mp_D_of hD rfl) hS 11 3 0 0 rfl rfl rfl rfl rfl h3.1 h3.2.1 h3.2.2.1 h3.2.2.2.1 h3.2.2.2.2 (fun _ _ => rfl) (Nat.le_of_ble_eq_true rfl) (Nat.le_of_ble_eq_true rfl) dX7_copyFrom_90 (fun H locs hP _ hS => ?_)
  replace hP : va_P D mp_cl (k_X7_copyFrom T a_ a_order a_knows a_made a_sixteenths a_dots a_used a_stands a_p1 a_p1_order a_p1_knows a_p1_made a_p1_sixteenths a_p1_dots a_p1_used a_p1_stands v_p1_inOrder v_p1_place v_p1_ill v_p1_shut v_p1_turns v_p1_madeInAll v_dots (va_cpy v_p1_knows v_knows ((nI 0)).toNatClampNeg ((nI 0)).toNatClampNeg ((nI 8)).toNatClampNeg) (va_cpy v_p1_made v_made ((nI 0)).toNatClampNeg ((nI 0)).toNatClampNeg ((nI 8)).toNatClampNeg) (va_cpy v_p1_order v_order ((nI 0)).toNatClampNeg ((nI 0)).toNatClampNeg ((nI 8)).toNatClampNeg) v_sixteenths v_stands v_used v_p1_inOrder v_p1_place v_p1_ill v_p1_shut v_p1_turns v_p1_madeInAll v_p1_dots v_p1_knows v_p1_made v_p1_order v_p1_sixteenths v_p1_stands v_p1_used) H := hP
  refine lv_aload_n hx hb dX7_copyFrom_93 rfl (lv_at hl 1 rfl) ?_
  refine mp_get X fl_X7_28 hK hP 8 rfl rfl dX7_copyFrom_94 ?_
  refine lv_iconst (v := (nI 0)) hx hb dX7_copyFrom_97 (by decide) ?_
  refine lv_aload_n hx hb dX7_copyFrom_98 rfl (lv_at hl 0 rfl) ?_
  refine mp_get X fl_X7_28 hK hP 0 rfl rfl dX7_copyFrom_99 ?_
  refine lv_iconst (v := (nI 0)) hx hb dX7_copyFrom_102 (by decide) ?_
  refine lv_bipush (v := (nI 6)) hx hb dX7_copyFrom_103 (by decide) ?_
  obtain ⟨h4, hf⟩ := gc_of hf
  refine va_copyi hx hb (hml.trans hl.1.symm) hown (hts _ lk_X7_58_ac) (hts _ ac_nat) (hts _ ac_stat) (hts _ ac_ini) hK hP (mp_D_of hD rfl) hS 13 5 0 0 rfl rfl rfl rfl rfl h4.1 h4.2.1 h4.2.2.1 h4.2.2.2.1 h4.2.2.2.2 (fun _ _ => rfl) (Nat.le_of_ble_eq_true rfl) (Nat.le_of_ble_eq_true rfl) dX7_copyFrom_105 (fun H locs hP _ hS => ?_)
  replace hP : va_P D mp_cl (k_X7_copyFrom T a_ a_order a_knows a_made a_sixteenths a_dots a_used a_stands a_p1 a_p1_order a_p1_knows a_p1_made a_p1_sixteenths a_p1_dots a_p1_used a_p1_stands v_p1_inOrder v_p1_place v_p1_ill v_p1_shut v_p1_turns v_p1_madeInAll v_dots (va_cpy v_p1_knows v_knows ((nI 0)).toNatClampNeg ((nI 0)).toNatClampNeg ((nI 8)).toNatClampNeg) (va_cpy v_p1_made v_made ((nI 0)).toNatClampNeg ((nI 0)).toNatClampNeg ((nI 8)).toNatClampNeg) (va_cpy v_p1_order v_order ((nI 0)).toNatClampNeg ((nI 0)).toNatClampNeg ((nI 8)).toNatClampNeg) (va_cpy v_p1_sixteenths v_sixteenths ((nI 0)).toNatClampNeg ((nI 0)).toNatClampNeg ((nI 6)).toNatClampNeg) v_stands v_used v_p1_inOrder v_p1_place v_p1_ill v_p1_shut v_p1_turns v_p1_madeInAll v_p1_dots v_p1_knows v_p1_made v_p1_order v_p1_sixteenths v_p1_stands v_p1_used) H := hP
  refine lv_aload_n hx hb dX7_copyFrom_108 rfl (lv_at hl 1 rfl) ?_
  refine mp_get X fl_X7_31 hK hP 8 rfl rfl dX7_copyFrom_109 ?_
  refine lv_iconst (v := (nI 0)) hx hb dX7_copyFrom_112 (by decide) ?_
  refine lv_aload_n hx hb dX7_copyFrom_113 rfl (lv_at hl 0 rfl) ?_
  refine mp_get X fl_X7_31 hK hP 0 rfl rfl dX7_copyFrom_114 ?_
  refine lv_iconst (v := (nI 0)) hx hb dX7_copyFrom_117 (by decide) ?_
  refine lv_bipush (v := (nI 36)) hx hb dX7_copyFrom_118 (by decide) ?_
  obtain ⟨h5, hf⟩ := gc_of hf
  refine va_copyi hx hb (hml.trans hl.1.symm) hown (hts _ lk_X7_58_ac) (hts _ ac_nat) (hts _ ac_stat) (hts _ ac_ini) hK hP (mp_D_of hD rfl) hS 9 1 0 0 rfl rfl rfl rfl rfl h5.1 h5.2.1 h5.2.2.1 h5.2.2.2.1 h5.2.2.2.2 (fun _ _ => rfl) (Nat.le_of_ble_eq_true rfl) (Nat.le_of_ble_eq_true rfl) dX7_copyFrom_120 (fun H locs hP _ hS => ?_)
  replace hP : va_P D mp_cl (k_X7_copyFrom T a_ a_order a_knows a_made a_sixteenths a_dots a_used a_stands a_p1 a_p1_order a_p1_knows a_p1_made a_p1_sixteenths a_p1_dots a_p1_used a_p1_stands v_p1_inOrder v_p1_place v_p1_ill v_p1_shut v_p1_turns v_p1_madeInAll (va_cpy v_p1_dots v_dots ((nI 0)).toNatClampNeg ((nI 0)).toNatClampNeg ((nI 36)).toNatClampNeg) (va_cpy v_p1_knows v_knows ((nI 0)).toNatClampNeg ((nI 0)).toNatClampNeg ((nI 8)).toNatClampNeg) (va_cpy v_p1_made v_made ((nI 0)).toNatClampNeg ((nI 0)).toNatClampNeg ((nI 8)).toNatClampNeg) (va_cpy v_p1_order v_order ((nI 0)).toNatClampNeg ((nI 0)).toNatClampNeg ((nI 8)).toNatClampNeg) (va_cpy v_p1_sixteenths v_sixteenths ((nI 0)).toNatClampNeg ((nI 0)).toNatClampNeg ((nI 6)).toNatClampNeg) v_stands v_used v_p1_inOrder v_p1_place v_p1_ill v_p1_shut v_p1_turns v_p1_madeInAll v_p1_dots v_p1_knows v_p1_made v_p1_order v_p1_sixteenths v_p1_stands v_p1_used) H := hP
  refine lv_aload_n hx hb dX7_copyFrom_123 rfl (lv_at hl 1 rfl) ?_
  refine mp_get X fl_X7_34 hK hP 8 rfl rfl dX7_copyFrom_124 ?_
  refine lv_iconst (v := (nI 0)) hx hb dX7_copyFrom_127 (by decide) ?_
  refine lv_aload_n hx hb dX7_copyFrom_128 rfl (lv_at hl 0 rfl) ?_
  refine mp_get X fl_X7_34 hK hP 0 rfl rfl dX7_copyFrom_129 ?_
  refine lv_iconst (v := (nI 0)) hx hb dX7_copyFrom_132 (by decide) ?_
  refine lv_bipush (v := (nI 6)) hx hb dX7_copyFrom_133 (by decide) ?_
  obtain ⟨h6, hf⟩ := gc_of hf
  refine va_copyi hx hb (hml.trans hl.1.symm) hown (hts _ lk_X7_58_ac) (hts _ ac_nat) (hts _ ac_stat) (hts _ ac_ini) hK hP (mp_D_of hD rfl) hS 15 7 0 0 rfl rfl rfl rfl rfl h6.1 h6.2.1 h6.2.2.1 h6.2.2.2.1 h6.2.2.2.2 (fun _ _ => rfl) (Nat.le_of_ble_eq_true rfl) (Nat.le_of_ble_eq_true rfl) dX7_copyFrom_135 (fun H locs hP _ hS => ?_)
  replace hP : va_P D mp_cl (k_X7_copyFrom T a_ a_order a_knows a_made a_sixteenths a_dots a_used a_stands a_p1 a_p1_order a_p1_knows a_p1_made a_p1_sixteenths a_p1_dots a_p1_used a_p1_stands v_p1_inOrder v_p1_place v_p1_ill v_p1_shut v_p1_turns v_p1_madeInAll (va_cpy v_p1_dots v_dots ((nI 0)).toNatClampNeg ((nI 0)).toNatClampNeg ((nI 36)).toNatClampNeg) (va_cpy v_p1_knows v_knows ((nI 0)).toNatClampNeg ((nI 0)).toNatClampNeg ((nI 8)).toNatClampNeg) (va_cpy v_p1_made v_made ((nI 0)).toNatClampNeg ((nI 0)).toNatClampNeg ((nI 8)).toNatClampNeg) (va_cpy v_p1_order v_order ((nI 0)).toNatClampNeg ((nI 0)).toNatClampNeg ((nI 8)).toNatClampNeg) (va_cpy v_p1_sixteenths v_sixteenths ((nI 0)).toNatClampNeg ((nI 0)).toNatClampNeg ((nI 6)).toNatClampNeg) v_stands (va_cpy v_p1_used v_used ((nI 0)).toNatClampNeg ((nI 0)).toNatClampNeg ((nI 6)).toNatClampNeg) v_p1_inOrder v_p1_place v_p1_ill v_p1_shut v_p1_turns v_p1_madeInAll v_p1_dots v_p1_knows v_p1_made v_p1_order v_p1_sixteenths v_p1_stands v_p1_used) H := hP
  refine lv_aload_n hx hb dX7_copyFrom_138 rfl (lv_at hl 1 rfl) ?_
  refine mp_get X fl_X7_37 hK hP 8 rfl rfl dX7_copyFrom_139 ?_
  refine lv_iconst (v := (nI 0)) hx hb dX7_copyFrom_142 (by decide) ?_
  refine lv_aload_n hx hb dX7_copyFrom_143 rfl (lv_at hl 0 rfl) ?_
  refine mp_get X fl_X7_37 hK hP 0 rfl rfl dX7_copyFrom_144 ?_
  refine lv_iconst (v := (nI 0)) hx hb dX7_copyFrom_147 (by decide) ?_
  refine lv_bipush (v := (nI 6)) hx hb dX7_copyFrom_148 (by decide) ?_
  obtain ⟨h7, hf⟩ := gc_of hf
  refine va_copyi hx hb (hml.trans hl.1.symm) hown (hts _ lk_X7_58_ac) (hts _ ac_nat) (hts _ ac_stat) (hts _ ac_ini) hK hP (mp_D_of hD rfl) hS 14 6 0 0 rfl rfl rfl rfl rfl h7.1 h7.2.1 h7.2.2.1 h7.2.2.2.1 h7.2.2.2.2 (fun _ _ => rfl) (Nat.le_of_ble_eq_true rfl) (Nat.le_of_ble_eq_true rfl) dX7_copyFrom_150 (fun H locs hP _ hS => ?_)
  replace hP : va_P D mp_cl (k_X7_copyFrom T a_ a_order a_knows a_made a_sixteenths a_dots a_used a_stands a_p1 a_p1_order a_p1_knows a_p1_made a_p1_sixteenths a_p1_dots a_p1_used a_p1_stands v_p1_inOrder v_p1_place v_p1_ill v_p1_shut v_p1_turns v_p1_madeInAll (va_cpy v_p1_dots v_dots ((nI 0)).toNatClampNeg ((nI 0)).toNatClampNeg ((nI 36)).toNatClampNeg) (va_cpy v_p1_knows v_knows ((nI 0)).toNatClampNeg ((nI 0)).toNatClampNeg ((nI 8)).toNatClampNeg) (va_cpy v_p1_made v_made ((nI 0)).toNatClampNeg ((nI 0)).toNatClampNeg ((nI 8)).toNatClampNeg) (va_cpy v_p1_order v_order ((nI 0)).toNatClampNeg ((nI 0)).toNatClampNeg ((nI 8)).toNatClampNeg) (va_cpy v_p1_sixteenths v_sixteenths ((nI 0)).toNatClampNeg ((nI 0)).toNatClampNeg ((nI 6)).toNatClampNeg) (va_cpy v_p1_stands v_stands ((nI 0)).toNatClampNeg ((nI 0)).toNatClampNeg ((nI 6)).toNatClampNeg) (va_cpy v_p1_used v_used ((nI 0)).toNatClampNeg ((nI 0)).toNatClampNeg ((nI 6)).toNatClampNeg) v_p1_inOrder v_p1_place v_p1_ill v_p1_shut v_p1_turns v_p1_madeInAll v_p1_dots v_p1_knows v_p1_made v_p1_order v_p1_sixteenths v_p1_stands v_p1_used) H := hP
  cases hf
  exact mp_retv X hP hS dX7_copyFrom_153


def k_X7_has (T : Nat → ClassId) : va_W := []
set_option maxHeartbeats 4000000 in
set_option maxRecDepth 100000 in
theorem c_X7_has (l : Launch) (D : va_G) (T : Nat → ClassId) (x1 : Int32) (x2 : Int32) (r_ : Int32) (hf : f_X7_has x1 x2 = some r_) :
    mp_M l D T yX7_has cX7_has 2 (some .boolean) ({ frames := 0, cells := 0, slots := 0, locals := 0 }) 0 0 [.int x1, .int x2] (k_X7_has T ) (mp_Qi D r_ (k_X7_has T )) := by
  refine mp_of (by decide) (Nat.le_of_ble_eq_true rfl) rfl ?_
  intro p e s m args below meth c A ls X hK hP hD hS hA hl
  replace X : mp_X p s m meth c args RX7 "has" cX7_has 2 (some .boolean) := X
  have hx := X.1
  have hb := X.2.1
  have hml := X.2.2.1
  have hown := X.2.2.2.2.1
  have hts := X.2.2.2.2.2.1
  replace hl : lv_has ls 2 [(0, .int x1), (1, .int x2)] := hl
  replace hf : (if ((x1 >>> (x2 &&& (31 : Int32))) &&& (nI 1)) = 0 then some ((nI 0)) else some ((nI 1))) = some r_ := hf
  refine lv_iload_n hx hb dX7_has_0 rfl (lv_at hl 0 rfl) ?_
  refine lv_iload_n hx hb dX7_has_1 rfl (lv_at hl 1 rfl) ?_
  refine lv_ishr hx hb dX7_has_2 ?_
  refine lv_iconst (v := (nI 1)) hx hb dX7_has_3 (by decide) ?_
  refine lv_iand hx hb dX7_has_4 ?_
  refine lv_if_eq (tgt := 12) hx hb dX7_has_5 (by decide) (fun h1 => ?_) (fun h1 => ?_)
  · replace hf := if_t hf h1
    refine lv_iconst (v := (nI 0)) hx hb dX7_has_12 (by decide) ?_
    cases hf
    exact mp_retz X hP hS rfl (Or.inl rfl) dX7_has_13
  · replace hf := if_f hf h1
    refine lv_iconst (v := (nI 1)) hx hb dX7_has_8 (by decide) ?_
    refine lv_goto (tgt := 13) hx hb dX7_has_9 (by decide) ?_
    cases hf
    exact mp_retz X hP hS rfl (Or.inr rfl) dX7_has_13


def k_X7_isReached (T : Nat → ClassId) (a_ a_order a_knows a_made a_sixteenths a_dots a_used a_stands : Nat) (v_inOrder : Int32) (v_place : Int32) (v_ill : Int32) (v_shut : Int32) (v_turns : Int32) (v_madeInAll : Int32) (v_knows : (Nat → Int32)) : va_W := [(a_, oX7 a_order v_inOrder v_place a_knows a_made a_sixteenths a_dots a_used a_stands v_ill v_shut v_turns v_madeInAll), (a_knows, mp_aI T 8 v_knows)]
set_option maxHeartbeats 4000000 in
set_option maxRecDepth 100000 in
theorem w_X7_isReached_2 {p : Program} {l : Launch} {e : Env} {s : State} {m : MethodId} {args : Array Value} {below : List Frame} {meth : Method} {c : Code} {D : va_G} {T : Nat → ClassId} {A : Nat → Prop} (X : mp_X p s m meth c args RX7 "isReached" cX7_isReached 4 (some .boolean)) (hK : va_K D mp_cl (mp_ty T) s) (hA : ∀ q, s.heap.size ≤ q → A q) (fu : Nat) (a_ a_order a_knows a_made a_sixteenths a_dots a_used a_stands : Nat) (v_inOrder : Int32) (v_place : Int32) (v_ill : Int32) (v_shut : Int32) (v_turns : Int32) (v_madeInAll : Int32) (v_knows : (Nat → Int32)) (r_ : Int32) :
    ∀ (n : Nat) (z1 : Int32) (z2 : Int32) (z3 : Int32), f_X7_isReached_2 fu v_knows  n z1 z2 z3 = some r_ → ∀ (H : Heap) (locs : List Loc) (ls : Array Slot), va_P D mp_cl (k_X7_isReached T a_ a_order a_knows a_made a_sixteenths a_dots a_used a_stands v_inOrder v_place v_ill v_shut v_turns v_madeInAll v_knows) H → va_D A (k_X7_isReached T a_ a_order a_knows a_made a_sixteenths a_dots a_used a_stands v_inOrder v_place v_ill v_shut v_turns v_madeInAll v_knows) → va_S A s.heap H locs → lv_has ls 4 [(0, .ref a_), (1, .int z1), (2, .int z2), (3, .int z3)] → W p l e ({ frames := 1, cells := 0, slots := 0, locals := 21 }) s m args below meth c H locs 0 0 (MQ below ((mp_Qi D r_ (k_X7_isReached T a_ a_order a_knows a_made a_sixteenths a_dots a_used a_stands v_inOrder v_place v_ill v_shut v_turns v_madeInAll v_knows)) A) args s 0 0 A) (F0 m 2 ls []) := by
  have hx := X.1
  have hb := X.2.1
  have hml := X.2.2.1
  have hown := X.2.2.2.2.1
  have hts := X.2.2.2.2.2.1
  intro n
  induction n with
  | zero => intro z1 z2 z3 hf; exact absurd hf (by intro h; cases h)
  | succ n ih =>
    intro z1 z2 z3 hf H locs ls hP hD hS hl
    replace hf : (if (nI 8) ≤ z3 then some ((nI 1)) else bd_ (f_X7_has z1 z3) (fun (r2 : Int32) => (if r2 = 0 then lt_ (z3 + (nI 1)) (fun (y5 : Int32) => f_X7_isReached_2 fu v_knows  n z1 z2 y5) else gi_ z3 8 ((if (z2 &&& ((v_knows (z3).toNatClampNeg) ^^^ (-1 : Int32))) = 0 then lt_ (z3 + (nI 1)) (fun (y8 : Int32) => f_X7_isReached_2 fu v_knows  n z1 z2 y8) else some ((nI 0))))))) = some r_ := hf
    refine lv_iload_n hx hb dX7_isReached_2 rfl (lv_at hl 3 rfl) ?_
    refine lv_bipush (v := (nI 8)) hx hb dX7_isReached_3 (by decide) ?_
    refine lv_icmp_ge (tgt := 37) hx hb dX7_isReached_5 (by decide) (fun h1 => ?_) (fun h1 => ?_)
    · replace hf := if_t hf h1
      refine lv_iconst (v := (nI 1)) hx hb dX7_isReached_37 (by decide) ?_
      cases hf
      exact mp_retz X hP hS rfl (Or.inr rfl) dX7_isReached_38
    · replace hf := if_f hf h1
      refine lv_iload_n hx hb dX7_isReached_8 rfl (lv_at hl 1 rfl) ?_
      refine lv_iload_n hx hb dX7_isReached_9 rfl (lv_at hl 3 rfl) ?_
      obtain ⟨r2, c3, hf⟩ := bd_of hf
      have hPc := hP.sub (ws' := (k_X7_has T )) [] rfl
      have hDc := (mp_D_of (w1 := (k_X7_isReached T a_ a_order a_knows a_made a_sixteenths a_dots a_used a_stands v_inOrder v_place v_ill v_shut v_turns v_madeInAll v_knows)) hD rfl).sub (ws' := (k_X7_has T )) [] rfl rfl
      refine mp_calli (isC := []) (wc := (k_X7_has T )) (w1 := (k_X7_has T )) hP (mp_D_of hD rfl) hS hA rfl rfl (mp_runS (As := [.int z1, .int z3]) (rest := []) X me_X7_has lk_X7_64 (c_X7_has l D T z1 z3 r2 c3) rfl rfl ⟨(Nat.le_of_ble_eq_true rfl), (Nat.le_of_ble_eq_true rfl)⟩ hK hPc hDc rfl hl.1 rfl (Nat.le_of_ble_eq_true rfl) dX7_isReached_10 ⟨Nat.zero_le _, Nat.zero_le _⟩) (fun H locs hP _ hS => ?_)
      replace hP : va_P D mp_cl (k_X7_isReached T a_ a_order a_knows a_made a_sixteenths a_dots a_used a_stands v_inOrder v_place v_ill v_shut v_turns v_madeInAll v_knows) H := hP
      refine lv_if_eq (tgt := 31) hx hb dX7_isReached_13 (by decide) (fun h4 => ?_) (fun h4 => ?_)
      · replace hf := if_t hf h4
        obtain ⟨y5, e5⟩ : ∃ y : Int32, y = z3 + (nI 1) := ⟨_, rfl⟩
        replace hf := lt_of e5 hf
        refine lv_iinc (v := y5) (lv' := [(3, .int y5), (0, .ref a_), (1, .int z1), (2, .int z2)]) hx hb dX7_isReached_31 hl (k := 3) rfl (by rw [e5]; rfl) (by decide) rfl (fun ls hl => ?_)
        refine lv_goto (tgt := 2) hx hb dX7_isReached_34 (by decide) ?_
        exact ih z1 z2 y5 hf _ _ _ hP (mp_D_of hD rfl) hS (lv_sub hl [1, 2, 3, 0] rfl)
      · replace hf := if_f hf h4
        refine lv_iload_n hx hb dX7_isReached_16 rfl (lv_at hl 2 rfl) ?_
        refine lv_aload_n hx hb dX7_isReached_17 rfl (lv_at hl 0 rfl) ?_
        refine mp_get X fl_X7_22 hK hP 0 rfl rfl dX7_isReached_18 ?_
        refine lv_iload_n hx hb dX7_isReached_21 rfl (lv_at hl 3 rfl) ?_
        obtain ⟨h6, hf⟩ := gi_of hf
        refine va_iald hx hb hK hP 1 0 rfl rfl h6 dX7_isReached_22 ?_
        refine lv_iconst (v := (-1 : Int32)) hx hb dX7_isReached_23 (by decide) ?_
        refine lv_ixor hx hb dX7_isReached_24 ?_
        refine lv_iand hx hb dX7_isReached_25 ?_
        refine lv_if_eq (tgt := 31) hx hb dX7_isReached_26 (by decide) (fun h7 => ?_) (fun h7 => ?_)
        · replace hf := if_t hf h7
          obtain ⟨y8, e8⟩ : ∃ y : Int32, y = z3 + (nI 1) := ⟨_, rfl⟩
          replace hf := lt_of e8 hf
          refine lv_iinc (v := y8) (lv' := [(3, .int y8), (0, .ref a_), (1, .int z1), (2, .int z2)]) hx hb dX7_isReached_31 hl (k := 3) rfl (by rw [e8]; rfl) (by decide) rfl (fun ls hl => ?_)
          refine lv_goto (tgt := 2) hx hb dX7_isReached_34 (by decide) ?_
          exact ih z1 z2 y8 hf _ _ _ hP (mp_D_of hD rfl) hS (lv_sub hl [1, 2, 3, 0] rfl)
        · replace hf := if_f hf h7
          refine lv_iconst (v := (nI 0)) hx hb dX7_isReached_29 (by decide) ?_
          cases hf
          exact mp_retz X hP hS rfl (Or.inl rfl) dX7_isReached_30

set_option maxHeartbeats 4000000 in
set_option maxRecDepth 100000 in
theorem c_X7_isReached (l : Launch) (D : va_G) (T : Nat → ClassId) (fu : Nat) (a_ a_order a_knows a_made a_sixteenths a_dots a_used a_stands : Nat) (x1 : Int32) (x2 : Int32) (v_inOrder : Int32) (v_place : Int32) (v_ill : Int32) (v_shut : Int32) (v_turns : Int32) (v_madeInAll : Int32) (v_knows : (Nat → Int32)) (r_ : Int32) (hf : f_X7_isReached fu x1 x2 v_knows = some r_) :
    mp_M l D T yX7_isReached cX7_isReached 4 (some .boolean) ({ frames := 1, cells := 0, slots := 0, locals := 21 }) 0 0 [.ref a_, .int x1, .int x2] (k_X7_isReached T a_ a_order a_knows a_made a_sixteenths a_dots a_used a_stands v_inOrder v_place v_ill v_shut v_turns v_madeInAll v_knows) (mp_Qi D r_ (k_X7_isReached T a_ a_order a_knows a_made a_sixteenths a_dots a_used a_stands v_inOrder v_place v_ill v_shut v_turns v_madeInAll v_knows)) := by
  refine mp_of (by decide) (Nat.le_of_ble_eq_true rfl) rfl ?_
  intro p e s m args below meth c A ls X hK hP hD hS hA hl
  replace X : mp_X p s m meth c args RX7 "isReached" cX7_isReached 4 (some .boolean) := X
  have hx := X.1
  have hb := X.2.1
  have hml := X.2.2.1
  have hown := X.2.2.2.2.1
  have hts := X.2.2.2.2.2.1
  replace hl : lv_has ls 4 [(0, .ref a_), (1, .int x1), (2, .int x2)] := hl
  replace hf : f_X7_isReached_2 fu v_knows  fu x1 x2 (nI 0) = some r_ := hf
  refine lv_iconst (v := (nI 0)) hx hb dX7_isReached_0 (by decide) ?_
  refine lv_istore_n (lv' := [(3, .int (nI 0)), (0, .ref a_), (1, .int x1), (2, .int x2)]) hx hb dX7_isReached_1 rfl hl (by decide) rfl (fun ls hl => ?_)
  exact w_X7_isReached_2 X hK hA  fu a_ a_order a_knows a_made a_sixteenths a_dots a_used a_stands v_inOrder v_place v_ill v_shut v_turns v_madeInAll v_knows r_   fu x1 x2 (nI 0) hf _ _ _ hP (mp_D_of hD rfl) hS (lv_sub hl [1, 2, 3, 0] rfl)


def k_X7_nextPlace (T : Nat → ClassId) (a_ a_order a_knows a_made a_sixteenths a_dots a_used a_stands : Nat) (v_inOrder : Int32) (v_place : Int32) (v_ill : Int32) (v_shut : Int32) (v_turns : Int32) (v_madeInAll : Int32) (v_order : (Nat → Int32)) : va_W := [(a_, oX7 a_order v_inOrder v_place a_knows a_made a_sixteenths a_dots a_used a_stands v_ill v_shut v_turns v_madeInAll), (a_order, mp_aI T 8 v_order)]
set_option maxHeartbeats 4000000 in
set_option maxRecDepth 100000 in
theorem w_X7_nextPlace_43 {p : Program} {l : Launch} {e : Env} {s : State} {m : MethodId} {args : Array Value} {below : List Frame} {meth : Method} {c : Code} {D : va_G} {T : Nat → ClassId} {A : Nat → Prop} (X : mp_X p s m meth c args RX7 "nextPlace" cX7_nextPlace 3 (some .int)) (hK : va_K D mp_cl (mp_ty T) s) (hA : ∀ q, s.heap.size ≤ q → A q) (fu : Nat) (a_ a_order a_knows a_made a_sixteenths a_dots a_used a_stands : Nat) (v_shut : Int32) (v_turns : Int32) (v_madeInAll : Int32) (v_inOrder : Int32) (v_place : Int32) (v_ill : Int32) (v_order : (Nat → Int32)) (r_ : Int32) (K2 : Int32 → Option (Int32)) (hK2 : ∀ (z1 : Int32), K2 z1 = some r_ → ∀ (H : Heap) (locs : List Loc) (ls : Array Slot), va_P D mp_cl (k_X7_nextPlace T a_ a_order a_knows a_made a_sixteenths a_dots a_used a_stands v_inOrder v_place v_ill v_shut v_turns v_madeInAll v_order) H → va_D A (k_X7_nextPlace T a_ a_order a_knows a_made a_sixteenths a_dots a_used a_stands v_inOrder v_place v_ill v_shut v_turns v_madeInAll v_order) → va_S A s.heap H locs → lv_has ls 3 [(0, .ref a_), (1, .int z1)] → W p l e ({ frames := 1, cells := 0, slots := 0, locals := 21 }) s m args below meth c H locs 0 0 (MQ below ((mp_Qi D r_ (k_X7_nextPlace T a_ a_order a_knows a_made a_sixteenths a_dots a_used a_stands v_inOrder v_place v_ill v_shut v_turns v_madeInAll v_order)) A) args s 0 0 A) (F0 m 2 ls [])) :
    ∀  (z1 : Int32) (w0 : Int32), f_X7_nextPlace_43 fu v_inOrder v_place v_ill v_order K2 z1 w0 = some r_ → ∀ (H : Heap) (locs : List Loc) (ls : Array Slot), va_P D mp_cl (k_X7_nextPlace T a_ a_order a_knows a_made a_sixteenths a_dots a_used a_stands v_inOrder v_place v_ill v_shut v_turns v_madeInAll v_order) H → va_D A (k_X7_nextPlace T a_ a_order a_knows a_made a_sixteenths a_dots a_used a_stands v_inOrder v_place v_ill v_shut v_turns v_madeInAll v_order) → va_S A s.heap H locs → lv_has ls 3 [(0, .ref a_), (1, .int z1)] → W p l e ({ frames := 1, cells := 0, slots := 0, locals := 21 }) s m args below meth c H locs 0 0 (MQ below ((mp_Qi D r_ (k_X7_nextPlace T a_ a_order a_knows a_made a_sixteenths a_dots a_used a_stands v_inOrder v_place v_ill v_shut v_turns v_madeInAll v_order)) A) args s 0 0 A) (F0 m 43 ls [.int w0]) := by
  have hx := X.1
  have hb := X.2.1
  have hml := X.2.2.1
  have hown := X.2.2.2.2.1
  have hts := X.2.2.2.2.2.1
  intro z1 w0 hf H locs ls hP hD hS hl
  replace hf : gi_ w0 8 (bd_ (f_X7_has v_ill (v_order (w0).toNatClampNeg)) (fun (r2 : Int32) => (if r2 = 0 then some (w0) else lt_ (z1 + (nI 1)) (fun (y5 : Int32) => K2 y5)))) = some r_ := hf
  refine lv_istore_n (lv' := [(2, .int w0), (0, .ref a_), (1, .int z1)]) hx hb dX7_nextPlace_43 rfl hl (by decide) rfl (fun ls hl => ?_)
  refine lv_aload_n hx hb dX7_nextPlace_44 rfl (lv_at hl 1 rfl) ?_
  refine mp_get X fl_X7_40 hK hP 0 rfl rfl dX7_nextPlace_45 ?_
  refine lv_aload_n hx hb dX7_nextPlace_48 rfl (lv_at hl 1 rfl) ?_
  refine mp_get X fl_X7_9 hK hP 0 rfl rfl dX7_nextPlace_49 ?_
  refine lv_iload_n hx hb dX7_nextPlace_52 rfl (lv_at hl 0 rfl) ?_
  obtain ⟨h1, hf⟩ := gi_of hf
  refine va_iald hx hb hK hP 1 0 rfl rfl h1 dX7_nextPlace_53 ?_
  obtain ⟨r2, c3, hf⟩ := bd_of hf
  have hPc := hP.sub (ws' := (k_X7_has T )) [] rfl
  have hDc := (mp_D_of (w1 := (k_X7_nextPlace T a_ a_order a_knows a_made a_sixteenths a_dots a_used a_stands v_inOrder v_place v_ill v_shut v_turns v_madeInAll v_order)) hD rfl).sub (ws' := (k_X7_has T )) [] rfl rfl
  refine mp_calli (isC := []) (wc := (k_X7_has T )) (w1 := (k_X7_has T )) hP (mp_D_of hD rfl) hS hA rfl rfl (mp_runS (As := [.int v_ill, .int (v_order (w0).toNatClampNeg)]) (rest := []) X me_X7_has lk_X7_64 (c_X7_has l D T v_ill (v_order (w0).toNatClampNeg) r2 c3) rfl rfl ⟨(Nat.le_of_ble_eq_true rfl), (Nat.le_of_ble_eq_true rfl)⟩ hK hPc hDc rfl hl.1 rfl (Nat.le_of_ble_eq_true rfl) dX7_nextPlace_54 ⟨Nat.zero_le _, Nat.zero_le _⟩) (fun H locs hP _ hS => ?_)
  replace hP : va_P D mp_cl (k_X7_nextPlace T a_ a_order a_knows a_made a_sixteenths a_dots a_used a_stands v_inOrder v_place v_ill v_shut v_turns v_madeInAll v_order) H := hP
  refine lv_if_ne (tgt := 62) hx hb dX7_nextPlace_57 (by decide) (fun h4 => ?_) (fun h4 => ?_)
  · replace hf := if_f hf h4
    obtain ⟨y5, e5⟩ : ∃ y : Int32, y = z1 + (nI 1) := ⟨_, rfl⟩
    replace hf := lt_of e5 hf
    refine lv_iinc (v := y5) (lv' := [(1, .int y5), (2, .int w0), (0, .ref a_)]) hx hb dX7_nextPlace_62 hl (k := 2) rfl (by rw [e5]; rfl) (by decide) rfl (fun ls hl => ?_)
    refine lv_goto (tgt := 2) hx hb dX7_nextPlace_65 (by decide) ?_
    exact hK2 y5 hf _ _ _ hP (mp_D_of hD rfl) hS (lv_sub hl [2, 0] rfl)
  · replace hf := if_t hf h4
    refine lv_iload_n hx hb dX7_nextPlace_60 rfl (lv_at hl 0 rfl) ?_
    cases hf
    exact mp_reti X hP hS rfl dX7_nextPlace_61

set_option maxHeartbeats 4000000 in
set_option maxRecDepth 100000 in
theorem w_X7_nextPlace_2 {p : Program} {l : Launch} {e : Env} {s : State} {m : MethodId} {args : Array Value} {below : List Frame} {meth : Method} {c : Code} {D : va_G} {T : Nat → ClassId} {A : Nat → Prop} (X : mp_X p s m meth c args RX7 "nextPlace" cX7_nextPlace 3 (some .int)) (hK : va_K D mp_cl (mp_ty T) s) (hA : ∀ q, s.heap.size ≤ q → A q) (fu : Nat) (a_ a_order a_knows a_made a_sixteenths a_dots a_used a_stands : Nat) (v_shut : Int32) (v_turns : Int32) (v_madeInAll : Int32) (v_inOrder : Int32) (v_place : Int32) (v_ill : Int32) (v_order : (Nat → Int32)) (r_ : Int32) :
    ∀ (n : Nat) (z1 : Int32), f_X7_nextPlace_2 fu v_inOrder v_place v_ill v_order  n z1 = some r_ → ∀ (H : Heap) (locs : List Loc) (ls : Array Slot), va_P D mp_cl (k_X7_nextPlace T a_ a_order a_knows a_made a_sixteenths a_dots a_used a_stands v_inOrder v_place v_ill v_shut v_turns v_madeInAll v_order) H → va_D A (k_X7_nextPlace T a_ a_order a_knows a_made a_sixteenths a_dots a_used a_stands v_inOrder v_place v_ill v_shut v_turns v_madeInAll v_order) → va_S A s.heap H locs → lv_has ls 3 [(0, .ref a_), (1, .int z1)] → W p l e ({ frames := 1, cells := 0, slots := 0, locals := 21 }) s m args below meth c H locs 0 0 (MQ below ((mp_Qi D r_ (k_X7_nextPlace T a_ a_order a_knows a_made a_sixteenths a_dots a_used a_stands v_inOrder v_place v_ill v_shut v_turns v_madeInAll v_order)) A) args s 0 0 A) (F0 m 2 ls []) := by
  have hx := X.1
  have hb := X.2.1
  have hml := X.2.2.1
  have hown := X.2.2.2.2.1
  have hts := X.2.2.2.2.2.1
  intro n
  induction n with
  | zero => intro z1 hf; exact absurd hf (by intro h; cases h)
  | succ n ih =>
    intro z1 hf H locs ls hP hD hS hl
    replace hf : (if v_inOrder ≤ z1 then some ((-1 : Int32)) else (if v_inOrder ≤ (v_place + z1) then f_X7_nextPlace_43 fu v_inOrder v_place v_ill v_order (f_X7_nextPlace_2 fu v_inOrder v_place v_ill v_order  n) z1 ((v_place + z1) - v_inOrder) else f_X7_nextPlace_43 fu v_inOrder v_place v_ill v_order (f_X7_nextPlace_2 fu v_inOrder v_place v_ill v_order  n) z1 (v_place + z1))) = some r_ := hf
    refine lv_iload_n hx hb dX7_nextPlace_2 rfl (lv_at hl 1 rfl) ?_
    refine lv_aload_n hx hb dX7_nextPlace_3 rfl (lv_at hl 0 rfl) ?_
    refine mp_get X fl_X7_15 hK hP 0 rfl rfl dX7_nextPlace_4 ?_
    refine lv_icmp_ge (tgt := 68) hx hb dX7_nextPlace_7 (by decide) (fun h1 => ?_) (fun h1 => ?_)
    · replace hf := if_t hf h1
      refine lv_iconst (v := (-1 : Int32)) hx hb dX7_nextPlace_68 (by decide) ?_
      cases hf
      exact mp_reti X hP hS rfl dX7_nextPlace_69
    · replace hf := if_f hf h1
      refine lv_aload_n hx hb dX7_nextPlace_10 rfl (lv_at hl 0 rfl) ?_
      refine mp_get X fl_X7_19 hK hP 0 rfl rfl dX7_nextPlace_11 ?_
      refine lv_iload_n hx hb dX7_nextPlace_14 rfl (lv_at hl 1 rfl) ?_
      refine lv_iadd hx hb dX7_nextPlace_15 ?_
      refine lv_aload_n hx hb dX7_nextPlace_16 rfl (lv_at hl 0 rfl) ?_
      refine mp_get X fl_X7_15 hK hP 0 rfl rfl dX7_nextPlace_17 ?_
      refine lv_icmp_ge (tgt := 32) hx hb dX7_nextPlace_20 (by decide) (fun h2 => ?_) (fun h2 => ?_)
      · replace hf := if_t hf h2
        refine lv_aload_n hx hb dX7_nextPlace_32 rfl (lv_at hl 0 rfl) ?_
        refine mp_get X fl_X7_19 hK hP 0 rfl rfl dX7_nextPlace_33 ?_
        refine lv_iload_n hx hb dX7_nextPlace_36 rfl (lv_at hl 1 rfl) ?_
        refine lv_iadd hx hb dX7_nextPlace_37 ?_
        refine lv_aload_n hx hb dX7_nextPlace_38 rfl (lv_at hl 0 rfl) ?_
        refine mp_get X fl_X7_15 hK hP 0 rfl rfl dX7_nextPlace_39 ?_
        refine lv_isub hx hb dX7_nextPlace_42 ?_
        exact w_X7_nextPlace_43 X hK hA  fu a_ a_order a_knows a_made a_sixteenths a_dots a_used a_stands v_shut v_turns v_madeInAll v_inOrder v_place v_ill v_order r_  (f_X7_nextPlace_2 fu v_inOrder v_place v_ill v_order  n) (ih) z1 ((v_place + z1) - v_inOrder) hf _ _ _ hP (mp_D_of hD rfl) hS (lv_sub hl [0, 1] rfl)
      · replace hf := if_f hf h2
        refine lv_aload_n hx hb dX7_nextPlace_23 rfl (lv_at hl 0 rfl) ?_
        refine mp_get X fl_X7_19 hK hP 0 rfl rfl dX7_nextPlace_24 ?_
        refine lv_iload_n hx hb dX7_nextPlace_27 rfl (lv_at hl 1 rfl) ?_
        refine lv_iadd hx hb dX7_nextPlace_28 ?_
        refine lv_goto (tgt := 43) hx hb dX7_nextPlace_29 (by decide) ?_
        exact w_X7_nextPlace_43 X hK hA  fu a_ a_order a_knows a_made a_sixteenths a_dots a_used a_stands v_shut v_turns v_madeInAll v_inOrder v_place v_ill v_order r_  (f_X7_nextPlace_2 fu v_inOrder v_place v_ill v_order  n) (ih) z1 (v_place + z1) hf _ _ _ hP (mp_D_of hD rfl) hS (lv_sub hl [0, 1] rfl)

set_option maxHeartbeats 4000000 in
set_option maxRecDepth 100000 in
theorem c_X7_nextPlace (l : Launch) (D : va_G) (T : Nat → ClassId) (fu : Nat) (a_ a_order a_knows a_made a_sixteenths a_dots a_used a_stands : Nat) (v_shut : Int32) (v_turns : Int32) (v_madeInAll : Int32) (v_inOrder : Int32) (v_place : Int32) (v_ill : Int32) (v_order : (Nat → Int32)) (r_ : Int32) (hf : f_X7_nextPlace fu v_inOrder v_place v_ill v_order = some r_) :
    mp_M l D T yX7_nextPlace cX7_nextPlace 3 (some .int) ({ frames := 1, cells := 0, slots := 0, locals := 21 }) 0 0 [.ref a_] (k_X7_nextPlace T a_ a_order a_knows a_made a_sixteenths a_dots a_used a_stands v_inOrder v_place v_ill v_shut v_turns v_madeInAll v_order) (mp_Qi D r_ (k_X7_nextPlace T a_ a_order a_knows a_made a_sixteenths a_dots a_used a_stands v_inOrder v_place v_ill v_shut v_turns v_madeInAll v_order)) := by
  refine mp_of (by decide) (Nat.le_of_ble_eq_true rfl) rfl ?_
  intro p e s m args below meth c A ls X hK hP hD hS hA hl
  replace X : mp_X p s m meth c args RX7 "nextPlace" cX7_nextPlace 3 (some .int) := X
  have hx := X.1
  have hb := X.2.1
  have hml := X.2.2.1
  have hown := X.2.2.2.2.1
  have hts := X.2.2.2.2.2.1
  replace hl : lv_has ls 3 [(0, .ref a_)] := hl
  replace hf : f_X7_nextPlace_2 fu v_inOrder v_place v_ill v_order  fu (nI 0) = some r_ := hf
  refine lv_iconst (v := (nI 0)) hx hb dX7_nextPlace_0 (by decide) ?_
  refine lv_istore_n (lv' := [(1, .int (nI 0)), (0, .ref a_)]) hx hb dX7_nextPlace_1 rfl hl (by decide) rfl (fun ls hl => ?_)
  exact w_X7_nextPlace_2 X hK hA  fu a_ a_order a_knows a_made a_sixteenths a_dots a_used a_stands v_shut v_turns v_madeInAll v_inOrder v_place v_ill v_order r_   fu (nI 0) hf _ _ _ hP (mp_D_of hD rfl) hS (lv_sub hl [1, 0] rfl)


def k_X7_goOn (T : Nat → ClassId) (a_ a_order a_knows a_made a_sixteenths a_dots a_used a_stands : Nat) (v_inOrder : Int32) (v_place : Int32) (v_ill : Int32) (v_shut : Int32) (v_turns : Int32) (v_madeInAll : Int32) (v_order : (Nat → Int32)) : va_W := [(a_, oX7 a_order v_inOrder v_place a_knows a_made a_sixteenths a_dots a_used a_stands v_ill v_shut v_turns v_madeInAll), (a_order, mp_aI T 8 v_order)]
set_option maxHeartbeats 4000000 in
set_option maxRecDepth 100000 in
theorem c_X7_goOn (l : Launch) (D : va_G) (T : Nat → ClassId) (fu : Nat) (a_ a_order a_knows a_made a_sixteenths a_dots a_used a_stands : Nat) (v_shut : Int32) (v_turns : Int32) (v_madeInAll : Int32) (v_inOrder : Int32) (v_place : Int32) (v_ill : Int32) (v_order : (Nat → Int32)) (r_ : Int32) (o_place : Int32) (hf : f_X7_goOn fu v_inOrder v_place v_ill v_order = some (r_, o_place)) :
    mp_M l D T yX7_goOn cX7_goOn 2 (some .int) ({ frames := 2, cells := 0, slots := 0, locals := 43 }) 0 0 [.ref a_] (k_X7_goOn T a_ a_order a_knows a_made a_sixteenths a_dots a_used a_stands v_inOrder v_place v_ill v_shut v_turns v_madeInAll v_order) (mp_Qi D r_ (k_X7_goOn T a_ a_order a_knows a_made a_sixteenths a_dots a_used a_stands v_inOrder o_place v_ill v_shut v_turns v_madeInAll v_order)) := by
  refine mp_of (by decide) (Nat.le_of_ble_eq_true rfl) rfl ?_
  intro p e s m args below meth c A ls X hK hP hD hS hA hl
  replace X : mp_X p s m meth c args RX7 "goOn" cX7_goOn 2 (some .int) := X
  have hx := X.1
  have hb := X.2.1
  have hml := X.2.2.1
  have hown := X.2.2.2.2.1
  have hts := X.2.2.2.2.2.1
  replace hl : lv_has ls 2 [(0, .ref a_)] := hl
  replace hf : bd_ (f_X7_nextPlace fu v_inOrder v_place v_ill v_order) (fun (r1 : Int32) => (if r1 = (-1 : Int32) then some ((-1 : Int32), v_place) else (if v_inOrder ≤ (r1 + (nI 1)) then gi_ r1 8 (some (v_order (r1).toNatClampNeg, (nI 0))) else lt_ (r1 + (nI 1)) (fun (y6 : Int32) => gi_ r1 8 (some (v_order (r1).toNatClampNeg, y6)))))) = some (r_, o_place) := hf
  refine lv_aload_n hx hb dX7_goOn_0 rfl (lv_at hl 0 rfl) ?_
  obtain ⟨r1, c2, hf⟩ := bd_of hf
  have hPc := hP.sub (ws' := (k_X7_nextPlace T a_ a_order a_knows a_made a_sixteenths a_dots a_used a_stands v_inOrder v_place v_ill v_shut v_turns v_madeInAll v_order)) [0, 1] rfl
  have hDc := (mp_D_of (w1 := (k_X7_goOn T a_ a_order a_knows a_made a_sixteenths a_dots a_used a_stands v_inOrder v_place v_ill v_shut v_turns v_madeInAll v_order)) hD rfl).sub (ws' := (k_X7_nextPlace T a_ a_order a_knows a_made a_sixteenths a_dots a_used a_stands v_inOrder v_place v_ill v_shut v_turns v_madeInAll v_order)) [0, 1] rfl rfl
  refine mp_calli (isC := [0, 1]) (wc := (k_X7_nextPlace T a_ a_order a_knows a_made a_sixteenths a_dots a_used a_stands v_inOrder v_place v_ill v_shut v_turns v_madeInAll v_order)) (w1 := (k_X7_nextPlace T a_ a_order a_knows a_made a_sixteenths a_dots a_used a_stands v_inOrder v_place v_ill v_shut v_turns v_madeInAll v_order)) hP (mp_D_of hD rfl) hS hA rfl rfl (mp_runV (As := []) (rest := []) X me_X7_nextPlace lk_X7_77 (c_X7_nextPlace l D T fu a_ a_order a_knows a_made a_sixteenths a_dots a_used a_stands v_shut v_turns v_madeInAll v_inOrder v_place v_ill v_order r1 c2) rfl rfl ⟨(Nat.le_of_ble_eq_true rfl), (Nat.le_of_ble_eq_true rfl)⟩ hK hPc hDc rfl rfl rfl rfl hl.1 rfl (Nat.le_of_ble_eq_true rfl) dX7_goOn_1 ⟨Nat.zero_le _, Nat.zero_le _⟩) (fun H locs hP _ hS => ?_)
  replace hP : va_P D mp_cl (k_X7_goOn T a_ a_order a_knows a_made a_sixteenths a_dots a_used a_stands v_inOrder v_place v_ill v_shut v_turns v_madeInAll v_order) H := hP
  refine lv_istore_n (lv' := [(1, .int r1), (0, .ref a_)]) hx hb dX7_goOn_4 rfl hl (by decide) rfl (fun ls hl => ?_)
  refine lv_iload_n hx hb dX7_goOn_5 rfl (lv_at hl 0 rfl) ?_
  refine lv_iconst (v := (-1 : Int32)) hx hb dX7_goOn_6 (by decide) ?_
  refine lv_icmp_ne (tgt := 12) hx hb dX7_goOn_7 (by decide) (fun h3 => ?_) (fun h3 => ?_)
  · replace hf := if_f hf h3
    refine lv_aload_n hx hb dX7_goOn_12 rfl (lv_at hl 1 rfl) ?_
    refine lv_iload_n hx hb dX7_goOn_13 rfl (lv_at hl 0 rfl) ?_
    refine lv_iconst (v := (nI 1)) hx hb dX7_goOn_14 (by decide) ?_
    refine lv_iadd hx hb dX7_goOn_15 ?_
    refine lv_aload_n hx hb dX7_goOn_16 rfl (lv_at hl 1 rfl) ?_
    refine mp_get X fl_X7_15 hK hP 0 rfl rfl dX7_goOn_17 ?_
    refine lv_icmp_ge (tgt := 29) hx hb dX7_goOn_20 (by decide) (fun h4 => ?_) (fun h4 => ?_)
    · replace hf := if_t hf h4
      refine lv_iconst (v := (nI 0)) hx hb dX7_goOn_29 (by decide) ?_
      refine mp_putf X fl_X7_19 fp_X7 rfl hK hP (mp_D_of hD rfl) hS 0 rfl rfl rfl (Nat.le_of_ble_eq_true rfl) dX7_goOn_30 (fun H locs hP _ hS => ?_)
      replace hP : va_P D mp_cl (k_X7_goOn T a_ a_order a_knows a_made a_sixteenths a_dots a_used a_stands v_inOrder (nI 0) v_ill v_shut v_turns v_madeInAll v_order) H := hP
      refine lv_aload_n hx hb dX7_goOn_33 rfl (lv_at hl 1 rfl) ?_
      refine mp_get X fl_X7_9 hK hP 0 rfl rfl dX7_goOn_34 ?_
      refine lv_iload_n hx hb dX7_goOn_37 rfl (lv_at hl 0 rfl) ?_
      obtain ⟨h5, hf⟩ := gi_of hf
      refine va_iald hx hb hK hP 1 0 rfl rfl h5 dX7_goOn_38 ?_
      cases hf
      exact mp_reti X hP hS rfl dX7_goOn_39
    · replace hf := if_f hf h4
      refine lv_iload_n hx hb dX7_goOn_23 rfl (lv_at hl 0 rfl) ?_
      refine lv_iconst (v := (nI 1)) hx hb dX7_goOn_24 (by decide) ?_
      refine lv_iadd hx hb dX7_goOn_25 ?_
      refine lv_goto (tgt := 30) hx hb dX7_goOn_26 (by decide) ?_
      refine lv_topi (fun y6 e6 => ?_)
      replace hf := lt_of e6 hf
      refine mp_putf X fl_X7_19 fp_X7 rfl hK hP (mp_D_of hD rfl) hS 0 rfl rfl rfl (Nat.le_of_ble_eq_true rfl) dX7_goOn_30 (fun H locs hP _ hS => ?_)
      replace hP : va_P D mp_cl (k_X7_goOn T a_ a_order a_knows a_made a_sixteenths a_dots a_used a_stands v_inOrder y6 v_ill v_shut v_turns v_madeInAll v_order) H := hP
      refine lv_aload_n hx hb dX7_goOn_33 rfl (lv_at hl 1 rfl) ?_
      refine mp_get X fl_X7_9 hK hP 0 rfl rfl dX7_goOn_34 ?_
      refine lv_iload_n hx hb dX7_goOn_37 rfl (lv_at hl 0 rfl) ?_
      obtain ⟨h7, hf⟩ := gi_of hf
      refine va_iald hx hb hK hP 1 0 rfl rfl h7 dX7_goOn_38 ?_
      cases hf
      exact mp_reti X hP hS rfl dX7_goOn_39
  · replace hf := if_t hf h3
    refine lv_iconst (v := (-1 : Int32)) hx hb dX7_goOn_10 (by decide) ?_
    cases hf
    exact mp_reti X hP hS rfl dX7_goOn_11


def k_X7_standingInAll (T : Nat → ClassId) (a_ a_order a_knows a_made a_sixteenths a_dots a_used a_stands a_p1 a_p1_cellNames a_p1_secretNames a_p1_pageNames a_p1_speed a_p1_letters a_p1_room a_p1_now a_p1_rounds : Nat) (v_inOrder : Int32) (v_place : Int32) (v_ill : Int32) (v_shut : Int32) (v_turns : Int32) (v_madeInAll : Int32) (v_stands : (Nat → Int32)) (v_p1_cells : Int32) (v_p1_secrets : Int32) (v_p1_pages : Int32) (v_p1_blind : Int32) (v_p1_rubs : Int32) : va_W := [(a_, oX7 a_order v_inOrder v_place a_knows a_made a_sixteenths a_dots a_used a_stands v_ill v_shut v_turns v_madeInAll), (a_stands, mp_aI T 6 v_stands), (a_p1, oX1 v_p1_cells v_p1_secrets v_p1_pages a_p1_cellNames a_p1_secretNames a_p1_pageNames a_p1_speed v_p1_blind v_p1_rubs a_p1_letters a_p1_room a_p1_now a_p1_rounds)]
set_option maxHeartbeats 4000000 in
set_option maxRecDepth 100000 in
theorem w_X7_standingInAll_4 {p : Program} {l : Launch} {e : Env} {s : State} {m : MethodId} {args : Array Value} {below : List Frame} {meth : Method} {c : Code} {D : va_G} {T : Nat → ClassId} {A : Nat → Prop} (X : mp_X p s m meth c args RX7 "standingInAll" cX7_standingInAll 4 (some .int)) (hK : va_K D mp_cl (mp_ty T) s) (hA : ∀ q, s.heap.size ≤ q → A q) (fu : Nat) (a_ a_order a_knows a_made a_sixteenths a_dots a_used a_stands a_p1 a_p1_cellNames a_p1_secretNames a_p1_pageNames a_p1_speed a_p1_letters a_p1_room a_p1_now a_p1_rounds : Nat) (v_inOrder : Int32) (v_place : Int32) (v_ill : Int32) (v_turns : Int32) (v_madeInAll : Int32) (v_p1_cells : Int32) (v_p1_secrets : Int32) (v_p1_blind : Int32) (v_p1_rubs : Int32) (v_shut : Int32) (v_stands : (Nat → Int32)) (v_p1_pages : Int32) (r_ : Int32) :
    ∀ (n : Nat) (z2 : Int32) (z3 : Int32), f_X7_standingInAll_4 fu v_shut v_stands v_p1_pages  n z2 z3 = some r_ → ∀ (H : Heap) (locs : List Loc) (ls : Array Slot), va_P D mp_cl (k_X7_standingInAll T a_ a_order a_knows a_made a_sixteenths a_dots a_used a_stands a_p1 a_p1_cellNames a_p1_secretNames a_p1_pageNames a_p1_speed a_p1_letters a_p1_room a_p1_now a_p1_rounds v_inOrder v_place v_ill v_shut v_turns v_madeInAll v_stands v_p1_cells v_p1_secrets v_p1_pages v_p1_blind v_p1_rubs) H → va_D A (k_X7_standingInAll T a_ a_order a_knows a_made a_sixteenths a_dots a_used a_stands a_p1 a_p1_cellNames a_p1_secretNames a_p1_pageNames a_p1_speed a_p1_letters a_p1_room a_p1_now a_p1_rounds v_inOrder v_place v_ill v_shut v_turns v_madeInAll v_stands v_p1_cells v_p1_secrets v_p1_pages v_p1_blind v_p1_rubs) → va_S A s.heap H locs → lv_has ls 4 [(0, .ref a_), (1, .ref a_p1), (2, .int z2), (3, .int z3)] → W p l e ({ frames := 1, cells := 0, slots := 0, locals := 21 }) s m args below meth c H locs 0 0 (MQ below ((mp_Qi D r_ (k_X7_standingInAll T a_ a_order a_knows a_made a_sixteenths a_dots a_used a_stands a_p1 a_p1_cellNames a_p1_secretNames a_p1_pageNames a_p1_speed a_p1_letters a_p1_room a_p1_now a_p1_rounds v_inOrder v_place v_ill v_shut v_turns v_madeInAll v_stands v_p1_cells v_p1_secrets v_p1_pages v_p1_blind v_p1_rubs)) A) args s 0 0 A) (F0 m 4 ls []) := by
  have hx := X.1
  have hb := X.2.1
  have hml := X.2.2.1
  have hown := X.2.2.2.2.1
  have hts := X.2.2.2.2.2.1
  intro n
  induction n with
  | zero => intro z2 z3 hf; exact absurd hf (by intro h; cases h)
  | succ n ih =>
    intro z2 z3 hf H locs ls hP hD hS hl
    replace hf : (if v_p1_pages ≤ z3 then some (z2) else bd_ (f_X7_has v_shut z3) (fun (r2 : Int32) => (if r2 = 0 then gi_ z3 6 (lt_ (z2 ||| (v_stands (z3).toNatClampNeg)) (fun (y6 : Int32) => lt_ (z3 + (nI 1)) (fun (y7 : Int32) => f_X7_standingInAll_4 fu v_shut v_stands v_p1_pages  n y6 y7))) else lt_ (z2 ||| (nI 0)) (fun (y8 : Int32) => lt_ (z3 + (nI 1)) (fun (y9 : Int32) => f_X7_standingInAll_4 fu v_shut v_stands v_p1_pages  n y8 y9))))) = some r_ := hf
    refine lv_iload_n hx hb dX7_standingInAll_4 rfl (lv_at hl 3 rfl) ?_
    refine lv_aload_n hx hb dX7_standingInAll_5 rfl (lv_at hl 1 rfl) ?_
    refine mp_get X fl_X7_109 hK hP 2 rfl rfl dX7_standingInAll_6 ?_
    refine lv_icmp_ge (tgt := 42) hx hb dX7_standingInAll_9 (by decide) (fun h1 => ?_) (fun h1 => ?_)
    · replace hf := if_t hf h1
      refine lv_iload_n hx hb dX7_standingInAll_42 rfl (lv_at hl 2 rfl) ?_
      cases hf
      exact mp_reti X hP hS rfl dX7_standingInAll_43
    · replace hf := if_f hf h1
      refine lv_iload_n hx hb dX7_standingInAll_12 rfl (lv_at hl 2 rfl) ?_
      refine lv_aload_n hx hb dX7_standingInAll_13 rfl (lv_at hl 0 rfl) ?_
      refine mp_get X fl_X7_43 hK hP 0 rfl rfl dX7_standingInAll_14 ?_
      refine lv_iload_n hx hb dX7_standingInAll_17 rfl (lv_at hl 3 rfl) ?_
      obtain ⟨r2, c3, hf⟩ := bd_of hf
      have hPc := hP.sub (ws' := (k_X7_has T )) [] rfl
      have hDc := (mp_D_of (w1 := (k_X7_standingInAll T a_ a_order a_knows a_made a_sixteenths a_dots a_used a_stands a_p1 a_p1_cellNames a_p1_secretNames a_p1_pageNames a_p1_speed a_p1_letters a_p1_room a_p1_now a_p1_rounds v_inOrder v_place v_ill v_shut v_turns v_madeInAll v_stands v_p1_cells v_p1_secrets v_p1_pages v_p1_blind v_p1_rubs)) hD rfl).sub (ws' := (k_X7_has T )) [] rfl rfl
      refine mp_calli (isC := []) (wc := (k_X7_has T )) (w1 := (k_X7_has T )) hP (mp_D_of hD rfl) hS hA rfl rfl (mp_runS (As := [.int v_shut, .int z3]) (rest := [.int z2]) X me_X7_has lk_X7_64 (c_X7_has l D T v_shut z3 r2 c3) rfl rfl ⟨(Nat.le_of_ble_eq_true rfl), (Nat.le_of_ble_eq_true rfl)⟩ hK hPc hDc rfl hl.1 rfl (Nat.le_of_ble_eq_true rfl) dX7_standingInAll_18 ⟨Nat.zero_le _, Nat.zero_le _⟩) (fun H locs hP _ hS => ?_)
      replace hP : va_P D mp_cl (k_X7_standingInAll T a_ a_order a_knows a_made a_sixteenths a_dots a_used a_stands a_p1 a_p1_cellNames a_p1_secretNames a_p1_pageNames a_p1_speed a_p1_letters a_p1_room a_p1_now a_p1_rounds v_inOrder v_place v_ill v_shut v_turns v_madeInAll v_stands v_p1_cells v_p1_secrets v_p1_pages v_p1_blind v_p1_rubs) H := hP
      refine lv_if_eq (tgt := 28) hx hb dX7_standingInAll_21 (by decide) (fun h4 => ?_) (fun h4 => ?_)
      · replace hf := if_t hf h4
        refine lv_aload_n hx hb dX7_standingInAll_28 rfl (lv_at hl 0 rfl) ?_
        refine mp_get X fl_X7_37 hK hP 0 rfl rfl dX7_standingInAll_29 ?_
        refine lv_iload_n hx hb dX7_standingInAll_32 rfl (lv_at hl 3 rfl) ?_
        obtain ⟨h5, hf⟩ := gi_of hf
        refine va_iald hx hb hK hP 1 0 rfl rfl h5 dX7_standingInAll_33 ?_
        refine lv_ior hx hb dX7_standingInAll_34 ?_
        refine lv_topi (fun y6 e6 => ?_)
        replace hf := lt_of e6 hf
        refine lv_istore_n (lv' := [(2, .int y6), (0, .ref a_), (1, .ref a_p1), (3, .int z3)]) hx hb dX7_standingInAll_35 rfl hl (by decide) rfl (fun ls hl => ?_)
        obtain ⟨y7, e7⟩ : ∃ y : Int32, y = z3 + (nI 1) := ⟨_, rfl⟩
        replace hf := lt_of e7 hf
        refine lv_iinc (v := y7) (lv' := [(3, .int y7), (2, .int y6), (0, .ref a_), (1, .ref a_p1)]) hx hb dX7_standingInAll_36 hl (k := 3) rfl (by rw [e7]; rfl) (by decide) rfl (fun ls hl => ?_)
        refine lv_goto (tgt := 4) hx hb dX7_standingInAll_39 (by decide) ?_
        exact ih y6 y7 hf _ _ _ hP (mp_D_of hD rfl) hS (lv_sub hl [2, 3, 1, 0] rfl)
      · replace hf := if_f hf h4
        refine lv_iconst (v := (nI 0)) hx hb dX7_standingInAll_24 (by decide) ?_
        refine lv_goto (tgt := 34) hx hb dX7_standingInAll_25 (by decide) ?_
        refine lv_ior hx hb dX7_standingInAll_34 ?_
        refine lv_topi (fun y8 e8 => ?_)
        replace hf := lt_of e8 hf
        refine lv_istore_n (lv' := [(2, .int y8), (0, .ref a_), (1, .ref a_p1), (3, .int z3)]) hx hb dX7_standingInAll_35 rfl hl (by decide) rfl (fun ls hl => ?_)
        obtain ⟨y9, e9⟩ : ∃ y : Int32, y = z3 + (nI 1) := ⟨_, rfl⟩
        replace hf := lt_of e9 hf
        refine lv_iinc (v := y9) (lv' := [(3, .int y9), (2, .int y8), (0, .ref a_), (1, .ref a_p1)]) hx hb dX7_standingInAll_36 hl (k := 3) rfl (by rw [e9]; rfl) (by decide) rfl (fun ls hl => ?_)
        refine lv_goto (tgt := 4) hx hb dX7_standingInAll_39 (by decide) ?_
        exact ih y8 y9 hf _ _ _ hP (mp_D_of hD rfl) hS (lv_sub hl [2, 3, 1, 0] rfl)

set_option maxHeartbeats 4000000 in
set_option maxRecDepth 100000 in
theorem c_X7_standingInAll (l : Launch) (D : va_G) (T : Nat → ClassId) (fu : Nat) (a_ a_order a_knows a_made a_sixteenths a_dots a_used a_stands a_p1 a_p1_cellNames a_p1_secretNames a_p1_pageNames a_p1_speed a_p1_letters a_p1_room a_p1_now a_p1_rounds : Nat) (v_inOrder : Int32) (v_place : Int32) (v_ill : Int32) (v_turns : Int32) (v_madeInAll : Int32) (v_p1_cells : Int32) (v_p1_secrets : Int32) (v_p1_blind : Int32) (v_p1_rubs : Int32) (v_shut : Int32) (v_stands : (Nat → Int32)) (v_p1_pages : Int32) (r_ : Int32) (hf : f_X7_standingInAll fu v_shut v_stands v_p1_pages = some r_) :
    mp_M l D T yX7_standingInAll cX7_standingInAll 4 (some .int) ({ frames := 1, cells := 0, slots := 0, locals := 21 }) 0 0 [.ref a_, .ref a_p1] (k_X7_standingInAll T a_ a_order a_knows a_made a_sixteenths a_dots a_used a_stands a_p1 a_p1_cellNames a_p1_secretNames a_p1_pageNames a_p1_speed a_p1_letters a_p1_room a_p1_now a_p1_rounds v_inOrder v_place v_ill v_shut v_turns v_madeInAll v_stands v_p1_cells v_p1_secrets v_p1_pages v_p1_blind v_p1_rubs) (mp_Qi D r_ (k_X7_standingInAll T a_ a_order a_knows a_made a_sixteenths a_dots a_used a_stands a_p1 a_p1_cellNames a_p1_secretNames a_p1_pageNames a_p1_speed a_p1_letters a_p1_room a_p1_now a_p1_rounds v_inOrder v_place v_ill v_shut v_turns v_madeInAll v_stands v_p1_cells v_p1_secrets v_p1_pages v_p1_blind v_p1_rubs)) := by
  refine mp_of (by decide) (Nat.le_of_ble_eq_true rfl) rfl ?_
  intro p e s m args below meth c A ls X hK hP hD hS hA hl
  replace X : mp_X p s m meth c args RX7 "standingInAll" cX7_standingInAll 4 (some .int) := X
  have hx := X.1
  have hb := X.2.1
  have hml := X.2.2.1
  have hown := X.2.2.2.2.1
  have hts := X.2.2.2.2.2.1
  replace hl : lv_has ls 4 [(0, .ref a_), (1, .ref a_p1)] := hl
  replace hf : f_X7_standingInAll_4 fu v_shut v_stands v_p1_pages  fu (nI 0) (nI 0) = some r_ := hf
  refine lv_iconst (v := (nI 0)) hx hb dX7_standingInAll_0 (by decide) ?_
  refine lv_istore_n (lv' := [(2, .int (nI 0)), (0, .ref a_), (1, .ref a_p1)]) hx hb dX7_standingInAll_1 rfl hl (by decide) rfl (fun ls hl => ?_)
  refine lv_iconst (v := (nI 0)) hx hb dX7_standingInAll_2 (by decide) ?_
  refine lv_istore_n (lv' := [(3, .int (nI 0)), (2, .int (nI 0)), (0, .ref a_), (1, .ref a_p1)]) hx hb dX7_standingInAll_3 rfl hl (by decide) rfl (fun ls hl => ?_)
  exact w_X7_standingInAll_4 X hK hA  fu a_ a_order a_knows a_made a_sixteenths a_dots a_used a_stands a_p1 a_p1_cellNames a_p1_secretNames a_p1_pageNames a_p1_speed a_p1_letters a_p1_room a_p1_now a_p1_rounds v_inOrder v_place v_ill v_turns v_madeInAll v_p1_cells v_p1_secrets v_p1_blind v_p1_rubs v_shut v_stands v_p1_pages r_   fu (nI 0) (nI 0) hf _ _ _ hP (mp_D_of hD rfl) hS (lv_sub hl [2, 3, 1, 0] rfl)


def k_X7_eraseSecret (T : Nat → ClassId) (a_ a_order a_knows a_made a_sixteenths a_dots a_used a_stands : Nat) (v_inOrder : Int32) (v_place : Int32) (v_ill : Int32) (v_shut : Int32) (v_turns : Int32) (v_madeInAll : Int32) (v_dots : (Nat → Int32)) (v_stands : (Nat → Int32)) (v_used : (Nat → Int32)) : va_W := [(a_, oX7 a_order v_inOrder v_place a_knows a_made a_sixteenths a_dots a_used a_stands v_ill v_shut v_turns v_madeInAll), (a_dots, mp_aI T 36 v_dots), (a_stands, mp_aI T 6 v_stands), (a_used, mp_aI T 6 v_used)]
set_option maxHeartbeats 4000000 in
set_option maxRecDepth 100000 in
theorem c_X7_eraseSecret (l : Launch) (D : va_G) (T : Nat → ClassId) (a_ a_order a_knows a_made a_sixteenths a_dots a_used a_stands : Nat) (x1 : Int32) (x2 : Int32) (v_inOrder : Int32) (v_place : Int32) (v_ill : Int32) (v_shut : Int32) (v_turns : Int32) (v_madeInAll : Int32) (v_dots : (Nat → Int32)) (v_stands : (Nat → Int32)) (v_used : (Nat → Int32)) (o_dots : (Nat → Int32)) (o_stands : (Nat → Int32)) (o_used : (Nat → Int32)) (hf : f_X7_eraseSecret x1 x2 v_dots v_stands v_used = some (o_dots, o_stands, o_used)) :
    mp_M l D T yX7_eraseSecret cX7_eraseSecret 4 none ({ frames := 0, cells := 0, slots := 0, locals := 0 }) 0 0 [.ref a_, .int x1, .int x2] (k_X7_eraseSecret T a_ a_order a_knows a_made a_sixteenths a_dots a_used a_stands v_inOrder v_place v_ill v_shut v_turns v_madeInAll v_dots v_stands v_used) (mp_Qv D (k_X7_eraseSecret T a_ a_order a_knows a_made a_sixteenths a_dots a_used a_stands v_inOrder v_place v_ill v_shut v_turns v_madeInAll o_dots o_stands o_used)) := by
  refine mp_of (by decide) (Nat.le_of_ble_eq_true rfl) rfl ?_
  intro p e s m args below meth c A ls X hK hP hD hS hA hl
  replace X : mp_X p s m meth c args RX7 "eraseSecret" cX7_eraseSecret 4 none := X
  have hx := X.1
  have hb := X.2.1
  have hml := X.2.2.1
  have hown := X.2.2.2.2.1
  have hts := X.2.2.2.2.2.1
  replace hl : lv_has ls 4 [(0, .ref a_), (1, .int x1), (2, .int x2)] := hl
  replace hf : lt_ ((x1 * (nI 6)) + x2) (fun (y1 : Int32) => gi_ x1 6 (gi_ y1 36 (lt_ ((v_used (x1).toNatClampNeg) - (v_dots (y1).toNatClampNeg)) (fun (y4 : Int32) => gi_ x1 6 (gi_ y1 36 (gi_ x1 6 (lt_ ((v_stands (x1).toNatClampNeg) &&& (((nI 1) <<< (x2 &&& (31 : Int32))) ^^^ (-1 : Int32))) (fun (y8 : Int32) => gi_ x1 6 (some (upd v_dots (y1).toNatClampNeg (nI 0), upd v_stands (x1).toNatClampNeg y8, upd v_used (x1).toNatClampNeg y4)))))))))) = some (o_dots, o_stands, o_used) := hf
  refine lv_iload_n hx hb dX7_eraseSecret_0 rfl (lv_at hl 1 rfl) ?_
  refine lv_bipush (v := (nI 6)) hx hb dX7_eraseSecret_1 (by decide) ?_
  refine lv_imul hx hb dX7_eraseSecret_3 ?_
  refine lv_iload_n hx hb dX7_eraseSecret_4 rfl (lv_at hl 2 rfl) ?_
  refine lv_iadd hx hb dX7_eraseSecret_5 ?_
  refine lv_topi (fun y1 e1 => ?_)
  replace hf := lt_of e1 hf
  refine lv_istore_n (lv' := [(3, .int y1), (0, .ref a_), (1, .int x1), (2, .int x2)]) hx hb dX7_eraseSecret_6 rfl hl (by decide) rfl (fun ls hl => ?_)
  refine lv_aload_n hx hb dX7_eraseSecret_7 rfl (lv_at hl 1 rfl) ?_
  refine mp_get X fl_X7_34 hK hP 0 rfl rfl dX7_eraseSecret_8 ?_
  refine lv_iload_n hx hb dX7_eraseSecret_11 rfl (lv_at hl 2 rfl) ?_
  refine lv_dup2_11 hx hb dX7_eraseSecret_12 rfl rfl ?_
  obtain ⟨h2, hf⟩ := gi_of hf
  refine va_iald hx hb hK hP 3 0 rfl rfl h2 dX7_eraseSecret_13 ?_
  refine lv_aload_n hx hb dX7_eraseSecret_14 rfl (lv_at hl 1 rfl) ?_
  refine mp_get X fl_X7_31 hK hP 0 rfl rfl dX7_eraseSecret_15 ?_
  refine lv_iload_n hx hb dX7_eraseSecret_18 rfl (lv_at hl 0 rfl) ?_
  obtain ⟨h3, hf⟩ := gi_of hf
  refine va_iald hx hb hK hP 1 0 rfl rfl h3 dX7_eraseSecret_19 ?_
  refine lv_isub hx hb dX7_eraseSecret_20 ?_
  refine lv_topi (fun y4 e4 => ?_)
  replace hf := lt_of e4 hf
  obtain ⟨h5, hf⟩ := gi_of hf
  refine va_iast hx hb hK hP (mp_D_of hD rfl) hS 3 0 rfl rfl h5 dX7_eraseSecret_21 (fun H locs hP _ hS => ?_)
  replace hP : va_P D mp_cl (k_X7_eraseSecret T a_ a_order a_knows a_made a_sixteenths a_dots a_used a_stands v_inOrder v_place v_ill v_shut v_turns v_madeInAll v_dots v_stands (upd v_used (x1).toNatClampNeg y4)) H := hP
  refine lv_aload_n hx hb dX7_eraseSecret_22 rfl (lv_at hl 1 rfl) ?_
  refine mp_get X fl_X7_31 hK hP 0 rfl rfl dX7_eraseSecret_23 ?_
  refine lv_iload_n hx hb dX7_eraseSecret_26 rfl (lv_at hl 0 rfl) ?_
  refine lv_iconst (v := (nI 0)) hx hb dX7_eraseSecret_27 (by decide) ?_
  obtain ⟨h6, hf⟩ := gi_of hf
  refine va_iast hx hb hK hP (mp_D_of hD rfl) hS 1 0 rfl rfl h6 dX7_eraseSecret_28 (fun H locs hP _ hS => ?_)
  replace hP : va_P D mp_cl (k_X7_eraseSecret T a_ a_order a_knows a_made a_sixteenths a_dots a_used a_stands v_inOrder v_place v_ill v_shut v_turns v_madeInAll (upd v_dots (y1).toNatClampNeg (nI 0)) v_stands (upd v_used (x1).toNatClampNeg y4)) H := hP
  refine lv_aload_n hx hb dX7_eraseSecret_29 rfl (lv_at hl 1 rfl) ?_
  refine mp_get X fl_X7_37 hK hP 0 rfl rfl dX7_eraseSecret_30 ?_
  refine lv_iload_n hx hb dX7_eraseSecret_33 rfl (lv_at hl 2 rfl) ?_
  refine lv_dup2_11 hx hb dX7_eraseSecret_34 rfl rfl ?_
  obtain ⟨h7, hf⟩ := gi_of hf
  refine va_iald hx hb hK hP 2 0 rfl rfl h7 dX7_eraseSecret_35 ?_
  refine lv_iconst (v := (nI 1)) hx hb dX7_eraseSecret_36 (by decide) ?_
  refine lv_iload_n hx hb dX7_eraseSecret_37 rfl (lv_at hl 3 rfl) ?_
  refine lv_ishl hx hb dX7_eraseSecret_38 ?_
  refine lv_iconst (v := (-1 : Int32)) hx hb dX7_eraseSecret_39 (by decide) ?_
  refine lv_ixor hx hb dX7_eraseSecret_40 ?_
  refine lv_iand hx hb dX7_eraseSecret_41 ?_
  refine lv_topi (fun y8 e8 => ?_)
  replace hf := lt_of e8 hf
  obtain ⟨h9, hf⟩ := gi_of hf
  refine va_iast hx hb hK hP (mp_D_of hD rfl) hS 2 0 rfl rfl h9 dX7_eraseSecret_42 (fun H locs hP _ hS => ?_)
  replace hP : va_P D mp_cl (k_X7_eraseSecret T a_ a_order a_knows a_made a_sixteenths a_dots a_used a_stands v_inOrder v_place v_ill v_shut v_turns v_madeInAll (upd v_dots (y1).toNatClampNeg (nI 0)) (upd v_stands (x1).toNatClampNeg y8) (upd v_used (x1).toNatClampNeg y4)) H := hP
  cases hf
  exact mp_retv X hP hS dX7_eraseSecret_43


def k_X7_eraseFirstNew (T : Nat → ClassId) (a_ a_order a_knows a_made a_sixteenths a_dots a_used a_stands a_p1 a_p1_cellNames a_p1_secretNames a_p1_pageNames a_p1_speed a_p1_letters a_p1_room a_p1_now a_p1_rounds : Nat) (v_inOrder : Int32) (v_place : Int32) (v_ill : Int32) (v_shut : Int32) (v_turns : Int32) (v_madeInAll : Int32) (v_dots : (Nat → Int32)) (v_stands : (Nat → Int32)) (v_used : (Nat → Int32)) (v_p1_cells : Int32) (v_p1_secrets : Int32) (v_p1_pages : Int32) (v_p1_blind : Int32) (v_p1_rubs : Int32) : va_W := [(a_, oX7 a_order v_inOrder v_place a_knows a_made a_sixteenths a_dots a_used a_stands v_ill v_shut v_turns v_madeInAll), (a_dots, mp_aI T 36 v_dots), (a_stands, mp_aI T 6 v_stands), (a_used, mp_aI T 6 v_used), (a_p1, oX1 v_p1_cells v_p1_secrets v_p1_pages a_p1_cellNames a_p1_secretNames a_p1_pageNames a_p1_speed v_p1_blind v_p1_rubs a_p1_letters a_p1_room a_p1_now a_p1_rounds)]
set_option maxHeartbeats 4000000 in
set_option maxRecDepth 100000 in
theorem w_X7_eraseFirstNew_40 {p : Program} {l : Launch} {e : Env} {s : State} {m : MethodId} {args : Array Value} {below : List Frame} {meth : Method} {c : Code} {D : va_G} {T : Nat → ClassId} {A : Nat → Prop} (X : mp_X p s m meth c args RX7 "eraseFirstNew" cX7_eraseFirstNew 6 none) (hK : va_K D mp_cl (mp_ty T) s) (hA : ∀ q, s.heap.size ≤ q → A q) (fu : Nat) (a_ a_order a_knows a_made a_sixteenths a_dots a_used a_stands a_p1 a_p1_cellNames a_p1_secretNames a_p1_pageNames a_p1_speed a_p1_letters a_p1_room a_p1_now a_p1_rounds : Nat) (v_inOrder : Int32) (v_place : Int32) (v_ill : Int32) (v_turns : Int32) (v_madeInAll : Int32) (v_p1_cells : Int32) (v_p1_blind : Int32) (v_p1_rubs : Int32) (v_shut : Int32) (v_p1_secrets : Int32) (v_p1_pages : Int32) (o_dots : (Nat → Int32)) (o_stands : (Nat → Int32)) (o_used : (Nat → Int32)) (K2 : Int32 → Int32 → (Nat → Int32) → (Nat → Int32) → (Nat → Int32) → Option ((Nat → Int32) × (Nat → Int32) × (Nat → Int32))) (hK2 : ∀ (z2 : Int32) (z3 : Int32) (v_dots : (Nat → Int32)) (v_stands : (Nat → Int32)) (v_used : (Nat → Int32)), K2 z2 z3 v_dots v_stands v_used = some (o_dots, o_stands, o_used) → ∀ (H : Heap) (locs : List Loc) (ls : Array Slot), va_P D mp_cl (k_X7_eraseFirstNew T a_ a_order a_knows a_made a_sixteenths a_dots a_used a_stands a_p1 a_p1_cellNames a_p1_secretNames a_p1_pageNames a_p1_speed a_p1_letters a_p1_room a_p1_now a_p1_rounds v_inOrder v_place v_ill v_shut v_turns v_madeInAll v_dots v_stands v_used v_p1_cells v_p1_secrets v_p1_pages v_p1_blind v_p1_rubs) H → va_D A (k_X7_eraseFirstNew T a_ a_order a_knows a_made a_sixteenths a_dots a_used a_stands a_p1 a_p1_cellNames a_p1_secretNames a_p1_pageNames a_p1_speed a_p1_letters a_p1_room a_p1_now a_p1_rounds v_inOrder v_place v_ill v_shut v_turns v_madeInAll v_dots v_stands v_used v_p1_cells v_p1_secrets v_p1_pages v_p1_blind v_p1_rubs) → va_S A s.heap H locs → lv_has ls 6 [(0, .ref a_), (1, .ref a_p1), (2, .int z2), (3, .int z3)] → W p l e ({ frames := 1, cells := 0, slots := 0, locals := 23 }) s m args below meth c H locs 0 0 (MQ below ((mp_Qv D (k_X7_eraseFirstNew T a_ a_order a_knows a_made a_sixteenths a_dots a_used a_stands a_p1 a_p1_cellNames a_p1_secretNames a_p1_pageNames a_p1_speed a_p1_letters a_p1_room a_p1_now a_p1_rounds v_inOrder v_place v_ill v_shut v_turns v_madeInAll o_dots o_stands o_used v_p1_cells v_p1_secrets v_p1_pages v_p1_blind v_p1_rubs)) A) args s 0 0 A) (F0 m 2 ls [])) :
    ∀ (n : Nat) (z2 : Int32) (z3 : Int32) (z4 : Int32) (z5 : Int32) (v_dots : (Nat → Int32)) (v_stands : (Nat → Int32)) (v_used : (Nat → Int32)), f_X7_eraseFirstNew_40 fu v_shut v_p1_secrets v_p1_pages K2 n z2 z3 z4 z5 v_dots v_stands v_used = some (o_dots, o_stands, o_used) → ∀ (H : Heap) (locs : List Loc) (ls : Array Slot), va_P D mp_cl (k_X7_eraseFirstNew T a_ a_order a_knows a_made a_sixteenths a_dots a_used a_stands a_p1 a_p1_cellNames a_p1_secretNames a_p1_pageNames a_p1_speed a_p1_letters a_p1_room a_p1_now a_p1_rounds v_inOrder v_place v_ill v_shut v_turns v_madeInAll v_dots v_stands v_used v_p1_cells v_p1_secrets v_p1_pages v_p1_blind v_p1_rubs) H → va_D A (k_X7_eraseFirstNew T a_ a_order a_knows a_made a_sixteenths a_dots a_used a_stands a_p1 a_p1_cellNames a_p1_secretNames a_p1_pageNames a_p1_speed a_p1_letters a_p1_room a_p1_now a_p1_rounds v_inOrder v_place v_ill v_shut v_turns v_madeInAll v_dots v_stands v_used v_p1_cells v_p1_secrets v_p1_pages v_p1_blind v_p1_rubs) → va_S A s.heap H locs → lv_has ls 6 [(0, .ref a_), (1, .ref a_p1), (2, .int z2), (3, .int z3), (4, .int z4), (5, .int z5)] → W p l e ({ frames := 1, cells := 0, slots := 0, locals := 23 }) s m args below meth c H locs 0 0 (MQ below ((mp_Qv D (k_X7_eraseFirstNew T a_ a_order a_knows a_made a_sixteenths a_dots a_used a_stands a_p1 a_p1_cellNames a_p1_secretNames a_p1_pageNames a_p1_speed a_p1_letters a_p1_room a_p1_now a_p1_rounds v_inOrder v_place v_ill v_shut v_turns v_madeInAll o_dots o_stands o_used v_p1_cells v_p1_secrets v_p1_pages v_p1_blind v_p1_rubs)) A) args s 0 0 A) (F0 m 40 ls []) := by
  have hx := X.1
  have hb := X.2.1
  have hml := X.2.2.1
  have hown := X.2.2.2.2.1
  have hts := X.2.2.2.2.2.1
  intro n
  induction n with
  | zero => intro z2 z3 z4 z5 v_dots v_stands v_used hf; exact absurd hf (by intro h; cases h)
  | succ n ih =>
    intro z2 z3 z4 z5 v_dots v_stands v_used hf H locs ls hP hD hS hl
    replace hf : (if v_p1_secrets ≤ z5 then lt_ (z3 + (nI 1)) (fun (y2 : Int32) => K2 z2 y2 v_dots v_stands v_used) else (if z4 = 0 then lt_ (z3 + (nI 1)) (fun (y4 : Int32) => K2 z2 y4 v_dots v_stands v_used) else bd_ (f_X7_has z4 z5) (fun (r5 : Int32) => (if r5 = 0 then lt_ (z5 + (nI 1)) (fun (y8 : Int32) => f_X7_eraseFirstNew_40 fu v_shut v_p1_secrets v_p1_pages K2 n z2 z3 z4 y8 v_dots v_stands v_used) else bd_ (f_X7_eraseSecret z3 z5 v_dots v_stands v_used) (fun (z : (Nat → Int32) × (Nat → Int32) × (Nat → Int32)) => match z with | (u9, u10, u11) => some (u9, u10, u11)))))) = some (o_dots, o_stands, o_used) := hf
    refine lv_iload hx hb dX7_eraseFirstNew_40 (lv_at hl 5 rfl) ?_
    refine lv_aload_n hx hb dX7_eraseFirstNew_42 rfl (lv_at hl 1 rfl) ?_
    refine mp_get X fl_X7_112 hK hP 4 rfl rfl dX7_eraseFirstNew_43 ?_
    refine lv_icmp_ge (tgt := 78) hx hb dX7_eraseFirstNew_46 (by decide) (fun h1 => ?_) (fun h1 => ?_)
    · replace hf := if_t hf h1
      obtain ⟨y2, e2⟩ : ∃ y : Int32, y = z3 + (nI 1) := ⟨_, rfl⟩
      replace hf := lt_of e2 hf
      refine lv_iinc (v := y2) (lv' := [(3, .int y2), (0, .ref a_), (1, .ref a_p1), (2, .int z2), (4, .int z4), (5, .int z5)]) hx hb dX7_eraseFirstNew_78 hl (k := 3) rfl (by rw [e2]; rfl) (by decide) rfl (fun ls hl => ?_)
      refine lv_goto (tgt := 2) hx hb dX7_eraseFirstNew_81 (by decide) ?_
      exact hK2 z2 y2 v_dots v_stands v_used hf _ _ _ hP (mp_D_of hD rfl) hS (lv_sub hl [1, 2, 3, 0] rfl)
    · replace hf := if_f hf h1
      refine lv_iload hx hb dX7_eraseFirstNew_49 (lv_at hl 4 rfl) ?_
      refine lv_if_eq (tgt := 78) hx hb dX7_eraseFirstNew_51 (by decide) (fun h3 => ?_) (fun h3 => ?_)
      · replace hf := if_t hf h3
        obtain ⟨y4, e4⟩ : ∃ y : Int32, y = z3 + (nI 1) := ⟨_, rfl⟩
        replace hf := lt_of e4 hf
        refine lv_iinc (v := y4) (lv' := [(3, .int y4), (0, .ref a_), (1, .ref a_p1), (2, .int z2), (4, .int z4), (5, .int z5)]) hx hb dX7_eraseFirstNew_78 hl (k := 3) rfl (by rw [e4]; rfl) (by decide) rfl (fun ls hl => ?_)
        refine lv_goto (tgt := 2) hx hb dX7_eraseFirstNew_81 (by decide) ?_
        exact hK2 z2 y4 v_dots v_stands v_used hf _ _ _ hP (mp_D_of hD rfl) hS (lv_sub hl [1, 2, 3, 0] rfl)
      · replace hf := if_f hf h3
        refine lv_iload hx hb dX7_eraseFirstNew_54 (lv_at hl 4 rfl) ?_
        refine lv_iload hx hb dX7_eraseFirstNew_56 (lv_at hl 5 rfl) ?_
        obtain ⟨r5, c6, hf⟩ := bd_of hf
        have hPc := hP.sub (ws' := (k_X7_has T )) [] rfl
        have hDc := (mp_D_of (w1 := (k_X7_eraseFirstNew T a_ a_order a_knows a_made a_sixteenths a_dots a_used a_stands a_p1 a_p1_cellNames a_p1_secretNames a_p1_pageNames a_p1_speed a_p1_letters a_p1_room a_p1_now a_p1_rounds v_inOrder v_place v_ill v_shut v_turns v_madeInAll v_dots v_stands v_used v_p1_cells v_p1_secrets v_p1_pages v_p1_blind v_p1_rubs)) hD rfl).sub (ws' := (k_X7_has T )) [] rfl rfl
        refine mp_calli (isC := []) (wc := (k_X7_has T )) (w1 := (k_X7_has T )) hP (mp_D_of hD rfl) hS hA rfl rfl (mp_runS (As := [.int z4, .int z5]) (rest := []) X me_X7_has lk_X7_64 (c_X7_has l D T z4 z5 r5 c6) rfl rfl ⟨(Nat.le_of_ble_eq_true rfl), (Nat.le_of_ble_eq_true rfl)⟩ hK hPc hDc rfl hl.1 rfl (Nat.le_of_ble_eq_true rfl) dX7_eraseFirstNew_58 ⟨Nat.zero_le _, Nat.zero_le _⟩) (fun H locs hP _ hS => ?_)
        replace hP : va_P D mp_cl (k_X7_eraseFirstNew T a_ a_order a_knows a_made a_sixteenths a_dots a_used a_stands a_p1 a_p1_cellNames a_p1_secretNames a_p1_pageNames a_p1_speed a_p1_letters a_p1_room a_p1_now a_p1_rounds v_inOrder v_place v_ill v_shut v_turns v_madeInAll v_dots v_stands v_used v_p1_cells v_p1_secrets v_p1_pages v_p1_blind v_p1_rubs) H := hP
        refine lv_if_eq (tgt := 72) hx hb dX7_eraseFirstNew_61 (by decide) (fun h7 => ?_) (fun h7 => ?_)
        · replace hf := if_t hf h7
          obtain ⟨y8, e8⟩ : ∃ y : Int32, y = z5 + (nI 1) := ⟨_, rfl⟩
          replace hf := lt_of e8 hf
          refine lv_iinc (v := y8) (lv' := [(5, .int y8), (0, .ref a_), (1, .ref a_p1), (2, .int z2), (3, .int z3), (4, .int z4)]) hx hb dX7_eraseFirstNew_72 hl (k := 5) rfl (by rw [e8]; rfl) (by decide) rfl (fun ls hl => ?_)
          refine lv_goto (tgt := 40) hx hb dX7_eraseFirstNew_75 (by decide) ?_
          exact ih z2 z3 z4 y8 v_dots v_stands v_used hf _ _ _ hP (mp_D_of hD rfl) hS (lv_sub hl [1, 2, 3, 4, 5, 0] rfl)
        · replace hf := if_f hf h7
          refine lv_aload_n hx hb dX7_eraseFirstNew_64 rfl (lv_at hl 0 rfl) ?_
          refine lv_iload_n hx hb dX7_eraseFirstNew_65 rfl (lv_at hl 3 rfl) ?_
          refine lv_iload hx hb dX7_eraseFirstNew_66 (lv_at hl 5 rfl) ?_
          obtain ⟨⟨u9, u10, u11⟩, c12, hf⟩ := bd_of hf
          dsimp only at hf
          have hPc := hP.sub (ws' := (k_X7_eraseSecret T a_ a_order a_knows a_made a_sixteenths a_dots a_used a_stands v_inOrder v_place v_ill v_shut v_turns v_madeInAll v_dots v_stands v_used)) [0, 1, 2, 3] rfl
          have hDc := (mp_D_of (w1 := (k_X7_eraseFirstNew T a_ a_order a_knows a_made a_sixteenths a_dots a_used a_stands a_p1 a_p1_cellNames a_p1_secretNames a_p1_pageNames a_p1_speed a_p1_letters a_p1_room a_p1_now a_p1_rounds v_inOrder v_place v_ill v_shut v_turns v_madeInAll v_dots v_stands v_used v_p1_cells v_p1_secrets v_p1_pages v_p1_blind v_p1_rubs)) hD rfl).sub (ws' := (k_X7_eraseSecret T a_ a_order a_knows a_made a_sixteenths a_dots a_used a_stands v_inOrder v_place v_ill v_shut v_turns v_madeInAll v_dots v_stands v_used)) [0, 1, 2, 3] rfl rfl
          refine mp_callv (isC := [0, 1, 2, 3]) (wc := (k_X7_eraseSecret T a_ a_order a_knows a_made a_sixteenths a_dots a_used a_stands v_inOrder v_place v_ill v_shut v_turns v_madeInAll v_dots v_stands v_used)) (w1 := (k_X7_eraseSecret T a_ a_order a_knows a_made a_sixteenths a_dots a_used a_stands v_inOrder v_place v_ill v_shut v_turns v_madeInAll u9 u10 u11)) hP (mp_D_of hD rfl) hS hA rfl rfl (mp_runV (As := [.int z3, .int z5]) (rest := []) X me_X7_eraseSecret lk_X7_115 (c_X7_eraseSecret l D T a_ a_order a_knows a_made a_sixteenths a_dots a_used a_stands z3 z5 v_inOrder v_place v_ill v_shut v_turns v_madeInAll v_dots v_stands v_used u9 u10 u11 c12) rfl rfl ⟨(Nat.le_of_ble_eq_true rfl), (Nat.le_of_ble_eq_true rfl)⟩ hK hPc hDc rfl rfl rfl rfl hl.1 rfl (Nat.le_of_ble_eq_true rfl) dX7_eraseFirstNew_68 ⟨Nat.zero_le _, Nat.zero_le _⟩) (fun H locs hP _ hS => ?_)
          replace hP : va_P D mp_cl (k_X7_eraseFirstNew T a_ a_order a_knows a_made a_sixteenths a_dots a_used a_stands a_p1 a_p1_cellNames a_p1_secretNames a_p1_pageNames a_p1_speed a_p1_letters a_p1_room a_p1_now a_p1_rounds v_inOrder v_place v_ill v_shut v_turns v_madeInAll u9 u10 u11 v_p1_cells v_p1_secrets v_p1_pages v_p1_blind v_p1_rubs) H := hP
          cases hf
          exact mp_retv X hP hS dX7_eraseFirstNew_71

set_option maxHeartbeats 4000000 in
set_option maxRecDepth 100000 in
theorem w_X7_eraseFirstNew_2 {p : Program} {l : Launch} {e : Env} {s : State} {m : MethodId} {args : Array Value} {below : List Frame} {meth : Method} {c : Code} {D : va_G} {T : Nat → ClassId} {A : Nat → Prop} (X : mp_X p s m meth c args RX7 "eraseFirstNew" cX7_eraseFirstNew 6 none) (hK : va_K D mp_cl (mp_ty T) s) (hA : ∀ q, s.heap.size ≤ q → A q) (fu : Nat) (a_ a_order a_knows a_made a_sixteenths a_dots a_used a_stands a_p1 a_p1_cellNames a_p1_secretNames a_p1_pageNames a_p1_speed a_p1_letters a_p1_room a_p1_now a_p1_rounds : Nat) (v_inOrder : Int32) (v_place : Int32) (v_ill : Int32) (v_turns : Int32) (v_madeInAll : Int32) (v_p1_cells : Int32) (v_p1_blind : Int32) (v_p1_rubs : Int32) (v_shut : Int32) (v_p1_secrets : Int32) (v_p1_pages : Int32) (o_dots : (Nat → Int32)) (o_stands : (Nat → Int32)) (o_used : (Nat → Int32)) :
    ∀ (n : Nat) (z2 : Int32) (z3 : Int32) (v_dots : (Nat → Int32)) (v_stands : (Nat → Int32)) (v_used : (Nat → Int32)), f_X7_eraseFirstNew_2 fu v_shut v_p1_secrets v_p1_pages  n z2 z3 v_dots v_stands v_used = some (o_dots, o_stands, o_used) → ∀ (H : Heap) (locs : List Loc) (ls : Array Slot), va_P D mp_cl (k_X7_eraseFirstNew T a_ a_order a_knows a_made a_sixteenths a_dots a_used a_stands a_p1 a_p1_cellNames a_p1_secretNames a_p1_pageNames a_p1_speed a_p1_letters a_p1_room a_p1_now a_p1_rounds v_inOrder v_place v_ill v_shut v_turns v_madeInAll v_dots v_stands v_used v_p1_cells v_p1_secrets v_p1_pages v_p1_blind v_p1_rubs) H → va_D A (k_X7_eraseFirstNew T a_ a_order a_knows a_made a_sixteenths a_dots a_used a_stands a_p1 a_p1_cellNames a_p1_secretNames a_p1_pageNames a_p1_speed a_p1_letters a_p1_room a_p1_now a_p1_rounds v_inOrder v_place v_ill v_shut v_turns v_madeInAll v_dots v_stands v_used v_p1_cells v_p1_secrets v_p1_pages v_p1_blind v_p1_rubs) → va_S A s.heap H locs → lv_has ls 6 [(0, .ref a_), (1, .ref a_p1), (2, .int z2), (3, .int z3)] → W p l e ({ frames := 1, cells := 0, slots := 0, locals := 23 }) s m args below meth c H locs 0 0 (MQ below ((mp_Qv D (k_X7_eraseFirstNew T a_ a_order a_knows a_made a_sixteenths a_dots a_used a_stands a_p1 a_p1_cellNames a_p1_secretNames a_p1_pageNames a_p1_speed a_p1_letters a_p1_room a_p1_now a_p1_rounds v_inOrder v_place v_ill v_shut v_turns v_madeInAll o_dots o_stands o_used v_p1_cells v_p1_secrets v_p1_pages v_p1_blind v_p1_rubs)) A) args s 0 0 A) (F0 m 2 ls []) := by
  have hx := X.1
  have hb := X.2.1
  have hml := X.2.2.1
  have hown := X.2.2.2.2.1
  have hts := X.2.2.2.2.2.1
  intro n
  induction n with
  | zero => intro z2 z3 v_dots v_stands v_used hf; exact absurd hf (by intro h; cases h)
  | succ n ih =>
    intro z2 z3 v_dots v_stands v_used hf H locs ls hP hD hS hl
    replace hf : (if v_p1_pages ≤ z3 then some (v_dots, v_stands, v_used) else bd_ (f_X7_has v_shut z3) (fun (r2 : Int32) => (if r2 = 0 then gi_ z3 6 (lt_ ((v_stands (z3).toNatClampNeg) &&& (z2 ^^^ (-1 : Int32))) (fun (y6 : Int32) => f_X7_eraseFirstNew_40 fu v_shut v_p1_secrets v_p1_pages (f_X7_eraseFirstNew_2 fu v_shut v_p1_secrets v_p1_pages  n) fu z2 z3 y6 (nI 0) v_dots v_stands v_used)) else f_X7_eraseFirstNew_40 fu v_shut v_p1_secrets v_p1_pages (f_X7_eraseFirstNew_2 fu v_shut v_p1_secrets v_p1_pages  n) fu z2 z3 (nI 0) (nI 0) v_dots v_stands v_used))) = some (o_dots, o_stands, o_used) := hf
    refine lv_iload_n hx hb dX7_eraseFirstNew_2 rfl (lv_at hl 3 rfl) ?_
    refine lv_aload_n hx hb dX7_eraseFirstNew_3 rfl (lv_at hl 1 rfl) ?_
    refine mp_get X fl_X7_109 hK hP 4 rfl rfl dX7_eraseFirstNew_4 ?_
    refine lv_icmp_ge (tgt := 84) hx hb dX7_eraseFirstNew_7 (by decide) (fun h1 => ?_) (fun h1 => ?_)
    · replace hf := if_t hf h1
      cases hf
      exact mp_retv X hP hS dX7_eraseFirstNew_84
    · replace hf := if_f hf h1
      refine lv_aload_n hx hb dX7_eraseFirstNew_10 rfl (lv_at hl 0 rfl) ?_
      refine mp_get X fl_X7_43 hK hP 0 rfl rfl dX7_eraseFirstNew_11 ?_
      refine lv_iload_n hx hb dX7_eraseFirstNew_14 rfl (lv_at hl 3 rfl) ?_
      obtain ⟨r2, c3, hf⟩ := bd_of hf
      have hPc := hP.sub (ws' := (k_X7_has T )) [] rfl
      have hDc := (mp_D_of (w1 := (k_X7_eraseFirstNew T a_ a_order a_knows a_made a_sixteenths a_dots a_used a_stands a_p1 a_p1_cellNames a_p1_secretNames a_p1_pageNames a_p1_speed a_p1_letters a_p1_room a_p1_now a_p1_rounds v_inOrder v_place v_ill v_shut v_turns v_madeInAll v_dots v_stands v_used v_p1_cells v_p1_secrets v_p1_pages v_p1_blind v_p1_rubs)) hD rfl).sub (ws' := (k_X7_has T )) [] rfl rfl
      refine mp_calli (isC := []) (wc := (k_X7_has T )) (w1 := (k_X7_has T )) hP (mp_D_of hD rfl) hS hA rfl rfl (mp_runS (As := [.int v_shut, .int z3]) (rest := []) X me_X7_has lk_X7_64 (c_X7_has l D T v_shut z3 r2 c3) rfl rfl ⟨(Nat.le_of_ble_eq_true rfl), (Nat.le_of_ble_eq_true rfl)⟩ hK hPc hDc rfl hl.1 rfl (Nat.le_of_ble_eq_true rfl) dX7_eraseFirstNew_15 ⟨Nat.zero_le _, Nat.zero_le _⟩) (fun H locs hP _ hS => ?_)
      replace hP : va_P D mp_cl (k_X7_eraseFirstNew T a_ a_order a_knows a_made a_sixteenths a_dots a_used a_stands a_p1 a_p1_cellNames a_p1_secretNames a_p1_pageNames a_p1_speed a_p1_letters a_p1_room a_p1_now a_p1_rounds v_inOrder v_place v_ill v_shut v_turns v_madeInAll v_dots v_stands v_used v_p1_cells v_p1_secrets v_p1_pages v_p1_blind v_p1_rubs) H := hP
      refine lv_if_eq (tgt := 25) hx hb dX7_eraseFirstNew_18 (by decide) (fun h4 => ?_) (fun h4 => ?_)
      · replace hf := if_t hf h4
        refine lv_aload_n hx hb dX7_eraseFirstNew_25 rfl (lv_at hl 0 rfl) ?_
        refine mp_get X fl_X7_37 hK hP 0 rfl rfl dX7_eraseFirstNew_26 ?_
        refine lv_iload_n hx hb dX7_eraseFirstNew_29 rfl (lv_at hl 3 rfl) ?_
        obtain ⟨h5, hf⟩ := gi_of hf
        refine va_iald hx hb hK hP 2 0 rfl rfl h5 dX7_eraseFirstNew_30 ?_
        refine lv_iload_n hx hb dX7_eraseFirstNew_31 rfl (lv_at hl 2 rfl) ?_
        refine lv_iconst (v := (-1 : Int32)) hx hb dX7_eraseFirstNew_32 (by decide) ?_
        refine lv_ixor hx hb dX7_eraseFirstNew_33 ?_
        refine lv_iand hx hb dX7_eraseFirstNew_34 ?_
        refine lv_topi (fun y6 e6 => ?_)
        replace hf := lt_of e6 hf
        refine lv_istore (lv' := [(4, .int y6), (0, .ref a_), (1, .ref a_p1), (2, .int z2), (3, .int z3)]) hx hb dX7_eraseFirstNew_35 hl (by decide) rfl (fun ls hl => ?_)
        refine lv_iconst (v := (nI 0)) hx hb dX7_eraseFirstNew_37 (by decide) ?_
        refine lv_istore (lv' := [(5, .int (nI 0)), (4, .int y6), (0, .ref a_), (1, .ref a_p1), (2, .int z2), (3, .int z3)]) hx hb dX7_eraseFirstNew_38 hl (by decide) rfl (fun ls hl => ?_)
        exact w_X7_eraseFirstNew_40 X hK hA  fu a_ a_order a_knows a_made a_sixteenths a_dots a_used a_stands a_p1 a_p1_cellNames a_p1_secretNames a_p1_pageNames a_p1_speed a_p1_letters a_p1_room a_p1_now a_p1_rounds v_inOrder v_place v_ill v_turns v_madeInAll v_p1_cells v_p1_blind v_p1_rubs v_shut v_p1_secrets v_p1_pages o_dots o_stands o_used  (f_X7_eraseFirstNew_2 fu v_shut v_p1_secrets v_p1_pages  n) (ih) fu z2 z3 y6 (nI 0) v_dots v_stands v_used hf _ _ _ hP (mp_D_of hD rfl) hS (lv_sub hl [2, 3, 4, 5, 1, 0] rfl)
      · replace hf := if_f hf h4
        refine lv_iconst (v := (nI 0)) hx hb dX7_eraseFirstNew_21 (by decide) ?_
        refine lv_goto (tgt := 35) hx hb dX7_eraseFirstNew_22 (by decide) ?_
        refine lv_istore (lv' := [(4, .int (nI 0)), (0, .ref a_), (1, .ref a_p1), (2, .int z2), (3, .int z3)]) hx hb dX7_eraseFirstNew_35 hl (by decide) rfl (fun ls hl => ?_)
        refine lv_iconst (v := (nI 0)) hx hb dX7_eraseFirstNew_37 (by decide) ?_
        refine lv_istore (lv' := [(5, .int (nI 0)), (4, .int (nI 0)), (0, .ref a_), (1, .ref a_p1), (2, .int z2), (3, .int z3)]) hx hb dX7_eraseFirstNew_38 hl (by decide) rfl (fun ls hl => ?_)
        exact w_X7_eraseFirstNew_40 X hK hA  fu a_ a_order a_knows a_made a_sixteenths a_dots a_used a_stands a_p1 a_p1_cellNames a_p1_secretNames a_p1_pageNames a_p1_speed a_p1_letters a_p1_room a_p1_now a_p1_rounds v_inOrder v_place v_ill v_turns v_madeInAll v_p1_cells v_p1_blind v_p1_rubs v_shut v_p1_secrets v_p1_pages o_dots o_stands o_used  (f_X7_eraseFirstNew_2 fu v_shut v_p1_secrets v_p1_pages  n) (ih) fu z2 z3 (nI 0) (nI 0) v_dots v_stands v_used hf _ _ _ hP (mp_D_of hD rfl) hS (lv_sub hl [2, 3, 4, 5, 1, 0] rfl)

set_option maxHeartbeats 4000000 in
set_option maxRecDepth 100000 in
theorem c_X7_eraseFirstNew (l : Launch) (D : va_G) (T : Nat → ClassId) (fu : Nat) (a_ a_order a_knows a_made a_sixteenths a_dots a_used a_stands a_p1 a_p1_cellNames a_p1_secretNames a_p1_pageNames a_p1_speed a_p1_letters a_p1_room a_p1_now a_p1_rounds : Nat) (x2 : Int32) (v_inOrder : Int32) (v_place : Int32) (v_ill : Int32) (v_turns : Int32) (v_madeInAll : Int32) (v_p1_cells : Int32) (v_p1_blind : Int32) (v_p1_rubs : Int32) (v_shut : Int32) (v_dots : (Nat → Int32)) (v_stands : (Nat → Int32)) (v_used : (Nat → Int32)) (v_p1_secrets : Int32) (v_p1_pages : Int32) (o_dots : (Nat → Int32)) (o_stands : (Nat → Int32)) (o_used : (Nat → Int32)) (hf : f_X7_eraseFirstNew fu x2 v_shut v_dots v_stands v_used v_p1_secrets v_p1_pages = some (o_dots, o_stands, o_used)) :
    mp_M l D T yX7_eraseFirstNew cX7_eraseFirstNew 6 none ({ frames := 1, cells := 0, slots := 0, locals := 23 }) 0 0 [.ref a_, .ref a_p1, .int x2] (k_X7_eraseFirstNew T a_ a_order a_knows a_made a_sixteenths a_dots a_used a_stands a_p1 a_p1_cellNames a_p1_secretNames a_p1_pageNames a_p1_speed a_p1_letters a_p1_room a_p1_now a_p1_rounds v_inOrder v_place v_ill v_shut v_turns v_madeInAll v_dots v_stands v_used v_p1_cells v_p1_secrets v_p1_pages v_p1_blind v_p1_rubs) (mp_Qv D (k_X7_eraseFirstNew T a_ a_order a_knows a_made a_sixteenths a_dots a_used a_stands a_p1 a_p1_cellNames a_p1_secretNames a_p1_pageNames a_p1_speed a_p1_letters a_p1_room a_p1_now a_p1_rounds v_inOrder v_place v_ill v_shut v_turns v_madeInAll o_dots o_stands o_used v_p1_cells v_p1_secrets v_p1_pages v_p1_blind v_p1_rubs)) := by
  refine mp_of (by decide) (Nat.le_of_ble_eq_true rfl) rfl ?_
  intro p e s m args below meth c A ls X hK hP hD hS hA hl
  replace X : mp_X p s m meth c args RX7 "eraseFirstNew" cX7_eraseFirstNew 6 none := X
  have hx := X.1
  have hb := X.2.1
  have hml := X.2.2.1
  have hown := X.2.2.2.2.1
  have hts := X.2.2.2.2.2.1
  replace hl : lv_has ls 6 [(0, .ref a_), (1, .ref a_p1), (2, .int x2)] := hl
  replace hf : f_X7_eraseFirstNew_2 fu v_shut v_p1_secrets v_p1_pages  fu x2 (nI 0) v_dots v_stands v_used = some (o_dots, o_stands, o_used) := hf
  refine lv_iconst (v := (nI 0)) hx hb dX7_eraseFirstNew_0 (by decide) ?_
  refine lv_istore_n (lv' := [(3, .int (nI 0)), (0, .ref a_), (1, .ref a_p1), (2, .int x2)]) hx hb dX7_eraseFirstNew_1 rfl hl (by decide) rfl (fun ls hl => ?_)
  exact w_X7_eraseFirstNew_2 X hK hA  fu a_ a_order a_knows a_made a_sixteenths a_dots a_used a_stands a_p1 a_p1_cellNames a_p1_secretNames a_p1_pageNames a_p1_speed a_p1_letters a_p1_room a_p1_now a_p1_rounds v_inOrder v_place v_ill v_turns v_madeInAll v_p1_cells v_p1_blind v_p1_rubs v_shut v_p1_secrets v_p1_pages o_dots o_stands o_used   fu x2 (nI 0) v_dots v_stands v_used hf _ _ _ hP (mp_D_of hD rfl) hS (lv_sub hl [1, 2, 3, 0] rfl)


def k_X7_pageFor (T : Nat → ClassId) (a_ a_order a_knows a_made a_sixteenths a_dots a_used a_stands a_p1 a_p1_cellNames a_p1_secretNames a_p1_pageNames a_p1_speed a_p1_letters a_p1_room a_p1_now a_p1_rounds : Nat) (v_inOrder : Int32) (v_place : Int32) (v_ill : Int32) (v_shut : Int32) (v_turns : Int32) (v_madeInAll : Int32) (v_dots : (Nat → Int32)) (v_used : (Nat → Int32)) (v_p1_cells : Int32) (v_p1_secrets : Int32) (v_p1_pages : Int32) (v_p1_blind : Int32) (v_p1_rubs : Int32) (v_p1_room : (Nat → Int32)) : va_W := [(a_, oX7 a_order v_inOrder v_place a_knows a_made a_sixteenths a_dots a_used a_stands v_ill v_shut v_turns v_madeInAll), (a_dots, mp_aI T 36 v_dots), (a_used, mp_aI T 6 v_used), (a_p1, oX1 v_p1_cells v_p1_secrets v_p1_pages a_p1_cellNames a_p1_secretNames a_p1_pageNames a_p1_speed v_p1_blind v_p1_rubs a_p1_letters a_p1_room a_p1_now a_p1_rounds), (a_p1_room, mp_aI T 6 v_p1_room)]
set_option maxHeartbeats 4000000 in
set_option maxRecDepth 100000 in
theorem w_X7_pageFor_8 {p : Program} {l : Launch} {e : Env} {s : State} {m : MethodId} {args : Array Value} {below : List Frame} {meth : Method} {c : Code} {D : va_G} {T : Nat → ClassId} {A : Nat → Prop} (X : mp_X p s m meth c args RX7 "pageFor" cX7_pageFor 7 (some .int)) (hK : va_K D mp_cl (mp_ty T) s) (hA : ∀ q, s.heap.size ≤ q → A q) (fu : Nat) (a_ a_order a_knows a_made a_sixteenths a_dots a_used a_stands a_p1 a_p1_cellNames a_p1_secretNames a_p1_pageNames a_p1_speed a_p1_letters a_p1_room a_p1_now a_p1_rounds : Nat) (v_inOrder : Int32) (v_place : Int32) (v_ill : Int32) (v_turns : Int32) (v_madeInAll : Int32) (v_p1_cells : Int32) (v_p1_secrets : Int32) (v_p1_blind : Int32) (v_p1_rubs : Int32) (v_shut : Int32) (v_dots : (Nat → Int32)) (v_used : (Nat → Int32)) (v_p1_pages : Int32) (v_p1_room : (Nat → Int32)) (r_ : Int32) :
    ∀ (n : Nat) (z2 : Int32) (z3 : Int32) (z4 : Int32) (z5 : Int32), f_X7_pageFor_8 fu v_shut v_dots v_used v_p1_pages v_p1_room  n z2 z3 z4 z5 = some r_ → ∀ (H : Heap) (locs : List Loc) (ls : Array Slot), va_P D mp_cl (k_X7_pageFor T a_ a_order a_knows a_made a_sixteenths a_dots a_used a_stands a_p1 a_p1_cellNames a_p1_secretNames a_p1_pageNames a_p1_speed a_p1_letters a_p1_room a_p1_now a_p1_rounds v_inOrder v_place v_ill v_shut v_turns v_madeInAll v_dots v_used v_p1_cells v_p1_secrets v_p1_pages v_p1_blind v_p1_rubs v_p1_room) H → va_D A (k_X7_pageFor T a_ a_order a_knows a_made a_sixteenths a_dots a_used a_stands a_p1 a_p1_cellNames a_p1_secretNames a_p1_pageNames a_p1_speed a_p1_letters a_p1_room a_p1_now a_p1_rounds v_inOrder v_place v_ill v_shut v_turns v_madeInAll v_dots v_used v_p1_cells v_p1_secrets v_p1_pages v_p1_blind v_p1_rubs v_p1_room) → va_S A s.heap H locs → lv_has ls 7 [(0, .ref a_), (1, .ref a_p1), (2, .int z2), (3, .int z3), (4, .int z4), (5, .int z5)] → W p l e ({ frames := 1, cells := 0, slots := 0, locals := 21 }) s m args below meth c H locs 0 0 (MQ below ((mp_Qi D r_ (k_X7_pageFor T a_ a_order a_knows a_made a_sixteenths a_dots a_used a_stands a_p1 a_p1_cellNames a_p1_secretNames a_p1_pageNames a_p1_speed a_p1_letters a_p1_room a_p1_now a_p1_rounds v_inOrder v_place v_ill v_shut v_turns v_madeInAll v_dots v_used v_p1_cells v_p1_secrets v_p1_pages v_p1_blind v_p1_rubs v_p1_room)) A) args s 0 0 A) (F0 m 8 ls []) := by
  have hx := X.1
  have hb := X.2.1
  have hml := X.2.2.1
  have hown := X.2.2.2.2.1
  have hts := X.2.2.2.2.2.1
  intro n
  induction n with
  | zero => intro z2 z3 z4 z5 hf; exact absurd hf (by intro h; cases h)
  | succ n ih =>
    intro z2 z3 z4 z5 hf H locs ls hP hD hS hl
    replace hf : (if v_p1_pages ≤ z5 then some (z3) else gi_ ((z5 * (nI 6)) + z2) 36 (lt_ (v_dots ((z5 * (nI 6)) + z2).toNatClampNeg) (fun (y3 : Int32) => bd_ (f_X7_has v_shut z5) (fun (r4 : Int32) => (if r4 = 0 then gi_ z5 6 (gi_ z5 6 ((if (v_p1_room (z5).toNatClampNeg) ≤ (v_used (z5).toNatClampNeg) then lt_ (z5 + (nI 1)) (fun (y11 : Int32) => f_X7_pageFor_8 fu v_shut v_dots v_used v_p1_pages v_p1_room  n z2 z3 z4 y11) else (if y3 ≤ z4 then lt_ (z5 + (nI 1)) (fun (y13 : Int32) => f_X7_pageFor_8 fu v_shut v_dots v_used v_p1_pages v_p1_room  n z2 z3 z4 y13) else lt_ (z5 + (nI 1)) (fun (y14 : Int32) => f_X7_pageFor_8 fu v_shut v_dots v_used v_p1_pages v_p1_room  n z2 z5 y3 y14))))) else lt_ (z5 + (nI 1)) (fun (y7 : Int32) => f_X7_pageFor_8 fu v_shut v_dots v_used v_p1_pages v_p1_room  n z2 z3 z4 y7)))))) = some r_ := hf
    refine lv_iload hx hb dX7_pageFor_8 (lv_at hl 5 rfl) ?_
    refine lv_aload_n hx hb dX7_pageFor_10 rfl (lv_at hl 1 rfl) ?_
    refine mp_get X fl_X7_109 hK hP 3 rfl rfl dX7_pageFor_11 ?_
    refine lv_icmp_ge (tgt := 80) hx hb dX7_pageFor_14 (by decide) (fun h1 => ?_) (fun h1 => ?_)
    · replace hf := if_t hf h1
      refine lv_iload_n hx hb dX7_pageFor_80 rfl (lv_at hl 3 rfl) ?_
      cases hf
      exact mp_reti X hP hS rfl dX7_pageFor_81
    · replace hf := if_f hf h1
      refine lv_aload_n hx hb dX7_pageFor_17 rfl (lv_at hl 0 rfl) ?_
      refine mp_get X fl_X7_31 hK hP 0 rfl rfl dX7_pageFor_18 ?_
      refine lv_iload hx hb dX7_pageFor_21 (lv_at hl 5 rfl) ?_
      refine lv_bipush (v := (nI 6)) hx hb dX7_pageFor_23 (by decide) ?_
      refine lv_imul hx hb dX7_pageFor_25 ?_
      refine lv_iload_n hx hb dX7_pageFor_26 rfl (lv_at hl 2 rfl) ?_
      refine lv_iadd hx hb dX7_pageFor_27 ?_
      obtain ⟨h2, hf⟩ := gi_of hf
      refine va_iald hx hb hK hP 1 0 rfl rfl h2 dX7_pageFor_28 ?_
      refine lv_topi (fun y3 e3 => ?_)
      replace hf := lt_of e3 hf
      refine lv_istore (lv' := [(6, .int y3), (0, .ref a_), (1, .ref a_p1), (2, .int z2), (3, .int z3), (4, .int z4), (5, .int z5)]) hx hb dX7_pageFor_29 hl (by decide) rfl (fun ls hl => ?_)
      refine lv_aload_n hx hb dX7_pageFor_31 rfl (lv_at hl 1 rfl) ?_
      refine mp_get X fl_X7_43 hK hP 0 rfl rfl dX7_pageFor_32 ?_
      refine lv_iload hx hb dX7_pageFor_35 (lv_at hl 6 rfl) ?_
      obtain ⟨r4, c5, hf⟩ := bd_of hf
      have hPc := hP.sub (ws' := (k_X7_has T )) [] rfl
      have hDc := (mp_D_of (w1 := (k_X7_pageFor T a_ a_order a_knows a_made a_sixteenths a_dots a_used a_stands a_p1 a_p1_cellNames a_p1_secretNames a_p1_pageNames a_p1_speed a_p1_letters a_p1_room a_p1_now a_p1_rounds v_inOrder v_place v_ill v_shut v_turns v_madeInAll v_dots v_used v_p1_cells v_p1_secrets v_p1_pages v_p1_blind v_p1_rubs v_p1_room)) hD rfl).sub (ws' := (k_X7_has T )) [] rfl rfl
      refine mp_calli (isC := []) (wc := (k_X7_has T )) (w1 := (k_X7_has T )) hP (mp_D_of hD rfl) hS hA rfl rfl (mp_runS (As := [.int v_shut, .int z5]) (rest := []) X me_X7_has lk_X7_64 (c_X7_has l D T v_shut z5 r4 c5) rfl rfl ⟨(Nat.le_of_ble_eq_true rfl), (Nat.le_of_ble_eq_true rfl)⟩ hK hPc hDc rfl hl.1 rfl (Nat.le_of_ble_eq_true rfl) dX7_pageFor_37 ⟨Nat.zero_le _, Nat.zero_le _⟩) (fun H locs hP _ hS => ?_)
      replace hP : va_P D mp_cl (k_X7_pageFor T a_ a_order a_knows a_made a_sixteenths a_dots a_used a_stands a_p1 a_p1_cellNames a_p1_secretNames a_p1_pageNames a_p1_speed a_p1_letters a_p1_room a_p1_now a_p1_rounds v_inOrder v_place v_ill v_shut v_turns v_madeInAll v_dots v_used v_p1_cells v_p1_secrets v_p1_pages v_p1_blind v_p1_rubs v_p1_room) H := hP
      refine lv_if_ne (tgt := 74) hx hb dX7_pageFor_40 (by decide) (fun h6 => ?_) (fun h6 => ?_)
      · replace hf := if_f hf h6
        obtain ⟨y7, e7⟩ : ∃ y : Int32, y = z5 + (nI 1) := ⟨_, rfl⟩
        replace hf := lt_of e7 hf
        refine lv_iinc (v := y7) (lv' := [(5, .int y7), (6, .int y3), (0, .ref a_), (1, .ref a_p1), (2, .int z2), (3, .int z3), (4, .int z4)]) hx hb dX7_pageFor_74 hl (k := 6) rfl (by rw [e7]; rfl) (by decide) rfl (fun ls hl => ?_)
        refine lv_goto (tgt := 8) hx hb dX7_pageFor_77 (by decide) ?_
        exact ih z2 z3 z4 y7 hf _ _ _ hP (mp_D_of hD rfl) hS (lv_sub hl [2, 3, 4, 5, 6, 0] rfl)
      · replace hf := if_t hf h6
        refine lv_aload_n hx hb dX7_pageFor_43 rfl (lv_at hl 1 rfl) ?_
        refine mp_get X fl_X7_34 hK hP 0 rfl rfl dX7_pageFor_44 ?_
        refine lv_iload hx hb dX7_pageFor_47 (lv_at hl 6 rfl) ?_
        obtain ⟨h8, hf⟩ := gi_of hf
        refine va_iald hx hb hK hP 2 0 rfl rfl h8 dX7_pageFor_49 ?_
        refine lv_aload_n hx hb dX7_pageFor_50 rfl (lv_at hl 2 rfl) ?_
        refine mp_get X fl_X7_68 hK hP 3 rfl rfl dX7_pageFor_51 ?_
        refine lv_iload hx hb dX7_pageFor_54 (lv_at hl 6 rfl) ?_
        obtain ⟨h9, hf⟩ := gi_of hf
        refine va_iald hx hb hK hP 4 0 rfl rfl h9 dX7_pageFor_56 ?_
        refine lv_icmp_ge (tgt := 74) hx hb dX7_pageFor_57 (by decide) (fun h10 => ?_) (fun h10 => ?_)
        · replace hf := if_t hf h10
          obtain ⟨y11, e11⟩ : ∃ y : Int32, y = z5 + (nI 1) := ⟨_, rfl⟩
          replace hf := lt_of e11 hf
          refine lv_iinc (v := y11) (lv' := [(5, .int y11), (6, .int y3), (0, .ref a_), (1, .ref a_p1), (2, .int z2), (3, .int z3), (4, .int z4)]) hx hb dX7_pageFor_74 hl (k := 6) rfl (by rw [e11]; rfl) (by decide) rfl (fun ls hl => ?_)
          refine lv_goto (tgt := 8) hx hb dX7_pageFor_77 (by decide) ?_
          exact ih z2 z3 z4 y11 hf _ _ _ hP (mp_D_of hD rfl) hS (lv_sub hl [2, 3, 4, 5, 6, 0] rfl)
        · replace hf := if_f hf h10
          refine lv_iload hx hb dX7_pageFor_60 (lv_at hl 0 rfl) ?_
          refine lv_iload hx hb dX7_pageFor_62 (lv_at hl 5 rfl) ?_
          refine lv_icmp_le (tgt := 74) hx hb dX7_pageFor_64 (by decide) (fun h12 => ?_) (fun h12 => ?_)
          · replace hf := if_t hf h12
            obtain ⟨y13, e13⟩ : ∃ y : Int32, y = z5 + (nI 1) := ⟨_, rfl⟩
            replace hf := lt_of e13 hf
            refine lv_iinc (v := y13) (lv' := [(5, .int y13), (6, .int y3), (0, .ref a_), (1, .ref a_p1), (2, .int z2), (3, .int z3), (4, .int z4)]) hx hb dX7_pageFor_74 hl (k := 6) rfl (by rw [e13]; rfl) (by decide) rfl (fun ls hl => ?_)
            refine lv_goto (tgt := 8) hx hb dX7_pageFor_77 (by decide) ?_
            exact ih z2 z3 z4 y13 hf _ _ _ hP (mp_D_of hD rfl) hS (lv_sub hl [2, 3, 4, 5, 6, 0] rfl)
          · replace hf := if_f hf h12
            refine lv_iload hx hb dX7_pageFor_67 (lv_at hl 0 rfl) ?_
            refine lv_istore (lv' := [(4, .int y3), (6, .int y3), (0, .ref a_), (1, .ref a_p1), (2, .int z2), (3, .int z3), (5, .int z5)]) hx hb dX7_pageFor_69 hl (by decide) rfl (fun ls hl => ?_)
            refine lv_iload hx hb dX7_pageFor_71 (lv_at hl 6 rfl) ?_
            refine lv_istore_n (lv' := [(3, .int z5), (4, .int y3), (6, .int y3), (0, .ref a_), (1, .ref a_p1), (2, .int z2), (5, .int z5)]) hx hb dX7_pageFor_73 rfl hl (by decide) rfl (fun ls hl => ?_)
            obtain ⟨y14, e14⟩ : ∃ y : Int32, y = z5 + (nI 1) := ⟨_, rfl⟩
            replace hf := lt_of e14 hf
            refine lv_iinc (v := y14) (lv' := [(5, .int y14), (3, .int z5), (4, .int y3), (6, .int y3), (0, .ref a_), (1, .ref a_p1), (2, .int z2)]) hx hb dX7_pageFor_74 hl (k := 6) rfl (by rw [e14]; rfl) (by decide) rfl (fun ls hl => ?_)
            refine lv_goto (tgt := 8) hx hb dX7_pageFor_77 (by decide) ?_
            exact ih z2 z5 y3 y14 hf _ _ _ hP (mp_D_of hD rfl) hS (lv_sub hl [4, 5, 6, 1, 2, 0] rfl)

set_option maxHeartbeats 4000000 in
set_option maxRecDepth 100000 in
theorem c_X7_pageFor (l : Launch) (D : va_G) (T : Nat → ClassId) (fu : Nat) (a_ a_order a_knows a_made a_sixteenths a_dots a_used a_stands a_p1 a_p1_cellNames a_p1_secretNames a_p1_pageNames a_p1_speed a_p1_letters a_p1_room a_p1_now a_p1_rounds : Nat) (x2 : Int32) (v_inOrder : Int32) (v_place : Int32) (v_ill : Int32) (v_turns : Int32) (v_madeInAll : Int32) (v_p1_cells : Int32) (v_p1_secrets : Int32) (v_p1_blind : Int32) (v_p1_rubs : Int32) (v_shut : Int32) (v_dots : (Nat → Int32)) (v_used : (Nat → Int32)) (v_p1_pages : Int32) (v_p1_room : (Nat → Int32)) (r_ : Int32) (hf : f_X7_pageFor fu x2 v_shut v_dots v_used v_p1_pages v_p1_room = some r_) :
    mp_M l D T yX7_pageFor cX7_pageFor 7 (some .int) ({ frames := 1, cells := 0, slots := 0, locals := 21 }) 0 0 [.ref a_, .ref a_p1, .int x2] (k_X7_pageFor T a_ a_order a_knows a_made a_sixteenths a_dots a_used a_stands a_p1 a_p1_cellNames a_p1_secretNames a_p1_pageNames a_p1_speed a_p1_letters a_p1_room a_p1_now a_p1_rounds v_inOrder v_place v_ill v_shut v_turns v_madeInAll v_dots v_used v_p1_cells v_p1_secrets v_p1_pages v_p1_blind v_p1_rubs v_p1_room) (mp_Qi D r_ (k_X7_pageFor T a_ a_order a_knows a_made a_sixteenths a_dots a_used a_stands a_p1 a_p1_cellNames a_p1_secretNames a_p1_pageNames a_p1_speed a_p1_letters a_p1_room a_p1_now a_p1_rounds v_inOrder v_place v_ill v_shut v_turns v_madeInAll v_dots v_used v_p1_cells v_p1_secrets v_p1_pages v_p1_blind v_p1_rubs v_p1_room)) := by
  refine mp_of (by decide) (Nat.le_of_ble_eq_true rfl) rfl ?_
  intro p e s m args below meth c A ls X hK hP hD hS hA hl
  replace X : mp_X p s m meth c args RX7 "pageFor" cX7_pageFor 7 (some .int) := X
  have hx := X.1
  have hb := X.2.1
  have hml := X.2.2.1
  have hown := X.2.2.2.2.1
  have hts := X.2.2.2.2.2.1
  replace hl : lv_has ls 7 [(0, .ref a_), (1, .ref a_p1), (2, .int x2)] := hl
  replace hf : f_X7_pageFor_8 fu v_shut v_dots v_used v_p1_pages v_p1_room  fu x2 (-1 : Int32) (-1 : Int32) (nI 0) = some r_ := hf
  refine lv_iconst (v := (-1 : Int32)) hx hb dX7_pageFor_0 (by decide) ?_
  refine lv_istore_n (lv' := [(3, .int (-1 : Int32)), (0, .ref a_), (1, .ref a_p1), (2, .int x2)]) hx hb dX7_pageFor_1 rfl hl (by decide) rfl (fun ls hl => ?_)
  refine lv_iconst (v := (-1 : Int32)) hx hb dX7_pageFor_2 (by decide) ?_
  refine lv_istore (lv' := [(4, .int (-1 : Int32)), (3, .int (-1 : Int32)), (0, .ref a_), (1, .ref a_p1), (2, .int x2)]) hx hb dX7_pageFor_3 hl (by decide) rfl (fun ls hl => ?_)
  refine lv_iconst (v := (nI 0)) hx hb dX7_pageFor_5 (by decide) ?_
  refine lv_istore (lv' := [(5, .int (nI 0)), (4, .int (-1 : Int32)), (3, .int (-1 : Int32)), (0, .ref a_), (1, .ref a_p1), (2, .int x2)]) hx hb dX7_pageFor_6 hl (by decide) rfl (fun ls hl => ?_)
  exact w_X7_pageFor_8 X hK hA  fu a_ a_order a_knows a_made a_sixteenths a_dots a_used a_stands a_p1 a_p1_cellNames a_p1_secretNames a_p1_pageNames a_p1_speed a_p1_letters a_p1_room a_p1_now a_p1_rounds v_inOrder v_place v_ill v_turns v_madeInAll v_p1_cells v_p1_secrets v_p1_blind v_p1_rubs v_shut v_dots v_used v_p1_pages v_p1_room r_   fu x2 (-1 : Int32) (-1 : Int32) (nI 0) hf _ _ _ hP (mp_D_of hD rfl) hS (lv_sub hl [3, 4, 5, 2, 1, 0] rfl)


def k_X7_freeOf (T : Nat → ClassId) (a_ a_order a_knows a_made a_sixteenths a_dots a_used a_stands a_p1 a_p1_cellNames a_p1_secretNames a_p1_pageNames a_p1_speed a_p1_letters a_p1_room a_p1_now a_p1_rounds : Nat) (v_inOrder : Int32) (v_place : Int32) (v_ill : Int32) (v_shut : Int32) (v_turns : Int32) (v_madeInAll : Int32) (v_used : (Nat → Int32)) (v_p1_cells : Int32) (v_p1_secrets : Int32) (v_p1_pages : Int32) (v_p1_blind : Int32) (v_p1_rubs : Int32) (v_p1_room : (Nat → Int32)) : va_W := [(a_, oX7 a_order v_inOrder v_place a_knows a_made a_sixteenths a_dots a_used a_stands v_ill v_shut v_turns v_madeInAll), (a_used, mp_aI T 6 v_used), (a_p1, oX1 v_p1_cells v_p1_secrets v_p1_pages a_p1_cellNames a_p1_secretNames a_p1_pageNames a_p1_speed v_p1_blind v_p1_rubs a_p1_letters a_p1_room a_p1_now a_p1_rounds), (a_p1_room, mp_aI T 6 v_p1_room)]
set_option maxHeartbeats 4000000 in
set_option maxRecDepth 100000 in
theorem c_X7_freeOf (l : Launch) (D : va_G) (T : Nat → ClassId) (a_ a_order a_knows a_made a_sixteenths a_dots a_used a_stands a_p1 a_p1_cellNames a_p1_secretNames a_p1_pageNames a_p1_speed a_p1_letters a_p1_room a_p1_now a_p1_rounds : Nat) (x2 : Int32) (v_inOrder : Int32) (v_place : Int32) (v_ill : Int32) (v_shut : Int32) (v_turns : Int32) (v_madeInAll : Int32) (v_p1_cells : Int32) (v_p1_secrets : Int32) (v_p1_pages : Int32) (v_p1_blind : Int32) (v_p1_rubs : Int32) (v_used : (Nat → Int32)) (v_p1_room : (Nat → Int32)) (r_ : Int32) (hf : f_X7_freeOf x2 v_used v_p1_room = some r_) :
    mp_M l D T yX7_freeOf cX7_freeOf 3 (some .int) ({ frames := 0, cells := 0, slots := 0, locals := 0 }) 0 0 [.ref a_, .ref a_p1, .int x2] (k_X7_freeOf T a_ a_order a_knows a_made a_sixteenths a_dots a_used a_stands a_p1 a_p1_cellNames a_p1_secretNames a_p1_pageNames a_p1_speed a_p1_letters a_p1_room a_p1_now a_p1_rounds v_inOrder v_place v_ill v_shut v_turns v_madeInAll v_used v_p1_cells v_p1_secrets v_p1_pages v_p1_blind v_p1_rubs v_p1_room) (mp_Qi D r_ (k_X7_freeOf T a_ a_order a_knows a_made a_sixteenths a_dots a_used a_stands a_p1 a_p1_cellNames a_p1_secretNames a_p1_pageNames a_p1_speed a_p1_letters a_p1_room a_p1_now a_p1_rounds v_inOrder v_place v_ill v_shut v_turns v_madeInAll v_used v_p1_cells v_p1_secrets v_p1_pages v_p1_blind v_p1_rubs v_p1_room)) := by
  refine mp_of (by decide) (Nat.le_of_ble_eq_true rfl) rfl ?_
  intro p e s m args below meth c A ls X hK hP hD hS hA hl
  replace X : mp_X p s m meth c args RX7 "freeOf" cX7_freeOf 3 (some .int) := X
  have hx := X.1
  have hb := X.2.1
  have hml := X.2.2.1
  have hown := X.2.2.2.2.1
  have hts := X.2.2.2.2.2.1
  replace hl : lv_has ls 3 [(0, .ref a_), (1, .ref a_p1), (2, .int x2)] := hl
  replace hf : gi_ x2 6 (gi_ x2 6 (some ((v_p1_room (x2).toNatClampNeg) - (v_used (x2).toNatClampNeg)))) = some r_ := hf
  refine lv_aload_n hx hb dX7_freeOf_0 rfl (lv_at hl 1 rfl) ?_
  refine mp_get X fl_X7_68 hK hP 2 rfl rfl dX7_freeOf_1 ?_
  refine lv_iload_n hx hb dX7_freeOf_4 rfl (lv_at hl 2 rfl) ?_
  obtain ⟨h1, hf⟩ := gi_of hf
  refine va_iald hx hb hK hP 3 0 rfl rfl h1 dX7_freeOf_5 ?_
  refine lv_aload_n hx hb dX7_freeOf_6 rfl (lv_at hl 0 rfl) ?_
  refine mp_get X fl_X7_34 hK hP 0 rfl rfl dX7_freeOf_7 ?_
  refine lv_iload_n hx hb dX7_freeOf_10 rfl (lv_at hl 2 rfl) ?_
  obtain ⟨h2, hf⟩ := gi_of hf
  refine va_iald hx hb hK hP 1 0 rfl rfl h2 dX7_freeOf_11 ?_
  refine lv_isub hx hb dX7_freeOf_12 ?_
  cases hf
  exact mp_reti X hP hS rfl dX7_freeOf_13


def k_X7_makeOn (T : Nat → ClassId) (a_ a_order a_knows a_made a_sixteenths a_dots a_used a_stands a_p1 a_p1_cellNames a_p1_secretNames a_p1_pageNames a_p1_speed a_p1_letters a_p1_room a_p1_now a_p1_rounds : Nat) (v_inOrder : Int32) (v_place : Int32) (v_ill : Int32) (v_shut : Int32) (v_turns : Int32) (v_madeInAll : Int32) (v_dots : (Nat → Int32)) (v_stands : (Nat → Int32)) (v_used : (Nat → Int32)) (v_p1_cells : Int32) (v_p1_secrets : Int32) (v_p1_pages : Int32) (v_p1_blind : Int32) (v_p1_rubs : Int32) (v_p1_letters : (Nat → Int32)) (v_p1_room : (Nat → Int32)) : va_W := [(a_, oX7 a_order v_inOrder v_place a_knows a_made a_sixteenths a_dots a_used a_stands v_ill v_shut v_turns v_madeInAll), (a_dots, mp_aI T 36 v_dots), (a_stands, mp_aI T 6 v_stands), (a_used, mp_aI T 6 v_used), (a_p1, oX1 v_p1_cells v_p1_secrets v_p1_pages a_p1_cellNames a_p1_secretNames a_p1_pageNames a_p1_speed v_p1_blind v_p1_rubs a_p1_letters a_p1_room a_p1_now a_p1_rounds), (a_p1_letters, mp_aI T 6 v_p1_letters), (a_p1_room, mp_aI T 6 v_p1_room)]
set_option maxHeartbeats 4000000 in
set_option maxRecDepth 100000 in
theorem c_X7_makeOn (l : Launch) (D : va_G) (T : Nat → ClassId) (a_ a_order a_knows a_made a_sixteenths a_dots a_used a_stands a_p1 a_p1_cellNames a_p1_secretNames a_p1_pageNames a_p1_speed a_p1_letters a_p1_room a_p1_now a_p1_rounds : Nat) (x2 : Int32) (x3 : Int32) (x4 : Int32) (v_inOrder : Int32) (v_place : Int32) (v_ill : Int32) (v_shut : Int32) (v_turns : Int32) (v_madeInAll : Int32) (v_p1_cells : Int32) (v_p1_secrets : Int32) (v_p1_pages : Int32) (v_p1_blind : Int32) (v_p1_rubs : Int32) (v_dots : (Nat → Int32)) (v_stands : (Nat → Int32)) (v_used : (Nat → Int32)) (v_p1_letters : (Nat → Int32)) (v_p1_room : (Nat → Int32)) (r_ : Int32) (o_dots : (Nat → Int32)) (o_stands : (Nat → Int32)) (o_used : (Nat → Int32)) (hf : f_X7_makeOn x2 x3 x4 v_dots v_stands v_used v_p1_letters v_p1_room = some (r_, o_dots, o_stands, o_used)) :
    mp_M l D T yX7_makeOn cX7_makeOn 8 (some .int) ({ frames := 1, cells := 0, slots := 0, locals := 40 }) 0 0 [.ref a_, .ref a_p1, .int x2, .int x3, .int x4] (k_X7_makeOn T a_ a_order a_knows a_made a_sixteenths a_dots a_used a_stands a_p1 a_p1_cellNames a_p1_secretNames a_p1_pageNames a_p1_speed a_p1_letters a_p1_room a_p1_now a_p1_rounds v_inOrder v_place v_ill v_shut v_turns v_madeInAll v_dots v_stands v_used v_p1_cells v_p1_secrets v_p1_pages v_p1_blind v_p1_rubs v_p1_letters v_p1_room) (mp_Qi D r_ (k_X7_makeOn T a_ a_order a_knows a_made a_sixteenths a_dots a_used a_stands a_p1 a_p1_cellNames a_p1_secretNames a_p1_pageNames a_p1_speed a_p1_letters a_p1_room a_p1_now a_p1_rounds v_inOrder v_place v_ill v_shut v_turns v_madeInAll o_dots o_stands o_used v_p1_cells v_p1_secrets v_p1_pages v_p1_blind v_p1_rubs v_p1_letters v_p1_room)) := by
  refine mp_of (by decide) (Nat.le_of_ble_eq_true rfl) rfl ?_
  intro p e s m args below meth c A ls X hK hP hD hS hA hl
  replace X : mp_X p s m meth c args RX7 "makeOn" cX7_makeOn 8 (some .int) := X
  have hx := X.1
  have hb := X.2.1
  have hml := X.2.2.1
  have hown := X.2.2.2.2.1
  have hts := X.2.2.2.2.2.1
  replace hl : lv_has ls 8 [(0, .ref a_), (1, .ref a_p1), (2, .int x2), (3, .int x3), (4, .int x4)] := hl
  replace hf : lt_ ((x2 * (nI 6)) + x3) (fun (y1 : Int32) => gi_ x3 6 (gi_ y1 36 (lt_ ((v_p1_letters (x3).toNatClampNeg) - (v_dots (y1).toNatClampNeg)) (fun (y4 : Int32) => bd_ (f_X7_freeOf x2 v_used v_p1_room) (fun (r5 : Int32) => lt_ (if (if r5 < y4 then r5 else y4) < x4 then (if r5 < y4 then r5 else y4) else x4) (fun (y7 : Int32) => gi_ y1 36 (lt_ ((v_dots (y1).toNatClampNeg) + y7) (fun (y9 : Int32) => gi_ y1 36 (gi_ x2 6 (lt_ ((v_used (x2).toNatClampNeg) + y7) (fun (y12 : Int32) => gi_ x2 6 ((if y7 = y4 then gi_ x2 6 (lt_ ((v_stands (x2).toNatClampNeg) ||| ((nI 1) <<< (x3 &&& (31 : Int32)))) (fun (y16 : Int32) => gi_ x2 6 (some (y7, upd v_dots (y1).toNatClampNeg y9, upd v_stands (x2).toNatClampNeg y16, upd v_used (x2).toNatClampNeg y12)))) else some (y7, upd v_dots (y1).toNatClampNeg y9, v_stands, upd v_used (x2).toNatClampNeg y12)))))))))))))) = some (r_, o_dots, o_stands, o_used) := hf
  refine lv_iload_n hx hb dX7_makeOn_0 rfl (lv_at hl 2 rfl) ?_
  refine lv_bipush (v := (nI 6)) hx hb dX7_makeOn_1 (by decide) ?_
  refine lv_imul hx hb dX7_makeOn_3 ?_
  refine lv_iload_n hx hb dX7_makeOn_4 rfl (lv_at hl 3 rfl) ?_
  refine lv_iadd hx hb dX7_makeOn_5 ?_
  refine lv_topi (fun y1 e1 => ?_)
  replace hf := lt_of e1 hf
  refine lv_istore (lv' := [(5, .int y1), (0, .ref a_), (1, .ref a_p1), (2, .int x2), (3, .int x3), (4, .int x4)]) hx hb dX7_makeOn_6 hl (by decide) rfl (fun ls hl => ?_)
  refine lv_aload_n hx hb dX7_makeOn_8 rfl (lv_at hl 2 rfl) ?_
  refine mp_get X fl_X7_130 hK hP 4 rfl rfl dX7_makeOn_9 ?_
  refine lv_iload_n hx hb dX7_makeOn_12 rfl (lv_at hl 4 rfl) ?_
  obtain ⟨h2, hf⟩ := gi_of hf
  refine va_iald hx hb hK hP 5 0 rfl rfl h2 dX7_makeOn_13 ?_
  refine lv_aload_n hx hb dX7_makeOn_14 rfl (lv_at hl 1 rfl) ?_
  refine mp_get X fl_X7_31 hK hP 0 rfl rfl dX7_makeOn_15 ?_
  refine lv_iload hx hb dX7_makeOn_18 (lv_at hl 0 rfl) ?_
  obtain ⟨h3, hf⟩ := gi_of hf
  refine va_iald hx hb hK hP 1 0 rfl rfl h3 dX7_makeOn_20 ?_
  refine lv_isub hx hb dX7_makeOn_21 ?_
  refine lv_topi (fun y4 e4 => ?_)
  replace hf := lt_of e4 hf
  refine lv_istore (lv' := [(6, .int y4), (5, .int y1), (0, .ref a_), (1, .ref a_p1), (2, .int x2), (3, .int x3), (4, .int x4)]) hx hb dX7_makeOn_22 hl (by decide) rfl (fun ls hl => ?_)
  refine lv_iload hx hb dX7_makeOn_24 (lv_at hl 6 rfl) ?_
  refine lv_iload hx hb dX7_makeOn_26 (lv_at hl 0 rfl) ?_
  refine lv_aload_n hx hb dX7_makeOn_28 rfl (lv_at hl 2 rfl) ?_
  refine lv_aload_n hx hb dX7_makeOn_29 rfl (lv_at hl 3 rfl) ?_
  refine lv_iload_n hx hb dX7_makeOn_30 rfl (lv_at hl 4 rfl) ?_
  obtain ⟨r5, c6, hf⟩ := bd_of hf
  have hPc := hP.sub (ws' := (k_X7_freeOf T a_ a_order a_knows a_made a_sixteenths a_dots a_used a_stands a_p1 a_p1_cellNames a_p1_secretNames a_p1_pageNames a_p1_speed a_p1_letters a_p1_room a_p1_now a_p1_rounds v_inOrder v_place v_ill v_shut v_turns v_madeInAll v_used v_p1_cells v_p1_secrets v_p1_pages v_p1_blind v_p1_rubs v_p1_room)) [0, 3, 4, 6] rfl
  have hDc := (mp_D_of (w1 := (k_X7_makeOn T a_ a_order a_knows a_made a_sixteenths a_dots a_used a_stands a_p1 a_p1_cellNames a_p1_secretNames a_p1_pageNames a_p1_speed a_p1_letters a_p1_room a_p1_now a_p1_rounds v_inOrder v_place v_ill v_shut v_turns v_madeInAll v_dots v_stands v_used v_p1_cells v_p1_secrets v_p1_pages v_p1_blind v_p1_rubs v_p1_letters v_p1_room)) hD rfl).sub (ws' := (k_X7_freeOf T a_ a_order a_knows a_made a_sixteenths a_dots a_used a_stands a_p1 a_p1_cellNames a_p1_secretNames a_p1_pageNames a_p1_speed a_p1_letters a_p1_room a_p1_now a_p1_rounds v_inOrder v_place v_ill v_shut v_turns v_madeInAll v_used v_p1_cells v_p1_secrets v_p1_pages v_p1_blind v_p1_rubs v_p1_room)) [0, 3, 4, 6] rfl rfl
  refine mp_calli (isC := [0, 3, 4, 6]) (wc := (k_X7_freeOf T a_ a_order a_knows a_made a_sixteenths a_dots a_used a_stands a_p1 a_p1_cellNames a_p1_secretNames a_p1_pageNames a_p1_speed a_p1_letters a_p1_room a_p1_now a_p1_rounds v_inOrder v_place v_ill v_shut v_turns v_madeInAll v_used v_p1_cells v_p1_secrets v_p1_pages v_p1_blind v_p1_rubs v_p1_room)) (w1 := (k_X7_freeOf T a_ a_order a_knows a_made a_sixteenths a_dots a_used a_stands a_p1 a_p1_cellNames a_p1_secretNames a_p1_pageNames a_p1_speed a_p1_letters a_p1_room a_p1_now a_p1_rounds v_inOrder v_place v_ill v_shut v_turns v_madeInAll v_used v_p1_cells v_p1_secrets v_p1_pages v_p1_blind v_p1_rubs v_p1_room)) hP (mp_D_of hD rfl) hS hA rfl rfl (mp_runV (As := [.ref a_p1, .int x2]) (rest := [.int y4, .int x4]) X me_X7_freeOf lk_X7_133 (c_X7_freeOf l D T a_ a_order a_knows a_made a_sixteenths a_dots a_used a_stands a_p1 a_p1_cellNames a_p1_secretNames a_p1_pageNames a_p1_speed a_p1_letters a_p1_room a_p1_now a_p1_rounds x2 v_inOrder v_place v_ill v_shut v_turns v_madeInAll v_p1_cells v_p1_secrets v_p1_pages v_p1_blind v_p1_rubs v_used v_p1_room r5 c6) rfl rfl ⟨(Nat.le_of_ble_eq_true rfl), (Nat.le_of_ble_eq_true rfl)⟩ hK hPc hDc rfl rfl rfl rfl hl.1 rfl (Nat.le_of_ble_eq_true rfl) dX7_makeOn_31 ⟨Nat.zero_le _, Nat.zero_le _⟩) (fun H locs hP _ hS => ?_)
  replace hP : va_P D mp_cl (k_X7_makeOn T a_ a_order a_knows a_made a_sixteenths a_dots a_used a_stands a_p1 a_p1_cellNames a_p1_secretNames a_p1_pageNames a_p1_speed a_p1_letters a_p1_room a_p1_now a_p1_rounds v_inOrder v_place v_ill v_shut v_turns v_madeInAll v_dots v_stands v_used v_p1_cells v_p1_secrets v_p1_pages v_p1_blind v_p1_rubs v_p1_letters v_p1_room) H := hP
  refine va_mmin hx hb (hml.trans hl.1.symm) hown (hts _ lk_X7_136_ma) (hts _ ma_min.1) (hts _ ma_min.2.1) (hts _ ma_min.2.2) (Nat.le_of_ble_eq_true rfl) (Nat.le_of_ble_eq_true rfl) (Nat.zero_le _) (Nat.zero_le _) dX7_makeOn_34 ?_
  refine va_mmin hx hb (hml.trans hl.1.symm) hown (hts _ lk_X7_136_ma) (hts _ ma_min.1) (hts _ ma_min.2.1) (hts _ ma_min.2.2) (Nat.le_of_ble_eq_true rfl) (Nat.le_of_ble_eq_true rfl) (Nat.zero_le _) (Nat.zero_le _) dX7_makeOn_37 ?_
  refine lv_topi (fun y7 e7 => ?_)
  replace hf := lt_of e7 hf
  refine lv_istore (lv' := [(7, .int y7), (6, .int y4), (5, .int y1), (0, .ref a_), (1, .ref a_p1), (2, .int x2), (3, .int x3), (4, .int x4)]) hx hb dX7_makeOn_40 hl (by decide) rfl (fun ls hl => ?_)
  refine lv_aload_n hx hb dX7_makeOn_42 rfl (lv_at hl 3 rfl) ?_
  refine mp_get X fl_X7_31 hK hP 0 rfl rfl dX7_makeOn_43 ?_
  refine lv_iload hx hb dX7_makeOn_46 (lv_at hl 2 rfl) ?_
  refine lv_dup2_11 hx hb dX7_makeOn_48 rfl rfl ?_
  obtain ⟨h8, hf⟩ := gi_of hf
  refine va_iald hx hb hK hP 1 0 rfl rfl h8 dX7_makeOn_49 ?_
  refine lv_iload hx hb dX7_makeOn_50 (lv_at hl 0 rfl) ?_
  refine lv_iadd hx hb dX7_makeOn_52 ?_
  refine lv_topi (fun y9 e9 => ?_)
  replace hf := lt_of e9 hf
  obtain ⟨h10, hf⟩ := gi_of hf
  refine va_iast hx hb hK hP (mp_D_of hD rfl) hS 1 0 rfl rfl h10 dX7_makeOn_53 (fun H locs hP _ hS => ?_)
  replace hP : va_P D mp_cl (k_X7_makeOn T a_ a_order a_knows a_made a_sixteenths a_dots a_used a_stands a_p1 a_p1_cellNames a_p1_secretNames a_p1_pageNames a_p1_speed a_p1_letters a_p1_room a_p1_now a_p1_rounds v_inOrder v_place v_ill v_shut v_turns v_madeInAll (upd v_dots (y1).toNatClampNeg y9) v_stands v_used v_p1_cells v_p1_secrets v_p1_pages v_p1_blind v_p1_rubs v_p1_letters v_p1_room) H := hP
  refine lv_aload_n hx hb dX7_makeOn_54 rfl (lv_at hl 3 rfl) ?_
  refine mp_get X fl_X7_34 hK hP 0 rfl rfl dX7_makeOn_55 ?_
  refine lv_iload_n hx hb dX7_makeOn_58 rfl (lv_at hl 5 rfl) ?_
  refine lv_dup2_11 hx hb dX7_makeOn_59 rfl rfl ?_
  obtain ⟨h11, hf⟩ := gi_of hf
  refine va_iald hx hb hK hP 3 0 rfl rfl h11 dX7_makeOn_60 ?_
  refine lv_iload hx hb dX7_makeOn_61 (lv_at hl 0 rfl) ?_
  refine lv_iadd hx hb dX7_makeOn_63 ?_
  refine lv_topi (fun y12 e12 => ?_)
  replace hf := lt_of e12 hf
  obtain ⟨h13, hf⟩ := gi_of hf
  refine va_iast hx hb hK hP (mp_D_of hD rfl) hS 3 0 rfl rfl h13 dX7_makeOn_64 (fun H locs hP _ hS => ?_)
  replace hP : va_P D mp_cl (k_X7_makeOn T a_ a_order a_knows a_made a_sixteenths a_dots a_used a_stands a_p1 a_p1_cellNames a_p1_secretNames a_p1_pageNames a_p1_speed a_p1_letters a_p1_room a_p1_now a_p1_rounds v_inOrder v_place v_ill v_shut v_turns v_madeInAll (upd v_dots (y1).toNatClampNeg y9) v_stands (upd v_used (x2).toNatClampNeg y12) v_p1_cells v_p1_secrets v_p1_pages v_p1_blind v_p1_rubs v_p1_letters v_p1_room) H := hP
  refine lv_iload hx hb dX7_makeOn_65 (lv_at hl 0 rfl) ?_
  refine lv_iload hx hb dX7_makeOn_67 (lv_at hl 1 rfl) ?_
  refine lv_icmp_ne (tgt := 84) hx hb dX7_makeOn_69 (by decide) (fun h14 => ?_) (fun h14 => ?_)
  · replace hf := if_f hf h14
    refine lv_iload hx hb dX7_makeOn_84 (lv_at hl 0 rfl) ?_
    cases hf
    exact mp_reti X hP hS rfl dX7_makeOn_86
  · replace hf := if_t hf h14
    refine lv_aload_n hx hb dX7_makeOn_72 rfl (lv_at hl 3 rfl) ?_
    refine mp_get X fl_X7_37 hK hP 0 rfl rfl dX7_makeOn_73 ?_
    refine lv_iload_n hx hb dX7_makeOn_76 rfl (lv_at hl 5 rfl) ?_
    refine lv_dup2_11 hx hb dX7_makeOn_77 rfl rfl ?_
    obtain ⟨h15, hf⟩ := gi_of hf
    refine va_iald hx hb hK hP 2 0 rfl rfl h15 dX7_makeOn_78 ?_
    refine lv_iconst (v := (nI 1)) hx hb dX7_makeOn_79 (by decide) ?_
    refine lv_iload_n hx hb dX7_makeOn_80 rfl (lv_at hl 6 rfl) ?_
    refine lv_ishl hx hb dX7_makeOn_81 ?_
    refine lv_ior hx hb dX7_makeOn_82 ?_
    refine lv_topi (fun y16 e16 => ?_)
    replace hf := lt_of e16 hf
    obtain ⟨h17, hf⟩ := gi_of hf
    refine va_iast hx hb hK hP (mp_D_of hD rfl) hS 2 0 rfl rfl h17 dX7_makeOn_83 (fun H locs hP _ hS => ?_)
    replace hP : va_P D mp_cl (k_X7_makeOn T a_ a_order a_knows a_made a_sixteenths a_dots a_used a_stands a_p1 a_p1_cellNames a_p1_secretNames a_p1_pageNames a_p1_speed a_p1_letters a_p1_room a_p1_now a_p1_rounds v_inOrder v_place v_ill v_shut v_turns v_madeInAll (upd v_dots (y1).toNatClampNeg y9) (upd v_stands (x2).toNatClampNeg y16) (upd v_used (x2).toNatClampNeg y12) v_p1_cells v_p1_secrets v_p1_pages v_p1_blind v_p1_rubs v_p1_letters v_p1_room) H := hP
    refine lv_iload hx hb dX7_makeOn_84 (lv_at hl 0 rfl) ?_
    cases hf
    exact mp_reti X hP hS rfl dX7_makeOn_86


def k_X7_makePricks (T : Nat → ClassId) (a_ a_order a_knows a_made a_sixteenths a_dots a_used a_stands a_p1 a_p1_cellNames a_p1_secretNames a_p1_pageNames a_p1_speed a_p1_letters a_p1_room a_p1_now a_p1_rounds : Nat) (v_inOrder : Int32) (v_place : Int32) (v_ill : Int32) (v_shut : Int32) (v_turns : Int32) (v_madeInAll : Int32) (v_dots : (Nat → Int32)) (v_knows : (Nat → Int32)) (v_made : (Nat → Int32)) (v_stands : (Nat → Int32)) (v_used : (Nat → Int32)) (v_p1_cells : Int32) (v_p1_secrets : Int32) (v_p1_pages : Int32) (v_p1_blind : Int32) (v_p1_rubs : Int32) (v_p1_letters : (Nat → Int32)) (v_p1_room : (Nat → Int32)) (v_p1_speed : (Nat → Int32)) : va_W := [(a_, oX7 a_order v_inOrder v_place a_knows a_made a_sixteenths a_dots a_used a_stands v_ill v_shut v_turns v_madeInAll), (a_dots, mp_aI T 36 v_dots), (a_knows, mp_aI T 8 v_knows), (a_made, mp_aI T 8 v_made), (a_stands, mp_aI T 6 v_stands), (a_used, mp_aI T 6 v_used), (a_p1, oX1 v_p1_cells v_p1_secrets v_p1_pages a_p1_cellNames a_p1_secretNames a_p1_pageNames a_p1_speed v_p1_blind v_p1_rubs a_p1_letters a_p1_room a_p1_now a_p1_rounds), (a_p1_letters, mp_aI T 6 v_p1_letters), (a_p1_room, mp_aI T 6 v_p1_room), (a_p1_speed, mp_aI T 8 v_p1_speed)]
set_option maxHeartbeats 4000000 in
set_option maxRecDepth 100000 in
theorem w_X7_makePricks_87 {p : Program} {l : Launch} {e : Env} {s : State} {m : MethodId} {args : Array Value} {below : List Frame} {meth : Method} {c : Code} {D : va_G} {T : Nat → ClassId} {A : Nat → Prop} (X : mp_X p s m meth c args RX7 "makePricks" cX7_makePricks 7 none) (hK : va_K D mp_cl (mp_ty T) s) (hA : ∀ q, s.heap.size ≤ q → A q) (fu : Nat) (a_ a_order a_knows a_made a_sixteenths a_dots a_used a_stands a_p1 a_p1_cellNames a_p1_secretNames a_p1_pageNames a_p1_speed a_p1_letters a_p1_room a_p1_now a_p1_rounds : Nat) (v_inOrder : Int32) (v_place : Int32) (v_ill : Int32) (v_turns : Int32) (v_p1_cells : Int32) (v_p1_blind : Int32) (v_p1_rubs : Int32) (v_shut : Int32) (v_knows : (Nat → Int32)) (v_p1_secrets : Int32) (v_p1_pages : Int32) (v_p1_letters : (Nat → Int32)) (v_p1_room : (Nat → Int32)) (v_p1_speed : (Nat → Int32)) (o_madeInAll : Int32) (o_dots : (Nat → Int32)) (o_made : (Nat → Int32)) (o_stands : (Nat → Int32)) (o_used : (Nat → Int32)) :
    ∀  (z2 : Int32) (z3 : Int32) (v_madeInAll : Int32) (v_dots : (Nat → Int32)) (v_made : (Nat → Int32)) (v_stands : (Nat → Int32)) (v_used : (Nat → Int32)), f_X7_makePricks_87 fu v_shut v_knows v_p1_secrets v_p1_pages v_p1_letters v_p1_room v_p1_speed  z2 z3 v_madeInAll v_dots v_made v_stands v_used = some (o_madeInAll, o_dots, o_made, o_stands, o_used) → ∀ (H : Heap) (locs : List Loc) (ls : Array Slot), va_P D mp_cl (k_X7_makePricks T a_ a_order a_knows a_made a_sixteenths a_dots a_used a_stands a_p1 a_p1_cellNames a_p1_secretNames a_p1_pageNames a_p1_speed a_p1_letters a_p1_room a_p1_now a_p1_rounds v_inOrder v_place v_ill v_shut v_turns v_madeInAll v_dots v_knows v_made v_stands v_used v_p1_cells v_p1_secrets v_p1_pages v_p1_blind v_p1_rubs v_p1_letters v_p1_room v_p1_speed) H → va_D A (k_X7_makePricks T a_ a_order a_knows a_made a_sixteenths a_dots a_used a_stands a_p1 a_p1_cellNames a_p1_secretNames a_p1_pageNames a_p1_speed a_p1_letters a_p1_room a_p1_now a_p1_rounds v_inOrder v_place v_ill v_shut v_turns v_madeInAll v_dots v_knows v_made v_stands v_used v_p1_cells v_p1_secrets v_p1_pages v_p1_blind v_p1_rubs v_p1_letters v_p1_room v_p1_speed) → va_S A s.heap H locs → lv_has ls 7 [(0, .ref a_), (1, .ref a_p1), (2, .int z2), (3, .int z3)] → W p l e ({ frames := 2, cells := 0, slots := 0, locals := 67 }) s m args below meth c H locs 0 0 (MQ below ((mp_Qv D (k_X7_makePricks T a_ a_order a_knows a_made a_sixteenths a_dots a_used a_stands a_p1 a_p1_cellNames a_p1_secretNames a_p1_pageNames a_p1_speed a_p1_letters a_p1_room a_p1_now a_p1_rounds v_inOrder v_place v_ill v_shut v_turns o_madeInAll o_dots v_knows o_made o_stands o_used v_p1_cells v_p1_secrets v_p1_pages v_p1_blind v_p1_rubs v_p1_letters v_p1_room v_p1_speed)) A) args s 0 0 A) (F0 m 87 ls []) := by
  have hx := X.1
  have hb := X.2.1
  have hml := X.2.2.1
  have hown := X.2.2.2.2.1
  have hts := X.2.2.2.2.2.1
  intro z2 z3 v_madeInAll v_dots v_made v_stands v_used hf H locs ls hP hD hS hl
  replace hf : gi_ z2 8 (gi_ z2 8 (lt_ ((v_made (z2).toNatClampNeg) + ((v_p1_speed (z2).toNatClampNeg) - z3)) (fun (y3 : Int32) => gi_ z2 8 (gi_ z2 8 (lt_ (v_madeInAll + ((v_p1_speed (z2).toNatClampNeg) - z3)) (fun (y6 : Int32) => some (y6, v_dots, upd v_made (z2).toNatClampNeg y3, v_stands, v_used))))))) = some (o_madeInAll, o_dots, o_made, o_stands, o_used) := hf
  refine lv_aload_n hx hb dX7_makePricks_87 rfl (lv_at hl 0 rfl) ?_
  refine mp_get X fl_X7_25 hK hP 0 rfl rfl dX7_makePricks_88 ?_
  refine lv_iload_n hx hb dX7_makePricks_91 rfl (lv_at hl 2 rfl) ?_
  refine lv_dup2_11 hx hb dX7_makePricks_92 rfl rfl ?_
  obtain ⟨h1, hf⟩ := gi_of hf
  refine va_iald hx hb hK hP 3 0 rfl rfl h1 dX7_makePricks_93 ?_
  refine lv_aload_n hx hb dX7_makePricks_94 rfl (lv_at hl 1 rfl) ?_
  refine mp_get X fl_X7_119 hK hP 6 rfl rfl dX7_makePricks_95 ?_
  refine lv_iload_n hx hb dX7_makePricks_98 rfl (lv_at hl 2 rfl) ?_
  obtain ⟨h2, hf⟩ := gi_of hf
  refine va_iald hx hb hK hP 9 0 rfl rfl h2 dX7_makePricks_99 ?_
  refine lv_iload_n hx hb dX7_makePricks_100 rfl (lv_at hl 3 rfl) ?_
  refine lv_isub hx hb dX7_makePricks_101 ?_
  refine lv_iadd hx hb dX7_makePricks_102 ?_
  refine lv_topi (fun y3 e3 => ?_)
  replace hf := lt_of e3 hf
  obtain ⟨h4, hf⟩ := gi_of hf
  refine va_iast hx hb hK hP (mp_D_of hD rfl) hS 3 0 rfl rfl h4 dX7_makePricks_103 (fun H locs hP _ hS => ?_)
  replace hP : va_P D mp_cl (k_X7_makePricks T a_ a_order a_knows a_made a_sixteenths a_dots a_used a_stands a_p1 a_p1_cellNames a_p1_secretNames a_p1_pageNames a_p1_speed a_p1_letters a_p1_room a_p1_now a_p1_rounds v_inOrder v_place v_ill v_shut v_turns v_madeInAll v_dots v_knows (upd v_made (z2).toNatClampNeg y3) v_stands v_used v_p1_cells v_p1_secrets v_p1_pages v_p1_blind v_p1_rubs v_p1_letters v_p1_room v_p1_speed) H := hP
  refine lv_aload_n hx hb dX7_makePricks_104 rfl (lv_at hl 0 rfl) ?_
  refine lv_dup hx hb dX7_makePricks_105 rfl ?_
  refine mp_get X fl_X7_49 hK hP 0 rfl rfl dX7_makePricks_106 ?_
  refine lv_aload_n hx hb dX7_makePricks_109 rfl (lv_at hl 1 rfl) ?_
  refine mp_get X fl_X7_119 hK hP 6 rfl rfl dX7_makePricks_110 ?_
  refine lv_iload_n hx hb dX7_makePricks_113 rfl (lv_at hl 2 rfl) ?_
  obtain ⟨h5, hf⟩ := gi_of hf
  refine va_iald hx hb hK hP 9 0 rfl rfl h5 dX7_makePricks_114 ?_
  refine lv_iload_n hx hb dX7_makePricks_115 rfl (lv_at hl 3 rfl) ?_
  refine lv_isub hx hb dX7_makePricks_116 ?_
  refine lv_iadd hx hb dX7_makePricks_117 ?_
  refine lv_topi (fun y6 e6 => ?_)
  replace hf := lt_of e6 hf
  refine mp_putf X fl_X7_49 fp_X7 rfl hK hP (mp_D_of hD rfl) hS 0 rfl rfl rfl (Nat.le_of_ble_eq_true rfl) dX7_makePricks_118 (fun H locs hP _ hS => ?_)
  replace hP : va_P D mp_cl (k_X7_makePricks T a_ a_order a_knows a_made a_sixteenths a_dots a_used a_stands a_p1 a_p1_cellNames a_p1_secretNames a_p1_pageNames a_p1_speed a_p1_letters a_p1_room a_p1_now a_p1_rounds v_inOrder v_place v_ill v_shut v_turns y6 v_dots v_knows (upd v_made (z2).toNatClampNeg y3) v_stands v_used v_p1_cells v_p1_secrets v_p1_pages v_p1_blind v_p1_rubs v_p1_letters v_p1_room v_p1_speed) H := hP
  cases hf
  exact mp_retv X hP hS dX7_makePricks_121

set_option maxHeartbeats 4000000 in
set_option maxRecDepth 100000 in
theorem w_X7_makePricks_60 {p : Program} {l : Launch} {e : Env} {s : State} {m : MethodId} {args : Array Value} {below : List Frame} {meth : Method} {c : Code} {D : va_G} {T : Nat → ClassId} {A : Nat → Prop} (X : mp_X p s m meth c args RX7 "makePricks" cX7_makePricks 7 none) (hK : va_K D mp_cl (mp_ty T) s) (hA : ∀ q, s.heap.size ≤ q → A q) (fu : Nat) (a_ a_order a_knows a_made a_sixteenths a_dots a_used a_stands a_p1 a_p1_cellNames a_p1_secretNames a_p1_pageNames a_p1_speed a_p1_letters a_p1_room a_p1_now a_p1_rounds : Nat) (v_inOrder : Int32) (v_place : Int32) (v_ill : Int32) (v_turns : Int32) (v_p1_cells : Int32) (v_p1_blind : Int32) (v_p1_rubs : Int32) (v_shut : Int32) (v_knows : (Nat → Int32)) (v_p1_secrets : Int32) (v_p1_pages : Int32) (v_p1_letters : (Nat → Int32)) (v_p1_room : (Nat → Int32)) (v_p1_speed : (Nat → Int32)) (o_madeInAll : Int32) (o_dots : (Nat → Int32)) (o_made : (Nat → Int32)) (o_stands : (Nat → Int32)) (o_used : (Nat → Int32)) (K26 : Int32 → Int32 → Int32 → Int32 → Int32 → (Nat → Int32) → (Nat → Int32) → (Nat → Int32) → (Nat → Int32) → Option (Int32 × (Nat → Int32) × (Nat → Int32) × (Nat → Int32) × (Nat → Int32))) (hK26 : ∀ (z2 : Int32) (z3 : Int32) (z4 : Int32) (z5 : Int32) (v_madeInAll : Int32) (v_dots : (Nat → Int32)) (v_made : (Nat → Int32)) (v_stands : (Nat → Int32)) (v_used : (Nat → Int32)), K26 z2 z3 z4 z5 v_madeInAll v_dots v_made v_stands v_used = some (o_madeInAll, o_dots, o_made, o_stands, o_used) → ∀ (H : Heap) (locs : List Loc) (ls : Array Slot), va_P D mp_cl (k_X7_makePricks T a_ a_order a_knows a_made a_sixteenths a_dots a_used a_stands a_p1 a_p1_cellNames a_p1_secretNames a_p1_pageNames a_p1_speed a_p1_letters a_p1_room a_p1_now a_p1_rounds v_inOrder v_place v_ill v_shut v_turns v_madeInAll v_dots v_knows v_made v_stands v_used v_p1_cells v_p1_secrets v_p1_pages v_p1_blind v_p1_rubs v_p1_letters v_p1_room v_p1_speed) H → va_D A (k_X7_makePricks T a_ a_order a_knows a_made a_sixteenths a_dots a_used a_stands a_p1 a_p1_cellNames a_p1_secretNames a_p1_pageNames a_p1_speed a_p1_letters a_p1_room a_p1_now a_p1_rounds v_inOrder v_place v_ill v_shut v_turns v_madeInAll v_dots v_knows v_made v_stands v_used v_p1_cells v_p1_secrets v_p1_pages v_p1_blind v_p1_rubs v_p1_letters v_p1_room v_p1_speed) → va_S A s.heap H locs → lv_has ls 7 [(0, .ref a_), (1, .ref a_p1), (2, .int z2), (3, .int z3), (4, .int z4), (5, .int z5)] → W p l e ({ frames := 2, cells := 0, slots := 0, locals := 67 }) s m args below meth c H locs 0 0 (MQ below ((mp_Qv D (k_X7_makePricks T a_ a_order a_knows a_made a_sixteenths a_dots a_used a_stands a_p1 a_p1_cellNames a_p1_secretNames a_p1_pageNames a_p1_speed a_p1_letters a_p1_room a_p1_now a_p1_rounds v_inOrder v_place v_ill v_shut v_turns o_madeInAll o_dots v_knows o_made o_stands o_used v_p1_cells v_p1_secrets v_p1_pages v_p1_blind v_p1_rubs v_p1_letters v_p1_room v_p1_speed)) A) args s 0 0 A) (F0 m 26 ls [])) :
    ∀  (z2 : Int32) (z3 : Int32) (z4 : Int32) (z5 : Int32) (w0 : Int32) (v_madeInAll : Int32) (v_dots : (Nat → Int32)) (v_made : (Nat → Int32)) (v_stands : (Nat → Int32)) (v_used : (Nat → Int32)), f_X7_makePricks_60 fu v_shut v_knows v_p1_secrets v_p1_pages v_p1_letters v_p1_room v_p1_speed K26 z2 z3 z4 z5 w0 v_madeInAll v_dots v_made v_stands v_used = some (o_madeInAll, o_dots, o_made, o_stands, o_used) → ∀ (H : Heap) (locs : List Loc) (ls : Array Slot), va_P D mp_cl (k_X7_makePricks T a_ a_order a_knows a_made a_sixteenths a_dots a_used a_stands a_p1 a_p1_cellNames a_p1_secretNames a_p1_pageNames a_p1_speed a_p1_letters a_p1_room a_p1_now a_p1_rounds v_inOrder v_place v_ill v_shut v_turns v_madeInAll v_dots v_knows v_made v_stands v_used v_p1_cells v_p1_secrets v_p1_pages v_p1_blind v_p1_rubs v_p1_letters v_p1_room v_p1_speed) H → va_D A (k_X7_makePricks T a_ a_order a_knows a_made a_sixteenths a_dots a_used a_stands a_p1 a_p1_cellNames a_p1_secretNames a_p1_pageNames a_p1_speed a_p1_letters a_p1_room a_p1_now a_p1_rounds v_inOrder v_place v_ill v_shut v_turns v_madeInAll v_dots v_knows v_made v_stands v_used v_p1_cells v_p1_secrets v_p1_pages v_p1_blind v_p1_rubs v_p1_letters v_p1_room v_p1_speed) → va_S A s.heap H locs → lv_has ls 7 [(0, .ref a_), (1, .ref a_p1), (2, .int z2), (3, .int z3), (4, .int z4), (5, .int z5)] → W p l e ({ frames := 2, cells := 0, slots := 0, locals := 67 }) s m args below meth c H locs 0 0 (MQ below ((mp_Qv D (k_X7_makePricks T a_ a_order a_knows a_made a_sixteenths a_dots a_used a_stands a_p1 a_p1_cellNames a_p1_secretNames a_p1_pageNames a_p1_speed a_p1_letters a_p1_room a_p1_now a_p1_rounds v_inOrder v_place v_ill v_shut v_turns o_madeInAll o_dots v_knows o_made o_stands o_used v_p1_cells v_p1_secrets v_p1_pages v_p1_blind v_p1_rubs v_p1_letters v_p1_room v_p1_speed)) A) args s 0 0 A) (F0 m 60 ls [.int w0]) := by
  have hx := X.1
  have hb := X.2.1
  have hml := X.2.2.1
  have hown := X.2.2.2.2.1
  have hts := X.2.2.2.2.2.1
  intro z2 z3 z4 z5 w0 v_madeInAll v_dots v_made v_stands v_used hf H locs ls hP hD hS hl
  replace hf : (if w0 = (-1 : Int32) then lt_ (z5 + (nI 1)) (fun (y2 : Int32) => K26 z2 z3 z4 y2 v_madeInAll v_dots v_made v_stands v_used) else bd_ (f_X7_makeOn w0 z5 z3 v_dots v_stands v_used v_p1_letters v_p1_room) (fun (z : Int32 × (Nat → Int32) × (Nat → Int32) × (Nat → Int32)) => match z with | (r3, u4, u5, u6) => lt_ (z3 - r3) (fun (y8 : Int32) => lt_ (z5 + (nI 1)) (fun (y9 : Int32) => K26 z2 y8 z4 y9 v_madeInAll u4 v_made u5 u6)))) = some (o_madeInAll, o_dots, o_made, o_stands, o_used) := hf
  refine lv_istore (lv' := [(6, .int w0), (0, .ref a_), (1, .ref a_p1), (2, .int z2), (3, .int z3), (4, .int z4), (5, .int z5)]) hx hb dX7_makePricks_60 hl (by decide) rfl (fun ls hl => ?_)
  refine lv_iload hx hb dX7_makePricks_62 (lv_at hl 0 rfl) ?_
  refine lv_iconst (v := (-1 : Int32)) hx hb dX7_makePricks_64 (by decide) ?_
  refine lv_icmp_eq (tgt := 81) hx hb dX7_makePricks_65 (by decide) (fun h1 => ?_) (fun h1 => ?_)
  · replace hf := if_t hf h1
    obtain ⟨y2, e2⟩ : ∃ y : Int32, y = z5 + (nI 1) := ⟨_, rfl⟩
    replace hf := lt_of e2 hf
    refine lv_iinc (v := y2) (lv' := [(5, .int y2), (6, .int w0), (0, .ref a_), (1, .ref a_p1), (2, .int z2), (3, .int z3), (4, .int z4)]) hx hb dX7_makePricks_81 hl (k := 6) rfl (by rw [e2]; rfl) (by decide) rfl (fun ls hl => ?_)
    refine lv_goto (tgt := 26) hx hb dX7_makePricks_84 (by decide) ?_
    exact hK26 z2 z3 z4 y2 v_madeInAll v_dots v_made v_stands v_used hf _ _ _ hP (mp_D_of hD rfl) hS (lv_sub hl [2, 3, 4, 5, 6, 0] rfl)
  · replace hf := if_f hf h1
    refine lv_iload_n hx hb dX7_makePricks_68 rfl (lv_at hl 4 rfl) ?_
    refine lv_aload_n hx hb dX7_makePricks_69 rfl (lv_at hl 1 rfl) ?_
    refine lv_aload_n hx hb dX7_makePricks_70 rfl (lv_at hl 2 rfl) ?_
    refine lv_iload hx hb dX7_makePricks_71 (lv_at hl 0 rfl) ?_
    refine lv_iload hx hb dX7_makePricks_73 (lv_at hl 6 rfl) ?_
    refine lv_iload_n hx hb dX7_makePricks_75 rfl (lv_at hl 4 rfl) ?_
    obtain ⟨⟨r3, u4, u5, u6⟩, c7, hf⟩ := bd_of hf
    dsimp only at hf
    have hPc := hP.sub (ws' := (k_X7_makeOn T a_ a_order a_knows a_made a_sixteenths a_dots a_used a_stands a_p1 a_p1_cellNames a_p1_secretNames a_p1_pageNames a_p1_speed a_p1_letters a_p1_room a_p1_now a_p1_rounds v_inOrder v_place v_ill v_shut v_turns v_madeInAll v_dots v_stands v_used v_p1_cells v_p1_secrets v_p1_pages v_p1_blind v_p1_rubs v_p1_letters v_p1_room)) [0, 1, 4, 5, 6, 7, 8] rfl
    have hDc := (mp_D_of (w1 := (k_X7_makePricks T a_ a_order a_knows a_made a_sixteenths a_dots a_used a_stands a_p1 a_p1_cellNames a_p1_secretNames a_p1_pageNames a_p1_speed a_p1_letters a_p1_room a_p1_now a_p1_rounds v_inOrder v_place v_ill v_shut v_turns v_madeInAll v_dots v_knows v_made v_stands v_used v_p1_cells v_p1_secrets v_p1_pages v_p1_blind v_p1_rubs v_p1_letters v_p1_room v_p1_speed)) hD rfl).sub (ws' := (k_X7_makeOn T a_ a_order a_knows a_made a_sixteenths a_dots a_used a_stands a_p1 a_p1_cellNames a_p1_secretNames a_p1_pageNames a_p1_speed a_p1_letters a_p1_room a_p1_now a_p1_rounds v_inOrder v_place v_ill v_shut v_turns v_madeInAll v_dots v_stands v_used v_p1_cells v_p1_secrets v_p1_pages v_p1_blind v_p1_rubs v_p1_letters v_p1_room)) [0, 1, 4, 5, 6, 7, 8] rfl rfl
    refine mp_calli2 (isC := [0, 1, 4, 5, 6, 7, 8]) (isO := [2, 3, 9]) (wc := (k_X7_makeOn T a_ a_order a_knows a_made a_sixteenths a_dots a_used a_stands a_p1 a_p1_cellNames a_p1_secretNames a_p1_pageNames a_p1_speed a_p1_letters a_p1_room a_p1_now a_p1_rounds v_inOrder v_place v_ill v_shut v_turns v_madeInAll v_dots v_stands v_used v_p1_cells v_p1_secrets v_p1_pages v_p1_blind v_p1_rubs v_p1_letters v_p1_room)) (w1 := (k_X7_makeOn T a_ a_order a_knows a_made a_sixteenths a_dots a_used a_stands a_p1 a_p1_cellNames a_p1_secretNames a_p1_pageNames a_p1_speed a_p1_letters a_p1_room a_p1_now a_p1_rounds v_inOrder v_place v_ill v_shut v_turns v_madeInAll u4 u5 u6 v_p1_cells v_p1_secrets v_p1_pages v_p1_blind v_p1_rubs v_p1_letters v_p1_room)) (wo := [(a_knows, mp_aI T 8 v_knows), (a_made, mp_aI T 8 v_made), (a_p1_speed, mp_aI T 8 v_p1_speed)]) (w2 := (k_X7_makePricks T a_ a_order a_knows a_made a_sixteenths a_dots a_used a_stands a_p1 a_p1_cellNames a_p1_secretNames a_p1_pageNames a_p1_speed a_p1_letters a_p1_room a_p1_now a_p1_rounds v_inOrder v_place v_ill v_shut v_turns v_madeInAll u4 v_knows v_made u5 u6 v_p1_cells v_p1_secrets v_p1_pages v_p1_blind v_p1_rubs v_p1_letters v_p1_room v_p1_speed)) (n := 10) hP (mp_D_of hD rfl) hS hA rfl rfl rfl rfl rfl rfl (by decide +kernel) (mp_runV (As := [.ref a_p1, .int w0, .int z5, .int z3]) (rest := [.int z3]) X me_X7_makeOn lk_X7_126 (c_X7_makeOn l D T a_ a_order a_knows a_made a_sixteenths a_dots a_used a_stands a_p1 a_p1_cellNames a_p1_secretNames a_p1_pageNames a_p1_speed a_p1_letters a_p1_room a_p1_now a_p1_rounds w0 z5 z3 v_inOrder v_place v_ill v_shut v_turns v_madeInAll v_p1_cells v_p1_secrets v_p1_pages v_p1_blind v_p1_rubs v_dots v_stands v_used v_p1_letters v_p1_room r3 u4 u5 u6 c7) rfl rfl ⟨(Nat.le_of_ble_eq_true rfl), (Nat.le_of_ble_eq_true rfl)⟩ hK hPc hDc rfl rfl rfl rfl hl.1 rfl (Nat.le_of_ble_eq_true rfl) dX7_makePricks_76 ⟨Nat.zero_le _, Nat.zero_le _⟩) (fun H locs hP _ hS => ?_)
    refine lv_isub hx hb dX7_makePricks_79 ?_
    refine lv_topi (fun y8 e8 => ?_)
    replace hf := lt_of e8 hf
    refine lv_istore_n (lv' := [(3, .int y8), (6, .int w0), (0, .ref a_), (1, .ref a_p1), (2, .int z2), (4, .int z4), (5, .int z5)]) hx hb dX7_makePricks_80 rfl hl (by decide) rfl (fun ls hl => ?_)
    obtain ⟨y9, e9⟩ : ∃ y : Int32, y = z5 + (nI 1) := ⟨_, rfl⟩
    replace hf := lt_of e9 hf
    refine lv_iinc (v := y9) (lv' := [(5, .int y9), (3, .int y8), (6, .int w0), (0, .ref a_), (1, .ref a_p1), (2, .int z2), (4, .int z4)]) hx hb dX7_makePricks_81 hl (k := 6) rfl (by rw [e9]; rfl) (by decide) rfl (fun ls hl => ?_)
    refine lv_goto (tgt := 26) hx hb dX7_makePricks_84 (by decide) ?_
    exact hK26 z2 y8 z4 y9 v_madeInAll u4 v_made u5 u6 hf _ _ _ hP (mp_D_of hD rfl) hS (lv_sub hl [3, 4, 5, 1, 6, 0] rfl)

set_option maxHeartbeats 4000000 in
set_option maxRecDepth 100000 in
theorem w_X7_makePricks_26 {p : Program} {l : Launch} {e : Env} {s : State} {m : MethodId} {args : Array Value} {below : List Frame} {meth : Method} {c : Code} {D : va_G} {T : Nat → ClassId} {A : Nat → Prop} (X : mp_X p s m meth c args RX7 "makePricks" cX7_makePricks 7 none) (hK : va_K D mp_cl (mp_ty T) s) (hA : ∀ q, s.heap.size ≤ q → A q) (fu : Nat) (a_ a_order a_knows a_made a_sixteenths a_dots a_used a_stands a_p1 a_p1_cellNames a_p1_secretNames a_p1_pageNames a_p1_speed a_p1_letters a_p1_room a_p1_now a_p1_rounds : Nat) (v_inOrder : Int32) (v_place : Int32) (v_ill : Int32) (v_turns : Int32) (v_p1_cells : Int32) (v_p1_blind : Int32) (v_p1_rubs : Int32) (v_shut : Int32) (v_knows : (Nat → Int32)) (v_p1_secrets : Int32) (v_p1_pages : Int32) (v_p1_letters : (Nat → Int32)) (v_p1_room : (Nat → Int32)) (v_p1_speed : (Nat → Int32)) (o_madeInAll : Int32) (o_dots : (Nat → Int32)) (o_made : (Nat → Int32)) (o_stands : (Nat → Int32)) (o_used : (Nat → Int32)) :
    ∀ (n : Nat) (z2 : Int32) (z3 : Int32) (z4 : Int32) (z5 : Int32) (v_madeInAll : Int32) (v_dots : (Nat → Int32)) (v_made : (Nat → Int32)) (v_stands : (Nat → Int32)) (v_used : (Nat → Int32)), f_X7_makePricks_26 fu v_shut v_knows v_p1_secrets v_p1_pages v_p1_letters v_p1_room v_p1_speed  n z2 z3 z4 z5 v_madeInAll v_dots v_made v_stands v_used = some (o_madeInAll, o_dots, o_made, o_stands, o_used) → ∀ (H : Heap) (locs : List Loc) (ls : Array Slot), va_P D mp_cl (k_X7_makePricks T a_ a_order a_knows a_made a_sixteenths a_dots a_used a_stands a_p1 a_p1_cellNames a_p1_secretNames a_p1_pageNames a_p1_speed a_p1_letters a_p1_room a_p1_now a_p1_rounds v_inOrder v_place v_ill v_shut v_turns v_madeInAll v_dots v_knows v_made v_stands v_used v_p1_cells v_p1_secrets v_p1_pages v_p1_blind v_p1_rubs v_p1_letters v_p1_room v_p1_speed) H → va_D A (k_X7_makePricks T a_ a_order a_knows a_made a_sixteenths a_dots a_used a_stands a_p1 a_p1_cellNames a_p1_secretNames a_p1_pageNames a_p1_speed a_p1_letters a_p1_room a_p1_now a_p1_rounds v_inOrder v_place v_ill v_shut v_turns v_madeInAll v_dots v_knows v_made v_stands v_used v_p1_cells v_p1_secrets v_p1_pages v_p1_blind v_p1_rubs v_p1_letters v_p1_room v_p1_speed) → va_S A s.heap H locs → lv_has ls 7 [(0, .ref a_), (1, .ref a_p1), (2, .int z2), (3, .int z3), (4, .int z4), (5, .int z5)] → W p l e ({ frames := 2, cells := 0, slots := 0, locals := 67 }) s m args below meth c H locs 0 0 (MQ below ((mp_Qv D (k_X7_makePricks T a_ a_order a_knows a_made a_sixteenths a_dots a_used a_stands a_p1 a_p1_cellNames a_p1_secretNames a_p1_pageNames a_p1_speed a_p1_letters a_p1_room a_p1_now a_p1_rounds v_inOrder v_place v_ill v_shut v_turns o_madeInAll o_dots v_knows o_made o_stands o_used v_p1_cells v_p1_secrets v_p1_pages v_p1_blind v_p1_rubs v_p1_letters v_p1_room v_p1_speed)) A) args s 0 0 A) (F0 m 26 ls []) := by
  have hx := X.1
  have hb := X.2.1
  have hml := X.2.2.1
  have hown := X.2.2.2.2.1
  have hts := X.2.2.2.2.2.1
  intro n
  induction n with
  | zero => intro z2 z3 z4 z5 v_madeInAll v_dots v_made v_stands v_used hf; exact absurd hf (by intro h; cases h)
  | succ n ih =>
    intro z2 z3 z4 z5 v_madeInAll v_dots v_made v_stands v_used hf H locs ls hP hD hS hl
    replace hf : (if v_p1_secrets ≤ z5 then f_X7_makePricks_87 fu v_shut v_knows v_p1_secrets v_p1_pages v_p1_letters v_p1_room v_p1_speed  z2 z3 v_madeInAll v_dots v_made v_stands v_used else (if z3 ≤ 0 then f_X7_makePricks_87 fu v_shut v_knows v_p1_secrets v_p1_pages v_p1_letters v_p1_room v_p1_speed  z2 z3 v_madeInAll v_dots v_made v_stands v_used else bd_ (f_X7_has z4 z5) (fun (r3 : Int32) => (if r3 = 0 then f_X7_makePricks_60 fu v_shut v_knows v_p1_secrets v_p1_pages v_p1_letters v_p1_room v_p1_speed (f_X7_makePricks_26 fu v_shut v_knows v_p1_secrets v_p1_pages v_p1_letters v_p1_room v_p1_speed  n) z2 z3 z4 z5 (-1 : Int32) v_madeInAll v_dots v_made v_stands v_used else bd_ (f_X7_pageFor fu z5 v_shut v_dots v_used v_p1_pages v_p1_room) (fun (r6 : Int32) => f_X7_makePricks_60 fu v_shut v_knows v_p1_secrets v_p1_pages v_p1_letters v_p1_room v_p1_speed (f_X7_makePricks_26 fu v_shut v_knows v_p1_secrets v_p1_pages v_p1_letters v_p1_room v_p1_speed  n) z2 z3 z4 z5 r6 v_madeInAll v_dots v_made v_stands v_used))))) = some (o_madeInAll, o_dots, o_made, o_stands, o_used) := hf
    refine lv_iload hx hb dX7_makePricks_26 (lv_at hl 5 rfl) ?_
    refine lv_aload_n hx hb dX7_makePricks_28 rfl (lv_at hl 1 rfl) ?_
    refine mp_get X fl_X7_112 hK hP 6 rfl rfl dX7_makePricks_29 ?_
    refine lv_icmp_ge (tgt := 87) hx hb dX7_makePricks_32 (by decide) (fun h1 => ?_) (fun h1 => ?_)
    · replace hf := if_t hf h1
      exact w_X7_makePricks_87 X hK hA  fu a_ a_order a_knows a_made a_sixteenths a_dots a_used a_stands a_p1 a_p1_cellNames a_p1_secretNames a_p1_pageNames a_p1_speed a_p1_letters a_p1_room a_p1_now a_p1_rounds v_inOrder v_place v_ill v_turns v_p1_cells v_p1_blind v_p1_rubs v_shut v_knows v_p1_secrets v_p1_pages v_p1_letters v_p1_room v_p1_speed o_madeInAll o_dots o_made o_stands o_used   z2 z3 v_madeInAll v_dots v_made v_stands v_used hf _ _ _ hP (mp_D_of hD rfl) hS (lv_sub hl [0, 1, 2, 3] rfl)
    · replace hf := if_f hf h1
      refine lv_iload_n hx hb dX7_makePricks_35 rfl (lv_at hl 3 rfl) ?_
      refine lv_if_le (tgt := 87) hx hb dX7_makePricks_36 (by decide) (fun h2 => ?_) (fun h2 => ?_)
      · replace hf := if_t hf h2
        exact w_X7_makePricks_87 X hK hA  fu a_ a_order a_knows a_made a_sixteenths a_dots a_used a_stands a_p1 a_p1_cellNames a_p1_secretNames a_p1_pageNames a_p1_speed a_p1_letters a_p1_room a_p1_now a_p1_rounds v_inOrder v_place v_ill v_turns v_p1_cells v_p1_blind v_p1_rubs v_shut v_knows v_p1_secrets v_p1_pages v_p1_letters v_p1_room v_p1_speed o_madeInAll o_dots o_made o_stands o_used   z2 z3 v_madeInAll v_dots v_made v_stands v_used hf _ _ _ hP (mp_D_of hD rfl) hS (lv_sub hl [0, 1, 2, 3] rfl)
      · replace hf := if_f hf h2
        refine lv_iload hx hb dX7_makePricks_39 (lv_at hl 4 rfl) ?_
        refine lv_iload hx hb dX7_makePricks_41 (lv_at hl 5 rfl) ?_
        obtain ⟨r3, c4, hf⟩ := bd_of hf
        have hPc := hP.sub (ws' := (k_X7_has T )) [] rfl
        have hDc := (mp_D_of (w1 := (k_X7_makePricks T a_ a_order a_knows a_made a_sixteenths a_dots a_used a_stands a_p1 a_p1_cellNames a_p1_secretNames a_p1_pageNames a_p1_speed a_p1_letters a_p1_room a_p1_now a_p1_rounds v_inOrder v_place v_ill v_shut v_turns v_madeInAll v_dots v_knows v_made v_stands v_used v_p1_cells v_p1_secrets v_p1_pages v_p1_blind v_p1_rubs v_p1_letters v_p1_room v_p1_speed)) hD rfl).sub (ws' := (k_X7_has T )) [] rfl rfl
        refine mp_calli (isC := []) (wc := (k_X7_has T )) (w1 := (k_X7_has T )) hP (mp_D_of hD rfl) hS hA rfl rfl (mp_runS (As := [.int z4, .int z5]) (rest := []) X me_X7_has lk_X7_64 (c_X7_has l D T z4 z5 r3 c4) rfl rfl ⟨(Nat.le_of_ble_eq_true rfl), (Nat.le_of_ble_eq_true rfl)⟩ hK hPc hDc rfl hl.1 rfl (Nat.le_of_ble_eq_true rfl) dX7_makePricks_43 ⟨Nat.zero_le _, Nat.zero_le _⟩) (fun H locs hP _ hS => ?_)
        replace hP : va_P D mp_cl (k_X7_makePricks T a_ a_order a_knows a_made a_sixteenths a_dots a_used a_stands a_p1 a_p1_cellNames a_p1_secretNames a_p1_pageNames a_p1_speed a_p1_letters a_p1_room a_p1_now a_p1_rounds v_inOrder v_place v_ill v_shut v_turns v_madeInAll v_dots v_knows v_made v_stands v_used v_p1_cells v_p1_secrets v_p1_pages v_p1_blind v_p1_rubs v_p1_letters v_p1_room v_p1_speed) H := hP
        refine lv_if_eq (tgt := 59) hx hb dX7_makePricks_46 (by decide) (fun h5 => ?_) (fun h5 => ?_)
        · replace hf := if_t hf h5
          refine lv_iconst (v := (-1 : Int32)) hx hb dX7_makePricks_59 (by decide) ?_
          exact w_X7_makePricks_60 X hK hA  fu a_ a_order a_knows a_made a_sixteenths a_dots a_used a_stands a_p1 a_p1_cellNames a_p1_secretNames a_p1_pageNames a_p1_speed a_p1_letters a_p1_room a_p1_now a_p1_rounds v_inOrder v_place v_ill v_turns v_p1_cells v_p1_blind v_p1_rubs v_shut v_knows v_p1_secrets v_p1_pages v_p1_letters v_p1_room v_p1_speed o_madeInAll o_dots o_made o_stands o_used  (f_X7_makePricks_26 fu v_shut v_knows v_p1_secrets v_p1_pages v_p1_letters v_p1_room v_p1_speed  n) (ih) z2 z3 z4 z5 (-1 : Int32) v_madeInAll v_dots v_made v_stands v_used hf _ _ _ hP (mp_D_of hD rfl) hS (lv_sub hl [0, 1, 2, 3, 4, 5] rfl)
        · replace hf := if_f hf h5
          refine lv_aload_n hx hb dX7_makePricks_49 rfl (lv_at hl 0 rfl) ?_
          refine lv_aload_n hx hb dX7_makePricks_50 rfl (lv_at hl 1 rfl) ?_
          refine lv_iload hx hb dX7_makePricks_51 (lv_at hl 5 rfl) ?_
          obtain ⟨r6, c7, hf⟩ := bd_of hf
          have hPc := hP.sub (ws' := (k_X7_pageFor T a_ a_order a_knows a_made a_sixteenths a_dots a_used a_stands a_p1 a_p1_cellNames a_p1_secretNames a_p1_pageNames a_p1_speed a_p1_letters a_p1_room a_p1_now a_p1_rounds v_inOrder v_place v_ill v_shut v_turns v_madeInAll v_dots v_used v_p1_cells v_p1_secrets v_p1_pages v_p1_blind v_p1_rubs v_p1_room)) [0, 1, 5, 6, 8] rfl
          have hDc := (mp_D_of (w1 := (k_X7_makePricks T a_ a_order a_knows a_made a_sixteenths a_dots a_used a_stands a_p1 a_p1_cellNames a_p1_secretNames a_p1_pageNames a_p1_speed a_p1_letters a_p1_room a_p1_now a_p1_rounds v_inOrder v_place v_ill v_shut v_turns v_madeInAll v_dots v_knows v_made v_stands v_used v_p1_cells v_p1_secrets v_p1_pages v_p1_blind v_p1_rubs v_p1_letters v_p1_room v_p1_speed)) hD rfl).sub (ws' := (k_X7_pageFor T a_ a_order a_knows a_made a_sixteenths a_dots a_used a_stands a_p1 a_p1_cellNames a_p1_secretNames a_p1_pageNames a_p1_speed a_p1_letters a_p1_room a_p1_now a_p1_rounds v_inOrder v_place v_ill v_shut v_turns v_madeInAll v_dots v_used v_p1_cells v_p1_secrets v_p1_pages v_p1_blind v_p1_rubs v_p1_room)) [0, 1, 5, 6, 8] rfl rfl
          refine mp_calli (isC := [0, 1, 5, 6, 8]) (wc := (k_X7_pageFor T a_ a_order a_knows a_made a_sixteenths a_dots a_used a_stands a_p1 a_p1_cellNames a_p1_secretNames a_p1_pageNames a_p1_speed a_p1_letters a_p1_room a_p1_now a_p1_rounds v_inOrder v_place v_ill v_shut v_turns v_madeInAll v_dots v_used v_p1_cells v_p1_secrets v_p1_pages v_p1_blind v_p1_rubs v_p1_room)) (w1 := (k_X7_pageFor T a_ a_order a_knows a_made a_sixteenths a_dots a_used a_stands a_p1 a_p1_cellNames a_p1_secretNames a_p1_pageNames a_p1_speed a_p1_letters a_p1_room a_p1_now a_p1_rounds v_inOrder v_place v_ill v_shut v_turns v_madeInAll v_dots v_used v_p1_cells v_p1_secrets v_p1_pages v_p1_blind v_p1_rubs v_p1_room)) hP (mp_D_of hD rfl) hS hA rfl rfl (mp_runV (As := [.ref a_p1, .int z5]) (rest := []) X me_X7_pageFor lk_X7_122 (c_X7_pageFor l D T fu a_ a_order a_knows a_made a_sixteenths a_dots a_used a_stands a_p1 a_p1_cellNames a_p1_secretNames a_p1_pageNames a_p1_speed a_p1_letters a_p1_room a_p1_now a_p1_rounds z5 v_inOrder v_place v_ill v_turns v_madeInAll v_p1_cells v_p1_secrets v_p1_blind v_p1_rubs v_shut v_dots v_used v_p1_pages v_p1_room r6 c7) rfl rfl ⟨(Nat.le_of_ble_eq_true rfl), (Nat.le_of_ble_eq_true rfl)⟩ hK hPc hDc rfl rfl rfl rfl hl.1 rfl (Nat.le_of_ble_eq_true rfl) dX7_makePricks_53 ⟨Nat.zero_le _, Nat.zero_le _⟩) (fun H locs hP _ hS => ?_)
          replace hP : va_P D mp_cl (k_X7_makePricks T a_ a_order a_knows a_made a_sixteenths a_dots a_used a_stands a_p1 a_p1_cellNames a_p1_secretNames a_p1_pageNames a_p1_speed a_p1_letters a_p1_room a_p1_now a_p1_rounds v_inOrder v_place v_ill v_shut v_turns v_madeInAll v_dots v_knows v_made v_stands v_used v_p1_cells v_p1_secrets v_p1_pages v_p1_blind v_p1_rubs v_p1_letters v_p1_room v_p1_speed) H := hP
          refine lv_goto (tgt := 60) hx hb dX7_makePricks_56 (by decide) ?_
          exact w_X7_makePricks_60 X hK hA  fu a_ a_order a_knows a_made a_sixteenths a_dots a_used a_stands a_p1 a_p1_cellNames a_p1_secretNames a_p1_pageNames a_p1_speed a_p1_letters a_p1_room a_p1_now a_p1_rounds v_inOrder v_place v_ill v_turns v_p1_cells v_p1_blind v_p1_rubs v_shut v_knows v_p1_secrets v_p1_pages v_p1_letters v_p1_room v_p1_speed o_madeInAll o_dots o_made o_stands o_used  (f_X7_makePricks_26 fu v_shut v_knows v_p1_secrets v_p1_pages v_p1_letters v_p1_room v_p1_speed  n) (ih) z2 z3 z4 z5 r6 v_madeInAll v_dots v_made v_stands v_used hf _ _ _ hP (mp_D_of hD rfl) hS (lv_sub hl [0, 1, 2, 3, 4, 5] rfl)

set_option maxHeartbeats 4000000 in
set_option maxRecDepth 100000 in
theorem c_X7_makePricks (l : Launch) (D : va_G) (T : Nat → ClassId) (fu : Nat) (a_ a_order a_knows a_made a_sixteenths a_dots a_used a_stands a_p1 a_p1_cellNames a_p1_secretNames a_p1_pageNames a_p1_speed a_p1_letters a_p1_room a_p1_now a_p1_rounds : Nat) (x2 : Int32) (v_inOrder : Int32) (v_place : Int32) (v_ill : Int32) (v_turns : Int32) (v_p1_cells : Int32) (v_p1_blind : Int32) (v_p1_rubs : Int32) (v_shut : Int32) (v_madeInAll : Int32) (v_dots : (Nat → Int32)) (v_knows : (Nat → Int32)) (v_made : (Nat → Int32)) (v_stands : (Nat → Int32)) (v_used : (Nat → Int32)) (v_p1_secrets : Int32) (v_p1_pages : Int32) (v_p1_letters : (Nat → Int32)) (v_p1_room : (Nat → Int32)) (v_p1_speed : (Nat → Int32)) (o_madeInAll : Int32) (o_dots : (Nat → Int32)) (o_made : (Nat → Int32)) (o_stands : (Nat → Int32)) (o_used : (Nat → Int32)) (hf : f_X7_makePricks fu x2 v_shut v_madeInAll v_dots v_knows v_made v_stands v_used v_p1_secrets v_p1_pages v_p1_letters v_p1_room v_p1_speed = some (o_madeInAll, o_dots, o_made, o_stands, o_used)) :
    mp_M l D T yX7_makePricks cX7_makePricks 7 none ({ frames := 2, cells := 0, slots := 0, locals := 67 }) 0 0 [.ref a_, .ref a_p1, .int x2] (k_X7_makePricks T a_ a_order a_knows a_made a_sixteenths a_dots a_used a_stands a_p1 a_p1_cellNames a_p1_secretNames a_p1_pageNames a_p1_speed a_p1_letters a_p1_room a_p1_now a_p1_rounds v_inOrder v_place v_ill v_shut v_turns v_madeInAll v_dots v_knows v_made v_stands v_used v_p1_cells v_p1_secrets v_p1_pages v_p1_blind v_p1_rubs v_p1_letters v_p1_room v_p1_speed) (mp_Qv D (k_X7_makePricks T a_ a_order a_knows a_made a_sixteenths a_dots a_used a_stands a_p1 a_p1_cellNames a_p1_secretNames a_p1_pageNames a_p1_speed a_p1_letters a_p1_room a_p1_now a_p1_rounds v_inOrder v_place v_ill v_shut v_turns o_madeInAll o_dots v_knows o_made o_stands o_used v_p1_cells v_p1_secrets v_p1_pages v_p1_blind v_p1_rubs v_p1_letters v_p1_room v_p1_speed)) := by
  refine mp_of (by decide) (Nat.le_of_ble_eq_true rfl) rfl ?_
  intro p e s m args below meth c A ls X hK hP hD hS hA hl
  replace X : mp_X p s m meth c args RX7 "makePricks" cX7_makePricks 7 none := X
  have hx := X.1
  have hb := X.2.1
  have hml := X.2.2.1
  have hown := X.2.2.2.2.1
  have hts := X.2.2.2.2.2.1
  replace hl : lv_has ls 7 [(0, .ref a_), (1, .ref a_p1), (2, .int x2)] := hl
  replace hf : gi_ x2 8 (lt_ (v_p1_speed (x2).toNatClampNeg) (fun (y2 : Int32) => gi_ x2 8 (bd_ (f_X7_standingInAll fu v_shut v_stands v_p1_pages) (fun (r4 : Int32) => lt_ ((v_knows (x2).toNatClampNeg) &&& (r4 ^^^ (-1 : Int32))) (fun (y6 : Int32) => f_X7_makePricks_26 fu v_shut v_knows v_p1_secrets v_p1_pages v_p1_letters v_p1_room v_p1_speed  fu x2 y2 y6 (nI 0) v_madeInAll v_dots v_made v_stands v_used))))) = some (o_madeInAll, o_dots, o_made, o_stands, o_used) := hf
  refine lv_aload_n hx hb dX7_makePricks_0 rfl (lv_at hl 1 rfl) ?_
  refine mp_get X fl_X7_119 hK hP 6 rfl rfl dX7_makePricks_1 ?_
  refine lv_iload_n hx hb dX7_makePricks_4 rfl (lv_at hl 2 rfl) ?_
  obtain ⟨h1, hf⟩ := gi_of hf
  refine va_iald hx hb hK hP 9 0 rfl rfl h1 dX7_makePricks_5 ?_
  refine lv_topi (fun y2 e2 => ?_)
  replace hf := lt_of e2 hf
  refine lv_istore_n (lv' := [(3, .int y2), (0, .ref a_), (1, .ref a_p1), (2, .int x2)]) hx hb dX7_makePricks_6 rfl hl (by decide) rfl (fun ls hl => ?_)
  refine lv_aload_n hx hb dX7_makePricks_7 rfl (lv_at hl 1 rfl) ?_
  refine mp_get X fl_X7_22 hK hP 0 rfl rfl dX7_makePricks_8 ?_
  refine lv_iload_n hx hb dX7_makePricks_11 rfl (lv_at hl 3 rfl) ?_
  obtain ⟨h3, hf⟩ := gi_of hf
  refine va_iald hx hb hK hP 2 0 rfl rfl h3 dX7_makePricks_12 ?_
  refine lv_aload_n hx hb dX7_makePricks_13 rfl (lv_at hl 1 rfl) ?_
  refine lv_aload_n hx hb dX7_makePricks_14 rfl (lv_at hl 2 rfl) ?_
  obtain ⟨r4, c5, hf⟩ := bd_of hf
  have hPc := hP.sub (ws' := (k_X7_standingInAll T a_ a_order a_knows a_made a_sixteenths a_dots a_used a_stands a_p1 a_p1_cellNames a_p1_secretNames a_p1_pageNames a_p1_speed a_p1_letters a_p1_room a_p1_now a_p1_rounds v_inOrder v_place v_ill v_shut v_turns v_madeInAll v_stands v_p1_cells v_p1_secrets v_p1_pages v_p1_blind v_p1_rubs)) [0, 4, 6] rfl
  have hDc := (mp_D_of (w1 := (k_X7_makePricks T a_ a_order a_knows a_made a_sixteenths a_dots a_used a_stands a_p1 a_p1_cellNames a_p1_secretNames a_p1_pageNames a_p1_speed a_p1_letters a_p1_room a_p1_now a_p1_rounds v_inOrder v_place v_ill v_shut v_turns v_madeInAll v_dots v_knows v_made v_stands v_used v_p1_cells v_p1_secrets v_p1_pages v_p1_blind v_p1_rubs v_p1_letters v_p1_room v_p1_speed)) hD rfl).sub (ws' := (k_X7_standingInAll T a_ a_order a_knows a_made a_sixteenths a_dots a_used a_stands a_p1 a_p1_cellNames a_p1_secretNames a_p1_pageNames a_p1_speed a_p1_letters a_p1_room a_p1_now a_p1_rounds v_inOrder v_place v_ill v_shut v_turns v_madeInAll v_stands v_p1_cells v_p1_secrets v_p1_pages v_p1_blind v_p1_rubs)) [0, 4, 6] rfl rfl
  refine mp_calli (isC := [0, 4, 6]) (wc := (k_X7_standingInAll T a_ a_order a_knows a_made a_sixteenths a_dots a_used a_stands a_p1 a_p1_cellNames a_p1_secretNames a_p1_pageNames a_p1_speed a_p1_letters a_p1_room a_p1_now a_p1_rounds v_inOrder v_place v_ill v_shut v_turns v_madeInAll v_stands v_p1_cells v_p1_secrets v_p1_pages v_p1_blind v_p1_rubs)) (w1 := (k_X7_standingInAll T a_ a_order a_knows a_made a_sixteenths a_dots a_used a_stands a_p1 a_p1_cellNames a_p1_secretNames a_p1_pageNames a_p1_speed a_p1_letters a_p1_room a_p1_now a_p1_rounds v_inOrder v_place v_ill v_shut v_turns v_madeInAll v_stands v_p1_cells v_p1_secrets v_p1_pages v_p1_blind v_p1_rubs)) hP (mp_D_of hD rfl) hS hA rfl rfl (mp_runV (As := [.ref a_p1]) (rest := [.int (v_knows (x2).toNatClampNeg)]) X me_X7_standingInAll lk_X7_87 (c_X7_standingInAll l D T fu a_ a_order a_knows a_made a_sixteenths a_dots a_used a_stands a_p1 a_p1_cellNames a_p1_secretNames a_p1_pageNames a_p1_speed a_p1_letters a_p1_room a_p1_now a_p1_rounds v_inOrder v_place v_ill v_turns v_madeInAll v_p1_cells v_p1_secrets v_p1_blind v_p1_rubs v_shut v_stands v_p1_pages r4 c5) rfl rfl ⟨(Nat.le_of_ble_eq_true rfl), (Nat.le_of_ble_eq_true rfl)⟩ hK hPc hDc rfl rfl rfl rfl hl.1 rfl (Nat.le_of_ble_eq_true rfl) dX7_makePricks_15 ⟨Nat.zero_le _, Nat.zero_le _⟩) (fun H locs hP _ hS => ?_)
  replace hP : va_P D mp_cl (k_X7_makePricks T a_ a_order a_knows a_made a_sixteenths a_dots a_used a_stands a_p1 a_p1_cellNames a_p1_secretNames a_p1_pageNames a_p1_speed a_p1_letters a_p1_room a_p1_now a_p1_rounds v_inOrder v_place v_ill v_shut v_turns v_madeInAll v_dots v_knows v_made v_stands v_used v_p1_cells v_p1_secrets v_p1_pages v_p1_blind v_p1_rubs v_p1_letters v_p1_room v_p1_speed) H := hP
  refine lv_iconst (v := (-1 : Int32)) hx hb dX7_makePricks_18 (by decide) ?_
  refine lv_ixor hx hb dX7_makePricks_19 ?_
  refine lv_iand hx hb dX7_makePricks_20 ?_
  refine lv_topi (fun y6 e6 => ?_)
  replace hf := lt_of e6 hf
  refine lv_istore (lv' := [(4, .int y6), (3, .int y2), (0, .ref a_), (1, .ref a_p1), (2, .int x2)]) hx hb dX7_makePricks_21 hl (by decide) rfl (fun ls hl => ?_)
  refine lv_iconst (v := (nI 0)) hx hb dX7_makePricks_23 (by decide) ?_
  refine lv_istore (lv' := [(5, .int (nI 0)), (4, .int y6), (3, .int y2), (0, .ref a_), (1, .ref a_p1), (2, .int x2)]) hx hb dX7_makePricks_24 hl (by decide) rfl (fun ls hl => ?_)
  exact w_X7_makePricks_26 X hK hA  fu a_ a_order a_knows a_made a_sixteenths a_dots a_used a_stands a_p1 a_p1_cellNames a_p1_secretNames a_p1_pageNames a_p1_speed a_p1_letters a_p1_room a_p1_now a_p1_rounds v_inOrder v_place v_ill v_turns v_p1_cells v_p1_blind v_p1_rubs v_shut v_knows v_p1_secrets v_p1_pages v_p1_letters v_p1_room v_p1_speed o_madeInAll o_dots o_made o_stands o_used   fu x2 y2 y6 (nI 0) v_madeInAll v_dots v_made v_stands v_used hf _ _ _ hP (mp_D_of hD rfl) hS (lv_sub hl [3, 4, 5, 2, 1, 0] rfl)


def k_X7_pass (T : Nat → ClassId) (a_ a_order a_knows a_made a_sixteenths a_dots a_used a_stands a_p1 a_p1_cellNames a_p1_secretNames a_p1_pageNames a_p1_speed a_p1_letters a_p1_room a_p1_now a_p1_rounds : Nat) (v_inOrder : Int32) (v_place : Int32) (v_ill : Int32) (v_shut : Int32) (v_turns : Int32) (v_madeInAll : Int32) (v_dots : (Nat → Int32)) (v_knows : (Nat → Int32)) (v_made : (Nat → Int32)) (v_order : (Nat → Int32)) (v_stands : (Nat → Int32)) (v_used : (Nat → Int32)) (v_p1_cells : Int32) (v_p1_secrets : Int32) (v_p1_pages : Int32) (v_p1_blind : Int32) (v_p1_rubs : Int32) (v_p1_letters : (Nat → Int32)) (v_p1_room : (Nat → Int32)) (v_p1_speed : (Nat → Int32)) : va_W := [(a_, oX7 a_order v_inOrder v_place a_knows a_made a_sixteenths a_dots a_used a_stands v_ill v_shut v_turns v_madeInAll), (a_dots, mp_aI T 36 v_dots), (a_knows, mp_aI T 8 v_knows), (a_made, mp_aI T 8 v_made), (a_order, mp_aI T 8 v_order), (a_stands, mp_aI T 6 v_stands), (a_used, mp_aI T 6 v_used), (a_p1, oX1 v_p1_cells v_p1_secrets v_p1_pages a_p1_cellNames a_p1_secretNames a_p1_pageNames a_p1_speed v_p1_blind v_p1_rubs a_p1_letters a_p1_room a_p1_now a_p1_rounds), (a_p1_letters, mp_aI T 6 v_p1_letters), (a_p1_room, mp_aI T 6 v_p1_room), (a_p1_speed, mp_aI T 8 v_p1_speed)]
set_option maxHeartbeats 4000000 in
set_option maxRecDepth 100000 in
theorem w_X7_pass_77 {p : Program} {l : Launch} {e : Env} {s : State} {m : MethodId} {args : Array Value} {below : List Frame} {meth : Method} {c : Code} {D : va_G} {T : Nat → ClassId} {A : Nat → Prop} (X : mp_X p s m meth c args RX7 "pass" cX7_pass 5 (some .boolean)) (hK : va_K D mp_cl (mp_ty T) s) (hA : ∀ q, s.heap.size ≤ q → A q) (fu : Nat) (a_ a_order a_knows a_made a_sixteenths a_dots a_used a_stands a_p1 a_p1_cellNames a_p1_secretNames a_p1_pageNames a_p1_speed a_p1_letters a_p1_room a_p1_now a_p1_rounds : Nat) (v_p1_cells : Int32) (v_inOrder : Int32) (v_ill : Int32) (v_shut : Int32) (v_order : (Nat → Int32)) (v_p1_secrets : Int32) (v_p1_pages : Int32) (v_p1_blind : Int32) (v_p1_rubs : Int32) (v_p1_letters : (Nat → Int32)) (v_p1_room : (Nat → Int32)) (v_p1_speed : (Nat → Int32)) (r_ : Int32) (o_place : Int32) (o_turns : Int32) (o_madeInAll : Int32) (o_dots : (Nat → Int32)) (o_knows : (Nat → Int32)) (o_made : (Nat → Int32)) (o_stands : (Nat → Int32)) (o_used : (Nat → Int32)) :
    ∀  (z2 : Int32) (z3 : Int32) (z4 : Int32) (v_place : Int32) (v_turns : Int32) (v_madeInAll : Int32) (v_dots : (Nat → Int32)) (v_knows : (Nat → Int32)) (v_made : (Nat → Int32)) (v_stands : (Nat → Int32)) (v_used : (Nat → Int32)), f_X7_pass_77 fu v_inOrder v_ill v_shut v_order v_p1_secrets v_p1_pages v_p1_blind v_p1_rubs v_p1_letters v_p1_room v_p1_speed  z2 z3 z4 v_place v_turns v_madeInAll v_dots v_knows v_made v_stands v_used = some (r_, o_place, o_turns, o_madeInAll, o_dots, o_knows, o_made, o_stands, o_used) → ∀ (H : Heap) (locs : List Loc) (ls : Array Slot), va_P D mp_cl (k_X7_pass T a_ a_order a_knows a_made a_sixteenths a_dots a_used a_stands a_p1 a_p1_cellNames a_p1_secretNames a_p1_pageNames a_p1_speed a_p1_letters a_p1_room a_p1_now a_p1_rounds v_inOrder v_place v_ill v_shut v_turns v_madeInAll v_dots v_knows v_made v_order v_stands v_used v_p1_cells v_p1_secrets v_p1_pages v_p1_blind v_p1_rubs v_p1_letters v_p1_room v_p1_speed) H → va_D A (k_X7_pass T a_ a_order a_knows a_made a_sixteenths a_dots a_used a_stands a_p1 a_p1_cellNames a_p1_secretNames a_p1_pageNames a_p1_speed a_p1_letters a_p1_room a_p1_now a_p1_rounds v_inOrder v_place v_ill v_shut v_turns v_madeInAll v_dots v_knows v_made v_order v_stands v_used v_p1_cells v_p1_secrets v_p1_pages v_p1_blind v_p1_rubs v_p1_letters v_p1_room v_p1_speed) → va_S A s.heap H locs → lv_has ls 5 [(0, .ref a_), (1, .ref a_p1), (2, .int z2), (3, .int z3), (4, .int z4)] → W p l e ({ frames := 3, cells := 0, slots := 0, locals := 93 }) s m args below meth c H locs 0 0 (MQ below ((mp_Qi D r_ (k_X7_pass T a_ a_order a_knows a_made a_sixteenths a_dots a_used a_stands a_p1 a_p1_cellNames a_p1_secretNames a_p1_pageNames a_p1_speed a_p1_letters a_p1_room a_p1_now a_p1_rounds v_inOrder o_place v_ill v_shut o_turns o_madeInAll o_dots o_knows o_made v_order o_stands o_used v_p1_cells v_p1_secrets v_p1_pages v_p1_blind v_p1_rubs v_p1_letters v_p1_room v_p1_speed)) A) args s 0 0 A) (F0 m 77 ls []) := by
  have hx := X.1
  have hb := X.2.1
  have hml := X.2.2.1
  have hown := X.2.2.2.2.1
  have hts := X.2.2.2.2.2.1
  intro z2 z3 z4 v_place v_turns v_madeInAll v_dots v_knows v_made v_stands v_used hf H locs ls hP hD hS hl
  replace hf : bd_ (f_X7_makePricks fu z2 v_shut v_madeInAll v_dots v_knows v_made v_stands v_used v_p1_secrets v_p1_pages v_p1_letters v_p1_room v_p1_speed) (fun (z : Int32 × (Nat → Int32) × (Nat → Int32) × (Nat → Int32) × (Nat → Int32)) => match z with | (u1, u2, u3, u4, u5) => gi_ z2 8 ((if (v_knows (z2).toNatClampNeg) = z3 then (if u1 = z4 then some ((nI 0), v_place, v_turns, u1, u2, v_knows, u3, u4, u5) else some ((nI 1), v_place, v_turns, u1, u2, v_knows, u3, u4, u5)) else some ((nI 1), v_place, v_turns, u1, u2, v_knows, u3, u4, u5)))) = some (r_, o_place, o_turns, o_madeInAll, o_dots, o_knows, o_made, o_stands, o_used) := hf
  refine lv_aload_n hx hb dX7_pass_77 rfl (lv_at hl 0 rfl) ?_
  refine lv_aload_n hx hb dX7_pass_78 rfl (lv_at hl 1 rfl) ?_
  refine lv_iload_n hx hb dX7_pass_79 rfl (lv_at hl 2 rfl) ?_
  obtain ⟨⟨u1, u2, u3, u4, u5⟩, c6, hf⟩ := bd_of hf
  dsimp only at hf
  have hPc := hP.sub (ws' := (k_X7_makePricks T a_ a_order a_knows a_made a_sixteenths a_dots a_used a_stands a_p1 a_p1_cellNames a_p1_secretNames a_p1_pageNames a_p1_speed a_p1_letters a_p1_room a_p1_now a_p1_rounds v_inOrder v_place v_ill v_shut v_turns v_madeInAll v_dots v_knows v_made v_stands v_used v_p1_cells v_p1_secrets v_p1_pages v_p1_blind v_p1_rubs v_p1_letters v_p1_room v_p1_speed)) [0, 1, 2, 3, 5, 6, 7, 8, 9, 10] rfl
  have hDc := (mp_D_of (w1 := (k_X7_pass T a_ a_order a_knows a_made a_sixteenths a_dots a_used a_stands a_p1 a_p1_cellNames a_p1_secretNames a_p1_pageNames a_p1_speed a_p1_letters a_p1_room a_p1_now a_p1_rounds v_inOrder v_place v_ill v_shut v_turns v_madeInAll v_dots v_knows v_made v_order v_stands v_used v_p1_cells v_p1_secrets v_p1_pages v_p1_blind v_p1_rubs v_p1_letters v_p1_room v_p1_speed)) hD rfl).sub (ws' := (k_X7_makePricks T a_ a_order a_knows a_made a_sixteenths a_dots a_used a_stands a_p1 a_p1_cellNames a_p1_secretNames a_p1_pageNames a_p1_speed a_p1_letters a_p1_room a_p1_now a_p1_rounds v_inOrder v_place v_ill v_shut v_turns v_madeInAll v_dots v_knows v_made v_stands v_used v_p1_cells v_p1_secrets v_p1_pages v_p1_blind v_p1_rubs v_p1_letters v_p1_room v_p1_speed)) [0, 1, 2, 3, 5, 6, 7, 8, 9, 10] rfl rfl
  refine mp_callv2 (isC := [0, 1, 2, 3, 5, 6, 7, 8, 9, 10]) (isO := [4]) (wc := (k_X7_makePricks T a_ a_order a_knows a_made a_sixteenths a_dots a_used a_stands a_p1 a_p1_cellNames a_p1_secretNames a_p1_pageNames a_p1_speed a_p1_letters a_p1_room a_p1_now a_p1_rounds v_inOrder v_place v_ill v_shut v_turns v_madeInAll v_dots v_knows v_made v_stands v_used v_p1_cells v_p1_secrets v_p1_pages v_p1_blind v_p1_rubs v_p1_letters v_p1_room v_p1_speed)) (w1 := (k_X7_makePricks T a_ a_order a_knows a_made a_sixteenths a_dots a_used a_stands a_p1 a_p1_cellNames a_p1_secretNames a_p1_pageNames a_p1_speed a_p1_letters a_p1_room a_p1_now a_p1_rounds v_inOrder v_place v_ill v_shut v_turns u1 u2 v_knows u3 u4 u5 v_p1_cells v_p1_secrets v_p1_pages v_p1_blind v_p1_rubs v_p1_letters v_p1_room v_p1_speed)) (wo := [(a_order, mp_aI T 8 v_order)]) (w2 := (k_X7_pass T a_ a_order a_knows a_made a_sixteenths a_dots a_used a_stands a_p1 a_p1_cellNames a_p1_secretNames a_p1_pageNames a_p1_speed a_p1_letters a_p1_room a_p1_now a_p1_rounds v_inOrder v_place v_ill v_shut v_turns u1 u2 v_knows u3 v_order u4 u5 v_p1_cells v_p1_secrets v_p1_pages v_p1_blind v_p1_rubs v_p1_letters v_p1_room v_p1_speed)) (n := 11) hP (mp_D_of hD rfl) hS hA rfl rfl rfl rfl rfl rfl (by decide +kernel) (mp_runV (As := [.ref a_p1, .int z2]) (rest := []) X me_X7_makePricks lk_X7_98 (c_X7_makePricks l D T fu a_ a_order a_knows a_made a_sixteenths a_dots a_used a_stands a_p1 a_p1_cellNames a_p1_secretNames a_p1_pageNames a_p1_speed a_p1_letters a_p1_room a_p1_now a_p1_rounds z2 v_inOrder v_place v_ill v_turns v_p1_cells v_p1_blind v_p1_rubs v_shut v_madeInAll v_dots v_knows v_made v_stands v_used v_p1_secrets v_p1_pages v_p1_letters v_p1_room v_p1_speed u1 u2 u3 u4 u5 c6) rfl rfl ⟨(Nat.le_of_ble_eq_true rfl), (Nat.le_of_ble_eq_true rfl)⟩ hK hPc hDc rfl rfl rfl rfl hl.1 rfl (Nat.le_of_ble_eq_true rfl) dX7_pass_80 ⟨Nat.zero_le _, Nat.zero_le _⟩) (fun H locs hP _ hS => ?_)
  refine lv_aload_n hx hb dX7_pass_83 rfl (lv_at hl 0 rfl) ?_
  refine mp_get X fl_X7_22 hK hP 0 rfl rfl dX7_pass_84 ?_
  refine lv_iload_n hx hb dX7_pass_87 rfl (lv_at hl 2 rfl) ?_
  obtain ⟨h7, hf⟩ := gi_of hf
  refine va_iald hx hb hK hP 2 0 rfl rfl h7 dX7_pass_88 ?_
  refine lv_iload_n hx hb dX7_pass_89 rfl (lv_at hl 3 rfl) ?_
  refine lv_icmp_ne (tgt := 102) hx hb dX7_pass_90 (by decide) (fun h8 => ?_) (fun h8 => ?_)
  · replace hf := if_f hf h8
    refine lv_iconst (v := (nI 1)) hx hb dX7_pass_102 (by decide) ?_
    refine lv_goto (tgt := 107) hx hb dX7_pass_103 (by decide) ?_
    cases hf
    exact mp_retz X hP hS rfl (Or.inr rfl) dX7_pass_107
  · replace hf := if_t hf h8
    refine lv_aload_n hx hb dX7_pass_93 rfl (lv_at hl 0 rfl) ?_
    refine mp_get X fl_X7_49 hK hP 0 rfl rfl dX7_pass_94 ?_
    refine lv_iload hx hb dX7_pass_97 (lv_at hl 4 rfl) ?_
    refine lv_icmp_eq (tgt := 106) hx hb dX7_pass_99 (by decide) (fun h9 => ?_) (fun h9 => ?_)
    · replace hf := if_t hf h9
      refine lv_iconst (v := (nI 0)) hx hb dX7_pass_106 (by decide) ?_
      cases hf
      exact mp_retz X hP hS rfl (Or.inl rfl) dX7_pass_107
    · replace hf := if_f hf h9
      refine lv_iconst (v := (nI 1)) hx hb dX7_pass_102 (by decide) ?_
      refine lv_goto (tgt := 107) hx hb dX7_pass_103 (by decide) ?_
      cases hf
      exact mp_retz X hP hS rfl (Or.inr rfl) dX7_pass_107

set_option maxHeartbeats 4000000 in
set_option maxRecDepth 100000 in
theorem c_X7_pass (l : Launch) (D : va_G) (T : Nat → ClassId) (fu : Nat) (a_ a_order a_knows a_made a_sixteenths a_dots a_used a_stands a_p1 a_p1_cellNames a_p1_secretNames a_p1_pageNames a_p1_speed a_p1_letters a_p1_room a_p1_now a_p1_rounds : Nat) (v_p1_cells : Int32) (v_inOrder : Int32) (v_place : Int32) (v_ill : Int32) (v_shut : Int32) (v_turns : Int32) (v_madeInAll : Int32) (v_dots : (Nat → Int32)) (v_knows : (Nat → Int32)) (v_made : (Nat → Int32)) (v_order : (Nat → Int32)) (v_stands : (Nat → Int32)) (v_used : (Nat → Int32)) (v_p1_secrets : Int32) (v_p1_pages : Int32) (v_p1_blind : Int32) (v_p1_rubs : Int32) (v_p1_letters : (Nat → Int32)) (v_p1_room : (Nat → Int32)) (v_p1_speed : (Nat → Int32)) (r_ : Int32) (o_place : Int32) (o_turns : Int32) (o_madeInAll : Int32) (o_dots : (Nat → Int32)) (o_knows : (Nat → Int32)) (o_made : (Nat → Int32)) (o_stands : (Nat → Int32)) (o_used : (Nat → Int32)) (hf : f_X7_pass fu v_inOrder v_place v_ill v_shut v_turns v_madeInAll v_dots v_knows v_made v_order v_stands v_used v_p1_secrets v_p1_pages v_p1_blind v_p1_rubs v_p1_letters v_p1_room v_p1_speed = some (r_, o_place, o_turns, o_madeInAll, o_dots, o_knows, o_made, o_stands, o_used)) :
    mp_M l D T yX7_pass cX7_pass 5 (some .boolean) ({ frames := 3, cells := 0, slots := 0, locals := 93 }) 0 0 [.ref a_, .ref a_p1] (k_X7_pass T a_ a_order a_knows a_made a_sixteenths a_dots a_used a_stands a_p1 a_p1_cellNames a_p1_secretNames a_p1_pageNames a_p1_speed a_p1_letters a_p1_room a_p1_now a_p1_rounds v_inOrder v_place v_ill v_shut v_turns v_madeInAll v_dots v_knows v_made v_order v_stands v_used v_p1_cells v_p1_secrets v_p1_pages v_p1_blind v_p1_rubs v_p1_letters v_p1_room v_p1_speed) (mp_Qi D r_ (k_X7_pass T a_ a_order a_knows a_made a_sixteenths a_dots a_used a_stands a_p1 a_p1_cellNames a_p1_secretNames a_p1_pageNames a_p1_speed a_p1_letters a_p1_room a_p1_now a_p1_rounds v_inOrder o_place v_ill v_shut o_turns o_madeInAll o_dots o_knows o_made v_order o_stands o_used v_p1_cells v_p1_secrets v_p1_pages v_p1_blind v_p1_rubs v_p1_letters v_p1_room v_p1_speed)) := by
  refine mp_of (by decide) (Nat.le_of_ble_eq_true rfl) rfl ?_
  intro p e s m args below meth c A ls X hK hP hD hS hA hl
  replace X : mp_X p s m meth c args RX7 "pass" cX7_pass 5 (some .boolean) := X
  have hx := X.1
  have hb := X.2.1
  have hml := X.2.2.1
  have hown := X.2.2.2.2.1
  have hts := X.2.2.2.2.2.1
  replace hl : lv_has ls 5 [(0, .ref a_), (1, .ref a_p1)] := hl
  replace hf : lt_ (v_turns + (nI 1)) (fun (y1 : Int32) => bd_ (f_X7_goOn fu v_inOrder v_place v_ill v_order) (fun (z : Int32 × Int32) => match z with | (r2, u3) => (if r2 = (-1 : Int32) then some ((nI 0), u3, y1, v_madeInAll, v_dots, v_knows, v_made, v_stands, v_used) else gi_ r2 8 (lt_ (v_knows (r2).toNatClampNeg) (fun (y7 : Int32) => bd_ (f_X7_has v_p1_blind r2) (fun (r8 : Int32) => (if r8 = 0 then gi_ r2 8 (bd_ (f_X7_standingInAll fu v_shut v_stands v_p1_pages) (fun (r12 : Int32) => lt_ ((v_knows (r2).toNatClampNeg) ||| r12) (fun (y14 : Int32) => gi_ r2 8 (bd_ (f_X7_has v_p1_rubs r2) (fun (r16 : Int32) => (if r16 = 0 then f_X7_pass_77 fu v_inOrder v_ill v_shut v_order v_p1_secrets v_p1_pages v_p1_blind v_p1_rubs v_p1_letters v_p1_room v_p1_speed  r2 y7 v_madeInAll u3 y1 v_madeInAll v_dots (upd v_knows (r2).toNatClampNeg y14) v_made v_stands v_used else bd_ (f_X7_eraseFirstNew fu y7 v_shut v_dots v_stands v_used v_p1_secrets v_p1_pages) (fun (z : (Nat → Int32) × (Nat → Int32) × (Nat → Int32)) => match z with | (u19, u20, u21) => f_X7_pass_77 fu v_inOrder v_ill v_shut v_order v_p1_secrets v_p1_pages v_p1_blind v_p1_rubs v_p1_letters v_p1_room v_p1_speed  r2 y7 v_madeInAll u3 y1 v_madeInAll u19 (upd v_knows (r2).toNatClampNeg y14) v_made u20 u21))))))) else f_X7_pass_77 fu v_inOrder v_ill v_shut v_order v_p1_secrets v_p1_pages v_p1_blind v_p1_rubs v_p1_letters v_p1_room v_p1_speed  r2 y7 v_madeInAll u3 y1 v_madeInAll v_dots v_knows v_made v_stands v_used))))))) = some (r_, o_place, o_turns, o_madeInAll, o_dots, o_knows, o_made, o_stands, o_used) := hf
  refine lv_aload_n hx hb dX7_pass_0 rfl (lv_at hl 0 rfl) ?_
  refine lv_dup hx hb dX7_pass_1 rfl ?_
  refine mp_get X fl_X7_46 hK hP 0 rfl rfl dX7_pass_2 ?_
  refine lv_iconst (v := (nI 1)) hx hb dX7_pass_5 (by decide) ?_
  refine lv_iadd hx hb dX7_pass_6 ?_
  refine lv_topi (fun y1 e1 => ?_)
  replace hf := lt_of e1 hf
  refine mp_putf X fl_X7_46 fp_X7 rfl hK hP (mp_D_of hD rfl) hS 0 rfl rfl rfl (Nat.le_of_ble_eq_true rfl) dX7_pass_7 (fun H locs hP _ hS => ?_)
  replace hP : va_P D mp_cl (k_X7_pass T a_ a_order a_knows a_made a_sixteenths a_dots a_used a_stands a_p1 a_p1_cellNames a_p1_secretNames a_p1_pageNames a_p1_speed a_p1_letters a_p1_room a_p1_now a_p1_rounds v_inOrder v_place v_ill v_shut y1 v_madeInAll v_dots v_knows v_made v_order v_stands v_used v_p1_cells v_p1_secrets v_p1_pages v_p1_blind v_p1_rubs v_p1_letters v_p1_room v_p1_speed) H := hP
  refine lv_aload_n hx hb dX7_pass_10 rfl (lv_at hl 0 rfl) ?_
  obtain ⟨⟨r2, u3⟩, c4, hf⟩ := bd_of hf
  dsimp only at hf
  have hPc := hP.sub (ws' := (k_X7_goOn T a_ a_order a_knows a_made a_sixteenths a_dots a_used a_stands v_inOrder v_place v_ill v_shut y1 v_madeInAll v_order)) [0, 4] rfl
  have hDc := (mp_D_of (w1 := (k_X7_pass T a_ a_order a_knows a_made a_sixteenths a_dots a_used a_stands a_p1 a_p1_cellNames a_p1_secretNames a_p1_pageNames a_p1_speed a_p1_letters a_p1_room a_p1_now a_p1_rounds v_inOrder v_place v_ill v_shut y1 v_madeInAll v_dots v_knows v_made v_order v_stands v_used v_p1_cells v_p1_secrets v_p1_pages v_p1_blind v_p1_rubs v_p1_letters v_p1_room v_p1_speed)) hD rfl).sub (ws' := (k_X7_goOn T a_ a_order a_knows a_made a_sixteenths a_dots a_used a_stands v_inOrder v_place v_ill v_shut y1 v_madeInAll v_order)) [0, 4] rfl rfl
  refine mp_calli (isC := [0, 4]) (wc := (k_X7_goOn T a_ a_order a_knows a_made a_sixteenths a_dots a_used a_stands v_inOrder v_place v_ill v_shut y1 v_madeInAll v_order)) (w1 := (k_X7_goOn T a_ a_order a_knows a_made a_sixteenths a_dots a_used a_stands v_inOrder u3 v_ill v_shut y1 v_madeInAll v_order)) hP (mp_D_of hD rfl) hS hA rfl rfl (mp_runV (As := []) (rest := []) X me_X7_goOn lk_X7_81 (c_X7_goOn l D T fu a_ a_order a_knows a_made a_sixteenths a_dots a_used a_stands v_shut y1 v_madeInAll v_inOrder v_place v_ill v_order r2 u3 c4) rfl rfl ⟨(Nat.le_of_ble_eq_true rfl), (Nat.le_of_ble_eq_true rfl)⟩ hK hPc hDc rfl rfl rfl rfl hl.1 rfl (Nat.le_of_ble_eq_true rfl) dX7_pass_11 ⟨Nat.zero_le _, Nat.zero_le _⟩) (fun H locs hP _ hS => ?_)
  replace hP : va_P D mp_cl (k_X7_pass T a_ a_order a_knows a_made a_sixteenths a_dots a_used a_stands a_p1 a_p1_cellNames a_p1_secretNames a_p1_pageNames a_p1_speed a_p1_letters a_p1_room a_p1_now a_p1_rounds v_inOrder u3 v_ill v_shut y1 v_madeInAll v_dots v_knows v_made v_order v_stands v_used v_p1_cells v_p1_secrets v_p1_pages v_p1_blind v_p1_rubs v_p1_letters v_p1_room v_p1_speed) H := hP
  refine lv_istore_n (lv' := [(2, .int r2), (0, .ref a_), (1, .ref a_p1)]) hx hb dX7_pass_14 rfl hl (by decide) rfl (fun ls hl => ?_)
  refine lv_iload_n hx hb dX7_pass_15 rfl (lv_at hl 0 rfl) ?_
  refine lv_iconst (v := (-1 : Int32)) hx hb dX7_pass_16 (by decide) ?_
  refine lv_icmp_ne (tgt := 22) hx hb dX7_pass_17 (by decide) (fun h5 => ?_) (fun h5 => ?_)
  · replace hf := if_f hf h5
    refine lv_aload_n hx hb dX7_pass_22 rfl (lv_at hl 1 rfl) ?_
    refine mp_get X fl_X7_22 hK hP 0 rfl rfl dX7_pass_23 ?_
    refine lv_iload_n hx hb dX7_pass_26 rfl (lv_at hl 0 rfl) ?_
    obtain ⟨h6, hf⟩ := gi_of hf
    refine va_iald hx hb hK hP 2 0 rfl rfl h6 dX7_pass_27 ?_
    refine lv_topi (fun y7 e7 => ?_)
    replace hf := lt_of e7 hf
    refine lv_istore_n (lv' := [(3, .int y7), (2, .int r2), (0, .ref a_), (1, .ref a_p1)]) hx hb dX7_pass_28 rfl hl (by decide) rfl (fun ls hl => ?_)
    refine lv_aload_n hx hb dX7_pass_29 rfl (lv_at hl 2 rfl) ?_
    refine mp_get X fl_X7_49 hK hP 0 rfl rfl dX7_pass_30 ?_
    refine lv_istore (lv' := [(4, .int v_madeInAll), (3, .int y7), (2, .int r2), (0, .ref a_), (1, .ref a_p1)]) hx hb dX7_pass_33 hl (by decide) rfl (fun ls hl => ?_)
    refine lv_aload_n hx hb dX7_pass_35 rfl (lv_at hl 4 rfl) ?_
    refine mp_get X fl_X7_84 hK hP 7 rfl rfl dX7_pass_36 ?_
    refine lv_iload_n hx hb dX7_pass_39 rfl (lv_at hl 2 rfl) ?_
    obtain ⟨r8, c9, hf⟩ := bd_of hf
    have hPc := hP.sub (ws' := (k_X7_has T )) [] rfl
    have hDc := (mp_D_of (w1 := (k_X7_pass T a_ a_order a_knows a_made a_sixteenths a_dots a_used a_stands a_p1 a_p1_cellNames a_p1_secretNames a_p1_pageNames a_p1_speed a_p1_letters a_p1_room a_p1_now a_p1_rounds v_inOrder u3 v_ill v_shut y1 v_madeInAll v_dots v_knows v_made v_order v_stands v_used v_p1_cells v_p1_secrets v_p1_pages v_p1_blind v_p1_rubs v_p1_letters v_p1_room v_p1_speed)) hD rfl).sub (ws' := (k_X7_has T )) [] rfl rfl
    refine mp_calli (isC := []) (wc := (k_X7_has T )) (w1 := (k_X7_has T )) hP (mp_D_of hD rfl) hS hA rfl rfl (mp_runS (As := [.int v_p1_blind, .int r2]) (rest := []) X me_X7_has lk_X7_64 (c_X7_has l D T v_p1_blind r2 r8 c9) rfl rfl ⟨(Nat.le_of_ble_eq_true rfl), (Nat.le_of_ble_eq_true rfl)⟩ hK hPc hDc rfl hl.1 rfl (Nat.le_of_ble_eq_true rfl) dX7_pass_40 ⟨Nat.zero_le _, Nat.zero_le _⟩) (fun H locs hP _ hS => ?_)
    replace hP : va_P D mp_cl (k_X7_pass T a_ a_order a_knows a_made a_sixteenths a_dots a_used a_stands a_p1 a_p1_cellNames a_p1_secretNames a_p1_pageNames a_p1_speed a_p1_letters a_p1_room a_p1_now a_p1_rounds v_inOrder u3 v_ill v_shut y1 v_madeInAll v_dots v_knows v_made v_order v_stands v_used v_p1_cells v_p1_secrets v_p1_pages v_p1_blind v_p1_rubs v_p1_letters v_p1_room v_p1_speed) H := hP
    refine lv_if_ne (tgt := 77) hx hb dX7_pass_43 (by decide) (fun h10 => ?_) (fun h10 => ?_)
    · replace hf := if_f hf h10
      exact w_X7_pass_77 X hK hA  fu a_ a_order a_knows a_made a_sixteenths a_dots a_used a_stands a_p1 a_p1_cellNames a_p1_secretNames a_p1_pageNames a_p1_speed a_p1_letters a_p1_room a_p1_now a_p1_rounds v_p1_cells v_inOrder v_ill v_shut v_order v_p1_secrets v_p1_pages v_p1_blind v_p1_rubs v_p1_letters v_p1_room v_p1_speed r_ o_place o_turns o_madeInAll o_dots o_knows o_made o_stands o_used   r2 y7 v_madeInAll u3 y1 v_madeInAll v_dots v_knows v_made v_stands v_used hf _ _ _ hP (mp_D_of hD rfl) hS (lv_sub hl [3, 4, 2, 1, 0] rfl)
    · replace hf := if_t hf h10
      refine lv_aload_n hx hb dX7_pass_46 rfl (lv_at hl 3 rfl) ?_
      refine mp_get X fl_X7_22 hK hP 0 rfl rfl dX7_pass_47 ?_
      refine lv_iload_n hx hb dX7_pass_50 rfl (lv_at hl 2 rfl) ?_
      refine lv_dup2_11 hx hb dX7_pass_51 rfl rfl ?_
      obtain ⟨h11, hf⟩ := gi_of hf
      refine va_iald hx hb hK hP 2 0 rfl rfl h11 dX7_pass_52 ?_
      refine lv_aload_n hx hb dX7_pass_53 rfl (lv_at hl 3 rfl) ?_
      refine lv_aload_n hx hb dX7_pass_54 rfl (lv_at hl 4 rfl) ?_
      obtain ⟨r12, c13, hf⟩ := bd_of hf
      have hPc := hP.sub (ws' := (k_X7_standingInAll T a_ a_order a_knows a_made a_sixteenths a_dots a_used a_stands a_p1 a_p1_cellNames a_p1_secretNames a_p1_pageNames a_p1_speed a_p1_letters a_p1_room a_p1_now a_p1_rounds v_inOrder u3 v_ill v_shut y1 v_madeInAll v_stands v_p1_cells v_p1_secrets v_p1_pages v_p1_blind v_p1_rubs)) [0, 5, 7] rfl
      have hDc := (mp_D_of (w1 := (k_X7_pass T a_ a_order a_knows a_made a_sixteenths a_dots a_used a_stands a_p1 a_p1_cellNames a_p1_secretNames a_p1_pageNames a_p1_speed a_p1_letters a_p1_room a_p1_now a_p1_rounds v_inOrder u3 v_ill v_shut y1 v_madeInAll v_dots v_knows v_made v_order v_stands v_used v_p1_cells v_p1_secrets v_p1_pages v_p1_blind v_p1_rubs v_p1_letters v_p1_room v_p1_speed)) hD rfl).sub (ws' := (k_X7_standingInAll T a_ a_order a_knows a_made a_sixteenths a_dots a_used a_stands a_p1 a_p1_cellNames a_p1_secretNames a_p1_pageNames a_p1_speed a_p1_letters a_p1_room a_p1_now a_p1_rounds v_inOrder u3 v_ill v_shut y1 v_madeInAll v_stands v_p1_cells v_p1_secrets v_p1_pages v_p1_blind v_p1_rubs)) [0, 5, 7] rfl rfl
      refine mp_calli (isC := [0, 5, 7]) (wc := (k_X7_standingInAll T a_ a_order a_knows a_made a_sixteenths a_dots a_used a_stands a_p1 a_p1_cellNames a_p1_secretNames a_p1_pageNames a_p1_speed a_p1_letters a_p1_room a_p1_now a_p1_rounds v_inOrder u3 v_ill v_shut y1 v_madeInAll v_stands v_p1_cells v_p1_secrets v_p1_pages v_p1_blind v_p1_rubs)) (w1 := (k_X7_standingInAll T a_ a_order a_knows a_made a_sixteenths a_dots a_used a_stands a_p1 a_p1_cellNames a_p1_secretNames a_p1_pageNames a_p1_speed a_p1_letters a_p1_room a_p1_now a_p1_rounds v_inOrder u3 v_ill v_shut y1 v_madeInAll v_stands v_p1_cells v_p1_secrets v_p1_pages v_p1_blind v_p1_rubs)) hP (mp_D_of hD rfl) hS hA rfl rfl (mp_runV (As := [.ref a_p1]) (rest := [.int (v_knows (r2).toNatClampNeg), .int r2, .ref a_knows]) X me_X7_standingInAll lk_X7_87 (c_X7_standingInAll l D T fu a_ a_order a_knows a_made a_sixteenths a_dots a_used a_stands a_p1 a_p1_cellNames a_p1_secretNames a_p1_pageNames a_p1_speed a_p1_letters a_p1_room a_p1_now a_p1_rounds v_inOrder u3 v_ill y1 v_madeInAll v_p1_cells v_p1_secrets v_p1_blind v_p1_rubs v_shut v_stands v_p1_pages r12 c13) rfl rfl ⟨(Nat.le_of_ble_eq_true rfl), (Nat.le_of_ble_eq_true rfl)⟩ hK hPc hDc rfl rfl rfl rfl hl.1 rfl (Nat.le_of_ble_eq_true rfl) dX7_pass_55 ⟨Nat.zero_le _, Nat.zero_le _⟩) (fun H locs hP _ hS => ?_)
      replace hP : va_P D mp_cl (k_X7_pass T a_ a_order a_knows a_made a_sixteenths a_dots a_used a_stands a_p1 a_p1_cellNames a_p1_secretNames a_p1_pageNames a_p1_speed a_p1_letters a_p1_room a_p1_now a_p1_rounds v_inOrder u3 v_ill v_shut y1 v_madeInAll v_dots v_knows v_made v_order v_stands v_used v_p1_cells v_p1_secrets v_p1_pages v_p1_blind v_p1_rubs v_p1_letters v_p1_room v_p1_speed) H := hP
      refine lv_ior hx hb dX7_pass_58 ?_
      refine lv_topi (fun y14 e14 => ?_)
      replace hf := lt_of e14 hf
      obtain ⟨h15, hf⟩ := gi_of hf
      refine va_iast hx hb hK hP (mp_D_of hD rfl) hS 2 0 rfl rfl h15 dX7_pass_59 (fun H locs hP _ hS => ?_)
      replace hP : va_P D mp_cl (k_X7_pass T a_ a_order a_knows a_made a_sixteenths a_dots a_used a_stands a_p1 a_p1_cellNames a_p1_secretNames a_p1_pageNames a_p1_speed a_p1_letters a_p1_room a_p1_now a_p1_rounds v_inOrder u3 v_ill v_shut y1 v_madeInAll v_dots (upd v_knows (r2).toNatClampNeg y14) v_made v_order v_stands v_used v_p1_cells v_p1_secrets v_p1_pages v_p1_blind v_p1_rubs v_p1_letters v_p1_room v_p1_speed) H := hP
      refine lv_aload_n hx hb dX7_pass_60 rfl (lv_at hl 4 rfl) ?_
      refine mp_get X fl_X7_91 hK hP 7 rfl rfl dX7_pass_61 ?_
      refine lv_iload_n hx hb dX7_pass_64 rfl (lv_at hl 2 rfl) ?_
      obtain ⟨r16, c17, hf⟩ := bd_of hf
      have hPc := hP.sub (ws' := (k_X7_has T )) [] rfl
      have hDc := (mp_D_of (w1 := (k_X7_pass T a_ a_order a_knows a_made a_sixteenths a_dots a_used a_stands a_p1 a_p1_cellNames a_p1_secretNames a_p1_pageNames a_p1_speed a_p1_letters a_p1_room a_p1_now a_p1_rounds v_inOrder u3 v_ill v_shut y1 v_madeInAll v_dots (upd v_knows (r2).toNatClampNeg y14) v_made v_order v_stands v_used v_p1_cells v_p1_secrets v_p1_pages v_p1_blind v_p1_rubs v_p1_letters v_p1_room v_p1_speed)) hD rfl).sub (ws' := (k_X7_has T )) [] rfl rfl
      refine mp_calli (isC := []) (wc := (k_X7_has T )) (w1 := (k_X7_has T )) hP (mp_D_of hD rfl) hS hA rfl rfl (mp_runS (As := [.int v_p1_rubs, .int r2]) (rest := []) X me_X7_has lk_X7_64 (c_X7_has l D T v_p1_rubs r2 r16 c17) rfl rfl ⟨(Nat.le_of_ble_eq_true rfl), (Nat.le_of_ble_eq_true rfl)⟩ hK hPc hDc rfl hl.1 rfl (Nat.le_of_ble_eq_true rfl) dX7_pass_65 ⟨Nat.zero_le _, Nat.zero_le _⟩) (fun H locs hP _ hS => ?_)
      replace hP : va_P D mp_cl (k_X7_pass T a_ a_order a_knows a_made a_sixteenths a_dots a_used a_stands a_p1 a_p1_cellNames a_p1_secretNames a_p1_pageNames a_p1_speed a_p1_letters a_p1_room a_p1_now a_p1_rounds v_inOrder u3 v_ill v_shut y1 v_madeInAll v_dots (upd v_knows (r2).toNatClampNeg y14) v_made v_order v_stands v_used v_p1_cells v_p1_secrets v_p1_pages v_p1_blind v_p1_rubs v_p1_letters v_p1_room v_p1_speed) H := hP
      refine lv_if_eq (tgt := 77) hx hb dX7_pass_68 (by decide) (fun h18 => ?_) (fun h18 => ?_)
      · replace hf := if_t hf h18
        exact w_X7_pass_77 X hK hA  fu a_ a_order a_knows a_made a_sixteenths a_dots a_used a_stands a_p1 a_p1_cellNames a_p1_secretNames a_p1_pageNames a_p1_speed a_p1_letters a_p1_room a_p1_now a_p1_rounds v_p1_cells v_inOrder v_ill v_shut v_order v_p1_secrets v_p1_pages v_p1_blind v_p1_rubs v_p1_letters v_p1_room v_p1_speed r_ o_place o_turns o_madeInAll o_dots o_knows o_made o_stands o_used   r2 y7 v_madeInAll u3 y1 v_madeInAll v_dots (upd v_knows (r2).toNatClampNeg y14) v_made v_stands v_used hf _ _ _ hP (mp_D_of hD rfl) hS (lv_sub hl [3, 4, 2, 1, 0] rfl)
      · replace hf := if_f hf h18
        refine lv_aload_n hx hb dX7_pass_71 rfl (lv_at hl 3 rfl) ?_
        refine lv_aload_n hx hb dX7_pass_72 rfl (lv_at hl 4 rfl) ?_
        refine lv_iload_n hx hb dX7_pass_73 rfl (lv_at hl 1 rfl) ?_
        obtain ⟨⟨u19, u20, u21⟩, c22, hf⟩ := bd_of hf
        dsimp only at hf
        have hPc := hP.sub (ws' := (k_X7_eraseFirstNew T a_ a_order a_knows a_made a_sixteenths a_dots a_used a_stands a_p1 a_p1_cellNames a_p1_secretNames a_p1_pageNames a_p1_speed a_p1_letters a_p1_room a_p1_now a_p1_rounds v_inOrder u3 v_ill v_shut y1 v_madeInAll v_dots v_stands v_used v_p1_cells v_p1_secrets v_p1_pages v_p1_blind v_p1_rubs)) [0, 1, 5, 6, 7] rfl
        have hDc := (mp_D_of (w1 := (k_X7_pass T a_ a_order a_knows a_made a_sixteenths a_dots a_used a_stands a_p1 a_p1_cellNames a_p1_secretNames a_p1_pageNames a_p1_speed a_p1_letters a_p1_room a_p1_now a_p1_rounds v_inOrder u3 v_ill v_shut y1 v_madeInAll v_dots (upd v_knows (r2).toNatClampNeg y14) v_made v_order v_stands v_used v_p1_cells v_p1_secrets v_p1_pages v_p1_blind v_p1_rubs v_p1_letters v_p1_room v_p1_speed)) hD rfl).sub (ws' := (k_X7_eraseFirstNew T a_ a_order a_knows a_made a_sixteenths a_dots a_used a_stands a_p1 a_p1_cellNames a_p1_secretNames a_p1_pageNames a_p1_speed a_p1_letters a_p1_room a_p1_now a_p1_rounds v_inOrder u3 v_ill v_shut y1 v_madeInAll v_dots v_stands v_used v_p1_cells v_p1_secrets v_p1_pages v_p1_blind v_p1_rubs)) [0, 1, 5, 6, 7] rfl rfl
        refine mp_callv (isC := [0, 1, 5, 6, 7]) (wc := (k_X7_eraseFirstNew T a_ a_order a_knows a_made a_sixteenths a_dots a_used a_stands a_p1 a_p1_cellNames a_p1_secretNames a_p1_pageNames a_p1_speed a_p1_letters a_p1_room a_p1_now a_p1_rounds v_inOrder u3 v_ill v_shut y1 v_madeInAll v_dots v_stands v_used v_p1_cells v_p1_secrets v_p1_pages v_p1_blind v_p1_rubs)) (w1 := (k_X7_eraseFirstNew T a_ a_order a_knows a_made a_sixteenths a_dots a_used a_stands a_p1 a_p1_cellNames a_p1_secretNames a_p1_pageNames a_p1_speed a_p1_letters a_p1_room a_p1_now a_p1_rounds v_inOrder u3 v_ill v_shut y1 v_madeInAll u19 u20 u21 v_p1_cells v_p1_secrets v_p1_pages v_p1_blind v_p1_rubs)) hP (mp_D_of hD rfl) hS hA rfl rfl (mp_runV (As := [.ref a_p1, .int y7]) (rest := []) X me_X7_eraseFirstNew lk_X7_94 (c_X7_eraseFirstNew l D T fu a_ a_order a_knows a_made a_sixteenths a_dots a_used a_stands a_p1 a_p1_cellNames a_p1_secretNames a_p1_pageNames a_p1_speed a_p1_letters a_p1_room a_p1_now a_p1_rounds y7 v_inOrder u3 v_ill y1 v_madeInAll v_p1_cells v_p1_blind v_p1_rubs v_shut v_dots v_stands v_used v_p1_secrets v_p1_pages u19 u20 u21 c22) rfl rfl ⟨(Nat.le_of_ble_eq_true rfl), (Nat.le_of_ble_eq_true rfl)⟩ hK hPc hDc rfl rfl rfl rfl hl.1 rfl (Nat.le_of_ble_eq_true rfl) dX7_pass_74 ⟨Nat.zero_le _, Nat.zero_le _⟩) (fun H locs hP _ hS => ?_)
        replace hP : va_P D mp_cl (k_X7_pass T a_ a_order a_knows a_made a_sixteenths a_dots a_used a_stands a_p1 a_p1_cellNames a_p1_secretNames a_p1_pageNames a_p1_speed a_p1_letters a_p1_room a_p1_now a_p1_rounds v_inOrder u3 v_ill v_shut y1 v_madeInAll u19 (upd v_knows (r2).toNatClampNeg y14) v_made v_order u20 u21 v_p1_cells v_p1_secrets v_p1_pages v_p1_blind v_p1_rubs v_p1_letters v_p1_room v_p1_speed) H := hP
        exact w_X7_pass_77 X hK hA  fu a_ a_order a_knows a_made a_sixteenths a_dots a_used a_stands a_p1 a_p1_cellNames a_p1_secretNames a_p1_pageNames a_p1_speed a_p1_letters a_p1_room a_p1_now a_p1_rounds v_p1_cells v_inOrder v_ill v_shut v_order v_p1_secrets v_p1_pages v_p1_blind v_p1_rubs v_p1_letters v_p1_room v_p1_speed r_ o_place o_turns o_madeInAll o_dots o_knows o_made o_stands o_used   r2 y7 v_madeInAll u3 y1 v_madeInAll u19 (upd v_knows (r2).toNatClampNeg y14) v_made u20 u21 hf _ _ _ hP (mp_D_of hD rfl) hS (lv_sub hl [3, 4, 2, 1, 0] rfl)
  · replace hf := if_t hf h5
    refine lv_iconst (v := (nI 0)) hx hb dX7_pass_20 (by decide) ?_
    cases hf
    exact mp_retz X hP hS rfl (Or.inl rfl) dX7_pass_21


def k_X7_skip (T : Nat → ClassId) (a_ a_order a_knows a_made a_sixteenths a_dots a_used a_stands : Nat) (v_inOrder : Int32) (v_place : Int32) (v_ill : Int32) (v_shut : Int32) (v_turns : Int32) (v_madeInAll : Int32) (v_order : (Nat → Int32)) : va_W := [(a_, oX7 a_order v_inOrder v_place a_knows a_made a_sixteenths a_dots a_used a_stands v_ill v_shut v_turns v_madeInAll), (a_order, mp_aI T 8 v_order)]
set_option maxHeartbeats 4000000 in
set_option maxRecDepth 100000 in
theorem w_X7_skip_75 {p : Program} {l : Launch} {e : Env} {s : State} {m : MethodId} {args : Array Value} {below : List Frame} {meth : Method} {c : Code} {D : va_G} {T : Nat → ClassId} {A : Nat → Prop} (X : mp_X p s m meth c args RX7 "skip" cX7_skip 5 none) (hK : va_K D mp_cl (mp_ty T) s) (hA : ∀ q, s.heap.size ≤ q → A q) (fu : Nat) (a_ a_order a_knows a_made a_sixteenths a_dots a_used a_stands : Nat) (v_shut : Int32) (v_madeInAll : Int32) (v_inOrder : Int32) (v_ill : Int32) (v_order : (Nat → Int32)) (o_place : Int32) (o_turns : Int32) :
    ∀ (n : Nat) (z3 : Int32) (z4 : Int32) (v_place : Int32) (v_turns : Int32), f_X7_skip_75 fu v_inOrder v_ill v_order  n z3 z4 v_place v_turns = some (o_place, o_turns) → ∀ (H : Heap) (locs : List Loc) (ls : Array Slot), va_P D mp_cl (k_X7_skip T a_ a_order a_knows a_made a_sixteenths a_dots a_used a_stands v_inOrder v_place v_ill v_shut v_turns v_madeInAll v_order) H → va_D A (k_X7_skip T a_ a_order a_knows a_made a_sixteenths a_dots a_used a_stands v_inOrder v_place v_ill v_shut v_turns v_madeInAll v_order) → va_S A s.heap H locs → lv_has ls 5 [(0, .ref a_), (3, .int z3), (4, .int z4)] → W p l e ({ frames := 3, cells := 0, slots := 0, locals := 64 }) s m args below meth c H locs 0 0 (MQ below ((mp_Qv D (k_X7_skip T a_ a_order a_knows a_made a_sixteenths a_dots a_used a_stands v_inOrder o_place v_ill v_shut o_turns v_madeInAll v_order)) A) args s 0 0 A) (F0 m 75 ls []) := by
  have hx := X.1
  have hb := X.2.1
  have hml := X.2.2.1
  have hown := X.2.2.2.2.1
  have hts := X.2.2.2.2.2.1
  intro n
  induction n with
  | zero => intro z3 z4 v_place v_turns hf; exact absurd hf (by intro h; cases h)
  | succ n ih =>
    intro z3 z4 v_place v_turns hf H locs ls hP hD hS hl
    replace hf : (if z3 ≤ z4 then some (v_place, v_turns) else bd_ (f_X7_goOn fu v_inOrder v_place v_ill v_order) (fun (z : Int32 × Int32) => match z with | (r2, u3) => lt_ (z4 + (nI 1)) (fun (y5 : Int32) => f_X7_skip_75 fu v_inOrder v_ill v_order  n z3 y5 u3 v_turns))) = some (o_place, o_turns) := hf
    refine lv_iload hx hb dX7_skip_75 (lv_at hl 2 rfl) ?_
    refine lv_iload_n hx hb dX7_skip_77 rfl (lv_at hl 1 rfl) ?_
    refine lv_icmp_ge (tgt := 92) hx hb dX7_skip_78 (by decide) (fun h1 => ?_) (fun h1 => ?_)
    · replace hf := if_t hf h1
      cases hf
      exact mp_retv X hP hS dX7_skip_92
    · replace hf := if_f hf h1
      refine lv_aload_n hx hb dX7_skip_81 rfl (lv_at hl 0 rfl) ?_
      obtain ⟨⟨r2, u3⟩, c4, hf⟩ := bd_of hf
      dsimp only at hf
      have hPc := hP.sub (ws' := (k_X7_goOn T a_ a_order a_knows a_made a_sixteenths a_dots a_used a_stands v_inOrder v_place v_ill v_shut v_turns v_madeInAll v_order)) [0, 1] rfl
      have hDc := (mp_D_of (w1 := (k_X7_skip T a_ a_order a_knows a_made a_sixteenths a_dots a_used a_stands v_inOrder v_place v_ill v_shut v_turns v_madeInAll v_order)) hD rfl).sub (ws' := (k_X7_goOn T a_ a_order a_knows a_made a_sixteenths a_dots a_used a_stands v_inOrder v_place v_ill v_shut v_turns v_madeInAll v_order)) [0, 1] rfl rfl
      refine mp_calli (isC := [0, 1]) (wc := (k_X7_goOn T a_ a_order a_knows a_made a_sixteenths a_dots a_used a_stands v_inOrder v_place v_ill v_shut v_turns v_madeInAll v_order)) (w1 := (k_X7_goOn T a_ a_order a_knows a_made a_sixteenths a_dots a_used a_stands v_inOrder u3 v_ill v_shut v_turns v_madeInAll v_order)) hP (mp_D_of hD rfl) hS hA rfl rfl (mp_runV (As := []) (rest := []) X me_X7_goOn lk_X7_81 (c_X7_goOn l D T fu a_ a_order a_knows a_made a_sixteenths a_dots a_used a_stands v_shut v_turns v_madeInAll v_inOrder v_place v_ill v_order r2 u3 c4) rfl rfl ⟨(Nat.le_of_ble_eq_true rfl), (Nat.le_of_ble_eq_true rfl)⟩ hK hPc hDc rfl rfl rfl rfl hl.1 rfl (Nat.le_of_ble_eq_true rfl) dX7_skip_82 ⟨Nat.zero_le _, Nat.zero_le _⟩) (fun H locs hP _ hS => ?_)
      replace hP : va_P D mp_cl (k_X7_skip T a_ a_order a_knows a_made a_sixteenths a_dots a_used a_stands v_inOrder u3 v_ill v_shut v_turns v_madeInAll v_order) H := hP
      refine lv_pop hx hb dX7_skip_85 rfl ?_
      obtain ⟨y5, e5⟩ : ∃ y : Int32, y = z4 + (nI 1) := ⟨_, rfl⟩
      replace hf := lt_of e5 hf
      refine lv_iinc (v := y5) (lv' := [(4, .int y5), (0, .ref a_), (3, .int z3)]) hx hb dX7_skip_86 hl (k := 2) rfl (by rw [e5]; rfl) (by decide) rfl (fun ls hl => ?_)
      refine lv_goto (tgt := 75) hx hb dX7_skip_89 (by decide) ?_
      exact ih z3 y5 u3 v_turns hf _ _ _ hP (mp_D_of hD rfl) hS (lv_sub hl [1, 2, 0] rfl)

set_option maxHeartbeats 4000000 in
set_option maxRecDepth 100000 in
theorem w_X7_skip_4 {p : Program} {l : Launch} {e : Env} {s : State} {m : MethodId} {args : Array Value} {below : List Frame} {meth : Method} {c : Code} {D : va_G} {T : Nat → ClassId} {A : Nat → Prop} (X : mp_X p s m meth c args RX7 "skip" cX7_skip 5 none) (hK : va_K D mp_cl (mp_ty T) s) (hA : ∀ q, s.heap.size ≤ q → A q) (fu : Nat) (a_ a_order a_knows a_made a_sixteenths a_dots a_used a_stands : Nat) (v_shut : Int32) (v_madeInAll : Int32) (v_inOrder : Int32) (v_ill : Int32) (v_order : (Nat → Int32)) (o_place : Int32) (o_turns : Int32) :
    ∀ (n : Nat) (z1 : Int32) (z2 : Int32) (z3 : Int32) (v_place : Int32) (v_turns : Int32), f_X7_skip_4 fu v_inOrder v_ill v_order  n z1 z2 z3 v_place v_turns = some (o_place, o_turns) → ∀ (H : Heap) (locs : List Loc) (ls : Array Slot), va_P D mp_cl (k_X7_skip T a_ a_order a_knows a_made a_sixteenths a_dots a_used a_stands v_inOrder v_place v_ill v_shut v_turns v_madeInAll v_order) H → va_D A (k_X7_skip T a_ a_order a_knows a_made a_sixteenths a_dots a_used a_stands v_inOrder v_place v_ill v_shut v_turns v_madeInAll v_order) → va_S A s.heap H locs → lv_has ls 5 [(0, .ref a_), (1, .int z1), (2, .int z2), (3, .int z3)] → W p l e ({ frames := 3, cells := 0, slots := 0, locals := 64 }) s m args below meth c H locs 0 0 (MQ below ((mp_Qv D (k_X7_skip T a_ a_order a_knows a_made a_sixteenths a_dots a_used a_stands v_inOrder o_place v_ill v_shut o_turns v_madeInAll v_order)) A) args s 0 0 A) (F0 m 4 ls []) := by
  have hx := X.1
  have hb := X.2.1
  have hml := X.2.2.1
  have hown := X.2.2.2.2.1
  have hts := X.2.2.2.2.2.1
  intro n
  induction n with
  | zero => intro z1 z2 z3 v_place v_turns hf; exact absurd hf (by intro h; cases h)
  | succ n ih =>
    intro z1 z2 z3 v_place v_turns hf H locs ls hP hD hS hl
    replace hf : (if v_inOrder ≤ z3 then lt_ (v_turns + z1) (fun (y2 : Int32) => (if z1 ≤ 0 then f_X7_skip_75 fu v_inOrder v_ill v_order  fu (nI 0) (nI 0) v_place y2 else (if z2 ≤ 0 then f_X7_skip_75 fu v_inOrder v_ill v_order  fu (nI 0) (nI 0) v_place y2 else gd_ (¬ z2 = 0) (lt_ (((z1 - (nI 1)) - (z1 - (nI 1)) / z2 * z2) + (nI 1)) (fun (y6 : Int32) => f_X7_skip_75 fu v_inOrder v_ill v_order  fu y6 (nI 0) v_place y2))))) else gi_ z3 8 (bd_ (f_X7_has v_ill (v_order (z3).toNatClampNeg)) (fun (r8 : Int32) => (if r8 = 0 then lt_ (z2 + (nI 1)) (fun (y11 : Int32) => lt_ (z3 + (nI 1)) (fun (y12 : Int32) => f_X7_skip_4 fu v_inOrder v_ill v_order  n z1 y11 y12 v_place v_turns)) else lt_ (z2 + (nI 0)) (fun (y13 : Int32) => lt_ (z3 + (nI 1)) (fun (y14 : Int32) => f_X7_skip_4 fu v_inOrder v_ill v_order  n z1 y13 y14 v_place v_turns)))))) = some (o_place, o_turns) := hf
    refine lv_iload_n hx hb dX7_skip_4 rfl (lv_at hl 3 rfl) ?_
    refine lv_aload_n hx hb dX7_skip_5 rfl (lv_at hl 0 rfl) ?_
    refine mp_get X fl_X7_15 hK hP 0 rfl rfl dX7_skip_6 ?_
    refine lv_icmp_ge (tgt := 42) hx hb dX7_skip_9 (by decide) (fun h1 => ?_) (fun h1 => ?_)
    · replace hf := if_t hf h1
      refine lv_aload_n hx hb dX7_skip_42 rfl (lv_at hl 0 rfl) ?_
      refine lv_dup hx hb dX7_skip_43 rfl ?_
      refine mp_get X fl_X7_46 hK hP 0 rfl rfl dX7_skip_44 ?_
      refine lv_iload_n hx hb dX7_skip_47 rfl (lv_at hl 1 rfl) ?_
      refine lv_iadd hx hb dX7_skip_48 ?_
      refine lv_topi (fun y2 e2 => ?_)
      replace hf := lt_of e2 hf
      refine mp_putf X fl_X7_46 fp_X7 rfl hK hP (mp_D_of hD rfl) hS 0 rfl rfl rfl (Nat.le_of_ble_eq_true rfl) dX7_skip_49 (fun H locs hP _ hS => ?_)
      replace hP : va_P D mp_cl (k_X7_skip T a_ a_order a_knows a_made a_sixteenths a_dots a_used a_stands v_inOrder v_place v_ill v_shut y2 v_madeInAll v_order) H := hP
      refine lv_iload_n hx hb dX7_skip_52 rfl (lv_at hl 1 rfl) ?_
      refine lv_if_le (tgt := 70) hx hb dX7_skip_53 (by decide) (fun h3 => ?_) (fun h3 => ?_)
      · replace hf := if_t hf h3
        refine lv_iconst (v := (nI 0)) hx hb dX7_skip_70 (by decide) ?_
        refine lv_istore_n (lv' := [(3, .int (nI 0)), (0, .ref a_), (1, .int z1), (2, .int z2)]) hx hb dX7_skip_71 rfl hl (by decide) rfl (fun ls hl => ?_)
        refine lv_iconst (v := (nI 0)) hx hb dX7_skip_72 (by decide) ?_
        refine lv_istore (lv' := [(4, .int (nI 0)), (3, .int (nI 0)), (0, .ref a_), (1, .int z1), (2, .int z2)]) hx hb dX7_skip_73 hl (by decide) rfl (fun ls hl => ?_)
        exact w_X7_skip_75 X hK hA  fu a_ a_order a_knows a_made a_sixteenths a_dots a_used a_stands v_shut v_madeInAll v_inOrder v_ill v_order o_place o_turns   fu (nI 0) (nI 0) v_place y2 hf _ _ _ hP (mp_D_of hD rfl) hS (lv_sub hl [2, 1, 0] rfl)
      · replace hf := if_f hf h3
        refine lv_iload_n hx hb dX7_skip_56 rfl (lv_at hl 2 rfl) ?_
        refine lv_if_le (tgt := 70) hx hb dX7_skip_57 (by decide) (fun h4 => ?_) (fun h4 => ?_)
        · replace hf := if_t hf h4
          refine lv_iconst (v := (nI 0)) hx hb dX7_skip_70 (by decide) ?_
          refine lv_istore_n (lv' := [(3, .int (nI 0)), (0, .ref a_), (1, .int z1), (2, .int z2)]) hx hb dX7_skip_71 rfl hl (by decide) rfl (fun ls hl => ?_)
          refine lv_iconst (v := (nI 0)) hx hb dX7_skip_72 (by decide) ?_
          refine lv_istore (lv' := [(4, .int (nI 0)), (3, .int (nI 0)), (0, .ref a_), (1, .int z1), (2, .int z2)]) hx hb dX7_skip_73 hl (by decide) rfl (fun ls hl => ?_)
          exact w_X7_skip_75 X hK hA  fu a_ a_order a_knows a_made a_sixteenths a_dots a_used a_stands v_shut v_madeInAll v_inOrder v_ill v_order o_place o_turns   fu (nI 0) (nI 0) v_place y2 hf _ _ _ hP (mp_D_of hD rfl) hS (lv_sub hl [2, 1, 0] rfl)
        · replace hf := if_f hf h4
          refine lv_iload_n hx hb dX7_skip_60 rfl (lv_at hl 1 rfl) ?_
          refine lv_iconst (v := (nI 1)) hx hb dX7_skip_61 (by decide) ?_
          refine lv_isub hx hb dX7_skip_62 ?_
          refine lv_iload_n hx hb dX7_skip_63 rfl (lv_at hl 2 rfl) ?_
          obtain ⟨h5, hf⟩ := gd_of hf
          refine lv_irem hx hb dX7_skip_64 h5 ?_
          refine lv_iconst (v := (nI 1)) hx hb dX7_skip_65 (by decide) ?_
          refine lv_iadd hx hb dX7_skip_66 ?_
          refine lv_goto (tgt := 71) hx hb dX7_skip_67 (by decide) ?_
          refine lv_topi (fun y6 e6 => ?_)
          replace hf := lt_of e6 hf
          refine lv_istore_n (lv' := [(3, .int y6), (0, .ref a_), (1, .int z1), (2, .int z2)]) hx hb dX7_skip_71 rfl hl (by decide) rfl (fun ls hl => ?_)
          refine lv_iconst (v := (nI 0)) hx hb dX7_skip_72 (by decide) ?_
          refine lv_istore (lv' := [(4, .int (nI 0)), (3, .int y6), (0, .ref a_), (1, .int z1), (2, .int z2)]) hx hb dX7_skip_73 hl (by decide) rfl (fun ls hl => ?_)
          exact w_X7_skip_75 X hK hA  fu a_ a_order a_knows a_made a_sixteenths a_dots a_used a_stands v_shut v_madeInAll v_inOrder v_ill v_order o_place o_turns   fu y6 (nI 0) v_place y2 hf _ _ _ hP (mp_D_of hD rfl) hS (lv_sub hl [2, 1, 0] rfl)
    · replace hf := if_f hf h1
      refine lv_iload_n hx hb dX7_skip_12 rfl (lv_at hl 2 rfl) ?_
      refine lv_aload_n hx hb dX7_skip_13 rfl (lv_at hl 0 rfl) ?_
      refine mp_get X fl_X7_40 hK hP 0 rfl rfl dX7_skip_14 ?_
      refine lv_aload_n hx hb dX7_skip_17 rfl (lv_at hl 0 rfl) ?_
      refine mp_get X fl_X7_9 hK hP 0 rfl rfl dX7_skip_18 ?_
      refine lv_iload_n hx hb dX7_skip_21 rfl (lv_at hl 3 rfl) ?_
      obtain ⟨h7, hf⟩ := gi_of hf
      refine va_iald hx hb hK hP 1 0 rfl rfl h7 dX7_skip_22 ?_
      obtain ⟨r8, c9, hf⟩ := bd_of hf
      have hPc := hP.sub (ws' := (k_X7_has T )) [] rfl
      have hDc := (mp_D_of (w1 := (k_X7_skip T a_ a_order a_knows a_made a_sixteenths a_dots a_used a_stands v_inOrder v_place v_ill v_shut v_turns v_madeInAll v_order)) hD rfl).sub (ws' := (k_X7_has T )) [] rfl rfl
      refine mp_calli (isC := []) (wc := (k_X7_has T )) (w1 := (k_X7_has T )) hP (mp_D_of hD rfl) hS hA rfl rfl (mp_runS (As := [.int v_ill, .int (v_order (z3).toNatClampNeg)]) (rest := [.int z2]) X me_X7_has lk_X7_64 (c_X7_has l D T v_ill (v_order (z3).toNatClampNeg) r8 c9) rfl rfl ⟨(Nat.le_of_ble_eq_true rfl), (Nat.le_of_ble_eq_true rfl)⟩ hK hPc hDc rfl hl.1 rfl (Nat.le_of_ble_eq_true rfl) dX7_skip_23 ⟨Nat.zero_le _, Nat.zero_le _⟩) (fun H locs hP _ hS => ?_)
      replace hP : va_P D mp_cl (k_X7_skip T a_ a_order a_knows a_made a_sixteenths a_dots a_used a_stands v_inOrder v_place v_ill v_shut v_turns v_madeInAll v_order) H := hP
      refine lv_if_eq (tgt := 33) hx hb dX7_skip_26 (by decide) (fun h10 => ?_) (fun h10 => ?_)
      · replace hf := if_t hf h10
        refine lv_iconst (v := (nI 1)) hx hb dX7_skip_33 (by decide) ?_
        refine lv_iadd hx hb dX7_skip_34 ?_
        refine lv_topi (fun y11 e11 => ?_)
        replace hf := lt_of e11 hf
        refine lv_istore_n (lv' := [(2, .int y11), (0, .ref a_), (1, .int z1), (3, .int z3)]) hx hb dX7_skip_35 rfl hl (by decide) rfl (fun ls hl => ?_)
        obtain ⟨y12, e12⟩ : ∃ y : Int32, y = z3 + (nI 1) := ⟨_, rfl⟩
        replace hf := lt_of e12 hf
        refine lv_iinc (v := y12) (lv' := [(3, .int y12), (2, .int y11), (0, .ref a_), (1, .int z1)]) hx hb dX7_skip_36 hl (k := 3) rfl (by rw [e12]; rfl) (by decide) rfl (fun ls hl => ?_)
        refine lv_goto (tgt := 4) hx hb dX7_skip_39 (by decide) ?_
        exact ih z1 y11 y12 v_place v_turns hf _ _ _ hP (mp_D_of hD rfl) hS (lv_sub hl [2, 3, 1, 0] rfl)
      · replace hf := if_f hf h10
        refine lv_iconst (v := (nI 0)) hx hb dX7_skip_29 (by decide) ?_
        refine lv_goto (tgt := 34) hx hb dX7_skip_30 (by decide) ?_
        refine lv_iadd hx hb dX7_skip_34 ?_
        refine lv_topi (fun y13 e13 => ?_)
        replace hf := lt_of e13 hf
        refine lv_istore_n (lv' := [(2, .int y13), (0, .ref a_), (1, .int z1), (3, .int z3)]) hx hb dX7_skip_35 rfl hl (by decide) rfl (fun ls hl => ?_)
        obtain ⟨y14, e14⟩ : ∃ y : Int32, y = z3 + (nI 1) := ⟨_, rfl⟩
        replace hf := lt_of e14 hf
        refine lv_iinc (v := y14) (lv' := [(3, .int y14), (2, .int y13), (0, .ref a_), (1, .int z1)]) hx hb dX7_skip_36 hl (k := 3) rfl (by rw [e14]; rfl) (by decide) rfl (fun ls hl => ?_)
        refine lv_goto (tgt := 4) hx hb dX7_skip_39 (by decide) ?_
        exact ih z1 y13 y14 v_place v_turns hf _ _ _ hP (mp_D_of hD rfl) hS (lv_sub hl [2, 3, 1, 0] rfl)

set_option maxHeartbeats 4000000 in
set_option maxRecDepth 100000 in
theorem c_X7_skip (l : Launch) (D : va_G) (T : Nat → ClassId) (fu : Nat) (a_ a_order a_knows a_made a_sixteenths a_dots a_used a_stands : Nat) (x1 : Int32) (v_shut : Int32) (v_madeInAll : Int32) (v_inOrder : Int32) (v_place : Int32) (v_ill : Int32) (v_turns : Int32) (v_order : (Nat → Int32)) (o_place : Int32) (o_turns : Int32) (hf : f_X7_skip fu x1 v_inOrder v_place v_ill v_turns v_order = some (o_place, o_turns)) :
    mp_M l D T yX7_skip cX7_skip 5 none ({ frames := 3, cells := 0, slots := 0, locals := 64 }) 0 0 [.ref a_, .int x1] (k_X7_skip T a_ a_order a_knows a_made a_sixteenths a_dots a_used a_stands v_inOrder v_place v_ill v_shut v_turns v_madeInAll v_order) (mp_Qv D (k_X7_skip T a_ a_order a_knows a_made a_sixteenths a_dots a_used a_stands v_inOrder o_place v_ill v_shut o_turns v_madeInAll v_order)) := by
  refine mp_of (by decide) (Nat.le_of_ble_eq_true rfl) rfl ?_
  intro p e s m args below meth c A ls X hK hP hD hS hA hl
  replace X : mp_X p s m meth c args RX7 "skip" cX7_skip 5 none := X
  have hx := X.1
  have hb := X.2.1
  have hml := X.2.2.1
  have hown := X.2.2.2.2.1
  have hts := X.2.2.2.2.2.1
  replace hl : lv_has ls 5 [(0, .ref a_), (1, .int x1)] := hl
  replace hf : f_X7_skip_4 fu v_inOrder v_ill v_order  fu x1 (nI 0) (nI 0) v_place v_turns = some (o_place, o_turns) := hf
  refine lv_iconst (v := (nI 0)) hx hb dX7_skip_0 (by decide) ?_
  refine lv_istore_n (lv' := [(2, .int (nI 0)), (0, .ref a_), (1, .int x1)]) hx hb dX7_skip_1 rfl hl (by decide) rfl (fun ls hl => ?_)
  refine lv_iconst (v := (nI 0)) hx hb dX7_skip_2 (by decide) ?_
  refine lv_istore_n (lv' := [(3, .int (nI 0)), (2, .int (nI 0)), (0, .ref a_), (1, .int x1)]) hx hb dX7_skip_3 rfl hl (by decide) rfl (fun ls hl => ?_)
  exact w_X7_skip_4 X hK hA  fu a_ a_order a_knows a_made a_sixteenths a_dots a_used a_stands v_shut v_madeInAll v_inOrder v_ill v_order o_place o_turns   fu x1 (nI 0) (nI 0) v_place v_turns hf _ _ _ hP (mp_D_of hD rfl) hS (lv_sub hl [2, 3, 1, 0] rfl)


def k_X7_passMany (T : Nat → ClassId) (a_ a_order a_knows a_made a_sixteenths a_dots a_used a_stands a_p1 a_p1_cellNames a_p1_secretNames a_p1_pageNames a_p1_speed a_p1_letters a_p1_room a_p1_now a_p1_rounds : Nat) (v_inOrder : Int32) (v_place : Int32) (v_ill : Int32) (v_shut : Int32) (v_turns : Int32) (v_madeInAll : Int32) (v_dots : (Nat → Int32)) (v_knows : (Nat → Int32)) (v_made : (Nat → Int32)) (v_order : (Nat → Int32)) (v_stands : (Nat → Int32)) (v_used : (Nat → Int32)) (v_p1_cells : Int32) (v_p1_secrets : Int32) (v_p1_pages : Int32) (v_p1_blind : Int32) (v_p1_rubs : Int32) (v_p1_letters : (Nat → Int32)) (v_p1_room : (Nat → Int32)) (v_p1_speed : (Nat → Int32)) : va_W := [(a_, oX7 a_order v_inOrder v_place a_knows a_made a_sixteenths a_dots a_used a_stands v_ill v_shut v_turns v_madeInAll), (a_dots, mp_aI T 36 v_dots), (a_knows, mp_aI T 8 v_knows), (a_made, mp_aI T 8 v_made), (a_order, mp_aI T 8 v_order), (a_stands, mp_aI T 6 v_stands), (a_used, mp_aI T 6 v_used), (a_p1, oX1 v_p1_cells v_p1_secrets v_p1_pages a_p1_cellNames a_p1_secretNames a_p1_pageNames a_p1_speed v_p1_blind v_p1_rubs a_p1_letters a_p1_room a_p1_now a_p1_rounds), (a_p1_letters, mp_aI T 6 v_p1_letters), (a_p1_room, mp_aI T 6 v_p1_room), (a_p1_speed, mp_aI T 8 v_p1_speed)]
set_option maxHeartbeats 4000000 in
set_option maxRecDepth 100000 in
theorem w_X7_passMany_5 {p : Program} {l : Launch} {e : Env} {s : State} {m : MethodId} {args : Array Value} {below : List Frame} {meth : Method} {c : Code} {D : va_G} {T : Nat → ClassId} {A : Nat → Prop} (X : mp_X p s m meth c args RX7 "passMany" cX7_passMany 5 none) (hK : va_K D mp_cl (mp_ty T) s) (hA : ∀ q, s.heap.size ≤ q → A q) (fu : Nat) (a_ a_order a_knows a_made a_sixteenths a_dots a_used a_stands a_p1 a_p1_cellNames a_p1_secretNames a_p1_pageNames a_p1_speed a_p1_letters a_p1_room a_p1_now a_p1_rounds : Nat) (v_p1_cells : Int32) (v_inOrder : Int32) (v_ill : Int32) (v_shut : Int32) (v_order : (Nat → Int32)) (v_p1_secrets : Int32) (v_p1_pages : Int32) (v_p1_blind : Int32) (v_p1_rubs : Int32) (v_p1_letters : (Nat → Int32)) (v_p1_room : (Nat → Int32)) (v_p1_speed : (Nat → Int32)) (o_place : Int32) (o_turns : Int32) (o_madeInAll : Int32) (o_dots : (Nat → Int32)) (o_knows : (Nat → Int32)) (o_made : (Nat → Int32)) (o_stands : (Nat → Int32)) (o_used : (Nat → Int32)) :
    ∀ (n : Nat) (z2 : Int32) (z3 : Int32) (z4 : Int32) (v_place : Int32) (v_turns : Int32) (v_madeInAll : Int32) (v_dots : (Nat → Int32)) (v_knows : (Nat → Int32)) (v_made : (Nat → Int32)) (v_stands : (Nat → Int32)) (v_used : (Nat → Int32)), f_X7_passMany_5 fu v_inOrder v_ill v_shut v_order v_p1_secrets v_p1_pages v_p1_blind v_p1_rubs v_p1_letters v_p1_room v_p1_speed  n z2 z3 z4 v_place v_turns v_madeInAll v_dots v_knows v_made v_stands v_used = some (o_place, o_turns, o_madeInAll, o_dots, o_knows, o_made, o_stands, o_used) → ∀ (H : Heap) (locs : List Loc) (ls : Array Slot), va_P D mp_cl (k_X7_passMany T a_ a_order a_knows a_made a_sixteenths a_dots a_used a_stands a_p1 a_p1_cellNames a_p1_secretNames a_p1_pageNames a_p1_speed a_p1_letters a_p1_room a_p1_now a_p1_rounds v_inOrder v_place v_ill v_shut v_turns v_madeInAll v_dots v_knows v_made v_order v_stands v_used v_p1_cells v_p1_secrets v_p1_pages v_p1_blind v_p1_rubs v_p1_letters v_p1_room v_p1_speed) H → va_D A (k_X7_passMany T a_ a_order a_knows a_made a_sixteenths a_dots a_used a_stands a_p1 a_p1_cellNames a_p1_secretNames a_p1_pageNames a_p1_speed a_p1_letters a_p1_room a_p1_now a_p1_rounds v_inOrder v_place v_ill v_shut v_turns v_madeInAll v_dots v_knows v_made v_order v_stands v_used v_p1_cells v_p1_secrets v_p1_pages v_p1_blind v_p1_rubs v_p1_letters v_p1_room v_p1_speed) → va_S A s.heap H locs → lv_has ls 5 [(0, .ref a_), (1, .ref a_p1), (2, .int z2), (3, .int z3), (4, .int z4)] → W p l e ({ frames := 4, cells := 0, slots := 0, locals := 117 }) s m args below meth c H locs 0 0 (MQ below ((mp_Qv D (k_X7_passMany T a_ a_order a_knows a_made a_sixteenths a_dots a_used a_stands a_p1 a_p1_cellNames a_p1_secretNames a_p1_pageNames a_p1_speed a_p1_letters a_p1_room a_p1_now a_p1_rounds v_inOrder o_place v_ill v_shut o_turns o_madeInAll o_dots o_knows o_made v_order o_stands o_used v_p1_cells v_p1_secrets v_p1_pages v_p1_blind v_p1_rubs v_p1_letters v_p1_room v_p1_speed)) A) args s 0 0 A) (F0 m 5 ls []) := by
  have hx := X.1
  have hb := X.2.1
  have hml := X.2.2.1
  have hown := X.2.2.2.2.1
  have hts := X.2.2.2.2.2.1
  intro n
  induction n with
  | zero => intro z2 z3 z4 v_place v_turns v_madeInAll v_dots v_knows v_made v_stands v_used hf; exact absurd hf (by intro h; cases h)
  | succ n ih =>
    intro z2 z3 z4 v_place v_turns v_madeInAll v_dots v_knows v_made v_stands v_used hf H locs ls hP hD hS hl
    replace hf : (if z2 ≤ z3 then bd_ (f_X7_skip fu (z2 - z3) v_inOrder v_place v_ill v_turns v_order) (fun (z : Int32 × Int32) => match z with | (u2, u3) => some (u2, u3, v_madeInAll, v_dots, v_knows, v_made, v_stands, v_used)) else (if v_inOrder ≤ z4 then bd_ (f_X7_skip fu (z2 - z3) v_inOrder v_place v_ill v_turns v_order) (fun (z : Int32 × Int32) => match z with | (u6, u7) => some (u6, u7, v_madeInAll, v_dots, v_knows, v_made, v_stands, v_used)) else bd_ (f_X7_pass fu v_inOrder v_place v_ill v_shut v_turns v_madeInAll v_dots v_knows v_made v_order v_stands v_used v_p1_secrets v_p1_pages v_p1_blind v_p1_rubs v_p1_letters v_p1_room v_p1_speed) (fun (z : Int32 × Int32 × Int32 × Int32 × (Nat → Int32) × (Nat → Int32) × (Nat → Int32) × (Nat → Int32) × (Nat → Int32)) => match z with | (r9, u10, u11, u12, u13, u14, u15, u16, u17) => (if r9 = 0 then lt_ (z4 + (nI 1)) (fun (y20 : Int32) => lt_ (z3 + (nI 1)) (fun (y21 : Int32) => f_X7_passMany_5 fu v_inOrder v_ill v_shut v_order v_p1_secrets v_p1_pages v_p1_blind v_p1_rubs v_p1_letters v_p1_room v_p1_speed  n z2 y21 y20 u10 u11 u12 u13 u14 u15 u16 u17)) else lt_ (z3 + (nI 1)) (fun (y22 : Int32) => f_X7_passMany_5 fu v_inOrder v_ill v_shut v_order v_p1_secrets v_p1_pages v_p1_blind v_p1_rubs v_p1_letters v_p1_room v_p1_speed  n z2 y22 (nI 0) u10 u11 u12 u13 u14 u15 u16 u17))))) = some (o_place, o_turns, o_madeInAll, o_dots, o_knows, o_made, o_stands, o_used) := hf
    refine lv_iload_n hx hb dX7_passMany_5 rfl (lv_at hl 3 rfl) ?_
    refine lv_iload_n hx hb dX7_passMany_6 rfl (lv_at hl 2 rfl) ?_
    refine lv_icmp_ge (tgt := 43) hx hb dX7_passMany_7 (by decide) (fun h1 => ?_) (fun h1 => ?_)
    · replace hf := if_t hf h1
      refine lv_aload_n hx hb dX7_passMany_43 rfl (lv_at hl 0 rfl) ?_
      refine lv_iload_n hx hb dX7_passMany_44 rfl (lv_at hl 2 rfl) ?_
      refine lv_iload_n hx hb dX7_passMany_45 rfl (lv_at hl 3 rfl) ?_
      refine lv_isub hx hb dX7_passMany_46 ?_
      obtain ⟨⟨u2, u3⟩, c4, hf⟩ := bd_of hf
      dsimp only at hf
      have hPc := hP.sub (ws' := (k_X7_skip T a_ a_order a_knows a_made a_sixteenths a_dots a_used a_stands v_inOrder v_place v_ill v_shut v_turns v_madeInAll v_order)) [0, 4] rfl
      have hDc := (mp_D_of (w1 := (k_X7_passMany T a_ a_order a_knows a_made a_sixteenths a_dots a_used a_stands a_p1 a_p1_cellNames a_p1_secretNames a_p1_pageNames a_p1_speed a_p1_letters a_p1_room a_p1_now a_p1_rounds v_inOrder v_place v_ill v_shut v_turns v_madeInAll v_dots v_knows v_made v_order v_stands v_used v_p1_cells v_p1_secrets v_p1_pages v_p1_blind v_p1_rubs v_p1_letters v_p1_room v_p1_speed)) hD rfl).sub (ws' := (k_X7_skip T a_ a_order a_knows a_made a_sixteenths a_dots a_used a_stands v_inOrder v_place v_ill v_shut v_turns v_madeInAll v_order)) [0, 4] rfl rfl
      refine mp_callv (isC := [0, 4]) (wc := (k_X7_skip T a_ a_order a_knows a_made a_sixteenths a_dots a_used a_stands v_inOrder v_place v_ill v_shut v_turns v_madeInAll v_order)) (w1 := (k_X7_skip T a_ a_order a_knows a_made a_sixteenths a_dots a_used a_stands v_inOrder u2 v_ill v_shut u3 v_madeInAll v_order)) hP (mp_D_of hD rfl) hS hA rfl rfl (mp_runV (As := [.int (z2 - z3)]) (rest := []) X me_X7_skip lk_X7_105 (c_X7_skip l D T fu a_ a_order a_knows a_made a_sixteenths a_dots a_used a_stands (z2 - z3) v_shut v_madeInAll v_inOrder v_place v_ill v_turns v_order u2 u3 c4) rfl rfl ⟨(Nat.le_of_ble_eq_true rfl), (Nat.le_of_ble_eq_true rfl)⟩ hK hPc hDc rfl rfl rfl rfl hl.1 rfl (Nat.le_of_ble_eq_true rfl) dX7_passMany_47 ⟨Nat.zero_le _, Nat.zero_le _⟩) (fun H locs hP _ hS => ?_)
      replace hP : va_P D mp_cl (k_X7_passMany T a_ a_order a_knows a_made a_sixteenths a_dots a_used a_stands a_p1 a_p1_cellNames a_p1_secretNames a_p1_pageNames a_p1_speed a_p1_letters a_p1_room a_p1_now a_p1_rounds v_inOrder u2 v_ill v_shut u3 v_madeInAll v_dots v_knows v_made v_order v_stands v_used v_p1_cells v_p1_secrets v_p1_pages v_p1_blind v_p1_rubs v_p1_letters v_p1_room v_p1_speed) H := hP
      cases hf
      exact mp_retv X hP hS dX7_passMany_50
    · replace hf := if_f hf h1
      refine lv_iload hx hb dX7_passMany_10 (lv_at hl 4 rfl) ?_
      refine lv_aload_n hx hb dX7_passMany_12 rfl (lv_at hl 0 rfl) ?_
      refine mp_get X fl_X7_15 hK hP 0 rfl rfl dX7_passMany_13 ?_
      refine lv_icmp_ge (tgt := 43) hx hb dX7_passMany_16 (by decide) (fun h5 => ?_) (fun h5 => ?_)
      · replace hf := if_t hf h5
        refine lv_aload_n hx hb dX7_passMany_43 rfl (lv_at hl 0 rfl) ?_
        refine lv_iload_n hx hb dX7_passMany_44 rfl (lv_at hl 2 rfl) ?_
        refine lv_iload_n hx hb dX7_passMany_45 rfl (lv_at hl 3 rfl) ?_
        refine lv_isub hx hb dX7_passMany_46 ?_
        obtain ⟨⟨u6, u7⟩, c8, hf⟩ := bd_of hf
        dsimp only at hf
        have hPc := hP.sub (ws' := (k_X7_skip T a_ a_order a_knows a_made a_sixteenths a_dots a_used a_stands v_inOrder v_place v_ill v_shut v_turns v_madeInAll v_order)) [0, 4] rfl
        have hDc := (mp_D_of (w1 := (k_X7_passMany T a_ a_order a_knows a_made a_sixteenths a_dots a_used a_stands a_p1 a_p1_cellNames a_p1_secretNames a_p1_pageNames a_p1_speed a_p1_letters a_p1_room a_p1_now a_p1_rounds v_inOrder v_place v_ill v_shut v_turns v_madeInAll v_dots v_knows v_made v_order v_stands v_used v_p1_cells v_p1_secrets v_p1_pages v_p1_blind v_p1_rubs v_p1_letters v_p1_room v_p1_speed)) hD rfl).sub (ws' := (k_X7_skip T a_ a_order a_knows a_made a_sixteenths a_dots a_used a_stands v_inOrder v_place v_ill v_shut v_turns v_madeInAll v_order)) [0, 4] rfl rfl
        refine mp_callv (isC := [0, 4]) (wc := (k_X7_skip T a_ a_order a_knows a_made a_sixteenths a_dots a_used a_stands v_inOrder v_place v_ill v_shut v_turns v_madeInAll v_order)) (w1 := (k_X7_skip T a_ a_order a_knows a_made a_sixteenths a_dots a_used a_stands v_inOrder u6 v_ill v_shut u7 v_madeInAll v_order)) hP (mp_D_of hD rfl) hS hA rfl rfl (mp_runV (As := [.int (z2 - z3)]) (rest := []) X me_X7_skip lk_X7_105 (c_X7_skip l D T fu a_ a_order a_knows a_made a_sixteenths a_dots a_used a_stands (z2 - z3) v_shut v_madeInAll v_inOrder v_place v_ill v_turns v_order u6 u7 c8) rfl rfl ⟨(Nat.le_of_ble_eq_true rfl), (Nat.le_of_ble_eq_true rfl)⟩ hK hPc hDc rfl rfl rfl rfl hl.1 rfl (Nat.le_of_ble_eq_true rfl) dX7_passMany_47 ⟨Nat.zero_le _, Nat.zero_le _⟩) (fun H locs hP _ hS => ?_)
        replace hP : va_P D mp_cl (k_X7_passMany T a_ a_order a_knows a_made a_sixteenths a_dots a_used a_stands a_p1 a_p1_cellNames a_p1_secretNames a_p1_pageNames a_p1_speed a_p1_letters a_p1_room a_p1_now a_p1_rounds v_inOrder u6 v_ill v_shut u7 v_madeInAll v_dots v_knows v_made v_order v_stands v_used v_p1_cells v_p1_secrets v_p1_pages v_p1_blind v_p1_rubs v_p1_letters v_p1_room v_p1_speed) H := hP
        cases hf
        exact mp_retv X hP hS dX7_passMany_50
      · replace hf := if_f hf h5
        refine lv_aload_n hx hb dX7_passMany_19 rfl (lv_at hl 0 rfl) ?_
        refine lv_aload_n hx hb dX7_passMany_20 rfl (lv_at hl 1 rfl) ?_
        obtain ⟨⟨r9, u10, u11, u12, u13, u14, u15, u16, u17⟩, c18, hf⟩ := bd_of hf
        dsimp only at hf
        have hPc := hP.sub (ws' := (k_X7_pass T a_ a_order a_knows a_made a_sixteenths a_dots a_used a_stands a_p1 a_p1_cellNames a_p1_secretNames a_p1_pageNames a_p1_speed a_p1_letters a_p1_room a_p1_now a_p1_rounds v_inOrder v_place v_ill v_shut v_turns v_madeInAll v_dots v_knows v_made v_order v_stands v_used v_p1_cells v_p1_secrets v_p1_pages v_p1_blind v_p1_rubs v_p1_letters v_p1_room v_p1_speed)) [0, 1, 2, 3, 4, 5, 6, 7, 8, 9, 10] rfl
        have hDc := (mp_D_of (w1 := (k_X7_passMany T a_ a_order a_knows a_made a_sixteenths a_dots a_used a_stands a_p1 a_p1_cellNames a_p1_secretNames a_p1_pageNames a_p1_speed a_p1_letters a_p1_room a_p1_now a_p1_rounds v_inOrder v_place v_ill v_shut v_turns v_madeInAll v_dots v_knows v_made v_order v_stands v_used v_p1_cells v_p1_secrets v_p1_pages v_p1_blind v_p1_rubs v_p1_letters v_p1_room v_p1_speed)) hD rfl).sub (ws' := (k_X7_pass T a_ a_order a_knows a_made a_sixteenths a_dots a_used a_stands a_p1 a_p1_cellNames a_p1_secretNames a_p1_pageNames a_p1_speed a_p1_letters a_p1_room a_p1_now a_p1_rounds v_inOrder v_place v_ill v_shut v_turns v_madeInAll v_dots v_knows v_made v_order v_stands v_used v_p1_cells v_p1_secrets v_p1_pages v_p1_blind v_p1_rubs v_p1_letters v_p1_room v_p1_speed)) [0, 1, 2, 3, 4, 5, 6, 7, 8, 9, 10] rfl rfl
        refine mp_calli2 (isC := [0, 1, 2, 3, 4, 5, 6, 7, 8, 9, 10]) (isO := []) (wc := (k_X7_pass T a_ a_order a_knows a_made a_sixteenths a_dots a_used a_stands a_p1 a_p1_cellNames a_p1_secretNames a_p1_pageNames a_p1_speed a_p1_letters a_p1_room a_p1_now a_p1_rounds v_inOrder v_place v_ill v_shut v_turns v_madeInAll v_dots v_knows v_made v_order v_stands v_used v_p1_cells v_p1_secrets v_p1_pages v_p1_blind v_p1_rubs v_p1_letters v_p1_room v_p1_speed)) (w1 := (k_X7_pass T a_ a_order a_knows a_made a_sixteenths a_dots a_used a_stands a_p1 a_p1_cellNames a_p1_secretNames a_p1_pageNames a_p1_speed a_p1_letters a_p1_room a_p1_now a_p1_rounds v_inOrder u10 v_ill v_shut u11 u12 u13 u14 u15 v_order u16 u17 v_p1_cells v_p1_secrets v_p1_pages v_p1_blind v_p1_rubs v_p1_letters v_p1_room v_p1_speed)) (wo := []) (w2 := (k_X7_passMany T a_ a_order a_knows a_made a_sixteenths a_dots a_used a_stands a_p1 a_p1_cellNames a_p1_secretNames a_p1_pageNames a_p1_speed a_p1_letters a_p1_room a_p1_now a_p1_rounds v_inOrder u10 v_ill v_shut u11 u12 u13 u14 u15 v_order u16 u17 v_p1_cells v_p1_secrets v_p1_pages v_p1_blind v_p1_rubs v_p1_letters v_p1_room v_p1_speed)) (n := 11) hP (mp_D_of hD rfl) hS hA rfl rfl rfl rfl rfl rfl (by decide +kernel) (mp_runV (As := [.ref a_p1]) (rest := []) X me_X7_pass lk_X7_101 (c_X7_pass l D T fu a_ a_order a_knows a_made a_sixteenths a_dots a_used a_stands a_p1 a_p1_cellNames a_p1_secretNames a_p1_pageNames a_p1_speed a_p1_letters a_p1_room a_p1_now a_p1_rounds v_p1_cells v_inOrder v_place v_ill v_shut v_turns v_madeInAll v_dots v_knows v_made v_order v_stands v_used v_p1_secrets v_p1_pages v_p1_blind v_p1_rubs v_p1_letters v_p1_room v_p1_speed r9 u10 u11 u12 u13 u14 u15 u16 u17 c18) rfl rfl ⟨(Nat.le_of_ble_eq_true rfl), (Nat.le_of_ble_eq_true rfl)⟩ hK hPc hDc rfl rfl rfl rfl hl.1 rfl (Nat.le_of_ble_eq_true rfl) dX7_passMany_21 ⟨Nat.zero_le _, Nat.zero_le _⟩) (fun H locs hP _ hS => ?_)
        refine lv_if_eq (tgt := 31) hx hb dX7_passMany_24 (by decide) (fun h19 => ?_) (fun h19 => ?_)
        · replace hf := if_t hf h19
          refine lv_iload hx hb dX7_passMany_31 (lv_at hl 4 rfl) ?_
          refine lv_iconst (v := (nI 1)) hx hb dX7_passMany_33 (by decide) ?_
          refine lv_iadd hx hb dX7_passMany_34 ?_
          refine lv_topi (fun y20 e20 => ?_)
          replace hf := lt_of e20 hf
          refine lv_istore (lv' := [(4, .int y20), (0, .ref a_), (1, .ref a_p1), (2, .int z2), (3, .int z3)]) hx hb dX7_passMany_35 hl (by decide) rfl (fun ls hl => ?_)
          obtain ⟨y21, e21⟩ : ∃ y : Int32, y = z3 + (nI 1) := ⟨_, rfl⟩
          replace hf := lt_of e21 hf
          refine lv_iinc (v := y21) (lv' := [(3, .int y21), (4, .int y20), (0, .ref a_), (1, .ref a_p1), (2, .int z2)]) hx hb dX7_passMany_37 hl (k := 4) rfl (by rw [e21]; rfl) (by decide) rfl (fun ls hl => ?_)
          refine lv_goto (tgt := 5) hx hb dX7_passMany_40 (by decide) ?_
          exact ih z2 y21 y20 u10 u11 u12 u13 u14 u15 u16 u17 hf _ _ _ hP (mp_D_of hD rfl) hS (lv_sub hl [2, 3, 4, 0, 1] rfl)
        · replace hf := if_f hf h19
          refine lv_iconst (v := (nI 0)) hx hb dX7_passMany_27 (by decide) ?_
          refine lv_goto (tgt := 35) hx hb dX7_passMany_28 (by decide) ?_
          refine lv_istore (lv' := [(4, .int (nI 0)), (0, .ref a_), (1, .ref a_p1), (2, .int z2), (3, .int z3)]) hx hb dX7_passMany_35 hl (by decide) rfl (fun ls hl => ?_)
          obtain ⟨y22, e22⟩ : ∃ y : Int32, y = z3 + (nI 1) := ⟨_, rfl⟩
          replace hf := lt_of e22 hf
          refine lv_iinc (v := y22) (lv' := [(3, .int y22), (4, .int (nI 0)), (0, .ref a_), (1, .ref a_p1), (2, .int z2)]) hx hb dX7_passMany_37 hl (k := 4) rfl (by rw [e22]; rfl) (by decide) rfl (fun ls hl => ?_)
          refine lv_goto (tgt := 5) hx hb dX7_passMany_40 (by decide) ?_
          exact ih z2 y22 (nI 0) u10 u11 u12 u13 u14 u15 u16 u17 hf _ _ _ hP (mp_D_of hD rfl) hS (lv_sub hl [2, 3, 4, 0, 1] rfl)

set_option maxHeartbeats 4000000 in
set_option maxRecDepth 100000 in
theorem c_X7_passMany (l : Launch) (D : va_G) (T : Nat → ClassId) (fu : Nat) (a_ a_order a_knows a_made a_sixteenths a_dots a_used a_stands a_p1 a_p1_cellNames a_p1_secretNames a_p1_pageNames a_p1_speed a_p1_letters a_p1_room a_p1_now a_p1_rounds : Nat) (x2 : Int32) (v_p1_cells : Int32) (v_inOrder : Int32) (v_place : Int32) (v_ill : Int32) (v_shut : Int32) (v_turns : Int32) (v_madeInAll : Int32) (v_dots : (Nat → Int32)) (v_knows : (Nat → Int32)) (v_made : (Nat → Int32)) (v_order : (Nat → Int32)) (v_stands : (Nat → Int32)) (v_used : (Nat → Int32)) (v_p1_secrets : Int32) (v_p1_pages : Int32) (v_p1_blind : Int32) (v_p1_rubs : Int32) (v_p1_letters : (Nat → Int32)) (v_p1_room : (Nat → Int32)) (v_p1_speed : (Nat → Int32)) (o_place : Int32) (o_turns : Int32) (o_madeInAll : Int32) (o_dots : (Nat → Int32)) (o_knows : (Nat → Int32)) (o_made : (Nat → Int32)) (o_stands : (Nat → Int32)) (o_used : (Nat → Int32)) (hf : f_X7_passMany fu x2 v_inOrder v_place v_ill v_shut v_turns v_madeInAll v_dots v_knows v_made v_order v_stands v_used v_p1_secrets v_p1_pages v_p1_blind v_p1_rubs v_p1_letters v_p1_room v_p1_speed = some (o_place, o_turns, o_madeInAll, o_dots, o_knows, o_made, o_stands, o_used)) :
    mp_M l D T yX7_passMany cX7_passMany 5 none ({ frames := 4, cells := 0, slots := 0, locals := 117 }) 0 0 [.ref a_, .ref a_p1, .int x2] (k_X7_passMany T a_ a_order a_knows a_made a_sixteenths a_dots a_used a_stands a_p1 a_p1_cellNames a_p1_secretNames a_p1_pageNames a_p1_speed a_p1_letters a_p1_room a_p1_now a_p1_rounds v_inOrder v_place v_ill v_shut v_turns v_madeInAll v_dots v_knows v_made v_order v_stands v_used v_p1_cells v_p1_secrets v_p1_pages v_p1_blind v_p1_rubs v_p1_letters v_p1_room v_p1_speed) (mp_Qv D (k_X7_passMany T a_ a_order a_knows a_made a_sixteenths a_dots a_used a_stands a_p1 a_p1_cellNames a_p1_secretNames a_p1_pageNames a_p1_speed a_p1_letters a_p1_room a_p1_now a_p1_rounds v_inOrder o_place v_ill v_shut o_turns o_madeInAll o_dots o_knows o_made v_order o_stands o_used v_p1_cells v_p1_secrets v_p1_pages v_p1_blind v_p1_rubs v_p1_letters v_p1_room v_p1_speed)) := by
  refine mp_of (by decide) (Nat.le_of_ble_eq_true rfl) rfl ?_
  intro p e s m args below meth c A ls X hK hP hD hS hA hl
  replace X : mp_X p s m meth c args RX7 "passMany" cX7_passMany 5 none := X
  have hx := X.1
  have hb := X.2.1
  have hml := X.2.2.1
  have hown := X.2.2.2.2.1
  have hts := X.2.2.2.2.2.1
  replace hl : lv_has ls 5 [(0, .ref a_), (1, .ref a_p1), (2, .int x2)] := hl
  replace hf : f_X7_passMany_5 fu v_inOrder v_ill v_shut v_order v_p1_secrets v_p1_pages v_p1_blind v_p1_rubs v_p1_letters v_p1_room v_p1_speed  fu x2 (nI 0) (nI 0) v_place v_turns v_madeInAll v_dots v_knows v_made v_stands v_used = some (o_place, o_turns, o_madeInAll, o_dots, o_knows, o_made, o_stands, o_used) := hf
  refine lv_iconst (v := (nI 0)) hx hb dX7_passMany_0 (by decide) ?_
  refine lv_istore_n (lv' := [(3, .int (nI 0)), (0, .ref a_), (1, .ref a_p1), (2, .int x2)]) hx hb dX7_passMany_1 rfl hl (by decide) rfl (fun ls hl => ?_)
  refine lv_iconst (v := (nI 0)) hx hb dX7_passMany_2 (by decide) ?_
  refine lv_istore (lv' := [(4, .int (nI 0)), (3, .int (nI 0)), (0, .ref a_), (1, .ref a_p1), (2, .int x2)]) hx hb dX7_passMany_3 hl (by decide) rfl (fun ls hl => ?_)
  exact w_X7_passMany_5 X hK hA  fu a_ a_order a_knows a_made a_sixteenths a_dots a_used a_stands a_p1 a_p1_cellNames a_p1_secretNames a_p1_pageNames a_p1_speed a_p1_letters a_p1_room a_p1_now a_p1_rounds v_p1_cells v_inOrder v_ill v_shut v_order v_p1_secrets v_p1_pages v_p1_blind v_p1_rubs v_p1_letters v_p1_room v_p1_speed o_place o_turns o_madeInAll o_dots o_knows o_made o_stands o_used   fu x2 (nI 0) (nI 0) v_place v_turns v_madeInAll v_dots v_knows v_made v_stands v_used hf _ _ _ hP (mp_D_of hD rfl) hS (lv_sub hl [2, 3, 4, 1, 0] rfl)


def k_X7_placeOf (T : Nat → ClassId) (a_ a_order a_knows a_made a_sixteenths a_dots a_used a_stands : Nat) (v_inOrder : Int32) (v_place : Int32) (v_ill : Int32) (v_shut : Int32) (v_turns : Int32) (v_madeInAll : Int32) (v_order : (Nat → Int32)) : va_W := [(a_, oX7 a_order v_inOrder v_place a_knows a_made a_sixteenths a_dots a_used a_stands v_ill v_shut v_turns v_madeInAll), (a_order, mp_aI T 8 v_order)]
set_option maxHeartbeats 4000000 in
set_option maxRecDepth 100000 in
theorem w_X7_placeOf_2 {p : Program} {l : Launch} {e : Env} {s : State} {m : MethodId} {args : Array Value} {below : List Frame} {meth : Method} {c : Code} {D : va_G} {T : Nat → ClassId} {A : Nat → Prop} (X : mp_X p s m meth c args RX7 "placeOf" cX7_placeOf 3 (some .int)) (hK : va_K D mp_cl (mp_ty T) s) (hA : ∀ q, s.heap.size ≤ q → A q) (fu : Nat) (a_ a_order a_knows a_made a_sixteenths a_dots a_used a_stands : Nat) (v_place : Int32) (v_ill : Int32) (v_shut : Int32) (v_turns : Int32) (v_madeInAll : Int32) (v_inOrder : Int32) (v_order : (Nat → Int32)) (r_ : Int32) :
    ∀ (n : Nat) (z1 : Int32) (z2 : Int32), f_X7_placeOf_2 fu v_inOrder v_order  n z1 z2 = some r_ → ∀ (H : Heap) (locs : List Loc) (ls : Array Slot), va_P D mp_cl (k_X7_placeOf T a_ a_order a_knows a_made a_sixteenths a_dots a_used a_stands v_inOrder v_place v_ill v_shut v_turns v_madeInAll v_order) H → va_D A (k_X7_placeOf T a_ a_order a_knows a_made a_sixteenths a_dots a_used a_stands v_inOrder v_place v_ill v_shut v_turns v_madeInAll v_order) → va_S A s.heap H locs → lv_has ls 3 [(0, .ref a_), (1, .int z1), (2, .int z2)] → W p l e ({ frames := 0, cells := 0, slots := 0, locals := 0 }) s m args below meth c H locs 0 0 (MQ below ((mp_Qi D r_ (k_X7_placeOf T a_ a_order a_knows a_made a_sixteenths a_dots a_used a_stands v_inOrder v_place v_ill v_shut v_turns v_madeInAll v_order)) A) args s 0 0 A) (F0 m 2 ls []) := by
  have hx := X.1
  have hb := X.2.1
  have hml := X.2.2.1
  have hown := X.2.2.2.2.1
  have hts := X.2.2.2.2.2.1
  intro n
  induction n with
  | zero => intro z1 z2 hf; exact absurd hf (by intro h; cases h)
  | succ n ih =>
    intro z1 z2 hf H locs ls hP hD hS hl
    replace hf : (if v_inOrder ≤ z2 then some ((-1 : Int32)) else gi_ z2 8 ((if (v_order (z2).toNatClampNeg) = z1 then some (z2) else lt_ (z2 + (nI 1)) (fun (y4 : Int32) => f_X7_placeOf_2 fu v_inOrder v_order  n z1 y4)))) = some r_ := hf
    refine lv_iload_n hx hb dX7_placeOf_2 rfl (lv_at hl 2 rfl) ?_
    refine lv_aload_n hx hb dX7_placeOf_3 rfl (lv_at hl 0 rfl) ?_
    refine mp_get X fl_X7_15 hK hP 0 rfl rfl dX7_placeOf_4 ?_
    refine lv_icmp_ge (tgt := 28) hx hb dX7_placeOf_7 (by decide) (fun h1 => ?_) (fun h1 => ?_)
    · replace hf := if_t hf h1
      refine lv_iconst (v := (-1 : Int32)) hx hb dX7_placeOf_28 (by decide) ?_
      cases hf
      exact mp_reti X hP hS rfl dX7_placeOf_29
    · replace hf := if_f hf h1
      refine lv_aload_n hx hb dX7_placeOf_10 rfl (lv_at hl 0 rfl) ?_
      refine mp_get X fl_X7_9 hK hP 0 rfl rfl dX7_placeOf_11 ?_
      refine lv_iload_n hx hb dX7_placeOf_14 rfl (lv_at hl 2 rfl) ?_
      obtain ⟨h2, hf⟩ := gi_of hf
      refine va_iald hx hb hK hP 1 0 rfl rfl h2 dX7_placeOf_15 ?_
      refine lv_iload_n hx hb dX7_placeOf_16 rfl (lv_at hl 1 rfl) ?_
      refine lv_icmp_ne (tgt := 22) hx hb dX7_placeOf_17 (by decide) (fun h3 => ?_) (fun h3 => ?_)
      · replace hf := if_f hf h3
        obtain ⟨y4, e4⟩ : ∃ y : Int32, y = z2 + (nI 1) := ⟨_, rfl⟩
        replace hf := lt_of e4 hf
        refine lv_iinc (v := y4) (lv' := [(2, .int y4), (0, .ref a_), (1, .int z1)]) hx hb dX7_placeOf_22 hl (k := 2) rfl (by rw [e4]; rfl) (by decide) rfl (fun ls hl => ?_)
        refine lv_goto (tgt := 2) hx hb dX7_placeOf_25 (by decide) ?_
        exact ih z1 y4 hf _ _ _ hP (mp_D_of hD rfl) hS (lv_sub hl [1, 2, 0] rfl)
      · replace hf := if_t hf h3
        refine lv_iload_n hx hb dX7_placeOf_20 rfl (lv_at hl 2 rfl) ?_
        cases hf
        exact mp_reti X hP hS rfl dX7_placeOf_21

set_option maxHeartbeats 4000000 in
set_option maxRecDepth 100000 in
theorem c_X7_placeOf (l : Launch) (D : va_G) (T : Nat → ClassId) (fu : Nat) (a_ a_order a_knows a_made a_sixteenths a_dots a_used a_stands : Nat) (x1 : Int32) (v_place : Int32) (v_ill : Int32) (v_shut : Int32) (v_turns : Int32) (v_madeInAll : Int32) (v_inOrder : Int32) (v_order : (Nat → Int32)) (r_ : Int32) (hf : f_X7_placeOf fu x1 v_inOrder v_order = some r_) :
    mp_M l D T yX7_placeOf cX7_placeOf 3 (some .int) ({ frames := 0, cells := 0, slots := 0, locals := 0 }) 0 0 [.ref a_, .int x1] (k_X7_placeOf T a_ a_order a_knows a_made a_sixteenths a_dots a_used a_stands v_inOrder v_place v_ill v_shut v_turns v_madeInAll v_order) (mp_Qi D r_ (k_X7_placeOf T a_ a_order a_knows a_made a_sixteenths a_dots a_used a_stands v_inOrder v_place v_ill v_shut v_turns v_madeInAll v_order)) := by
  refine mp_of (by decide) (Nat.le_of_ble_eq_true rfl) rfl ?_
  intro p e s m args below meth c A ls X hK hP hD hS hA hl
  replace X : mp_X p s m meth c args RX7 "placeOf" cX7_placeOf 3 (some .int) := X
  have hx := X.1
  have hb := X.2.1
  have hml := X.2.2.1
  have hown := X.2.2.2.2.1
  have hts := X.2.2.2.2.2.1
  replace hl : lv_has ls 3 [(0, .ref a_), (1, .int x1)] := hl
  replace hf : f_X7_placeOf_2 fu v_inOrder v_order  fu x1 (nI 0) = some r_ := hf
  refine lv_iconst (v := (nI 0)) hx hb dX7_placeOf_0 (by decide) ?_
  refine lv_istore_n (lv' := [(2, .int (nI 0)), (0, .ref a_), (1, .int x1)]) hx hb dX7_placeOf_1 rfl hl (by decide) rfl (fun ls hl => ?_)
  exact w_X7_placeOf_2 X hK hA  fu a_ a_order a_knows a_made a_sixteenths a_dots a_used a_stands v_place v_ill v_shut v_turns v_madeInAll v_inOrder v_order r_   fu x1 (nI 0) hf _ _ _ hP (mp_D_of hD rfl) hS (lv_sub hl [1, 2, 0] rfl)


def k_X7_orderAnew (T : Nat → ClassId) (a_ a_order a_knows a_made a_sixteenths a_dots a_used a_stands a_p1 : Nat) (n1 : Nat) (v_inOrder : Int32) (v_place : Int32) (v_ill : Int32) (v_shut : Int32) (v_turns : Int32) (v_madeInAll : Int32) (v_order : (Nat → Int32)) (v_p1 : (Nat → Int32)) : va_W := [(a_, oX7 a_order v_inOrder v_place a_knows a_made a_sixteenths a_dots a_used a_stands v_ill v_shut v_turns v_madeInAll), (a_order, mp_aI T 8 v_order), (a_p1, mp_aI T n1 v_p1)]
set_option maxHeartbeats 4000000 in
set_option maxRecDepth 100000 in
theorem c_X7_orderAnew (l : Launch) (D : va_G) (T : Nat → ClassId) (a_ a_order a_knows a_made a_sixteenths a_dots a_used a_stands a_p1 : Nat) (n1 : Nat) (v_ill : Int32) (v_shut : Int32) (v_turns : Int32) (v_madeInAll : Int32) (v_inOrder : Int32) (v_place : Int32) (v_order : (Nat → Int32)) (v_p1 : (Nat → Int32)) (o_place : Int32) (o_order : (Nat → Int32)) (hf : f_X7_orderAnew n1 v_inOrder v_place v_order v_p1 = some (o_place, o_order)) :
    mp_M l D T yX7_orderAnew cX7_orderAnew 2 none ({ frames := 1, cells := 0, slots := 0, locals := 40 }) 0 0 [.ref a_, .ref a_p1] (k_X7_orderAnew T a_ a_order a_knows a_made a_sixteenths a_dots a_used a_stands a_p1 n1 v_inOrder v_place v_ill v_shut v_turns v_madeInAll v_order v_p1) (mp_Qv D (k_X7_orderAnew T a_ a_order a_knows a_made a_sixteenths a_dots a_used a_stands a_p1 n1 v_inOrder o_place v_ill v_shut v_turns v_madeInAll o_order v_p1)) := by
  refine mp_of (by decide) (Nat.le_of_ble_eq_true rfl) rfl ?_
  intro p e s m args below meth c A ls X hK hP hD hS hA hl
  replace X : mp_X p s m meth c args RX7 "orderAnew" cX7_orderAnew 2 none := X
  have hx := X.1
  have hb := X.2.1
  have hml := X.2.2.1
  have hown := X.2.2.2.2.1
  have hts := X.2.2.2.2.2.1
  replace hl : lv_has ls 2 [(0, .ref a_), (1, .ref a_p1)] := hl
  replace hf : gc_ (nI 0) (nI 0) v_inOrder n1 8 (some ((nI 0), va_cpy v_p1 v_order ((nI 0)).toNatClampNeg ((nI 0)).toNatClampNeg (v_inOrder).toNatClampNeg)) = some (o_place, o_order) := hf
  refine lv_aload_n hx hb dX7_orderAnew_0 rfl (lv_at hl 1 rfl) ?_
  refine lv_iconst (v := (nI 0)) hx hb dX7_orderAnew_1 (by decide) ?_
  refine lv_aload_n hx hb dX7_orderAnew_2 rfl (lv_at hl 0 rfl) ?_
  refine mp_get X fl_X7_9 hK hP 0 rfl rfl dX7_orderAnew_3 ?_
  refine lv_iconst (v := (nI 0)) hx hb dX7_orderAnew_6 (by decide) ?_
  refine lv_aload_n hx hb dX7_orderAnew_7 rfl (lv_at hl 0 rfl) ?_
  refine mp_get X fl_X7_15 hK hP 0 rfl rfl dX7_orderAnew_8 ?_
  obtain ⟨h1, hf⟩ := gc_of hf
  refine va_copyi hx hb (hml.trans hl.1.symm) hown (hts _ lk_X7_58_ac) (hts _ ac_nat) (hts _ ac_stat) (hts _ ac_ini) hK hP (mp_D_of hD rfl) hS 2 1 0 0 rfl rfl rfl rfl rfl h1.1 h1.2.1 h1.2.2.1 h1.2.2.2.1 h1.2.2.2.2 (fun _ _ => rfl) (Nat.le_of_ble_eq_true rfl) (Nat.le_of_ble_eq_true rfl) dX7_orderAnew_11 (fun H locs hP _ hS => ?_)
  replace hP : va_P D mp_cl (k_X7_orderAnew T a_ a_order a_knows a_made a_sixteenths a_dots a_used a_stands a_p1 n1 v_inOrder v_place v_ill v_shut v_turns v_madeInAll (va_cpy v_p1 v_order ((nI 0)).toNatClampNeg ((nI 0)).toNatClampNeg (v_inOrder).toNatClampNeg) v_p1) H := hP
  refine lv_aload_n hx hb dX7_orderAnew_14 rfl (lv_at hl 0 rfl) ?_
  refine lv_iconst (v := (nI 0)) hx hb dX7_orderAnew_15 (by decide) ?_
  refine mp_putf X fl_X7_19 fp_X7 rfl hK hP (mp_D_of hD rfl) hS 0 rfl rfl rfl (Nat.le_of_ble_eq_true rfl) dX7_orderAnew_16 (fun H locs hP _ hS => ?_)
  replace hP : va_P D mp_cl (k_X7_orderAnew T a_ a_order a_knows a_made a_sixteenths a_dots a_used a_stands a_p1 n1 v_inOrder (nI 0) v_ill v_shut v_turns v_madeInAll (va_cpy v_p1 v_order ((nI 0)).toNatClampNeg ((nI 0)).toNatClampNeg (v_inOrder).toNatClampNeg) v_p1) H := hP
  cases hf
  exact mp_retv X hP hS dX7_orderAnew_19


def k_X1_seeing (T : Nat → ClassId) (a_ a_cellNames a_secretNames a_pageNames a_speed a_letters a_room a_now a_rounds : Nat) (v_cells : Int32) (v_secrets : Int32) (v_pages : Int32) (v_blind : Int32) (v_rubs : Int32) : va_W := [(a_, oX1 v_cells v_secrets v_pages a_cellNames a_secretNames a_pageNames a_speed v_blind v_rubs a_letters a_room a_now a_rounds)]
set_option maxHeartbeats 4000000 in
set_option maxRecDepth 100000 in
theorem c_X1_seeing (l : Launch) (D : va_G) (T : Nat → ClassId) (a_ a_cellNames a_secretNames a_pageNames a_speed a_letters a_room a_now a_rounds : Nat) (v_secrets : Int32) (v_pages : Int32) (v_rubs : Int32) (v_cells : Int32) (v_blind : Int32) (r_ : Int32) (hf : f_X1_seeing v_cells v_blind = some r_) :
    mp_M l D T yX1_seeing cX1_seeing 1 (some .int) ({ frames := 0, cells := 0, slots := 0, locals := 0 }) 0 0 [.ref a_] (k_X1_seeing T a_ a_cellNames a_secretNames a_pageNames a_speed a_letters a_room a_now a_rounds v_cells v_secrets v_pages v_blind v_rubs) (mp_Qi D r_ (k_X1_seeing T a_ a_cellNames a_secretNames a_pageNames a_speed a_letters a_room a_now a_rounds v_cells v_secrets v_pages v_blind v_rubs)) := by
  refine mp_of (by decide) (Nat.le_of_ble_eq_true rfl) rfl ?_
  intro p e s m args below meth c A ls X hK hP hD hS hA hl
  replace X : mp_X p s m meth c args RX1 "seeing" cX1_seeing 1 (some .int) := X
  have hx := X.1
  have hb := X.2.1
  have hml := X.2.2.1
  have hown := X.2.2.2.2.1
  have hts := X.2.2.2.2.2.1
  replace hl : lv_has ls 1 [(0, .ref a_)] := hl
  replace hf : some ((((nI 1) <<< (v_cells &&& (31 : Int32))) - (nI 1)) &&& (v_blind ^^^ (-1 : Int32))) = some r_ := hf
  refine lv_iconst (v := (nI 1)) hx hb dX1_seeing_0 (by decide) ?_
  refine lv_aload_n hx hb dX1_seeing_1 rfl (lv_at hl 0 rfl) ?_
  refine mp_get X fl_X1_9 hK hP 0 rfl rfl dX1_seeing_2 ?_
  refine lv_ishl hx hb dX1_seeing_5 ?_
  refine lv_iconst (v := (nI 1)) hx hb dX1_seeing_6 (by decide) ?_
  refine lv_isub hx hb dX1_seeing_7 ?_
  refine lv_aload_n hx hb dX1_seeing_8 rfl (lv_at hl 0 rfl) ?_
  refine mp_get X fl_X1_35 hK hP 0 rfl rfl dX1_seeing_9 ?_
  refine lv_iconst (v := (-1 : Int32)) hx hb dX1_seeing_12 (by decide) ?_
  refine lv_ixor hx hb dX1_seeing_13 ?_
  refine lv_iand hx hb dX1_seeing_14 ?_
  cases hf
  exact mp_reti X hP hS rfl dX1_seeing_15


def k_X1_allSecrets (T : Nat → ClassId) (a_ a_cellNames a_secretNames a_pageNames a_speed a_letters a_room a_now a_rounds : Nat) (v_cells : Int32) (v_secrets : Int32) (v_pages : Int32) (v_blind : Int32) (v_rubs : Int32) : va_W := [(a_, oX1 v_cells v_secrets v_pages a_cellNames a_secretNames a_pageNames a_speed v_blind v_rubs a_letters a_room a_now a_rounds)]
set_option maxHeartbeats 4000000 in
set_option maxRecDepth 100000 in
theorem c_X1_allSecrets (l : Launch) (D : va_G) (T : Nat → ClassId) (a_ a_cellNames a_secretNames a_pageNames a_speed a_letters a_room a_now a_rounds : Nat) (v_cells : Int32) (v_pages : Int32) (v_blind : Int32) (v_rubs : Int32) (v_secrets : Int32) (r_ : Int32) (hf : f_X1_allSecrets v_secrets = some r_) :
    mp_M l D T yX1_allSecrets cX1_allSecrets 1 (some .int) ({ frames := 0, cells := 0, slots := 0, locals := 0 }) 0 0 [.ref a_] (k_X1_allSecrets T a_ a_cellNames a_secretNames a_pageNames a_speed a_letters a_room a_now a_rounds v_cells v_secrets v_pages v_blind v_rubs) (mp_Qi D r_ (k_X1_allSecrets T a_ a_cellNames a_secretNames a_pageNames a_speed a_letters a_room a_now a_rounds v_cells v_secrets v_pages v_blind v_rubs)) := by
  refine mp_of (by decide) (Nat.le_of_ble_eq_true rfl) rfl ?_
  intro p e s m args below meth c A ls X hK hP hD hS hA hl
  replace X : mp_X p s m meth c args RX1 "allSecrets" cX1_allSecrets 1 (some .int) := X
  have hx := X.1
  have hb := X.2.1
  have hml := X.2.2.1
  have hown := X.2.2.2.2.1
  have hts := X.2.2.2.2.2.1
  replace hl : lv_has ls 1 [(0, .ref a_)] := hl
  replace hf : some (((nI 1) <<< (v_secrets &&& (31 : Int32))) - (nI 1)) = some r_ := hf
  refine lv_iconst (v := (nI 1)) hx hb dX1_allSecrets_0 (by decide) ?_
  refine lv_aload_n hx hb dX1_allSecrets_1 rfl (lv_at hl 0 rfl) ?_
  refine mp_get X fl_X1_15 hK hP 0 rfl rfl dX1_allSecrets_2 ?_
  refine lv_ishl hx hb dX1_allSecrets_5 ?_
  refine lv_iconst (v := (nI 1)) hx hb dX1_allSecrets_6 (by decide) ?_
  refine lv_isub hx hb dX1_allSecrets_7 ?_
  cases hf
  exact mp_reti X hP hS rfl dX1_allSecrets_8


def k_J7_fill_53178 (T : Nat → ClassId) (a_p1 : Nat) (n1 : Nat) (v_p1 : (Nat → Int32)) : va_W := [(a_p1, mp_aI T n1 v_p1)]
set_option maxHeartbeats 4000000 in
set_option maxRecDepth 100000 in
theorem w_J7_fill_53178_5 {p : Program} {l : Launch} {e : Env} {s : State} {m : MethodId} {args : Array Value} {below : List Frame} {meth : Method} {c : Code} {D : va_G} {T : Nat → ClassId} {A : Nat → Prop} (X : mp_X p s m meth c args RJ7 "fill" cJ7_fill_53178 4 none) (hK : va_K D mp_cl (mp_ty T) s) (hA : ∀ q, s.heap.size ≤ q → A q) (fu : Nat) (a_p1 : Nat) (n1 : Nat) (o_p1 : (Nat → Int32)) :
    ∀ (n : Nat) (z1 : Int32) (z2 : Int32) (z3 : Int32) (v_p1 : (Nat → Int32)), f_J7_fill_53178_5 fu n1  n z1 z2 z3 v_p1 = some o_p1 → ∀ (H : Heap) (locs : List Loc) (ls : Array Slot), va_P D mp_cl (k_J7_fill_53178 T a_p1 n1 v_p1) H → va_D A (k_J7_fill_53178 T a_p1 n1 v_p1) → va_S A s.heap H locs → lv_has ls 4 [(0, .ref a_p1), (1, .int z1), (2, .int z2), (3, .int z3)] → W p l e ({ frames := 0, cells := 0, slots := 0, locals := 0 }) s m args below meth c H locs 0 0 (MQ below ((mp_Qv D (k_J7_fill_53178 T a_p1 n1 o_p1)) A) args s 0 0 A) (F0 m 5 ls []) := by
  have hx := X.1
  have hb := X.2.1
  have hml := X.2.2.1
  have hown := X.2.2.2.2.1
  have hts := X.2.2.2.2.2.1
  intro n
  induction n with
  | zero => intro z1 z2 z3 v_p1 hf; exact absurd hf (by intro h; cases h)
  | succ n ih =>
    intro z1 z2 z3 v_p1 hf H locs ls hP hD hS hl
    replace hf : (if z3 ≤ z2 then some (v_p1) else gi_ z2 n1 (lt_ (z2 + (nI 1)) (fun (y3 : Int32) => f_J7_fill_53178_5 fu n1  n z1 y3 z3 (upd v_p1 (z2).toNatClampNeg z1)))) = some o_p1 := hf
    refine lv_iload_n hx hb dJ7_fill_53178_5 rfl (lv_at hl 2 rfl) ?_
    refine lv_iload_n hx hb dJ7_fill_53178_6 rfl (lv_at hl 3 rfl) ?_
    refine lv_icmp_ge (tgt := 20) hx hb dJ7_fill_53178_7 (by decide) (fun h1 => ?_) (fun h1 => ?_)
    · replace hf := if_t hf h1
      cases hf
      exact mp_retv X hP hS dJ7_fill_53178_20
    · replace hf := if_f hf h1
      refine lv_aload_n hx hb dJ7_fill_53178_10 rfl (lv_at hl 0 rfl) ?_
      refine lv_iload_n hx hb dJ7_fill_53178_11 rfl (lv_at hl 2 rfl) ?_
      refine lv_iload_n hx hb dJ7_fill_53178_12 rfl (lv_at hl 1 rfl) ?_
      obtain ⟨h2, hf⟩ := gi_of hf
      refine va_iast hx hb hK hP (mp_D_of hD rfl) hS 0 0 rfl rfl h2 dJ7_fill_53178_13 (fun H locs hP _ hS => ?_)
      replace hP : va_P D mp_cl (k_J7_fill_53178 T a_p1 n1 (upd v_p1 (z2).toNatClampNeg z1)) H := hP
      obtain ⟨y3, e3⟩ : ∃ y : Int32, y = z2 + (nI 1) := ⟨_, rfl⟩
      replace hf := lt_of e3 hf
      refine lv_iinc (v := y3) (lv' := [(2, .int y3), (0, .ref a_p1), (1, .int z1), (3, .int z3)]) hx hb dJ7_fill_53178_14 hl (k := 2) rfl (by rw [e3]; rfl) (by decide) rfl (fun ls hl => ?_)
      refine lv_goto (tgt := 5) hx hb dJ7_fill_53178_17 (by decide) ?_
      exact ih z1 y3 z3 (upd v_p1 (z2).toNatClampNeg z1) hf _ _ _ hP (mp_D_of hD rfl) hS (lv_sub hl [1, 2, 0, 3] rfl)

set_option maxHeartbeats 4000000 in
set_option maxRecDepth 100000 in
theorem c_J7_fill_53178 (l : Launch) (D : va_G) (T : Nat → ClassId) (fu : Nat) (a_p1 : Nat) (n1 : Nat) (x2 : Int32) (v_p1 : (Nat → Int32)) (o_p1 : (Nat → Int32)) (hf : f_J7_fill_53178 fu n1 x2 v_p1 = some o_p1) :
    mp_M l D T yJ7_fill_53178 cJ7_fill_53178 4 none ({ frames := 0, cells := 0, slots := 0, locals := 0 }) 0 0 [.ref a_p1, .int x2] (k_J7_fill_53178 T a_p1 n1 v_p1) (mp_Qv D (k_J7_fill_53178 T a_p1 n1 o_p1)) := by
  refine mp_of (by decide) (Nat.le_of_ble_eq_true rfl) rfl ?_
  intro p e s m args below meth c A ls X hK hP hD hS hA hl
  replace X : mp_X p s m meth c args RJ7 "fill" cJ7_fill_53178 4 none := X
  have hx := X.1
  have hb := X.2.1
  have hml := X.2.2.1
  have hown := X.2.2.2.2.1
  have hts := X.2.2.2.2.2.1
  replace hl : lv_has ls 4 [(0, .ref a_p1), (1, .int x2)] := hl
  replace hf : lt_ (Int32.ofNat n1) (fun (y1 : Int32) => f_J7_fill_53178_5 fu n1  fu x2 (nI 0) y1 v_p1) = some o_p1 := hf
  refine lv_iconst (v := (nI 0)) hx hb dJ7_fill_53178_0 (by decide) ?_
  refine lv_istore_n (lv' := [(2, .int (nI 0)), (0, .ref a_p1), (1, .int x2)]) hx hb dJ7_fill_53178_1 rfl hl (by decide) rfl (fun ls hl => ?_)
  refine lv_aload_n hx hb dJ7_fill_53178_2 rfl (lv_at hl 1 rfl) ?_
  refine va_alen hx hb hK hP 0 0 rfl rfl rfl dJ7_fill_53178_3 ?_
  refine lv_topi (fun y1 e1 => ?_)
  replace hf := lt_of e1 hf
  refine lv_istore_n (lv' := [(3, .int y1), (2, .int (nI 0)), (0, .ref a_p1), (1, .int x2)]) hx hb dJ7_fill_53178_4 rfl hl (by decide) rfl (fun ls hl => ?_)
  exact w_J7_fill_53178_5 X hK hA  fu a_p1 n1 o_p1   fu x2 (nI 0) y1 v_p1 hf _ _ _ hP (mp_D_of hD rfl) hS (lv_sub hl [2, 3, 1, 0] rfl)


def k_X7_clear (T : Nat → ClassId) (a_ a_order a_knows a_made a_sixteenths a_dots a_used a_stands : Nat) (v_inOrder : Int32) (v_place : Int32) (v_ill : Int32) (v_shut : Int32) (v_turns : Int32) (v_madeInAll : Int32) (v_dots : (Nat → Int32)) (v_knows : (Nat → Int32)) (v_made : (Nat → Int32)) (v_sixteenths : (Nat → Int32)) (v_stands : (Nat → Int32)) (v_used : (Nat → Int32)) : va_W := [(a_, oX7 a_order v_inOrder v_place a_knows a_made a_sixteenths a_dots a_used a_stands v_ill v_shut v_turns v_madeInAll), (a_dots, mp_aI T 36 v_dots), (a_knows, mp_aI T 8 v_knows), (a_made, mp_aI T 8 v_made), (a_sixteenths, mp_aI T 6 v_sixteenths), (a_stands, mp_aI T 6 v_stands), (a_used, mp_aI T 6 v_used)]
set_option maxHeartbeats 4000000 in
set_option maxRecDepth 100000 in
theorem c_X7_clear (l : Launch) (D : va_G) (T : Nat → ClassId) (fu : Nat) (a_ a_order a_knows a_made a_sixteenths a_dots a_used a_stands : Nat) (v_inOrder : Int32) (v_place : Int32) (v_ill : Int32) (v_shut : Int32) (v_turns : Int32) (v_madeInAll : Int32) (v_dots : (Nat → Int32)) (v_knows : (Nat → Int32)) (v_made : (Nat → Int32)) (v_sixteenths : (Nat → Int32)) (v_stands : (Nat → Int32)) (v_used : (Nat → Int32)) (o_inOrder : Int32) (o_place : Int32) (o_ill : Int32) (o_shut : Int32) (o_turns : Int32) (o_madeInAll : Int32) (o_dots : (Nat → Int32)) (o_knows : (Nat → Int32)) (o_made : (Nat → Int32)) (o_sixteenths : (Nat → Int32)) (o_stands : (Nat → Int32)) (o_used : (Nat → Int32)) (hf : f_X7_clear fu v_inOrder v_place v_ill v_shut v_turns v_madeInAll v_dots v_knows v_made v_sixteenths v_stands v_used = some (o_inOrder, o_place, o_ill, o_shut, o_turns, o_madeInAll, o_dots, o_knows, o_made, o_sixteenths, o_stands, o_used)) :
    mp_M l D T yX7_clear cX7_clear 1 none ({ frames := 1, cells := 0, slots := 0, locals := 23 }) 0 0 [.ref a_] (k_X7_clear T a_ a_order a_knows a_made a_sixteenths a_dots a_used a_stands v_inOrder v_place v_ill v_shut v_turns v_madeInAll v_dots v_knows v_made v_sixteenths v_stands v_used) (mp_Qv D (k_X7_clear T a_ a_order a_knows a_made a_sixteenths a_dots a_used a_stands o_inOrder o_place o_ill o_shut o_turns o_madeInAll o_dots o_knows o_made o_sixteenths o_stands o_used)) := by
  refine mp_of (by decide) (Nat.le_of_ble_eq_true rfl) rfl ?_
  intro p e s m args below meth c A ls X hK hP hD hS hA hl
  replace X : mp_X p s m meth c args RX7 "clear" cX7_clear 1 none := X
  have hx := X.1
  have hb := X.2.1
  have hml := X.2.2.1
  have hown := X.2.2.2.2.1
  have hts := X.2.2.2.2.2.1
  replace hl : lv_has ls 1 [(0, .ref a_)] := hl
  replace hf : bd_ (f_J7_fill_53178 fu 8 (nI 0) v_knows) (fun (u1 : (Nat → Int32)) => bd_ (f_J7_fill_53178 fu 8 (nI 0) v_made) (fun (u3 : (Nat → Int32)) => bd_ (f_J7_fill_53178 fu 6 (nI 0) v_sixteenths) (fun (u5 : (Nat → Int32)) => bd_ (f_J7_fill_53178 fu 36 (nI 0) v_dots) (fun (u7 : (Nat → Int32)) => bd_ (f_J7_fill_53178 fu 6 (nI 0) v_used) (fun (u9 : (Nat → Int32)) => bd_ (f_J7_fill_53178 fu 6 (nI 0) v_stands) (fun (u11 : (Nat → Int32)) => some ((nI 0), (nI 0), (nI 0), (nI 0), (nI 0), (nI 0), u7, u1, u3, u5, u11, u9))))))) = some (o_inOrder, o_place, o_ill, o_shut, o_turns, o_madeInAll, o_dots, o_knows, o_made, o_sixteenths, o_stands, o_used) := hf
  refine lv_aload_n hx hb dX7_clear_0 rfl (lv_at hl 0 rfl) ?_
  refine lv_iconst (v := (nI 0)) hx hb dX7_clear_1 (by decide) ?_
  refine mp_putf X fl_X7_15 fp_X7 rfl hK hP (mp_D_of hD rfl) hS 0 rfl rfl rfl (Nat.le_of_ble_eq_true rfl) dX7_clear_2 (fun H locs hP _ hS => ?_)
  replace hP : va_P D mp_cl (k_X7_clear T a_ a_order a_knows a_made a_sixteenths a_dots a_used a_stands (nI 0) v_place v_ill v_shut v_turns v_madeInAll v_dots v_knows v_made v_sixteenths v_stands v_used) H := hP
  refine lv_aload_n hx hb dX7_clear_5 rfl (lv_at hl 0 rfl) ?_
  refine lv_iconst (v := (nI 0)) hx hb dX7_clear_6 (by decide) ?_
  refine mp_putf X fl_X7_19 fp_X7 rfl hK hP (mp_D_of hD rfl) hS 0 rfl rfl rfl (Nat.le_of_ble_eq_true rfl) dX7_clear_7 (fun H locs hP _ hS => ?_)
  replace hP : va_P D mp_cl (k_X7_clear T a_ a_order a_knows a_made a_sixteenths a_dots a_used a_stands (nI 0) (nI 0) v_ill v_shut v_turns v_madeInAll v_dots v_knows v_made v_sixteenths v_stands v_used) H := hP
  refine lv_aload_n hx hb dX7_clear_10 rfl (lv_at hl 0 rfl) ?_
  refine lv_iconst (v := (nI 0)) hx hb dX7_clear_11 (by decide) ?_
  refine mp_putf X fl_X7_40 fp_X7 rfl hK hP (mp_D_of hD rfl) hS 0 rfl rfl rfl (Nat.le_of_ble_eq_true rfl) dX7_clear_12 (fun H locs hP _ hS => ?_)
  replace hP : va_P D mp_cl (k_X7_clear T a_ a_order a_knows a_made a_sixteenths a_dots a_used a_stands (nI 0) (nI 0) (nI 0) v_shut v_turns v_madeInAll v_dots v_knows v_made v_sixteenths v_stands v_used) H := hP
  refine lv_aload_n hx hb dX7_clear_15 rfl (lv_at hl 0 rfl) ?_
  refine lv_iconst (v := (nI 0)) hx hb dX7_clear_16 (by decide) ?_
  refine mp_putf X fl_X7_43 fp_X7 rfl hK hP (mp_D_of hD rfl) hS 0 rfl rfl rfl (Nat.le_of_ble_eq_true rfl) dX7_clear_17 (fun H locs hP _ hS => ?_)
  replace hP : va_P D mp_cl (k_X7_clear T a_ a_order a_knows a_made a_sixteenths a_dots a_used a_stands (nI 0) (nI 0) (nI 0) (nI 0) v_turns v_madeInAll v_dots v_knows v_made v_sixteenths v_stands v_used) H := hP
  refine lv_aload_n hx hb dX7_clear_20 rfl (lv_at hl 0 rfl) ?_
  refine lv_iconst (v := (nI 0)) hx hb dX7_clear_21 (by decide) ?_
  refine mp_putf X fl_X7_46 fp_X7 rfl hK hP (mp_D_of hD rfl) hS 0 rfl rfl rfl (Nat.le_of_ble_eq_true rfl) dX7_clear_22 (fun H locs hP _ hS => ?_)
  replace hP : va_P D mp_cl (k_X7_clear T a_ a_order a_knows a_made a_sixteenths a_dots a_used a_stands (nI 0) (nI 0) (nI 0) (nI 0) (nI 0) v_madeInAll v_dots v_knows v_made v_sixteenths v_stands v_used) H := hP
  refine lv_aload_n hx hb dX7_clear_25 rfl (lv_at hl 0 rfl) ?_
  refine lv_iconst (v := (nI 0)) hx hb dX7_clear_26 (by decide) ?_
  refine mp_putf X fl_X7_49 fp_X7 rfl hK hP (mp_D_of hD rfl) hS 0 rfl rfl rfl (Nat.le_of_ble_eq_true rfl) dX7_clear_27 (fun H locs hP _ hS => ?_)
  replace hP : va_P D mp_cl (k_X7_clear T a_ a_order a_knows a_made a_sixteenths a_dots a_used a_stands (nI 0) (nI 0) (nI 0) (nI 0) (nI 0) (nI 0) v_dots v_knows v_made v_sixteenths v_stands v_used) H := hP
  refine lv_aload_n hx hb dX7_clear_30 rfl (lv_at hl 0 rfl) ?_
  refine mp_get X fl_X7_22 hK hP 0 rfl rfl dX7_clear_31 ?_
  refine lv_iconst (v := (nI 0)) hx hb dX7_clear_34 (by decide) ?_
  obtain ⟨u1, c2, hf⟩ := bd_of hf
  have hPc := hP.sub (ws' := (k_J7_fill_53178 T a_knows 8 v_knows)) [2] rfl
  have hDc := (mp_D_of (w1 := (k_X7_clear T a_ a_order a_knows a_made a_sixteenths a_dots a_used a_stands (nI 0) (nI 0) (nI 0) (nI 0) (nI 0) (nI 0) v_dots v_knows v_made v_sixteenths v_stands v_used)) hD rfl).sub (ws' := (k_J7_fill_53178 T a_knows 8 v_knows)) [2] rfl rfl
  refine mp_callv (isC := [2]) (wc := (k_J7_fill_53178 T a_knows 8 v_knows)) (w1 := (k_J7_fill_53178 T a_knows 8 u1)) hP (mp_D_of hD rfl) hS hA rfl rfl (mp_runS (As := [.ref a_knows, .int (nI 0)]) (rest := []) X me_J7_fill_53178 lk_X7_52 (c_J7_fill_53178 l D T fu a_knows 8 (nI 0) v_knows u1 c2) rfl rfl ⟨(Nat.le_of_ble_eq_true rfl), (Nat.le_of_ble_eq_true rfl)⟩ hK hPc hDc rfl hl.1 rfl (Nat.le_of_ble_eq_true rfl) dX7_clear_35 ⟨Nat.zero_le _, Nat.zero_le _⟩) (fun H locs hP _ hS => ?_)
  replace hP : va_P D mp_cl (k_X7_clear T a_ a_order a_knows a_made a_sixteenths a_dots a_used a_stands (nI 0) (nI 0) (nI 0) (nI 0) (nI 0) (nI 0) v_dots u1 v_made v_sixteenths v_stands v_used) H := hP
  refine lv_aload_n hx hb dX7_clear_38 rfl (lv_at hl 0 rfl) ?_
  refine mp_get X fl_X7_25 hK hP 0 rfl rfl dX7_clear_39 ?_
  refine lv_iconst (v := (nI 0)) hx hb dX7_clear_42 (by decide) ?_
  obtain ⟨u3, c4, hf⟩ := bd_of hf
  have hPc := hP.sub (ws' := (k_J7_fill_53178 T a_made 8 v_made)) [3] rfl
  have hDc := (mp_D_of (w1 := (k_X7_clear T a_ a_order a_knows a_made a_sixteenths a_dots a_used a_stands (nI 0) (nI 0) (nI 0) (nI 0) (nI 0) (nI 0) v_dots u1 v_made v_sixteenths v_stands v_used)) hD rfl).sub (ws' := (k_J7_fill_53178 T a_made 8 v_made)) [3] rfl rfl
  refine mp_callv (isC := [3]) (wc := (k_J7_fill_53178 T a_made 8 v_made)) (w1 := (k_J7_fill_53178 T a_made 8 u3)) hP (mp_D_of hD rfl) hS hA rfl rfl (mp_runS (As := [.ref a_made, .int (nI 0)]) (rest := []) X me_J7_fill_53178 lk_X7_52 (c_J7_fill_53178 l D T fu a_made 8 (nI 0) v_made u3 c4) rfl rfl ⟨(Nat.le_of_ble_eq_true rfl), (Nat.le_of_ble_eq_true rfl)⟩ hK hPc hDc rfl hl.1 rfl (Nat.le_of_ble_eq_true rfl) dX7_clear_43 ⟨Nat.zero_le _, Nat.zero_le _⟩) (fun H locs hP _ hS => ?_)
  replace hP : va_P D mp_cl (k_X7_clear T a_ a_order a_knows a_made a_sixteenths a_dots a_used a_stands (nI 0) (nI 0) (nI 0) (nI 0) (nI 0) (nI 0) v_dots u1 u3 v_sixteenths v_stands v_used) H := hP
  refine lv_aload_n hx hb dX7_clear_46 rfl (lv_at hl 0 rfl) ?_
  refine mp_get X fl_X7_28 hK hP 0 rfl rfl dX7_clear_47 ?_
  refine lv_iconst (v := (nI 0)) hx hb dX7_clear_50 (by decide) ?_
  obtain ⟨u5, c6, hf⟩ := bd_of hf
  have hPc := hP.sub (ws' := (k_J7_fill_53178 T a_sixteenths 6 v_sixteenths)) [4] rfl
  have hDc := (mp_D_of (w1 := (k_X7_clear T a_ a_order a_knows a_made a_sixteenths a_dots a_used a_stands (nI 0) (nI 0) (nI 0) (nI 0) (nI 0) (nI 0) v_dots u1 u3 v_sixteenths v_stands v_used)) hD rfl).sub (ws' := (k_J7_fill_53178 T a_sixteenths 6 v_sixteenths)) [4] rfl rfl
  refine mp_callv (isC := [4]) (wc := (k_J7_fill_53178 T a_sixteenths 6 v_sixteenths)) (w1 := (k_J7_fill_53178 T a_sixteenths 6 u5)) hP (mp_D_of hD rfl) hS hA rfl rfl (mp_runS (As := [.ref a_sixteenths, .int (nI 0)]) (rest := []) X me_J7_fill_53178 lk_X7_52 (c_J7_fill_53178 l D T fu a_sixteenths 6 (nI 0) v_sixteenths u5 c6) rfl rfl ⟨(Nat.le_of_ble_eq_true rfl), (Nat.le_of_ble_eq_true rfl)⟩ hK hPc hDc rfl hl.1 rfl (Nat.le_of_ble_eq_true rfl) dX7_clear_51 ⟨Nat.zero_le _, Nat.zero_le _⟩) (fun H locs hP _ hS => ?_)
  replace hP : va_P D mp_cl (k_X7_clear T a_ a_order a_knows a_made a_sixteenths a_dots a_used a_stands (nI 0) (nI 0) (nI 0) (nI 0) (nI 0) (nI 0) v_dots u1 u3 u5 v_stands v_used) H := hP
  refine lv_aload_n hx hb dX7_clear_54 rfl (lv_at hl 0 rfl) ?_
  refine mp_get X fl_X7_31 hK hP 0 rfl rfl dX7_clear_55 ?_
  refine lv_iconst (v := (nI 0)) hx hb dX7_clear_58 (by decide) ?_
  obtain ⟨u7, c8, hf⟩ := bd_of hf
  have hPc := hP.sub (ws' := (k_J7_fill_53178 T a_dots 36 v_dots)) [1] rfl
  have hDc := (mp_D_of (w1 := (k_X7_clear T a_ a_order a_knows a_made a_sixteenths a_dots a_used a_stands (nI 0) (nI 0) (nI 0) (nI 0) (nI 0) (nI 0) v_dots u1 u3 u5 v_stands v_used)) hD rfl).sub (ws' := (k_J7_fill_53178 T a_dots 36 v_dots)) [1] rfl rfl
  refine mp_callv (isC := [1]) (wc := (k_J7_fill_53178 T a_dots 36 v_dots)) (w1 := (k_J7_fill_53178 T a_dots 36 u7)) hP (mp_D_of hD rfl) hS hA rfl rfl (mp_runS (As := [.ref a_dots, .int (nI 0)]) (rest := []) X me_J7_fill_53178 lk_X7_52 (c_J7_fill_53178 l D T fu a_dots 36 (nI 0) v_dots u7 c8) rfl rfl ⟨(Nat.le_of_ble_eq_true rfl), (Nat.le_of_ble_eq_true rfl)⟩ hK hPc hDc rfl hl.1 rfl (Nat.le_of_ble_eq_true rfl) dX7_clear_59 ⟨Nat.zero_le _, Nat.zero_le _⟩) (fun H locs hP _ hS => ?_)
  replace hP : va_P D mp_cl (k_X7_clear T a_ a_order a_knows a_made a_sixteenths a_dots a_used a_stands (nI 0) (nI 0) (nI 0) (nI 0) (nI 0) (nI 0) u7 u1 u3 u5 v_stands v_used) H := hP
  refine lv_aload_n hx hb dX7_clear_62 rfl (lv_at hl 0 rfl) ?_
  refine mp_get X fl_X7_34 hK hP 0 rfl rfl dX7_clear_63 ?_
  refine lv_iconst (v := (nI 0)) hx hb dX7_clear_66 (by decide) ?_
  obtain ⟨u9, c10, hf⟩ := bd_of hf
  have hPc := hP.sub (ws' := (k_J7_fill_53178 T a_used 6 v_used)) [6] rfl
  have hDc := (mp_D_of (w1 := (k_X7_clear T a_ a_order a_knows a_made a_sixteenths a_dots a_used a_stands (nI 0) (nI 0) (nI 0) (nI 0) (nI 0) (nI 0) u7 u1 u3 u5 v_stands v_used)) hD rfl).sub (ws' := (k_J7_fill_53178 T a_used 6 v_used)) [6] rfl rfl
  refine mp_callv (isC := [6]) (wc := (k_J7_fill_53178 T a_used 6 v_used)) (w1 := (k_J7_fill_53178 T a_used 6 u9)) hP (mp_D_of hD rfl) hS hA rfl rfl (mp_runS (As := [.ref a_used, .int (nI 0)]) (rest := []) X me_J7_fill_53178 lk_X7_52 (c_J7_fill_53178 l D T fu a_used 6 (nI 0) v_used u9 c10) rfl rfl ⟨(Nat.le_of_ble_eq_true rfl), (Nat.le_of_ble_eq_true rfl)⟩ hK hPc hDc rfl hl.1 rfl (Nat.le_of_ble_eq_true rfl) dX7_clear_67 ⟨Nat.zero_le _, Nat.zero_le _⟩) (fun H locs hP _ hS => ?_)
  replace hP : va_P D mp_cl (k_X7_clear T a_ a_order a_knows a_made a_sixteenths a_dots a_used a_stands (nI 0) (nI 0) (nI 0) (nI 0) (nI 0) (nI 0) u7 u1 u3 u5 v_stands u9) H := hP
  refine lv_aload_n hx hb dX7_clear_70 rfl (lv_at hl 0 rfl) ?_
  refine mp_get X fl_X7_37 hK hP 0 rfl rfl dX7_clear_71 ?_
  refine lv_iconst (v := (nI 0)) hx hb dX7_clear_74 (by decide) ?_
  obtain ⟨u11, c12, hf⟩ := bd_of hf
  have hPc := hP.sub (ws' := (k_J7_fill_53178 T a_stands 6 v_stands)) [5] rfl
  have hDc := (mp_D_of (w1 := (k_X7_clear T a_ a_order a_knows a_made a_sixteenths a_dots a_used a_stands (nI 0) (nI 0) (nI 0) (nI 0) (nI 0) (nI 0) u7 u1 u3 u5 v_stands u9)) hD rfl).sub (ws' := (k_J7_fill_53178 T a_stands 6 v_stands)) [5] rfl rfl
  refine mp_callv (isC := [5]) (wc := (k_J7_fill_53178 T a_stands 6 v_stands)) (w1 := (k_J7_fill_53178 T a_stands 6 u11)) hP (mp_D_of hD rfl) hS hA rfl rfl (mp_runS (As := [.ref a_stands, .int (nI 0)]) (rest := []) X me_J7_fill_53178 lk_X7_52 (c_J7_fill_53178 l D T fu a_stands 6 (nI 0) v_stands u11 c12) rfl rfl ⟨(Nat.le_of_ble_eq_true rfl), (Nat.le_of_ble_eq_true rfl)⟩ hK hPc hDc rfl hl.1 rfl (Nat.le_of_ble_eq_true rfl) dX7_clear_75 ⟨Nat.zero_le _, Nat.zero_le _⟩) (fun H locs hP _ hS => ?_)
  replace hP : va_P D mp_cl (k_X7_clear T a_ a_order a_knows a_made a_sixteenths a_dots a_used a_stands (nI 0) (nI 0) (nI 0) (nI 0) (nI 0) (nI 0) u7 u1 u3 u5 u11 u9) H := hP
  cases hf
  exact mp_retv X hP hS dX7_clear_78


