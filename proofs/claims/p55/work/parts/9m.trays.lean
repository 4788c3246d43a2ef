/-! the constructors -/
/-- what Trays() makes -/
def w_X9 (T : Nat → ClassId) (a : Nat) (q : Nat → Nat) : va_W := [(a, .inr (9, [.ref (q 0), .ref (q 5), .ref (q 6)])), ((q 0), mp_aR T 3 4 [(q 1), (q 2), (q 3), (q 4)]), ((q 1), mp_aJ T 60 (fun _ => lN 0)), ((q 2), mp_aJ T 60 (fun _ => lN 0)), ((q 3), mp_aJ T 60 (fun _ => lN 0)), ((q 4), mp_aJ T 60 (fun _ => lN 0)), ((q 5), mp_aI T 4 (fun _ => nI 0)), ((q 6), mp_aI T 4 (upd (upd (upd (upd (fun _ => nI 0) 0 (-1 : Int32)) 1 (-1 : Int32)) 2 (-1 : Int32)) 3 (-1 : Int32)))]
set_option maxHeartbeats 4000000 in
set_option maxRecDepth 100000 in
theorem i_X9 (l : Launch) (D : va_G) (T : Nat → ClassId) (a : Nat) : mp_ME l D T yX9_init cX9_init 1 none { frames := 1, cells := 7, slots := 252, locals := 23 } 7 252 [.ref a] [(a, .inr (9, [.null, .null, .null]))] (mp_Qc D (w_X9 T a)) := by
  refine mp_ofE (by decide) (Nat.le_of_ble_eq_true rfl) rfl ?_
  intro p e s m args below meth c A ls hZ X hK hP hD hS hA hl
  replace X : mp_X p s m meth c args RX9 "<init>" cX9_init 1 none := X
  have hx := X.1
  have hb := X.2.1
  have hml := X.2.2.1
  have hown := X.2.2.2.2.1
  have hts := X.2.2.2.2.2.1
  replace hl : lv_has ls 1 [(0, .ref a)] := hl
  replace hP : va_P D mp_cl [(a, .inr (9, [.null, .null, .null]))] s.heap := hP
  refine lv_aload_n hx hb dX9_init_0 rfl (lv_at hl 0 rfl) ?_
  refine mp_obj X lo_X9 hl.1 dX9_init_1 (Nat.le_of_ble_eq_true rfl) (Nat.le_of_ble_eq_true rfl) ?_
  refine lv_aload_n hx hb dX9_init_4 rfl (lv_at hl 0 rfl) ?_
  refine lv_iconst (v := (nI 4)) hx hb dX9_init_5 (by decide) ?_
  refine lv_bipush (v := (nI 60)) hx hb dX9_init_6 (by decide) ?_
  refine mp_newR X hZ cl_X9_9 hK hP hD hS hA (Nat.le_of_ble_eq_true rfl) (Nat.le_of_ble_eq_true rfl) dX9_init_8 (fun q1 q1_0 q1_1 q1_2 q1_3 H hP hD hS => ?_)
  replace hP : va_P D mp_cl [(a, .inr (9, [.null, .null, .null])), (q1, mp_aR T 3 4 [q1_0, q1_1, q1_2, q1_3]), (q1_0, mp_aJ T 60 (fun _ => lN 0)), (q1_1, mp_aJ T 60 (fun _ => lN 0)), (q1_2, mp_aJ T 60 (fun _ => lN 0)), (q1_3, mp_aJ T 60 (fun _ => lN 0))] H := hP
  replace hD : va_D A [(a, .inr (9, [.null, .null, .null])), (q1, mp_aR T 3 4 [q1_0, q1_1, q1_2, q1_3]), (q1_0, mp_aJ T 60 (fun _ => lN 0)), (q1_1, mp_aJ T 60 (fun _ => lN 0)), (q1_2, mp_aJ T 60 (fun _ => lN 0)), (q1_3, mp_aJ T 60 (fun _ => lN 0))] := hD
  refine mp_putF X fl_X9_11 fp_X9 rfl hK hP hD hS 0 rfl rfl rfl (Nat.le_of_ble_eq_true rfl) dX9_init_12 (fun H locs hP hD hS => ?_)
  replace hP : va_P D mp_cl [(a, .inr (9, [.ref q1, .null, .null])), (q1, mp_aR T 3 4 [q1_0, q1_1, q1_2, q1_3]), (q1_0, mp_aJ T 60 (fun _ => lN 0)), (q1_1, mp_aJ T 60 (fun _ => lN 0)), (q1_2, mp_aJ T 60 (fun _ => lN 0)), (q1_3, mp_aJ T 60 (fun _ => lN 0))] H := hP
  replace hD : va_D A [(a, .inr (9, [.ref q1, .null, .null])), (q1, mp_aR T 3 4 [q1_0, q1_1, q1_2, q1_3]), (q1_0, mp_aJ T 60 (fun _ => lN 0)), (q1_1, mp_aJ T 60 (fun _ => lN 0)), (q1_2, mp_aJ T 60 (fun _ => lN 0)), (q1_3, mp_aJ T 60 (fun _ => lN 0))] := hD
  refine lv_aload_n hx hb dX9_init_15 rfl (lv_at hl 0 rfl) ?_
  refine lv_iconst (v := (nI 4)) hx hb dX9_init_16 (by decide) ?_
  refine mp_newI (N := 4) X hK hP hD hS hA (by decide) (by decide) (by decide) (Nat.le_of_ble_eq_true rfl) (Nat.le_of_ble_eq_true rfl) dX9_init_17 (fun q2 H hP hD hS => ?_)
  replace hP : va_P D mp_cl [(a, .inr (9, [.ref q1, .null, .null])), (q1, mp_aR T 3 4 [q1_0, q1_1, q1_2, q1_3]), (q1_0, mp_aJ T 60 (fun _ => lN 0)), (q1_1, mp_aJ T 60 (fun _ => lN 0)), (q1_2, mp_aJ T 60 (fun _ => lN 0)), (q1_3, mp_aJ T 60 (fun _ => lN 0)), (q2, mp_aI T 4 (fun _ => nI 0))] H := hP
  replace hD : va_D A [(a, .inr (9, [.ref q1, .null, .null])), (q1, mp_aR T 3 4 [q1_0, q1_1, q1_2, q1_3]), (q1_0, mp_aJ T 60 (fun _ => lN 0)), (q1_1, mp_aJ T 60 (fun _ => lN 0)), (q1_2, mp_aJ T 60 (fun _ => lN 0)), (q1_3, mp_aJ T 60 (fun _ => lN 0)), (q2, mp_aI T 4 (fun _ => nI 0))] := hD
  refine mp_putF X fl_X9_16 fp_X9 rfl hK hP hD hS 0 rfl rfl rfl (Nat.le_of_ble_eq_true rfl) dX9_init_19 (fun H locs hP hD hS => ?_)
  replace hP : va_P D mp_cl [(a, .inr (9, [.ref q1, .ref q2, .null])), (q1, mp_aR T 3 4 [q1_0, q1_1, q1_2, q1_3]), (q1_0, mp_aJ T 60 (fun _ => lN 0)), (q1_1, mp_aJ T 60 (fun _ => lN 0)), (q1_2, mp_aJ T 60 (fun _ => lN 0)), (q1_3, mp_aJ T 60 (fun _ => lN 0)), (q2, mp_aI T 4 (fun _ => nI 0))] H := hP
  replace hD : va_D A [(a, .inr (9, [.ref q1, .ref q2, .null])), (q1, mp_aR T 3 4 [q1_0, q1_1, q1_2, q1_3]), (q1_0, mp_aJ T 60 (fun _ => lN 0)), (q1_1, mp_aJ T 60 (fun _ => lN 0)), (q1_2, mp_aJ T 60 (fun _ => lN 0)), (q1_3, mp_aJ T 60 (fun _ => lN 0)), (q2, mp_aI T 4 (fun _ => nI 0))] := hD
  refine lv_aload_n hx hb dX9_init_22 rfl (lv_at hl 0 rfl) ?_
  refine lv_iconst (v := (nI 4)) hx hb dX9_init_23 (by decide) ?_
  refine mp_newI (N := 4) X hK hP hD hS hA (by decide) (by decide) (by decide) (Nat.le_of_ble_eq_true rfl) (Nat.le_of_ble_eq_true rfl) dX9_init_24 (fun q3 H hP hD hS => ?_)
  replace hP : va_P D mp_cl [(a, .inr (9, [.ref q1, .ref q2, .null])), (q1, mp_aR T 3 4 [q1_0, q1_1, q1_2, q1_3]), (q1_0, mp_aJ T 60 (fun _ => lN 0)), (q1_1, mp_aJ T 60 (fun _ => lN 0)), (q1_2, mp_aJ T 60 (fun _ => lN 0)), (q1_3, mp_aJ T 60 (fun _ => lN 0)), (q2, mp_aI T 4 (fun _ => nI 0)), (q3, mp_aI T 4 (fun _ => nI 0))] H := hP
  replace hD : va_D A [(a, .inr (9, [.ref q1, .ref q2, .null])), (q1, mp_aR T 3 4 [q1_0, q1_1, q1_2, q1_3]), (q1_0, mp_aJ T 60 (fun _ => lN 0)), (q1_1, mp_aJ T 60 (fun _ => lN 0)), (q1_2, mp_aJ T 60 (fun _ => lN 0)), (q1_3, mp_aJ T 60 (fun _ => lN 0)), (q2, mp_aI T 4 (fun _ => nI 0)), (q3, mp_aI T 4 (fun _ => nI 0))] := hD
  refine mp_putF X fl_X9_20 fp_X9 rfl hK hP hD hS 0 rfl rfl rfl (Nat.le_of_ble_eq_true rfl) dX9_init_26 (fun H locs hP hD hS => ?_)
  replace hP : va_P D mp_cl [(a, .inr (9, [.ref q1, .ref q2, .ref q3])), (q1, mp_aR T 3 4 [q1_0, q1_1, q1_2, q1_3]), (q1_0, mp_aJ T 60 (fun _ => lN 0)), (q1_1, mp_aJ T 60 (fun _ => lN 0)), (q1_2, mp_aJ T 60 (fun _ => lN 0)), (q1_3, mp_aJ T 60 (fun _ => lN 0)), (q2, mp_aI T 4 (fun _ => nI 0)), (q3, mp_aI T 4 (fun _ => nI 0))] H := hP
  replace hD : va_D A [(a, .inr (9, [.ref q1, .ref q2, .ref q3])), (q1, mp_aR T 3 4 [q1_0, q1_1, q1_2, q1_3]), (q1_0, mp_aJ T 60 (fun _ => lN 0)), (q1_1, mp_aJ T 60 (fun _ => lN 0)), (q1_2, mp_aJ T 60 (fun _ => lN 0)), (q1_3, mp_aJ T 60 (fun _ => lN 0)), (q2, mp_aI T 4 (fun _ => nI 0)), (q3, mp_aI T 4 (fun _ => nI 0))] := hD
  refine lv_aload_n hx hb dX9_init_29 rfl (lv_at hl 0 rfl) ?_
  refine mp_get X fl_X9_20 hK hP 0 rfl rfl dX9_init_30 ?_
  refine lv_iconst (v := (-1 : Int32)) hx hb dX9_init_33 (by decide) ?_
  have hPc := hP.sub (ws' := (k_J7_fill_53178 T q3 4 (fun _ => nI 0))) [7] rfl
  have hDc := hD.sub (ws' := (k_J7_fill_53178 T q3 4 (fun _ => nI 0))) [7] (by decide) rfl
  refine mp_callv (isC := [7]) (wc := (k_J7_fill_53178 T q3 4 (fun _ => nI 0))) (w1 := (k_J7_fill_53178 T q3 4 (upd (upd (upd (upd (fun _ => nI 0) 0 (-1 : Int32)) 1 (-1 : Int32)) 2 (-1 : Int32)) 3 (-1 : Int32)))) hP hD hS hA rfl rfl (mp_runS (As := [.ref q3, .int (-1 : Int32)]) (rest := []) X me_J7_fill_53178 lk_X9_23 (c_J7_fill_53178 l D T 100 q3 4 (-1 : Int32) (fun _ => nI 0) _ c_fill4) rfl rfl ⟨(Nat.le_of_ble_eq_true rfl), (Nat.le_of_ble_eq_true rfl)⟩ hK hPc hDc rfl hl.1 rfl (Nat.le_of_ble_eq_true rfl) dX9_init_34 ⟨(Nat.le_of_ble_eq_true rfl), (Nat.le_of_ble_eq_true rfl)⟩) (fun H locs hP hD hS => ?_)
  replace hP : va_P D mp_cl [(a, .inr (9, [.ref q1, .ref q2, .ref q3])), (q1, mp_aR T 3 4 [q1_0, q1_1, q1_2, q1_3]), (q1_0, mp_aJ T 60 (fun _ => lN 0)), (q1_1, mp_aJ T 60 (fun _ => lN 0)), (q1_2, mp_aJ T 60 (fun _ => lN 0)), (q1_3, mp_aJ T 60 (fun _ => lN 0)), (q2, mp_aI T 4 (fun _ => nI 0)), (q3, mp_aI T 4 (upd (upd (upd (upd (fun _ => nI 0) 0 (-1 : Int32)) 1 (-1 : Int32)) 2 (-1 : Int32)) 3 (-1 : Int32)))] H := hP
  replace hD : va_D A [(a, .inr (9, [.ref q1, .ref q2, .ref q3])), (q1, mp_aR T 3 4 [q1_0, q1_1, q1_2, q1_3]), (q1_0, mp_aJ T 60 (fun _ => lN 0)), (q1_1, mp_aJ T 60 (fun _ => lN 0)), (q1_2, mp_aJ T 60 (fun _ => lN 0)), (q1_3, mp_aJ T 60 (fun _ => lN 0)), (q2, mp_aI T 4 (fun _ => nI 0)), (q3, mp_aI T 4 (upd (upd (upd (upd (fun _ => nI 0) 0 (-1 : Int32)) 1 (-1 : Int32)) 2 (-1 : Int32)) 3 (-1 : Int32)))] := hD
  exact mp_retc (w1 := w_X9 T a) (q := fun k => match k with | 0 => q1 | 1 => q1_0 | 2 => q1_1 | 3 => q1_2 | 4 => q1_3 | 5 => q2 | _ => q3) X hP hD hS dX9_init_37
