/-! the constructors -/
/-- what State() makes -/
def w_X7 (T : Nat → ClassId) (a : Nat) (q : Nat → Nat) : va_W := [(a, .inr (7, [.ref (q 0), .int (nI 0), .int (nI 0), .ref (q 1), .ref (q 2), .ref (q 3), .ref (q 4), .ref (q 5), .ref (q 6), .int (nI 0), .int (nI 0), .int (nI 0), .int (nI 0)])), ((q 0), mp_aI T 8 (fun _ => nI 0)), ((q 1), mp_aI T 8 (fun _ => nI 0)), ((q 2), mp_aI T 8 (fun _ => nI 0)), ((q 3), mp_aI T 6 (fun _ => nI 0)), ((q 4), mp_aI T 36 (fun _ => nI 0)), ((q 5), mp_aI T 6 (fun _ => nI 0)), ((q 6), mp_aI T 6 (fun _ => nI 0))]
set_option maxHeartbeats 4000000 in
set_option maxRecDepth 100000 in
theorem i_X7 (l : Launch) (D : va_G) (T : Nat → ClassId) (a : Nat) : mp_M l D T yX7_init cX7_init 1 none { frames := 1, cells := 7, slots := 78, locals := 20 } 7 78 [.ref a] [(a, .inr (7, [.null, .int (nI 0), .int (nI 0), .null, .null, .null, .null, .null, .null, .int (nI 0), .int (nI 0), .int (nI 0), .int (nI 0)]))] (mp_Qc D (w_X7 T a)) := by
  refine mp_of (by decide) (Nat.le_of_ble_eq_true rfl) rfl ?_
  intro p e s m args below meth c A ls X hK hP hD hS hA hl
  replace X : mp_X p s m meth c args RX7 "<init>" cX7_init 1 none := X
  have hx := X.1
  have hb := X.2.1
  have hml := X.2.2.1
  have hown := X.2.2.2.2.1
  have hts := X.2.2.2.2.2.1
  replace hl : lv_has ls 1 [(0, .ref a)] := hl
  replace hP : va_P D mp_cl [(a, .inr (7, [.null, .int (nI 0), .int (nI 0), .null, .null, .null, .null, .null, .null, .int (nI 0), .int (nI 0), .int (nI 0), .int (nI 0)]))] s.heap := hP
  refine lv_aload_n hx hb dX7_init_0 rfl (lv_at hl 0 rfl) ?_
  refine mp_obj X lo_X7 hl.1 dX7_init_1 (Nat.le_of_ble_eq_true rfl) (Nat.le_of_ble_eq_true rfl) ?_
  refine lv_aload_n hx hb dX7_init_4 rfl (lv_at hl 0 rfl) ?_
  refine lv_bipush (v := (nI 8)) hx hb dX7_init_5 (by decide) ?_
  refine mp_newI (N := 8) X hK hP hD hS hA (by decide) (by decide) (by decide) (Nat.le_of_ble_eq_true rfl) (Nat.le_of_ble_eq_true rfl) dX7_init_7 (fun q1 H hP hD hS => ?_)
  replace hP : va_P D mp_cl [(a, .inr (7, [.null, .int (nI 0), .int (nI 0), .null, .null, .null, .null, .null, .null, .int (nI 0), .int (nI 0), .int (nI 0), .int (nI 0)])), (q1, mp_aI T 8 (fun _ => nI 0))] H := hP
  replace hD : va_D A [(a, .inr (7, [.null, .int (nI 0), .int (nI 0), .null, .null, .null, .null, .null, .null, .int (nI 0), .int (nI 0), .int (nI 0), .int (nI 0)])), (q1, mp_aI T 8 (fun _ => nI 0))] := hD
  refine mp_putF X fl_X7_9 fp_X7 rfl hK hP hD hS 0 rfl rfl rfl (Nat.le_of_ble_eq_true rfl) dX7_init_9 (fun H locs hP hD hS => ?_)
  replace hP : va_P D mp_cl [(a, .inr (7, [.ref q1, .int (nI 0), .int (nI 0), .null, .null, .null, .null, .null, .null, .int (nI 0), .int (nI 0), .int (nI 0), .int (nI 0)])), (q1, mp_aI T 8 (fun _ => nI 0))] H := hP
  replace hD : va_D A [(a, .inr (7, [.ref q1, .int (nI 0), .int (nI 0), .null, .null, .null, .null, .null, .null, .int (nI 0), .int (nI 0), .int (nI 0), .int (nI 0)])), (q1, mp_aI T 8 (fun _ => nI 0))] := hD
  refine lv_aload_n hx hb dX7_init_12 rfl (lv_at hl 0 rfl) ?_
  refine lv_iconst (v := (nI 0)) hx hb dX7_init_13 (by decide) ?_
  refine mp_putf X fl_X7_15 fp_X7 rfl hK hP hD hS 0 rfl rfl rfl (Nat.le_of_ble_eq_true rfl) dX7_init_14 (fun H locs hP hD hS => ?_)
  replace hP : va_P D mp_cl [(a, .inr (7, [.ref q1, .int (nI 0), .int (nI 0), .null, .null, .null, .null, .null, .null, .int (nI 0), .int (nI 0), .int (nI 0), .int (nI 0)])), (q1, mp_aI T 8 (fun _ => nI 0))] H := hP
  replace hD : va_D A [(a, .inr (7, [.ref q1, .int (nI 0), .int (nI 0), .null, .null, .null, .null, .null, .null, .int (nI 0), .int (nI 0), .int (nI 0), .int (nI 0)])), (q1, mp_aI T 8 (fun _ => nI 0))] := hD
  refine lv_aload_n hx hb dX7_init_17 rfl (lv_at hl 0 rfl) ?_
  refine lv_iconst (v := (nI 0)) hx hb dX7_init_18 (by decide) ?_
  refine mp_putf X fl_X7_19 fp_X7 rfl hK hP hD hS 0 rfl rfl rfl (Nat.le_of_ble_eq_true rfl) dX7_init_19 (fun H locs hP hD hS => ?_)
  replace hP : va_P D mp_cl [(a, .inr (7, [.ref q1, .int (nI 0), .int (nI 0), .null, .null, .null, .null, .null, .null, .int (nI 0), .int (nI 0), .int (nI 0), .int (nI 0)])), (q1, mp_aI T 8 (fun _ => nI 0))] H := hP
  replace hD : va_D A [(a, .inr (7, [.ref q1, .int (nI 0), .int (nI 0), .null, .null, .null, .null, .null, .null, .int (nI 0), .int (nI 0), .int (nI 0), .int (nI 0)])), (q1, mp_aI T 8 (fun _ => nI 0))] := hD
  refine lv_aload_n hx hb dX7_init_22 rfl (lv_at hl 0 rfl) ?_
  refine lv_bipush (v := (nI 8)) hx hb dX7_init_23 (by decide) ?_
  refine mp_newI (N := 8) X hK hP hD hS hA (by decide) (by decide) (by decide) (Nat.le_of_ble_eq_true rfl) (Nat.le_of_ble_eq_true rfl) dX7_init_25 (fun q2 H hP hD hS => ?_)
  replace hP : va_P D mp_cl [(a, .inr (7, [.ref q1, .int (nI 0), .int (nI 0), .null, .null, .null, .null, .null, .null, .int (nI 0), .int (nI 0), .int (nI 0), .int (nI 0)])), (q1, mp_aI T 8 (fun _ => nI 0)), (q2, mp_aI T 8 (fun _ => nI 0))] H := hP
  replace hD : va_D A [(a, .inr (7, [.ref q1, .int (nI 0), .int (nI 0), .null, .null, .null, .null, .null, .null, .int (nI 0), .int (nI 0), .int (nI 0), .int (nI 0)])), (q1, mp_aI T 8 (fun _ => nI 0)), (q2, mp_aI T 8 (fun _ => nI 0))] := hD
  refine mp_putF X fl_X7_22 fp_X7 rfl hK hP hD hS 0 rfl rfl rfl (Nat.le_of_ble_eq_true rfl) dX7_init_27 (fun H locs hP hD hS => ?_)
  replace hP : va_P D mp_cl [(a, .inr (7, [.ref q1, .int (nI 0), .int (nI 0), .ref q2, .null, .null, .null, .null, .null, .int (nI 0), .int (nI 0), .int (nI 0), .int (nI 0)])), (q1, mp_aI T 8 (fun _ => nI 0)), (q2, mp_aI T 8 (fun _ => nI 0))] H := hP
  replace hD : va_D A [(a, .inr (7, [.ref q1, .int (nI 0), .int (nI 0), .ref q2, .null, .null, .null, .null, .null, .int (nI 0), .int (nI 0), .int (nI 0), .int (nI 0)])), (q1, mp_aI T 8 (fun _ => nI 0)), (q2, mp_aI T 8 (fun _ => nI 0))] := hD
  refine lv_aload_n hx hb dX7_init_30 rfl (lv_at hl 0 rfl) ?_
  refine lv_bipush (v := (nI 8)) hx hb dX7_init_31 (by decide) ?_
  refine mp_newI (N := 8) X hK hP hD hS hA (by decide) (by decide) (by decide) (Nat.le_of_ble_eq_true rfl) (Nat.le_of_ble_eq_true rfl) dX7_init_33 (fun q3 H hP hD hS => ?_)
  replace hP : va_P D mp_cl [(a, .inr (7, [.ref q1, .int (nI 0), .int (nI 0), .ref q2, .null, .null, .null, .null, .null, .int (nI 0), .int (nI 0), .int (nI 0), .int (nI 0)])), (q1, mp_aI T 8 (fun _ => nI 0)), (q2, mp_aI T 8 (fun _ => nI 0)), (q3, mp_aI T 8 (fun _ => nI 0))] H := hP
  replace hD : va_D A [(a, .inr (7, [.ref q1, .int (nI 0), .int (nI 0), .ref q2, .null, .null, .null, .null, .null, .int (nI 0), .int (nI 0), .int (nI 0), .int (nI 0)])), (q1, mp_aI T 8 (fun _ => nI 0)), (q2, mp_aI T 8 (fun _ => nI 0)), (q3, mp_aI T 8 (fun _ => nI 0))] := hD
  refine mp_putF X fl_X7_25 fp_X7 rfl hK hP hD hS 0 rfl rfl rfl (Nat.le_of_ble_eq_true rfl) dX7_init_35 (fun H locs hP hD hS => ?_)
  replace hP : va_P D mp_cl [(a, .inr (7, [.ref q1, .int (nI 0), .int (nI 0), .ref q2, .ref q3, .null, .null, .null, .null, .int (nI 0), .int (nI 0), .int (nI 0), .int (nI 0)])), (q1, mp_aI T 8 (fun _ => nI 0)), (q2, mp_aI T 8 (fun _ => nI 0)), (q3, mp_aI T 8 (fun _ => nI 0))] H := hP
  replace hD : va_D A [(a, .inr (7, [.ref q1, .int (nI 0), .int (nI 0), .ref q2, .ref q3, .null, .null, .null, .null, .int (nI 0), .int (nI 0), .int (nI 0), .int (nI 0)])), (q1, mp_aI T 8 (fun _ => nI 0)), (q2, mp_aI T 8 (fun _ => nI 0)), (q3, mp_aI T 8 (fun _ => nI 0))] := hD
  refine lv_aload_n hx hb dX7_init_38 rfl (lv_at hl 0 rfl) ?_
  refine lv_bipush (v := (nI 6)) hx hb dX7_init_39 (by decide) ?_
  refine mp_newI (N := 6) X hK hP hD hS hA (by decide) (by decide) (by decide) (Nat.le_of_ble_eq_true rfl) (Nat.le_of_ble_eq_true rfl) dX7_init_41 (fun q4 H hP hD hS => ?_)
  replace hP : va_P D mp_cl [(a, .inr (7, [.ref q1, .int (nI 0), .int (nI 0), .ref q2, .ref q3, .null, .null, .null, .null, .int (nI 0), .int (nI 0), .int (nI 0), .int (nI 0)])), (q1, mp_aI T 8 (fun _ => nI 0)), (q2, mp_aI T 8 (fun _ => nI 0)), (q3, mp_aI T 8 (fun _ => nI 0)), (q4, mp_aI T 6 (fun _ => nI 0))] H := hP
  replace hD : va_D A [(a, .inr (7, [.ref q1, .int (nI 0), .int (nI 0), .ref q2, .ref q3, .null, .null, .null, .null, .int (nI 0), .int (nI 0), .int (nI 0), .int (nI 0)])), (q1, mp_aI T 8 (fun _ => nI 0)), (q2, mp_aI T 8 (fun _ => nI 0)), (q3, mp_aI T 8 (fun _ => nI 0)), (q4, mp_aI T 6 (fun _ => nI 0))] := hD
  refine mp_putF X fl_X7_28 fp_X7 rfl hK hP hD hS 0 rfl rfl rfl (Nat.le_of_ble_eq_true rfl) dX7_init_43 (fun H locs hP hD hS => ?_)
  replace hP : va_P D mp_cl [(a, .inr (7, [.ref q1, .int (nI 0), .int (nI 0), .ref q2, .ref q3, .ref q4, .null, .null, .null, .int (nI 0), .int (nI 0), .int (nI 0), .int (nI 0)])), (q1, mp_aI T 8 (fun _ => nI 0)), (q2, mp_aI T 8 (fun _ => nI 0)), (q3, mp_aI T 8 (fun _ => nI 0)), (q4, mp_aI T 6 (fun _ => nI 0))] H := hP
  replace hD : va_D A [(a, .inr (7, [.ref q1, .int (nI 0), .int (nI 0), .ref q2, .ref q3, .ref q4, .null, .null, .null, .int (nI 0), .int (nI 0), .int (nI 0), .int (nI 0)])), (q1, mp_aI T 8 (fun _ => nI 0)), (q2, mp_aI T 8 (fun _ => nI 0)), (q3, mp_aI T 8 (fun _ => nI 0)), (q4, mp_aI T 6 (fun _ => nI 0))] := hD
  refine lv_aload_n hx hb dX7_init_46 rfl (lv_at hl 0 rfl) ?_
  refine lv_bipush (v := (nI 36)) hx hb dX7_init_47 (by decide) ?_
  refine mp_newI (N := 36) X hK hP hD hS hA (by decide) (by decide) (by decide) (Nat.le_of_ble_eq_true rfl) (Nat.le_of_ble_eq_true rfl) dX7_init_49 (fun q5 H hP hD hS => ?_)
  replace hP : va_P D mp_cl [(a, .inr (7, [.ref q1, .int (nI 0), .int (nI 0), .ref q2, .ref q3, .ref q4, .null, .null, .null, .int (nI 0), .int (nI 0), .int (nI 0), .int (nI 0)])), (q1, mp_aI T 8 (fun _ => nI 0)), (q2, mp_aI T 8 (fun _ => nI 0)), (q3, mp_aI T 8 (fun _ => nI 0)), (q4, mp_aI T 6 (fun _ => nI 0)), (q5, mp_aI T 36 (fun _ => nI 0))] H := hP
  replace hD : va_D A [(a, .inr (7, [.ref q1, .int (nI 0), .int (nI 0), .ref q2, .ref q3, .ref q4, .null, .null, .null, .int (nI 0), .int (nI 0), .int (nI 0), .int (nI 0)])), (q1, mp_aI T 8 (fun _ => nI 0)), (q2, mp_aI T 8 (fun _ => nI 0)), (q3, mp_aI T 8 (fun _ => nI 0)), (q4, mp_aI T 6 (fun _ => nI 0)), (q5, mp_aI T 36 (fun _ => nI 0))] := hD
  refine mp_putF X fl_X7_31 fp_X7 rfl hK hP hD hS 0 rfl rfl rfl (Nat.le_of_ble_eq_true rfl) dX7_init_51 (fun H locs hP hD hS => ?_)
  replace hP : va_P D mp_cl [(a, .inr (7, [.ref q1, .int (nI 0), .int (nI 0), .ref q2, .ref q3, .ref q4, .ref q5, .null, .null, .int (nI 0), .int (nI 0), .int (nI 0), .int (nI 0)])), (q1, mp_aI T 8 (fun _ => nI 0)), (q2, mp_aI T 8 (fun _ => nI 0)), (q3, mp_aI T 8 (fun _ => nI 0)), (q4, mp_aI T 6 (fun _ => nI 0)), (q5, mp_aI T 36 (fun _ => nI 0))] H := hP
  replace hD : va_D A [(a, .inr (7, [.ref q1, .int (nI 0), .int (nI 0), .ref q2, .ref q3, .ref q4, .ref q5, .null, .null, .int (nI 0), .int (nI 0), .int (nI 0), .int (nI 0)])), (q1, mp_aI T 8 (fun _ => nI 0)), (q2, mp_aI T 8 (fun _ => nI 0)), (q3, mp_aI T 8 (fun _ => nI 0)), (q4, mp_aI T 6 (fun _ => nI 0)), (q5, mp_aI T 36 (fun _ => nI 0))] := hD
  refine lv_aload_n hx hb dX7_init_54 rfl (lv_at hl 0 rfl) ?_
  refine lv_bipush (v := (nI 6)) hx hb dX7_init_55 (by decide) ?_
  refine mp_newI (N := 6) X hK hP hD hS hA (by decide) (by decide) (by decide) (Nat.le_of_ble_eq_true rfl) (Nat.le_of_ble_eq_true rfl) dX7_init_57 (fun q6 H hP hD hS => ?_)
  replace hP : va_P D mp_cl [(a, .inr (7, [.ref q1, .int (nI 0), .int (nI 0), .ref q2, .ref q3, .ref q4, .ref q5, .null, .null, .int (nI 0), .int (nI 0), .int (nI 0), .int (nI 0)])), (q1, mp_aI T 8 (fun _ => nI 0)), (q2, mp_aI T 8 (fun _ => nI 0)), (q3, mp_aI T 8 (fun _ => nI 0)), (q4, mp_aI T 6 (fun _ => nI 0)), (q5, mp_aI T 36 (fun _ => nI 0)), (q6, mp_aI T 6 (fun _ => nI 0))] H := hP
  replace hD : va_D A [(a, .inr (7, [.ref q1, .int (nI 0), .int (nI 0), .ref q2, .ref q3, .ref q4, .ref q5, .null, .null, .int (nI 0), .int (nI 0), .int (nI 0), .int (nI 0)])), (q1, mp_aI T 8 (fun _ => nI 0)), (q2, mp_aI T 8 (fun _ => nI 0)), (q3, mp_aI T 8 (fun _ => nI 0)), (q4, mp_aI T 6 (fun _ => nI 0)), (q5, mp_aI T 36 (fun _ => nI 0)), (q6, mp_aI T 6 (fun _ => nI 0))] := hD
  refine mp_putF X fl_X7_34 fp_X7 rfl hK hP hD hS 0 rfl rfl rfl (Nat.le_of_ble_eq_true rfl) dX7_init_59 (fun H locs hP hD hS => ?_)
  replace hP : va_P D mp_cl [(a, .inr (7, [.ref q1, .int (nI 0), .int (nI 0), .ref q2, .ref q3, .ref q4, .ref q5, .ref q6, .null, .int (nI 0), .int (nI 0), .int (nI 0), .int (nI 0)])), (q1, mp_aI T 8 (fun _ => nI 0)), (q2, mp_aI T 8 (fun _ => nI 0)), (q3, mp_aI T 8 (fun _ => nI 0)), (q4, mp_aI T 6 (fun _ => nI 0)), (q5, mp_aI T 36 (fun _ => nI 0)), (q6, mp_aI T 6 (fun _ => nI 0))] H := hP
  replace hD : va_D A [(a, .inr (7, [.ref q1, .int (nI 0), .int (nI 0), .ref q2, .ref q3, .ref q4, .ref q5, .ref q6, .null, .int (nI 0), .int (nI 0), .int (nI 0), .int (nI 0)])), (q1, mp_aI T 8 (fun _ => nI 0)), (q2, mp_aI T 8 (fun _ => nI 0)), (q3, mp_aI T 8 (fun _ => nI 0)), (q4, mp_aI T 6 (fun _ => nI 0)), (q5, mp_aI T 36 (fun _ => nI 0)), (q6, mp_aI T 6 (fun _ => nI 0))] := hD
  refine lv_aload_n hx hb dX7_init_62 rfl (lv_at hl 0 rfl) ?_
  refine lv_bipush (v := (nI 6)) hx hb dX7_init_63 (by decide) ?_
  refine mp_newI (N := 6) X hK hP hD hS hA (by decide) (by decide) (by decide) (Nat.le_of_ble_eq_true rfl) (Nat.le_of_ble_eq_true rfl) dX7_init_65 (fun q7 H hP hD hS => ?_)
  replace hP : va_P D mp_cl [(a, .inr (7, [.ref q1, .int (nI 0), .int (nI 0), .ref q2, .ref q3, .ref q4, .ref q5, .ref q6, .null, .int (nI 0), .int (nI 0), .int (nI 0), .int (nI 0)])), (q1, mp_aI T 8 (fun _ => nI 0)), (q2, mp_aI T 8 (fun _ => nI 0)), (q3, mp_aI T 8 (fun _ => nI 0)), (q4, mp_aI T 6 (fun _ => nI 0)), (q5, mp_aI T 36 (fun _ => nI 0)), (q6, mp_aI T 6 (fun _ => nI 0)), (q7, mp_aI T 6 (fun _ => nI 0))] H := hP
  replace hD : va_D A [(a, .inr (7, [.ref q1, .int (nI 0), .int (nI 0), .ref q2, .ref q3, .ref q4, .ref q5, .ref q6, .null, .int (nI 0), .int (nI 0), .int (nI 0), .int (nI 0)])), (q1, mp_aI T 8 (fun _ => nI 0)), (q2, mp_aI T 8 (fun _ => nI 0)), (q3, mp_aI T 8 (fun _ => nI 0)), (q4, mp_aI T 6 (fun _ => nI 0)), (q5, mp_aI T 36 (fun _ => nI 0)), (q6, mp_aI T 6 (fun _ => nI 0)), (q7, mp_aI T 6 (fun _ => nI 0))] := hD
  refine mp_putF X fl_X7_37 fp_X7 rfl hK hP hD hS 0 rfl rfl rfl (Nat.le_of_ble_eq_true rfl) dX7_init_67 (fun H locs hP hD hS => ?_)
  replace hP : va_P D mp_cl [(a, .inr (7, [.ref q1, .int (nI 0), .int (nI 0), .ref q2, .ref q3, .ref q4, .ref q5, .ref q6, .ref q7, .int (nI 0), .int (nI 0), .int (nI 0), .int (nI 0)])), (q1, mp_aI T 8 (fun _ => nI 0)), (q2, mp_aI T 8 (fun _ => nI 0)), (q3, mp_aI T 8 (fun _ => nI 0)), (q4, mp_aI T 6 (fun _ => nI 0)), (q5, mp_aI T 36 (fun _ => nI 0)), (q6, mp_aI T 6 (fun _ => nI 0)), (q7, mp_aI T 6 (fun _ => nI 0))] H := hP
  replace hD : va_D A [(a, .inr (7, [.ref q1, .int (nI 0), .int (nI 0), .ref q2, .ref q3, .ref q4, .ref q5, .ref q6, .ref q7, .int (nI 0), .int (nI 0), .int (nI 0), .int (nI 0)])), (q1, mp_aI T 8 (fun _ => nI 0)), (q2, mp_aI T 8 (fun _ => nI 0)), (q3, mp_aI T 8 (fun _ => nI 0)), (q4, mp_aI T 6 (fun _ => nI 0)), (q5, mp_aI T 36 (fun _ => nI 0)), (q6, mp_aI T 6 (fun _ => nI 0)), (q7, mp_aI T 6 (fun _ => nI 0))] := hD
  refine lv_aload_n hx hb dX7_init_70 rfl (lv_at hl 0 rfl) ?_
  refine lv_iconst (v := (nI 0)) hx hb dX7_init_71 (by decide) ?_
  refine mp_putf X fl_X7_40 fp_X7 rfl hK hP hD hS 0 rfl rfl rfl (Nat.le_of_ble_eq_true rfl) dX7_init_72 (fun H locs hP hD hS => ?_)
  replace hP : va_P D mp_cl [(a, .inr (7, [.ref q1, .int (nI 0), .int (nI 0), .ref q2, .ref q3, .ref q4, .ref q5, .ref q6, .ref q7, .int (nI 0), .int (nI 0), .int (nI 0), .int (nI 0)])), (q1, mp_aI T 8 (fun _ => nI 0)), (q2, mp_aI T 8 (fun _ => nI 0)), (q3, mp_aI T 8 (fun _ => nI 0)), (q4, mp_aI T 6 (fun _ => nI 0)), (q5, mp_aI T 36 (fun _ => nI 0)), (q6, mp_aI T 6 (fun _ => nI 0)), (q7, mp_aI T 6 (fun _ => nI 0))] H := hP
  replace hD : va_D A [(a, .inr (7, [.ref q1, .int (nI 0), .int (nI 0), .ref q2, .ref q3, .ref q4, .ref q5, .ref q6, .ref q7, .int (nI 0), .int (nI 0), .int (nI 0), .int (nI 0)])), (q1, mp_aI T 8 (fun _ => nI 0)), (q2, mp_aI T 8 (fun _ => nI 0)), (q3, mp_aI T 8 (fun _ => nI 0)), (q4, mp_aI T 6 (fun _ => nI 0)), (q5, mp_aI T 36 (fun _ => nI 0)), (q6, mp_aI T 6 (fun _ => nI 0)), (q7, mp_aI T 6 (fun _ => nI 0))] := hD
  refine lv_aload_n hx hb dX7_init_75 rfl (lv_at hl 0 rfl) ?_
  refine lv_iconst (v := (nI 0)) hx hb dX7_init_76 (by decide) ?_
  refine mp_putf X fl_X7_43 fp_X7 rfl hK hP hD hS 0 rfl rfl rfl (Nat.le_of_ble_eq_true rfl) dX7_init_77 (fun H locs hP hD hS => ?_)
  replace hP : va_P D mp_cl [(a, .inr (7, [.ref q1, .int (nI 0), .int (nI 0), .ref q2, .ref q3, .ref q4, .ref q5, .ref q6, .ref q7, .int (nI 0), .int (nI 0), .int (nI 0), .int (nI 0)])), (q1, mp_aI T 8 (fun _ => nI 0)), (q2, mp_aI T 8 (fun _ => nI 0)), (q3, mp_aI T 8 (fun _ => nI 0)), (q4, mp_aI T 6 (fun _ => nI 0)), (q5, mp_aI T 36 (fun _ => nI 0)), (q6, mp_aI T 6 (fun _ => nI 0)), (q7, mp_aI T 6 (fun _ => nI 0))] H := hP
  replace hD : va_D A [(a, .inr (7, [.ref q1, .int (nI 0), .int (nI 0), .ref q2, .ref q3, .ref q4, .ref q5, .ref q6, .ref q7, .int (nI 0), .int (nI 0), .int (nI 0), .int (nI 0)])), (q1, mp_aI T 8 (fun _ => nI 0)), (q2, mp_aI T 8 (fun _ => nI 0)), (q3, mp_aI T 8 (fun _ => nI 0)), (q4, mp_aI T 6 (fun _ => nI 0)), (q5, mp_aI T 36 (fun _ => nI 0)), (q6, mp_aI T 6 (fun _ => nI 0)), (q7, mp_aI T 6 (fun _ => nI 0))] := hD
  refine lv_aload_n hx hb dX7_init_80 rfl (lv_at hl 0 rfl) ?_
  refine lv_iconst (v := (nI 0)) hx hb dX7_init_81 (by decide) ?_
  refine mp_putf X fl_X7_46 fp_X7 rfl hK hP hD hS 0 rfl rfl rfl (Nat.le_of_ble_eq_true rfl) dX7_init_82 (fun H locs hP hD hS => ?_)
  replace hP : va_P D mp_cl [(a, .inr (7, [.ref q1, .int (nI 0), .int (nI 0), .ref q2, .ref q3, .ref q4, .ref q5, .ref q6, .ref q7, .int (nI 0), .int (nI 0), .int (nI 0), .int (nI 0)])), (q1, mp_aI T 8 (fun _ => nI 0)), (q2, mp_aI T 8 (fun _ => nI 0)), (q3, mp_aI T 8 (fun _ => nI 0)), (q4, mp_aI T 6 (fun _ => nI 0)), (q5, mp_aI T 36 (fun _ => nI 0)), (q6, mp_aI T 6 (fun _ => nI 0)), (q7, mp_aI T 6 (fun _ => nI 0))] H := hP
  replace hD : va_D A [(a, .inr (7, [.ref q1, .int (nI 0), .int (nI 0), .ref q2, .ref q3, .ref q4, .ref q5, .ref q6, .ref q7, .int (nI 0), .int (nI 0), .int (nI 0), .int (nI 0)])), (q1, mp_aI T 8 (fun _ => nI 0)), (q2, mp_aI T 8 (fun _ => nI 0)), (q3, mp_aI T 8 (fun _ => nI 0)), (q4, mp_aI T 6 (fun _ => nI 0)), (q5, mp_aI T 36 (fun _ => nI 0)), (q6, mp_aI T 6 (fun _ => nI 0)), (q7, mp_aI T 6 (fun _ => nI 0))] := hD
  refine lv_aload_n hx hb dX7_init_85 rfl (lv_at hl 0 rfl) ?_
  refine lv_iconst (v := (nI 0)) hx hb dX7_init_86 (by decide) ?_
  refine mp_putf X fl_X7_49 fp_X7 rfl hK hP hD hS 0 rfl rfl rfl (Nat.le_of_ble_eq_true rfl) dX7_init_87 (fun H locs hP hD hS => ?_)
  replace hP : va_P D mp_cl [(a, .inr (7, [.ref q1, .int (nI 0), .int (nI 0), .ref q2, .ref q3, .ref q4, .ref q5, .ref q6, .ref q7, .int (nI 0), .int (nI 0), .int (nI 0), .int (nI 0)])), (q1, mp_aI T 8 (fun _ => nI 0)), (q2, mp_aI T 8 (fun _ => nI 0)), (q3, mp_aI T 8 (fun _ => nI 0)), (q4, mp_aI T 6 (fun _ => nI 0)), (q5, mp_aI T 36 (fun _ => nI 0)), (q6, mp_aI T 6 (fun _ => nI 0)), (q7, mp_aI T 6 (fun _ => nI 0))] H := hP
  replace hD : va_D A [(a, .inr (7, [.ref q1, .int (nI 0), .int (nI 0), .ref q2, .ref q3, .ref q4, .ref q5, .ref q6, .ref q7, .int (nI 0), .int (nI 0), .int (nI 0), .int (nI 0)])), (q1, mp_aI T 8 (fun _ => nI 0)), (q2, mp_aI T 8 (fun _ => nI 0)), (q3, mp_aI T 8 (fun _ => nI 0)), (q4, mp_aI T 6 (fun _ => nI 0)), (q5, mp_aI T 36 (fun _ => nI 0)), (q6, mp_aI T 6 (fun _ => nI 0)), (q7, mp_aI T 6 (fun _ => nI 0))] := hD
  exact mp_retc (w1 := w_X7 T a) (q := fun k => match k with | 0 => q1 | 1 => q2 | 2 => q3 | 3 => q4 | 4 => q5 | 5 => q6 | _ => q7) X hP hD hS dX7_init_90
/-- what Rounds() makes -/
def w_X5 (T : Nat → ClassId) (a : Nat) (q : Nat → Nat) : va_W := [(a, .inr (5, [.int (nI 0), .int (nI 0), .int (nI 0), .ref (q 0), .ref (q 1), .ref (q 2), .ref (q 3)])), ((q 0), mp_aI T 60 (fun _ => nI 0)), ((q 1), mp_aI T 60 (fun _ => nI 0)), ((q 2), mp_aI T 60 (fun _ => nI 0)), ((q 3), mp_aI T 60 (fun _ => nI 0))]
set_option maxHeartbeats 4000000 in
set_option maxRecDepth 100000 in
theorem i_X5 (l : Launch) (D : va_G) (T : Nat → ClassId) (a : Nat) : mp_M l D T yX5_init cX5_init 1 none { frames := 1, cells := 4, slots := 240, locals := 20 } 4 240 [.ref a] [(a, .inr (5, [.int (nI 0), .int (nI 0), .int (nI 0), .null, .null, .null, .null]))] (mp_Qc D (w_X5 T a)) := by
  refine mp_of (by decide) (Nat.le_of_ble_eq_true rfl) rfl ?_
  intro p e s m args below meth c A ls X hK hP hD hS hA hl
  replace X : mp_X p s m meth c args RX5 "<init>" cX5_init 1 none := X
  have hx := X.1
  have hb := X.2.1
  have hml := X.2.2.1
  have hown := X.2.2.2.2.1
  have hts := X.2.2.2.2.2.1
  replace hl : lv_has ls 1 [(0, .ref a)] := hl
  replace hP : va_P D mp_cl [(a, .inr (5, [.int (nI 0), .int (nI 0), .int (nI 0), .null, .null, .null, .null]))] s.heap := hP
  refine lv_aload_n hx hb dX5_init_0 rfl (lv_at hl 0 rfl) ?_
  refine mp_obj X lo_X5 hl.1 dX5_init_1 (Nat.le_of_ble_eq_true rfl) (Nat.le_of_ble_eq_true rfl) ?_
  refine lv_aload_n hx hb dX5_init_4 rfl (lv_at hl 0 rfl) ?_
  refine lv_iconst (v := (nI 0)) hx hb dX5_init_5 (by decide) ?_
  refine mp_putf X fl_X5_9 fp_X5 rfl hK hP hD hS 0 rfl rfl rfl (Nat.le_of_ble_eq_true rfl) dX5_init_6 (fun H locs hP hD hS => ?_)
  replace hP : va_P D mp_cl [(a, .inr (5, [.int (nI 0), .int (nI 0), .int (nI 0), .null, .null, .null, .null]))] H := hP
  replace hD : va_D A [(a, .inr (5, [.int (nI 0), .int (nI 0), .int (nI 0), .null, .null, .null, .null]))] := hD
  refine lv_aload_n hx hb dX5_init_9 rfl (lv_at hl 0 rfl) ?_
  refine lv_iconst (v := (nI 0)) hx hb dX5_init_10 (by decide) ?_
  refine mp_putf X fl_X5_15 fp_X5 rfl hK hP hD hS 0 rfl rfl rfl (Nat.le_of_ble_eq_true rfl) dX5_init_11 (fun H locs hP hD hS => ?_)
  replace hP : va_P D mp_cl [(a, .inr (5, [.int (nI 0), .int (nI 0), .int (nI 0), .null, .null, .null, .null]))] H := hP
  replace hD : va_D A [(a, .inr (5, [.int (nI 0), .int (nI 0), .int (nI 0), .null, .null, .null, .null]))] := hD
  refine lv_aload_n hx hb dX5_init_14 rfl (lv_at hl 0 rfl) ?_
  refine lv_iconst (v := (nI 0)) hx hb dX5_init_15 (by decide) ?_
  refine mp_putf X fl_X5_19 fp_X5 rfl hK hP hD hS 0 rfl rfl rfl (Nat.le_of_ble_eq_true rfl) dX5_init_16 (fun H locs hP hD hS => ?_)
  replace hP : va_P D mp_cl [(a, .inr (5, [.int (nI 0), .int (nI 0), .int (nI 0), .null, .null, .null, .null]))] H := hP
  replace hD : va_D A [(a, .inr (5, [.int (nI 0), .int (nI 0), .int (nI 0), .null, .null, .null, .null]))] := hD
  refine lv_aload_n hx hb dX5_init_19 rfl (lv_at hl 0 rfl) ?_
  refine lv_bipush (v := (nI 60)) hx hb dX5_init_20 (by decide) ?_
  refine mp_newI (N := 60) X hK hP hD hS hA (by decide) (by decide) (by decide) (Nat.le_of_ble_eq_true rfl) (Nat.le_of_ble_eq_true rfl) dX5_init_22 (fun q1 H hP hD hS => ?_)
  replace hP : va_P D mp_cl [(a, .inr (5, [.int (nI 0), .int (nI 0), .int (nI 0), .null, .null, .null, .null])), (q1, mp_aI T 60 (fun _ => nI 0))] H := hP
  replace hD : va_D A [(a, .inr (5, [.int (nI 0), .int (nI 0), .int (nI 0), .null, .null, .null, .null])), (q1, mp_aI T 60 (fun _ => nI 0))] := hD
  refine mp_putF X fl_X5_22 fp_X5 rfl hK hP hD hS 0 rfl rfl rfl (Nat.le_of_ble_eq_true rfl) dX5_init_24 (fun H locs hP hD hS => ?_)
  replace hP : va_P D mp_cl [(a, .inr (5, [.int (nI 0), .int (nI 0), .int (nI 0), .ref q1, .null, .null, .null])), (q1, mp_aI T 60 (fun _ => nI 0))] H := hP
  replace hD : va_D A [(a, .inr (5, [.int (nI 0), .int (nI 0), .int (nI 0), .ref q1, .null, .null, .null])), (q1, mp_aI T 60 (fun _ => nI 0))] := hD
  refine lv_aload_n hx hb dX5_init_27 rfl (lv_at hl 0 rfl) ?_
  refine lv_bipush (v := (nI 60)) hx hb dX5_init_28 (by decide) ?_
  refine mp_newI (N := 60) X hK hP hD hS hA (by decide) (by decide) (by decide) (Nat.le_of_ble_eq_true rfl) (Nat.le_of_ble_eq_true rfl) dX5_init_30 (fun q2 H hP hD hS => ?_)
  replace hP : va_P D mp_cl [(a, .inr (5, [.int (nI 0), .int (nI 0), .int (nI 0), .ref q1, .null, .null, .null])), (q1, mp_aI T 60 (fun _ => nI 0)), (q2, mp_aI T 60 (fun _ => nI 0))] H := hP
  replace hD : va_D A [(a, .inr (5, [.int (nI 0), .int (nI 0), .int (nI 0), .ref q1, .null, .null, .null])), (q1, mp_aI T 60 (fun _ => nI 0)), (q2, mp_aI T 60 (fun _ => nI 0))] := hD
  refine mp_putF X fl_X5_26 fp_X5 rfl hK hP hD hS 0 rfl rfl rfl (Nat.le_of_ble_eq_true rfl) dX5_init_32 (fun H locs hP hD hS => ?_)
  replace hP : va_P D mp_cl [(a, .inr (5, [.int (nI 0), .int (nI 0), .int (nI 0), .ref q1, .ref q2, .null, .null])), (q1, mp_aI T 60 (fun _ => nI 0)), (q2, mp_aI T 60 (fun _ => nI 0))] H := hP
  replace hD : va_D A [(a, .inr (5, [.int (nI 0), .int (nI 0), .int (nI 0), .ref q1, .ref q2, .null, .null])), (q1, mp_aI T 60 (fun _ => nI 0)), (q2, mp_aI T 60 (fun _ => nI 0))] := hD
  refine lv_aload_n hx hb dX5_init_35 rfl (lv_at hl 0 rfl) ?_
  refine lv_bipush (v := (nI 60)) hx hb dX5_init_36 (by decide) ?_
  refine mp_newI (N := 60) X hK hP hD hS hA (by decide) (by decide) (by decide) (Nat.le_of_ble_eq_true rfl) (Nat.le_of_ble_eq_true rfl) dX5_init_38 (fun q3 H hP hD hS => ?_)
  replace hP : va_P D mp_cl [(a, .inr (5, [.int (nI 0), .int (nI 0), .int (nI 0), .ref q1, .ref q2, .null, .null])), (q1, mp_aI T 60 (fun _ => nI 0)), (q2, mp_aI T 60 (fun _ => nI 0)), (q3, mp_aI T 60 (fun _ => nI 0))] H := hP
  replace hD : va_D A [(a, .inr (5, [.int (nI 0), .int (nI 0), .int (nI 0), .ref q1, .ref q2, .null, .null])), (q1, mp_aI T 60 (fun _ => nI 0)), (q2, mp_aI T 60 (fun _ => nI 0)), (q3, mp_aI T 60 (fun _ => nI 0))] := hD
  refine mp_putF X fl_X5_29 fp_X5 rfl hK hP hD hS 0 rfl rfl rfl (Nat.le_of_ble_eq_true rfl) dX5_init_40 (fun H locs hP hD hS => ?_)
  replace hP : va_P D mp_cl [(a, .inr (5, [.int (nI 0), .int (nI 0), .int (nI 0), .ref q1, .ref q2, .ref q3, .null])), (q1, mp_aI T 60 (fun _ => nI 0)), (q2, mp_aI T 60 (fun _ => nI 0)), (q3, mp_aI T 60 (fun _ => nI 0))] H := hP
  replace hD : va_D A [(a, .inr (5, [.int (nI 0), .int (nI 0), .int (nI 0), .ref q1, .ref q2, .ref q3, .null])), (q1, mp_aI T 60 (fun _ => nI 0)), (q2, mp_aI T 60 (fun _ => nI 0)), (q3, mp_aI T 60 (fun _ => nI 0))] := hD
  refine lv_aload_n hx hb dX5_init_43 rfl (lv_at hl 0 rfl) ?_
  refine lv_bipush (v := (nI 60)) hx hb dX5_init_44 (by decide) ?_
  refine mp_newI (N := 60) X hK hP hD hS hA (by decide) (by decide) (by decide) (Nat.le_of_ble_eq_true rfl) (Nat.le_of_ble_eq_true rfl) dX5_init_46 (fun q4 H hP hD hS => ?_)
  replace hP : va_P D mp_cl [(a, .inr (5, [.int (nI 0), .int (nI 0), .int (nI 0), .ref q1, .ref q2, .ref q3, .null])), (q1, mp_aI T 60 (fun _ => nI 0)), (q2, mp_aI T 60 (fun _ => nI 0)), (q3, mp_aI T 60 (fun _ => nI 0)), (q4, mp_aI T 60 (fun _ => nI 0))] H := hP
  replace hD : va_D A [(a, .inr (5, [.int (nI 0), .int (nI 0), .int (nI 0), .ref q1, .ref q2, .ref q3, .null])), (q1, mp_aI T 60 (fun _ => nI 0)), (q2, mp_aI T 60 (fun _ => nI 0)), (q3, mp_aI T 60 (fun _ => nI 0)), (q4, mp_aI T 60 (fun _ => nI 0))] := hD
  refine mp_putF X fl_X5_32 fp_X5 rfl hK hP hD hS 0 rfl rfl rfl (Nat.le_of_ble_eq_true rfl) dX5_init_48 (fun H locs hP hD hS => ?_)
  replace hP : va_P D mp_cl [(a, .inr (5, [.int (nI 0), .int (nI 0), .int (nI 0), .ref q1, .ref q2, .ref q3, .ref q4])), (q1, mp_aI T 60 (fun _ => nI 0)), (q2, mp_aI T 60 (fun _ => nI 0)), (q3, mp_aI T 60 (fun _ => nI 0)), (q4, mp_aI T 60 (fun _ => nI 0))] H := hP
  replace hD : va_D A [(a, .inr (5, [.int (nI 0), .int (nI 0), .int (nI 0), .ref q1, .ref q2, .ref q3, .ref q4])), (q1, mp_aI T 60 (fun _ => nI 0)), (q2, mp_aI T 60 (fun _ => nI 0)), (q3, mp_aI T 60 (fun _ => nI 0)), (q4, mp_aI T 60 (fun _ => nI 0))] := hD
  exact mp_retc (w1 := w_X5 T a) (q := fun k => match k with | 0 => q1 | 1 => q2 | 2 => q3 | _ => q4) X hP hD hS dX5_init_51
/-- what BookReader() makes -/
def w_X2 (T : Nat → ClassId) (a : Nat) (q : Nat → Nat) : va_W := [(a, .inr (2, [.int (nI 0)]))]
set_option maxHeartbeats 4000000 in
set_option maxRecDepth 100000 in
theorem i_X2 (l : Launch) (D : va_G) (T : Nat → ClassId) (a : Nat) : mp_M l D T yX2_init cX2_init 1 none { frames := 1, cells := 0, slots := 0, locals := 20 } 0 0 [.ref a] [(a, .inr (2, [.int (nI 0)]))] (mp_Qc D (w_X2 T a)) := by
  refine mp_of (by decide) (Nat.le_of_ble_eq_true rfl) rfl ?_
  intro p e s m args below meth c A ls X hK hP hD hS hA hl
  replace X : mp_X p s m meth c args RX2 "<init>" cX2_init 1 none := X
  have hx := X.1
  have hb := X.2.1
  have hml := X.2.2.1
  have hown := X.2.2.2.2.1
  have hts := X.2.2.2.2.2.1
  replace hl : lv_has ls 1 [(0, .ref a)] := hl
  replace hP : va_P D mp_cl [(a, .inr (2, [.int (nI 0)]))] s.heap := hP
  refine lv_aload_n hx hb dX2_init_0 rfl (lv_at hl 0 rfl) ?_
  refine mp_obj X lo_X2 hl.1 dX2_init_1 (Nat.le_of_ble_eq_true rfl) (Nat.le_of_ble_eq_true rfl) ?_
  refine lv_aload_n hx hb dX2_init_4 rfl (lv_at hl 0 rfl) ?_
  refine lv_iconst (v := (nI 0)) hx hb dX2_init_5 (by decide) ?_
  refine mp_putf X fl_X2_9 fp_X2 rfl hK hP hD hS 0 rfl rfl rfl (Nat.le_of_ble_eq_true rfl) dX2_init_6 (fun H locs hP hD hS => ?_)
  replace hP : va_P D mp_cl [(a, .inr (2, [.int (nI 0)]))] H := hP
  replace hD : va_D A [(a, .inr (2, [.int (nI 0)]))] := hD
  exact mp_retc (w1 := w_X2 T a) (q := fun k => match k with | _ => 0) X hP hD hS dX2_init_9
/-- what RoundsReader() makes -/
def w_X6 (T : Nat → ClassId) (a : Nat) (q : Nat → Nat) : va_W := [(a, .inr (6, [.ref (q 0), .int (nI 0)])), ((q 0), mp_aI T 3 (fun _ => nI 0))]
set_option maxHeartbeats 4000000 in
set_option maxRecDepth 100000 in
theorem i_X6 (l : Launch) (D : va_G) (T : Nat → ClassId) (a : Nat) : mp_M l D T yX6_init cX6_init 1 none { frames := 1, cells := 1, slots := 3, locals := 20 } 1 3 [.ref a] [(a, .inr (6, [.null, .int (nI 0)]))] (mp_Qc D (w_X6 T a)) := by
  refine mp_of (by decide) (Nat.le_of_ble_eq_true rfl) rfl ?_
  intro p e s m args below meth c A ls X hK hP hD hS hA hl
  replace X : mp_X p s m meth c args RX6 "<init>" cX6_init 1 none := X
  have hx := X.1
  have hb := X.2.1
  have hml := X.2.2.1
  have hown := X.2.2.2.2.1
  have hts := X.2.2.2.2.2.1
  replace hl : lv_has ls 1 [(0, .ref a)] := hl
  replace hP : va_P D mp_cl [(a, .inr (6, [.null, .int (nI 0)]))] s.heap := hP
  refine lv_aload_n hx hb dX6_init_0 rfl (lv_at hl 0 rfl) ?_
  refine mp_obj X lo_X6 hl.1 dX6_init_1 (Nat.le_of_ble_eq_true rfl) (Nat.le_of_ble_eq_true rfl) ?_
  refine lv_aload_n hx hb dX6_init_4 rfl (lv_at hl 0 rfl) ?_
  refine lv_iconst (v := (nI 3)) hx hb dX6_init_5 (by decide) ?_
  refine mp_newI (N := 3) X hK hP hD hS hA (by decide) (by decide) (by decide) (Nat.le_of_ble_eq_true rfl) (Nat.le_of_ble_eq_true rfl) dX6_init_6 (fun q1 H hP hD hS => ?_)
  replace hP : va_P D mp_cl [(a, .inr (6, [.null, .int (nI 0)])), (q1, mp_aI T 3 (fun _ => nI 0))] H := hP
  replace hD : va_D A [(a, .inr (6, [.null, .int (nI 0)])), (q1, mp_aI T 3 (fun _ => nI 0))] := hD
  refine mp_putF X fl_X6_9 fp_X6 rfl hK hP hD hS 0 rfl rfl rfl (Nat.le_of_ble_eq_true rfl) dX6_init_8 (fun H locs hP hD hS => ?_)
  replace hP : va_P D mp_cl [(a, .inr (6, [.ref q1, .int (nI 0)])), (q1, mp_aI T 3 (fun _ => nI 0))] H := hP
  replace hD : va_D A [(a, .inr (6, [.ref q1, .int (nI 0)])), (q1, mp_aI T 3 (fun _ => nI 0))] := hD
  refine lv_aload_n hx hb dX6_init_11 rfl (lv_at hl 0 rfl) ?_
  refine lv_iconst (v := (nI 0)) hx hb dX6_init_12 (by decide) ?_
  refine mp_putf X fl_X6_15 fp_X6 rfl hK hP hD hS 0 rfl rfl rfl (Nat.le_of_ble_eq_true rfl) dX6_init_13 (fun H locs hP hD hS => ?_)
  replace hP : va_P D mp_cl [(a, .inr (6, [.ref q1, .int (nI 0)])), (q1, mp_aI T 3 (fun _ => nI 0))] H := hP
  replace hD : va_D A [(a, .inr (6, [.ref q1, .int (nI 0)])), (q1, mp_aI T 3 (fun _ => nI 0))] := hD
  exact mp_retc (w1 := w_X6 T a) (q := fun k => match k with | _ => q1) X hP hD hS dX6_init_16
/-- what Odds() makes -/
def w_X4 (T : Nat → ClassId) (a : Nat) (q : Nat → Nat) : va_W := [(a, .inr (4, [.long (lN 0), .long (lN 1), .ref (q 0), .ref (q 1)])), ((q 0), mp_aJ T 64 (fun _ => lN 0)), ((q 1), mp_aI T 64 (fun _ => nI 0))]
set_option maxHeartbeats 4000000 in
set_option maxRecDepth 100000 in
theorem i_X4 (l : Launch) (D : va_G) (T : Nat → ClassId) (a : Nat) : mp_M l D T yX4_init cX4_init 1 none { frames := 1, cells := 2, slots := 128, locals := 20 } 2 128 [.ref a] [(a, .inr (4, [.long (lN 0), .long (lN 0), .null, .null]))] (mp_Qc D (w_X4 T a)) := by
  refine mp_of (by decide) (Nat.le_of_ble_eq_true rfl) rfl ?_
  intro p e s m args below meth c A ls X hK hP hD hS hA hl
  replace X : mp_X p s m meth c args RX4 "<init>" cX4_init 1 none := X
  have hx := X.1
  have hb := X.2.1
  have hml := X.2.2.1
  have hown := X.2.2.2.2.1
  have hts := X.2.2.2.2.2.1
  replace hl : lv_has ls 1 [(0, .ref a)] := hl
  replace hP : va_P D mp_cl [(a, .inr (4, [.long (lN 0), .long (lN 0), .null, .null]))] s.heap := hP
  refine lv_aload_n hx hb dX4_init_0 rfl (lv_at hl 0 rfl) ?_
  refine mp_obj X lo_X4 hl.1 dX4_init_1 (Nat.le_of_ble_eq_true rfl) (Nat.le_of_ble_eq_true rfl) ?_
  refine lv_aload_n hx hb dX4_init_4 rfl (lv_at hl 0 rfl) ?_
  refine lv_lconst (v := (lN 0)) hx hb dX4_init_5 (by decide) ?_
  refine mp_putf X fl_X4_9 fp_X4 rfl hK hP hD hS 0 rfl rfl rfl (Nat.le_of_ble_eq_true rfl) dX4_init_6 (fun H locs hP hD hS => ?_)
  replace hP : va_P D mp_cl [(a, .inr (4, [.long (lN 0), .long (lN 0), .null, .null]))] H := hP
  replace hD : va_D A [(a, .inr (4, [.long (lN 0), .long (lN 0), .null, .null]))] := hD
  refine lv_aload_n hx hb dX4_init_9 rfl (lv_at hl 0 rfl) ?_
  refine lv_lconst (v := (lN 1)) hx hb dX4_init_10 (by decide) ?_
  refine mp_putf X fl_X4_15 fp_X4 rfl hK hP hD hS 0 rfl rfl rfl (Nat.le_of_ble_eq_true rfl) dX4_init_11 (fun H locs hP hD hS => ?_)
  replace hP : va_P D mp_cl [(a, .inr (4, [.long (lN 0), .long (lN 1), .null, .null]))] H := hP
  replace hD : va_D A [(a, .inr (4, [.long (lN 0), .long (lN 1), .null, .null]))] := hD
  refine lv_aload_n hx hb dX4_init_14 rfl (lv_at hl 0 rfl) ?_
  refine lv_bipush (v := (nI 64)) hx hb dX4_init_15 (by decide) ?_
  refine mp_newJ (N := 64) X hK hP hD hS hA (by decide) (by decide) (by decide) (Nat.le_of_ble_eq_true rfl) (Nat.le_of_ble_eq_true rfl) dX4_init_17 (fun q1 H hP hD hS => ?_)
  replace hP : va_P D mp_cl [(a, .inr (4, [.long (lN 0), .long (lN 1), .null, .null])), (q1, mp_aJ T 64 (fun _ => lN 0))] H := hP
  replace hD : va_D A [(a, .inr (4, [.long (lN 0), .long (lN 1), .null, .null])), (q1, mp_aJ T 64 (fun _ => lN 0))] := hD
  refine mp_putF X fl_X4_18 fp_X4 rfl hK hP hD hS 0 rfl rfl rfl (Nat.le_of_ble_eq_true rfl) dX4_init_19 (fun H locs hP hD hS => ?_)
  replace hP : va_P D mp_cl [(a, .inr (4, [.long (lN 0), .long (lN 1), .ref q1, .null])), (q1, mp_aJ T 64 (fun _ => lN 0))] H := hP
  replace hD : va_D A [(a, .inr (4, [.long (lN 0), .long (lN 1), .ref q1, .null])), (q1, mp_aJ T 64 (fun _ => lN 0))] := hD
  refine lv_aload_n hx hb dX4_init_22 rfl (lv_at hl 0 rfl) ?_
  refine lv_bipush (v := (nI 64)) hx hb dX4_init_23 (by decide) ?_
  refine mp_newI (N := 64) X hK hP hD hS hA (by decide) (by decide) (by decide) (Nat.le_of_ble_eq_true rfl) (Nat.le_of_ble_eq_true rfl) dX4_init_25 (fun q2 H hP hD hS => ?_)
  replace hP : va_P D mp_cl [(a, .inr (4, [.long (lN 0), .long (lN 1), .ref q1, .null])), (q1, mp_aJ T 64 (fun _ => lN 0)), (q2, mp_aI T 64 (fun _ => nI 0))] H := hP
  replace hD : va_D A [(a, .inr (4, [.long (lN 0), .long (lN 1), .ref q1, .null])), (q1, mp_aJ T 64 (fun _ => lN 0)), (q2, mp_aI T 64 (fun _ => nI 0))] := hD
  refine mp_putF X fl_X4_22 fp_X4 rfl hK hP hD hS 0 rfl rfl rfl (Nat.le_of_ble_eq_true rfl) dX4_init_27 (fun H locs hP hD hS => ?_)
  replace hP : va_P D mp_cl [(a, .inr (4, [.long (lN 0), .long (lN 1), .ref q1, .ref q2])), (q1, mp_aJ T 64 (fun _ => lN 0)), (q2, mp_aI T 64 (fun _ => nI 0))] H := hP
  replace hD : va_D A [(a, .inr (4, [.long (lN 0), .long (lN 1), .ref q1, .ref q2])), (q1, mp_aJ T 64 (fun _ => lN 0)), (q2, mp_aI T 64 (fun _ => nI 0))] := hD
  exact mp_retc (w1 := w_X4 T a) (q := fun k => match k with | 0 => q1 | _ => q2) X hP hD hS dX4_init_30
/-- what Words() makes -/
def w_X10 (T : Nat → ClassId) (a : Nat) (q : Nat → Nat) : va_W := [(a, .inr (10, [.ref (q 0), .ref (q 1), .int (nI 0), .int (nI 0), .ref (q 2), .ref (q 3)])), ((q 0), mp_aI T 10 (fun _ => nI 0)), ((q 1), mp_aI T 60 (fun _ => nI 0)), ((q 2), mp_aJ T 11 (fun _ => lN 0)), ((q 3), mp_aI T 10 (fun _ => nI 0))]
set_option maxHeartbeats 4000000 in
set_option maxRecDepth 100000 in
theorem i_X10 (l : Launch) (D : va_G) (T : Nat → ClassId) (a : Nat) : mp_M l D T yX10_init cX10_init 1 none { frames := 1, cells := 4, slots := 91, locals := 20 } 4 91 [.ref a] [(a, .inr (10, [.null, .null, .int (nI 0), .int (nI 0), .null, .null]))] (mp_Qc D (w_X10 T a)) := by
  refine mp_of (by decide) (Nat.le_of_ble_eq_true rfl) rfl ?_
  intro p e s m args below meth c A ls X hK hP hD hS hA hl
  replace X : mp_X p s m meth c args RX10 "<init>" cX10_init 1 none := X
  have hx := X.1
  have hb := X.2.1
  have hml := X.2.2.1
  have hown := X.2.2.2.2.1
  have hts := X.2.2.2.2.2.1
  replace hl : lv_has ls 1 [(0, .ref a)] := hl
  replace hP : va_P D mp_cl [(a, .inr (10, [.null, .null, .int (nI 0), .int (nI 0), .null, .null]))] s.heap := hP
  refine lv_aload_n hx hb dX10_init_0 rfl (lv_at hl 0 rfl) ?_
  refine mp_obj X lo_X10 hl.1 dX10_init_1 (Nat.le_of_ble_eq_true rfl) (Nat.le_of_ble_eq_true rfl) ?_
  refine lv_aload_n hx hb dX10_init_4 rfl (lv_at hl 0 rfl) ?_
  refine lv_bipush (v := (nI 10)) hx hb dX10_init_5 (by decide) ?_
  refine mp_newI (N := 10) X hK hP hD hS hA (by decide) (by decide) (by decide) (Nat.le_of_ble_eq_true rfl) (Nat.le_of_ble_eq_true rfl) dX10_init_7 (fun q1 H hP hD hS => ?_)
  replace hP : va_P D mp_cl [(a, .inr (10, [.null, .null, .int (nI 0), .int (nI 0), .null, .null])), (q1, mp_aI T 10 (fun _ => nI 0))] H := hP
  replace hD : va_D A [(a, .inr (10, [.null, .null, .int (nI 0), .int (nI 0), .null, .null])), (q1, mp_aI T 10 (fun _ => nI 0))] := hD
  refine mp_putF X fl_X10_9 fp_X10 rfl hK hP hD hS 0 rfl rfl rfl (Nat.le_of_ble_eq_true rfl) dX10_init_9 (fun H locs hP hD hS => ?_)
  replace hP : va_P D mp_cl [(a, .inr (10, [.ref q1, .null, .int (nI 0), .int (nI 0), .null, .null])), (q1, mp_aI T 10 (fun _ => nI 0))] H := hP
  replace hD : va_D A [(a, .inr (10, [.ref q1, .null, .int (nI 0), .int (nI 0), .null, .null])), (q1, mp_aI T 10 (fun _ => nI 0))] := hD
  refine lv_aload_n hx hb dX10_init_12 rfl (lv_at hl 0 rfl) ?_
  refine lv_bipush (v := (nI 60)) hx hb dX10_init_13 (by decide) ?_
  refine mp_newI (N := 60) X hK hP hD hS hA (by decide) (by decide) (by decide) (Nat.le_of_ble_eq_true rfl) (Nat.le_of_ble_eq_true rfl) dX10_init_15 (fun q2 H hP hD hS => ?_)
  replace hP : va_P D mp_cl [(a, .inr (10, [.ref q1, .null, .int (nI 0), .int (nI 0), .null, .null])), (q1, mp_aI T 10 (fun _ => nI 0)), (q2, mp_aI T 60 (fun _ => nI 0))] H := hP
  replace hD : va_D A [(a, .inr (10, [.ref q1, .null, .int (nI 0), .int (nI 0), .null, .null])), (q1, mp_aI T 10 (fun _ => nI 0)), (q2, mp_aI T 60 (fun _ => nI 0))] := hD
  refine mp_putF X fl_X10_15 fp_X10 rfl hK hP hD hS 0 rfl rfl rfl (Nat.le_of_ble_eq_true rfl) dX10_init_17 (fun H locs hP hD hS => ?_)
  replace hP : va_P D mp_cl [(a, .inr (10, [.ref q1, .ref q2, .int (nI 0), .int (nI 0), .null, .null])), (q1, mp_aI T 10 (fun _ => nI 0)), (q2, mp_aI T 60 (fun _ => nI 0))] H := hP
  replace hD : va_D A [(a, .inr (10, [.ref q1, .ref q2, .int (nI 0), .int (nI 0), .null, .null])), (q1, mp_aI T 10 (fun _ => nI 0)), (q2, mp_aI T 60 (fun _ => nI 0))] := hD
  refine lv_aload_n hx hb dX10_init_20 rfl (lv_at hl 0 rfl) ?_
  refine lv_iconst (v := (nI 0)) hx hb dX10_init_21 (by decide) ?_
  refine mp_putf X fl_X10_18 fp_X10 rfl hK hP hD hS 0 rfl rfl rfl (Nat.le_of_ble_eq_true rfl) dX10_init_22 (fun H locs hP hD hS => ?_)
  replace hP : va_P D mp_cl [(a, .inr (10, [.ref q1, .ref q2, .int (nI 0), .int (nI 0), .null, .null])), (q1, mp_aI T 10 (fun _ => nI 0)), (q2, mp_aI T 60 (fun _ => nI 0))] H := hP
  replace hD : va_D A [(a, .inr (10, [.ref q1, .ref q2, .int (nI 0), .int (nI 0), .null, .null])), (q1, mp_aI T 10 (fun _ => nI 0)), (q2, mp_aI T 60 (fun _ => nI 0))] := hD
  refine lv_aload_n hx hb dX10_init_25 rfl (lv_at hl 0 rfl) ?_
  refine lv_iconst (v := (nI 0)) hx hb dX10_init_26 (by decide) ?_
  refine mp_putf X fl_X10_22 fp_X10 rfl hK hP hD hS 0 rfl rfl rfl (Nat.le_of_ble_eq_true rfl) dX10_init_27 (fun H locs hP hD hS => ?_)
  replace hP : va_P D mp_cl [(a, .inr (10, [.ref q1, .ref q2, .int (nI 0), .int (nI 0), .null, .null])), (q1, mp_aI T 10 (fun _ => nI 0)), (q2, mp_aI T 60 (fun _ => nI 0))] H := hP
  replace hD : va_D A [(a, .inr (10, [.ref q1, .ref q2, .int (nI 0), .int (nI 0), .null, .null])), (q1, mp_aI T 10 (fun _ => nI 0)), (q2, mp_aI T 60 (fun _ => nI 0))] := hD
  refine lv_aload_n hx hb dX10_init_30 rfl (lv_at hl 0 rfl) ?_
  refine lv_bipush (v := (nI 11)) hx hb dX10_init_31 (by decide) ?_
  refine mp_newJ (N := 11) X hK hP hD hS hA (by decide) (by decide) (by decide) (Nat.le_of_ble_eq_true rfl) (Nat.le_of_ble_eq_true rfl) dX10_init_33 (fun q3 H hP hD hS => ?_)
  replace hP : va_P D mp_cl [(a, .inr (10, [.ref q1, .ref q2, .int (nI 0), .int (nI 0), .null, .null])), (q1, mp_aI T 10 (fun _ => nI 0)), (q2, mp_aI T 60 (fun _ => nI 0)), (q3, mp_aJ T 11 (fun _ => lN 0))] H := hP
  replace hD : va_D A [(a, .inr (10, [.ref q1, .ref q2, .int (nI 0), .int (nI 0), .null, .null])), (q1, mp_aI T 10 (fun _ => nI 0)), (q2, mp_aI T 60 (fun _ => nI 0)), (q3, mp_aJ T 11 (fun _ => lN 0))] := hD
  refine mp_putF X fl_X10_25 fp_X10 rfl hK hP hD hS 0 rfl rfl rfl (Nat.le_of_ble_eq_true rfl) dX10_init_35 (fun H locs hP hD hS => ?_)
  replace hP : va_P D mp_cl [(a, .inr (10, [.ref q1, .ref q2, .int (nI 0), .int (nI 0), .ref q3, .null])), (q1, mp_aI T 10 (fun _ => nI 0)), (q2, mp_aI T 60 (fun _ => nI 0)), (q3, mp_aJ T 11 (fun _ => lN 0))] H := hP
  replace hD : va_D A [(a, .inr (10, [.ref q1, .ref q2, .int (nI 0), .int (nI 0), .ref q3, .null])), (q1, mp_aI T 10 (fun _ => nI 0)), (q2, mp_aI T 60 (fun _ => nI 0)), (q3, mp_aJ T 11 (fun _ => lN 0))] := hD
  refine lv_aload_n hx hb dX10_init_38 rfl (lv_at hl 0 rfl) ?_
  refine lv_bipush (v := (nI 10)) hx hb dX10_init_39 (by decide) ?_
  refine mp_newI (N := 10) X hK hP hD hS hA (by decide) (by decide) (by decide) (Nat.le_of_ble_eq_true rfl) (Nat.le_of_ble_eq_true rfl) dX10_init_41 (fun q4 H hP hD hS => ?_)
  replace hP : va_P D mp_cl [(a, .inr (10, [.ref q1, .ref q2, .int (nI 0), .int (nI 0), .ref q3, .null])), (q1, mp_aI T 10 (fun _ => nI 0)), (q2, mp_aI T 60 (fun _ => nI 0)), (q3, mp_aJ T 11 (fun _ => lN 0)), (q4, mp_aI T 10 (fun _ => nI 0))] H := hP
  replace hD : va_D A [(a, .inr (10, [.ref q1, .ref q2, .int (nI 0), .int (nI 0), .ref q3, .null])), (q1, mp_aI T 10 (fun _ => nI 0)), (q2, mp_aI T 60 (fun _ => nI 0)), (q3, mp_aJ T 11 (fun _ => lN 0)), (q4, mp_aI T 10 (fun _ => nI 0))] := hD
  refine mp_putF X fl_X10_29 fp_X10 rfl hK hP hD hS 0 rfl rfl rfl (Nat.le_of_ble_eq_true rfl) dX10_init_43 (fun H locs hP hD hS => ?_)
  replace hP : va_P D mp_cl [(a, .inr (10, [.ref q1, .ref q2, .int (nI 0), .int (nI 0), .ref q3, .ref q4])), (q1, mp_aI T 10 (fun _ => nI 0)), (q2, mp_aI T 60 (fun _ => nI 0)), (q3, mp_aJ T 11 (fun _ => lN 0)), (q4, mp_aI T 10 (fun _ => nI 0))] H := hP
  replace hD : va_D A [(a, .inr (10, [.ref q1, .ref q2, .int (nI 0), .int (nI 0), .ref q3, .ref q4])), (q1, mp_aI T 10 (fun _ => nI 0)), (q2, mp_aI T 60 (fun _ => nI 0)), (q3, mp_aJ T 11 (fun _ => lN 0)), (q4, mp_aI T 10 (fun _ => nI 0))] := hD
  exact mp_retc (w1 := w_X10 T a) (q := fun k => match k with | 0 => q1 | 1 => q2 | 2 => q3 | _ => q4) X hP hD hS dX10_init_46
/-- what Book() makes -/
def w_X1 (T : Nat → ClassId) (a : Nat) (q : Nat → Nat) : va_W := [(a, .inr (1, [.int (nI 0), .int (nI 0), .int (nI 0), .ref (q 0), .ref (q 1), .ref (q 2), .ref (q 3), .int (nI 0), .int (nI 0), .ref (q 4), .ref (q 5), .ref (q 6), .ref (q 14)])), ((q 0), mp_aJ T 8 (fun _ => lN 0)), ((q 1), mp_aJ T 6 (fun _ => lN 0)), ((q 2), mp_aJ T 6 (fun _ => lN 0)), ((q 3), mp_aI T 8 (fun _ => nI 0)), ((q 4), mp_aI T 6 (fun _ => nI 0)), ((q 5), mp_aI T 6 (fun _ => nI 0)), ((q 6), .inr (7, [.ref (q 7), .int (nI 0), .int (nI 0), .ref (q 8), .ref (q 9), .ref (q 10), .ref (q 11), .ref (q 12), .ref (q 13), .int (nI 0), .int (nI 0), .int (nI 0), .int (nI 0)])), ((q 7), mp_aI T 8 (fun _ => nI 0)), ((q 8), mp_aI T 8 (fun _ => nI 0)), ((q 9), mp_aI T 8 (fun _ => nI 0)), ((q 10), mp_aI T 6 (fun _ => nI 0)), ((q 11), mp_aI T 36 (fun _ => nI 0)), ((q 12), mp_aI T 6 (fun _ => nI 0)), ((q 13), mp_aI T 6 (fun _ => nI 0)), ((q 14), .inr (5, [.int (nI 0), .int (nI 0), .int (nI 0), .ref (q 15), .ref (q 16), .ref (q 17), .ref (q 18)])), ((q 15), mp_aI T 60 (fun _ => nI 0)), ((q 16), mp_aI T 60 (fun _ => nI 0)), ((q 17), mp_aI T 60 (fun _ => nI 0)), ((q 18), mp_aI T 60 (fun _ => nI 0))]
set_option maxHeartbeats 4000000 in
set_option maxRecDepth 100000 in
theorem i_X1 (l : Launch) (D : va_G) (T : Nat → ClassId) (a : Nat) : mp_ME l D T yX1_init cX1_init 1 none { frames := 2, cells := 19, slots := 378, locals := 40 } 19 378 [.ref a] [(a, .inr (1, [.int (nI 0), .int (nI 0), .int (nI 0), .null, .null, .null, .null, .int (nI 0), .int (nI 0), .null, .null, .null, .null]))] (mp_Qc D (w_X1 T a)) := by
  refine mp_ofE (by decide) (Nat.le_of_ble_eq_true rfl) rfl ?_
  intro p e s m args below meth c A ls hZ X hK hP hD hS hA hl
  replace X : mp_X p s m meth c args RX1 "<init>" cX1_init 1 none := X
  have hx := X.1
  have hb := X.2.1
  have hml := X.2.2.1
  have hown := X.2.2.2.2.1
  have hts := X.2.2.2.2.2.1
  replace hl : lv_has ls 1 [(0, .ref a)] := hl
  replace hP : va_P D mp_cl [(a, .inr (1, [.int (nI 0), .int (nI 0), .int (nI 0), .null, .null, .null, .null, .int (nI 0), .int (nI 0), .null, .null, .null, .null]))] s.heap := hP
  refine lv_aload_n hx hb dX1_init_0 rfl (lv_at hl 0 rfl) ?_
  refine mp_obj X lo_X1 hl.1 dX1_init_1 (Nat.le_of_ble_eq_true rfl) (Nat.le_of_ble_eq_true rfl) ?_
  refine lv_aload_n hx hb dX1_init_4 rfl (lv_at hl 0 rfl) ?_
  refine lv_iconst (v := (nI 0)) hx hb dX1_init_5 (by decide) ?_
  refine mp_putf X fl_X1_9 fp_X1 rfl hK hP hD hS 0 rfl rfl rfl (Nat.le_of_ble_eq_true rfl) dX1_init_6 (fun H locs hP hD hS => ?_)
  replace hP : va_P D mp_cl [(a, .inr (1, [.int (nI 0), .int (nI 0), .int (nI 0), .null, .null, .null, .null, .int (nI 0), .int (nI 0), .null, .null, .null, .null]))] H := hP
  replace hD : va_D A [(a, .inr (1, [.int (nI 0), .int (nI 0), .int (nI 0), .null, .null, .null, .null, .int (nI 0), .int (nI 0), .null, .null, .null, .null]))] := hD
  refine lv_aload_n hx hb dX1_init_9 rfl (lv_at hl 0 rfl) ?_
  refine lv_iconst (v := (nI 0)) hx hb dX1_init_10 (by decide) ?_
  refine mp_putf X fl_X1_15 fp_X1 rfl hK hP hD hS 0 rfl rfl rfl (Nat.le_of_ble_eq_true rfl) dX1_init_11 (fun H locs hP hD hS => ?_)
  replace hP : va_P D mp_cl [(a, .inr (1, [.int (nI 0), .int (nI 0), .int (nI 0), .null, .null, .null, .null, .int (nI 0), .int (nI 0), .null, .null, .null, .null]))] H := hP
  replace hD : va_D A [(a, .inr (1, [.int (nI 0), .int (nI 0), .int (nI 0), .null, .null, .null, .null, .int (nI 0), .int (nI 0), .null, .null, .null, .null]))] := hD
  refine lv_aload_n hx hb dX1_init_14 rfl (lv_at hl 0 rfl) ?_
  refine lv_iconst (v := (nI 0)) hx hb dX1_init_15 (by decide) ?_
  refine mp_putf X fl_X1_18 fp_X1 rfl hK hP hD hS 0 rfl rfl rfl (Nat.le_of_ble_eq_true rfl) dX1_init_16 (fun H locs hP hD hS => ?_)
  replace hP : va_P D mp_cl [(a, .inr (1, [.int (nI 0), .int (nI 0), .int (nI 0), .null, .null, .null, .null, .int (nI 0), .int (nI 0), .null, .null, .null, .null]))] H := hP
  replace hD : va_D A [(a, .inr (1, [.int (nI 0), .int (nI 0), .int (nI 0), .null, .null, .null, .null, .int (nI 0), .int (nI 0), .null, .null, .null, .null]))] := hD
  refine lv_aload_n hx hb dX1_init_19 rfl (lv_at hl 0 rfl) ?_
  refine lv_bipush (v := (nI 8)) hx hb dX1_init_20 (by decide) ?_
  refine mp_newJ (N := 8) X hK hP hD hS hA (by decide) (by decide) (by decide) (Nat.le_of_ble_eq_true rfl) (Nat.le_of_ble_eq_true rfl) dX1_init_22 (fun q1 H hP hD hS => ?_)
  replace hP : va_P D mp_cl [(a, .inr (1, [.int (nI 0), .int (nI 0), .int (nI 0), .null, .null, .null, .null, .int (nI 0), .int (nI 0), .null, .null, .null, .null])), (q1, mp_aJ T 8 (fun _ => lN 0))] H := hP
  replace hD : va_D A [(a, .inr (1, [.int (nI 0), .int (nI 0), .int (nI 0), .null, .null, .null, .null, .int (nI 0), .int (nI 0), .null, .null, .null, .null])), (q1, mp_aJ T 8 (fun _ => lN 0))] := hD
  refine mp_putF X fl_X1_21 fp_X1 rfl hK hP hD hS 0 rfl rfl rfl (Nat.le_of_ble_eq_true rfl) dX1_init_24 (fun H locs hP hD hS => ?_)
  replace hP : va_P D mp_cl [(a, .inr (1, [.int (nI 0), .int (nI 0), .int (nI 0), .ref q1, .null, .null, .null, .int (nI 0), .int (nI 0), .null, .null, .null, .null])), (q1, mp_aJ T 8 (fun _ => lN 0))] H := hP
  replace hD : va_D A [(a, .inr (1, [.int (nI 0), .int (nI 0), .int (nI 0), .ref q1, .null, .null, .null, .int (nI 0), .int (nI 0), .null, .null, .null, .null])), (q1, mp_aJ T 8 (fun _ => lN 0))] := hD
  refine lv_aload_n hx hb dX1_init_27 rfl (lv_at hl 0 rfl) ?_
  refine lv_bipush (v := (nI 6)) hx hb dX1_init_28 (by decide) ?_
  refine mp_newJ (N := 6) X hK hP hD hS hA (by decide) (by decide) (by decide) (Nat.le_of_ble_eq_true rfl) (Nat.le_of_ble_eq_true rfl) dX1_init_30 (fun q2 H hP hD hS => ?_)
  replace hP : va_P D mp_cl [(a, .inr (1, [.int (nI 0), .int (nI 0), .int (nI 0), .ref q1, .null, .null, .null, .int (nI 0), .int (nI 0), .null, .null, .null, .null])), (q1, mp_aJ T 8 (fun _ => lN 0)), (q2, mp_aJ T 6 (fun _ => lN 0))] H := hP
  replace hD : va_D A [(a, .inr (1, [.int (nI 0), .int (nI 0), .int (nI 0), .ref q1, .null, .null, .null, .int (nI 0), .int (nI 0), .null, .null, .null, .null])), (q1, mp_aJ T 8 (fun _ => lN 0)), (q2, mp_aJ T 6 (fun _ => lN 0))] := hD
  refine mp_putF X fl_X1_25 fp_X1 rfl hK hP hD hS 0 rfl rfl rfl (Nat.le_of_ble_eq_true rfl) dX1_init_32 (fun H locs hP hD hS => ?_)
  replace hP : va_P D mp_cl [(a, .inr (1, [.int (nI 0), .int (nI 0), .int (nI 0), .ref q1, .ref q2, .null, .null, .int (nI 0), .int (nI 0), .null, .null, .null, .null])), (q1, mp_aJ T 8 (fun _ => lN 0)), (q2, mp_aJ T 6 (fun _ => lN 0))] H := hP
  replace hD : va_D A [(a, .inr (1, [.int (nI 0), .int (nI 0), .int (nI 0), .ref q1, .ref q2, .null, .null, .int (nI 0), .int (nI 0), .null, .null, .null, .null])), (q1, mp_aJ T 8 (fun _ => lN 0)), (q2, mp_aJ T 6 (fun _ => lN 0))] := hD
  refine lv_aload_n hx hb dX1_init_35 rfl (lv_at hl 0 rfl) ?_
  refine lv_bipush (v := (nI 6)) hx hb dX1_init_36 (by decide) ?_
  refine mp_newJ (N := 6) X hK hP hD hS hA (by decide) (by decide) (by decide) (Nat.le_of_ble_eq_true rfl) (Nat.le_of_ble_eq_true rfl) dX1_init_38 (fun q3 H hP hD hS => ?_)
  replace hP : va_P D mp_cl [(a, .inr (1, [.int (nI 0), .int (nI 0), .int (nI 0), .ref q1, .ref q2, .null, .null, .int (nI 0), .int (nI 0), .null, .null, .null, .null])), (q1, mp_aJ T 8 (fun _ => lN 0)), (q2, mp_aJ T 6 (fun _ => lN 0)), (q3, mp_aJ T 6 (fun _ => lN 0))] H := hP
  replace hD : va_D A [(a, .inr (1, [.int (nI 0), .int (nI 0), .int (nI 0), .ref q1, .ref q2, .null, .null, .int (nI 0), .int (nI 0), .null, .null, .null, .null])), (q1, mp_aJ T 8 (fun _ => lN 0)), (q2, mp_aJ T 6 (fun _ => lN 0)), (q3, mp_aJ T 6 (fun _ => lN 0))] := hD
  refine mp_putF X fl_X1_28 fp_X1 rfl hK hP hD hS 0 rfl rfl rfl (Nat.le_of_ble_eq_true rfl) dX1_init_40 (fun H locs hP hD hS => ?_)
  replace hP : va_P D mp_cl [(a, .inr (1, [.int (nI 0), .int (nI 0), .int (nI 0), .ref q1, .ref q2, .ref q3, .null, .int (nI 0), .int (nI 0), .null, .null, .null, .null])), (q1, mp_aJ T 8 (fun _ => lN 0)), (q2, mp_aJ T 6 (fun _ => lN 0)), (q3, mp_aJ T 6 (fun _ => lN 0))] H := hP
  replace hD : va_D A [(a, .inr (1, [.int (nI 0), .int (nI 0), .int (nI 0), .ref q1, .ref q2, .ref q3, .null, .int (nI 0), .int (nI 0), .null, .null, .null, .null])), (q1, mp_aJ T 8 (fun _ => lN 0)), (q2, mp_aJ T 6 (fun _ => lN 0)), (q3, mp_aJ T 6 (fun _ => lN 0))] := hD
  refine lv_aload_n hx hb dX1_init_43 rfl (lv_at hl 0 rfl) ?_
  refine lv_bipush (v := (nI 8)) hx hb dX1_init_44 (by decide) ?_
  refine mp_newI (N := 8) X hK hP hD hS hA (by decide) (by decide) (by decide) (Nat.le_of_ble_eq_true rfl) (Nat.le_of_ble_eq_true rfl) dX1_init_46 (fun q4 H hP hD hS => ?_)
  replace hP : va_P D mp_cl [(a, .inr (1, [.int (nI 0), .int (nI 0), .int (nI 0), .ref q1, .ref q2, .ref q3, .null, .int (nI 0), .int (nI 0), .null, .null, .null, .null])), (q1, mp_aJ T 8 (fun _ => lN 0)), (q2, mp_aJ T 6 (fun _ => lN 0)), (q3, mp_aJ T 6 (fun _ => lN 0)), (q4, mp_aI T 8 (fun _ => nI 0))] H := hP
  replace hD : va_D A [(a, .inr (1, [.int (nI 0), .int (nI 0), .int (nI 0), .ref q1, .ref q2, .ref q3, .null, .int (nI 0), .int (nI 0), .null, .null, .null, .null])), (q1, mp_aJ T 8 (fun _ => lN 0)), (q2, mp_aJ T 6 (fun _ => lN 0)), (q3, mp_aJ T 6 (fun _ => lN 0)), (q4, mp_aI T 8 (fun _ => nI 0))] := hD
  refine mp_putF X fl_X1_31 fp_X1 rfl hK hP hD hS 0 rfl rfl rfl (Nat.le_of_ble_eq_true rfl) dX1_init_48 (fun H locs hP hD hS => ?_)
  replace hP : va_P D mp_cl [(a, .inr (1, [.int (nI 0), .int (nI 0), .int (nI 0), .ref q1, .ref q2, .ref q3, .ref q4, .int (nI 0), .int (nI 0), .null, .null, .null, .null])), (q1, mp_aJ T 8 (fun _ => lN 0)), (q2, mp_aJ T 6 (fun _ => lN 0)), (q3, mp_aJ T 6 (fun _ => lN 0)), (q4, mp_aI T 8 (fun _ => nI 0))] H := hP
  replace hD : va_D A [(a, .inr (1, [.int (nI 0), .int (nI 0), .int (nI 0), .ref q1, .ref q2, .ref q3, .ref q4, .int (nI 0), .int (nI 0), .null, .null, .null, .null])), (q1, mp_aJ T 8 (fun _ => lN 0)), (q2, mp_aJ T 6 (fun _ => lN 0)), (q3, mp_aJ T 6 (fun _ => lN 0)), (q4, mp_aI T 8 (fun _ => nI 0))] := hD
  refine lv_aload_n hx hb dX1_init_51 rfl (lv_at hl 0 rfl) ?_
  refine lv_iconst (v := (nI 0)) hx hb dX1_init_52 (by decide) ?_
  refine mp_putf X fl_X1_35 fp_X1 rfl hK hP hD hS 0 rfl rfl rfl (Nat.le_of_ble_eq_true rfl) dX1_init_53 (fun H locs hP hD hS => ?_)
  replace hP : va_P D mp_cl [(a, .inr (1, [.int (nI 0), .int (nI 0), .int (nI 0), .ref q1, .ref q2, .ref q3, .ref q4, .int (nI 0), .int (nI 0), .null, .null, .null, .null])), (q1, mp_aJ T 8 (fun _ => lN 0)), (q2, mp_aJ T 6 (fun _ => lN 0)), (q3, mp_aJ T 6 (fun _ => lN 0)), (q4, mp_aI T 8 (fun _ => nI 0))] H := hP
  replace hD : va_D A [(a, .inr (1, [.int (nI 0), .int (nI 0), .int (nI 0), .ref q1, .ref q2, .ref q3, .ref q4, .int (nI 0), .int (nI 0), .null, .null, .null, .null])), (q1, mp_aJ T 8 (fun _ => lN 0)), (q2, mp_aJ T 6 (fun _ => lN 0)), (q3, mp_aJ T 6 (fun _ => lN 0)), (q4, mp_aI T 8 (fun _ => nI 0))] := hD
  refine lv_aload_n hx hb dX1_init_56 rfl (lv_at hl 0 rfl) ?_
  refine lv_iconst (v := (nI 0)) hx hb dX1_init_57 (by decide) ?_
  refine mp_putf X fl_X1_38 fp_X1 rfl hK hP hD hS 0 rfl rfl rfl (Nat.le_of_ble_eq_true rfl) dX1_init_58 (fun H locs hP hD hS => ?_)
  replace hP : va_P D mp_cl [(a, .inr (1, [.int (nI 0), .int (nI 0), .int (nI 0), .ref q1, .ref q2, .ref q3, .ref q4, .int (nI 0), .int (nI 0), .null, .null, .null, .null])), (q1, mp_aJ T 8 (fun _ => lN 0)), (q2, mp_aJ T 6 (fun _ => lN 0)), (q3, mp_aJ T 6 (fun _ => lN 0)), (q4, mp_aI T 8 (fun _ => nI 0))] H := hP
  replace hD : va_D A [(a, .inr (1, [.int (nI 0), .int (nI 0), .int (nI 0), .ref q1, .ref q2, .ref q3, .ref q4, .int (nI 0), .int (nI 0), .null, .null, .null, .null])), (q1, mp_aJ T 8 (fun _ => lN 0)), (q2, mp_aJ T 6 (fun _ => lN 0)), (q3, mp_aJ T 6 (fun _ => lN 0)), (q4, mp_aI T 8 (fun _ => nI 0))] := hD
  refine lv_aload_n hx hb dX1_init_61 rfl (lv_at hl 0 rfl) ?_
  refine lv_bipush (v := (nI 6)) hx hb dX1_init_62 (by decide) ?_
  refine mp_newI (N := 6) X hK hP hD hS hA (by decide) (by decide) (by decide) (Nat.le_of_ble_eq_true rfl) (Nat.le_of_ble_eq_true rfl) dX1_init_64 (fun q5 H hP hD hS => ?_)
  replace hP : va_P D mp_cl [(a, .inr (1, [.int (nI 0), .int (nI 0), .int (nI 0), .ref q1, .ref q2, .ref q3, .ref q4, .int (nI 0), .int (nI 0), .null, .null, .null, .null])), (q1, mp_aJ T 8 (fun _ => lN 0)), (q2, mp_aJ T 6 (fun _ => lN 0)), (q3, mp_aJ T 6 (fun _ => lN 0)), (q4, mp_aI T 8 (fun _ => nI 0)), (q5, mp_aI T 6 (fun _ => nI 0))] H := hP
  replace hD : va_D A [(a, .inr (1, [.int (nI 0), .int (nI 0), .int (nI 0), .ref q1, .ref q2, .ref q3, .ref q4, .int (nI 0), .int (nI 0), .null, .null, .null, .null])), (q1, mp_aJ T 8 (fun _ => lN 0)), (q2, mp_aJ T 6 (fun _ => lN 0)), (q3, mp_aJ T 6 (fun _ => lN 0)), (q4, mp_aI T 8 (fun _ => nI 0)), (q5, mp_aI T 6 (fun _ => nI 0))] := hD
  refine mp_putF X fl_X1_41 fp_X1 rfl hK hP hD hS 0 rfl rfl rfl (Nat.le_of_ble_eq_true rfl) dX1_init_66 (fun H locs hP hD hS => ?_)
  replace hP : va_P D mp_cl [(a, .inr (1, [.int (nI 0), .int (nI 0), .int (nI 0), .ref q1, .ref q2, .ref q3, .ref q4, .int (nI 0), .int (nI 0), .ref q5, .null, .null, .null])), (q1, mp_aJ T 8 (fun _ => lN 0)), (q2, mp_aJ T 6 (fun _ => lN 0)), (q3, mp_aJ T 6 (fun _ => lN 0)), (q4, mp_aI T 8 (fun _ => nI 0)), (q5, mp_aI T 6 (fun _ => nI 0))] H := hP
  replace hD : va_D A [(a, .inr (1, [.int (nI 0), .int (nI 0), .int (nI 0), .ref q1, .ref q2, .ref q3, .ref q4, .int (nI 0), .int (nI 0), .ref q5, .null, .null, .null])), (q1, mp_aJ T 8 (fun _ => lN 0)), (q2, mp_aJ T 6 (fun _ => lN 0)), (q3, mp_aJ T 6 (fun _ => lN 0)), (q4, mp_aI T 8 (fun _ => nI 0)), (q5, mp_aI T 6 (fun _ => nI 0))] := hD
  refine lv_aload_n hx hb dX1_init_69 rfl (lv_at hl 0 rfl) ?_
  refine lv_bipush (v := (nI 6)) hx hb dX1_init_70 (by decide) ?_
  refine mp_newI (N := 6) X hK hP hD hS hA (by decide) (by decide) (by decide) (Nat.le_of_ble_eq_true rfl) (Nat.le_of_ble_eq_true rfl) dX1_init_72 (fun q6 H hP hD hS => ?_)
  replace hP : va_P D mp_cl [(a, .inr (1, [.int (nI 0), .int (nI 0), .int (nI 0), .ref q1, .ref q2, .ref q3, .ref q4, .int (nI 0), .int (nI 0), .ref q5, .null, .null, .null])), (q1, mp_aJ T 8 (fun _ => lN 0)), (q2, mp_aJ T 6 (fun _ => lN 0)), (q3, mp_aJ T 6 (fun _ => lN 0)), (q4, mp_aI T 8 (fun _ => nI 0)), (q5, mp_aI T 6 (fun _ => nI 0)), (q6, mp_aI T 6 (fun _ => nI 0))] H := hP
  replace hD : va_D A [(a, .inr (1, [.int (nI 0), .int (nI 0), .int (nI 0), .ref q1, .ref q2, .ref q3, .ref q4, .int (nI 0), .int (nI 0), .ref q5, .null, .null, .null])), (q1, mp_aJ T 8 (fun _ => lN 0)), (q2, mp_aJ T 6 (fun _ => lN 0)), (q3, mp_aJ T 6 (fun _ => lN 0)), (q4, mp_aI T 8 (fun _ => nI 0)), (q5, mp_aI T 6 (fun _ => nI 0)), (q6, mp_aI T 6 (fun _ => nI 0))] := hD
  refine mp_putF X fl_X1_44 fp_X1 rfl hK hP hD hS 0 rfl rfl rfl (Nat.le_of_ble_eq_true rfl) dX1_init_74 (fun H locs hP hD hS => ?_)
  replace hP : va_P D mp_cl [(a, .inr (1, [.int (nI 0), .int (nI 0), .int (nI 0), .ref q1, .ref q2, .ref q3, .ref q4, .int (nI 0), .int (nI 0), .ref q5, .ref q6, .null, .null])), (q1, mp_aJ T 8 (fun _ => lN 0)), (q2, mp_aJ T 6 (fun _ => lN 0)), (q3, mp_aJ T 6 (fun _ => lN 0)), (q4, mp_aI T 8 (fun _ => nI 0)), (q5, mp_aI T 6 (fun _ => nI 0)), (q6, mp_aI T 6 (fun _ => nI 0))] H := hP
  replace hD : va_D A [(a, .inr (1, [.int (nI 0), .int (nI 0), .int (nI 0), .ref q1, .ref q2, .ref q3, .ref q4, .int (nI 0), .int (nI 0), .ref q5, .ref q6, .null, .null])), (q1, mp_aJ T 8 (fun _ => lN 0)), (q2, mp_aJ T 6 (fun _ => lN 0)), (q3, mp_aJ T 6 (fun _ => lN 0)), (q4, mp_aI T 8 (fun _ => nI 0)), (q5, mp_aI T 6 (fun _ => nI 0)), (q6, mp_aI T 6 (fun _ => nI 0))] := hD
  refine lv_aload_n hx hb dX1_init_77 rfl (lv_at hl 0 rfl) ?_
  refine mp_new (ci := 7) (fs := [.null, .int (nI 0), .int (nI 0), .null, .null, .null, .null, .null, .null, .int (nI 0), .int (nI 0), .int (nI 0), .int (nI 0)]) X fp_X7 win_X7 cl_X1_47 ins_X7 me_X7_init.2.1 hK hP hD hS hA rfl (by intro j hj; rcases (show j = 0 ∨ j = 1 ∨ j = 2 ∨ j = 3 ∨ j = 4 ∨ j = 5 ∨ j = 6 ∨ j = 7 ∨ j = 8 ∨ j = 9 ∨ j = 10 ∨ j = 11 ∨ j = 12 by omega) with rfl | rfl | rfl | rfl | rfl | rfl | rfl | rfl | rfl | rfl | rfl | rfl | rfl <;> rfl) (Nat.le_of_ble_eq_true rfl) (Nat.le_of_ble_eq_true rfl) dX1_init_78 (fun q7 H hP hD hS => ?_)
  replace hP : va_P D mp_cl [(a, .inr (1, [.int (nI 0), .int (nI 0), .int (nI 0), .ref q1, .ref q2, .ref q3, .ref q4, .int (nI 0), .int (nI 0), .ref q5, .ref q6, .null, .null])), (q1, mp_aJ T 8 (fun _ => lN 0)), (q2, mp_aJ T 6 (fun _ => lN 0)), (q3, mp_aJ T 6 (fun _ => lN 0)), (q4, mp_aI T 8 (fun _ => nI 0)), (q5, mp_aI T 6 (fun _ => nI 0)), (q6, mp_aI T 6 (fun _ => nI 0)), (q7, .inr (7, [.null, .int (nI 0), .int (nI 0), .null, .null, .null, .null, .null, .null, .int (nI 0), .int (nI 0), .int (nI 0), .int (nI 0)]))] H := hP
  replace hD : va_D A [(a, .inr (1, [.int (nI 0), .int (nI 0), .int (nI 0), .ref q1, .ref q2, .ref q3, .ref q4, .int (nI 0), .int (nI 0), .ref q5, .ref q6, .null, .null])), (q1, mp_aJ T 8 (fun _ => lN 0)), (q2, mp_aJ T 6 (fun _ => lN 0)), (q3, mp_aJ T 6 (fun _ => lN 0)), (q4, mp_aI T 8 (fun _ => nI 0)), (q5, mp_aI T 6 (fun _ => nI 0)), (q6, mp_aI T 6 (fun _ => nI 0)), (q7, .inr (7, [.null, .int (nI 0), .int (nI 0), .null, .null, .null, .null, .null, .null, .int (nI 0), .int (nI 0), .int (nI 0), .int (nI 0)]))] := hD
  refine lv_dup hx hb dX1_init_81 rfl ?_
  have hPc := hP.sub (ws' := [(q7, .inr (7, [.null, .int (nI 0), .int (nI 0), .null, .null, .null, .null, .null, .null, .int (nI 0), .int (nI 0), .int (nI 0), .int (nI 0)]))]) [7] rfl
  have hDc := hD.sub (ws' := [(q7, .inr (7, [.null, .int (nI 0), .int (nI 0), .null, .null, .null, .null, .null, .null, .int (nI 0), .int (nI 0), .int (nI 0), .int (nI 0)]))]) [7] (by decide) rfl
  refine mp_callc (isC := [7]) (isR := [0, 1, 2, 3, 4, 5, 6]) (wc := [(q7, .inr (7, [.null, .int (nI 0), .int (nI 0), .null, .null, .null, .null, .null, .null, .int (nI 0), .int (nI 0), .int (nI 0), .int (nI 0)]))]) (wr := [(a, .inr (1, [.int (nI 0), .int (nI 0), .int (nI 0), .ref q1, .ref q2, .ref q3, .ref q4, .int (nI 0), .int (nI 0), .ref q5, .ref q6, .null, .null])), (q1, mp_aJ T 8 (fun _ => lN 0)), (q2, mp_aJ T 6 (fun _ => lN 0)), (q3, mp_aJ T 6 (fun _ => lN 0)), (q4, mp_aI T 8 (fun _ => nI 0)), (q5, mp_aI T 6 (fun _ => nI 0)), (q6, mp_aI T 6 (fun _ => nI 0))]) (w1 := w_X7 T q7) hP hD hS hA rfl rfl (by decide) (by decide) (mp_runIN (As := []) (rest := [.ref q7, .ref a]) X me_X7_init (ln_X1_49 hZ) (i_X7 l D T q7) rfl rfl ⟨(Nat.le_of_ble_eq_true rfl), (Nat.le_of_ble_eq_true rfl)⟩ hK hPc hDc rfl hl.1 rfl (Nat.le_of_ble_eq_true rfl) dX1_init_82 ⟨(Nat.le_of_ble_eq_true rfl), (Nat.le_of_ble_eq_true rfl)⟩) (fun r8 H locs hP hD hS => ?_)
  replace hP : va_P D mp_cl [(a, .inr (1, [.int (nI 0), .int (nI 0), .int (nI 0), .ref q1, .ref q2, .ref q3, .ref q4, .int (nI 0), .int (nI 0), .ref q5, .ref q6, .null, .null])), (q1, mp_aJ T 8 (fun _ => lN 0)), (q2, mp_aJ T 6 (fun _ => lN 0)), (q3, mp_aJ T 6 (fun _ => lN 0)), (q4, mp_aI T 8 (fun _ => nI 0)), (q5, mp_aI T 6 (fun _ => nI 0)), (q6, mp_aI T 6 (fun _ => nI 0)), (q7, .inr (7, [.ref (r8 0), .int (nI 0), .int (nI 0), .ref (r8 1), .ref (r8 2), .ref (r8 3), .ref (r8 4), .ref (r8 5), .ref (r8 6), .int (nI 0), .int (nI 0), .int (nI 0), .int (nI 0)])), ((r8 0), mp_aI T 8 (fun _ => nI 0)), ((r8 1), mp_aI T 8 (fun _ => nI 0)), ((r8 2), mp_aI T 8 (fun _ => nI 0)), ((r8 3), mp_aI T 6 (fun _ => nI 0)), ((r8 4), mp_aI T 36 (fun _ => nI 0)), ((r8 5), mp_aI T 6 (fun _ => nI 0)), ((r8 6), mp_aI T 6 (fun _ => nI 0))] H := hP
  replace hD : va_D A [(a, .inr (1, [.int (nI 0), .int (nI 0), .int (nI 0), .ref q1, .ref q2, .ref q3, .ref q4, .int (nI 0), .int (nI 0), .ref q5, .ref q6, .null, .null])), (q1, mp_aJ T 8 (fun _ => lN 0)), (q2, mp_aJ T 6 (fun _ => lN 0)), (q3, mp_aJ T 6 (fun _ => lN 0)), (q4, mp_aI T 8 (fun _ => nI 0)), (q5, mp_aI T 6 (fun _ => nI 0)), (q6, mp_aI T 6 (fun _ => nI 0)), (q7, .inr (7, [.ref (r8 0), .int (nI 0), .int (nI 0), .ref (r8 1), .ref (r8 2), .ref (r8 3), .ref (r8 4), .ref (r8 5), .ref (r8 6), .int (nI 0), .int (nI 0), .int (nI 0), .int (nI 0)])), ((r8 0), mp_aI T 8 (fun _ => nI 0)), ((r8 1), mp_aI T 8 (fun _ => nI 0)), ((r8 2), mp_aI T 8 (fun _ => nI 0)), ((r8 3), mp_aI T 6 (fun _ => nI 0)), ((r8 4), mp_aI T 36 (fun _ => nI 0)), ((r8 5), mp_aI T 6 (fun _ => nI 0)), ((r8 6), mp_aI T 6 (fun _ => nI 0))] := hD
  refine mp_putF X fl_X1_50 fp_X1 rfl hK hP hD hS 0 rfl rfl rfl (Nat.le_of_ble_eq_true rfl) dX1_init_85 (fun H locs hP hD hS => ?_)
  replace hP : va_P D mp_cl [(a, .inr (1, [.int (nI 0), .int (nI 0), .int (nI 0), .ref q1, .ref q2, .ref q3, .ref q4, .int (nI 0), .int (nI 0), .ref q5, .ref q6, .ref q7, .null])), (q1, mp_aJ T 8 (fun _ => lN 0)), (q2, mp_aJ T 6 (fun _ => lN 0)), (q3, mp_aJ T 6 (fun _ => lN 0)), (q4, mp_aI T 8 (fun _ => nI 0)), (q5, mp_aI T 6 (fun _ => nI 0)), (q6, mp_aI T 6 (fun _ => nI 0)), (q7, .inr (7, [.ref (r8 0), .int (nI 0), .int (nI 0), .ref (r8 1), .ref (r8 2), .ref (r8 3), .ref (r8 4), .ref (r8 5), .ref (r8 6), .int (nI 0), .int (nI 0), .int (nI 0), .int (nI 0)])), ((r8 0), mp_aI T 8 (fun _ => nI 0)), ((r8 1), mp_aI T 8 (fun _ => nI 0)), ((r8 2), mp_aI T 8 (fun _ => nI 0)), ((r8 3), mp_aI T 6 (fun _ => nI 0)), ((r8 4), mp_aI T 36 (fun _ => nI 0)), ((r8 5), mp_aI T 6 (fun _ => nI 0)), ((r8 6), mp_aI T 6 (fun _ => nI 0))] H := hP
  replace hD : va_D A [(a, .inr (1, [.int (nI 0), .int (nI 0), .int (nI 0), .ref q1, .ref q2, .ref q3, .ref q4, .int (nI 0), .int (nI 0), .ref q5, .ref q6, .ref q7, .null])), (q1, mp_aJ T 8 (fun _ => lN 0)), (q2, mp_aJ T 6 (fun _ => lN 0)), (q3, mp_aJ T 6 (fun _ => lN 0)), (q4, mp_aI T 8 (fun _ => nI 0)), (q5, mp_aI T 6 (fun _ => nI 0)), (q6, mp_aI T 6 (fun _ => nI 0)), (q7, .inr (7, [.ref (r8 0), .int (nI 0), .int (nI 0), .ref (r8 1), .ref (r8 2), .ref (r8 3), .ref (r8 4), .ref (r8 5), .ref (r8 6), .int (nI 0), .int (nI 0), .int (nI 0), .int (nI 0)])), ((r8 0), mp_aI T 8 (fun _ => nI 0)), ((r8 1), mp_aI T 8 (fun _ => nI 0)), ((r8 2), mp_aI T 8 (fun _ => nI 0)), ((r8 3), mp_aI T 6 (fun _ => nI 0)), ((r8 4), mp_aI T 36 (fun _ => nI 0)), ((r8 5), mp_aI T 6 (fun _ => nI 0)), ((r8 6), mp_aI T 6 (fun _ => nI 0))] := hD
  refine lv_aload_n hx hb dX1_init_88 rfl (lv_at hl 0 rfl) ?_
  refine mp_new (ci := 5) (fs := [.int (nI 0), .int (nI 0), .int (nI 0), .null, .null, .null, .null]) X fp_X5 win_X5 cl_X1_54 ins_X5 me_X5_init.2.1 hK hP hD hS hA rfl (by intro j hj; rcases (show j = 0 ∨ j = 1 ∨ j = 2 ∨ j = 3 ∨ j = 4 ∨ j = 5 ∨ j = 6 by omega) with rfl | rfl | rfl | rfl | rfl | rfl | rfl <;> rfl) (Nat.le_of_ble_eq_true rfl) (Nat.le_of_ble_eq_true rfl) dX1_init_89 (fun q9 H hP hD hS => ?_)
  replace hP : va_P D mp_cl [(a, .inr (1, [.int (nI 0), .int (nI 0), .int (nI 0), .ref q1, .ref q2, .ref q3, .ref q4, .int (nI 0), .int (nI 0), .ref q5, .ref q6, .ref q7, .null])), (q1, mp_aJ T 8 (fun _ => lN 0)), (q2, mp_aJ T 6 (fun _ => lN 0)), (q3, mp_aJ T 6 (fun _ => lN 0)), (q4, mp_aI T 8 (fun _ => nI 0)), (q5, mp_aI T 6 (fun _ => nI 0)), (q6, mp_aI T 6 (fun _ => nI 0)), (q7, .inr (7, [.ref (r8 0), .int (nI 0), .int (nI 0), .ref (r8 1), .ref (r8 2), .ref (r8 3), .ref (r8 4), .ref (r8 5), .ref (r8 6), .int (nI 0), .int (nI 0), .int (nI 0), .int (nI 0)])), ((r8 0), mp_aI T 8 (fun _ => nI 0)), ((r8 1), mp_aI T 8 (fun _ => nI 0)), ((r8 2), mp_aI T 8 (fun _ => nI 0)), ((r8 3), mp_aI T 6 (fun _ => nI 0)), ((r8 4), mp_aI T 36 (fun _ => nI 0)), ((r8 5), mp_aI T 6 (fun _ => nI 0)), ((r8 6), mp_aI T 6 (fun _ => nI 0)), (q9, .inr (5, [.int (nI 0), .int (nI 0), .int (nI 0), .null, .null, .null, .null]))] H := hP
  replace hD : va_D A [(a, .inr (1, [.int (nI 0), .int (nI 0), .int (nI 0), .ref q1, .ref q2, .ref q3, .ref q4, .int (nI 0), .int (nI 0), .ref q5, .ref q6, .ref q7, .null])), (q1, mp_aJ T 8 (fun _ => lN 0)), (q2, mp_aJ T 6 (fun _ => lN 0)), (q3, mp_aJ T 6 (fun _ => lN 0)), (q4, mp_aI T 8 (fun _ => nI 0)), (q5, mp_aI T 6 (fun _ => nI 0)), (q6, mp_aI T 6 (fun _ => nI 0)), (q7, .inr (7, [.ref (r8 0), .int (nI 0), .int (nI 0), .ref (r8 1), .ref (r8 2), .ref (r8 3), .ref (r8 4), .ref (r8 5), .ref (r8 6), .int (nI 0), .int (nI 0), .int (nI 0), .int (nI 0)])), ((r8 0), mp_aI T 8 (fun _ => nI 0)), ((r8 1), mp_aI T 8 (fun _ => nI 0)), ((r8 2), mp_aI T 8 (fun _ => nI 0)), ((r8 3), mp_aI T 6 (fun _ => nI 0)), ((r8 4), mp_aI T 36 (fun _ => nI 0)), ((r8 5), mp_aI T 6 (fun _ => nI 0)), ((r8 6), mp_aI T 6 (fun _ => nI 0)), (q9, .inr (5, [.int (nI 0), .int (nI 0), .int (nI 0), .null, .null, .null, .null]))] := hD
  refine lv_dup hx hb dX1_init_92 rfl ?_
  have hPc := hP.sub (ws' := [(q9, .inr (5, [.int (nI 0), .int (nI 0), .int (nI 0), .null, .null, .null, .null]))]) [15] rfl
  have hDc := hD.sub (ws' := [(q9, .inr (5, [.int (nI 0), .int (nI 0), .int (nI 0), .null, .null, .null, .null]))]) [15] (by decide) rfl
  refine mp_callc (isC := [15]) (isR := [0, 1, 2, 3, 4, 5, 6, 7, 8, 9, 10, 11, 12, 13, 14]) (wc := [(q9, .inr (5, [.int (nI 0), .int (nI 0), .int (nI 0), .null, .null, .null, .null]))]) (wr := [(a, .inr (1, [.int (nI 0), .int (nI 0), .int (nI 0), .ref q1, .ref q2, .ref q3, .ref q4, .int (nI 0), .int (nI 0), .ref q5, .ref q6, .ref q7, .null])), (q1, mp_aJ T 8 (fun _ => lN 0)), (q2, mp_aJ T 6 (fun _ => lN 0)), (q3, mp_aJ T 6 (fun _ => lN 0)), (q4, mp_aI T 8 (fun _ => nI 0)), (q5, mp_aI T 6 (fun _ => nI 0)), (q6, mp_aI T 6 (fun _ => nI 0)), (q7, .inr (7, [.ref (r8 0), .int (nI 0), .int (nI 0), .ref (r8 1), .ref (r8 2), .ref (r8 3), .ref (r8 4), .ref (r8 5), .ref (r8 6), .int (nI 0), .int (nI 0), .int (nI 0), .int (nI 0)])), ((r8 0), mp_aI T 8 (fun _ => nI 0)), ((r8 1), mp_aI T 8 (fun _ => nI 0)), ((r8 2), mp_aI T 8 (fun _ => nI 0)), ((r8 3), mp_aI T 6 (fun _ => nI 0)), ((r8 4), mp_aI T 36 (fun _ => nI 0)), ((r8 5), mp_aI T 6 (fun _ => nI 0)), ((r8 6), mp_aI T 6 (fun _ => nI 0))]) (w1 := w_X5 T q9) hP hD hS hA rfl rfl (by decide) (by decide) (mp_runIN (As := []) (rest := [.ref q9, .ref a]) X me_X5_init (ln_X1_56 hZ) (i_X5 l D T q9) rfl rfl ⟨(Nat.le_of_ble_eq_true rfl), (Nat.le_of_ble_eq_true rfl)⟩ hK hPc hDc rfl hl.1 rfl (Nat.le_of_ble_eq_true rfl) dX1_init_93 ⟨(Nat.le_of_ble_eq_true rfl), (Nat.le_of_ble_eq_true rfl)⟩) (fun r10 H locs hP hD hS => ?_)
  replace hP : va_P D mp_cl [(a, .inr (1, [.int (nI 0), .int (nI 0), .int (nI 0), .ref q1, .ref q2, .ref q3, .ref q4, .int (nI 0), .int (nI 0), .ref q5, .ref q6, .ref q7, .null])), (q1, mp_aJ T 8 (fun _ => lN 0)), (q2, mp_aJ T 6 (fun _ => lN 0)), (q3, mp_aJ T 6 (fun _ => lN 0)), (q4, mp_aI T 8 (fun _ => nI 0)), (q5, mp_aI T 6 (fun _ => nI 0)), (q6, mp_aI T 6 (fun _ => nI 0)), (q7, .inr (7, [.ref (r8 0), .int (nI 0), .int (nI 0), .ref (r8 1), .ref (r8 2), .ref (r8 3), .ref (r8 4), .ref (r8 5), .ref (r8 6), .int (nI 0), .int (nI 0), .int (nI 0), .int (nI 0)])), ((r8 0), mp_aI T 8 (fun _ => nI 0)), ((r8 1), mp_aI T 8 (fun _ => nI 0)), ((r8 2), mp_aI T 8 (fun _ => nI 0)), ((r8 3), mp_aI T 6 (fun _ => nI 0)), ((r8 4), mp_aI T 36 (fun _ => nI 0)), ((r8 5), mp_aI T 6 (fun _ => nI 0)), ((r8 6), mp_aI T 6 (fun _ => nI 0)), (q9, .inr (5, [.int (nI 0), .int (nI 0), .int (nI 0), .ref (r10 0), .ref (r10 1), .ref (r10 2), .ref (r10 3)])), ((r10 0), mp_aI T 60 (fun _ => nI 0)), ((r10 1), mp_aI T 60 (fun _ => nI 0)), ((r10 2), mp_aI T 60 (fun _ => nI 0)), ((r10 3), mp_aI T 60 (fun _ => nI 0))] H := hP
  replace hD : va_D A [(a, .inr (1, [.int (nI 0), .int (nI 0), .int (nI 0), .ref q1, .ref q2, .ref q3, .ref q4, .int (nI 0), .int (nI 0), .ref q5, .ref q6, .ref q7, .null])), (q1, mp_aJ T 8 (fun _ => lN 0)), (q2, mp_aJ T 6 (fun _ => lN 0)), (q3, mp_aJ T 6 (fun _ => lN 0)), (q4, mp_aI T 8 (fun _ => nI 0)), (q5, mp_aI T 6 (fun _ => nI 0)), (q6, mp_aI T 6 (fun _ => nI 0)), (q7, .inr (7, [.ref (r8 0), .int (nI 0), .int (nI 0), .ref (r8 1), .ref (r8 2), .ref (r8 3), .ref (r8 4), .ref (r8 5), .ref (r8 6), .int (nI 0), .int (nI 0), .int (nI 0), .int (nI 0)])), ((r8 0), mp_aI T 8 (fun _ => nI 0)), ((r8 1), mp_aI T 8 (fun _ => nI 0)), ((r8 2), mp_aI T 8 (fun _ => nI 0)), ((r8 3), mp_aI T 6 (fun _ => nI 0)), ((r8 4), mp_aI T 36 (fun _ => nI 0)), ((r8 5), mp_aI T 6 (fun _ => nI 0)), ((r8 6), mp_aI T 6 (fun _ => nI 0)), (q9, .inr (5, [.int (nI 0), .int (nI 0), .int (nI 0), .ref (r10 0), .ref (r10 1), .ref (r10 2), .ref (r10 3)])), ((r10 0), mp_aI T 60 (fun _ => nI 0)), ((r10 1), mp_aI T 60 (fun _ => nI 0)), ((r10 2), mp_aI T 60 (fun _ => nI 0)), ((r10 3), mp_aI T 60 (fun _ => nI 0))] := hD
  refine mp_putF X fl_X1_57 fp_X1 rfl hK hP hD hS 0 rfl rfl rfl (Nat.le_of_ble_eq_true rfl) dX1_init_96 (fun H locs hP hD hS => ?_)
  replace hP : va_P D mp_cl [(a, .inr (1, [.int (nI 0), .int (nI 0), .int (nI 0), .ref q1, .ref q2, .ref q3, .ref q4, .int (nI 0), .int (nI 0), .ref q5, .ref q6, .ref q7, .ref q9])), (q1, mp_aJ T 8 (fun _ => lN 0)), (q2, mp_aJ T 6 (fun _ => lN 0)), (q3, mp_aJ T 6 (fun _ => lN 0)), (q4, mp_aI T 8 (fun _ => nI 0)), (q5, mp_aI T 6 (fun _ => nI 0)), (q6, mp_aI T 6 (fun _ => nI 0)), (q7, .inr (7, [.ref (r8 0), .int (nI 0), .int (nI 0), .ref (r8 1), .ref (r8 2), .ref (r8 3), .ref (r8 4), .ref (r8 5), .ref (r8 6), .int (nI 0), .int (nI 0), .int (nI 0), .int (nI 0)])), ((r8 0), mp_aI T 8 (fun _ => nI 0)), ((r8 1), mp_aI T 8 (fun _ => nI 0)), ((r8 2), mp_aI T 8 (fun _ => nI 0)), ((r8 3), mp_aI T 6 (fun _ => nI 0)), ((r8 4), mp_aI T 36 (fun _ => nI 0)), ((r8 5), mp_aI T 6 (fun _ => nI 0)), ((r8 6), mp_aI T 6 (fun _ => nI 0)), (q9, .inr (5, [.int (nI 0), .int (nI 0), .int (nI 0), .ref (r10 0), .ref (r10 1), .ref (r10 2), .ref (r10 3)])), ((r10 0), mp_aI T 60 (fun _ => nI 0)), ((r10 1), mp_aI T 60 (fun _ => nI 0)), ((r10 2), mp_aI T 60 (fun _ => nI 0)), ((r10 3), mp_aI T 60 (fun _ => nI 0))] H := hP
  replace hD : va_D A [(a, .inr (1, [.int (nI 0), .int (nI 0), .int (nI 0), .ref q1, .ref q2, .ref q3, .ref q4, .int (nI 0), .int (nI 0), .ref q5, .ref q6, .ref q7, .ref q9])), (q1, mp_aJ T 8 (fun _ => lN 0)), (q2, mp_aJ T 6 (fun _ => lN 0)), (q3, mp_aJ T 6 (fun _ => lN 0)), (q4, mp_aI T 8 (fun _ => nI 0)), (q5, mp_aI T 6 (fun _ => nI 0)), (q6, mp_aI T 6 (fun _ => nI 0)), (q7, .inr (7, [.ref (r8 0), .int (nI 0), .int (nI 0), .ref (r8 1), .ref (r8 2), .ref (r8 3), .ref (r8 4), .ref (r8 5), .ref (r8 6), .int (nI 0), .int (nI 0), .int (nI 0), .int (nI 0)])), ((r8 0), mp_aI T 8 (fun _ => nI 0)), ((r8 1), mp_aI T 8 (fun _ => nI 0)), ((r8 2), mp_aI T 8 (fun _ => nI 0)), ((r8 3), mp_aI T 6 (fun _ => nI 0)), ((r8 4), mp_aI T 36 (fun _ => nI 0)), ((r8 5), mp_aI T 6 (fun _ => nI 0)), ((r8 6), mp_aI T 6 (fun _ => nI 0)), (q9, .inr (5, [.int (nI 0), .int (nI 0), .int (nI 0), .ref (r10 0), .ref (r10 1), .ref (r10 2), .ref (r10 3)])), ((r10 0), mp_aI T 60 (fun _ => nI 0)), ((r10 1), mp_aI T 60 (fun _ => nI 0)), ((r10 2), mp_aI T 60 (fun _ => nI 0)), ((r10 3), mp_aI T 60 (fun _ => nI 0))] := hD
  exact mp_retc (w1 := w_X1 T a) (q := fun k => match k with | 0 => q1 | 1 => q2 | 2 => q3 | 3 => q4 | 4 => q5 | 5 => q6 | 6 => q7 | 7 => (r8 0) | 8 => (r8 1) | 9 => (r8 2) | 10 => (r8 3) | 11 => (r8 4) | 12 => (r8 5) | 13 => (r8 6) | 14 => q9 | 15 => (r10 0) | 16 => (r10 1) | 17 => (r10 2) | _ => (r10 3)) X hP hD hS dX1_init_99
/-- what Ahead() makes -/
def w_X0 (T : Nat → ClassId) (a : Nat) (q : Nat → Nat) : va_W := [(a, .inr (0, [.ref (q 0), .ref (q 8), .ref (q 9), .int (nI 0)])), ((q 0), .inr (7, [.ref (q 1), .int (nI 0), .int (nI 0), .ref (q 2), .ref (q 3), .ref (q 4), .ref (q 5), .ref (q 6), .ref (q 7), .int (nI 0), .int (nI 0), .int (nI 0), .int (nI 0)])), ((q 1), mp_aI T 8 (fun _ => nI 0)), ((q 2), mp_aI T 8 (fun _ => nI 0)), ((q 3), mp_aI T 8 (fun _ => nI 0)), ((q 4), mp_aI T 6 (fun _ => nI 0)), ((q 5), mp_aI T 36 (fun _ => nI 0)), ((q 6), mp_aI T 6 (fun _ => nI 0)), ((q 7), mp_aI T 6 (fun _ => nI 0)), ((q 8), mp_aI T 8 (fun _ => nI 0)), ((q 9), mp_aI T 6 (fun _ => nI 0))]
set_option maxHeartbeats 4000000 in
set_option maxRecDepth 100000 in
theorem i_X0 (l : Launch) (D : va_G) (T : Nat → ClassId) (a : Nat) : mp_ME l D T yX0_init cX0_init 1 none { frames := 2, cells := 10, slots := 105, locals := 40 } 10 105 [.ref a] [(a, .inr (0, [.null, .null, .null, .int (nI 0)]))] (mp_Qc D (w_X0 T a)) := by
  refine mp_ofE (by decide) (Nat.le_of_ble_eq_true rfl) rfl ?_
  intro p e s m args below meth c A ls hZ X hK hP hD hS hA hl
  replace X : mp_X p s m meth c args RX0 "<init>" cX0_init 1 none := X
  have hx := X.1
  have hb := X.2.1
  have hml := X.2.2.1
  have hown := X.2.2.2.2.1
  have hts := X.2.2.2.2.2.1
  replace hl : lv_has ls 1 [(0, .ref a)] := hl
  replace hP : va_P D mp_cl [(a, .inr (0, [.null, .null, .null, .int (nI 0)]))] s.heap := hP
  refine lv_aload_n hx hb dX0_init_0 rfl (lv_at hl 0 rfl) ?_
  refine mp_obj X lo_X0 hl.1 dX0_init_1 (Nat.le_of_ble_eq_true rfl) (Nat.le_of_ble_eq_true rfl) ?_
  refine lv_aload_n hx hb dX0_init_4 rfl (lv_at hl 0 rfl) ?_
  refine mp_new (ci := 7) (fs := [.null, .int (nI 0), .int (nI 0), .null, .null, .null, .null, .null, .null, .int (nI 0), .int (nI 0), .int (nI 0), .int (nI 0)]) X fp_X7 win_X7 cl_X0_9 ins_X7 me_X7_init.2.1 hK hP hD hS hA rfl (by intro j hj; rcases (show j = 0 ∨ j = 1 ∨ j = 2 ∨ j = 3 ∨ j = 4 ∨ j = 5 ∨ j = 6 ∨ j = 7 ∨ j = 8 ∨ j = 9 ∨ j = 10 ∨ j = 11 ∨ j = 12 by omega) with rfl | rfl | rfl | rfl | rfl | rfl | rfl | rfl | rfl | rfl | rfl | rfl | rfl <;> rfl) (Nat.le_of_ble_eq_true rfl) (Nat.le_of_ble_eq_true rfl) dX0_init_5 (fun q1 H hP hD hS => ?_)
  replace hP : va_P D mp_cl [(a, .inr (0, [.null, .null, .null, .int (nI 0)])), (q1, .inr (7, [.null, .int (nI 0), .int (nI 0), .null, .null, .null, .null, .null, .null, .int (nI 0), .int (nI 0), .int (nI 0), .int (nI 0)]))] H := hP
  replace hD : va_D A [(a, .inr (0, [.null, .null, .null, .int (nI 0)])), (q1, .inr (7, [.null, .int (nI 0), .int (nI 0), .null, .null, .null, .null, .null, .null, .int (nI 0), .int (nI 0), .int (nI 0), .int (nI 0)]))] := hD
  refine lv_dup hx hb dX0_init_8 rfl ?_
  have hPc := hP.sub (ws' := [(q1, .inr (7, [.null, .int (nI 0), .int (nI 0), .null, .null, .null, .null, .null, .null, .int (nI 0), .int (nI 0), .int (nI 0), .int (nI 0)]))]) [1] rfl
  have hDc := hD.sub (ws' := [(q1, .inr (7, [.null, .int (nI 0), .int (nI 0), .null, .null, .null, .null, .null, .null, .int (nI 0), .int (nI 0), .int (nI 0), .int (nI 0)]))]) [1] (by decide) rfl
  refine mp_callc (isC := [1]) (isR := [0]) (wc := [(q1, .inr (7, [.null, .int (nI 0), .int (nI 0), .null, .null, .null, .null, .null, .null, .int (nI 0), .int (nI 0), .int (nI 0), .int (nI 0)]))]) (wr := [(a, .inr (0, [.null, .null, .null, .int (nI 0)]))]) (w1 := w_X7 T q1) hP hD hS hA rfl rfl (by decide) (by decide) (mp_runIN (As := []) (rest := [.ref q1, .ref a]) X me_X7_init (ln_X0_11 hZ) (i_X7 l D T q1) rfl rfl ⟨(Nat.le_of_ble_eq_true rfl), (Nat.le_of_ble_eq_true rfl)⟩ hK hPc hDc rfl hl.1 rfl (Nat.le_of_ble_eq_true rfl) dX0_init_9 ⟨(Nat.le_of_ble_eq_true rfl), (Nat.le_of_ble_eq_true rfl)⟩) (fun r2 H locs hP hD hS => ?_)
  replace hP : va_P D mp_cl [(a, .inr (0, [.null, .null, .null, .int (nI 0)])), (q1, .inr (7, [.ref (r2 0), .int (nI 0), .int (nI 0), .ref (r2 1), .ref (r2 2), .ref (r2 3), .ref (r2 4), .ref (r2 5), .ref (r2 6), .int (nI 0), .int (nI 0), .int (nI 0), .int (nI 0)])), ((r2 0), mp_aI T 8 (fun _ => nI 0)), ((r2 1), mp_aI T 8 (fun _ => nI 0)), ((r2 2), mp_aI T 8 (fun _ => nI 0)), ((r2 3), mp_aI T 6 (fun _ => nI 0)), ((r2 4), mp_aI T 36 (fun _ => nI 0)), ((r2 5), mp_aI T 6 (fun _ => nI 0)), ((r2 6), mp_aI T 6 (fun _ => nI 0))] H := hP
  replace hD : va_D A [(a, .inr (0, [.null, .null, .null, .int (nI 0)])), (q1, .inr (7, [.ref (r2 0), .int (nI 0), .int (nI 0), .ref (r2 1), .ref (r2 2), .ref (r2 3), .ref (r2 4), .ref (r2 5), .ref (r2 6), .int (nI 0), .int (nI 0), .int (nI 0), .int (nI 0)])), ((r2 0), mp_aI T 8 (fun _ => nI 0)), ((r2 1), mp_aI T 8 (fun _ => nI 0)), ((r2 2), mp_aI T 8 (fun _ => nI 0)), ((r2 3), mp_aI T 6 (fun _ => nI 0)), ((r2 4), mp_aI T 36 (fun _ => nI 0)), ((r2 5), mp_aI T 6 (fun _ => nI 0)), ((r2 6), mp_aI T 6 (fun _ => nI 0))] := hD
  refine mp_putF X fl_X0_12 fp_X0 rfl hK hP hD hS 0 rfl rfl rfl (Nat.le_of_ble_eq_true rfl) dX0_init_12 (fun H locs hP hD hS => ?_)
  replace hP : va_P D mp_cl [(a, .inr (0, [.ref q1, .null, .null, .int (nI 0)])), (q1, .inr (7, [.ref (r2 0), .int (nI 0), .int (nI 0), .ref (r2 1), .ref (r2 2), .ref (r2 3), .ref (r2 4), .ref (r2 5), .ref (r2 6), .int (nI 0), .int (nI 0), .int (nI 0), .int (nI 0)])), ((r2 0), mp_aI T 8 (fun _ => nI 0)), ((r2 1), mp_aI T 8 (fun _ => nI 0)), ((r2 2), mp_aI T 8 (fun _ => nI 0)), ((r2 3), mp_aI T 6 (fun _ => nI 0)), ((r2 4), mp_aI T 36 (fun _ => nI 0)), ((r2 5), mp_aI T 6 (fun _ => nI 0)), ((r2 6), mp_aI T 6 (fun _ => nI 0))] H := hP
  replace hD : va_D A [(a, .inr (0, [.ref q1, .null, .null, .int (nI 0)])), (q1, .inr (7, [.ref (r2 0), .int (nI 0), .int (nI 0), .ref (r2 1), .ref (r2 2), .ref (r2 3), .ref (r2 4), .ref (r2 5), .ref (r2 6), .int (nI 0), .int (nI 0), .int (nI 0), .int (nI 0)])), ((r2 0), mp_aI T 8 (fun _ => nI 0)), ((r2 1), mp_aI T 8 (fun _ => nI 0)), ((r2 2), mp_aI T 8 (fun _ => nI 0)), ((r2 3), mp_aI T 6 (fun _ => nI 0)), ((r2 4), mp_aI T 36 (fun _ => nI 0)), ((r2 5), mp_aI T 6 (fun _ => nI 0)), ((r2 6), mp_aI T 6 (fun _ => nI 0))] := hD
  refine lv_aload_n hx hb dX0_init_15 rfl (lv_at hl 0 rfl) ?_
  refine lv_bipush (v := (nI 8)) hx hb dX0_init_16 (by decide) ?_
  refine mp_newI (N := 8) X hK hP hD hS hA (by decide) (by decide) (by decide) (Nat.le_of_ble_eq_true rfl) (Nat.le_of_ble_eq_true rfl) dX0_init_18 (fun q3 H hP hD hS => ?_)
  replace hP : va_P D mp_cl [(a, .inr (0, [.ref q1, .null, .null, .int (nI 0)])), (q1, .inr (7, [.ref (r2 0), .int (nI 0), .int (nI 0), .ref (r2 1), .ref (r2 2), .ref (r2 3), .ref (r2 4), .ref (r2 5), .ref (r2 6), .int (nI 0), .int (nI 0), .int (nI 0), .int (nI 0)])), ((r2 0), mp_aI T 8 (fun _ => nI 0)), ((r2 1), mp_aI T 8 (fun _ => nI 0)), ((r2 2), mp_aI T 8 (fun _ => nI 0)), ((r2 3), mp_aI T 6 (fun _ => nI 0)), ((r2 4), mp_aI T 36 (fun _ => nI 0)), ((r2 5), mp_aI T 6 (fun _ => nI 0)), ((r2 6), mp_aI T 6 (fun _ => nI 0)), (q3, mp_aI T 8 (fun _ => nI 0))] H := hP
  replace hD : va_D A [(a, .inr (0, [.ref q1, .null, .null, .int (nI 0)])), (q1, .inr (7, [.ref (r2 0), .int (nI 0), .int (nI 0), .ref (r2 1), .ref (r2 2), .ref (r2 3), .ref (r2 4), .ref (r2 5), .ref (r2 6), .int (nI 0), .int (nI 0), .int (nI 0), .int (nI 0)])), ((r2 0), mp_aI T 8 (fun _ => nI 0)), ((r2 1), mp_aI T 8 (fun _ => nI 0)), ((r2 2), mp_aI T 8 (fun _ => nI 0)), ((r2 3), mp_aI T 6 (fun _ => nI 0)), ((r2 4), mp_aI T 36 (fun _ => nI 0)), ((r2 5), mp_aI T 6 (fun _ => nI 0)), ((r2 6), mp_aI T 6 (fun _ => nI 0)), (q3, mp_aI T 8 (fun _ => nI 0))] := hD
  refine mp_putF X fl_X0_18 fp_X0 rfl hK hP hD hS 0 rfl rfl rfl (Nat.le_of_ble_eq_true rfl) dX0_init_20 (fun H locs hP hD hS => ?_)
  replace hP : va_P D mp_cl [(a, .inr (0, [.ref q1, .ref q3, .null, .int (nI 0)])), (q1, .inr (7, [.ref (r2 0), .int (nI 0), .int (nI 0), .ref (r2 1), .ref (r2 2), .ref (r2 3), .ref (r2 4), .ref (r2 5), .ref (r2 6), .int (nI 0), .int (nI 0), .int (nI 0), .int (nI 0)])), ((r2 0), mp_aI T 8 (fun _ => nI 0)), ((r2 1), mp_aI T 8 (fun _ => nI 0)), ((r2 2), mp_aI T 8 (fun _ => nI 0)), ((r2 3), mp_aI T 6 (fun _ => nI 0)), ((r2 4), mp_aI T 36 (fun _ => nI 0)), ((r2 5), mp_aI T 6 (fun _ => nI 0)), ((r2 6), mp_aI T 6 (fun _ => nI 0)), (q3, mp_aI T 8 (fun _ => nI 0))] H := hP
  replace hD : va_D A [(a, .inr (0, [.ref q1, .ref q3, .null, .int (nI 0)])), (q1, .inr (7, [.ref (r2 0), .int (nI 0), .int (nI 0), .ref (r2 1), .ref (r2 2), .ref (r2 3), .ref (r2 4), .ref (r2 5), .ref (r2 6), .int (nI 0), .int (nI 0), .int (nI 0), .int (nI 0)])), ((r2 0), mp_aI T 8 (fun _ => nI 0)), ((r2 1), mp_aI T 8 (fun _ => nI 0)), ((r2 2), mp_aI T 8 (fun _ => nI 0)), ((r2 3), mp_aI T 6 (fun _ => nI 0)), ((r2 4), mp_aI T 36 (fun _ => nI 0)), ((r2 5), mp_aI T 6 (fun _ => nI 0)), ((r2 6), mp_aI T 6 (fun _ => nI 0)), (q3, mp_aI T 8 (fun _ => nI 0))] := hD
  refine lv_aload_n hx hb dX0_init_23 rfl (lv_at hl 0 rfl) ?_
  refine lv_bipush (v := (nI 6)) hx hb dX0_init_24 (by decide) ?_
  refine mp_newI (N := 6) X hK hP hD hS hA (by decide) (by decide) (by decide) (Nat.le_of_ble_eq_true rfl) (Nat.le_of_ble_eq_true rfl) dX0_init_26 (fun q4 H hP hD hS => ?_)
  replace hP : va_P D mp_cl [(a, .inr (0, [.ref q1, .ref q3, .null, .int (nI 0)])), (q1, .inr (7, [.ref (r2 0), .int (nI 0), .int (nI 0), .ref (r2 1), .ref (r2 2), .ref (r2 3), .ref (r2 4), .ref (r2 5), .ref (r2 6), .int (nI 0), .int (nI 0), .int (nI 0), .int (nI 0)])), ((r2 0), mp_aI T 8 (fun _ => nI 0)), ((r2 1), mp_aI T 8 (fun _ => nI 0)), ((r2 2), mp_aI T 8 (fun _ => nI 0)), ((r2 3), mp_aI T 6 (fun _ => nI 0)), ((r2 4), mp_aI T 36 (fun _ => nI 0)), ((r2 5), mp_aI T 6 (fun _ => nI 0)), ((r2 6), mp_aI T 6 (fun _ => nI 0)), (q3, mp_aI T 8 (fun _ => nI 0)), (q4, mp_aI T 6 (fun _ => nI 0))] H := hP
  replace hD : va_D A [(a, .inr (0, [.ref q1, .ref q3, .null, .int (nI 0)])), (q1, .inr (7, [.ref (r2 0), .int (nI 0), .int (nI 0), .ref (r2 1), .ref (r2 2), .ref (r2 3), .ref (r2 4), .ref (r2 5), .ref (r2 6), .int (nI 0), .int (nI 0), .int (nI 0), .int (nI 0)])), ((r2 0), mp_aI T 8 (fun _ => nI 0)), ((r2 1), mp_aI T 8 (fun _ => nI 0)), ((r2 2), mp_aI T 8 (fun _ => nI 0)), ((r2 3), mp_aI T 6 (fun _ => nI 0)), ((r2 4), mp_aI T 36 (fun _ => nI 0)), ((r2 5), mp_aI T 6 (fun _ => nI 0)), ((r2 6), mp_aI T 6 (fun _ => nI 0)), (q3, mp_aI T 8 (fun _ => nI 0)), (q4, mp_aI T 6 (fun _ => nI 0))] := hD
  refine mp_putF X fl_X0_22 fp_X0 rfl hK hP hD hS 0 rfl rfl rfl (Nat.le_of_ble_eq_true rfl) dX0_init_28 (fun H locs hP hD hS => ?_)
  replace hP : va_P D mp_cl [(a, .inr (0, [.ref q1, .ref q3, .ref q4, .int (nI 0)])), (q1, .inr (7, [.ref (r2 0), .int (nI 0), .int (nI 0), .ref (r2 1), .ref (r2 2), .ref (r2 3), .ref (r2 4), .ref (r2 5), .ref (r2 6), .int (nI 0), .int (nI 0), .int (nI 0), .int (nI 0)])), ((r2 0), mp_aI T 8 (fun _ => nI 0)), ((r2 1), mp_aI T 8 (fun _ => nI 0)), ((r2 2), mp_aI T 8 (fun _ => nI 0)), ((r2 3), mp_aI T 6 (fun _ => nI 0)), ((r2 4), mp_aI T 36 (fun _ => nI 0)), ((r2 5), mp_aI T 6 (fun _ => nI 0)), ((r2 6), mp_aI T 6 (fun _ => nI 0)), (q3, mp_aI T 8 (fun _ => nI 0)), (q4, mp_aI T 6 (fun _ => nI 0))] H := hP
  replace hD : va_D A [(a, .inr (0, [.ref q1, .ref q3, .ref q4, .int (nI 0)])), (q1, .inr (7, [.ref (r2 0), .int (nI 0), .int (nI 0), .ref (r2 1), .ref (r2 2), .ref (r2 3), .ref (r2 4), .ref (r2 5), .ref (r2 6), .int (nI 0), .int (nI 0), .int (nI 0), .int (nI 0)])), ((r2 0), mp_aI T 8 (fun _ => nI 0)), ((r2 1), mp_aI T 8 (fun _ => nI 0)), ((r2 2), mp_aI T 8 (fun _ => nI 0)), ((r2 3), mp_aI T 6 (fun _ => nI 0)), ((r2 4), mp_aI T 36 (fun _ => nI 0)), ((r2 5), mp_aI T 6 (fun _ => nI 0)), ((r2 6), mp_aI T 6 (fun _ => nI 0)), (q3, mp_aI T 8 (fun _ => nI 0)), (q4, mp_aI T 6 (fun _ => nI 0))] := hD
  refine lv_aload_n hx hb dX0_init_31 rfl (lv_at hl 0 rfl) ?_
  refine lv_iconst (v := (nI 0)) hx hb dX0_init_32 (by decide) ?_
  refine mp_putf X fl_X0_25 fp_X0 rfl hK hP hD hS 0 rfl rfl rfl (Nat.le_of_ble_eq_true rfl) dX0_init_33 (fun H locs hP hD hS => ?_)
  replace hP : va_P D mp_cl [(a, .inr (0, [.ref q1, .ref q3, .ref q4, .int (nI 0)])), (q1, .inr (7, [.ref (r2 0), .int (nI 0), .int (nI 0), .ref (r2 1), .ref (r2 2), .ref (r2 3), .ref (r2 4), .ref (r2 5), .ref (r2 6), .int (nI 0), .int (nI 0), .int (nI 0), .int (nI 0)])), ((r2 0), mp_aI T 8 (fun _ => nI 0)), ((r2 1), mp_aI T 8 (fun _ => nI 0)), ((r2 2), mp_aI T 8 (fun _ => nI 0)), ((r2 3), mp_aI T 6 (fun _ => nI 0)), ((r2 4), mp_aI T 36 (fun _ => nI 0)), ((r2 5), mp_aI T 6 (fun _ => nI 0)), ((r2 6), mp_aI T 6 (fun _ => nI 0)), (q3, mp_aI T 8 (fun _ => nI 0)), (q4, mp_aI T 6 (fun _ => nI 0))] H := hP
  replace hD : va_D A [(a, .inr (0, [.ref q1, .ref q3, .ref q4, .int (nI 0)])), (q1, .inr (7, [.ref (r2 0), .int (nI 0), .int (nI 0), .ref (r2 1), .ref (r2 2), .ref (r2 3), .ref (r2 4), .ref (r2 5), .ref (r2 6), .int (nI 0), .int (nI 0), .int (nI 0), .int (nI 0)])), ((r2 0), mp_aI T 8 (fun _ => nI 0)), ((r2 1), mp_aI T 8 (fun _ => nI 0)), ((r2 2), mp_aI T 8 (fun _ => nI 0)), ((r2 3), mp_aI T 6 (fun _ => nI 0)), ((r2 4), mp_aI T 36 (fun _ => nI 0)), ((r2 5), mp_aI T 6 (fun _ => nI 0)), ((r2 6), mp_aI T 6 (fun _ => nI 0)), (q3, mp_aI T 8 (fun _ => nI 0)), (q4, mp_aI T 6 (fun _ => nI 0))] := hD
  exact mp_retc (w1 := w_X0 T a) (q := fun k => match k with | 0 => q1 | 1 => (r2 0) | 2 => (r2 1) | 3 => (r2 2) | 4 => (r2 3) | 5 => (r2 4) | 6 => (r2 5) | 7 => (r2 6) | 8 => q3 | _ => q4) X hP hD hS dX0_init_36
/-- what Life() makes -/
def w_X3 (T : Nat → ClassId) (a : Nat) (q : Nat → Nat) : va_W := [(a, .inr (3, [.int (nI 0), .int (nI 0), .int (nI 0), .int (nI 0), .int (nI 0), .int (nI 0), .int (nI 0), .ref (q 0), .ref (q 1)])), ((q 0), mp_aI T 60 (fun _ => nI 0)), ((q 1), .inr (7, [.ref (q 2), .int (nI 0), .int (nI 0), .ref (q 3), .ref (q 4), .ref (q 5), .ref (q 6), .ref (q 7), .ref (q 8), .int (nI 0), .int (nI 0), .int (nI 0), .int (nI 0)])), ((q 2), mp_aI T 8 (fun _ => nI 0)), ((q 3), mp_aI T 8 (fun _ => nI 0)), ((q 4), mp_aI T 8 (fun _ => nI 0)), ((q 5), mp_aI T 6 (fun _ => nI 0)), ((q 6), mp_aI T 36 (fun _ => nI 0)), ((q 7), mp_aI T 6 (fun _ => nI 0)), ((q 8), mp_aI T 6 (fun _ => nI 0))]
set_option maxHeartbeats 4000000 in
set_option maxRecDepth 100000 in
theorem i_X3 (l : Launch) (D : va_G) (T : Nat → ClassId) (a : Nat) : mp_ME l D T yX3_init cX3_init 1 none { frames := 2, cells := 9, slots := 151, locals := 40 } 9 151 [.ref a] [(a, .inr (3, [.int (nI 0), .int (nI 0), .int (nI 0), .int (nI 0), .int (nI 0), .int (nI 0), .int (nI 0), .null, .null]))] (mp_Qc D (w_X3 T a)) := by
  refine mp_ofE (by decide) (Nat.le_of_ble_eq_true rfl) rfl ?_
  intro p e s m args below meth c A ls hZ X hK hP hD hS hA hl
  replace X : mp_X p s m meth c args RX3 "<init>" cX3_init 1 none := X
  have hx := X.1
  have hb := X.2.1
  have hml := X.2.2.1
  have hown := X.2.2.2.2.1
  have hts := X.2.2.2.2.2.1
  replace hl : lv_has ls 1 [(0, .ref a)] := hl
  replace hP : va_P D mp_cl [(a, .inr (3, [.int (nI 0), .int (nI 0), .int (nI 0), .int (nI 0), .int (nI 0), .int (nI 0), .int (nI 0), .null, .null]))] s.heap := hP
  refine lv_aload_n hx hb dX3_init_0 rfl (lv_at hl 0 rfl) ?_
  refine mp_obj X lo_X3 hl.1 dX3_init_1 (Nat.le_of_ble_eq_true rfl) (Nat.le_of_ble_eq_true rfl) ?_
  refine lv_aload_n hx hb dX3_init_4 rfl (lv_at hl 0 rfl) ?_
  refine lv_iconst (v := (nI 0)) hx hb dX3_init_5 (by decide) ?_
  refine mp_putf X fl_X3_9 fp_X3 rfl hK hP hD hS 0 rfl rfl rfl (Nat.le_of_ble_eq_true rfl) dX3_init_6 (fun H locs hP hD hS => ?_)
  replace hP : va_P D mp_cl [(a, .inr (3, [.int (nI 0), .int (nI 0), .int (nI 0), .int (nI 0), .int (nI 0), .int (nI 0), .int (nI 0), .null, .null]))] H := hP
  replace hD : va_D A [(a, .inr (3, [.int (nI 0), .int (nI 0), .int (nI 0), .int (nI 0), .int (nI 0), .int (nI 0), .int (nI 0), .null, .null]))] := hD
  refine lv_aload_n hx hb dX3_init_9 rfl (lv_at hl 0 rfl) ?_
  refine lv_iconst (v := (nI 0)) hx hb dX3_init_10 (by decide) ?_
  refine mp_putf X fl_X3_15 fp_X3 rfl hK hP hD hS 0 rfl rfl rfl (Nat.le_of_ble_eq_true rfl) dX3_init_11 (fun H locs hP hD hS => ?_)
  replace hP : va_P D mp_cl [(a, .inr (3, [.int (nI 0), .int (nI 0), .int (nI 0), .int (nI 0), .int (nI 0), .int (nI 0), .int (nI 0), .null, .null]))] H := hP
  replace hD : va_D A [(a, .inr (3, [.int (nI 0), .int (nI 0), .int (nI 0), .int (nI 0), .int (nI 0), .int (nI 0), .int (nI 0), .null, .null]))] := hD
  refine lv_aload_n hx hb dX3_init_14 rfl (lv_at hl 0 rfl) ?_
  refine lv_iconst (v := (nI 0)) hx hb dX3_init_15 (by decide) ?_
  refine mp_putf X fl_X3_18 fp_X3 rfl hK hP hD hS 0 rfl rfl rfl (Nat.le_of_ble_eq_true rfl) dX3_init_16 (fun H locs hP hD hS => ?_)
  replace hP : va_P D mp_cl [(a, .inr (3, [.int (nI 0), .int (nI 0), .int (nI 0), .int (nI 0), .int (nI 0), .int (nI 0), .int (nI 0), .null, .null]))] H := hP
  replace hD : va_D A [(a, .inr (3, [.int (nI 0), .int (nI 0), .int (nI 0), .int (nI 0), .int (nI 0), .int (nI 0), .int (nI 0), .null, .null]))] := hD
  refine lv_aload_n hx hb dX3_init_19 rfl (lv_at hl 0 rfl) ?_
  refine lv_iconst (v := (nI 0)) hx hb dX3_init_20 (by decide) ?_
  refine mp_putf X fl_X3_21 fp_X3 rfl hK hP hD hS 0 rfl rfl rfl (Nat.le_of_ble_eq_true rfl) dX3_init_21 (fun H locs hP hD hS => ?_)
  replace hP : va_P D mp_cl [(a, .inr (3, [.int (nI 0), .int (nI 0), .int (nI 0), .int (nI 0), .int (nI 0), .int (nI 0), .int (nI 0), .null, .null]))] H := hP
  replace hD : va_D A [(a, .inr (3, [.int (nI 0), .int (nI 0), .int (nI 0), .int (nI 0), .int (nI 0), .int (nI 0), .int (nI 0), .null, .null]))] := hD
  refine lv_aload_n hx hb dX3_init_24 rfl (lv_at hl 0 rfl) ?_
  refine lv_iconst (v := (nI 0)) hx hb dX3_init_25 (by decide) ?_
  refine mp_putf X fl_X3_24 fp_X3 rfl hK hP hD hS 0 rfl rfl rfl (Nat.le_of_ble_eq_true rfl) dX3_init_26 (fun H locs hP hD hS => ?_)
  replace hP : va_P D mp_cl [(a, .inr (3, [.int (nI 0), .int (nI 0), .int (nI 0), .int (nI 0), .int (nI 0), .int (nI 0), .int (nI 0), .null, .null]))] H := hP
  replace hD : va_D A [(a, .inr (3, [.int (nI 0), .int (nI 0), .int (nI 0), .int (nI 0), .int (nI 0), .int (nI 0), .int (nI 0), .null, .null]))] := hD
  refine lv_aload_n hx hb dX3_init_29 rfl (lv_at hl 0 rfl) ?_
  refine lv_iconst (v := (nI 0)) hx hb dX3_init_30 (by decide) ?_
  refine mp_putf X fl_X3_27 fp_X3 rfl hK hP hD hS 0 rfl rfl rfl (Nat.le_of_ble_eq_true rfl) dX3_init_31 (fun H locs hP hD hS => ?_)
  replace hP : va_P D mp_cl [(a, .inr (3, [.int (nI 0), .int (nI 0), .int (nI 0), .int (nI 0), .int (nI 0), .int (nI 0), .int (nI 0), .null, .null]))] H := hP
  replace hD : va_D A [(a, .inr (3, [.int (nI 0), .int (nI 0), .int (nI 0), .int (nI 0), .int (nI 0), .int (nI 0), .int (nI 0), .null, .null]))] := hD
  refine lv_aload_n hx hb dX3_init_34 rfl (lv_at hl 0 rfl) ?_
  refine lv_iconst (v := (nI 0)) hx hb dX3_init_35 (by decide) ?_
  refine mp_putf X fl_X3_30 fp_X3 rfl hK hP hD hS 0 rfl rfl rfl (Nat.le_of_ble_eq_true rfl) dX3_init_36 (fun H locs hP hD hS => ?_)
  replace hP : va_P D mp_cl [(a, .inr (3, [.int (nI 0), .int (nI 0), .int (nI 0), .int (nI 0), .int (nI 0), .int (nI 0), .int (nI 0), .null, .null]))] H := hP
  replace hD : va_D A [(a, .inr (3, [.int (nI 0), .int (nI 0), .int (nI 0), .int (nI 0), .int (nI 0), .int (nI 0), .int (nI 0), .null, .null]))] := hD
  refine lv_aload_n hx hb dX3_init_39 rfl (lv_at hl 0 rfl) ?_
  refine lv_bipush (v := (nI 60)) hx hb dX3_init_40 (by decide) ?_
  refine mp_newI (N := 60) X hK hP hD hS hA (by decide) (by decide) (by decide) (Nat.le_of_ble_eq_true rfl) (Nat.le_of_ble_eq_true rfl) dX3_init_42 (fun q1 H hP hD hS => ?_)
  replace hP : va_P D mp_cl [(a, .inr (3, [.int (nI 0), .int (nI 0), .int (nI 0), .int (nI 0), .int (nI 0), .int (nI 0), .int (nI 0), .null, .null])), (q1, mp_aI T 60 (fun _ => nI 0))] H := hP
  replace hD : va_D A [(a, .inr (3, [.int (nI 0), .int (nI 0), .int (nI 0), .int (nI 0), .int (nI 0), .int (nI 0), .int (nI 0), .null, .null])), (q1, mp_aI T 60 (fun _ => nI 0))] := hD
  refine mp_putF X fl_X3_35 fp_X3 rfl hK hP hD hS 0 rfl rfl rfl (Nat.le_of_ble_eq_true rfl) dX3_init_44 (fun H locs hP hD hS => ?_)
  replace hP : va_P D mp_cl [(a, .inr (3, [.int (nI 0), .int (nI 0), .int (nI 0), .int (nI 0), .int (nI 0), .int (nI 0), .int (nI 0), .ref q1, .null])), (q1, mp_aI T 60 (fun _ => nI 0))] H := hP
  replace hD : va_D A [(a, .inr (3, [.int (nI 0), .int (nI 0), .int (nI 0), .int (nI 0), .int (nI 0), .int (nI 0), .int (nI 0), .ref q1, .null])), (q1, mp_aI T 60 (fun _ => nI 0))] := hD
  refine lv_aload_n hx hb dX3_init_47 rfl (lv_at hl 0 rfl) ?_
  refine mp_new (ci := 7) (fs := [.null, .int (nI 0), .int (nI 0), .null, .null, .null, .null, .null, .null, .int (nI 0), .int (nI 0), .int (nI 0), .int (nI 0)]) X fp_X7 win_X7 cl_X3_39 ins_X7 me_X7_init.2.1 hK hP hD hS hA rfl (by intro j hj; rcases (show j = 0 ∨ j = 1 ∨ j = 2 ∨ j = 3 ∨ j = 4 ∨ j = 5 ∨ j = 6 ∨ j = 7 ∨ j = 8 ∨ j = 9 ∨ j = 10 ∨ j = 11 ∨ j = 12 by omega) with rfl | rfl | rfl | rfl | rfl | rfl | rfl | rfl | rfl | rfl | rfl | rfl | rfl <;> rfl) (Nat.le_of_ble_eq_true rfl) (Nat.le_of_ble_eq_true rfl) dX3_init_48 (fun q2 H hP hD hS => ?_)
  replace hP : va_P D mp_cl [(a, .inr (3, [.int (nI 0), .int (nI 0), .int (nI 0), .int (nI 0), .int (nI 0), .int (nI 0), .int (nI 0), .ref q1, .null])), (q1, mp_aI T 60 (fun _ => nI 0)), (q2, .inr (7, [.null, .int (nI 0), .int (nI 0), .null, .null, .null, .null, .null, .null, .int (nI 0), .int (nI 0), .int (nI 0), .int (nI 0)]))] H := hP
  replace hD : va_D A [(a, .inr (3, [.int (nI 0), .int (nI 0), .int (nI 0), .int (nI 0), .int (nI 0), .int (nI 0), .int (nI 0), .ref q1, .null])), (q1, mp_aI T 60 (fun _ => nI 0)), (q2, .inr (7, [.null, .int (nI 0), .int (nI 0), .null, .null, .null, .null, .null, .null, .int (nI 0), .int (nI 0), .int (nI 0), .int (nI 0)]))] := hD
  refine lv_dup hx hb dX3_init_51 rfl ?_
  have hPc := hP.sub (ws' := [(q2, .inr (7, [.null, .int (nI 0), .int (nI 0), .null, .null, .null, .null, .null, .null, .int (nI 0), .int (nI 0), .int (nI 0), .int (nI 0)]))]) [2] rfl
  have hDc := hD.sub (ws' := [(q2, .inr (7, [.null, .int (nI 0), .int (nI 0), .null, .null, .null, .null, .null, .null, .int (nI 0), .int (nI 0), .int (nI 0), .int (nI 0)]))]) [2] (by decide) rfl
  refine mp_callc (isC := [2]) (isR := [0, 1]) (wc := [(q2, .inr (7, [.null, .int (nI 0), .int (nI 0), .null, .null, .null, .null, .null, .null, .int (nI 0), .int (nI 0), .int (nI 0), .int (nI 0)]))]) (wr := [(a, .inr (3, [.int (nI 0), .int (nI 0), .int (nI 0), .int (nI 0), .int (nI 0), .int (nI 0), .int (nI 0), .ref q1, .null])), (q1, mp_aI T 60 (fun _ => nI 0))]) (w1 := w_X7 T q2) hP hD hS hA rfl rfl (by decide) (by decide) (mp_runIN (As := []) (rest := [.ref q2, .ref a]) X me_X7_init (ln_X3_41 hZ) (i_X7 l D T q2) rfl rfl ⟨(Nat.le_of_ble_eq_true rfl), (Nat.le_of_ble_eq_true rfl)⟩ hK hPc hDc rfl hl.1 rfl (Nat.le_of_ble_eq_true rfl) dX3_init_52 ⟨(Nat.le_of_ble_eq_true rfl), (Nat.le_of_ble_eq_true rfl)⟩) (fun r3 H locs hP hD hS => ?_)
  replace hP : va_P D mp_cl [(a, .inr (3, [.int (nI 0), .int (nI 0), .int (nI 0), .int (nI 0), .int (nI 0), .int (nI 0), .int (nI 0), .ref q1, .null])), (q1, mp_aI T 60 (fun _ => nI 0)), (q2, .inr (7, [.ref (r3 0), .int (nI 0), .int (nI 0), .ref (r3 1), .ref (r3 2), .ref (r3 3), .ref (r3 4), .ref (r3 5), .ref (r3 6), .int (nI 0), .int (nI 0), .int (nI 0), .int (nI 0)])), ((r3 0), mp_aI T 8 (fun _ => nI 0)), ((r3 1), mp_aI T 8 (fun _ => nI 0)), ((r3 2), mp_aI T 8 (fun _ => nI 0)), ((r3 3), mp_aI T 6 (fun _ => nI 0)), ((r3 4), mp_aI T 36 (fun _ => nI 0)), ((r3 5), mp_aI T 6 (fun _ => nI 0)), ((r3 6), mp_aI T 6 (fun _ => nI 0))] H := hP
  replace hD : va_D A [(a, .inr (3, [.int (nI 0), .int (nI 0), .int (nI 0), .int (nI 0), .int (nI 0), .int (nI 0), .int (nI 0), .ref q1, .null])), (q1, mp_aI T 60 (fun _ => nI 0)), (q2, .inr (7, [.ref (r3 0), .int (nI 0), .int (nI 0), .ref (r3 1), .ref (r3 2), .ref (r3 3), .ref (r3 4), .ref (r3 5), .ref (r3 6), .int (nI 0), .int (nI 0), .int (nI 0), .int (nI 0)])), ((r3 0), mp_aI T 8 (fun _ => nI 0)), ((r3 1), mp_aI T 8 (fun _ => nI 0)), ((r3 2), mp_aI T 8 (fun _ => nI 0)), ((r3 3), mp_aI T 6 (fun _ => nI 0)), ((r3 4), mp_aI T 36 (fun _ => nI 0)), ((r3 5), mp_aI T 6 (fun _ => nI 0)), ((r3 6), mp_aI T 6 (fun _ => nI 0))] := hD
  refine mp_putF X fl_X3_42 fp_X3 rfl hK hP hD hS 0 rfl rfl rfl (Nat.le_of_ble_eq_true rfl) dX3_init_55 (fun H locs hP hD hS => ?_)
  replace hP : va_P D mp_cl [(a, .inr (3, [.int (nI 0), .int (nI 0), .int (nI 0), .int (nI 0), .int (nI 0), .int (nI 0), .int (nI 0), .ref q1, .ref q2])), (q1, mp_aI T 60 (fun _ => nI 0)), (q2, .inr (7, [.ref (r3 0), .int (nI 0), .int (nI 0), .ref (r3 1), .ref (r3 2), .ref (r3 3), .ref (r3 4), .ref (r3 5), .ref (r3 6), .int (nI 0), .int (nI 0), .int (nI 0), .int (nI 0)])), ((r3 0), mp_aI T 8 (fun _ => nI 0)), ((r3 1), mp_aI T 8 (fun _ => nI 0)), ((r3 2), mp_aI T 8 (fun _ => nI 0)), ((r3 3), mp_aI T 6 (fun _ => nI 0)), ((r3 4), mp_aI T 36 (fun _ => nI 0)), ((r3 5), mp_aI T 6 (fun _ => nI 0)), ((r3 6), mp_aI T 6 (fun _ => nI 0))] H := hP
  replace hD : va_D A [(a, .inr (3, [.int (nI 0), .int (nI 0), .int (nI 0), .int (nI 0), .int (nI 0), .int (nI 0), .int (nI 0), .ref q1, .ref q2])), (q1, mp_aI T 60 (fun _ => nI 0)), (q2, .inr (7, [.ref (r3 0), .int (nI 0), .int (nI 0), .ref (r3 1), .ref (r3 2), .ref (r3 3), .ref (r3 4), .ref (r3 5), .ref (r3 6), .int (nI 0), .int (nI 0), .int (nI 0), .int (nI 0)])), ((r3 0), mp_aI T 8 (fun _ => nI 0)), ((r3 1), mp_aI T 8 (fun _ => nI 0)), ((r3 2), mp_aI T 8 (fun _ => nI 0)), ((r3 3), mp_aI T 6 (fun _ => nI 0)), ((r3 4), mp_aI T 36 (fun _ => nI 0)), ((r3 5), mp_aI T 6 (fun _ => nI 0)), ((r3 6), mp_aI T 6 (fun _ => nI 0))] := hD
  exact mp_retc (w1 := w_X3 T a) (q := fun k => match k with | 0 => q1 | 1 => q2 | 2 => (r3 0) | 3 => (r3 1) | 4 => (r3 2) | 5 => (r3 3) | 6 => (r3 4) | 7 => (r3 5) | _ => (r3 6)) X hP hD hS dX3_init_58
