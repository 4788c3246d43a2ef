def k_X4_firstSafe (T : Nat → ClassId) (a_p1 a_p1_cellNames a_p1_secretNames a_p1_pageNames a_p1_speed a_p1_letters a_p1_room a_p1_now a_p1_rounds a_p1_now_order a_p1_now_knows a_p1_now_made a_p1_now_sixteenths a_p1_now_dots a_p1_now_used a_p1_now_stands : Nat) (v_p1_cells : Int32) (v_p1_secrets : Int32) (v_p1_pages : Int32) (v_p1_blind : Int32) (v_p1_rubs : Int32) (v_p1_now_inOrder : Int32) (v_p1_now_place : Int32) (v_p1_now_ill : Int32) (v_p1_now_shut : Int32) (v_p1_now_turns : Int32) (v_p1_now_madeInAll : Int32) (v_p1_now_sixteenths : (Nat → Int32)) : va_W := [(a_p1, oX1 v_p1_cells v_p1_secrets v_p1_pages a_p1_cellNames a_p1_secretNames a_p1_pageNames a_p1_speed v_p1_blind v_p1_rubs a_p1_letters a_p1_room a_p1_now a_p1_rounds), (a_p1_now, oX7 a_p1_now_order v_p1_now_inOrder v_p1_now_place a_p1_now_knows a_p1_now_made a_p1_now_sixteenths a_p1_now_dots a_p1_now_used a_p1_now_stands v_p1_now_ill v_p1_now_shut v_p1_now_turns v_p1_now_madeInAll), (a_p1_now_sixteenths, mp_aI T 6 v_p1_now_sixteenths)]
set_option maxHeartbeats 4000000 in
set_option maxRecDepth 100000 in
theorem w_X4_firstSafe_2 {p : Program} {l : Launch} {e : Env} {s : State} {m : MethodId} {args : Array Value} {below : List Frame} {meth : Method} {c : Code} {D : va_G} {T : Nat → ClassId} {A : Nat → Prop} (X : mp_X p s m meth c args RX4 "firstSafe" cX4_firstSafe 2 (some .int)) (hK : va_K D mp_cl (mp_ty T) s) (hA : ∀ q, s.heap.size ≤ q → A q) (fu : Nat) (a_p1 a_p1_cellNames a_p1_secretNames a_p1_pageNames a_p1_speed a_p1_letters a_p1_room a_p1_now a_p1_rounds a_p1_now_order a_p1_now_knows a_p1_now_made a_p1_now_sixteenths a_p1_now_dots a_p1_now_used a_p1_now_stands : Nat) (v_p1_cells : Int32) (v_p1_secrets : Int32) (v_p1_blind : Int32) (v_p1_rubs : Int32) (v_p1_now_inOrder : Int32) (v_p1_now_place : Int32) (v_p1_now_ill : Int32) (v_p1_now_turns : Int32) (v_p1_now_madeInAll : Int32) (v_p1_pages : Int32) (v_p1_now_shut : Int32) (v_p1_now_sixteenths : (Nat → Int32)) (r_ : Int32) :
    ∀ (n : Nat) (z1 : Int32), f_X4_firstSafe_2 fu v_p1_pages v_p1_now_shut v_p1_now_sixteenths  n z1 = some r_ → ∀ (H : Heap) (locs : List Loc) (ls : Array Slot), va_P D mp_cl (k_X4_firstSafe T a_p1 a_p1_cellNames a_p1_secretNames a_p1_pageNames a_p1_speed a_p1_letters a_p1_room a_p1_now a_p1_rounds a_p1_now_order a_p1_now_knows a_p1_now_made a_p1_now_sixteenths a_p1_now_dots a_p1_now_used a_p1_now_stands v_p1_cells v_p1_secrets v_p1_pages v_p1_blind v_p1_rubs v_p1_now_inOrder v_p1_now_place v_p1_now_ill v_p1_now_shut v_p1_now_turns v_p1_now_madeInAll v_p1_now_sixteenths) H → va_D A (k_X4_firstSafe T a_p1 a_p1_cellNames a_p1_secretNames a_p1_pageNames a_p1_speed a_p1_letters a_p1_room a_p1_now a_p1_rounds a_p1_now_order a_p1_now_knows a_p1_now_made a_p1_now_sixteenths a_p1_now_dots a_p1_now_used a_p1_now_stands v_p1_cells v_p1_secrets v_p1_pages v_p1_blind v_p1_rubs v_p1_now_inOrder v_p1_now_place v_p1_now_ill v_p1_now_shut v_p1_now_turns v_p1_now_madeInAll v_p1_now_sixteenths) → va_S A s.heap H locs → lv_has ls 2 [(0, .ref a_p1), (1, .int z1)] → W p l e ({ frames := 1, cells := 0, slots := 0, locals := 21 }) s m args below meth c H locs 0 0 (MQ below ((mp_Qi D r_ (k_X4_firstSafe T a_p1 a_p1_cellNames a_p1_secretNames a_p1_pageNames a_p1_speed a_p1_letters a_p1_room a_p1_now a_p1_rounds a_p1_now_order a_p1_now_knows a_p1_now_made a_p1_now_sixteenths a_p1_now_dots a_p1_now_used a_p1_now_stands v_p1_cells v_p1_secrets v_p1_pages v_p1_blind v_p1_rubs v_p1_now_inOrder v_p1_now_place v_p1_now_ill v_p1_now_shut v_p1_now_turns v_p1_now_madeInAll v_p1_now_sixteenths)) A) args s 0 0 A) (F0 m 2 ls []) := by
  have hx := X.1
  have hb := X.2.1
  have hml := X.2.2.1
  have hown := X.2.2.2.2.1
  have hts := X.2.2.2.2.2.1
  intro n
  induction n with
  | zero => intro z1 hf; exact absurd hf (by intro h; cases h)
  | succ n ih =>
    intro z1 hf H locs ls hP hD hS hl
    replace hf : (if v_p1_pages ≤ z1 then some ((-1 : Int32)) else bd_ (f_X7_has v_p1_now_shut z1) (fun (r2 : Int32) => (if r2 = 0 then gi_ z1 6 ((if (v_p1_now_sixteenths (z1).toNatClampNeg) = 0 then some (z1) else lt_ (z1 + (nI 1)) (fun (y8 : Int32) => f_X4_firstSafe_2 fu v_p1_pages v_p1_now_shut v_p1_now_sixteenths  n y8))) else lt_ (z1 + (nI 1)) (fun (y5 : Int32) => f_X4_firstSafe_2 fu v_p1_pages v_p1_now_shut v_p1_now_sixteenths  n y5)))) = some r_ := hf
    refine lv_iload_n hx hb dX4_firstSafe_2 rfl (lv_at hl 1 rfl) ?_
    refine lv_aload_n hx hb dX4_firstSafe_3 rfl (lv_at hl 0 rfl) ?_
    refine mp_get X fl_X4_30 hK hP 0 rfl rfl dX4_firstSafe_4 ?_
    refine lv_icmp_ge (tgt := 44) hx hb dX4_firstSafe_7 (by decide) (fun h1 => ?_) (fun h1 => ?_)
    · replace hf := if_t hf h1
      refine lv_iconst (v := (-1 : Int32)) hx hb dX4_firstSafe_44 (by decide) ?_
      cases hf
      exact mp_reti X hP hS rfl dX4_firstSafe_45
    · replace hf := if_f hf h1
      refine lv_aload_n hx hb dX4_firstSafe_10 rfl (lv_at hl 0 rfl) ?_
      refine mp_get X fl_X4_36 hK hP 0 rfl rfl dX4_firstSafe_11 ?_
      refine mp_get X fl_X4_40 hK hP 1 rfl rfl dX4_firstSafe_14 ?_
      refine lv_iload_n hx hb dX4_firstSafe_17 rfl (lv_at hl 1 rfl) ?_
      obtain ⟨r2, c3, hf⟩ := bd_of hf
      have hPc := hP.sub (ws' := (k_X7_has T )) [] rfl
      have hDc := (mp_D_of (w1 := (k_X4_firstSafe T a_p1 a_p1_cellNames a_p1_secretNames a_p1_pageNames a_p1_speed a_p1_letters a_p1_room a_p1_now a_p1_rounds a_p1_now_order a_p1_now_knows a_p1_now_made a_p1_now_sixteenths a_p1_now_dots a_p1_now_used a_p1_now_stands v_p1_cells v_p1_secrets v_p1_pages v_p1_blind v_p1_rubs v_p1_now_inOrder v_p1_now_place v_p1_now_ill v_p1_now_shut v_p1_now_turns v_p1_now_madeInAll v_p1_now_sixteenths)) hD rfl).sub (ws' := (k_X7_has T )) [] rfl rfl
      refine mp_calli (isC := []) (wc := (k_X7_has T )) (w1 := (k_X7_has T )) hP (mp_D_of hD rfl) hS hA rfl rfl (mp_runS (As := [.int v_p1_now_shut, .int z1]) (rest := []) X me_X7_has lk_X4_45 (c_X7_has l D T v_p1_now_shut z1 r2 c3) rfl rfl ⟨(Nat.le_of_ble_eq_true rfl), (Nat.le_of_ble_eq_true rfl)⟩ hK hPc hDc rfl hl.1 rfl (Nat.le_of_ble_eq_true rfl) dX4_firstSafe_18 ⟨Nat.zero_le _, Nat.zero_le _⟩) (fun H locs hP _ hS => ?_)
      replace hP : va_P D mp_cl (k_X4_firstSafe T a_p1 a_p1_cellNames a_p1_secretNames a_p1_pageNames a_p1_speed a_p1_letters a_p1_room a_p1_now a_p1_rounds a_p1_now_order a_p1_now_knows a_p1_now_made a_p1_now_sixteenths a_p1_now_dots a_p1_now_used a_p1_now_stands v_p1_cells v_p1_secrets v_p1_pages v_p1_blind v_p1_rubs v_p1_now_inOrder v_p1_now_place v_p1_now_ill v_p1_now_shut v_p1_now_turns v_p1_now_madeInAll v_p1_now_sixteenths) H := hP
      refine lv_if_ne (tgt := 38) hx hb dX4_firstSafe_21 (by decide) (fun h4 => ?_) (fun h4 => ?_)
      · replace hf := if_f hf h4
        obtain ⟨y5, e5⟩ : ∃ y : Int32, y = z1 + (nI 1) := ⟨_, rfl⟩
        replace hf := lt_of e5 hf
        refine lv_iinc (v := y5) (lv' := [(1, .int y5), (0, .ref a_p1)]) hx hb dX4_firstSafe_38 hl (k := 1) rfl (by rw [e5]; rfl) (by decide) rfl (fun ls hl => ?_)
        refine lv_goto (tgt := 2) hx hb dX4_firstSafe_41 (by decide) ?_
        exact ih y5 hf _ _ _ hP (mp_D_of hD rfl) hS (lv_sub hl [1, 0] rfl)
      · replace hf := if_t hf h4
        refine lv_aload_n hx hb dX4_firstSafe_24 rfl (lv_at hl 0 rfl) ?_
        refine mp_get X fl_X4_36 hK hP 0 rfl rfl dX4_firstSafe_25 ?_
        refine mp_get X fl_X4_52 hK hP 1 rfl rfl dX4_firstSafe_28 ?_
        refine lv_iload_n hx hb dX4_firstSafe_31 rfl (lv_at hl 1 rfl) ?_
        obtain ⟨h6, hf⟩ := gi_of hf
        refine va_iald hx hb hK hP 2 0 rfl rfl h6 dX4_firstSafe_32 ?_
        refine lv_if_ne (tgt := 38) hx hb dX4_firstSafe_33 (by decide) (fun h7 => ?_) (fun h7 => ?_)
        · replace hf := if_f hf h7
          obtain ⟨y8, e8⟩ : ∃ y : Int32, y = z1 + (nI 1) := ⟨_, rfl⟩
          replace hf := lt_of e8 hf
          refine lv_iinc (v := y8) (lv' := [(1, .int y8), (0, .ref a_p1)]) hx hb dX4_firstSafe_38 hl (k := 1) rfl (by rw [e8]; rfl) (by decide) rfl (fun ls hl => ?_)
          refine lv_goto (tgt := 2) hx hb dX4_firstSafe_41 (by decide) ?_
          exact ih y8 hf _ _ _ hP (mp_D_of hD rfl) hS (lv_sub hl [1, 0] rfl)
        · replace hf := if_t hf h7
          refine lv_iload_n hx hb dX4_firstSafe_36 rfl (lv_at hl 1 rfl) ?_
          cases hf
          exact mp_reti X hP hS rfl dX4_firstSafe_37

set_option maxHeartbeats 4000000 in
set_option maxRecDepth 100000 in
theorem c_X4_firstSafe (l : Launch) (D : va_G) (T : Nat → ClassId) (fu : Nat) (a_p1 a_p1_cellNames a_p1_secretNames a_p1_pageNames a_p1_speed a_p1_letters a_p1_room a_p1_now a_p1_rounds a_p1_now_order a_p1_now_knows a_p1_now_made a_p1_now_sixteenths a_p1_now_dots a_p1_now_used a_p1_now_stands : Nat) (v_p1_cells : Int32) (v_p1_secrets : Int32) (v_p1_blind : Int32) (v_p1_rubs : Int32) (v_p1_now_inOrder : Int32) (v_p1_now_place : Int32) (v_p1_now_ill : Int32) (v_p1_now_turns : Int32) (v_p1_now_madeInAll : Int32) (v_p1_pages : Int32) (v_p1_now_shut : Int32) (v_p1_now_sixteenths : (Nat → Int32)) (r_ : Int32) (hf : f_X4_firstSafe fu v_p1_pages v_p1_now_shut v_p1_now_sixteenths = some r_) :
    mp_M l D T yX4_firstSafe cX4_firstSafe 2 (some .int) ({ frames := 1, cells := 0, slots := 0, locals := 21 }) 0 0 [.ref a_p1] (k_X4_firstSafe T a_p1 a_p1_cellNames a_p1_secretNames a_p1_pageNames a_p1_speed a_p1_letters a_p1_room a_p1_now a_p1_rounds a_p1_now_order a_p1_now_knows a_p1_now_made a_p1_now_sixteenths a_p1_now_dots a_p1_now_used a_p1_now_stands v_p1_cells v_p1_secrets v_p1_pages v_p1_blind v_p1_rubs v_p1_now_inOrder v_p1_now_place v_p1_now_ill v_p1_now_shut v_p1_now_turns v_p1_now_madeInAll v_p1_now_sixteenths) (mp_Qi D r_ (k_X4_firstSafe T a_p1 a_p1_cellNames a_p1_secretNames a_p1_pageNames a_p1_speed a_p1_letters a_p1_room a_p1_now a_p1_rounds a_p1_now_order a_p1_now_knows a_p1_now_made a_p1_now_sixteenths a_p1_now_dots a_p1_now_used a_p1_now_stands v_p1_cells v_p1_secrets v_p1_pages v_p1_blind v_p1_rubs v_p1_now_inOrder v_p1_now_place v_p1_now_ill v_p1_now_shut v_p1_now_turns v_p1_now_madeInAll v_p1_now_sixteenths)) := by
  refine mp_of (by decide) (Nat.le_of_ble_eq_true rfl) rfl ?_
  intro p e s m args below meth c A ls X hK hP hD hS hA hl
  replace X : mp_X p s m meth c args RX4 "firstSafe" cX4_firstSafe 2 (some .int) := X
  have hx := X.1
  have hb := X.2.1
  have hml := X.2.2.1
  have hown := X.2.2.2.2.1
  have hts := X.2.2.2.2.2.1
  replace hl : lv_has ls 2 [(0, .ref a_p1)] := hl
  replace hf : f_X4_firstSafe_2 fu v_p1_pages v_p1_now_shut v_p1_now_sixteenths  fu (nI 0) = some r_ := hf
  refine lv_iconst (v := (nI 0)) hx hb dX4_firstSafe_0 (by decide) ?_
  refine lv_istore_n (lv' := [(1, .int (nI 0)), (0, .ref a_p1)]) hx hb dX4_firstSafe_1 rfl hl (by decide) rfl (fun ls hl => ?_)
  exact w_X4_firstSafe_2 X hK hA  fu a_p1 a_p1_cellNames a_p1_secretNames a_p1_pageNames a_p1_speed a_p1_letters a_p1_room a_p1_now a_p1_rounds a_p1_now_order a_p1_now_knows a_p1_now_made a_p1_now_sixteenths a_p1_now_dots a_p1_now_used a_p1_now_stands v_p1_cells v_p1_secrets v_p1_blind v_p1_rubs v_p1_now_inOrder v_p1_now_place v_p1_now_ill v_p1_now_turns v_p1_now_madeInAll v_p1_pages v_p1_now_shut v_p1_now_sixteenths r_   fu (nI 0) hf _ _ _ hP (mp_D_of hD rfl) hS (lv_sub hl [1, 0] rfl)


def k_X4_part (T : Nat → ClassId) (a_p1 a_p1_cellNames a_p1_secretNames a_p1_pageNames a_p1_speed a_p1_letters a_p1_room a_p1_now a_p1_rounds a_p1_now_order a_p1_now_knows a_p1_now_made a_p1_now_sixteenths a_p1_now_dots a_p1_now_used a_p1_now_stands : Nat) (v_p1_cells : Int32) (v_p1_secrets : Int32) (v_p1_pages : Int32) (v_p1_blind : Int32) (v_p1_rubs : Int32) (v_p1_now_inOrder : Int32) (v_p1_now_place : Int32) (v_p1_now_ill : Int32) (v_p1_now_shut : Int32) (v_p1_now_turns : Int32) (v_p1_now_madeInAll : Int32) (v_p1_now_sixteenths : (Nat → Int32)) : va_W := [(a_p1, oX1 v_p1_cells v_p1_secrets v_p1_pages a_p1_cellNames a_p1_secretNames a_p1_pageNames a_p1_speed v_p1_blind v_p1_rubs a_p1_letters a_p1_room a_p1_now a_p1_rounds), (a_p1_now, oX7 a_p1_now_order v_p1_now_inOrder v_p1_now_place a_p1_now_knows a_p1_now_made a_p1_now_sixteenths a_p1_now_dots a_p1_now_used a_p1_now_stands v_p1_now_ill v_p1_now_shut v_p1_now_turns v_p1_now_madeInAll), (a_p1_now_sixteenths, mp_aI T 6 v_p1_now_sixteenths)]
set_option maxHeartbeats 4000000 in
set_option maxRecDepth 100000 in
theorem c_X4_part (l : Launch) (D : va_G) (T : Nat → ClassId) (a_p1 a_p1_cellNames a_p1_secretNames a_p1_pageNames a_p1_speed a_p1_letters a_p1_room a_p1_now a_p1_rounds a_p1_now_order a_p1_now_knows a_p1_now_made a_p1_now_sixteenths a_p1_now_dots a_p1_now_used a_p1_now_stands : Nat) (x2 : Int32) (v_p1_cells : Int32) (v_p1_secrets : Int32) (v_p1_pages : Int32) (v_p1_blind : Int32) (v_p1_rubs : Int32) (v_p1_now_inOrder : Int32) (v_p1_now_place : Int32) (v_p1_now_ill : Int32) (v_p1_now_shut : Int32) (v_p1_now_turns : Int32) (v_p1_now_madeInAll : Int32) (v_p1_now_sixteenths : (Nat → Int32)) (r_ : Int64) (hf : f_X4_part x2 v_p1_now_sixteenths = some r_) :
    mp_M l D T yX4_part cX4_part 3 (some .long) ({ frames := 0, cells := 0, slots := 0, locals := 0 }) 0 0 [.ref a_p1, .int x2] (k_X4_part T a_p1 a_p1_cellNames a_p1_secretNames a_p1_pageNames a_p1_speed a_p1_letters a_p1_room a_p1_now a_p1_rounds a_p1_now_order a_p1_now_knows a_p1_now_made a_p1_now_sixteenths a_p1_now_dots a_p1_now_used a_p1_now_stands v_p1_cells v_p1_secrets v_p1_pages v_p1_blind v_p1_rubs v_p1_now_inOrder v_p1_now_place v_p1_now_ill v_p1_now_shut v_p1_now_turns v_p1_now_madeInAll v_p1_now_sixteenths) (mp_Ql D r_ (k_X4_part T a_p1 a_p1_cellNames a_p1_secretNames a_p1_pageNames a_p1_speed a_p1_letters a_p1_room a_p1_now a_p1_rounds a_p1_now_order a_p1_now_knows a_p1_now_made a_p1_now_sixteenths a_p1_now_dots a_p1_now_used a_p1_now_stands v_p1_cells v_p1_secrets v_p1_pages v_p1_blind v_p1_rubs v_p1_now_inOrder v_p1_now_place v_p1_now_ill v_p1_now_shut v_p1_now_turns v_p1_now_madeInAll v_p1_now_sixteenths)) := by
  refine mp_of (by decide) (Nat.le_of_ble_eq_true rfl) rfl ?_
  intro p e s m args below meth c A ls X hK hP hD hS hA hl
  replace X : mp_X p s m meth c args RX4 "part" cX4_part 3 (some .long) := X
  have hx := X.1
  have hb := X.2.1
  have hml := X.2.2.1
  have hown := X.2.2.2.2.1
  have hts := X.2.2.2.2.2.1
  replace hl : lv_has ls 3 [(0, .ref a_p1), (1, .int x2)] := hl
  replace hf : gi_ x2 6 (lt_ (v_p1_now_sixteenths (x2).toNatClampNeg) (fun (y2 : Int32) => (if y2 = 0 then some ((lN 0)) else gd_ (¬ (y2).toInt64 = 0) (some ((lN 720720) / (y2).toInt64))))) = some r_ := hf
  refine lv_aload_n hx hb dX4_part_0 rfl (lv_at hl 0 rfl) ?_
  refine mp_get X fl_X4_36 hK hP 0 rfl rfl dX4_part_1 ?_
  refine mp_get X fl_X4_52 hK hP 1 rfl rfl dX4_part_4 ?_
  refine lv_iload_n hx hb dX4_part_7 rfl (lv_at hl 1 rfl) ?_
  obtain ⟨h1, hf⟩ := gi_of hf
  refine va_iald hx hb hK hP 2 0 rfl rfl h1 dX4_part_8 ?_
  refine lv_topi (fun y2 e2 => ?_)
  replace hf := lt_of e2 hf
  refine lv_istore_n (lv' := [(2, .int y2), (0, .ref a_p1), (1, .int x2)]) hx hb dX4_part_9 rfl hl (by decide) rfl (fun ls hl => ?_)
  refine lv_iload_n hx hb dX4_part_10 rfl (lv_at hl 0 rfl) ?_
  refine lv_if_ne (tgt := 18) hx hb dX4_part_11 (by decide) (fun h3 => ?_) (fun h3 => ?_)
  · replace hf := if_f hf h3
    refine lv_ldc2 (v := (lN 720720)) hx hb hown (hts _ (cw_X4_69)) dX4_part_18 ?_
    refine lv_iload_n hx hb dX4_part_21 rfl (lv_at hl 0 rfl) ?_
    refine lv_i2l hx hb dX4_part_22 rfl ?_
    obtain ⟨h4, hf⟩ := gd_of hf
    refine lv_ldiv hx hb dX4_part_23 h4 ?_
    cases hf
    exact mp_retl X hP hS rfl dX4_part_24
  · replace hf := if_t hf h3
    refine lv_lconst (v := (lN 0)) hx hb dX4_part_14 (by decide) ?_
    refine lv_goto (tgt := 24) hx hb dX4_part_15 (by decide) ?_
    cases hf
    exact mp_retl X hP hS rfl dX4_part_24


def k_X4_sumOfParts (T : Nat → ClassId) (a_p1 a_p1_cellNames a_p1_secretNames a_p1_pageNames a_p1_speed a_p1_letters a_p1_room a_p1_now a_p1_rounds a_p1_now_order a_p1_now_knows a_p1_now_made a_p1_now_sixteenths a_p1_now_dots a_p1_now_used a_p1_now_stands : Nat) (v_p1_cells : Int32) (v_p1_secrets : Int32) (v_p1_pages : Int32) (v_p1_blind : Int32) (v_p1_rubs : Int32) (v_p1_now_inOrder : Int32) (v_p1_now_place : Int32) (v_p1_now_ill : Int32) (v_p1_now_shut : Int32) (v_p1_now_turns : Int32) (v_p1_now_madeInAll : Int32) (v_p1_now_sixteenths : (Nat → Int32)) : va_W := [(a_p1, oX1 v_p1_cells v_p1_secrets v_p1_pages a_p1_cellNames a_p1_secretNames a_p1_pageNames a_p1_speed v_p1_blind v_p1_rubs a_p1_letters a_p1_room a_p1_now a_p1_rounds), (a_p1_now, oX7 a_p1_now_order v_p1_now_inOrder v_p1_now_place a_p1_now_knows a_p1_now_made a_p1_now_sixteenths a_p1_now_dots a_p1_now_used a_p1_now_stands v_p1_now_ill v_p1_now_shut v_p1_now_turns v_p1_now_madeInAll), (a_p1_now_sixteenths, mp_aI T 6 v_p1_now_sixteenths)]
set_option maxHeartbeats 4000000 in
set_option maxRecDepth 100000 in
theorem w_X4_sumOfParts_4 {p : Program} {l : Launch} {e : Env} {s : State} {m : MethodId} {args : Array Value} {below : List Frame} {meth : Method} {c : Code} {D : va_G} {T : Nat → ClassId} {A : Nat → Prop} (X : mp_X p s m meth c args RX4 "sumOfParts" cX4_sumOfParts 4 (some .long)) (hK : va_K D mp_cl (mp_ty T) s) (hA : ∀ q, s.heap.size ≤ q → A q) (fu : Nat) (a_p1 a_p1_cellNames a_p1_secretNames a_p1_pageNames a_p1_speed a_p1_letters a_p1_room a_p1_now a_p1_rounds a_p1_now_order a_p1_now_knows a_p1_now_made a_p1_now_sixteenths a_p1_now_dots a_p1_now_used a_p1_now_stands : Nat) (v_p1_cells : Int32) (v_p1_secrets : Int32) (v_p1_blind : Int32) (v_p1_rubs : Int32) (v_p1_now_inOrder : Int32) (v_p1_now_place : Int32) (v_p1_now_ill : Int32) (v_p1_now_turns : Int32) (v_p1_now_madeInAll : Int32) (v_p1_pages : Int32) (v_p1_now_shut : Int32) (v_p1_now_sixteenths : (Nat → Int32)) (r_ : Int64) :
    ∀ (n : Nat) (z1 : Int64) (z3 : Int32), f_X4_sumOfParts_4 fu v_p1_pages v_p1_now_shut v_p1_now_sixteenths  n z1 z3 = some r_ → ∀ (H : Heap) (locs : List Loc) (ls : Array Slot), va_P D mp_cl (k_X4_sumOfParts T a_p1 a_p1_cellNames a_p1_secretNames a_p1_pageNames a_p1_speed a_p1_letters a_p1_room a_p1_now a_p1_rounds a_p1_now_order a_p1_now_knows a_p1_now_made a_p1_now_sixteenths a_p1_now_dots a_p1_now_used a_p1_now_stands v_p1_cells v_p1_secrets v_p1_pages v_p1_blind v_p1_rubs v_p1_now_inOrder v_p1_now_place v_p1_now_ill v_p1_now_shut v_p1_now_turns v_p1_now_madeInAll v_p1_now_sixteenths) H → va_D A (k_X4_sumOfParts T a_p1 a_p1_cellNames a_p1_secretNames a_p1_pageNames a_p1_speed a_p1_letters a_p1_room a_p1_now a_p1_rounds a_p1_now_order a_p1_now_knows a_p1_now_made a_p1_now_sixteenths a_p1_now_dots a_p1_now_used a_p1_now_stands v_p1_cells v_p1_secrets v_p1_pages v_p1_blind v_p1_rubs v_p1_now_inOrder v_p1_now_place v_p1_now_ill v_p1_now_shut v_p1_now_turns v_p1_now_madeInAll v_p1_now_sixteenths) → va_S A s.heap H locs → lv_has ls 4 [(0, .ref a_p1), (1, .long z1), (3, .int z3)] → W p l e ({ frames := 1, cells := 0, slots := 0, locals := 22 }) s m args below meth c H locs 0 0 (MQ below ((mp_Ql D r_ (k_X4_sumOfParts T a_p1 a_p1_cellNames a_p1_secretNames a_p1_pageNames a_p1_speed a_p1_letters a_p1_room a_p1_now a_p1_rounds a_p1_now_order a_p1_now_knows a_p1_now_made a_p1_now_sixteenths a_p1_now_dots a_p1_now_used a_p1_now_stands v_p1_cells v_p1_secrets v_p1_pages v_p1_blind v_p1_rubs v_p1_now_inOrder v_p1_now_place v_p1_now_ill v_p1_now_shut v_p1_now_turns v_p1_now_madeInAll v_p1_now_sixteenths)) A) args s 0 0 A) (F0 m 4 ls []) := by
  have hx := X.1
  have hb := X.2.1
  have hml := X.2.2.1
  have hown := X.2.2.2.2.1
  have hts := X.2.2.2.2.2.1
  intro n
  induction n with
  | zero => intro z1 z3 hf; exact absurd hf (by intro h; cases h)
  | succ n ih =>
    intro z1 z3 hf H locs ls hP hD hS hl
    replace hf : (if v_p1_pages ≤ z3 then some (z1) else bd_ (f_X7_has v_p1_now_shut z3) (fun (r2 : Int32) => (if r2 = 0 then bd_ (f_X4_part z3 v_p1_now_sixteenths) (fun (r6 : Int64) => lt_ (z1 + r6) (fun (y8 : Int64) => lt_ (z3 + (nI 1)) (fun (y9 : Int32) => f_X4_sumOfParts_4 fu v_p1_pages v_p1_now_shut v_p1_now_sixteenths  n y8 y9))) else lt_ (z3 + (nI 1)) (fun (y5 : Int32) => f_X4_sumOfParts_4 fu v_p1_pages v_p1_now_shut v_p1_now_sixteenths  n z1 y5)))) = some r_ := hf
    refine lv_iload_n hx hb dX4_sumOfParts_4 rfl (lv_at hl 2 rfl) ?_
    refine lv_aload_n hx hb dX4_sumOfParts_5 rfl (lv_at hl 0 rfl) ?_
    refine mp_get X fl_X4_30 hK hP 0 rfl rfl dX4_sumOfParts_6 ?_
    refine lv_icmp_ge (tgt := 40) hx hb dX4_sumOfParts_9 (by decide) (fun h1 => ?_) (fun h1 => ?_)
    · replace hf := if_t hf h1
      refine lv_lload_n hx hb dX4_sumOfParts_40 rfl (lv_at hl 1 rfl) ?_
      cases hf
      exact mp_retl X hP hS rfl dX4_sumOfParts_41
    · replace hf := if_f hf h1
      refine lv_aload_n hx hb dX4_sumOfParts_12 rfl (lv_at hl 0 rfl) ?_
      refine mp_get X fl_X4_36 hK hP 0 rfl rfl dX4_sumOfParts_13 ?_
      refine mp_get X fl_X4_40 hK hP 1 rfl rfl dX4_sumOfParts_16 ?_
      refine lv_iload_n hx hb dX4_sumOfParts_19 rfl (lv_at hl 2 rfl) ?_
      obtain ⟨r2, c3, hf⟩ := bd_of hf
      have hPc := hP.sub (ws' := (k_X7_has T )) [] rfl
      have hDc := (mp_D_of (w1 := (k_X4_sumOfParts T a_p1 a_p1_cellNames a_p1_secretNames a_p1_pageNames a_p1_speed a_p1_letters a_p1_room a_p1_now a_p1_rounds a_p1_now_order a_p1_now_knows a_p1_now_made a_p1_now_sixteenths a_p1_now_dots a_p1_now_used a_p1_now_stands v_p1_cells v_p1_secrets v_p1_pages v_p1_blind v_p1_rubs v_p1_now_inOrder v_p1_now_place v_p1_now_ill v_p1_now_shut v_p1_now_turns v_p1_now_madeInAll v_p1_now_sixteenths)) hD rfl).sub (ws' := (k_X7_has T )) [] rfl rfl
      refine mp_calli (isC := []) (wc := (k_X7_has T )) (w1 := (k_X7_has T )) hP (mp_D_of hD rfl) hS hA rfl rfl (mp_runS (As := [.int v_p1_now_shut, .int z3]) (rest := []) X me_X7_has lk_X4_45 (c_X7_has l D T v_p1_now_shut z3 r2 c3) rfl rfl ⟨(Nat.le_of_ble_eq_true rfl), (Nat.le_of_ble_eq_true rfl)⟩ hK hPc hDc rfl hl.1 rfl (Nat.le_of_ble_eq_true rfl) dX4_sumOfParts_20 ⟨Nat.zero_le _, Nat.zero_le _⟩) (fun H locs hP _ hS => ?_)
      replace hP : va_P D mp_cl (k_X4_sumOfParts T a_p1 a_p1_cellNames a_p1_secretNames a_p1_pageNames a_p1_speed a_p1_letters a_p1_room a_p1_now a_p1_rounds a_p1_now_order a_p1_now_knows a_p1_now_made a_p1_now_sixteenths a_p1_now_dots a_p1_now_used a_p1_now_stands v_p1_cells v_p1_secrets v_p1_pages v_p1_blind v_p1_rubs v_p1_now_inOrder v_p1_now_place v_p1_now_ill v_p1_now_shut v_p1_now_turns v_p1_now_madeInAll v_p1_now_sixteenths) H := hP
      refine lv_if_ne (tgt := 34) hx hb dX4_sumOfParts_23 (by decide) (fun h4 => ?_) (fun h4 => ?_)
      · replace hf := if_f hf h4
        obtain ⟨y5, e5⟩ : ∃ y : Int32, y = z3 + (nI 1) := ⟨_, rfl⟩
        replace hf := lt_of e5 hf
        refine lv_iinc (v := y5) (lv' := [(3, .int y5), (0, .ref a_p1), (1, .long z1)]) hx hb dX4_sumOfParts_34 hl (k := 2) rfl (by rw [e5]; rfl) (by decide) rfl (fun ls hl => ?_)
        refine lv_goto (tgt := 4) hx hb dX4_sumOfParts_37 (by decide) ?_
        exact ih z1 y5 hf _ _ _ hP (mp_D_of hD rfl) hS (lv_sub hl [1, 2, 0] rfl)
      · replace hf := if_t hf h4
        refine lv_lload_n hx hb dX4_sumOfParts_26 rfl (lv_at hl 1 rfl) ?_
        refine lv_aload_n hx hb dX4_sumOfParts_27 rfl (lv_at hl 0 rfl) ?_
        refine lv_iload_n hx hb dX4_sumOfParts_28 rfl (lv_at hl 2 rfl) ?_
        obtain ⟨r6, c7, hf⟩ := bd_of hf
        have hPc := hP.sub (ws' := (k_X4_part T a_p1 a_p1_cellNames a_p1_secretNames a_p1_pageNames a_p1_speed a_p1_letters a_p1_room a_p1_now a_p1_rounds a_p1_now_order a_p1_now_knows a_p1_now_made a_p1_now_sixteenths a_p1_now_dots a_p1_now_used a_p1_now_stands v_p1_cells v_p1_secrets v_p1_pages v_p1_blind v_p1_rubs v_p1_now_inOrder v_p1_now_place v_p1_now_ill v_p1_now_shut v_p1_now_turns v_p1_now_madeInAll v_p1_now_sixteenths)) [0, 1, 2] rfl
        have hDc := (mp_D_of (w1 := (k_X4_sumOfParts T a_p1 a_p1_cellNames a_p1_secretNames a_p1_pageNames a_p1_speed a_p1_letters a_p1_room a_p1_now a_p1_rounds a_p1_now_order a_p1_now_knows a_p1_now_made a_p1_now_sixteenths a_p1_now_dots a_p1_now_used a_p1_now_stands v_p1_cells v_p1_secrets v_p1_pages v_p1_blind v_p1_rubs v_p1_now_inOrder v_p1_now_place v_p1_now_ill v_p1_now_shut v_p1_now_turns v_p1_now_madeInAll v_p1_now_sixteenths)) hD rfl).sub (ws' := (k_X4_part T a_p1 a_p1_cellNames a_p1_secretNames a_p1_pageNames a_p1_speed a_p1_letters a_p1_room a_p1_now a_p1_rounds a_p1_now_order a_p1_now_knows a_p1_now_made a_p1_now_sixteenths a_p1_now_dots a_p1_now_used a_p1_now_stands v_p1_cells v_p1_secrets v_p1_pages v_p1_blind v_p1_rubs v_p1_now_inOrder v_p1_now_place v_p1_now_ill v_p1_now_shut v_p1_now_turns v_p1_now_madeInAll v_p1_now_sixteenths)) [0, 1, 2] rfl rfl
        refine mp_calll (isC := [0, 1, 2]) (wc := (k_X4_part T a_p1 a_p1_cellNames a_p1_secretNames a_p1_pageNames a_p1_speed a_p1_letters a_p1_room a_p1_now a_p1_rounds a_p1_now_order a_p1_now_knows a_p1_now_made a_p1_now_sixteenths a_p1_now_dots a_p1_now_used a_p1_now_stands v_p1_cells v_p1_secrets v_p1_pages v_p1_blind v_p1_rubs v_p1_now_inOrder v_p1_now_place v_p1_now_ill v_p1_now_shut v_p1_now_turns v_p1_now_madeInAll v_p1_now_sixteenths)) (w1 := (k_X4_part T a_p1 a_p1_cellNames a_p1_secretNames a_p1_pageNames a_p1_speed a_p1_letters a_p1_room a_p1_now a_p1_rounds a_p1_now_order a_p1_now_knows a_p1_now_made a_p1_now_sixteenths a_p1_now_dots a_p1_now_used a_p1_now_stands v_p1_cells v_p1_secrets v_p1_pages v_p1_blind v_p1_rubs v_p1_now_inOrder v_p1_now_place v_p1_now_ill v_p1_now_shut v_p1_now_turns v_p1_now_madeInAll v_p1_now_sixteenths)) hP (mp_D_of hD rfl) hS hA rfl rfl (mp_runS (As := [.ref a_p1, .int z3]) (rest := [.long z1]) X me_X4_part lk_X4_71 (c_X4_part l D T a_p1 a_p1_cellNames a_p1_secretNames a_p1_pageNames a_p1_speed a_p1_letters a_p1_room a_p1_now a_p1_rounds a_p1_now_order a_p1_now_knows a_p1_now_made a_p1_now_sixteenths a_p1_now_dots a_p1_now_used a_p1_now_stands z3 v_p1_cells v_p1_secrets v_p1_pages v_p1_blind v_p1_rubs v_p1_now_inOrder v_p1_now_place v_p1_now_ill v_p1_now_shut v_p1_now_turns v_p1_now_madeInAll v_p1_now_sixteenths r6 c7) rfl rfl ⟨(Nat.le_of_ble_eq_true rfl), (Nat.le_of_ble_eq_true rfl)⟩ hK hPc hDc rfl hl.1 rfl (Nat.le_of_ble_eq_true rfl) dX4_sumOfParts_29 ⟨Nat.zero_le _, Nat.zero_le _⟩) (fun H locs hP _ hS => ?_)
        replace hP : va_P D mp_cl (k_X4_sumOfParts T a_p1 a_p1_cellNames a_p1_secretNames a_p1_pageNames a_p1_speed a_p1_letters a_p1_room a_p1_now a_p1_rounds a_p1_now_order a_p1_now_knows a_p1_now_made a_p1_now_sixteenths a_p1_now_dots a_p1_now_used a_p1_now_stands v_p1_cells v_p1_secrets v_p1_pages v_p1_blind v_p1_rubs v_p1_now_inOrder v_p1_now_place v_p1_now_ill v_p1_now_shut v_p1_now_turns v_p1_now_madeInAll v_p1_now_sixteenths) H := hP
        refine lv_ladd hx hb dX4_sumOfParts_32 ?_
        refine lv_topl (fun y8 e8 => ?_)
        replace hf := lt_of e8 hf
        refine lv_lstore_n (lv' := [(1, .long y8), (0, .ref a_p1), (3, .int z3)]) hx hb dX4_sumOfParts_33 rfl hl (by decide) rfl (fun ls hl => ?_)
        obtain ⟨y9, e9⟩ : ∃ y : Int32, y = z3 + (nI 1) := ⟨_, rfl⟩
        replace hf := lt_of e9 hf
        refine lv_iinc (v := y9) (lv' := [(3, .int y9), (1, .long y8), (0, .ref a_p1)]) hx hb dX4_sumOfParts_34 hl (k := 2) rfl (by rw [e9]; rfl) (by decide) rfl (fun ls hl => ?_)
        refine lv_goto (tgt := 4) hx hb dX4_sumOfParts_37 (by decide) ?_
        exact ih y8 y9 hf _ _ _ hP (mp_D_of hD rfl) hS (lv_sub hl [2, 1, 0] rfl)

set_option maxHeartbeats 4000000 in
set_option maxRecDepth 100000 in
theorem c_X4_sumOfParts (l : Launch) (D : va_G) (T : Nat → ClassId) (fu : Nat) (a_p1 a_p1_cellNames a_p1_secretNames a_p1_pageNames a_p1_speed a_p1_letters a_p1_room a_p1_now a_p1_rounds a_p1_now_order a_p1_now_knows a_p1_now_made a_p1_now_sixteenths a_p1_now_dots a_p1_now_used a_p1_now_stands : Nat) (v_p1_cells : Int32) (v_p1_secrets : Int32) (v_p1_blind : Int32) (v_p1_rubs : Int32) (v_p1_now_inOrder : Int32) (v_p1_now_place : Int32) (v_p1_now_ill : Int32) (v_p1_now_turns : Int32) (v_p1_now_madeInAll : Int32) (v_p1_pages : Int32) (v_p1_now_shut : Int32) (v_p1_now_sixteenths : (Nat → Int32)) (r_ : Int64) (hf : f_X4_sumOfParts fu v_p1_pages v_p1_now_shut v_p1_now_sixteenths = some r_) :
    mp_M l D T yX4_sumOfParts cX4_sumOfParts 4 (some .long) ({ frames := 1, cells := 0, slots := 0, locals := 22 }) 0 0 [.ref a_p1] (k_X4_sumOfParts T a_p1 a_p1_cellNames a_p1_secretNames a_p1_pageNames a_p1_speed a_p1_letters a_p1_room a_p1_now a_p1_rounds a_p1_now_order a_p1_now_knows a_p1_now_made a_p1_now_sixteenths a_p1_now_dots a_p1_now_used a_p1_now_stands v_p1_cells v_p1_secrets v_p1_pages v_p1_blind v_p1_rubs v_p1_now_inOrder v_p1_now_place v_p1_now_ill v_p1_now_shut v_p1_now_turns v_p1_now_madeInAll v_p1_now_sixteenths) (mp_Ql D r_ (k_X4_sumOfParts T a_p1 a_p1_cellNames a_p1_secretNames a_p1_pageNames a_p1_speed a_p1_letters a_p1_room a_p1_now a_p1_rounds a_p1_now_order a_p1_now_knows a_p1_now_made a_p1_now_sixteenths a_p1_now_dots a_p1_now_used a_p1_now_stands v_p1_cells v_p1_secrets v_p1_pages v_p1_blind v_p1_rubs v_p1_now_inOrder v_p1_now_place v_p1_now_ill v_p1_now_shut v_p1_now_turns v_p1_now_madeInAll v_p1_now_sixteenths)) := by
  refine mp_of (by decide) (Nat.le_of_ble_eq_true rfl) rfl ?_
  intro p e s m args below meth c A ls X hK hP hD hS hA hl
  replace X : mp_X p s m meth c args RX4 "sumOfParts" cX4_sumOfParts 4 (some .long) := X
  have hx := X.1
  have hb := X.2.1
  have hml := X.2.2.1
  have hown := X.2.2.2.2.1
  have hts := X.2.2.2.2.2.1
  replace hl : lv_has ls 4 [(0, .ref a_p1)] := hl
  replace hf : f_X4_sumOfParts_4 fu v_p1_pages v_p1_now_shut v_p1_now_sixteenths  fu (lN 0) (nI 0) = some r_ := hf
  refine lv_lconst (v := (lN 0)) hx hb dX4_sumOfParts_0 (by decide) ?_
  refine lv_lstore_n (lv' := [(1, .long (lN 0)), (0, .ref a_p1)]) hx hb dX4_sumOfParts_1 rfl hl (by decide) rfl (fun ls hl => ?_)
  refine lv_iconst (v := (nI 0)) hx hb dX4_sumOfParts_2 (by decide) ?_
  refine lv_istore_n (lv' := [(3, .int (nI 0)), (1, .long (lN 0)), (0, .ref a_p1)]) hx hb dX4_sumOfParts_3 rfl hl (by decide) rfl (fun ls hl => ?_)
  exact w_X4_sumOfParts_4 X hK hA  fu a_p1 a_p1_cellNames a_p1_secretNames a_p1_pageNames a_p1_speed a_p1_letters a_p1_room a_p1_now a_p1_rounds a_p1_now_order a_p1_now_knows a_p1_now_made a_p1_now_sixteenths a_p1_now_dots a_p1_now_used a_p1_now_stands v_p1_cells v_p1_secrets v_p1_blind v_p1_rubs v_p1_now_inOrder v_p1_now_place v_p1_now_ill v_p1_now_turns v_p1_now_madeInAll v_p1_pages v_p1_now_shut v_p1_now_sixteenths r_   fu (lN 0) (nI 0) hf _ _ _ hP (mp_D_of hD rfl) hS (lv_sub hl [2, 1, 0] rfl)


def k_X4_tellGame (T : Nat → ClassId) (a_ a_holds a_lettersOf a_p1 a_p1_cellNames a_p1_secretNames a_p1_pageNames a_p1_speed a_p1_letters a_p1_room a_p1_now a_p1_rounds a_p1_now_order a_p1_now_knows a_p1_now_made a_p1_now_sixteenths a_p1_now_dots a_p1_now_used a_p1_now_stands : Nat) (v_above : Int64) (v_below : Int64) (v_p1_cells : Int32) (v_p1_secrets : Int32) (v_p1_pages : Int32) (v_p1_blind : Int32) (v_p1_rubs : Int32) (v_p1_now_inOrder : Int32) (v_p1_now_place : Int32) (v_p1_now_ill : Int32) (v_p1_now_shut : Int32) (v_p1_now_turns : Int32) (v_p1_now_madeInAll : Int32) (v_p1_now_sixteenths : (Nat → Int32)) : va_W := [(a_, oX4 v_above v_below a_holds a_lettersOf), (a_p1, oX1 v_p1_cells v_p1_secrets v_p1_pages a_p1_cellNames a_p1_secretNames a_p1_pageNames a_p1_speed v_p1_blind v_p1_rubs a_p1_letters a_p1_room a_p1_now a_p1_rounds), (a_p1_now, oX7 a_p1_now_order v_p1_now_inOrder v_p1_now_place a_p1_now_knows a_p1_now_made a_p1_now_sixteenths a_p1_now_dots a_p1_now_used a_p1_now_stands v_p1_now_ill v_p1_now_shut v_p1_now_turns v_p1_now_madeInAll), (a_p1_now_sixteenths, mp_aI T 6 v_p1_now_sixteenths)]
set_option maxHeartbeats 4000000 in
set_option maxRecDepth 100000 in
theorem c_X4_tellGame (l : Launch) (D : va_G) (T : Nat → ClassId) (fu : Nat) (a_ a_holds a_lettersOf a_p1 a_p1_cellNames a_p1_secretNames a_p1_pageNames a_p1_speed a_p1_letters a_p1_room a_p1_now a_p1_rounds a_p1_now_order a_p1_now_knows a_p1_now_made a_p1_now_sixteenths a_p1_now_dots a_p1_now_used a_p1_now_stands : Nat) (v_p1_cells : Int32) (v_p1_secrets : Int32) (v_p1_blind : Int32) (v_p1_rubs : Int32) (v_p1_now_inOrder : Int32) (v_p1_now_place : Int32) (v_p1_now_ill : Int32) (v_p1_now_turns : Int32) (v_p1_now_madeInAll : Int32) (v_above : Int64) (v_below : Int64) (v_p1_pages : Int32) (v_p1_now_shut : Int32) (v_p1_now_sixteenths : (Nat → Int32)) (r_ : Int32) (o_above : Int64) (o_below : Int64) (hf : f_X4_tellGame fu v_above v_below v_p1_pages v_p1_now_shut v_p1_now_sixteenths = some (r_, o_above, o_below)) :
    mp_M l D T yX4_tellGame cX4_tellGame 4 (some .boolean) ({ frames := 2, cells := 0, slots := 0, locals := 56 }) 0 0 [.ref a_, .ref a_p1] (k_X4_tellGame T a_ a_holds a_lettersOf a_p1 a_p1_cellNames a_p1_secretNames a_p1_pageNames a_p1_speed a_p1_letters a_p1_room a_p1_now a_p1_rounds a_p1_now_order a_p1_now_knows a_p1_now_made a_p1_now_sixteenths a_p1_now_dots a_p1_now_used a_p1_now_stands v_above v_below v_p1_cells v_p1_secrets v_p1_pages v_p1_blind v_p1_rubs v_p1_now_inOrder v_p1_now_place v_p1_now_ill v_p1_now_shut v_p1_now_turns v_p1_now_madeInAll v_p1_now_sixteenths) (mp_Qi D r_ (k_X4_tellGame T a_ a_holds a_lettersOf a_p1 a_p1_cellNames a_p1_secretNames a_p1_pageNames a_p1_speed a_p1_letters a_p1_room a_p1_now a_p1_rounds a_p1_now_order a_p1_now_knows a_p1_now_made a_p1_now_sixteenths a_p1_now_dots a_p1_now_used a_p1_now_stands o_above o_below v_p1_cells v_p1_secrets v_p1_pages v_p1_blind v_p1_rubs v_p1_now_inOrder v_p1_now_place v_p1_now_ill v_p1_now_shut v_p1_now_turns v_p1_now_madeInAll v_p1_now_sixteenths)) := by
  refine mp_of (by decide) (Nat.le_of_ble_eq_true rfl) rfl ?_
  intro p e s m args below meth c A ls X hK hP hD hS hA hl
  replace X : mp_X p s m meth c args RX4 "tellGame" cX4_tellGame 4 (some .boolean) := X
  have hx := X.1
  have hb := X.2.1
  have hml := X.2.2.1
  have hown := X.2.2.2.2.1
  have hts := X.2.2.2.2.2.1
  replace hl : lv_has ls 4 [(0, .ref a_), (1, .ref a_p1)] := hl
  replace hf : bd_ (f_X4_firstSafe fu v_p1_pages v_p1_now_shut v_p1_now_sixteenths) (fun (r1 : Int32) => (if r1 = (-1 : Int32) then bd_ (f_X4_sumOfParts fu v_p1_pages v_p1_now_shut v_p1_now_sixteenths) (fun (r4 : Int64) => (if (lg_cmp r4 (lN 0)) = 0 then some ((nI 0), v_above, v_below) else bd_ (f_X4_keep fu (lN 720720) ((lN 16) * r4) v_above v_below) (fun (z : Int64 × Int64) => match z with | (u7, u8) => some ((nI 1), u7, u8)))) else bd_ (f_X4_keep fu (lN 0) (lN 1) v_above v_below) (fun (z : Int64 × Int64) => match z with | (u10, u11) => some ((nI 1), u10, u11)))) = some (r_, o_above, o_below) := hf
  refine lv_aload_n hx hb dX4_tellGame_0 rfl (lv_at hl 1 rfl) ?_
  obtain ⟨r1, c2, hf⟩ := bd_of hf
  have hPc := hP.sub (ws' := (k_X4_firstSafe T a_p1 a_p1_cellNames a_p1_secretNames a_p1_pageNames a_p1_speed a_p1_letters a_p1_room a_p1_now a_p1_rounds a_p1_now_order a_p1_now_knows a_p1_now_made a_p1_now_sixteenths a_p1_now_dots a_p1_now_used a_p1_now_stands v_p1_cells v_p1_secrets v_p1_pages v_p1_blind v_p1_rubs v_p1_now_inOrder v_p1_now_place v_p1_now_ill v_p1_now_shut v_p1_now_turns v_p1_now_madeInAll v_p1_now_sixteenths)) [1, 2, 3] rfl
  have hDc := (mp_D_of (w1 := (k_X4_tellGame T a_ a_holds a_lettersOf a_p1 a_p1_cellNames a_p1_secretNames a_p1_pageNames a_p1_speed a_p1_letters a_p1_room a_p1_now a_p1_rounds a_p1_now_order a_p1_now_knows a_p1_now_made a_p1_now_sixteenths a_p1_now_dots a_p1_now_used a_p1_now_stands v_above v_below v_p1_cells v_p1_secrets v_p1_pages v_p1_blind v_p1_rubs v_p1_now_inOrder v_p1_now_place v_p1_now_ill v_p1_now_shut v_p1_now_turns v_p1_now_madeInAll v_p1_now_sixteenths)) hD rfl).sub (ws' := (k_X4_firstSafe T a_p1 a_p1_cellNames a_p1_secretNames a_p1_pageNames a_p1_speed a_p1_letters a_p1_room a_p1_now a_p1_rounds a_p1_now_order a_p1_now_knows a_p1_now_made a_p1_now_sixteenths a_p1_now_dots a_p1_now_used a_p1_now_stands v_p1_cells v_p1_secrets v_p1_pages v_p1_blind v_p1_rubs v_p1_now_inOrder v_p1_now_place v_p1_now_ill v_p1_now_shut v_p1_now_turns v_p1_now_madeInAll v_p1_now_sixteenths)) [1, 2, 3] rfl rfl
  refine mp_calli (isC := [1, 2, 3]) (wc := (k_X4_firstSafe T a_p1 a_p1_cellNames a_p1_secretNames a_p1_pageNames a_p1_speed a_p1_letters a_p1_room a_p1_now a_p1_rounds a_p1_now_order a_p1_now_knows a_p1_now_made a_p1_now_sixteenths a_p1_now_dots a_p1_now_used a_p1_now_stands v_p1_cells v_p1_secrets v_p1_pages v_p1_blind v_p1_rubs v_p1_now_inOrder v_p1_now_place v_p1_now_ill v_p1_now_shut v_p1_now_turns v_p1_now_madeInAll v_p1_now_sixteenths)) (w1 := (k_X4_firstSafe T a_p1 a_p1_cellNames a_p1_secretNames a_p1_pageNames a_p1_speed a_p1_letters a_p1_room a_p1_now a_p1_rounds a_p1_now_order a_p1_now_knows a_p1_now_made a_p1_now_sixteenths a_p1_now_dots a_p1_now_used a_p1_now_stands v_p1_cells v_p1_secrets v_p1_pages v_p1_blind v_p1_rubs v_p1_now_inOrder v_p1_now_place v_p1_now_ill v_p1_now_shut v_p1_now_turns v_p1_now_madeInAll v_p1_now_sixteenths)) hP (mp_D_of hD rfl) hS hA rfl rfl (mp_runS (As := [.ref a_p1]) (rest := []) X me_X4_firstSafe lk_X4_61 (c_X4_firstSafe l D T fu a_p1 a_p1_cellNames a_p1_secretNames a_p1_pageNames a_p1_speed a_p1_letters a_p1_room a_p1_now a_p1_rounds a_p1_now_order a_p1_now_knows a_p1_now_made a_p1_now_sixteenths a_p1_now_dots a_p1_now_used a_p1_now_stands v_p1_cells v_p1_secrets v_p1_blind v_p1_rubs v_p1_now_inOrder v_p1_now_place v_p1_now_ill v_p1_now_turns v_p1_now_madeInAll v_p1_pages v_p1_now_shut v_p1_now_sixteenths r1 c2) rfl rfl ⟨(Nat.le_of_ble_eq_true rfl), (Nat.le_of_ble_eq_true rfl)⟩ hK hPc hDc rfl hl.1 rfl (Nat.le_of_ble_eq_true rfl) dX4_tellGame_1 ⟨Nat.zero_le _, Nat.zero_le _⟩) (fun H locs hP _ hS => ?_)
  replace hP : va_P D mp_cl (k_X4_tellGame T a_ a_holds a_lettersOf a_p1 a_p1_cellNames a_p1_secretNames a_p1_pageNames a_p1_speed a_p1_letters a_p1_room a_p1_now a_p1_rounds a_p1_now_order a_p1_now_knows a_p1_now_made a_p1_now_sixteenths a_p1_now_dots a_p1_now_used a_p1_now_stands v_above v_below v_p1_cells v_p1_secrets v_p1_pages v_p1_blind v_p1_rubs v_p1_now_inOrder v_p1_now_place v_p1_now_ill v_p1_now_shut v_p1_now_turns v_p1_now_madeInAll v_p1_now_sixteenths) H := hP
  refine lv_iconst (v := (-1 : Int32)) hx hb dX4_tellGame_4 (by decide) ?_
  refine lv_icmp_eq (tgt := 16) hx hb dX4_tellGame_5 (by decide) (fun h3 => ?_) (fun h3 => ?_)
  · replace hf := if_t hf h3
    refine lv_aload_n hx hb dX4_tellGame_16 rfl (lv_at hl 1 rfl) ?_
    obtain ⟨r4, c5, hf⟩ := bd_of hf
    have hPc := hP.sub (ws' := (k_X4_sumOfParts T a_p1 a_p1_cellNames a_p1_secretNames a_p1_pageNames a_p1_speed a_p1_letters a_p1_room a_p1_now a_p1_rounds a_p1_now_order a_p1_now_knows a_p1_now_made a_p1_now_sixteenths a_p1_now_dots a_p1_now_used a_p1_now_stands v_p1_cells v_p1_secrets v_p1_pages v_p1_blind v_p1_rubs v_p1_now_inOrder v_p1_now_place v_p1_now_ill v_p1_now_shut v_p1_now_turns v_p1_now_madeInAll v_p1_now_sixteenths)) [1, 2, 3] rfl
    have hDc := (mp_D_of (w1 := (k_X4_tellGame T a_ a_holds a_lettersOf a_p1 a_p1_cellNames a_p1_secretNames a_p1_pageNames a_p1_speed a_p1_letters a_p1_room a_p1_now a_p1_rounds a_p1_now_order a_p1_now_knows a_p1_now_made a_p1_now_sixteenths a_p1_now_dots a_p1_now_used a_p1_now_stands v_above v_below v_p1_cells v_p1_secrets v_p1_pages v_p1_blind v_p1_rubs v_p1_now_inOrder v_p1_now_place v_p1_now_ill v_p1_now_shut v_p1_now_turns v_p1_now_madeInAll v_p1_now_sixteenths)) hD rfl).sub (ws' := (k_X4_sumOfParts T a_p1 a_p1_cellNames a_p1_secretNames a_p1_pageNames a_p1_speed a_p1_letters a_p1_room a_p1_now a_p1_rounds a_p1_now_order a_p1_now_knows a_p1_now_made a_p1_now_sixteenths a_p1_now_dots a_p1_now_used a_p1_now_stands v_p1_cells v_p1_secrets v_p1_pages v_p1_blind v_p1_rubs v_p1_now_inOrder v_p1_now_place v_p1_now_ill v_p1_now_shut v_p1_now_turns v_p1_now_madeInAll v_p1_now_sixteenths)) [1, 2, 3] rfl rfl
    refine mp_calll (isC := [1, 2, 3]) (wc := (k_X4_sumOfParts T a_p1 a_p1_cellNames a_p1_secretNames a_p1_pageNames a_p1_speed a_p1_letters a_p1_room a_p1_now a_p1_rounds a_p1_now_order a_p1_now_knows a_p1_now_made a_p1_now_sixteenths a_p1_now_dots a_p1_now_used a_p1_now_stands v_p1_cells v_p1_secrets v_p1_pages v_p1_blind v_p1_rubs v_p1_now_inOrder v_p1_now_place v_p1_now_ill v_p1_now_shut v_p1_now_turns v_p1_now_madeInAll v_p1_now_sixteenths)) (w1 := (k_X4_sumOfParts T a_p1 a_p1_cellNames a_p1_secretNames a_p1_pageNames a_p1_speed a_p1_letters a_p1_room a_p1_now a_p1_rounds a_p1_now_order a_p1_now_knows a_p1_now_made a_p1_now_sixteenths a_p1_now_dots a_p1_now_used a_p1_now_stands v_p1_cells v_p1_secrets v_p1_pages v_p1_blind v_p1_rubs v_p1_now_inOrder v_p1_now_place v_p1_now_ill v_p1_now_shut v_p1_now_turns v_p1_now_madeInAll v_p1_now_sixteenths)) hP (mp_D_of hD rfl) hS hA rfl rfl (mp_runS (As := [.ref a_p1]) (rest := []) X me_X4_sumOfParts lk_X4_65 (c_X4_sumOfParts l D T fu a_p1 a_p1_cellNames a_p1_secretNames a_p1_pageNames a_p1_speed a_p1_letters a_p1_room a_p1_now a_p1_rounds a_p1_now_order a_p1_now_knows a_p1_now_made a_p1_now_sixteenths a_p1_now_dots a_p1_now_used a_p1_now_stands v_p1_cells v_p1_secrets v_p1_blind v_p1_rubs v_p1_now_inOrder v_p1_now_place v_p1_now_ill v_p1_now_turns v_p1_now_madeInAll v_p1_pages v_p1_now_shut v_p1_now_sixteenths r4 c5) rfl rfl ⟨(Nat.le_of_ble_eq_true rfl), (Nat.le_of_ble_eq_true rfl)⟩ hK hPc hDc rfl hl.1 rfl (Nat.le_of_ble_eq_true rfl) dX4_tellGame_17 ⟨Nat.zero_le _, Nat.zero_le _⟩) (fun H locs hP _ hS => ?_)
    replace hP : va_P D mp_cl (k_X4_tellGame T a_ a_holds a_lettersOf a_p1 a_p1_cellNames a_p1_secretNames a_p1_pageNames a_p1_speed a_p1_letters a_p1_room a_p1_now a_p1_rounds a_p1_now_order a_p1_now_knows a_p1_now_made a_p1_now_sixteenths a_p1_now_dots a_p1_now_used a_p1_now_stands v_above v_below v_p1_cells v_p1_secrets v_p1_pages v_p1_blind v_p1_rubs v_p1_now_inOrder v_p1_now_place v_p1_now_ill v_p1_now_shut v_p1_now_turns v_p1_now_madeInAll v_p1_now_sixteenths) H := hP
    refine lv_lstore_n (lv' := [(2, .long r4), (0, .ref a_), (1, .ref a_p1)]) hx hb dX4_tellGame_20 rfl hl (by decide) rfl (fun ls hl => ?_)
    refine lv_lload_n hx hb dX4_tellGame_21 rfl (lv_at hl 0 rfl) ?_
    refine lv_lconst (v := (lN 0)) hx hb dX4_tellGame_22 (by decide) ?_
    refine W.lcmp hx hb dX4_tellGame_23 ?_
    refine lv_if_ne (tgt := 29) hx hb dX4_tellGame_24 (by decide) (fun h6 => ?_) (fun h6 => ?_)
    · replace hf := if_f hf h6
      refine lv_aload_n hx hb dX4_tellGame_29 rfl (lv_at hl 1 rfl) ?_
      refine lv_ldc2 (v := (lN 720720)) hx hb hown (hts _ (cw_X4_69)) dX4_tellGame_30 ?_
      refine lv_ldc2 (v := (lN 16)) hx hb hown (hts _ (cw_X4_55)) dX4_tellGame_33 ?_
      refine lv_lload_n hx hb dX4_tellGame_36 rfl (lv_at hl 0 rfl) ?_
      refine lv_lmul hx hb dX4_tellGame_37 ?_
      obtain ⟨⟨u7, u8⟩, c9, hf⟩ := bd_of hf
      dsimp only at hf
      have hPc := hP.sub (ws' := (k_X4_keep T a_ a_holds a_lettersOf v_above v_below)) [0] rfl
      have hDc := (mp_D_of (w1 := (k_X4_tellGame T a_ a_holds a_lettersOf a_p1 a_p1_cellNames a_p1_secretNames a_p1_pageNames a_p1_speed a_p1_letters a_p1_room a_p1_now a_p1_rounds a_p1_now_order a_p1_now_knows a_p1_now_made a_p1_now_sixteenths a_p1_now_dots a_p1_now_used a_p1_now_stands v_above v_below v_p1_cells v_p1_secrets v_p1_pages v_p1_blind v_p1_rubs v_p1_now_inOrder v_p1_now_place v_p1_now_ill v_p1_now_shut v_p1_now_turns v_p1_now_madeInAll v_p1_now_sixteenths)) hD rfl).sub (ws' := (k_X4_keep T a_ a_holds a_lettersOf v_above v_below)) [0] rfl rfl
      refine mp_callv (isC := [0]) (wc := (k_X4_keep T a_ a_holds a_lettersOf v_above v_below)) (w1 := (k_X4_keep T a_ a_holds a_lettersOf u7 u8)) hP (mp_D_of hD rfl) hS hA rfl rfl (mp_runV (As := [.long (lN 720720), .long ((lN 16) * r4)]) (rest := []) X me_X4_keep lk_X4_57 (c_X4_keep l D T fu a_ a_holds a_lettersOf (lN 720720) ((lN 16) * r4) v_above v_below u7 u8 c9) rfl rfl ⟨(Nat.le_of_ble_eq_true rfl), (Nat.le_of_ble_eq_true rfl)⟩ hK hPc hDc rfl rfl rfl rfl hl.1 rfl (Nat.le_of_ble_eq_true rfl) dX4_tellGame_38 ⟨Nat.zero_le _, Nat.zero_le _⟩) (fun H locs hP _ hS => ?_)
      replace hP : va_P D mp_cl (k_X4_tellGame T a_ a_holds a_lettersOf a_p1 a_p1_cellNames a_p1_secretNames a_p1_pageNames a_p1_speed a_p1_letters a_p1_room a_p1_now a_p1_rounds a_p1_now_order a_p1_now_knows a_p1_now_made a_p1_now_sixteenths a_p1_now_dots a_p1_now_used a_p1_now_stands u7 u8 v_p1_cells v_p1_secrets v_p1_pages v_p1_blind v_p1_rubs v_p1_now_inOrder v_p1_now_place v_p1_now_ill v_p1_now_shut v_p1_now_turns v_p1_now_madeInAll v_p1_now_sixteenths) H := hP
      refine lv_iconst (v := (nI 1)) hx hb dX4_tellGame_41 (by decide) ?_
      cases hf
      exact mp_retz X hP hS rfl (Or.inr rfl) dX4_tellGame_42
    · replace hf := if_t hf h6
      refine lv_iconst (v := (nI 0)) hx hb dX4_tellGame_27 (by decide) ?_
      cases hf
      exact mp_retz X hP hS rfl (Or.inl rfl) dX4_tellGame_28
  · replace hf := if_f hf h3
    refine lv_aload_n hx hb dX4_tellGame_8 rfl (lv_at hl 0 rfl) ?_
    refine lv_lconst (v := (lN 0)) hx hb dX4_tellGame_9 (by decide) ?_
    refine lv_lconst (v := (lN 1)) hx hb dX4_tellGame_10 (by decide) ?_
    obtain ⟨⟨u10, u11⟩, c12, hf⟩ := bd_of hf
    dsimp only at hf
    have hPc := hP.sub (ws' := (k_X4_keep T a_ a_holds a_lettersOf v_above v_below)) [0] rfl
    have hDc := (mp_D_of (w1 := (k_X4_tellGame T a_ a_holds a_lettersOf a_p1 a_p1_cellNames a_p1_secretNames a_p1_pageNames a_p1_speed a_p1_letters a_p1_room a_p1_now a_p1_rounds a_p1_now_order a_p1_now_knows a_p1_now_made a_p1_now_sixteenths a_p1_now_dots a_p1_now_used a_p1_now_stands v_above v_below v_p1_cells v_p1_secrets v_p1_pages v_p1_blind v_p1_rubs v_p1_now_inOrder v_p1_now_place v_p1_now_ill v_p1_now_shut v_p1_now_turns v_p1_now_madeInAll v_p1_now_sixteenths)) hD rfl).sub (ws' := (k_X4_keep T a_ a_holds a_lettersOf v_above v_below)) [0] rfl rfl
    refine mp_callv (isC := [0]) (wc := (k_X4_keep T a_ a_holds a_lettersOf v_above v_below)) (w1 := (k_X4_keep T a_ a_holds a_lettersOf u10 u11)) hP (mp_D_of hD rfl) hS hA rfl rfl (mp_runV (As := [.long (lN 0), .long (lN 1)]) (rest := []) X me_X4_keep lk_X4_57 (c_X4_keep l D T fu a_ a_holds a_lettersOf (lN 0) (lN 1) v_above v_below u10 u11 c12) rfl rfl ⟨(Nat.le_of_ble_eq_true rfl), (Nat.le_of_ble_eq_true rfl)⟩ hK hPc hDc rfl rfl rfl rfl hl.1 rfl (Nat.le_of_ble_eq_true rfl) dX4_tellGame_11 ⟨Nat.zero_le _, Nat.zero_le _⟩) (fun H locs hP _ hS => ?_)
    replace hP : va_P D mp_cl (k_X4_tellGame T a_ a_holds a_lettersOf a_p1 a_p1_cellNames a_p1_secretNames a_p1_pageNames a_p1_speed a_p1_letters a_p1_room a_p1_now a_p1_rounds a_p1_now_order a_p1_now_knows a_p1_now_made a_p1_now_sixteenths a_p1_now_dots a_p1_now_used a_p1_now_stands u10 u11 v_p1_cells v_p1_secrets v_p1_pages v_p1_blind v_p1_rubs v_p1_now_inOrder v_p1_now_place v_p1_now_ill v_p1_now_shut v_p1_now_turns v_p1_now_madeInAll v_p1_now_sixteenths) H := hP
    refine lv_iconst (v := (nI 1)) hx hb dX4_tellGame_14 (by decide) ?_
    cases hf
    exact mp_retz X hP hS rfl (Or.inr rfl) dX4_tellGame_15


def k_X4_tellMix (T : Nat → ClassId) (a_ a_holds a_lettersOf a_p1 a_p1_cellNames a_p1_secretNames a_p1_pageNames a_p1_speed a_p1_letters a_p1_room a_p1_now a_p1_rounds a_p1_now_order a_p1_now_knows a_p1_now_made a_p1_now_sixteenths a_p1_now_dots a_p1_now_used a_p1_now_stands : Nat) (v_above : Int64) (v_below : Int64) (v_p1_cells : Int32) (v_p1_secrets : Int32) (v_p1_pages : Int32) (v_p1_blind : Int32) (v_p1_rubs : Int32) (v_p1_now_inOrder : Int32) (v_p1_now_place : Int32) (v_p1_now_ill : Int32) (v_p1_now_shut : Int32) (v_p1_now_turns : Int32) (v_p1_now_madeInAll : Int32) (v_p1_now_sixteenths : (Nat → Int32)) : va_W := [(a_, oX4 v_above v_below a_holds a_lettersOf), (a_p1, oX1 v_p1_cells v_p1_secrets v_p1_pages a_p1_cellNames a_p1_secretNames a_p1_pageNames a_p1_speed v_p1_blind v_p1_rubs a_p1_letters a_p1_room a_p1_now a_p1_rounds), (a_p1_now, oX7 a_p1_now_order v_p1_now_inOrder v_p1_now_place a_p1_now_knows a_p1_now_made a_p1_now_sixteenths a_p1_now_dots a_p1_now_used a_p1_now_stands v_p1_now_ill v_p1_now_shut v_p1_now_turns v_p1_now_madeInAll), (a_p1_now_sixteenths, mp_aI T 6 v_p1_now_sixteenths)]
set_option maxHeartbeats 4000000 in
set_option maxRecDepth 100000 in
theorem c_X4_tellMix (l : Launch) (D : va_G) (T : Nat → ClassId) (fu : Nat) (a_ a_holds a_lettersOf a_p1 a_p1_cellNames a_p1_secretNames a_p1_pageNames a_p1_speed a_p1_letters a_p1_room a_p1_now a_p1_rounds a_p1_now_order a_p1_now_knows a_p1_now_made a_p1_now_sixteenths a_p1_now_dots a_p1_now_used a_p1_now_stands : Nat) (x2 : Int32) (v_p1_cells : Int32) (v_p1_secrets : Int32) (v_p1_blind : Int32) (v_p1_rubs : Int32) (v_p1_now_inOrder : Int32) (v_p1_now_place : Int32) (v_p1_now_ill : Int32) (v_p1_now_turns : Int32) (v_p1_now_madeInAll : Int32) (v_above : Int64) (v_below : Int64) (v_p1_pages : Int32) (v_p1_now_shut : Int32) (v_p1_now_sixteenths : (Nat → Int32)) (o_above : Int64) (o_below : Int64) (hf : f_X4_tellMix fu x2 v_above v_below v_p1_pages v_p1_now_shut v_p1_now_sixteenths = some (o_above, o_below)) :
    mp_M l D T yX4_tellMix cX4_tellMix 4 none ({ frames := 2, cells := 0, slots := 0, locals := 56 }) 0 0 [.ref a_, .ref a_p1, .int x2] (k_X4_tellMix T a_ a_holds a_lettersOf a_p1 a_p1_cellNames a_p1_secretNames a_p1_pageNames a_p1_speed a_p1_letters a_p1_room a_p1_now a_p1_rounds a_p1_now_order a_p1_now_knows a_p1_now_made a_p1_now_sixteenths a_p1_now_dots a_p1_now_used a_p1_now_stands v_above v_below v_p1_cells v_p1_secrets v_p1_pages v_p1_blind v_p1_rubs v_p1_now_inOrder v_p1_now_place v_p1_now_ill v_p1_now_shut v_p1_now_turns v_p1_now_madeInAll v_p1_now_sixteenths) (mp_Qv D (k_X4_tellMix T a_ a_holds a_lettersOf a_p1 a_p1_cellNames a_p1_secretNames a_p1_pageNames a_p1_speed a_p1_letters a_p1_room a_p1_now a_p1_rounds a_p1_now_order a_p1_now_knows a_p1_now_made a_p1_now_sixteenths a_p1_now_dots a_p1_now_used a_p1_now_stands o_above o_below v_p1_cells v_p1_secrets v_p1_pages v_p1_blind v_p1_rubs v_p1_now_inOrder v_p1_now_place v_p1_now_ill v_p1_now_shut v_p1_now_turns v_p1_now_madeInAll v_p1_now_sixteenths)) := by
  refine mp_of (by decide) (Nat.le_of_ble_eq_true rfl) rfl ?_
  intro p e s m args below meth c A ls X hK hP hD hS hA hl
  replace X : mp_X p s m meth c args RX4 "tellMix" cX4_tellMix 4 none := X
  have hx := X.1
  have hb := X.2.1
  have hml := X.2.2.1
  have hown := X.2.2.2.2.1
  have hts := X.2.2.2.2.2.1
  replace hl : lv_has ls 4 [(0, .ref a_), (1, .ref a_p1), (2, .int x2)] := hl
  replace hf : bd_ (f_X4_firstSafe fu v_p1_pages v_p1_now_shut v_p1_now_sixteenths) (fun (r1 : Int32) => (if r1 = (-1 : Int32) then bd_ (f_X4_part x2 v_p1_now_sixteenths) (fun (r4 : Int64) => bd_ (f_X4_sumOfParts fu v_p1_pages v_p1_now_shut v_p1_now_sixteenths) (fun (r6 : Int64) => bd_ (f_X4_keep fu r4 r6 v_above v_below) (fun (z : Int64 × Int64) => match z with | (u8, u9) => some (u8, u9)))) else (if x2 = r1 then bd_ (f_X4_keep fu (lN 1) (lN 1) v_above v_below) (fun (z : Int64 × Int64) => match z with | (u15, u16) => some (u15, u16)) else bd_ (f_X4_keep fu (lN 0) (lN 1) v_above v_below) (fun (z : Int64 × Int64) => match z with | (u12, u13) => some (u12, u13))))) = some (o_above, o_below) := hf
  refine lv_aload_n hx hb dX4_tellMix_0 rfl (lv_at hl 1 rfl) ?_
  obtain ⟨r1, c2, hf⟩ := bd_of hf
  have hPc := hP.sub (ws' := (k_X4_firstSafe T a_p1 a_p1_cellNames a_p1_secretNames a_p1_pageNames a_p1_speed a_p1_letters a_p1_room a_p1_now a_p1_rounds a_p1_now_order a_p1_now_knows a_p1_now_made a_p1_now_sixteenths a_p1_now_dots a_p1_now_used a_p1_now_stands v_p1_cells v_p1_secrets v_p1_pages v_p1_blind v_p1_rubs v_p1_now_inOrder v_p1_now_place v_p1_now_ill v_p1_now_shut v_p1_now_turns v_p1_now_madeInAll v_p1_now_sixteenths)) [1, 2, 3] rfl
  have hDc := (mp_D_of (w1 := (k_X4_tellMix T a_ a_holds a_lettersOf a_p1 a_p1_cellNames a_p1_secretNames a_p1_pageNames a_p1_speed a_p1_letters a_p1_room a_p1_now a_p1_rounds a_p1_now_order a_p1_now_knows a_p1_now_made a_p1_now_sixteenths a_p1_now_dots a_p1_now_used a_p1_now_stands v_above v_below v_p1_cells v_p1_secrets v_p1_pages v_p1_blind v_p1_rubs v_p1_now_inOrder v_p1_now_place v_p1_now_ill v_p1_now_shut v_p1_now_turns v_p1_now_madeInAll v_p1_now_sixteenths)) hD rfl).sub (ws' := (k_X4_firstSafe T a_p1 a_p1_cellNames a_p1_secretNames a_p1_pageNames a_p1_speed a_p1_letters a_p1_room a_p1_now a_p1_rounds a_p1_now_order a_p1_now_knows a_p1_now_made a_p1_now_sixteenths a_p1_now_dots a_p1_now_used a_p1_now_stands v_p1_cells v_p1_secrets v_p1_pages v_p1_blind v_p1_rubs v_p1_now_inOrder v_p1_now_place v_p1_now_ill v_p1_now_shut v_p1_now_turns v_p1_now_madeInAll v_p1_now_sixteenths)) [1, 2, 3] rfl rfl
  refine mp_calli (isC := [1, 2, 3]) (wc := (k_X4_firstSafe T a_p1 a_p1_cellNames a_p1_secretNames a_p1_pageNames a_p1_speed a_p1_letters a_p1_room a_p1_now a_p1_rounds a_p1_now_order a_p1_now_knows a_p1_now_made a_p1_now_sixteenths a_p1_now_dots a_p1_now_used a_p1_now_stands v_p1_cells v_p1_secrets v_p1_pages v_p1_blind v_p1_rubs v_p1_now_inOrder v_p1_now_place v_p1_now_ill v_p1_now_shut v_p1_now_turns v_p1_now_madeInAll v_p1_now_sixteenths)) (w1 := (k_X4_firstSafe T a_p1 a_p1_cellNames a_p1_secretNames a_p1_pageNames a_p1_speed a_p1_letters a_p1_room a_p1_now a_p1_rounds a_p1_now_order a_p1_now_knows a_p1_now_made a_p1_now_sixteenths a_p1_now_dots a_p1_now_used a_p1_now_stands v_p1_cells v_p1_secrets v_p1_pages v_p1_blind v_p1_rubs v_p1_now_inOrder v_p1_now_place v_p1_now_ill v_p1_now_shut v_p1_now_turns v_p1_now_madeInAll v_p1_now_sixteenths)) hP (mp_D_of hD rfl) hS hA rfl rfl (mp_runS (As := [.ref a_p1]) (rest := []) X me_X4_firstSafe lk_X4_61 (c_X4_firstSafe l D T fu a_p1 a_p1_cellNames a_p1_secretNames a_p1_pageNames a_p1_speed a_p1_letters a_p1_room a_p1_now a_p1_rounds a_p1_now_order a_p1_now_knows a_p1_now_made a_p1_now_sixteenths a_p1_now_dots a_p1_now_used a_p1_now_stands v_p1_cells v_p1_secrets v_p1_blind v_p1_rubs v_p1_now_inOrder v_p1_now_place v_p1_now_ill v_p1_now_turns v_p1_now_madeInAll v_p1_pages v_p1_now_shut v_p1_now_sixteenths r1 c2) rfl rfl ⟨(Nat.le_of_ble_eq_true rfl), (Nat.le_of_ble_eq_true rfl)⟩ hK hPc hDc rfl hl.1 rfl (Nat.le_of_ble_eq_true rfl) dX4_tellMix_1 ⟨Nat.zero_le _, Nat.zero_le _⟩) (fun H locs hP _ hS => ?_)
  replace hP : va_P D mp_cl (k_X4_tellMix T a_ a_holds a_lettersOf a_p1 a_p1_cellNames a_p1_secretNames a_p1_pageNames a_p1_speed a_p1_letters a_p1_room a_p1_now a_p1_rounds a_p1_now_order a_p1_now_knows a_p1_now_made a_p1_now_sixteenths a_p1_now_dots a_p1_now_used a_p1_now_stands v_above v_below v_p1_cells v_p1_secrets v_p1_pages v_p1_blind v_p1_rubs v_p1_now_inOrder v_p1_now_place v_p1_now_ill v_p1_now_shut v_p1_now_turns v_p1_now_madeInAll v_p1_now_sixteenths) H := hP
  refine lv_istore_n (lv' := [(3, .int r1), (0, .ref a_), (1, .ref a_p1), (2, .int x2)]) hx hb dX4_tellMix_4 rfl hl (by decide) rfl (fun ls hl => ?_)
  refine lv_iload_n hx hb dX4_tellMix_5 rfl (lv_at hl 0 rfl) ?_
  refine lv_iconst (v := (-1 : Int32)) hx hb dX4_tellMix_6 (by decide) ?_
  refine lv_icmp_eq (tgt := 28) hx hb dX4_tellMix_7 (by decide) (fun h3 => ?_) (fun h3 => ?_)
  · replace hf := if_t hf h3
    refine lv_aload_n hx hb dX4_tellMix_28 rfl (lv_at hl 1 rfl) ?_
    refine lv_aload_n hx hb dX4_tellMix_29 rfl (lv_at hl 2 rfl) ?_
    refine lv_iload_n hx hb dX4_tellMix_30 rfl (lv_at hl 3 rfl) ?_
    obtain ⟨r4, c5, hf⟩ := bd_of hf
    have hPc := hP.sub (ws' := (k_X4_part T a_p1 a_p1_cellNames a_p1_secretNames a_p1_pageNames a_p1_speed a_p1_letters a_p1_room a_p1_now a_p1_rounds a_p1_now_order a_p1_now_knows a_p1_now_made a_p1_now_sixteenths a_p1_now_dots a_p1_now_used a_p1_now_stands v_p1_cells v_p1_secrets v_p1_pages v_p1_blind v_p1_rubs v_p1_now_inOrder v_p1_now_place v_p1_now_ill v_p1_now_shut v_p1_now_turns v_p1_now_madeInAll v_p1_now_sixteenths)) [1, 2, 3] rfl
    have hDc := (mp_D_of (w1 := (k_X4_tellMix T a_ a_holds a_lettersOf a_p1 a_p1_cellNames a_p1_secretNames a_p1_pageNames a_p1_speed a_p1_letters a_p1_room a_p1_now a_p1_rounds a_p1_now_order a_p1_now_knows a_p1_now_made a_p1_now_sixteenths a_p1_now_dots a_p1_now_used a_p1_now_stands v_above v_below v_p1_cells v_p1_secrets v_p1_pages v_p1_blind v_p1_rubs v_p1_now_inOrder v_p1_now_place v_p1_now_ill v_p1_now_shut v_p1_now_turns v_p1_now_madeInAll v_p1_now_sixteenths)) hD rfl).sub (ws' := (k_X4_part T a_p1 a_p1_cellNames a_p1_secretNames a_p1_pageNames a_p1_speed a_p1_letters a_p1_room a_p1_now a_p1_rounds a_p1_now_order a_p1_now_knows a_p1_now_made a_p1_now_sixteenths a_p1_now_dots a_p1_now_used a_p1_now_stands v_p1_cells v_p1_secrets v_p1_pages v_p1_blind v_p1_rubs v_p1_now_inOrder v_p1_now_place v_p1_now_ill v_p1_now_shut v_p1_now_turns v_p1_now_madeInAll v_p1_now_sixteenths)) [1, 2, 3] rfl rfl
    refine mp_calll (isC := [1, 2, 3]) (wc := (k_X4_part T a_p1 a_p1_cellNames a_p1_secretNames a_p1_pageNames a_p1_speed a_p1_letters a_p1_room a_p1_now a_p1_rounds a_p1_now_order a_p1_now_knows a_p1_now_made a_p1_now_sixteenths a_p1_now_dots a_p1_now_used a_p1_now_stands v_p1_cells v_p1_secrets v_p1_pages v_p1_blind v_p1_rubs v_p1_now_inOrder v_p1_now_place v_p1_now_ill v_p1_now_shut v_p1_now_turns v_p1_now_madeInAll v_p1_now_sixteenths)) (w1 := (k_X4_part T a_p1 a_p1_cellNames a_p1_secretNames a_p1_pageNames a_p1_speed a_p1_letters a_p1_room a_p1_now a_p1_rounds a_p1_now_order a_p1_now_knows a_p1_now_made a_p1_now_sixteenths a_p1_now_dots a_p1_now_used a_p1_now_stands v_p1_cells v_p1_secrets v_p1_pages v_p1_blind v_p1_rubs v_p1_now_inOrder v_p1_now_place v_p1_now_ill v_p1_now_shut v_p1_now_turns v_p1_now_madeInAll v_p1_now_sixteenths)) hP (mp_D_of hD rfl) hS hA rfl rfl (mp_runS (As := [.ref a_p1, .int x2]) (rest := [.ref a_]) X me_X4_part lk_X4_71 (c_X4_part l D T a_p1 a_p1_cellNames a_p1_secretNames a_p1_pageNames a_p1_speed a_p1_letters a_p1_room a_p1_now a_p1_rounds a_p1_now_order a_p1_now_knows a_p1_now_made a_p1_now_sixteenths a_p1_now_dots a_p1_now_used a_p1_now_stands x2 v_p1_cells v_p1_secrets v_p1_pages v_p1_blind v_p1_rubs v_p1_now_inOrder v_p1_now_place v_p1_now_ill v_p1_now_shut v_p1_now_turns v_p1_now_madeInAll v_p1_now_sixteenths r4 c5) rfl rfl ⟨(Nat.le_of_ble_eq_true rfl), (Nat.le_of_ble_eq_true rfl)⟩ hK hPc hDc rfl hl.1 rfl (Nat.le_of_ble_eq_true rfl) dX4_tellMix_31 ⟨Nat.zero_le _, Nat.zero_le _⟩) (fun H locs hP _ hS => ?_)
    replace hP : va_P D mp_cl (k_X4_tellMix T a_ a_holds a_lettersOf a_p1 a_p1_cellNames a_p1_secretNames a_p1_pageNames a_p1_speed a_p1_letters a_p1_room a_p1_now a_p1_rounds a_p1_now_order a_p1_now_knows a_p1_now_made a_p1_now_sixteenths a_p1_now_dots a_p1_now_used a_p1_now_stands v_above v_below v_p1_cells v_p1_secrets v_p1_pages v_p1_blind v_p1_rubs v_p1_now_inOrder v_p1_now_place v_p1_now_ill v_p1_now_shut v_p1_now_turns v_p1_now_madeInAll v_p1_now_sixteenths) H := hP
    refine lv_aload_n hx hb dX4_tellMix_34 rfl (lv_at hl 2 rfl) ?_
    obtain ⟨r6, c7, hf⟩ := bd_of hf
    have hPc := hP.sub (ws' := (k_X4_sumOfParts T a_p1 a_p1_cellNames a_p1_secretNames a_p1_pageNames a_p1_speed a_p1_letters a_p1_room a_p1_now a_p1_rounds a_p1_now_order a_p1_now_knows a_p1_now_made a_p1_now_sixteenths a_p1_now_dots a_p1_now_used a_p1_now_stands v_p1_cells v_p1_secrets v_p1_pages v_p1_blind v_p1_rubs v_p1_now_inOrder v_p1_now_place v_p1_now_ill v_p1_now_shut v_p1_now_turns v_p1_now_madeInAll v_p1_now_sixteenths)) [1, 2, 3] rfl
    have hDc := (mp_D_of (w1 := (k_X4_tellMix T a_ a_holds a_lettersOf a_p1 a_p1_cellNames a_p1_secretNames a_p1_pageNames a_p1_speed a_p1_letters a_p1_room a_p1_now a_p1_rounds a_p1_now_order a_p1_now_knows a_p1_now_made a_p1_now_sixteenths a_p1_now_dots a_p1_now_used a_p1_now_stands v_above v_below v_p1_cells v_p1_secrets v_p1_pages v_p1_blind v_p1_rubs v_p1_now_inOrder v_p1_now_place v_p1_now_ill v_p1_now_shut v_p1_now_turns v_p1_now_madeInAll v_p1_now_sixteenths)) hD rfl).sub (ws' := (k_X4_sumOfParts T a_p1 a_p1_cellNames a_p1_secretNames a_p1_pageNames a_p1_speed a_p1_letters a_p1_room a_p1_now a_p1_rounds a_p1_now_order a_p1_now_knows a_p1_now_made a_p1_now_sixteenths a_p1_now_dots a_p1_now_used a_p1_now_stands v_p1_cells v_p1_secrets v_p1_pages v_p1_blind v_p1_rubs v_p1_now_inOrder v_p1_now_place v_p1_now_ill v_p1_now_shut v_p1_now_turns v_p1_now_madeInAll v_p1_now_sixteenths)) [1, 2, 3] rfl rfl
    refine mp_calll (isC := [1, 2, 3]) (wc := (k_X4_sumOfParts T a_p1 a_p1_cellNames a_p1_secretNames a_p1_pageNames a_p1_speed a_p1_letters a_p1_room a_p1_now a_p1_rounds a_p1_now_order a_p1_now_knows a_p1_now_made a_p1_now_sixteenths a_p1_now_dots a_p1_now_used a_p1_now_stands v_p1_cells v_p1_secrets v_p1_pages v_p1_blind v_p1_rubs v_p1_now_inOrder v_p1_now_place v_p1_now_ill v_p1_now_shut v_p1_now_turns v_p1_now_madeInAll v_p1_now_sixteenths)) (w1 := (k_X4_sumOfParts T a_p1 a_p1_cellNames a_p1_secretNames a_p1_pageNames a_p1_speed a_p1_letters a_p1_room a_p1_now a_p1_rounds a_p1_now_order a_p1_now_knows a_p1_now_made a_p1_now_sixteenths a_p1_now_dots a_p1_now_used a_p1_now_stands v_p1_cells v_p1_secrets v_p1_pages v_p1_blind v_p1_rubs v_p1_now_inOrder v_p1_now_place v_p1_now_ill v_p1_now_shut v_p1_now_turns v_p1_now_madeInAll v_p1_now_sixteenths)) hP (mp_D_of hD rfl) hS hA rfl rfl (mp_runS (As := [.ref a_p1]) (rest := [.long r4, .ref a_]) X me_X4_sumOfParts lk_X4_65 (c_X4_sumOfParts l D T fu a_p1 a_p1_cellNames a_p1_secretNames a_p1_pageNames a_p1_speed a_p1_letters a_p1_room a_p1_now a_p1_rounds a_p1_now_order a_p1_now_knows a_p1_now_made a_p1_now_sixteenths a_p1_now_dots a_p1_now_used a_p1_now_stands v_p1_cells v_p1_secrets v_p1_blind v_p1_rubs v_p1_now_inOrder v_p1_now_place v_p1_now_ill v_p1_now_turns v_p1_now_madeInAll v_p1_pages v_p1_now_shut v_p1_now_sixteenths r6 c7) rfl rfl ⟨(Nat.le_of_ble_eq_true rfl), (Nat.le_of_ble_eq_true rfl)⟩ hK hPc hDc rfl hl.1 rfl (Nat.le_of_ble_eq_true rfl) dX4_tellMix_35 ⟨Nat.zero_le _, Nat.zero_le _⟩) (fun H locs hP _ hS => ?_)
    replace hP : va_P D mp_cl (k_X4_tellMix T a_ a_holds a_lettersOf a_p1 a_p1_cellNames a_p1_secretNames a_p1_pageNames a_p1_speed a_p1_letters a_p1_room a_p1_now a_p1_rounds a_p1_now_order a_p1_now_knows a_p1_now_made a_p1_now_sixteenths a_p1_now_dots a_p1_now_used a_p1_now_stands v_above v_below v_p1_cells v_p1_secrets v_p1_pages v_p1_blind v_p1_rubs v_p1_now_inOrder v_p1_now_place v_p1_now_ill v_p1_now_shut v_p1_now_turns v_p1_now_madeInAll v_p1_now_sixteenths) H := hP
    obtain ⟨⟨u8, u9⟩, c10, hf⟩ := bd_of hf
    dsimp only at hf
    have hPc := hP.sub (ws' := (k_X4_keep T a_ a_holds a_lettersOf v_above v_below)) [0] rfl
    have hDc := (mp_D_of (w1 := (k_X4_tellMix T a_ a_holds a_lettersOf a_p1 a_p1_cellNames a_p1_secretNames a_p1_pageNames a_p1_speed a_p1_letters a_p1_room a_p1_now a_p1_rounds a_p1_now_order a_p1_now_knows a_p1_now_made a_p1_now_sixteenths a_p1_now_dots a_p1_now_used a_p1_now_stands v_above v_below v_p1_cells v_p1_secrets v_p1_pages v_p1_blind v_p1_rubs v_p1_now_inOrder v_p1_now_place v_p1_now_ill v_p1_now_shut v_p1_now_turns v_p1_now_madeInAll v_p1_now_sixteenths)) hD rfl).sub (ws' := (k_X4_keep T a_ a_holds a_lettersOf v_above v_below)) [0] rfl rfl
    refine mp_callv (isC := [0]) (wc := (k_X4_keep T a_ a_holds a_lettersOf v_above v_below)) (w1 := (k_X4_keep T a_ a_holds a_lettersOf u8 u9)) hP (mp_D_of hD rfl) hS hA rfl rfl (mp_runV (As := [.long r4, .long r6]) (rest := []) X me_X4_keep lk_X4_57 (c_X4_keep l D T fu a_ a_holds a_lettersOf r4 r6 v_above v_below u8 u9 c10) rfl rfl ⟨(Nat.le_of_ble_eq_true rfl), (Nat.le_of_ble_eq_true rfl)⟩ hK hPc hDc rfl rfl rfl rfl hl.1 rfl (Nat.le_of_ble_eq_true rfl) dX4_tellMix_38 ⟨Nat.zero_le _, Nat.zero_le _⟩) (fun H locs hP _ hS => ?_)
    replace hP : va_P D mp_cl (k_X4_tellMix T a_ a_holds a_lettersOf a_p1 a_p1_cellNames a_p1_secretNames a_p1_pageNames a_p1_speed a_p1_letters a_p1_room a_p1_now a_p1_rounds a_p1_now_order a_p1_now_knows a_p1_now_made a_p1_now_sixteenths a_p1_now_dots a_p1_now_used a_p1_now_stands u8 u9 v_p1_cells v_p1_secrets v_p1_pages v_p1_blind v_p1_rubs v_p1_now_inOrder v_p1_now_place v_p1_now_ill v_p1_now_shut v_p1_now_turns v_p1_now_madeInAll v_p1_now_sixteenths) H := hP
    cases hf
    exact mp_retv X hP hS dX4_tellMix_41
  · replace hf := if_f hf h3
    refine lv_aload_n hx hb dX4_tellMix_10 rfl (lv_at hl 1 rfl) ?_
    refine lv_iload_n hx hb dX4_tellMix_11 rfl (lv_at hl 3 rfl) ?_
    refine lv_iload_n hx hb dX4_tellMix_12 rfl (lv_at hl 0 rfl) ?_
    refine lv_icmp_ne (tgt := 20) hx hb dX4_tellMix_13 (by decide) (fun h11 => ?_) (fun h11 => ?_)
    · replace hf := if_f hf h11
      refine lv_lconst (v := (lN 0)) hx hb dX4_tellMix_20 (by decide) ?_
      refine lv_lconst (v := (lN 1)) hx hb dX4_tellMix_21 (by decide) ?_
      obtain ⟨⟨u12, u13⟩, c14, hf⟩ := bd_of hf
      dsimp only at hf
      have hPc := hP.sub (ws' := (k_X4_keep T a_ a_holds a_lettersOf v_above v_below)) [0] rfl
      have hDc := (mp_D_of (w1 := (k_X4_tellMix T a_ a_holds a_lettersOf a_p1 a_p1_cellNames a_p1_secretNames a_p1_pageNames a_p1_speed a_p1_letters a_p1_room a_p1_now a_p1_rounds a_p1_now_order a_p1_now_knows a_p1_now_made a_p1_now_sixteenths a_p1_now_dots a_p1_now_used a_p1_now_stands v_above v_below v_p1_cells v_p1_secrets v_p1_pages v_p1_blind v_p1_rubs v_p1_now_inOrder v_p1_now_place v_p1_now_ill v_p1_now_shut v_p1_now_turns v_p1_now_madeInAll v_p1_now_sixteenths)) hD rfl).sub (ws' := (k_X4_keep T a_ a_holds a_lettersOf v_above v_below)) [0] rfl rfl
      refine mp_callv (isC := [0]) (wc := (k_X4_keep T a_ a_holds a_lettersOf v_above v_below)) (w1 := (k_X4_keep T a_ a_holds a_lettersOf u12 u13)) hP (mp_D_of hD rfl) hS hA rfl rfl (mp_runV (As := [.long (lN 0), .long (lN 1)]) (rest := []) X me_X4_keep lk_X4_57 (c_X4_keep l D T fu a_ a_holds a_lettersOf (lN 0) (lN 1) v_above v_below u12 u13 c14) rfl rfl ⟨(Nat.le_of_ble_eq_true rfl), (Nat.le_of_ble_eq_true rfl)⟩ hK hPc hDc rfl rfl rfl rfl hl.1 rfl (Nat.le_of_ble_eq_true rfl) dX4_tellMix_22 ⟨Nat.zero_le _, Nat.zero_le _⟩) (fun H locs hP _ hS => ?_)
      replace hP : va_P D mp_cl (k_X4_tellMix T a_ a_holds a_lettersOf a_p1 a_p1_cellNames a_p1_secretNames a_p1_pageNames a_p1_speed a_p1_letters a_p1_room a_p1_now a_p1_rounds a_p1_now_order a_p1_now_knows a_p1_now_made a_p1_now_sixteenths a_p1_now_dots a_p1_now_used a_p1_now_stands u12 u13 v_p1_cells v_p1_secrets v_p1_pages v_p1_blind v_p1_rubs v_p1_now_inOrder v_p1_now_place v_p1_now_ill v_p1_now_shut v_p1_now_turns v_p1_now_madeInAll v_p1_now_sixteenths) H := hP
      refine lv_goto (tgt := 41) hx hb dX4_tellMix_25 (by decide) ?_
      cases hf
      exact mp_retv X hP hS dX4_tellMix_41
    · replace hf := if_t hf h11
      refine lv_lconst (v := (lN 1)) hx hb dX4_tellMix_16 (by decide) ?_
      refine lv_goto (tgt := 21) hx hb dX4_tellMix_17 (by decide) ?_
      refine lv_lconst (v := (lN 1)) hx hb dX4_tellMix_21 (by decide) ?_
      obtain ⟨⟨u15, u16⟩, c17, hf⟩ := bd_of hf
      dsimp only at hf
      have hPc := hP.sub (ws' := (k_X4_keep T a_ a_holds a_lettersOf v_above v_below)) [0] rfl
      have hDc := (mp_D_of (w1 := (k_X4_tellMix T a_ a_holds a_lettersOf a_p1 a_p1_cellNames a_p1_secretNames a_p1_pageNames a_p1_speed a_p1_letters a_p1_room a_p1_now a_p1_rounds a_p1_now_order a_p1_now_knows a_p1_now_made a_p1_now_sixteenths a_p1_now_dots a_p1_now_used a_p1_now_stands v_above v_below v_p1_cells v_p1_secrets v_p1_pages v_p1_blind v_p1_rubs v_p1_now_inOrder v_p1_now_place v_p1_now_ill v_p1_now_shut v_p1_now_turns v_p1_now_madeInAll v_p1_now_sixteenths)) hD rfl).sub (ws' := (k_X4_keep T a_ a_holds a_lettersOf v_above v_below)) [0] rfl rfl
      refine mp_callv (isC := [0]) (wc := (k_X4_keep T a_ a_holds a_lettersOf v_above v_below)) (w1 := (k_X4_keep T a_ a_holds a_lettersOf u15 u16)) hP (mp_D_of hD rfl) hS hA rfl rfl (mp_runV (As := [.long (lN 1), .long (lN 1)]) (rest := []) X me_X4_keep lk_X4_57 (c_X4_keep l D T fu a_ a_holds a_lettersOf (lN 1) (lN 1) v_above v_below u15 u16 c17) rfl rfl ⟨(Nat.le_of_ble_eq_true rfl), (Nat.le_of_ble_eq_true rfl)⟩ hK hPc hDc rfl rfl rfl rfl hl.1 rfl (Nat.le_of_ble_eq_true rfl) dX4_tellMix_22 ⟨Nat.zero_le _, Nat.zero_le _⟩) (fun H locs hP _ hS => ?_)
      replace hP : va_P D mp_cl (k_X4_tellMix T a_ a_holds a_lettersOf a_p1 a_p1_cellNames a_p1_secretNames a_p1_pageNames a_p1_speed a_p1_letters a_p1_room a_p1_now a_p1_rounds a_p1_now_order a_p1_now_knows a_p1_now_made a_p1_now_sixteenths a_p1_now_dots a_p1_now_used a_p1_now_stands u15 u16 v_p1_cells v_p1_secrets v_p1_pages v_p1_blind v_p1_rubs v_p1_now_inOrder v_p1_now_place v_p1_now_ill v_p1_now_shut v_p1_now_turns v_p1_now_madeInAll v_p1_now_sixteenths) H := hP
      refine lv_goto (tgt := 41) hx hb dX4_tellMix_25 (by decide) ?_
      cases hf
      exact mp_retv X hP hS dX4_tellMix_41


def k_X4_sumLetters (T : Nat → ClassId) (a_ a_holds a_lettersOf a_p1 a_p1_cellNames a_p1_secretNames a_p1_pageNames a_p1_speed a_p1_letters a_p1_room a_p1_now a_p1_rounds : Nat) (v_above : Int64) (v_below : Int64) (v_lettersOf : (Nat → Int32)) (v_p1_cells : Int32) (v_p1_secrets : Int32) (v_p1_pages : Int32) (v_p1_blind : Int32) (v_p1_rubs : Int32) (v_p1_letters : (Nat → Int32)) : va_W := [(a_, oX4 v_above v_below a_holds a_lettersOf), (a_lettersOf, mp_aI T 64 v_lettersOf), (a_p1, oX1 v_p1_cells v_p1_secrets v_p1_pages a_p1_cellNames a_p1_secretNames a_p1_pageNames a_p1_speed v_p1_blind v_p1_rubs a_p1_letters a_p1_room a_p1_now a_p1_rounds), (a_p1_letters, mp_aI T 6 v_p1_letters)]
set_option maxHeartbeats 4000000 in
set_option maxRecDepth 100000 in
theorem w_X4_sumLetters_13 {p : Program} {l : Launch} {e : Env} {s : State} {m : MethodId} {args : Array Value} {below : List Frame} {meth : Method} {c : Code} {D : va_G} {T : Nat → ClassId} {A : Nat → Prop} (X : mp_X p s m meth c args RX4 "sumLetters" cX4_sumLetters 5 none) (hK : va_K D mp_cl (mp_ty T) s) (hA : ∀ q, s.heap.size ≤ q → A q) (fu : Nat) (a_ a_holds a_lettersOf a_p1 a_p1_cellNames a_p1_secretNames a_p1_pageNames a_p1_speed a_p1_letters a_p1_room a_p1_now a_p1_rounds : Nat) (v_above : Int64) (v_below : Int64) (v_p1_cells : Int32) (v_p1_pages : Int32) (v_p1_blind : Int32) (v_p1_rubs : Int32) (v_p1_secrets : Int32) (v_p1_letters : (Nat → Int32)) (o_lettersOf : (Nat → Int32)) (K2 : Int32 → (Nat → Int32) → Option ((Nat → Int32))) (hK2 : ∀ (z2 : Int32) (v_lettersOf : (Nat → Int32)), K2 z2 v_lettersOf = some o_lettersOf → ∀ (H : Heap) (locs : List Loc) (ls : Array Slot), va_P D mp_cl (k_X4_sumLetters T a_ a_holds a_lettersOf a_p1 a_p1_cellNames a_p1_secretNames a_p1_pageNames a_p1_speed a_p1_letters a_p1_room a_p1_now a_p1_rounds v_above v_below v_lettersOf v_p1_cells v_p1_secrets v_p1_pages v_p1_blind v_p1_rubs v_p1_letters) H → va_D A (k_X4_sumLetters T a_ a_holds a_lettersOf a_p1 a_p1_cellNames a_p1_secretNames a_p1_pageNames a_p1_speed a_p1_letters a_p1_room a_p1_now a_p1_rounds v_above v_below v_lettersOf v_p1_cells v_p1_secrets v_p1_pages v_p1_blind v_p1_rubs v_p1_letters) → va_S A s.heap H locs → lv_has ls 5 [(0, .ref a_), (1, .ref a_p1), (2, .int z2)] → W p l e ({ frames := 1, cells := 0, slots := 0, locals := 21 }) s m args below meth c H locs 0 0 (MQ below ((mp_Qv D (k_X4_sumLetters T a_ a_holds a_lettersOf a_p1 a_p1_cellNames a_p1_secretNames a_p1_pageNames a_p1_speed a_p1_letters a_p1_room a_p1_now a_p1_rounds v_above v_below o_lettersOf v_p1_cells v_p1_secrets v_p1_pages v_p1_blind v_p1_rubs v_p1_letters)) A) args s 0 0 A) (F0 m 2 ls [])) :
    ∀ (n : Nat) (z2 : Int32) (z3 : Int32) (z4 : Int32) (v_lettersOf : (Nat → Int32)), f_X4_sumLetters_13 fu v_p1_secrets v_p1_letters K2 n z2 z3 z4 v_lettersOf = some o_lettersOf → ∀ (H : Heap) (locs : List Loc) (ls : Array Slot), va_P D mp_cl (k_X4_sumLetters T a_ a_holds a_lettersOf a_p1 a_p1_cellNames a_p1_secretNames a_p1_pageNames a_p1_speed a_p1_letters a_p1_room a_p1_now a_p1_rounds v_above v_below v_lettersOf v_p1_cells v_p1_secrets v_p1_pages v_p1_blind v_p1_rubs v_p1_letters) H → va_D A (k_X4_sumLetters T a_ a_holds a_lettersOf a_p1 a_p1_cellNames a_p1_secretNames a_p1_pageNames a_p1_speed a_p1_letters a_p1_room a_p1_now a_p1_rounds v_above v_below v_lettersOf v_p1_cells v_p1_secrets v_p1_pages v_p1_blind v_p1_rubs v_p1_letters) → va_S A s.heap H locs → lv_has ls 5 [(0, .ref a_), (1, .ref a_p1), (2, .int z2), (3, .int z3), (4, .int z4)] → W p l e ({ frames := 1, cells := 0, slots := 0, locals := 21 }) s m args below meth c H locs 0 0 (MQ below ((mp_Qv D (k_X4_sumLetters T a_ a_holds a_lettersOf a_p1 a_p1_cellNames a_p1_secretNames a_p1_pageNames a_p1_speed a_p1_letters a_p1_room a_p1_now a_p1_rounds v_above v_below o_lettersOf v_p1_cells v_p1_secrets v_p1_pages v_p1_blind v_p1_rubs v_p1_letters)) A) args s 0 0 A) (F0 m 13 ls []) := by
  have hx := X.1
  have hb := X.2.1
  have hml := X.2.2.1
  have hown := X.2.2.2.2.1
  have hts := X.2.2.2.2.2.1
  intro n
  induction n with
  | zero => intro z2 z3 z4 v_lettersOf hf; exact absurd hf (by intro h; cases h)
  | succ n ih =>
    intro z2 z3 z4 v_lettersOf hf H locs ls hP hD hS hl
    replace hf : (if v_p1_secrets ≤ z4 then gi_ z2 64 (lt_ (z2 + (nI 1)) (fun (y3 : Int32) => K2 y3 (upd v_lettersOf (z2).toNatClampNeg z3))) else bd_ (f_X7_has z2 z4) (fun (r4 : Int32) => (if r4 = 0 then lt_ (z3 + (nI 0)) (fun (y7 : Int32) => lt_ (z4 + (nI 1)) (fun (y8 : Int32) => f_X4_sumLetters_13 fu v_p1_secrets v_p1_letters K2 n z2 y7 y8 v_lettersOf)) else gi_ z4 6 (lt_ (z3 + (v_p1_letters (z4).toNatClampNeg)) (fun (y10 : Int32) => lt_ (z4 + (nI 1)) (fun (y11 : Int32) => f_X4_sumLetters_13 fu v_p1_secrets v_p1_letters K2 n z2 y10 y11 v_lettersOf)))))) = some o_lettersOf := hf
    refine lv_iload hx hb dX4_sumLetters_13 (lv_at hl 4 rfl) ?_
    refine lv_aload_n hx hb dX4_sumLetters_15 rfl (lv_at hl 1 rfl) ?_
    refine mp_get X fl_X4_93 hK hP 2 rfl rfl dX4_sumLetters_16 ?_
    refine lv_icmp_ge (tgt := 51) hx hb dX4_sumLetters_19 (by decide) (fun h1 => ?_) (fun h1 => ?_)
    · replace hf := if_t hf h1
      refine lv_aload_n hx hb dX4_sumLetters_51 rfl (lv_at hl 0 rfl) ?_
      refine mp_get X fl_X4_22 hK hP 0 rfl rfl dX4_sumLetters_52 ?_
      refine lv_iload_n hx hb dX4_sumLetters_55 rfl (lv_at hl 2 rfl) ?_
      refine lv_iload_n hx hb dX4_sumLetters_56 rfl (lv_at hl 3 rfl) ?_
      obtain ⟨h2, hf⟩ := gi_of hf
      refine va_iast hx hb hK hP (mp_D_of hD rfl) hS 1 0 rfl rfl h2 dX4_sumLetters_57 (fun H locs hP _ hS => ?_)
      replace hP : va_P D mp_cl (k_X4_sumLetters T a_ a_holds a_lettersOf a_p1 a_p1_cellNames a_p1_secretNames a_p1_pageNames a_p1_speed a_p1_letters a_p1_room a_p1_now a_p1_rounds v_above v_below (upd v_lettersOf (z2).toNatClampNeg z3) v_p1_cells v_p1_secrets v_p1_pages v_p1_blind v_p1_rubs v_p1_letters) H := hP
      obtain ⟨y3, e3⟩ : ∃ y : Int32, y = z2 + (nI 1) := ⟨_, rfl⟩
      replace hf := lt_of e3 hf
      refine lv_iinc (v := y3) (lv' := [(2, .int y3), (0, .ref a_), (1, .ref a_p1), (3, .int z3), (4, .int z4)]) hx hb dX4_sumLetters_58 hl (k := 2) rfl (by rw [e3]; rfl) (by decide) rfl (fun ls hl => ?_)
      refine lv_goto (tgt := 2) hx hb dX4_sumLetters_61 (by decide) ?_
      exact hK2 y3 (upd v_lettersOf (z2).toNatClampNeg z3) hf _ _ _ hP (mp_D_of hD rfl) hS (lv_sub hl [1, 2, 0] rfl)
    · replace hf := if_f hf h1
      refine lv_iload_n hx hb dX4_sumLetters_22 rfl (lv_at hl 3 rfl) ?_
      refine lv_iload_n hx hb dX4_sumLetters_23 rfl (lv_at hl 2 rfl) ?_
      refine lv_iload hx hb dX4_sumLetters_24 (lv_at hl 4 rfl) ?_
      obtain ⟨r4, c5, hf⟩ := bd_of hf
      have hPc := hP.sub (ws' := (k_X7_has T )) [] rfl
      have hDc := (mp_D_of (w1 := (k_X4_sumLetters T a_ a_holds a_lettersOf a_p1 a_p1_cellNames a_p1_secretNames a_p1_pageNames a_p1_speed a_p1_letters a_p1_room a_p1_now a_p1_rounds v_above v_below v_lettersOf v_p1_cells v_p1_secrets v_p1_pages v_p1_blind v_p1_rubs v_p1_letters)) hD rfl).sub (ws' := (k_X7_has T )) [] rfl rfl
      refine mp_calli (isC := []) (wc := (k_X7_has T )) (w1 := (k_X7_has T )) hP (mp_D_of hD rfl) hS hA rfl rfl (mp_runS (As := [.int z2, .int z4]) (rest := [.int z3]) X me_X7_has lk_X4_45 (c_X7_has l D T z2 z4 r4 c5) rfl rfl ⟨(Nat.le_of_ble_eq_true rfl), (Nat.le_of_ble_eq_true rfl)⟩ hK hPc hDc rfl hl.1 rfl (Nat.le_of_ble_eq_true rfl) dX4_sumLetters_26 ⟨Nat.zero_le _, Nat.zero_le _⟩) (fun H locs hP _ hS => ?_)
      replace hP : va_P D mp_cl (k_X4_sumLetters T a_ a_holds a_lettersOf a_p1 a_p1_cellNames a_p1_secretNames a_p1_pageNames a_p1_speed a_p1_letters a_p1_room a_p1_now a_p1_rounds v_above v_below v_lettersOf v_p1_cells v_p1_secrets v_p1_pages v_p1_blind v_p1_rubs v_p1_letters) H := hP
      refine lv_if_eq (tgt := 42) hx hb dX4_sumLetters_29 (by decide) (fun h6 => ?_) (fun h6 => ?_)
      · replace hf := if_t hf h6
        refine lv_iconst (v := (nI 0)) hx hb dX4_sumLetters_42 (by decide) ?_
        refine lv_iadd hx hb dX4_sumLetters_43 ?_
        refine lv_topi (fun y7 e7 => ?_)
        replace hf := lt_of e7 hf
        refine lv_istore_n (lv' := [(3, .int y7), (0, .ref a_), (1, .ref a_p1), (2, .int z2), (4, .int z4)]) hx hb dX4_sumLetters_44 rfl hl (by decide) rfl (fun ls hl => ?_)
        obtain ⟨y8, e8⟩ : ∃ y : Int32, y = z4 + (nI 1) := ⟨_, rfl⟩
        replace hf := lt_of e8 hf
        refine lv_iinc (v := y8) (lv' := [(4, .int y8), (3, .int y7), (0, .ref a_), (1, .ref a_p1), (2, .int z2)]) hx hb dX4_sumLetters_45 hl (k := 4) rfl (by rw [e8]; rfl) (by decide) rfl (fun ls hl => ?_)
        refine lv_goto (tgt := 13) hx hb dX4_sumLetters_48 (by decide) ?_
        exact ih z2 y7 y8 v_lettersOf hf _ _ _ hP (mp_D_of hD rfl) hS (lv_sub hl [2, 3, 4, 1, 0] rfl)
      · replace hf := if_f hf h6
        refine lv_aload_n hx hb dX4_sumLetters_32 rfl (lv_at hl 1 rfl) ?_
        refine mp_get X fl_X4_96 hK hP 2 rfl rfl dX4_sumLetters_33 ?_
        refine lv_iload hx hb dX4_sumLetters_36 (lv_at hl 4 rfl) ?_
        obtain ⟨h9, hf⟩ := gi_of hf
        refine va_iald hx hb hK hP 3 0 rfl rfl h9 dX4_sumLetters_38 ?_
        refine lv_goto (tgt := 43) hx hb dX4_sumLetters_39 (by decide) ?_
        refine lv_iadd hx hb dX4_sumLetters_43 ?_
        refine lv_topi (fun y10 e10 => ?_)
        replace hf := lt_of e10 hf
        refine lv_istore_n (lv' := [(3, .int y10), (0, .ref a_), (1, .ref a_p1), (2, .int z2), (4, .int z4)]) hx hb dX4_sumLetters_44 rfl hl (by decide) rfl (fun ls hl => ?_)
        obtain ⟨y11, e11⟩ : ∃ y : Int32, y = z4 + (nI 1) := ⟨_, rfl⟩
        replace hf := lt_of e11 hf
        refine lv_iinc (v := y11) (lv' := [(4, .int y11), (3, .int y10), (0, .ref a_), (1, .ref a_p1), (2, .int z2)]) hx hb dX4_sumLetters_45 hl (k := 4) rfl (by rw [e11]; rfl) (by decide) rfl (fun ls hl => ?_)
        refine lv_goto (tgt := 13) hx hb dX4_sumLetters_48 (by decide) ?_
        exact ih z2 y10 y11 v_lettersOf hf _ _ _ hP (mp_D_of hD rfl) hS (lv_sub hl [2, 3, 4, 1, 0] rfl)

set_option maxHeartbeats 4000000 in
set_option maxRecDepth 100000 in
theorem w_X4_sumLetters_2 {p : Program} {l : Launch} {e : Env} {s : State} {m : MethodId} {args : Array Value} {below : List Frame} {meth : Method} {c : Code} {D : va_G} {T : Nat → ClassId} {A : Nat → Prop} (X : mp_X p s m meth c args RX4 "sumLetters" cX4_sumLetters 5 none) (hK : va_K D mp_cl (mp_ty T) s) (hA : ∀ q, s.heap.size ≤ q → A q) (fu : Nat) (a_ a_holds a_lettersOf a_p1 a_p1_cellNames a_p1_secretNames a_p1_pageNames a_p1_speed a_p1_letters a_p1_room a_p1_now a_p1_rounds : Nat) (v_above : Int64) (v_below : Int64) (v_p1_cells : Int32) (v_p1_pages : Int32) (v_p1_blind : Int32) (v_p1_rubs : Int32) (v_p1_secrets : Int32) (v_p1_letters : (Nat → Int32)) (o_lettersOf : (Nat → Int32)) :
    ∀ (n : Nat) (z2 : Int32) (v_lettersOf : (Nat → Int32)), f_X4_sumLetters_2 fu v_p1_secrets v_p1_letters  n z2 v_lettersOf = some o_lettersOf → ∀ (H : Heap) (locs : List Loc) (ls : Array Slot), va_P D mp_cl (k_X4_sumLetters T a_ a_holds a_lettersOf a_p1 a_p1_cellNames a_p1_secretNames a_p1_pageNames a_p1_speed a_p1_letters a_p1_room a_p1_now a_p1_rounds v_above v_below v_lettersOf v_p1_cells v_p1_secrets v_p1_pages v_p1_blind v_p1_rubs v_p1_letters) H → va_D A (k_X4_sumLetters T a_ a_holds a_lettersOf a_p1 a_p1_cellNames a_p1_secretNames a_p1_pageNames a_p1_speed a_p1_letters a_p1_room a_p1_now a_p1_rounds v_above v_below v_lettersOf v_p1_cells v_p1_secrets v_p1_pages v_p1_blind v_p1_rubs v_p1_letters) → va_S A s.heap H locs → lv_has ls 5 [(0, .ref a_), (1, .ref a_p1), (2, .int z2)] → W p l e ({ frames := 1, cells := 0, slots := 0, locals := 21 }) s m args below meth c H locs 0 0 (MQ below ((mp_Qv D (k_X4_sumLetters T a_ a_holds a_lettersOf a_p1 a_p1_cellNames a_p1_secretNames a_p1_pageNames a_p1_speed a_p1_letters a_p1_room a_p1_now a_p1_rounds v_above v_below o_lettersOf v_p1_cells v_p1_secrets v_p1_pages v_p1_blind v_p1_rubs v_p1_letters)) A) args s 0 0 A) (F0 m 2 ls []) := by
  have hx := X.1
  have hb := X.2.1
  have hml := X.2.2.1
  have hown := X.2.2.2.2.1
  have hts := X.2.2.2.2.2.1
  intro n
  induction n with
  | zero => intro z2 v_lettersOf hf; exact absurd hf (by intro h; cases h)
  | succ n ih =>
    intro z2 v_lettersOf hf H locs ls hP hD hS hl
    replace hf : (if (nI 64) ≤ z2 then some (v_lettersOf) else f_X4_sumLetters_13 fu v_p1_secrets v_p1_letters (f_X4_sumLetters_2 fu v_p1_secrets v_p1_letters  n) fu z2 (nI 0) (nI 0) v_lettersOf) = some o_lettersOf := hf
    refine lv_iload_n hx hb dX4_sumLetters_2 rfl (lv_at hl 2 rfl) ?_
    refine lv_bipush (v := (nI 64)) hx hb dX4_sumLetters_3 (by decide) ?_
    refine lv_icmp_ge (tgt := 64) hx hb dX4_sumLetters_5 (by decide) (fun h1 => ?_) (fun h1 => ?_)
    · replace hf := if_t hf h1
      cases hf
      exact mp_retv X hP hS dX4_sumLetters_64
    · replace hf := if_f hf h1
      refine lv_iconst (v := (nI 0)) hx hb dX4_sumLetters_8 (by decide) ?_
      refine lv_istore_n (lv' := [(3, .int (nI 0)), (0, .ref a_), (1, .ref a_p1), (2, .int z2)]) hx hb dX4_sumLetters_9 rfl hl (by decide) rfl (fun ls hl => ?_)
      refine lv_iconst (v := (nI 0)) hx hb dX4_sumLetters_10 (by decide) ?_
      refine lv_istore (lv' := [(4, .int (nI 0)), (3, .int (nI 0)), (0, .ref a_), (1, .ref a_p1), (2, .int z2)]) hx hb dX4_sumLetters_11 hl (by decide) rfl (fun ls hl => ?_)
      exact w_X4_sumLetters_13 X hK hA  fu a_ a_holds a_lettersOf a_p1 a_p1_cellNames a_p1_secretNames a_p1_pageNames a_p1_speed a_p1_letters a_p1_room a_p1_now a_p1_rounds v_above v_below v_p1_cells v_p1_pages v_p1_blind v_p1_rubs v_p1_secrets v_p1_letters o_lettersOf  (f_X4_sumLetters_2 fu v_p1_secrets v_p1_letters  n) (ih) fu z2 (nI 0) (nI 0) v_lettersOf hf _ _ _ hP (mp_D_of hD rfl) hS (lv_sub hl [2, 3, 4, 1, 0] rfl)

set_option maxHeartbeats 4000000 in
set_option maxRecDepth 100000 in
theorem c_X4_sumLetters (l : Launch) (D : va_G) (T : Nat → ClassId) (fu : Nat) (a_ a_holds a_lettersOf a_p1 a_p1_cellNames a_p1_secretNames a_p1_pageNames a_p1_speed a_p1_letters a_p1_room a_p1_now a_p1_rounds : Nat) (v_above : Int64) (v_below : Int64) (v_p1_cells : Int32) (v_p1_pages : Int32) (v_p1_blind : Int32) (v_p1_rubs : Int32) (v_lettersOf : (Nat → Int32)) (v_p1_secrets : Int32) (v_p1_letters : (Nat → Int32)) (o_lettersOf : (Nat → Int32)) (hf : f_X4_sumLetters fu v_lettersOf v_p1_secrets v_p1_letters = some o_lettersOf) :
    mp_M l D T yX4_sumLetters cX4_sumLetters 5 none ({ frames := 1, cells := 0, slots := 0, locals := 21 }) 0 0 [.ref a_, .ref a_p1] (k_X4_sumLetters T a_ a_holds a_lettersOf a_p1 a_p1_cellNames a_p1_secretNames a_p1_pageNames a_p1_speed a_p1_letters a_p1_room a_p1_now a_p1_rounds v_above v_below v_lettersOf v_p1_cells v_p1_secrets v_p1_pages v_p1_blind v_p1_rubs v_p1_letters) (mp_Qv D (k_X4_sumLetters T a_ a_holds a_lettersOf a_p1 a_p1_cellNames a_p1_secretNames a_p1_pageNames a_p1_speed a_p1_letters a_p1_room a_p1_now a_p1_rounds v_above v_below o_lettersOf v_p1_cells v_p1_secrets v_p1_pages v_p1_blind v_p1_rubs v_p1_letters)) := by
  refine mp_of (by decide) (Nat.le_of_ble_eq_true rfl) rfl ?_
  intro p e s m args below meth c A ls X hK hP hD hS hA hl
  replace X : mp_X p s m meth c args RX4 "sumLetters" cX4_sumLetters 5 none := X
  have hx := X.1
  have hb := X.2.1
  have hml := X.2.2.1
  have hown := X.2.2.2.2.1
  have hts := X.2.2.2.2.2.1
  replace hl : lv_has ls 5 [(0, .ref a_), (1, .ref a_p1)] := hl
  replace hf : f_X4_sumLetters_2 fu v_p1_secrets v_p1_letters  fu (nI 0) v_lettersOf = some o_lettersOf := hf
  refine lv_iconst (v := (nI 0)) hx hb dX4_sumLetters_0 (by decide) ?_
  refine lv_istore_n (lv' := [(2, .int (nI 0)), (0, .ref a_), (1, .ref a_p1)]) hx hb dX4_sumLetters_1 rfl hl (by decide) rfl (fun ls hl => ?_)
  exact w_X4_sumLetters_2 X hK hA  fu a_ a_holds a_lettersOf a_p1 a_p1_cellNames a_p1_secretNames a_p1_pageNames a_p1_speed a_p1_letters a_p1_room a_p1_now a_p1_rounds v_above v_below v_p1_cells v_p1_pages v_p1_blind v_p1_rubs v_p1_secrets v_p1_letters o_lettersOf   fu (nI 0) v_lettersOf hf _ _ _ hP (mp_D_of hD rfl) hS (lv_sub hl [1, 2, 0] rfl)


def k_X4_joined (T : Nat → ClassId) : va_W := []
set_option maxHeartbeats 4000000 in
set_option maxRecDepth 100000 in
theorem w_X4_joined_6 {p : Program} {l : Launch} {e : Env} {s : State} {m : MethodId} {args : Array Value} {below : List Frame} {meth : Method} {c : Code} {D : va_G} {T : Nat → ClassId} {A : Nat → Prop} (X : mp_X p s m meth c args RX4 "joined" cX4_joined 7 (some .long)) (hK : va_K D mp_cl (mp_ty T) s) (hA : ∀ q, s.heap.size ≤ q → A q) (fu : Nat) (r_ : Int64) :
    ∀ (n : Nat) (z0 : Int64) (z2 : Int32) (z3 : Int32) (z4 : Int64) (z6 : Int32), f_X4_joined_6 fu   n z0 z2 z3 z4 z6 = some r_ → ∀ (H : Heap) (locs : List Loc) (ls : Array Slot), va_P D mp_cl (k_X4_joined T ) H → va_D A (k_X4_joined T ) → va_S A s.heap H locs → lv_has ls 7 [(0, .long z0), (2, .int z2), (3, .int z3), (4, .long z4), (6, .int z6)] → W p l e ({ frames := 0, cells := 0, slots := 0, locals := 0 }) s m args below meth c H locs 0 0 (MQ below ((mp_Ql D r_ (k_X4_joined T )) A) args s 0 0 A) (F0 m 6 ls []) := by
  have hx := X.1
  have hb := X.2.1
  have hml := X.2.2.1
  have hown := X.2.2.2.2.1
  have hts := X.2.2.2.2.2.1
  intro n
  induction n with
  | zero => intro z0 z2 z3 z4 z6 hf; exact absurd hf (by intro h; cases h)
  | succ n ih =>
    intro z0 z2 z3 z4 z6 hf H locs ls hP hD hS hl
    replace hf : (if z3 < z6 then some (z4) else (if (z6 &&& z2) = 0 then (if (lg_cmp ((((z0).toUInt64 >>> ((z6).toInt64.toUInt64 &&& Int64.toUInt64 63)).toInt64) &&& (lN 1)) (lN 0)) = 0 then lt_ (z6 + (nI 1)) (fun (y5 : Int32) => f_X4_joined_6 fu   n z0 z2 z3 z4 y5) else lt_ (z4 ||| ((lN 1) <<< (((z6 ||| z2)).toInt64 &&& (63 : Int64)))) (fun (y6 : Int64) => lt_ (z6 + (nI 1)) (fun (y7 : Int32) => f_X4_joined_6 fu   n z0 z2 z3 y6 y7))) else lt_ (z6 + (nI 1)) (fun (y3 : Int32) => f_X4_joined_6 fu   n z0 z2 z3 z4 y3))) = some r_ := hf
    refine lv_iload hx hb dX4_joined_6 (lv_at hl 4 rfl) ?_
    refine lv_iload_n hx hb dX4_joined_8 rfl (lv_at hl 2 rfl) ?_
    refine lv_icmp_gt (tgt := 47) hx hb dX4_joined_9 (by decide) (fun h1 => ?_) (fun h1 => ?_)
    · replace hf := if_t hf h1
      refine lv_lload hx hb dX4_joined_47 (lv_at hl 3 rfl) ?_
      cases hf
      exact mp_retl X hP hS rfl dX4_joined_49
    · replace hf := if_f hf h1
      refine lv_iload hx hb dX4_joined_12 (lv_at hl 4 rfl) ?_
      refine lv_iload_n hx hb dX4_joined_14 rfl (lv_at hl 1 rfl) ?_
      refine lv_iand hx hb dX4_joined_15 ?_
      refine lv_if_ne (tgt := 41) hx hb dX4_joined_16 (by decide) (fun h2 => ?_) (fun h2 => ?_)
      · replace hf := if_f hf h2
        obtain ⟨y3, e3⟩ : ∃ y : Int32, y = z6 + (nI 1) := ⟨_, rfl⟩
        replace hf := lt_of e3 hf
        refine lv_iinc (v := y3) (lv' := [(6, .int y3), (0, .long z0), (2, .int z2), (3, .int z3), (4, .long z4)]) hx hb dX4_joined_41 hl (k := 4) rfl (by rw [e3]; rfl) (by decide) rfl (fun ls hl => ?_)
        refine lv_goto (tgt := 6) hx hb dX4_joined_44 (by decide) ?_
        exact ih z0 z2 z3 z4 y3 hf _ _ _ hP (mp_D_of hD rfl) hS (lv_sub hl [1, 2, 3, 4, 0] rfl)
      · replace hf := if_t hf h2
        refine lv_lload_n hx hb dX4_joined_19 rfl (lv_at hl 0 rfl) ?_
        refine lv_iload hx hb dX4_joined_20 (lv_at hl 4 rfl) ?_
        refine lv_lushr hx hb dX4_joined_22 rfl ?_
        refine lv_lconst (v := (lN 1)) hx hb dX4_joined_23 (by decide) ?_
        refine lv_land hx hb dX4_joined_24 ?_
        refine lv_lconst (v := (lN 0)) hx hb dX4_joined_25 (by decide) ?_
        refine W.lcmp hx hb dX4_joined_26 ?_
        refine lv_if_eq (tgt := 41) hx hb dX4_joined_27 (by decide) (fun h4 => ?_) (fun h4 => ?_)
        · replace hf := if_t hf h4
          obtain ⟨y5, e5⟩ : ∃ y : Int32, y = z6 + (nI 1) := ⟨_, rfl⟩
          replace hf := lt_of e5 hf
          refine lv_iinc (v := y5) (lv' := [(6, .int y5), (0, .long z0), (2, .int z2), (3, .int z3), (4, .long z4)]) hx hb dX4_joined_41 hl (k := 4) rfl (by rw [e5]; rfl) (by decide) rfl (fun ls hl => ?_)
          refine lv_goto (tgt := 6) hx hb dX4_joined_44 (by decide) ?_
          exact ih z0 z2 z3 z4 y5 hf _ _ _ hP (mp_D_of hD rfl) hS (lv_sub hl [1, 2, 3, 4, 0] rfl)
        · replace hf := if_f hf h4
          refine lv_lload hx hb dX4_joined_30 (lv_at hl 3 rfl) ?_
          refine lv_lconst (v := (lN 1)) hx hb dX4_joined_32 (by decide) ?_
          refine lv_iload hx hb dX4_joined_33 (lv_at hl 4 rfl) ?_
          refine lv_iload_n hx hb dX4_joined_35 rfl (lv_at hl 1 rfl) ?_
          refine lv_ior hx hb dX4_joined_36 ?_
          refine lv_lshl hx hb dX4_joined_37 rfl ?_
          refine lv_lor hx hb dX4_joined_38 ?_
          refine lv_topl (fun y6 e6 => ?_)
          replace hf := lt_of e6 hf
          refine lv_lstore (lv' := [(4, .long y6), (0, .long z0), (2, .int z2), (3, .int z3), (6, .int z6)]) hx hb dX4_joined_39 hl (by decide) rfl (fun ls hl => ?_)
          obtain ⟨y7, e7⟩ : ∃ y : Int32, y = z6 + (nI 1) := ⟨_, rfl⟩
          replace hf := lt_of e7 hf
          refine lv_iinc (v := y7) (lv' := [(6, .int y7), (4, .long y6), (0, .long z0), (2, .int z2), (3, .int z3)]) hx hb dX4_joined_41 hl (k := 4) rfl (by rw [e7]; rfl) (by decide) rfl (fun ls hl => ?_)
          refine lv_goto (tgt := 6) hx hb dX4_joined_44 (by decide) ?_
          exact ih z0 z2 z3 y6 y7 hf _ _ _ hP (mp_D_of hD rfl) hS (lv_sub hl [2, 3, 4, 1, 0] rfl)

set_option maxHeartbeats 4000000 in
set_option maxRecDepth 100000 in
theorem c_X4_joined (l : Launch) (D : va_G) (T : Nat → ClassId) (fu : Nat) (x1 : Int64) (x2 : Int32) (x3 : Int32) (r_ : Int64) (hf : f_X4_joined fu x1 x2 x3 = some r_) :
    mp_M l D T yX4_joined cX4_joined 7 (some .long) ({ frames := 0, cells := 0, slots := 0, locals := 0 }) 0 0 [.long x1, .int x2, .int x3] (k_X4_joined T ) (mp_Ql D r_ (k_X4_joined T )) := by
  refine mp_of (by decide) (Nat.le_of_ble_eq_true rfl) rfl ?_
  intro p e s m args below meth c A ls X hK hP hD hS hA hl
  replace X : mp_X p s m meth c args RX4 "joined" cX4_joined 7 (some .long) := X
  have hx := X.1
  have hb := X.2.1
  have hml := X.2.2.1
  have hown := X.2.2.2.2.1
  have hts := X.2.2.2.2.2.1
  replace hl : lv_has ls 7 [(0, .long x1), (2, .int x2), (3, .int x3)] := hl
  replace hf : f_X4_joined_6 fu   fu x1 x2 x3 (lN 0) (nI 0) = some r_ := hf
  refine lv_lconst (v := (lN 0)) hx hb dX4_joined_0 (by decide) ?_
  refine lv_lstore (lv' := [(4, .long (lN 0)), (0, .long x1), (2, .int x2), (3, .int x3)]) hx hb dX4_joined_1 hl (by decide) rfl (fun ls hl => ?_)
  refine lv_iconst (v := (nI 0)) hx hb dX4_joined_3 (by decide) ?_
  refine lv_istore (lv' := [(6, .int (nI 0)), (4, .long (lN 0)), (0, .long x1), (2, .int x2), (3, .int x3)]) hx hb dX4_joined_4 hl (by decide) rfl (fun ls hl => ?_)
  exact w_X4_joined_6 X hK hA  fu r_   fu x1 x2 x3 (lN 0) (nI 0) hf _ _ _ hP (mp_D_of hD rfl) hS (lv_sub hl [2, 3, 4, 1, 0] rfl)


def k_X4_fillHolds (T : Nat → ClassId) (a_ a_holds a_lettersOf a_p1 a_p1_cellNames a_p1_secretNames a_p1_pageNames a_p1_speed a_p1_letters a_p1_room a_p1_now a_p1_rounds : Nat) (v_above : Int64) (v_below : Int64) (v_holds : (Nat → Int64)) (v_lettersOf : (Nat → Int32)) (v_p1_cells : Int32) (v_p1_secrets : Int32) (v_p1_pages : Int32) (v_p1_blind : Int32) (v_p1_rubs : Int32) (v_p1_room : (Nat → Int32)) : va_W := [(a_, oX4 v_above v_below a_holds a_lettersOf), (a_holds, mp_aJ T 64 v_holds), (a_lettersOf, mp_aI T 64 v_lettersOf), (a_p1, oX1 v_p1_cells v_p1_secrets v_p1_pages a_p1_cellNames a_p1_secretNames a_p1_pageNames a_p1_speed v_p1_blind v_p1_rubs a_p1_letters a_p1_room a_p1_now a_p1_rounds), (a_p1_room, mp_aI T 6 v_p1_room)]
set_option maxHeartbeats 4000000 in
set_option maxRecDepth 100000 in
theorem w_X4_fillHolds_55 {p : Program} {l : Launch} {e : Env} {s : State} {m : MethodId} {args : Array Value} {below : List Frame} {meth : Method} {c : Code} {D : va_G} {T : Nat → ClassId} {A : Nat → Prop} (X : mp_X p s m meth c args RX4 "fillHolds" cX4_fillHolds 11 none) (hK : va_K D mp_cl (mp_ty T) s) (hA : ∀ q, s.heap.size ≤ q → A q) (fu : Nat) (a_ a_holds a_lettersOf a_p1 a_p1_cellNames a_p1_secretNames a_p1_pageNames a_p1_speed a_p1_letters a_p1_room a_p1_now a_p1_rounds : Nat) (v_above : Int64) (v_below : Int64) (v_p1_cells : Int32) (v_p1_pages : Int32) (v_p1_blind : Int32) (v_p1_rubs : Int32) (v_lettersOf : (Nat → Int32)) (v_p1_secrets : Int32) (v_p1_room : (Nat → Int32)) (o_holds : (Nat → Int64)) :
    ∀ (n : Nat) (z2 : Int32) (z4 : Int32) (z5 : Int32) (z6 : Int64) (z8 : Int64) (z10 : Int32) (v_holds : (Nat → Int64)), f_X4_fillHolds_55 fu v_lettersOf v_p1_secrets v_p1_room  n z2 z4 z5 z6 z8 z10 v_holds = some o_holds → ∀ (H : Heap) (locs : List Loc) (ls : Array Slot), va_P D mp_cl (k_X4_fillHolds T a_ a_holds a_lettersOf a_p1 a_p1_cellNames a_p1_secretNames a_p1_pageNames a_p1_speed a_p1_letters a_p1_room a_p1_now a_p1_rounds v_above v_below v_holds v_lettersOf v_p1_cells v_p1_secrets v_p1_pages v_p1_blind v_p1_rubs v_p1_room) H → va_D A (k_X4_fillHolds T a_ a_holds a_lettersOf a_p1 a_p1_cellNames a_p1_secretNames a_p1_pageNames a_p1_speed a_p1_letters a_p1_room a_p1_now a_p1_rounds v_above v_below v_holds v_lettersOf v_p1_cells v_p1_secrets v_p1_pages v_p1_blind v_p1_rubs v_p1_room) → va_S A s.heap H locs → lv_has ls 11 [(0, .ref a_), (2, .int z2), (4, .int z4), (5, .int z5), (6, .long z6), (8, .long z8), (10, .int z10)] → W p l e ({ frames := 1, cells := 0, slots := 0, locals := 26 }) s m args below meth c H locs 0 0 (MQ below ((mp_Qv D (k_X4_fillHolds T a_ a_holds a_lettersOf a_p1 a_p1_cellNames a_p1_secretNames a_p1_pageNames a_p1_speed a_p1_letters a_p1_room a_p1_now a_p1_rounds v_above v_below o_holds v_lettersOf v_p1_cells v_p1_secrets v_p1_pages v_p1_blind v_p1_rubs v_p1_room)) A) args s 0 0 A) (F0 m 55 ls []) := by
  have hx := X.1
  have hb := X.2.1
  have hml := X.2.2.1
  have hown := X.2.2.2.2.1
  have hts := X.2.2.2.2.2.1
  intro n
  induction n with
  | zero => intro z2 z4 z5 z6 z8 z10 v_holds hf; exact absurd hf (by intro h; cases h)
  | succ n ih =>
    intro z2 z4 z5 z6 z8 z10 v_holds hf H locs ls hP hD hS hl
    replace hf : (if z5 < z10 then gi_ z2 64 (some (vp_updL v_holds (z2).toNatClampNeg z8)) else gi_ z10 64 ((if z4 < (v_lettersOf (z10).toNatClampNeg) then lt_ (z10 + (nI 1)) (fun (y5 : Int32) => f_X4_fillHolds_55 fu v_lettersOf v_p1_secrets v_p1_room  n z2 z4 z5 z6 z8 y5 v_holds) else bd_ (f_X4_joined fu z6 z10 z5) (fun (r6 : Int64) => lt_ (z8 ||| r6) (fun (y8 : Int64) => lt_ (z10 + (nI 1)) (fun (y9 : Int32) => f_X4_fillHolds_55 fu v_lettersOf v_p1_secrets v_p1_room  n z2 z4 z5 z6 y8 y9 v_holds)))))) = some o_holds := hf
    refine lv_iload hx hb dX4_fillHolds_55 (lv_at hl 6 rfl) ?_
    refine lv_iload hx hb dX4_fillHolds_57 (lv_at hl 3 rfl) ?_
    refine lv_icmp_gt (tgt := 94) hx hb dX4_fillHolds_59 (by decide) (fun h1 => ?_) (fun h1 => ?_)
    · replace hf := if_t hf h1
      refine lv_aload_n hx hb dX4_fillHolds_94 rfl (lv_at hl 0 rfl) ?_
      refine mp_get X fl_X4_18 hK hP 0 rfl rfl dX4_fillHolds_95 ?_
      refine lv_iload_n hx hb dX4_fillHolds_98 rfl (lv_at hl 1 rfl) ?_
      refine lv_lload hx hb dX4_fillHolds_99 (lv_at hl 5 rfl) ?_
      obtain ⟨h2, hf⟩ := gi_of hf
      refine va_last hx hb hK hP (mp_D_of hD rfl) hS 1 1 rfl rfl h2 dX4_fillHolds_101 (fun H locs hP _ hS => ?_)
      replace hP : va_P D mp_cl (k_X4_fillHolds T a_ a_holds a_lettersOf a_p1 a_p1_cellNames a_p1_secretNames a_p1_pageNames a_p1_speed a_p1_letters a_p1_room a_p1_now a_p1_rounds v_above v_below (vp_updL v_holds (z2).toNatClampNeg z8) v_lettersOf v_p1_cells v_p1_secrets v_p1_pages v_p1_blind v_p1_rubs v_p1_room) H := hP
      cases hf
      exact mp_retv X hP hS dX4_fillHolds_102
    · replace hf := if_f hf h1
      refine lv_aload_n hx hb dX4_fillHolds_62 rfl (lv_at hl 0 rfl) ?_
      refine mp_get X fl_X4_22 hK hP 0 rfl rfl dX4_fillHolds_63 ?_
      refine lv_iload hx hb dX4_fillHolds_66 (lv_at hl 6 rfl) ?_
      obtain ⟨h3, hf⟩ := gi_of hf
      refine va_iald hx hb hK hP 2 0 rfl rfl h3 dX4_fillHolds_68 ?_
      refine lv_iload hx hb dX4_fillHolds_69 (lv_at hl 2 rfl) ?_
      refine lv_icmp_gt (tgt := 88) hx hb dX4_fillHolds_71 (by decide) (fun h4 => ?_) (fun h4 => ?_)
      · replace hf := if_t hf h4
        obtain ⟨y5, e5⟩ : ∃ y : Int32, y = z10 + (nI 1) := ⟨_, rfl⟩
        replace hf := lt_of e5 hf
        refine lv_iinc (v := y5) (lv' := [(10, .int y5), (0, .ref a_), (2, .int z2), (4, .int z4), (5, .int z5), (6, .long z6), (8, .long z8)]) hx hb dX4_fillHolds_88 hl (k := 6) rfl (by rw [e5]; rfl) (by decide) rfl (fun ls hl => ?_)
        refine lv_goto (tgt := 55) hx hb dX4_fillHolds_91 (by decide) ?_
        exact ih z2 z4 z5 z6 z8 y5 v_holds hf _ _ _ hP (mp_D_of hD rfl) hS (lv_sub hl [1, 2, 3, 4, 5, 6, 0] rfl)
      · replace hf := if_f hf h4
        refine lv_lload hx hb dX4_fillHolds_74 (lv_at hl 5 rfl) ?_
        refine lv_lload hx hb dX4_fillHolds_76 (lv_at hl 4 rfl) ?_
        refine lv_iload hx hb dX4_fillHolds_78 (lv_at hl 6 rfl) ?_
        refine lv_iload hx hb dX4_fillHolds_80 (lv_at hl 3 rfl) ?_
        obtain ⟨r6, c7, hf⟩ := bd_of hf
        have hPc := hP.sub (ws' := (k_X4_joined T )) [] rfl
        have hDc := (mp_D_of (w1 := (k_X4_fillHolds T a_ a_holds a_lettersOf a_p1 a_p1_cellNames a_p1_secretNames a_p1_pageNames a_p1_speed a_p1_letters a_p1_room a_p1_now a_p1_rounds v_above v_below v_holds v_lettersOf v_p1_cells v_p1_secrets v_p1_pages v_p1_blind v_p1_rubs v_p1_room)) hD rfl).sub (ws' := (k_X4_joined T )) [] rfl rfl
        refine mp_calll (isC := []) (wc := (k_X4_joined T )) (w1 := (k_X4_joined T )) hP (mp_D_of hD rfl) hS hA rfl rfl (mp_runS (As := [.long z6, .int z10, .int z5]) (rest := [.long z8]) X me_X4_joined lk_X4_102 (c_X4_joined l D T fu z6 z10 z5 r6 c7) rfl rfl ⟨(Nat.le_of_ble_eq_true rfl), (Nat.le_of_ble_eq_true rfl)⟩ hK hPc hDc rfl hl.1 rfl (Nat.le_of_ble_eq_true rfl) dX4_fillHolds_82 ⟨Nat.zero_le _, Nat.zero_le _⟩) (fun H locs hP _ hS => ?_)
        replace hP : va_P D mp_cl (k_X4_fillHolds T a_ a_holds a_lettersOf a_p1 a_p1_cellNames a_p1_secretNames a_p1_pageNames a_p1_speed a_p1_letters a_p1_room a_p1_now a_p1_rounds v_above v_below v_holds v_lettersOf v_p1_cells v_p1_secrets v_p1_pages v_p1_blind v_p1_rubs v_p1_room) H := hP
        refine lv_lor hx hb dX4_fillHolds_85 ?_
        refine lv_topl (fun y8 e8 => ?_)
        replace hf := lt_of e8 hf
        refine lv_lstore (lv' := [(8, .long y8), (0, .ref a_), (2, .int z2), (4, .int z4), (5, .int z5), (6, .long z6), (10, .int z10)]) hx hb dX4_fillHolds_86 hl (by decide) rfl (fun ls hl => ?_)
        obtain ⟨y9, e9⟩ : ∃ y : Int32, y = z10 + (nI 1) := ⟨_, rfl⟩
        replace hf := lt_of e9 hf
        refine lv_iinc (v := y9) (lv' := [(10, .int y9), (8, .long y8), (0, .ref a_), (2, .int z2), (4, .int z4), (5, .int z5), (6, .long z6)]) hx hb dX4_fillHolds_88 hl (k := 6) rfl (by rw [e9]; rfl) (by decide) rfl (fun ls hl => ?_)
        refine lv_goto (tgt := 55) hx hb dX4_fillHolds_91 (by decide) ?_
        exact ih z2 z4 z5 z6 y8 y9 v_holds hf _ _ _ hP (mp_D_of hD rfl) hS (lv_sub hl [2, 3, 4, 5, 6, 1, 0] rfl)

set_option maxHeartbeats 4000000 in
set_option maxRecDepth 100000 in
theorem w_X4_fillHolds_21 {p : Program} {l : Launch} {e : Env} {s : State} {m : MethodId} {args : Array Value} {below : List Frame} {meth : Method} {c : Code} {D : va_G} {T : Nat → ClassId} {A : Nat → Prop} (X : mp_X p s m meth c args RX4 "fillHolds" cX4_fillHolds 11 none) (hK : va_K D mp_cl (mp_ty T) s) (hA : ∀ q, s.heap.size ≤ q → A q) (fu : Nat) (a_ a_holds a_lettersOf a_p1 a_p1_cellNames a_p1_secretNames a_p1_pageNames a_p1_speed a_p1_letters a_p1_room a_p1_now a_p1_rounds : Nat) (v_above : Int64) (v_below : Int64) (v_p1_cells : Int32) (v_p1_pages : Int32) (v_p1_blind : Int32) (v_p1_rubs : Int32) (v_lettersOf : (Nat → Int32)) (v_p1_secrets : Int32) (v_p1_room : (Nat → Int32)) (o_holds : (Nat → Int64)) :
    ∀  (z2 : Int32) (z3 : Int32) (v_holds : (Nat → Int64)), f_X4_fillHolds_21 fu v_lettersOf v_p1_secrets v_p1_room  z2 z3 v_holds = some o_holds → ∀ (H : Heap) (locs : List Loc) (ls : Array Slot), va_P D mp_cl (k_X4_fillHolds T a_ a_holds a_lettersOf a_p1 a_p1_cellNames a_p1_secretNames a_p1_pageNames a_p1_speed a_p1_letters a_p1_room a_p1_now a_p1_rounds v_above v_below v_holds v_lettersOf v_p1_cells v_p1_secrets v_p1_pages v_p1_blind v_p1_rubs v_p1_room) H → va_D A (k_X4_fillHolds T a_ a_holds a_lettersOf a_p1 a_p1_cellNames a_p1_secretNames a_p1_pageNames a_p1_speed a_p1_letters a_p1_room a_p1_now a_p1_rounds v_above v_below v_holds v_lettersOf v_p1_cells v_p1_secrets v_p1_pages v_p1_blind v_p1_rubs v_p1_room) → va_S A s.heap H locs → lv_has ls 11 [(0, .ref a_), (1, .ref a_p1), (2, .int z2), (3, .int z3)] → W p l e ({ frames := 1, cells := 0, slots := 0, locals := 26 }) s m args below meth c H locs 0 0 (MQ below ((mp_Qv D (k_X4_fillHolds T a_ a_holds a_lettersOf a_p1 a_p1_cellNames a_p1_secretNames a_p1_pageNames a_p1_speed a_p1_letters a_p1_room a_p1_now a_p1_rounds v_above v_below o_holds v_lettersOf v_p1_cells v_p1_secrets v_p1_pages v_p1_blind v_p1_rubs v_p1_room)) A) args s 0 0 A) (F0 m 21 ls []) := by
  have hx := X.1
  have hb := X.2.1
  have hml := X.2.2.1
  have hown := X.2.2.2.2.1
  have hts := X.2.2.2.2.2.1
  intro z2 z3 v_holds hf H locs ls hP hD hS hl
  replace hf : gi_ z3 6 (lt_ (v_p1_room (z3).toNatClampNeg) (fun (y2 : Int32) => bd_ (f_X1_allSecrets v_p1_secrets) (fun (r3 : Int32) => gi_ (z2 &&& (((nI 1) <<< (z3 &&& (31 : Int32))) ^^^ (-1 : Int32))) 64 (lt_ (v_holds (z2 &&& (((nI 1) <<< (z3 &&& (31 : Int32))) ^^^ (-1 : Int32))).toNatClampNeg) (fun (y6 : Int64) => f_X4_fillHolds_55 fu v_lettersOf v_p1_secrets v_p1_room  fu z2 y2 r3 y6 (lN 0) (nI 0) v_holds))))) = some o_holds := hf
  refine lv_aload_n hx hb dX4_fillHolds_21 rfl (lv_at hl 1 rfl) ?_
  refine mp_get X fl_X4_99 hK hP 3 rfl rfl dX4_fillHolds_22 ?_
  refine lv_iload_n hx hb dX4_fillHolds_25 rfl (lv_at hl 3 rfl) ?_
  obtain ⟨h1, hf⟩ := gi_of hf
  refine va_iald hx hb hK hP 4 0 rfl rfl h1 dX4_fillHolds_26 ?_
  refine lv_topi (fun y2 e2 => ?_)
  replace hf := lt_of e2 hf
  refine lv_istore (lv' := [(4, .int y2), (0, .ref a_), (1, .ref a_p1), (2, .int z2), (3, .int z3)]) hx hb dX4_fillHolds_27 hl (by decide) rfl (fun ls hl => ?_)
  refine lv_aload_n hx hb dX4_fillHolds_29 rfl (lv_at hl 2 rfl) ?_
  obtain ⟨r3, c4, hf⟩ := bd_of hf
  have hPc := hP.sub (ws' := (k_X1_allSecrets T a_p1 a_p1_cellNames a_p1_secretNames a_p1_pageNames a_p1_speed a_p1_letters a_p1_room a_p1_now a_p1_rounds v_p1_cells v_p1_secrets v_p1_pages v_p1_blind v_p1_rubs)) [3] rfl
  have hDc := (mp_D_of (w1 := (k_X4_fillHolds T a_ a_holds a_lettersOf a_p1 a_p1_cellNames a_p1_secretNames a_p1_pageNames a_p1_speed a_p1_letters a_p1_room a_p1_now a_p1_rounds v_above v_below v_holds v_lettersOf v_p1_cells v_p1_secrets v_p1_pages v_p1_blind v_p1_rubs v_p1_room)) hD rfl).sub (ws' := (k_X1_allSecrets T a_p1 a_p1_cellNames a_p1_secretNames a_p1_pageNames a_p1_speed a_p1_letters a_p1_room a_p1_now a_p1_rounds v_p1_cells v_p1_secrets v_p1_pages v_p1_blind v_p1_rubs)) [3] rfl rfl
  refine mp_calli (isC := [3]) (wc := (k_X1_allSecrets T a_p1 a_p1_cellNames a_p1_secretNames a_p1_pageNames a_p1_speed a_p1_letters a_p1_room a_p1_now a_p1_rounds v_p1_cells v_p1_secrets v_p1_pages v_p1_blind v_p1_rubs)) (w1 := (k_X1_allSecrets T a_p1 a_p1_cellNames a_p1_secretNames a_p1_pageNames a_p1_speed a_p1_letters a_p1_room a_p1_now a_p1_rounds v_p1_cells v_p1_secrets v_p1_pages v_p1_blind v_p1_rubs)) hP (mp_D_of hD rfl) hS hA rfl rfl (mp_runV (As := []) (rest := []) X me_X1_allSecrets lk_X4_79 (c_X1_allSecrets l D T a_p1 a_p1_cellNames a_p1_secretNames a_p1_pageNames a_p1_speed a_p1_letters a_p1_room a_p1_now a_p1_rounds v_p1_cells v_p1_pages v_p1_blind v_p1_rubs v_p1_secrets r3 c4) rfl rfl ⟨(Nat.le_of_ble_eq_true rfl), (Nat.le_of_ble_eq_true rfl)⟩ hK hPc hDc rfl rfl rfl rfl hl.1 rfl (Nat.le_of_ble_eq_true rfl) dX4_fillHolds_30 ⟨Nat.zero_le _, Nat.zero_le _⟩) (fun H locs hP _ hS => ?_)
  replace hP : va_P D mp_cl (k_X4_fillHolds T a_ a_holds a_lettersOf a_p1 a_p1_cellNames a_p1_secretNames a_p1_pageNames a_p1_speed a_p1_letters a_p1_room a_p1_now a_p1_rounds v_above v_below v_holds v_lettersOf v_p1_cells v_p1_secrets v_p1_pages v_p1_blind v_p1_rubs v_p1_room) H := hP
  refine lv_istore (lv' := [(5, .int r3), (4, .int y2), (0, .ref a_), (1, .ref a_p1), (2, .int z2), (3, .int z3)]) hx hb dX4_fillHolds_33 hl (by decide) rfl (fun ls hl => ?_)
  refine lv_aload_n hx hb dX4_fillHolds_35 rfl (lv_at hl 2 rfl) ?_
  refine mp_get X fl_X4_18 hK hP 0 rfl rfl dX4_fillHolds_36 ?_
  refine lv_iload_n hx hb dX4_fillHolds_39 rfl (lv_at hl 4 rfl) ?_
  refine lv_iconst (v := (nI 1)) hx hb dX4_fillHolds_40 (by decide) ?_
  refine lv_iload_n hx hb dX4_fillHolds_41 rfl (lv_at hl 5 rfl) ?_
  refine lv_ishl hx hb dX4_fillHolds_42 ?_
  refine lv_iconst (v := (-1 : Int32)) hx hb dX4_fillHolds_43 (by decide) ?_
  refine lv_ixor hx hb dX4_fillHolds_44 ?_
  refine lv_iand hx hb dX4_fillHolds_45 ?_
  obtain ⟨h5, hf⟩ := gi_of hf
  refine va_lald hx hb hK hP 1 1 rfl rfl h5 dX4_fillHolds_46 ?_
  refine lv_topl (fun y6 e6 => ?_)
  replace hf := lt_of e6 hf
  refine lv_lstore (lv' := [(6, .long y6), (5, .int r3), (4, .int y2), (0, .ref a_), (1, .ref a_p1), (2, .int z2), (3, .int z3)]) hx hb dX4_fillHolds_47 hl (by decide) rfl (fun ls hl => ?_)
  refine lv_lconst (v := (lN 0)) hx hb dX4_fillHolds_49 (by decide) ?_
  refine lv_lstore (lv' := [(8, .long (lN 0)), (6, .long y6), (5, .int r3), (4, .int y2), (0, .ref a_), (1, .ref a_p1), (2, .int z2), (3, .int z3)]) hx hb dX4_fillHolds_50 hl (by decide) rfl (fun ls hl => ?_)
  refine lv_iconst (v := (nI 0)) hx hb dX4_fillHolds_52 (by decide) ?_
  refine lv_istore (lv' := [(10, .int (nI 0)), (8, .long (lN 0)), (6, .long y6), (5, .int r3), (4, .int y2), (0, .ref a_), (1, .ref a_p1), (2, .int z2), (3, .int z3)]) hx hb dX4_fillHolds_53 hl (by decide) rfl (fun ls hl => ?_)
  exact w_X4_fillHolds_55 X hK hA  fu a_ a_holds a_lettersOf a_p1 a_p1_cellNames a_p1_secretNames a_p1_pageNames a_p1_speed a_p1_letters a_p1_room a_p1_now a_p1_rounds v_above v_below v_p1_cells v_p1_pages v_p1_blind v_p1_rubs v_lettersOf v_p1_secrets v_p1_room o_holds   fu z2 y2 r3 y6 (lN 0) (nI 0) v_holds hf _ _ _ hP (mp_D_of hD rfl) hS (lv_sub hl [5, 7, 4, 3, 2, 1, 0] rfl)

set_option maxHeartbeats 4000000 in
set_option maxRecDepth 100000 in
theorem w_X4_fillHolds_2 {p : Program} {l : Launch} {e : Env} {s : State} {m : MethodId} {args : Array Value} {below : List Frame} {meth : Method} {c : Code} {D : va_G} {T : Nat → ClassId} {A : Nat → Prop} (X : mp_X p s m meth c args RX4 "fillHolds" cX4_fillHolds 11 none) (hK : va_K D mp_cl (mp_ty T) s) (hA : ∀ q, s.heap.size ≤ q → A q) (fu : Nat) (a_ a_holds a_lettersOf a_p1 a_p1_cellNames a_p1_secretNames a_p1_pageNames a_p1_speed a_p1_letters a_p1_room a_p1_now a_p1_rounds : Nat) (v_above : Int64) (v_below : Int64) (v_p1_cells : Int32) (v_p1_pages : Int32) (v_p1_blind : Int32) (v_p1_rubs : Int32) (v_lettersOf : (Nat → Int32)) (v_p1_secrets : Int32) (v_p1_room : (Nat → Int32)) (o_holds : (Nat → Int64)) :
    ∀ (n : Nat) (z2 : Int32) (z3 : Int32) (v_holds : (Nat → Int64)), f_X4_fillHolds_2 fu v_lettersOf v_p1_secrets v_p1_room  n z2 z3 v_holds = some o_holds → ∀ (H : Heap) (locs : List Loc) (ls : Array Slot), va_P D mp_cl (k_X4_fillHolds T a_ a_holds a_lettersOf a_p1 a_p1_cellNames a_p1_secretNames a_p1_pageNames a_p1_speed a_p1_letters a_p1_room a_p1_now a_p1_rounds v_above v_below v_holds v_lettersOf v_p1_cells v_p1_secrets v_p1_pages v_p1_blind v_p1_rubs v_p1_room) H → va_D A (k_X4_fillHolds T a_ a_holds a_lettersOf a_p1 a_p1_cellNames a_p1_secretNames a_p1_pageNames a_p1_speed a_p1_letters a_p1_room a_p1_now a_p1_rounds v_above v_below v_holds v_lettersOf v_p1_cells v_p1_secrets v_p1_pages v_p1_blind v_p1_rubs v_p1_room) → va_S A s.heap H locs → lv_has ls 11 [(0, .ref a_), (1, .ref a_p1), (2, .int z2), (3, .int z3)] → W p l e ({ frames := 1, cells := 0, slots := 0, locals := 26 }) s m args below meth c H locs 0 0 (MQ below ((mp_Qv D (k_X4_fillHolds T a_ a_holds a_lettersOf a_p1 a_p1_cellNames a_p1_secretNames a_p1_pageNames a_p1_speed a_p1_letters a_p1_room a_p1_now a_p1_rounds v_above v_below o_holds v_lettersOf v_p1_cells v_p1_secrets v_p1_pages v_p1_blind v_p1_rubs v_p1_room)) A) args s 0 0 A) (F0 m 2 ls []) := by
  have hx := X.1
  have hb := X.2.1
  have hml := X.2.2.1
  have hown := X.2.2.2.2.1
  have hts := X.2.2.2.2.2.1
  intro n
  induction n with
  | zero => intro z2 z3 v_holds hf; exact absurd hf (by intro h; cases h)
  | succ n ih =>
    intro z2 z3 v_holds hf H locs ls hP hD hS hl
    replace hf : (if (nI 5) ≤ z3 then f_X4_fillHolds_21 fu v_lettersOf v_p1_secrets v_p1_room  z2 z3 v_holds else bd_ (f_X7_has z2 z3) (fun (r2 : Int32) => (if r2 = 0 then lt_ (z3 + (nI 1)) (fun (y5 : Int32) => f_X4_fillHolds_2 fu v_lettersOf v_p1_secrets v_p1_room  n z2 y5 v_holds) else f_X4_fillHolds_21 fu v_lettersOf v_p1_secrets v_p1_room  z2 z3 v_holds))) = some o_holds := hf
    refine lv_iload_n hx hb dX4_fillHolds_2 rfl (lv_at hl 3 rfl) ?_
    refine lv_iconst (v := (nI 5)) hx hb dX4_fillHolds_3 (by decide) ?_
    refine lv_icmp_ge (tgt := 21) hx hb dX4_fillHolds_4 (by decide) (fun h1 => ?_) (fun h1 => ?_)
    · replace hf := if_t hf h1
      exact w_X4_fillHolds_21 X hK hA  fu a_ a_holds a_lettersOf a_p1 a_p1_cellNames a_p1_secretNames a_p1_pageNames a_p1_speed a_p1_letters a_p1_room a_p1_now a_p1_rounds v_above v_below v_p1_cells v_p1_pages v_p1_blind v_p1_rubs v_lettersOf v_p1_secrets v_p1_room o_holds   z2 z3 v_holds hf _ _ _ hP (mp_D_of hD rfl) hS (lv_sub hl [0, 1, 2, 3] rfl)
    · replace hf := if_f hf h1
      refine lv_iload_n hx hb dX4_fillHolds_7 rfl (lv_at hl 2 rfl) ?_
      refine lv_iload_n hx hb dX4_fillHolds_8 rfl (lv_at hl 3 rfl) ?_
      obtain ⟨r2, c3, hf⟩ := bd_of hf
      have hPc := hP.sub (ws' := (k_X7_has T )) [] rfl
      have hDc := (mp_D_of (w1 := (k_X4_fillHolds T a_ a_holds a_lettersOf a_p1 a_p1_cellNames a_p1_secretNames a_p1_pageNames a_p1_speed a_p1_letters a_p1_room a_p1_now a_p1_rounds v_above v_below v_holds v_lettersOf v_p1_cells v_p1_secrets v_p1_pages v_p1_blind v_p1_rubs v_p1_room)) hD rfl).sub (ws' := (k_X7_has T )) [] rfl rfl
      refine mp_calli (isC := []) (wc := (k_X7_has T )) (w1 := (k_X7_has T )) hP (mp_D_of hD rfl) hS hA rfl rfl (mp_runS (As := [.int z2, .int z3]) (rest := []) X me_X7_has lk_X4_45 (c_X7_has l D T z2 z3 r2 c3) rfl rfl ⟨(Nat.le_of_ble_eq_true rfl), (Nat.le_of_ble_eq_true rfl)⟩ hK hPc hDc rfl hl.1 rfl (Nat.le_of_ble_eq_true rfl) dX4_fillHolds_9 ⟨Nat.zero_le _, Nat.zero_le _⟩) (fun H locs hP _ hS => ?_)
      replace hP : va_P D mp_cl (k_X4_fillHolds T a_ a_holds a_lettersOf a_p1 a_p1_cellNames a_p1_secretNames a_p1_pageNames a_p1_speed a_p1_letters a_p1_room a_p1_now a_p1_rounds v_above v_below v_holds v_lettersOf v_p1_cells v_p1_secrets v_p1_pages v_p1_blind v_p1_rubs v_p1_room) H := hP
      refine lv_if_ne (tgt := 21) hx hb dX4_fillHolds_12 (by decide) (fun h4 => ?_) (fun h4 => ?_)
      · replace hf := if_f hf h4
        exact w_X4_fillHolds_21 X hK hA  fu a_ a_holds a_lettersOf a_p1 a_p1_cellNames a_p1_secretNames a_p1_pageNames a_p1_speed a_p1_letters a_p1_room a_p1_now a_p1_rounds v_above v_below v_p1_cells v_p1_pages v_p1_blind v_p1_rubs v_lettersOf v_p1_secrets v_p1_room o_holds   z2 z3 v_holds hf _ _ _ hP (mp_D_of hD rfl) hS (lv_sub hl [0, 1, 2, 3] rfl)
      · replace hf := if_t hf h4
        obtain ⟨y5, e5⟩ : ∃ y : Int32, y = z3 + (nI 1) := ⟨_, rfl⟩
        replace hf := lt_of e5 hf
        refine lv_iinc (v := y5) (lv' := [(3, .int y5), (0, .ref a_), (1, .ref a_p1), (2, .int z2)]) hx hb dX4_fillHolds_15 hl (k := 3) rfl (by rw [e5]; rfl) (by decide) rfl (fun ls hl => ?_)
        refine lv_goto (tgt := 2) hx hb dX4_fillHolds_18 (by decide) ?_
        exact ih z2 y5 v_holds hf _ _ _ hP (mp_D_of hD rfl) hS (lv_sub hl [1, 2, 3, 0] rfl)

set_option maxHeartbeats 4000000 in
set_option maxRecDepth 100000 in
theorem c_X4_fillHolds (l : Launch) (D : va_G) (T : Nat → ClassId) (fu : Nat) (a_ a_holds a_lettersOf a_p1 a_p1_cellNames a_p1_secretNames a_p1_pageNames a_p1_speed a_p1_letters a_p1_room a_p1_now a_p1_rounds : Nat) (x2 : Int32) (v_above : Int64) (v_below : Int64) (v_p1_cells : Int32) (v_p1_pages : Int32) (v_p1_blind : Int32) (v_p1_rubs : Int32) (v_holds : (Nat → Int64)) (v_lettersOf : (Nat → Int32)) (v_p1_secrets : Int32) (v_p1_room : (Nat → Int32)) (o_holds : (Nat → Int64)) (hf : f_X4_fillHolds fu x2 v_holds v_lettersOf v_p1_secrets v_p1_room = some o_holds) :
    mp_M l D T yX4_fillHolds cX4_fillHolds 11 none ({ frames := 1, cells := 0, slots := 0, locals := 26 }) 0 0 [.ref a_, .ref a_p1, .int x2] (k_X4_fillHolds T a_ a_holds a_lettersOf a_p1 a_p1_cellNames a_p1_secretNames a_p1_pageNames a_p1_speed a_p1_letters a_p1_room a_p1_now a_p1_rounds v_above v_below v_holds v_lettersOf v_p1_cells v_p1_secrets v_p1_pages v_p1_blind v_p1_rubs v_p1_room) (mp_Qv D (k_X4_fillHolds T a_ a_holds a_lettersOf a_p1 a_p1_cellNames a_p1_secretNames a_p1_pageNames a_p1_speed a_p1_letters a_p1_room a_p1_now a_p1_rounds v_above v_below o_holds v_lettersOf v_p1_cells v_p1_secrets v_p1_pages v_p1_blind v_p1_rubs v_p1_room)) := by
  refine mp_of (by decide) (Nat.le_of_ble_eq_true rfl) rfl ?_
  intro p e s m args below meth c A ls X hK hP hD hS hA hl
  replace X : mp_X p s m meth c args RX4 "fillHolds" cX4_fillHolds 11 none := X
  have hx := X.1
  have hb := X.2.1
  have hml := X.2.2.1
  have hown := X.2.2.2.2.1
  have hts := X.2.2.2.2.2.1
  replace hl : lv_has ls 11 [(0, .ref a_), (1, .ref a_p1), (2, .int x2)] := hl
  replace hf : f_X4_fillHolds_2 fu v_lettersOf v_p1_secrets v_p1_room  fu x2 (nI 0) v_holds = some o_holds := hf
  refine lv_iconst (v := (nI 0)) hx hb dX4_fillHolds_0 (by decide) ?_
  refine lv_istore_n (lv' := [(3, .int (nI 0)), (0, .ref a_), (1, .ref a_p1), (2, .int x2)]) hx hb dX4_fillHolds_1 rfl hl (by decide) rfl (fun ls hl => ?_)
  exact w_X4_fillHolds_2 X hK hA  fu a_ a_holds a_lettersOf a_p1 a_p1_cellNames a_p1_secretNames a_p1_pageNames a_p1_speed a_p1_letters a_p1_room a_p1_now a_p1_rounds v_above v_below v_p1_cells v_p1_pages v_p1_blind v_p1_rubs v_lettersOf v_p1_secrets v_p1_room o_holds   fu x2 (nI 0) v_holds hf _ _ _ hP (mp_D_of hD rfl) hS (lv_sub hl [1, 2, 3, 0] rfl)


def k_X4_fewestPages (T : Nat → ClassId) (a_ a_holds a_lettersOf a_p1 a_p1_cellNames a_p1_secretNames a_p1_pageNames a_p1_speed a_p1_letters a_p1_room a_p1_now a_p1_rounds : Nat) (v_above : Int64) (v_below : Int64) (v_holds : (Nat → Int64)) (v_lettersOf : (Nat → Int32)) (v_p1_cells : Int32) (v_p1_secrets : Int32) (v_p1_pages : Int32) (v_p1_blind : Int32) (v_p1_rubs : Int32) (v_p1_letters : (Nat → Int32)) (v_p1_room : (Nat → Int32)) : va_W := [(a_, oX4 v_above v_below a_holds a_lettersOf), (a_holds, mp_aJ T 64 v_holds), (a_lettersOf, mp_aI T 64 v_lettersOf), (a_p1, oX1 v_p1_cells v_p1_secrets v_p1_pages a_p1_cellNames a_p1_secretNames a_p1_pageNames a_p1_speed v_p1_blind v_p1_rubs a_p1_letters a_p1_room a_p1_now a_p1_rounds), (a_p1_letters, mp_aI T 6 v_p1_letters), (a_p1_room, mp_aI T 6 v_p1_room)]
set_option maxHeartbeats 4000000 in
set_option maxRecDepth 100000 in
theorem w_X4_fewestPages_49 {p : Program} {l : Launch} {e : Env} {s : State} {m : MethodId} {args : Array Value} {below : List Frame} {meth : Method} {c : Code} {D : va_G} {T : Nat → ClassId} {A : Nat → Prop} (X : mp_X p s m meth c args RX4 "fewestPages" cX4_fewestPages 6 (some .int)) (hK : va_K D mp_cl (mp_ty T) s) (hA : ∀ q, s.heap.size ≤ q → A q) (fu : Nat) (a_ a_holds a_lettersOf a_p1 a_p1_cellNames a_p1_secretNames a_p1_pageNames a_p1_speed a_p1_letters a_p1_room a_p1_now a_p1_rounds : Nat) (v_above : Int64) (v_below : Int64) (v_p1_cells : Int32) (v_p1_blind : Int32) (v_p1_rubs : Int32) (v_p1_secrets : Int32) (v_p1_pages : Int32) (v_p1_letters : (Nat → Int32)) (v_p1_room : (Nat → Int32)) (r_ : Int32) (o_holds : (Nat → Int64)) (o_lettersOf : (Nat → Int32)) (K26 : Int32 → Int32 → Int32 → Int32 → (Nat → Int64) → (Nat → Int32) → Option (Int32 × (Nat → Int64) × (Nat → Int32))) (hK26 : ∀ (z2 : Int32) (z3 : Int32) (z4 : Int32) (z5 : Int32) (v_holds : (Nat → Int64)) (v_lettersOf : (Nat → Int32)), K26 z2 z3 z4 z5 v_holds v_lettersOf = some (r_, o_holds, o_lettersOf) → ∀ (H : Heap) (locs : List Loc) (ls : Array Slot), va_P D mp_cl (k_X4_fewestPages T a_ a_holds a_lettersOf a_p1 a_p1_cellNames a_p1_secretNames a_p1_pageNames a_p1_speed a_p1_letters a_p1_room a_p1_now a_p1_rounds v_above v_below v_holds v_lettersOf v_p1_cells v_p1_secrets v_p1_pages v_p1_blind v_p1_rubs v_p1_letters v_p1_room) H → va_D A (k_X4_fewestPages T a_ a_holds a_lettersOf a_p1 a_p1_cellNames a_p1_secretNames a_p1_pageNames a_p1_speed a_p1_letters a_p1_room a_p1_now a_p1_rounds v_above v_below v_holds v_lettersOf v_p1_cells v_p1_secrets v_p1_pages v_p1_blind v_p1_rubs v_p1_letters v_p1_room) → va_S A s.heap H locs → lv_has ls 6 [(0, .ref a_), (1, .ref a_p1), (2, .int z2), (3, .int z3), (4, .int z4), (5, .int z5)] → W p l e ({ frames := 2, cells := 0, slots := 0, locals := 56 }) s m args below meth c H locs 0 0 (MQ below ((mp_Qi D r_ (k_X4_fewestPages T a_ a_holds a_lettersOf a_p1 a_p1_cellNames a_p1_secretNames a_p1_pageNames a_p1_speed a_p1_letters a_p1_room a_p1_now a_p1_rounds v_above v_below o_holds o_lettersOf v_p1_cells v_p1_secrets v_p1_pages v_p1_blind v_p1_rubs v_p1_letters v_p1_room)) A) args s 0 0 A) (F0 m 26 ls [])) :
    ∀  (z2 : Int32) (z3 : Int32) (z4 : Int32) (z5 : Int32) (v_holds : (Nat → Int64)) (v_lettersOf : (Nat → Int32)), f_X4_fewestPages_49 fu v_p1_secrets v_p1_pages v_p1_letters v_p1_room K26 z2 z3 z4 z5 v_holds v_lettersOf = some (r_, o_holds, o_lettersOf) → ∀ (H : Heap) (locs : List Loc) (ls : Array Slot), va_P D mp_cl (k_X4_fewestPages T a_ a_holds a_lettersOf a_p1 a_p1_cellNames a_p1_secretNames a_p1_pageNames a_p1_speed a_p1_letters a_p1_room a_p1_now a_p1_rounds v_above v_below v_holds v_lettersOf v_p1_cells v_p1_secrets v_p1_pages v_p1_blind v_p1_rubs v_p1_letters v_p1_room) H → va_D A (k_X4_fewestPages T a_ a_holds a_lettersOf a_p1 a_p1_cellNames a_p1_secretNames a_p1_pageNames a_p1_speed a_p1_letters a_p1_room a_p1_now a_p1_rounds v_above v_below v_holds v_lettersOf v_p1_cells v_p1_secrets v_p1_pages v_p1_blind v_p1_rubs v_p1_letters v_p1_room) → va_S A s.heap H locs → lv_has ls 6 [(0, .ref a_), (1, .ref a_p1), (2, .int z2), (3, .int z3), (4, .int z4), (5, .int z5)] → W p l e ({ frames := 2, cells := 0, slots := 0, locals := 56 }) s m args below meth c H locs 0 0 (MQ below ((mp_Qi D r_ (k_X4_fewestPages T a_ a_holds a_lettersOf a_p1 a_p1_cellNames a_p1_secretNames a_p1_pageNames a_p1_speed a_p1_letters a_p1_room a_p1_now a_p1_rounds v_above v_below o_holds o_lettersOf v_p1_cells v_p1_secrets v_p1_pages v_p1_blind v_p1_rubs v_p1_letters v_p1_room)) A) args s 0 0 A) (F0 m 49 ls []) := by
  have hx := X.1
  have hb := X.2.1
  have hml := X.2.2.1
  have hown := X.2.2.2.2.1
  have hts := X.2.2.2.2.2.1
  intro z2 z3 z4 z5 v_holds v_lettersOf hf H locs ls hP hD hS hl
  replace hf : gi_ z5 64 ((if (lg_cmp (((((v_holds (z5).toNatClampNeg)).toUInt64 >>> ((z2).toInt64.toUInt64 &&& Int64.toUInt64 63)).toInt64) &&& (lN 1)) (lN 0)) = 0 then lt_ (z5 + (nI 1)) (fun (y3 : Int32) => K26 z2 z3 z4 y3 v_holds v_lettersOf) else bd_ (f_J6_bitCount_0f7a4 z5) (fun (r4 : Int32) => (if z4 ≤ r4 then lt_ (z5 + (nI 1)) (fun (y7 : Int32) => K26 z2 z3 z4 y7 v_holds v_lettersOf) else bd_ (f_J6_bitCount_0f7a4 z5) (fun (r8 : Int32) => lt_ (z5 + (nI 1)) (fun (y10 : Int32) => K26 z2 z5 r8 y10 v_holds v_lettersOf)))))) = some (r_, o_holds, o_lettersOf) := hf
  refine lv_aload_n hx hb dX4_fewestPages_49 rfl (lv_at hl 0 rfl) ?_
  refine mp_get X fl_X4_18 hK hP 0 rfl rfl dX4_fewestPages_50 ?_
  refine lv_iload hx hb dX4_fewestPages_53 (lv_at hl 5 rfl) ?_
  obtain ⟨h1, hf⟩ := gi_of hf
  refine va_lald hx hb hK hP 1 1 rfl rfl h1 dX4_fewestPages_55 ?_
  refine lv_iload_n hx hb dX4_fewestPages_56 rfl (lv_at hl 2 rfl) ?_
  refine lv_lushr hx hb dX4_fewestPages_57 rfl ?_
  refine lv_lconst (v := (lN 1)) hx hb dX4_fewestPages_58 (by decide) ?_
  refine lv_land hx hb dX4_fewestPages_59 ?_
  refine lv_lconst (v := (lN 0)) hx hb dX4_fewestPages_60 (by decide) ?_
  refine W.lcmp hx hb dX4_fewestPages_61 ?_
  refine lv_if_eq (tgt := 85) hx hb dX4_fewestPages_62 (by decide) (fun h2 => ?_) (fun h2 => ?_)
  · replace hf := if_t hf h2
    obtain ⟨y3, e3⟩ : ∃ y : Int32, y = z5 + (nI 1) := ⟨_, rfl⟩
    replace hf := lt_of e3 hf
    refine lv_iinc (v := y3) (lv' := [(5, .int y3), (0, .ref a_), (1, .ref a_p1), (2, .int z2), (3, .int z3), (4, .int z4)]) hx hb dX4_fewestPages_85 hl (k := 5) rfl (by rw [e3]; rfl) (by decide) rfl (fun ls hl => ?_)
    refine lv_goto (tgt := 26) hx hb dX4_fewestPages_88 (by decide) ?_
    exact hK26 z2 z3 z4 y3 v_holds v_lettersOf hf _ _ _ hP (mp_D_of hD rfl) hS (lv_sub hl [1, 2, 3, 4, 5, 0] rfl)
  · replace hf := if_f hf h2
    refine lv_iload hx hb dX4_fewestPages_65 (lv_at hl 5 rfl) ?_
    obtain ⟨r4, c5, hf⟩ := bd_of hf
    have hPc := hP.sub (ws' := (k_J6_bitCount_0f7a4 T )) [] rfl
    have hDc := (mp_D_of (w1 := (k_X4_fewestPages T a_ a_holds a_lettersOf a_p1 a_p1_cellNames a_p1_secretNames a_p1_pageNames a_p1_speed a_p1_letters a_p1_room a_p1_now a_p1_rounds v_above v_below v_holds v_lettersOf v_p1_cells v_p1_secrets v_p1_pages v_p1_blind v_p1_rubs v_p1_letters v_p1_room)) hD rfl).sub (ws' := (k_J6_bitCount_0f7a4 T )) [] rfl rfl
    refine mp_calli (isC := []) (wc := (k_J6_bitCount_0f7a4 T )) (w1 := (k_J6_bitCount_0f7a4 T )) hP (mp_D_of hD rfl) hS hA rfl rfl (mp_runS (As := [.int z5]) (rest := []) X me_J6_bitCount_0f7a4 lk_X4_87 (c_J6_bitCount_0f7a4 l D T z5 r4 c5) rfl rfl ⟨(Nat.le_of_ble_eq_true rfl), (Nat.le_of_ble_eq_true rfl)⟩ hK hPc hDc rfl hl.1 rfl (Nat.le_of_ble_eq_true rfl) dX4_fewestPages_67 ⟨Nat.zero_le _, Nat.zero_le _⟩) (fun H locs hP _ hS => ?_)
    replace hP : va_P D mp_cl (k_X4_fewestPages T a_ a_holds a_lettersOf a_p1 a_p1_cellNames a_p1_secretNames a_p1_pageNames a_p1_speed a_p1_letters a_p1_room a_p1_now a_p1_rounds v_above v_below v_holds v_lettersOf v_p1_cells v_p1_secrets v_p1_pages v_p1_blind v_p1_rubs v_p1_letters v_p1_room) H := hP
    refine lv_iload hx hb dX4_fewestPages_70 (lv_at hl 4 rfl) ?_
    refine lv_icmp_ge (tgt := 85) hx hb dX4_fewestPages_72 (by decide) (fun h6 => ?_) (fun h6 => ?_)
    · replace hf := if_t hf h6
      obtain ⟨y7, e7⟩ : ∃ y : Int32, y = z5 + (nI 1) := ⟨_, rfl⟩
      replace hf := lt_of e7 hf
      refine lv_iinc (v := y7) (lv' := [(5, .int y7), (0, .ref a_), (1, .ref a_p1), (2, .int z2), (3, .int z3), (4, .int z4)]) hx hb dX4_fewestPages_85 hl (k := 5) rfl (by rw [e7]; rfl) (by decide) rfl (fun ls hl => ?_)
      refine lv_goto (tgt := 26) hx hb dX4_fewestPages_88 (by decide) ?_
      exact hK26 z2 z3 z4 y7 v_holds v_lettersOf hf _ _ _ hP (mp_D_of hD rfl) hS (lv_sub hl [1, 2, 3, 4, 5, 0] rfl)
    · replace hf := if_f hf h6
      refine lv_iload hx hb dX4_fewestPages_75 (lv_at hl 5 rfl) ?_
      obtain ⟨r8, c9, hf⟩ := bd_of hf
      have hPc := hP.sub (ws' := (k_J6_bitCount_0f7a4 T )) [] rfl
      have hDc := (mp_D_of (w1 := (k_X4_fewestPages T a_ a_holds a_lettersOf a_p1 a_p1_cellNames a_p1_secretNames a_p1_pageNames a_p1_speed a_p1_letters a_p1_room a_p1_now a_p1_rounds v_above v_below v_holds v_lettersOf v_p1_cells v_p1_secrets v_p1_pages v_p1_blind v_p1_rubs v_p1_letters v_p1_room)) hD rfl).sub (ws' := (k_J6_bitCount_0f7a4 T )) [] rfl rfl
      refine mp_calli (isC := []) (wc := (k_J6_bitCount_0f7a4 T )) (w1 := (k_J6_bitCount_0f7a4 T )) hP (mp_D_of hD rfl) hS hA rfl rfl (mp_runS (As := [.int z5]) (rest := []) X me_J6_bitCount_0f7a4 lk_X4_87 (c_J6_bitCount_0f7a4 l D T z5 r8 c9) rfl rfl ⟨(Nat.le_of_ble_eq_true rfl), (Nat.le_of_ble_eq_true rfl)⟩ hK hPc hDc rfl hl.1 rfl (Nat.le_of_ble_eq_true rfl) dX4_fewestPages_77 ⟨Nat.zero_le _, Nat.zero_le _⟩) (fun H locs hP _ hS => ?_)
      replace hP : va_P D mp_cl (k_X4_fewestPages T a_ a_holds a_lettersOf a_p1 a_p1_cellNames a_p1_secretNames a_p1_pageNames a_p1_speed a_p1_letters a_p1_room a_p1_now a_p1_rounds v_above v_below v_holds v_lettersOf v_p1_cells v_p1_secrets v_p1_pages v_p1_blind v_p1_rubs v_p1_letters v_p1_room) H := hP
      refine lv_istore (lv' := [(4, .int r8), (0, .ref a_), (1, .ref a_p1), (2, .int z2), (3, .int z3), (5, .int z5)]) hx hb dX4_fewestPages_80 hl (by decide) rfl (fun ls hl => ?_)
      refine lv_iload hx hb dX4_fewestPages_82 (lv_at hl 5 rfl) ?_
      refine lv_istore_n (lv' := [(3, .int z5), (4, .int r8), (0, .ref a_), (1, .ref a_p1), (2, .int z2), (5, .int z5)]) hx hb dX4_fewestPages_84 rfl hl (by decide) rfl (fun ls hl => ?_)
      obtain ⟨y10, e10⟩ : ∃ y : Int32, y = z5 + (nI 1) := ⟨_, rfl⟩
      replace hf := lt_of e10 hf
      refine lv_iinc (v := y10) (lv' := [(5, .int y10), (3, .int z5), (4, .int r8), (0, .ref a_), (1, .ref a_p1), (2, .int z2)]) hx hb dX4_fewestPages_85 hl (k := 5) rfl (by rw [e10]; rfl) (by decide) rfl (fun ls hl => ?_)
      refine lv_goto (tgt := 26) hx hb dX4_fewestPages_88 (by decide) ?_
      exact hK26 z2 z5 r8 y10 v_holds v_lettersOf hf _ _ _ hP (mp_D_of hD rfl) hS (lv_sub hl [3, 4, 5, 1, 2, 0] rfl)

set_option maxHeartbeats 4000000 in
set_option maxRecDepth 100000 in
theorem w_X4_fewestPages_26 {p : Program} {l : Launch} {e : Env} {s : State} {m : MethodId} {args : Array Value} {below : List Frame} {meth : Method} {c : Code} {D : va_G} {T : Nat → ClassId} {A : Nat → Prop} (X : mp_X p s m meth c args RX4 "fewestPages" cX4_fewestPages 6 (some .int)) (hK : va_K D mp_cl (mp_ty T) s) (hA : ∀ q, s.heap.size ≤ q → A q) (fu : Nat) (a_ a_holds a_lettersOf a_p1 a_p1_cellNames a_p1_secretNames a_p1_pageNames a_p1_speed a_p1_letters a_p1_room a_p1_now a_p1_rounds : Nat) (v_above : Int64) (v_below : Int64) (v_p1_cells : Int32) (v_p1_blind : Int32) (v_p1_rubs : Int32) (v_p1_secrets : Int32) (v_p1_pages : Int32) (v_p1_letters : (Nat → Int32)) (v_p1_room : (Nat → Int32)) (r_ : Int32) (o_holds : (Nat → Int64)) (o_lettersOf : (Nat → Int32)) :
    ∀ (n : Nat) (z2 : Int32) (z3 : Int32) (z4 : Int32) (z5 : Int32) (v_holds : (Nat → Int64)) (v_lettersOf : (Nat → Int32)), f_X4_fewestPages_26 fu v_p1_secrets v_p1_pages v_p1_letters v_p1_room  n z2 z3 z4 z5 v_holds v_lettersOf = some (r_, o_holds, o_lettersOf) → ∀ (H : Heap) (locs : List Loc) (ls : Array Slot), va_P D mp_cl (k_X4_fewestPages T a_ a_holds a_lettersOf a_p1 a_p1_cellNames a_p1_secretNames a_p1_pageNames a_p1_speed a_p1_letters a_p1_room a_p1_now a_p1_rounds v_above v_below v_holds v_lettersOf v_p1_cells v_p1_secrets v_p1_pages v_p1_blind v_p1_rubs v_p1_letters v_p1_room) H → va_D A (k_X4_fewestPages T a_ a_holds a_lettersOf a_p1 a_p1_cellNames a_p1_secretNames a_p1_pageNames a_p1_speed a_p1_letters a_p1_room a_p1_now a_p1_rounds v_above v_below v_holds v_lettersOf v_p1_cells v_p1_secrets v_p1_pages v_p1_blind v_p1_rubs v_p1_letters v_p1_room) → va_S A s.heap H locs → lv_has ls 6 [(0, .ref a_), (1, .ref a_p1), (2, .int z2), (3, .int z3), (4, .int z4), (5, .int z5)] → W p l e ({ frames := 2, cells := 0, slots := 0, locals := 56 }) s m args below meth c H locs 0 0 (MQ below ((mp_Qi D r_ (k_X4_fewestPages T a_ a_holds a_lettersOf a_p1 a_p1_cellNames a_p1_secretNames a_p1_pageNames a_p1_speed a_p1_letters a_p1_room a_p1_now a_p1_rounds v_above v_below o_holds o_lettersOf v_p1_cells v_p1_secrets v_p1_pages v_p1_blind v_p1_rubs v_p1_letters v_p1_room)) A) args s 0 0 A) (F0 m 26 ls []) := by
  have hx := X.1
  have hb := X.2.1
  have hml := X.2.2.1
  have hown := X.2.2.2.2.1
  have hts := X.2.2.2.2.2.1
  intro n
  induction n with
  | zero => intro z2 z3 z4 z5 v_holds v_lettersOf hf; exact absurd hf (by intro h; cases h)
  | succ n ih =>
    intro z2 z3 z4 z5 v_holds v_lettersOf hf H locs ls hP hD hS hl
    replace hf : (if ((nI 1) <<< (v_p1_pages &&& (31 : Int32))) ≤ z5 then some (z3, v_holds, v_lettersOf) else (if z5 ≤ 0 then f_X4_fewestPages_49 fu v_p1_secrets v_p1_pages v_p1_letters v_p1_room (f_X4_fewestPages_26 fu v_p1_secrets v_p1_pages v_p1_letters v_p1_room  n) z2 z3 z4 z5 v_holds v_lettersOf else bd_ (f_X4_fillHolds fu z5 v_holds v_lettersOf v_p1_secrets v_p1_room) (fun (u3 : (Nat → Int64)) => f_X4_fewestPages_49 fu v_p1_secrets v_p1_pages v_p1_letters v_p1_room (f_X4_fewestPages_26 fu v_p1_secrets v_p1_pages v_p1_letters v_p1_room  n) z2 z3 z4 z5 u3 v_lettersOf))) = some (r_, o_holds, o_lettersOf) := hf
    refine lv_iload hx hb dX4_fewestPages_26 (lv_at hl 5 rfl) ?_
    refine lv_iconst (v := (nI 1)) hx hb dX4_fewestPages_28 (by decide) ?_
    refine lv_aload_n hx hb dX4_fewestPages_29 rfl (lv_at hl 1 rfl) ?_
    refine mp_get X fl_X4_30 hK hP 3 rfl rfl dX4_fewestPages_30 ?_
    refine lv_ishl hx hb dX4_fewestPages_33 ?_
    refine lv_icmp_ge (tgt := 91) hx hb dX4_fewestPages_34 (by decide) (fun h1 => ?_) (fun h1 => ?_)
    · replace hf := if_t hf h1
      refine lv_iload_n hx hb dX4_fewestPages_91 rfl (lv_at hl 3 rfl) ?_
      cases hf
      exact mp_reti X hP hS rfl dX4_fewestPages_92
    · replace hf := if_f hf h1
      refine lv_iload hx hb dX4_fewestPages_37 (lv_at hl 5 rfl) ?_
      refine lv_if_le (tgt := 49) hx hb dX4_fewestPages_39 (by decide) (fun h2 => ?_) (fun h2 => ?_)
      · replace hf := if_t hf h2
        exact w_X4_fewestPages_49 X hK hA  fu a_ a_holds a_lettersOf a_p1 a_p1_cellNames a_p1_secretNames a_p1_pageNames a_p1_speed a_p1_letters a_p1_room a_p1_now a_p1_rounds v_above v_below v_p1_cells v_p1_blind v_p1_rubs v_p1_secrets v_p1_pages v_p1_letters v_p1_room r_ o_holds o_lettersOf  (f_X4_fewestPages_26 fu v_p1_secrets v_p1_pages v_p1_letters v_p1_room  n) (ih) z2 z3 z4 z5 v_holds v_lettersOf hf _ _ _ hP (mp_D_of hD rfl) hS (lv_sub hl [0, 1, 2, 3, 4, 5] rfl)
      · replace hf := if_f hf h2
        refine lv_aload_n hx hb dX4_fewestPages_42 rfl (lv_at hl 0 rfl) ?_
        refine lv_aload_n hx hb dX4_fewestPages_43 rfl (lv_at hl 1 rfl) ?_
        refine lv_iload hx hb dX4_fewestPages_44 (lv_at hl 5 rfl) ?_
        obtain ⟨u3, c4, hf⟩ := bd_of hf
        have hPc := hP.sub (ws' := (k_X4_fillHolds T a_ a_holds a_lettersOf a_p1 a_p1_cellNames a_p1_secretNames a_p1_pageNames a_p1_speed a_p1_letters a_p1_room a_p1_now a_p1_rounds v_above v_below v_holds v_lettersOf v_p1_cells v_p1_secrets v_p1_pages v_p1_blind v_p1_rubs v_p1_room)) [0, 1, 2, 3, 5] rfl
        have hDc := (mp_D_of (w1 := (k_X4_fewestPages T a_ a_holds a_lettersOf a_p1 a_p1_cellNames a_p1_secretNames a_p1_pageNames a_p1_speed a_p1_letters a_p1_room a_p1_now a_p1_rounds v_above v_below v_holds v_lettersOf v_p1_cells v_p1_secrets v_p1_pages v_p1_blind v_p1_rubs v_p1_letters v_p1_room)) hD rfl).sub (ws' := (k_X4_fillHolds T a_ a_holds a_lettersOf a_p1 a_p1_cellNames a_p1_secretNames a_p1_pageNames a_p1_speed a_p1_letters a_p1_room a_p1_now a_p1_rounds v_above v_below v_holds v_lettersOf v_p1_cells v_p1_secrets v_p1_pages v_p1_blind v_p1_rubs v_p1_room)) [0, 1, 2, 3, 5] rfl rfl
        refine mp_callv (isC := [0, 1, 2, 3, 5]) (wc := (k_X4_fillHolds T a_ a_holds a_lettersOf a_p1 a_p1_cellNames a_p1_secretNames a_p1_pageNames a_p1_speed a_p1_letters a_p1_room a_p1_now a_p1_rounds v_above v_below v_holds v_lettersOf v_p1_cells v_p1_secrets v_p1_pages v_p1_blind v_p1_rubs v_p1_room)) (w1 := (k_X4_fillHolds T a_ a_holds a_lettersOf a_p1 a_p1_cellNames a_p1_secretNames a_p1_pageNames a_p1_speed a_p1_letters a_p1_room a_p1_now a_p1_rounds v_above v_below u3 v_lettersOf v_p1_cells v_p1_secrets v_p1_pages v_p1_blind v_p1_rubs v_p1_room)) hP (mp_D_of hD rfl) hS hA rfl rfl (mp_runV (As := [.ref a_p1, .int z5]) (rest := []) X me_X4_fillHolds lk_X4_83 (c_X4_fillHolds l D T fu a_ a_holds a_lettersOf a_p1 a_p1_cellNames a_p1_secretNames a_p1_pageNames a_p1_speed a_p1_letters a_p1_room a_p1_now a_p1_rounds z5 v_above v_below v_p1_cells v_p1_pages v_p1_blind v_p1_rubs v_holds v_lettersOf v_p1_secrets v_p1_room u3 c4) rfl rfl ⟨(Nat.le_of_ble_eq_true rfl), (Nat.le_of_ble_eq_true rfl)⟩ hK hPc hDc rfl rfl rfl rfl hl.1 rfl (Nat.le_of_ble_eq_true rfl) dX4_fewestPages_46 ⟨Nat.zero_le _, Nat.zero_le _⟩) (fun H locs hP _ hS => ?_)
        replace hP : va_P D mp_cl (k_X4_fewestPages T a_ a_holds a_lettersOf a_p1 a_p1_cellNames a_p1_secretNames a_p1_pageNames a_p1_speed a_p1_letters a_p1_room a_p1_now a_p1_rounds v_above v_below u3 v_lettersOf v_p1_cells v_p1_secrets v_p1_pages v_p1_blind v_p1_rubs v_p1_letters v_p1_room) H := hP
        exact w_X4_fewestPages_49 X hK hA  fu a_ a_holds a_lettersOf a_p1 a_p1_cellNames a_p1_secretNames a_p1_pageNames a_p1_speed a_p1_letters a_p1_room a_p1_now a_p1_rounds v_above v_below v_p1_cells v_p1_blind v_p1_rubs v_p1_secrets v_p1_pages v_p1_letters v_p1_room r_ o_holds o_lettersOf  (f_X4_fewestPages_26 fu v_p1_secrets v_p1_pages v_p1_letters v_p1_room  n) (ih) z2 z3 z4 z5 u3 v_lettersOf hf _ _ _ hP (mp_D_of hD rfl) hS (lv_sub hl [0, 1, 2, 3, 4, 5] rfl)

set_option maxHeartbeats 4000000 in
set_option maxRecDepth 100000 in
theorem c_X4_fewestPages (l : Launch) (D : va_G) (T : Nat → ClassId) (fu : Nat) (a_ a_holds a_lettersOf a_p1 a_p1_cellNames a_p1_secretNames a_p1_pageNames a_p1_speed a_p1_letters a_p1_room a_p1_now a_p1_rounds : Nat) (v_above : Int64) (v_below : Int64) (v_p1_cells : Int32) (v_p1_blind : Int32) (v_p1_rubs : Int32) (v_holds : (Nat → Int64)) (v_lettersOf : (Nat → Int32)) (v_p1_secrets : Int32) (v_p1_pages : Int32) (v_p1_letters : (Nat → Int32)) (v_p1_room : (Nat → Int32)) (r_ : Int32) (o_holds : (Nat → Int64)) (o_lettersOf : (Nat → Int32)) (hf : f_X4_fewestPages fu v_holds v_lettersOf v_p1_secrets v_p1_pages v_p1_letters v_p1_room = some (r_, o_holds, o_lettersOf)) :
    mp_M l D T yX4_fewestPages cX4_fewestPages 6 (some .int) ({ frames := 2, cells := 0, slots := 0, locals := 56 }) 0 0 [.ref a_, .ref a_p1] (k_X4_fewestPages T a_ a_holds a_lettersOf a_p1 a_p1_cellNames a_p1_secretNames a_p1_pageNames a_p1_speed a_p1_letters a_p1_room a_p1_now a_p1_rounds v_above v_below v_holds v_lettersOf v_p1_cells v_p1_secrets v_p1_pages v_p1_blind v_p1_rubs v_p1_letters v_p1_room) (mp_Qi D r_ (k_X4_fewestPages T a_ a_holds a_lettersOf a_p1 a_p1_cellNames a_p1_secretNames a_p1_pageNames a_p1_speed a_p1_letters a_p1_room a_p1_now a_p1_rounds v_above v_below o_holds o_lettersOf v_p1_cells v_p1_secrets v_p1_pages v_p1_blind v_p1_rubs v_p1_letters v_p1_room)) := by
  refine mp_of (by decide) (Nat.le_of_ble_eq_true rfl) rfl ?_
  intro p e s m args below meth c A ls X hK hP hD hS hA hl
  replace X : mp_X p s m meth c args RX4 "fewestPages" cX4_fewestPages 6 (some .int) := X
  have hx := X.1
  have hb := X.2.1
  have hml := X.2.2.1
  have hown := X.2.2.2.2.1
  have hts := X.2.2.2.2.2.1
  replace hl : lv_has ls 6 [(0, .ref a_), (1, .ref a_p1)] := hl
  replace hf : bd_ (f_X4_sumLetters fu v_lettersOf v_p1_secrets v_p1_letters) (fun (u1 : (Nat → Int32)) => bd_ (f_X1_allSecrets v_p1_secrets) (fun (r3 : Int32) => gi_ (nI 0) 64 (f_X4_fewestPages_26 fu v_p1_secrets v_p1_pages v_p1_letters v_p1_room  fu r3 (-1 : Int32) (nI 7) (nI 0) (vp_updL v_holds ((nI 0)).toNatClampNeg (lN 1)) u1))) = some (r_, o_holds, o_lettersOf) := hf
  refine lv_aload_n hx hb dX4_fewestPages_0 rfl (lv_at hl 0 rfl) ?_
  refine lv_aload_n hx hb dX4_fewestPages_1 rfl (lv_at hl 1 rfl) ?_
  obtain ⟨u1, c2, hf⟩ := bd_of hf
  have hPc := hP.sub (ws' := (k_X4_sumLetters T a_ a_holds a_lettersOf a_p1 a_p1_cellNames a_p1_secretNames a_p1_pageNames a_p1_speed a_p1_letters a_p1_room a_p1_now a_p1_rounds v_above v_below v_lettersOf v_p1_cells v_p1_secrets v_p1_pages v_p1_blind v_p1_rubs v_p1_letters)) [0, 2, 3, 4] rfl
  have hDc := (mp_D_of (w1 := (k_X4_fewestPages T a_ a_holds a_lettersOf a_p1 a_p1_cellNames a_p1_secretNames a_p1_pageNames a_p1_speed a_p1_letters a_p1_room a_p1_now a_p1_rounds v_above v_below v_holds v_lettersOf v_p1_cells v_p1_secrets v_p1_pages v_p1_blind v_p1_rubs v_p1_letters v_p1_room)) hD rfl).sub (ws' := (k_X4_sumLetters T a_ a_holds a_lettersOf a_p1 a_p1_cellNames a_p1_secretNames a_p1_pageNames a_p1_speed a_p1_letters a_p1_room a_p1_now a_p1_rounds v_above v_below v_lettersOf v_p1_cells v_p1_secrets v_p1_pages v_p1_blind v_p1_rubs v_p1_letters)) [0, 2, 3, 4] rfl rfl
  refine mp_callv (isC := [0, 2, 3, 4]) (wc := (k_X4_sumLetters T a_ a_holds a_lettersOf a_p1 a_p1_cellNames a_p1_secretNames a_p1_pageNames a_p1_speed a_p1_letters a_p1_room a_p1_now a_p1_rounds v_above v_below v_lettersOf v_p1_cells v_p1_secrets v_p1_pages v_p1_blind v_p1_rubs v_p1_letters)) (w1 := (k_X4_sumLetters T a_ a_holds a_lettersOf a_p1 a_p1_cellNames a_p1_secretNames a_p1_pageNames a_p1_speed a_p1_letters a_p1_room a_p1_now a_p1_rounds v_above v_below u1 v_p1_cells v_p1_secrets v_p1_pages v_p1_blind v_p1_rubs v_p1_letters)) hP (mp_D_of hD rfl) hS hA rfl rfl (mp_runV (As := [.ref a_p1]) (rest := []) X me_X4_sumLetters lk_X4_75 (c_X4_sumLetters l D T fu a_ a_holds a_lettersOf a_p1 a_p1_cellNames a_p1_secretNames a_p1_pageNames a_p1_speed a_p1_letters a_p1_room a_p1_now a_p1_rounds v_above v_below v_p1_cells v_p1_pages v_p1_blind v_p1_rubs v_lettersOf v_p1_secrets v_p1_letters u1 c2) rfl rfl ⟨(Nat.le_of_ble_eq_true rfl), (Nat.le_of_ble_eq_true rfl)⟩ hK hPc hDc rfl rfl rfl rfl hl.1 rfl (Nat.le_of_ble_eq_true rfl) dX4_fewestPages_2 ⟨Nat.zero_le _, Nat.zero_le _⟩) (fun H locs hP _ hS => ?_)
  replace hP : va_P D mp_cl (k_X4_fewestPages T a_ a_holds a_lettersOf a_p1 a_p1_cellNames a_p1_secretNames a_p1_pageNames a_p1_speed a_p1_letters a_p1_room a_p1_now a_p1_rounds v_above v_below v_holds u1 v_p1_cells v_p1_secrets v_p1_pages v_p1_blind v_p1_rubs v_p1_letters v_p1_room) H := hP
  refine lv_aload_n hx hb dX4_fewestPages_5 rfl (lv_at hl 1 rfl) ?_
  obtain ⟨r3, c4, hf⟩ := bd_of hf
  have hPc := hP.sub (ws' := (k_X1_allSecrets T a_p1 a_p1_cellNames a_p1_secretNames a_p1_pageNames a_p1_speed a_p1_letters a_p1_room a_p1_now a_p1_rounds v_p1_cells v_p1_secrets v_p1_pages v_p1_blind v_p1_rubs)) [3] rfl
  have hDc := (mp_D_of (w1 := (k_X4_fewestPages T a_ a_holds a_lettersOf a_p1 a_p1_cellNames a_p1_secretNames a_p1_pageNames a_p1_speed a_p1_letters a_p1_room a_p1_now a_p1_rounds v_above v_below v_holds u1 v_p1_cells v_p1_secrets v_p1_pages v_p1_blind v_p1_rubs v_p1_letters v_p1_room)) hD rfl).sub (ws' := (k_X1_allSecrets T a_p1 a_p1_cellNames a_p1_secretNames a_p1_pageNames a_p1_speed a_p1_letters a_p1_room a_p1_now a_p1_rounds v_p1_cells v_p1_secrets v_p1_pages v_p1_blind v_p1_rubs)) [3] rfl rfl
  refine mp_calli (isC := [3]) (wc := (k_X1_allSecrets T a_p1 a_p1_cellNames a_p1_secretNames a_p1_pageNames a_p1_speed a_p1_letters a_p1_room a_p1_now a_p1_rounds v_p1_cells v_p1_secrets v_p1_pages v_p1_blind v_p1_rubs)) (w1 := (k_X1_allSecrets T a_p1 a_p1_cellNames a_p1_secretNames a_p1_pageNames a_p1_speed a_p1_letters a_p1_room a_p1_now a_p1_rounds v_p1_cells v_p1_secrets v_p1_pages v_p1_blind v_p1_rubs)) hP (mp_D_of hD rfl) hS hA rfl rfl (mp_runV (As := []) (rest := []) X me_X1_allSecrets lk_X4_79 (c_X1_allSecrets l D T a_p1 a_p1_cellNames a_p1_secretNames a_p1_pageNames a_p1_speed a_p1_letters a_p1_room a_p1_now a_p1_rounds v_p1_cells v_p1_pages v_p1_blind v_p1_rubs v_p1_secrets r3 c4) rfl rfl ⟨(Nat.le_of_ble_eq_true rfl), (Nat.le_of_ble_eq_true rfl)⟩ hK hPc hDc rfl rfl rfl rfl hl.1 rfl (Nat.le_of_ble_eq_true rfl) dX4_fewestPages_6 ⟨Nat.zero_le _, Nat.zero_le _⟩) (fun H locs hP _ hS => ?_)
  replace hP : va_P D mp_cl (k_X4_fewestPages T a_ a_holds a_lettersOf a_p1 a_p1_cellNames a_p1_secretNames a_p1_pageNames a_p1_speed a_p1_letters a_p1_room a_p1_now a_p1_rounds v_above v_below v_holds u1 v_p1_cells v_p1_secrets v_p1_pages v_p1_blind v_p1_rubs v_p1_letters v_p1_room) H := hP
  refine lv_istore_n (lv' := [(2, .int r3), (0, .ref a_), (1, .ref a_p1)]) hx hb dX4_fewestPages_9 rfl hl (by decide) rfl (fun ls hl => ?_)
  refine lv_iconst (v := (-1 : Int32)) hx hb dX4_fewestPages_10 (by decide) ?_
  refine lv_istore_n (lv' := [(3, .int (-1 : Int32)), (2, .int r3), (0, .ref a_), (1, .ref a_p1)]) hx hb dX4_fewestPages_11 rfl hl (by decide) rfl (fun ls hl => ?_)
  refine lv_bipush (v := (nI 7)) hx hb dX4_fewestPages_12 (by decide) ?_
  refine lv_istore (lv' := [(4, .int (nI 7)), (3, .int (-1 : Int32)), (2, .int r3), (0, .ref a_), (1, .ref a_p1)]) hx hb dX4_fewestPages_14 hl (by decide) rfl (fun ls hl => ?_)
  refine lv_aload_n hx hb dX4_fewestPages_16 rfl (lv_at hl 3 rfl) ?_
  refine mp_get X fl_X4_18 hK hP 0 rfl rfl dX4_fewestPages_17 ?_
  refine lv_iconst (v := (nI 0)) hx hb dX4_fewestPages_20 (by decide) ?_
  refine lv_lconst (v := (lN 1)) hx hb dX4_fewestPages_21 (by decide) ?_
  obtain ⟨h5, hf⟩ := gi_of hf
  refine va_last hx hb hK hP (mp_D_of hD rfl) hS 1 1 rfl rfl h5 dX4_fewestPages_22 (fun H locs hP _ hS => ?_)
  replace hP : va_P D mp_cl (k_X4_fewestPages T a_ a_holds a_lettersOf a_p1 a_p1_cellNames a_p1_secretNames a_p1_pageNames a_p1_speed a_p1_letters a_p1_room a_p1_now a_p1_rounds v_above v_below (vp_updL v_holds ((nI 0)).toNatClampNeg (lN 1)) u1 v_p1_cells v_p1_secrets v_p1_pages v_p1_blind v_p1_rubs v_p1_letters v_p1_room) H := hP
  refine lv_iconst (v := (nI 0)) hx hb dX4_fewestPages_23 (by decide) ?_
  refine lv_istore (lv' := [(5, .int (nI 0)), (4, .int (nI 7)), (3, .int (-1 : Int32)), (2, .int r3), (0, .ref a_), (1, .ref a_p1)]) hx hb dX4_fewestPages_24 hl (by decide) rfl (fun ls hl => ?_)
  exact w_X4_fewestPages_26 X hK hA  fu a_ a_holds a_lettersOf a_p1 a_p1_cellNames a_p1_secretNames a_p1_pageNames a_p1_speed a_p1_letters a_p1_room a_p1_now a_p1_rounds v_above v_below v_p1_cells v_p1_blind v_p1_rubs v_p1_secrets v_p1_pages v_p1_letters v_p1_room r_ o_holds o_lettersOf   fu r3 (-1 : Int32) (nI 7) (nI 0) (vp_updL v_holds ((nI 0)).toNatClampNeg (lN 1)) u1 hf _ _ _ hP (mp_D_of hD rfl) hS (lv_sub hl [4, 5, 3, 2, 1, 0] rfl)


def k_X9_isKnown (T : Nat → ClassId) (a_ a_rows a_sorts a_lengths : Nat) : va_W := [(a_, oX9 a_rows a_sorts a_lengths)]
set_option maxHeartbeats 4000000 in
set_option maxRecDepth 100000 in
theorem c_X9_isKnown (l : Launch) (D : va_G) (T : Nat → ClassId) (a_ a_rows a_sorts a_lengths : Nat) (x1 : Int32) (r_ : Int32) (hf : f_X9_isKnown x1 = some r_) :
    mp_M l D T yX9_isKnown cX9_isKnown 2 (some .boolean) ({ frames := 0, cells := 0, slots := 0, locals := 0 }) 0 0 [.ref a_, .int x1] (k_X9_isKnown T a_ a_rows a_sorts a_lengths) (mp_Qi D r_ (k_X9_isKnown T a_ a_rows a_sorts a_lengths)) := by
  refine mp_of (by decide) (Nat.le_of_ble_eq_true rfl) rfl ?_
  intro p e s m args below meth c A ls X hK hP hD hS hA hl
  replace X : mp_X p s m meth c args RX9 "isKnown" cX9_isKnown 2 (some .boolean) := X
  have hx := X.1
  have hb := X.2.1
  have hml := X.2.2.1
  have hown := X.2.2.2.2.1
  have hts := X.2.2.2.2.2.1
  replace hl : lv_has ls 2 [(0, .ref a_), (1, .int x1)] := hl
  replace hf : (if x1 < 0 then some ((nI 0)) else (if (nI 4) ≤ x1 then some ((nI 0)) else some ((nI 1)))) = some r_ := hf
  refine lv_iload_n hx hb dX9_isKnown_0 rfl (lv_at hl 1 rfl) ?_
  refine lv_if_lt (tgt := 13) hx hb dX9_isKnown_1 (by decide) (fun h1 => ?_) (fun h1 => ?_)
  · replace hf := if_t hf h1
    refine lv_iconst (v := (nI 0)) hx hb dX9_isKnown_13 (by decide) ?_
    cases hf
    exact mp_retz X hP hS rfl (Or.inl rfl) dX9_isKnown_14
  · replace hf := if_f hf h1
    refine lv_iload_n hx hb dX9_isKnown_4 rfl (lv_at hl 1 rfl) ?_
    refine lv_iconst (v := (nI 4)) hx hb dX9_isKnown_5 (by decide) ?_
    refine lv_icmp_ge (tgt := 13) hx hb dX9_isKnown_6 (by decide) (fun h2 => ?_) (fun h2 => ?_)
    · replace hf := if_t hf h2
      refine lv_iconst (v := (nI 0)) hx hb dX9_isKnown_13 (by decide) ?_
      cases hf
      exact mp_retz X hP hS rfl (Or.inl rfl) dX9_isKnown_14
    · replace hf := if_f hf h2
      refine lv_iconst (v := (nI 1)) hx hb dX9_isKnown_9 (by decide) ?_
      refine lv_goto (tgt := 14) hx hb dX9_isKnown_10 (by decide) ?_
      cases hf
      exact mp_retz X hP hS rfl (Or.inr rfl) dX9_isKnown_14


def k_X9_isMissing (T : Nat → ClassId) (a_ a_rows a_sorts a_lengths : Nat) (v_lengths : (Nat → Int32)) : va_W := [(a_, oX9 a_rows a_sorts a_lengths), (a_lengths, mp_aI T 4 v_lengths)]
set_option maxHeartbeats 4000000 in
set_option maxRecDepth 100000 in
theorem c_X9_isMissing (l : Launch) (D : va_G) (T : Nat → ClassId) (a_ a_rows a_sorts a_lengths : Nat) (x1 : Int32) (v_lengths : (Nat → Int32)) (r_ : Int32) (hf : f_X9_isMissing x1 v_lengths = some r_) :
    mp_M l D T yX9_isMissing cX9_isMissing 2 (some .boolean) ({ frames := 0, cells := 0, slots := 0, locals := 0 }) 0 0 [.ref a_, .int x1] (k_X9_isMissing T a_ a_rows a_sorts a_lengths v_lengths) (mp_Qi D r_ (k_X9_isMissing T a_ a_rows a_sorts a_lengths v_lengths)) := by
  refine mp_of (by decide) (Nat.le_of_ble_eq_true rfl) rfl ?_
  intro p e s m args below meth c A ls X hK hP hD hS hA hl
  replace X : mp_X p s m meth c args RX9 "isMissing" cX9_isMissing 2 (some .boolean) := X
  have hx := X.1
  have hb := X.2.1
  have hml := X.2.2.1
  have hown := X.2.2.2.2.1
  have hts := X.2.2.2.2.2.1
  replace hl : lv_has ls 2 [(0, .ref a_), (1, .int x1)] := hl
  replace hf : gi_ x1 4 ((if (v_lengths (x1).toNatClampNeg) = (-1 : Int32) then some ((nI 1)) else some ((nI 0)))) = some r_ := hf
  refine lv_aload_n hx hb dX9_isMissing_0 rfl (lv_at hl 0 rfl) ?_
  refine mp_get X fl_X9_20 hK hP 0 rfl rfl dX9_isMissing_1 ?_
  refine lv_iload_n hx hb dX9_isMissing_4 rfl (lv_at hl 1 rfl) ?_
  obtain ⟨h1, hf⟩ := gi_of hf
  refine va_iald hx hb hK hP 1 0 rfl rfl h1 dX9_isMissing_5 ?_
  refine lv_iconst (v := (-1 : Int32)) hx hb dX9_isMissing_6 (by decide) ?_
  refine lv_icmp_ne (tgt := 14) hx hb dX9_isMissing_7 (by decide) (fun h2 => ?_) (fun h2 => ?_)
  · replace hf := if_f hf h2
    refine lv_iconst (v := (nI 0)) hx hb dX9_isMissing_14 (by decide) ?_
    cases hf
    exact mp_retz X hP hS rfl (Or.inl rfl) dX9_isMissing_15
  · replace hf := if_t hf h2
    refine lv_iconst (v := (nI 1)) hx hb dX9_isMissing_10 (by decide) ?_
    refine lv_goto (tgt := 15) hx hb dX9_isMissing_11 (by decide) ?_
    cases hf
    exact mp_retz X hP hS rfl (Or.inr rfl) dX9_isMissing_15


def k_X9_make (T : Nat → ClassId) (a_ a_rows a_sorts a_lengths a_rows_0 a_rows_1 a_rows_2 a_rows_3 : Nat) (v_lengths : (Nat → Int32)) (v_rows_0 : (Nat → Int64)) (v_rows_1 : (Nat → Int64)) (v_rows_2 : (Nat → Int64)) (v_rows_3 : (Nat → Int64)) (v_sorts : (Nat → Int32)) : va_W := [(a_, oX9 a_rows a_sorts a_lengths), (a_lengths, mp_aI T 4 v_lengths), (a_rows, mp_aR T 3 4 [a_rows_0, a_rows_1, a_rows_2, a_rows_3]), (a_rows_0, mp_aJ T 60 v_rows_0), (a_rows_1, mp_aJ T 60 v_rows_1), (a_rows_2, mp_aJ T 60 v_rows_2), (a_rows_3, mp_aJ T 60 v_rows_3), (a_sorts, mp_aI T 4 v_sorts)]
set_option maxHeartbeats 4000000 in
set_option maxRecDepth 100000 in
theorem c_X9_make (l : Launch) (D : va_G) (T : Nat → ClassId) (fu : Nat) (a_ a_rows a_sorts a_lengths a_rows_0 a_rows_1 a_rows_2 a_rows_3 : Nat) (x1 : Int32) (x2 : Int32) (x3 : Int32) (v_lengths : (Nat → Int32)) (v_rows_0 : (Nat → Int64)) (v_rows_1 : (Nat → Int64)) (v_rows_2 : (Nat → Int64)) (v_rows_3 : (Nat → Int64)) (v_sorts : (Nat → Int32)) (o_lengths : (Nat → Int32)) (o_rows_0 : (Nat → Int64)) (o_rows_1 : (Nat → Int64)) (o_rows_2 : (Nat → Int64)) (o_rows_3 : (Nat → Int64)) (o_sorts : (Nat → Int32)) (hf : f_X9_make fu x1 x2 x3 v_lengths v_rows_0 v_rows_1 v_rows_2 v_rows_3 v_sorts = some (o_lengths, o_rows_0, o_rows_1, o_rows_2, o_rows_3, o_sorts)) :
    mp_M l D T yX9_make cX9_make 4 none ({ frames := 1, cells := 0, slots := 0, locals := 24 }) 0 0 [.ref a_, .int x1, .int x2, .int x3] (k_X9_make T a_ a_rows a_sorts a_lengths a_rows_0 a_rows_1 a_rows_2 a_rows_3 v_lengths v_rows_0 v_rows_1 v_rows_2 v_rows_3 v_sorts) (mp_Qv D (k_X9_make T a_ a_rows a_sorts a_lengths a_rows_0 a_rows_1 a_rows_2 a_rows_3 o_lengths o_rows_0 o_rows_1 o_rows_2 o_rows_3 o_sorts)) := by
  refine mp_of (by decide) (Nat.le_of_ble_eq_true rfl) rfl ?_
  intro p e s m args below meth c A ls X hK hP hD hS hA hl
  replace X : mp_X p s m meth c args RX9 "make" cX9_make 4 none := X
  have hx := X.1
  have hb := X.2.1
  have hml := X.2.2.1
  have hown := X.2.2.2.2.1
  have hts := X.2.2.2.2.2.1
  replace hl : lv_has ls 4 [(0, .ref a_), (1, .int x1), (2, .int x2), (3, .int x3)] := hl
  replace hf : gi_ x1 4 ((if x1 = (nI 0) then bd_ (f_J7_fill_d0a16 fu 60 (lN 0) v_rows_0) (fun (u3 : (Nat → Int64)) => gi_ x1 4 (gi_ x1 4 (some (upd v_lengths (x1).toNatClampNeg x3, u3, v_rows_1, v_rows_2, v_rows_3, upd v_sorts (x1).toNatClampNeg x2)))) else (if x1 = (nI 1) then bd_ (f_J7_fill_d0a16 fu 60 (lN 0) v_rows_1) (fun (u8 : (Nat → Int64)) => gi_ x1 4 (gi_ x1 4 (some (upd v_lengths (x1).toNatClampNeg x3, v_rows_0, u8, v_rows_2, v_rows_3, upd v_sorts (x1).toNatClampNeg x2)))) else (if x1 = (nI 2) then bd_ (f_J7_fill_d0a16 fu 60 (lN 0) v_rows_2) (fun (u13 : (Nat → Int64)) => gi_ x1 4 (gi_ x1 4 (some (upd v_lengths (x1).toNatClampNeg x3, v_rows_0, v_rows_1, u13, v_rows_3, upd v_sorts (x1).toNatClampNeg x2)))) else bd_ (f_J7_fill_d0a16 fu 60 (lN 0) v_rows_3) (fun (u18 : (Nat → Int64)) => gi_ x1 4 (gi_ x1 4 (some (upd v_lengths (x1).toNatClampNeg x3, v_rows_0, v_rows_1, v_rows_2, u18, upd v_sorts (x1).toNatClampNeg x2)))))))) = some (o_lengths, o_rows_0, o_rows_1, o_rows_2, o_rows_3, o_sorts) := hf
  refine lv_aload_n hx hb dX9_make_0 rfl (lv_at hl 0 rfl) ?_
  refine mp_get X fl_X9_11 hK hP 0 rfl rfl dX9_make_1 ?_
  refine lv_iload_n hx hb dX9_make_4 rfl (lv_at hl 1 rfl) ?_
  obtain ⟨h1, hf⟩ := gi_of hf
  refine va_aldqA hx hb hK hP 2 3 rfl rfl h1 dX9_make_5 ?_
  by_cases h2 : x1 = (nI 0)
  · replace hf := if_t hf h2
    rw [show va_rf (mp_ol [a_rows_0, a_rows_1, a_rows_2, a_rows_3] (x1).toNatClampNeg) = .ref a_rows_0 from by rw [h2]; rfl]
    refine lv_lconst (v := (lN 0)) hx hb dX9_make_6 (by decide) ?_
    obtain ⟨u3, c4, hf⟩ := bd_of hf
    have hPc := hP.sub (ws' := (k_J7_fill_d0a16 T a_rows_0 60 v_rows_0)) [3] rfl
    have hDc := (mp_D_of (w1 := (k_X9_make T a_ a_rows a_sorts a_lengths a_rows_0 a_rows_1 a_rows_2 a_rows_3 v_lengths v_rows_0 v_rows_1 v_rows_2 v_rows_3 v_sorts)) hD rfl).sub (ws' := (k_J7_fill_d0a16 T a_rows_0 60 v_rows_0)) [3] rfl rfl
    refine mp_callv (isC := [3]) (wc := (k_J7_fill_d0a16 T a_rows_0 60 v_rows_0)) (w1 := (k_J7_fill_d0a16 T a_rows_0 60 u3)) hP (mp_D_of hD rfl) hS hA rfl rfl (mp_runS (As := [.ref a_rows_0, .long (lN 0)]) (rest := []) X me_J7_fill_d0a16 lk_X9_29 (c_J7_fill_d0a16 l D T fu a_rows_0 60 (lN 0) v_rows_0 u3 c4) rfl rfl ⟨(Nat.le_of_ble_eq_true rfl), (Nat.le_of_ble_eq_true rfl)⟩ hK hPc hDc rfl hl.1 rfl (Nat.le_of_ble_eq_true rfl) dX9_make_7 ⟨Nat.zero_le _, Nat.zero_le _⟩) (fun H locs hP _ hS => ?_)
    replace hP : va_P D mp_cl (k_X9_make T a_ a_rows a_sorts a_lengths a_rows_0 a_rows_1 a_rows_2 a_rows_3 v_lengths u3 v_rows_1 v_rows_2 v_rows_3 v_sorts) H := hP
    refine lv_aload_n hx hb dX9_make_10 rfl (lv_at hl 0 rfl) ?_
    refine mp_get X fl_X9_16 hK hP 0 rfl rfl dX9_make_11 ?_
    refine lv_iload_n hx hb dX9_make_14 rfl (lv_at hl 1 rfl) ?_
    refine lv_iload_n hx hb dX9_make_15 rfl (lv_at hl 2 rfl) ?_
    obtain ⟨h5, hf⟩ := gi_of hf
    refine va_iast hx hb hK hP (mp_D_of hD rfl) hS 7 0 rfl rfl h5 dX9_make_16 (fun H locs hP _ hS => ?_)
    replace hP : va_P D mp_cl (k_X9_make T a_ a_rows a_sorts a_lengths a_rows_0 a_rows_1 a_rows_2 a_rows_3 v_lengths u3 v_rows_1 v_rows_2 v_rows_3 (upd v_sorts (x1).toNatClampNeg x2)) H := hP
    refine lv_aload_n hx hb dX9_make_17 rfl (lv_at hl 0 rfl) ?_
    refine mp_get X fl_X9_20 hK hP 0 rfl rfl dX9_make_18 ?_
    refine lv_iload_n hx hb dX9_make_21 rfl (lv_at hl 1 rfl) ?_
    refine lv_iload_n hx hb dX9_make_22 rfl (lv_at hl 3 rfl) ?_
    obtain ⟨h6, hf⟩ := gi_of hf
    refine va_iast hx hb hK hP (mp_D_of hD rfl) hS 1 0 rfl rfl h6 dX9_make_23 (fun H locs hP _ hS => ?_)
    replace hP : va_P D mp_cl (k_X9_make T a_ a_rows a_sorts a_lengths a_rows_0 a_rows_1 a_rows_2 a_rows_3 (upd v_lengths (x1).toNatClampNeg x3) u3 v_rows_1 v_rows_2 v_rows_3 (upd v_sorts (x1).toNatClampNeg x2)) H := hP
    cases hf
    exact mp_retv X hP hS dX9_make_24
  replace hf := if_f hf h2
  by_cases h7 : x1 = (nI 1)
  · replace hf := if_t hf h7
    rw [show va_rf (mp_ol [a_rows_0, a_rows_1, a_rows_2, a_rows_3] (x1).toNatClampNeg) = .ref a_rows_1 from by rw [h7]; rfl]
    refine lv_lconst (v := (lN 0)) hx hb dX9_make_6 (by decide) ?_
    obtain ⟨u8, c9, hf⟩ := bd_of hf
    have hPc := hP.sub (ws' := (k_J7_fill_d0a16 T a_rows_1 60 v_rows_1)) [4] rfl
    have hDc := (mp_D_of (w1 := (k_X9_make T a_ a_rows a_sorts a_lengths a_rows_0 a_rows_1 a_rows_2 a_rows_3 v_lengths v_rows_0 v_rows_1 v_rows_2 v_rows_3 v_sorts)) hD rfl).sub (ws' := (k_J7_fill_d0a16 T a_rows_1 60 v_rows_1)) [4] rfl rfl
    refine mp_callv (isC := [4]) (wc := (k_J7_fill_d0a16 T a_rows_1 60 v_rows_1)) (w1 := (k_J7_fill_d0a16 T a_rows_1 60 u8)) hP (mp_D_of hD rfl) hS hA rfl rfl (mp_runS (As := [.ref a_rows_1, .long (lN 0)]) (rest := []) X me_J7_fill_d0a16 lk_X9_29 (c_J7_fill_d0a16 l D T fu a_rows_1 60 (lN 0) v_rows_1 u8 c9) rfl rfl ⟨(Nat.le_of_ble_eq_true rfl), (Nat.le_of_ble_eq_true rfl)⟩ hK hPc hDc rfl hl.1 rfl (Nat.le_of_ble_eq_true rfl) dX9_make_7 ⟨Nat.zero_le _, Nat.zero_le _⟩) (fun H locs hP _ hS => ?_)
    replace hP : va_P D mp_cl (k_X9_make T a_ a_rows a_sorts a_lengths a_rows_0 a_rows_1 a_rows_2 a_rows_3 v_lengths v_rows_0 u8 v_rows_2 v_rows_3 v_sorts) H := hP
    refine lv_aload_n hx hb dX9_make_10 rfl (lv_at hl 0 rfl) ?_
    refine mp_get X fl_X9_16 hK hP 0 rfl rfl dX9_make_11 ?_
    refine lv_iload_n hx hb dX9_make_14 rfl (lv_at hl 1 rfl) ?_
    refine lv_iload_n hx hb dX9_make_15 rfl (lv_at hl 2 rfl) ?_
    obtain ⟨h10, hf⟩ := gi_of hf
    refine va_iast hx hb hK hP (mp_D_of hD rfl) hS 7 0 rfl rfl h10 dX9_make_16 (fun H locs hP _ hS => ?_)
    replace hP : va_P D mp_cl (k_X9_make T a_ a_rows a_sorts a_lengths a_rows_0 a_rows_1 a_rows_2 a_rows_3 v_lengths v_rows_0 u8 v_rows_2 v_rows_3 (upd v_sorts (x1).toNatClampNeg x2)) H := hP
    refine lv_aload_n hx hb dX9_make_17 rfl (lv_at hl 0 rfl) ?_
    refine mp_get X fl_X9_20 hK hP 0 rfl rfl dX9_make_18 ?_
    refine lv_iload_n hx hb dX9_make_21 rfl (lv_at hl 1 rfl) ?_
    refine lv_iload_n hx hb dX9_make_22 rfl (lv_at hl 3 rfl) ?_
    obtain ⟨h11, hf⟩ := gi_of hf
    refine va_iast hx hb hK hP (mp_D_of hD rfl) hS 1 0 rfl rfl h11 dX9_make_23 (fun H locs hP _ hS => ?_)
    replace hP : va_P D mp_cl (k_X9_make T a_ a_rows a_sorts a_lengths a_rows_0 a_rows_1 a_rows_2 a_rows_3 (upd v_lengths (x1).toNatClampNeg x3) v_rows_0 u8 v_rows_2 v_rows_3 (upd v_sorts (x1).toNatClampNeg x2)) H := hP
    cases hf
    exact mp_retv X hP hS dX9_make_24
  replace hf := if_f hf h7
  by_cases h12 : x1 = (nI 2)
  · replace hf := if_t hf h12
    rw [show va_rf (mp_ol [a_rows_0, a_rows_1, a_rows_2, a_rows_3] (x1).toNatClampNeg) = .ref a_rows_2 from by rw [h12]; rfl]
    refine lv_lconst (v := (lN 0)) hx hb dX9_make_6 (by decide) ?_
    obtain ⟨u13, c14, hf⟩ := bd_of hf
    have hPc := hP.sub (ws' := (k_J7_fill_d0a16 T a_rows_2 60 v_rows_2)) [5] rfl
    have hDc := (mp_D_of (w1 := (k_X9_make T a_ a_rows a_sorts a_lengths a_rows_0 a_rows_1 a_rows_2 a_rows_3 v_lengths v_rows_0 v_rows_1 v_rows_2 v_rows_3 v_sorts)) hD rfl).sub (ws' := (k_J7_fill_d0a16 T a_rows_2 60 v_rows_2)) [5] rfl rfl
    refine mp_callv (isC := [5]) (wc := (k_J7_fill_d0a16 T a_rows_2 60 v_rows_2)) (w1 := (k_J7_fill_d0a16 T a_rows_2 60 u13)) hP (mp_D_of hD rfl) hS hA rfl rfl (mp_runS (As := [.ref a_rows_2, .long (lN 0)]) (rest := []) X me_J7_fill_d0a16 lk_X9_29 (c_J7_fill_d0a16 l D T fu a_rows_2 60 (lN 0) v_rows_2 u13 c14) rfl rfl ⟨(Nat.le_of_ble_eq_true rfl), (Nat.le_of_ble_eq_true rfl)⟩ hK hPc hDc rfl hl.1 rfl (Nat.le_of_ble_eq_true rfl) dX9_make_7 ⟨Nat.zero_le _, Nat.zero_le _⟩) (fun H locs hP _ hS => ?_)
    replace hP : va_P D mp_cl (k_X9_make T a_ a_rows a_sorts a_lengths a_rows_0 a_rows_1 a_rows_2 a_rows_3 v_lengths v_rows_0 v_rows_1 u13 v_rows_3 v_sorts) H := hP
    refine lv_aload_n hx hb dX9_make_10 rfl (lv_at hl 0 rfl) ?_
    refine mp_get X fl_X9_16 hK hP 0 rfl rfl dX9_make_11 ?_
    refine lv_iload_n hx hb dX9_make_14 rfl (lv_at hl 1 rfl) ?_
    refine lv_iload_n hx hb dX9_make_15 rfl (lv_at hl 2 rfl) ?_
    obtain ⟨h15, hf⟩ := gi_of hf
    refine va_iast hx hb hK hP (mp_D_of hD rfl) hS 7 0 rfl rfl h15 dX9_make_16 (fun H locs hP _ hS => ?_)
    replace hP : va_P D mp_cl (k_X9_make T a_ a_rows a_sorts a_lengths a_rows_0 a_rows_1 a_rows_2 a_rows_3 v_lengths v_rows_0 v_rows_1 u13 v_rows_3 (upd v_sorts (x1).toNatClampNeg x2)) H := hP
    refine lv_aload_n hx hb dX9_make_17 rfl (lv_at hl 0 rfl) ?_
    refine mp_get X fl_X9_20 hK hP 0 rfl rfl dX9_make_18 ?_
    refine lv_iload_n hx hb dX9_make_21 rfl (lv_at hl 1 rfl) ?_
    refine lv_iload_n hx hb dX9_make_22 rfl (lv_at hl 3 rfl) ?_
    obtain ⟨h16, hf⟩ := gi_of hf
    refine va_iast hx hb hK hP (mp_D_of hD rfl) hS 1 0 rfl rfl h16 dX9_make_23 (fun H locs hP _ hS => ?_)
    replace hP : va_P D mp_cl (k_X9_make T a_ a_rows a_sorts a_lengths a_rows_0 a_rows_1 a_rows_2 a_rows_3 (upd v_lengths (x1).toNatClampNeg x3) v_rows_0 v_rows_1 u13 v_rows_3 (upd v_sorts (x1).toNatClampNeg x2)) H := hP
    cases hf
    exact mp_retv X hP hS dX9_make_24
  replace hf := if_f hf h12
  have h17 : x1 = (nI 3) := mp_last4 h1 h2 h7 h12
  rw [show va_rf (mp_ol [a_rows_0, a_rows_1, a_rows_2, a_rows_3] (x1).toNatClampNeg) = .ref a_rows_3 from by rw [h17]; rfl]
  refine lv_lconst (v := (lN 0)) hx hb dX9_make_6 (by decide) ?_
  obtain ⟨u18, c19, hf⟩ := bd_of hf
  have hPc := hP.sub (ws' := (k_J7_fill_d0a16 T a_rows_3 60 v_rows_3)) [6] rfl
  have hDc := (mp_D_of (w1 := (k_X9_make T a_ a_rows a_sorts a_lengths a_rows_0 a_rows_1 a_rows_2 a_rows_3 v_lengths v_rows_0 v_rows_1 v_rows_2 v_rows_3 v_sorts)) hD rfl).sub (ws' := (k_J7_fill_d0a16 T a_rows_3 60 v_rows_3)) [6] rfl rfl
  refine mp_callv (isC := [6]) (wc := (k_J7_fill_d0a16 T a_rows_3 60 v_rows_3)) (w1 := (k_J7_fill_d0a16 T a_rows_3 60 u18)) hP (mp_D_of hD rfl) hS hA rfl rfl (mp_runS (As := [.ref a_rows_3, .long (lN 0)]) (rest := []) X me_J7_fill_d0a16 lk_X9_29 (c_J7_fill_d0a16 l D T fu a_rows_3 60 (lN 0) v_rows_3 u18 c19) rfl rfl ⟨(Nat.le_of_ble_eq_true rfl), (Nat.le_of_ble_eq_true rfl)⟩ hK hPc hDc rfl hl.1 rfl (Nat.le_of_ble_eq_true rfl) dX9_make_7 ⟨Nat.zero_le _, Nat.zero_le _⟩) (fun H locs hP _ hS => ?_)
  replace hP : va_P D mp_cl (k_X9_make T a_ a_rows a_sorts a_lengths a_rows_0 a_rows_1 a_rows_2 a_rows_3 v_lengths v_rows_0 v_rows_1 v_rows_2 u18 v_sorts) H := hP
  refine lv_aload_n hx hb dX9_make_10 rfl (lv_at hl 0 rfl) ?_
  refine mp_get X fl_X9_16 hK hP 0 rfl rfl dX9_make_11 ?_
  refine lv_iload_n hx hb dX9_make_14 rfl (lv_at hl 1 rfl) ?_
  refine lv_iload_n hx hb dX9_make_15 rfl (lv_at hl 2 rfl) ?_
  obtain ⟨h20, hf⟩ := gi_of hf
  refine va_iast hx hb hK hP (mp_D_of hD rfl) hS 7 0 rfl rfl h20 dX9_make_16 (fun H locs hP _ hS => ?_)
  replace hP : va_P D mp_cl (k_X9_make T a_ a_rows a_sorts a_lengths a_rows_0 a_rows_1 a_rows_2 a_rows_3 v_lengths v_rows_0 v_rows_1 v_rows_2 u18 (upd v_sorts (x1).toNatClampNeg x2)) H := hP
  refine lv_aload_n hx hb dX9_make_17 rfl (lv_at hl 0 rfl) ?_
  refine mp_get X fl_X9_20 hK hP 0 rfl rfl dX9_make_18 ?_
  refine lv_iload_n hx hb dX9_make_21 rfl (lv_at hl 1 rfl) ?_
  refine lv_iload_n hx hb dX9_make_22 rfl (lv_at hl 3 rfl) ?_
  obtain ⟨h21, hf⟩ := gi_of hf
  refine va_iast hx hb hK hP (mp_D_of hD rfl) hS 1 0 rfl rfl h21 dX9_make_23 (fun H locs hP _ hS => ?_)
  replace hP : va_P D mp_cl (k_X9_make T a_ a_rows a_sorts a_lengths a_rows_0 a_rows_1 a_rows_2 a_rows_3 (upd v_lengths (x1).toNatClampNeg x3) v_rows_0 v_rows_1 v_rows_2 u18 (upd v_sorts (x1).toNatClampNeg x2)) H := hP
  cases hf
  exact mp_retv X hP hS dX9_make_24


def k_X9_cut (T : Nat → ClassId) : va_W := []
set_option maxHeartbeats 4000000 in
set_option maxRecDepth 100000 in
theorem c_X9_cut (l : Launch) (D : va_G) (T : Nat → ClassId) (x1 : Int32) (x2 : Int64) (r_ : Int64) (hf : f_X9_cut x1 x2 = some r_) :
    mp_M l D T yX9_cut cX9_cut 3 (some .long) ({ frames := 0, cells := 0, slots := 0, locals := 0 }) 0 0 [.int x1, .long x2] (k_X9_cut T ) (mp_Ql D r_ (k_X9_cut T )) := by
  refine mp_of (by decide) (Nat.le_of_ble_eq_true rfl) rfl ?_
  intro p e s m args below meth c A ls X hK hP hD hS hA hl
  replace X : mp_X p s m meth c args RX9 "cut" cX9_cut 3 (some .long) := X
  have hx := X.1
  have hb := X.2.1
  have hml := X.2.2.1
  have hown := X.2.2.2.2.1
  have hts := X.2.2.2.2.2.1
  replace hl : lv_has ls 3 [(0, .int x1), (1, .long x2)] := hl
  replace hf : (if x1 = (nI 0) then some ((((x2).toInt32).toInt8.toInt32).toInt64) else (if x1 = (nI 1) then some ((((x2).toInt32).toInt16.toInt32).toInt64) else (if x1 = (nI 2) then some (((x2).toInt32).toInt64) else some (x2)))) = some r_ := hf
  refine lv_iload_n hx hb dX9_cut_0 rfl (lv_at hl 0 rfl) ?_
  by_cases h1 : x1 = (nI 0)
  · replace hf := if_t hf h1
    refine lv_tableIn (off := 27) (tgt := 28) hx hb dX9_cut_1 (by rw [h1]; decide) (by rw [h1]; decide) (by rw [h1]; decide) (by decide) ?_
    refine lv_lload_n hx hb dX9_cut_28 rfl (lv_at hl 1 rfl) ?_
    refine lv_l2i hx hb dX9_cut_29 rfl ?_
    refine lv_i2b hx hb dX9_cut_30 rfl ?_
    refine lv_i2l hx hb dX9_cut_31 rfl ?_
    cases hf
    exact mp_retl X hP hS rfl dX9_cut_32
  replace hf := if_f hf h1
  by_cases h2 : x1 = (nI 1)
  · replace hf := if_t hf h2
    refine lv_tableIn (off := 32) (tgt := 33) hx hb dX9_cut_1 (by rw [h2]; decide) (by rw [h2]; decide) (by rw [h2]; decide) (by decide) ?_
    refine lv_lload_n hx hb dX9_cut_33 rfl (lv_at hl 1 rfl) ?_
    refine lv_l2i hx hb dX9_cut_34 rfl ?_
    refine lv_i2s hx hb dX9_cut_35 rfl ?_
    refine lv_i2l hx hb dX9_cut_36 rfl ?_
    cases hf
    exact mp_retl X hP hS rfl dX9_cut_37
  replace hf := if_f hf h2
  by_cases h3 : x1 = (nI 2)
  · replace hf := if_t hf h3
    refine lv_tableIn (off := 37) (tgt := 38) hx hb dX9_cut_1 (by rw [h3]; decide) (by rw [h3]; decide) (by rw [h3]; decide) (by decide) ?_
    refine lv_lload_n hx hb dX9_cut_38 rfl (lv_at hl 1 rfl) ?_
    refine lv_l2i hx hb dX9_cut_39 rfl ?_
    refine lv_i2l hx hb dX9_cut_40 rfl ?_
    cases hf
    exact mp_retl X hP hS rfl dX9_cut_41
  replace hf := if_f hf h3
  refine lv_tableOut (tgt := 42) hx hb dX9_cut_1 (sw_out (0) 3 (fun k hk => match k, hk with | 0, _ => fun e => h1 (Int32.toInt_inj.mp e) | 1, _ => fun e => h2 (Int32.toInt_inj.mp e) | 2, _ => fun e => h3 (Int32.toInt_inj.mp e) | k + 3, hk => absurd hk (by omega)) (by decide)) (by decide) ?_
  refine lv_lload_n hx hb dX9_cut_42 rfl (lv_at hl 1 rfl) ?_
  cases hf
  exact mp_retl X hP hS rfl dX9_cut_43


def k_X9_put (T : Nat → ClassId) (a_ a_rows a_sorts a_lengths a_rows_0 a_rows_1 a_rows_2 a_rows_3 : Nat) (v_rows_0 : (Nat → Int64)) (v_rows_1 : (Nat → Int64)) (v_rows_2 : (Nat → Int64)) (v_rows_3 : (Nat → Int64)) (v_sorts : (Nat → Int32)) : va_W := [(a_, oX9 a_rows a_sorts a_lengths), (a_rows, mp_aR T 3 4 [a_rows_0, a_rows_1, a_rows_2, a_rows_3]), (a_rows_0, mp_aJ T 60 v_rows_0), (a_rows_1, mp_aJ T 60 v_rows_1), (a_rows_2, mp_aJ T 60 v_rows_2), (a_rows_3, mp_aJ T 60 v_rows_3), (a_sorts, mp_aI T 4 v_sorts)]
set_option maxHeartbeats 4000000 in
set_option maxRecDepth 100000 in
theorem c_X9_put (l : Launch) (D : va_G) (T : Nat → ClassId) (a_ a_rows a_sorts a_lengths a_rows_0 a_rows_1 a_rows_2 a_rows_3 : Nat) (x1 : Int32) (x2 : Int32) (x3 : Int64) (v_rows_0 : (Nat → Int64)) (v_rows_1 : (Nat → Int64)) (v_rows_2 : (Nat → Int64)) (v_rows_3 : (Nat → Int64)) (v_sorts : (Nat → Int32)) (o_rows_0 : (Nat → Int64)) (o_rows_1 : (Nat → Int64)) (o_rows_2 : (Nat → Int64)) (o_rows_3 : (Nat → Int64)) (hf : f_X9_put x1 x2 x3 v_rows_0 v_rows_1 v_rows_2 v_rows_3 v_sorts = some (o_rows_0, o_rows_1, o_rows_2, o_rows_3)) :
    mp_M l D T yX9_put cX9_put 5 none ({ frames := 1, cells := 0, slots := 0, locals := 22 }) 0 0 [.ref a_, .int x1, .int x2, .long x3] (k_X9_put T a_ a_rows a_sorts a_lengths a_rows_0 a_rows_1 a_rows_2 a_rows_3 v_rows_0 v_rows_1 v_rows_2 v_rows_3 v_sorts) (mp_Qv D (k_X9_put T a_ a_rows a_sorts a_lengths a_rows_0 a_rows_1 a_rows_2 a_rows_3 o_rows_0 o_rows_1 o_rows_2 o_rows_3 v_sorts)) := by
  refine mp_of (by decide) (Nat.le_of_ble_eq_true rfl) rfl ?_
  intro p e s m args below meth c A ls X hK hP hD hS hA hl
  replace X : mp_X p s m meth c args RX9 "put" cX9_put 5 none := X
  have hx := X.1
  have hb := X.2.1
  have hml := X.2.2.1
  have hown := X.2.2.2.2.1
  have hts := X.2.2.2.2.2.1
  replace hl : lv_has ls 5 [(0, .ref a_), (1, .int x1), (2, .int x2), (3, .long x3)] := hl
  replace hf : gi_ x1 4 ((if x1 = (nI 0) then gi_ x1 4 (bd_ (f_X9_cut (v_sorts (x1).toNatClampNeg) x3) (fun (r4 : Int64) => gi_ x2 60 (some (vp_updL v_rows_0 (x2).toNatClampNeg r4, v_rows_1, v_rows_2, v_rows_3)))) else (if x1 = (nI 1) then gi_ x1 4 (bd_ (f_X9_cut (v_sorts (x1).toNatClampNeg) x3) (fun (r9 : Int64) => gi_ x2 60 (some (v_rows_0, vp_updL v_rows_1 (x2).toNatClampNeg r9, v_rows_2, v_rows_3)))) else (if x1 = (nI 2) then gi_ x1 4 (bd_ (f_X9_cut (v_sorts (x1).toNatClampNeg) x3) (fun (r14 : Int64) => gi_ x2 60 (some (v_rows_0, v_rows_1, vp_updL v_rows_2 (x2).toNatClampNeg r14, v_rows_3)))) else gi_ x1 4 (bd_ (f_X9_cut (v_sorts (x1).toNatClampNeg) x3) (fun (r19 : Int64) => gi_ x2 60 (some (v_rows_0, v_rows_1, v_rows_2, vp_updL v_rows_3 (x2).toNatClampNeg r19)))))))) = some (o_rows_0, o_rows_1, o_rows_2, o_rows_3) := hf
  refine lv_aload_n hx hb dX9_put_0 rfl (lv_at hl 0 rfl) ?_
  refine mp_get X fl_X9_11 hK hP 0 rfl rfl dX9_put_1 ?_
  refine lv_iload_n hx hb dX9_put_4 rfl (lv_at hl 1 rfl) ?_
  obtain ⟨h1, hf⟩ := gi_of hf
  refine va_aldqA hx hb hK hP 1 3 rfl rfl h1 dX9_put_5 ?_
  by_cases h2 : x1 = (nI 0)
  · replace hf := if_t hf h2
    rw [show va_rf (mp_ol [a_rows_0, a_rows_1, a_rows_2, a_rows_3] (x1).toNatClampNeg) = .ref a_rows_0 from by rw [h2]; rfl]
    refine lv_iload_n hx hb dX9_put_6 rfl (lv_at hl 2 rfl) ?_
    refine lv_aload_n hx hb dX9_put_7 rfl (lv_at hl 0 rfl) ?_
    refine mp_get X fl_X9_16 hK hP 0 rfl rfl dX9_put_8 ?_
    refine lv_iload_n hx hb dX9_put_11 rfl (lv_at hl 1 rfl) ?_
    obtain ⟨h3, hf⟩ := gi_of hf
    refine va_iald hx hb hK hP 6 0 rfl rfl h3 dX9_put_12 ?_
    refine lv_lload_n hx hb dX9_put_13 rfl (lv_at hl 3 rfl) ?_
    obtain ⟨r4, c5, hf⟩ := bd_of hf
    have hPc := hP.sub (ws' := (k_X9_cut T )) [] rfl
    have hDc := (mp_D_of (w1 := (k_X9_put T a_ a_rows a_sorts a_lengths a_rows_0 a_rows_1 a_rows_2 a_rows_3 v_rows_0 v_rows_1 v_rows_2 v_rows_3 v_sorts)) hD rfl).sub (ws' := (k_X9_cut T )) [] rfl rfl
    refine mp_calll (isC := []) (wc := (k_X9_cut T )) (w1 := (k_X9_cut T )) hP (mp_D_of hD rfl) hS hA rfl rfl (mp_runS (As := [.int (v_sorts (x1).toNatClampNeg), .long x3]) (rest := [.int x2, .ref a_rows_0]) X me_X9_cut lk_X9_32 (c_X9_cut l D T (v_sorts (x1).toNatClampNeg) x3 r4 c5) rfl rfl ⟨(Nat.le_of_ble_eq_true rfl), (Nat.le_of_ble_eq_true rfl)⟩ hK hPc hDc rfl hl.1 rfl (Nat.le_of_ble_eq_true rfl) dX9_put_14 ⟨Nat.zero_le _, Nat.zero_le _⟩) (fun H locs hP _ hS => ?_)
    replace hP : va_P D mp_cl (k_X9_put T a_ a_rows a_sorts a_lengths a_rows_0 a_rows_1 a_rows_2 a_rows_3 v_rows_0 v_rows_1 v_rows_2 v_rows_3 v_sorts) H := hP
    obtain ⟨h6, hf⟩ := gi_of hf
    refine va_last hx hb hK hP (mp_D_of hD rfl) hS 2 1 rfl rfl h6 dX9_put_17 (fun H locs hP _ hS => ?_)
    replace hP : va_P D mp_cl (k_X9_put T a_ a_rows a_sorts a_lengths a_rows_0 a_rows_1 a_rows_2 a_rows_3 (vp_updL v_rows_0 (x2).toNatClampNeg r4) v_rows_1 v_rows_2 v_rows_3 v_sorts) H := hP
    cases hf
    exact mp_retv X hP hS dX9_put_18
  replace hf := if_f hf h2
  by_cases h7 : x1 = (nI 1)
  · replace hf := if_t hf h7
    rw [show va_rf (mp_ol [a_rows_0, a_rows_1, a_rows_2, a_rows_3] (x1).toNatClampNeg) = .ref a_rows_1 from by rw [h7]; rfl]
    refine lv_iload_n hx hb dX9_put_6 rfl (lv_at hl 2 rfl) ?_
    refine lv_aload_n hx hb dX9_put_7 rfl (lv_at hl 0 rfl) ?_
    refine mp_get X fl_X9_16 hK hP 0 rfl rfl dX9_put_8 ?_
    refine lv_iload_n hx hb dX9_put_11 rfl (lv_at hl 1 rfl) ?_
    obtain ⟨h8, hf⟩ := gi_of hf
    refine va_iald hx hb hK hP 6 0 rfl rfl h8 dX9_put_12 ?_
    refine lv_lload_n hx hb dX9_put_13 rfl (lv_at hl 3 rfl) ?_
    obtain ⟨r9, c10, hf⟩ := bd_of hf
    have hPc := hP.sub (ws' := (k_X9_cut T )) [] rfl
    have hDc := (mp_D_of (w1 := (k_X9_put T a_ a_rows a_sorts a_lengths a_rows_0 a_rows_1 a_rows_2 a_rows_3 v_rows_0 v_rows_1 v_rows_2 v_rows_3 v_sorts)) hD rfl).sub (ws' := (k_X9_cut T )) [] rfl rfl
    refine mp_calll (isC := []) (wc := (k_X9_cut T )) (w1 := (k_X9_cut T )) hP (mp_D_of hD rfl) hS hA rfl rfl (mp_runS (As := [.int (v_sorts (x1).toNatClampNeg), .long x3]) (rest := [.int x2, .ref a_rows_1]) X me_X9_cut lk_X9_32 (c_X9_cut l D T (v_sorts (x1).toNatClampNeg) x3 r9 c10) rfl rfl ⟨(Nat.le_of_ble_eq_true rfl), (Nat.le_of_ble_eq_true rfl)⟩ hK hPc hDc rfl hl.1 rfl (Nat.le_of_ble_eq_true rfl) dX9_put_14 ⟨Nat.zero_le _, Nat.zero_le _⟩) (fun H locs hP _ hS => ?_)
    replace hP : va_P D mp_cl (k_X9_put T a_ a_rows a_sorts a_lengths a_rows_0 a_rows_1 a_rows_2 a_rows_3 v_rows_0 v_rows_1 v_rows_2 v_rows_3 v_sorts) H := hP
    obtain ⟨h11, hf⟩ := gi_of hf
    refine va_last hx hb hK hP (mp_D_of hD rfl) hS 3 1 rfl rfl h11 dX9_put_17 (fun H locs hP _ hS => ?_)
    replace hP : va_P D mp_cl (k_X9_put T a_ a_rows a_sorts a_lengths a_rows_0 a_rows_1 a_rows_2 a_rows_3 v_rows_0 (vp_updL v_rows_1 (x2).toNatClampNeg r9) v_rows_2 v_rows_3 v_sorts) H := hP
    cases hf
    exact mp_retv X hP hS dX9_put_18
  replace hf := if_f hf h7
  by_cases h12 : x1 = (nI 2)
  · replace hf := if_t hf h12
    rw [show va_rf (mp_ol [a_rows_0, a_rows_1, a_rows_2, a_rows_3] (x1).toNatClampNeg) = .ref a_rows_2 from by rw [h12]; rfl]
    refine lv_iload_n hx hb dX9_put_6 rfl (lv_at hl 2 rfl) ?_
    refine lv_aload_n hx hb dX9_put_7 rfl (lv_at hl 0 rfl) ?_
    refine mp_get X fl_X9_16 hK hP 0 rfl rfl dX9_put_8 ?_
    refine lv_iload_n hx hb dX9_put_11 rfl (lv_at hl 1 rfl) ?_
    obtain ⟨h13, hf⟩ := gi_of hf
    refine va_iald hx hb hK hP 6 0 rfl rfl h13 dX9_put_12 ?_
    refine lv_lload_n hx hb dX9_put_13 rfl (lv_at hl 3 rfl) ?_
    obtain ⟨r14, c15, hf⟩ := bd_of hf
    have hPc := hP.sub (ws' := (k_X9_cut T )) [] rfl
    have hDc := (mp_D_of (w1 := (k_X9_put T a_ a_rows a_sorts a_lengths a_rows_0 a_rows_1 a_rows_2 a_rows_3 v_rows_0 v_rows_1 v_rows_2 v_rows_3 v_sorts)) hD rfl).sub (ws' := (k_X9_cut T )) [] rfl rfl
    refine mp_calll (isC := []) (wc := (k_X9_cut T )) (w1 := (k_X9_cut T )) hP (mp_D_of hD rfl) hS hA rfl rfl (mp_runS (As := [.int (v_sorts (x1).toNatClampNeg), .long x3]) (rest := [.int x2, .ref a_rows_2]) X me_X9_cut lk_X9_32 (c_X9_cut l D T (v_sorts (x1).toNatClampNeg) x3 r14 c15) rfl rfl ⟨(Nat.le_of_ble_eq_true rfl), (Nat.le_of_ble_eq_true rfl)⟩ hK hPc hDc rfl hl.1 rfl (Nat.le_of_ble_eq_true rfl) dX9_put_14 ⟨Nat.zero_le _, Nat.zero_le _⟩) (fun H locs hP _ hS => ?_)
    replace hP : va_P D mp_cl (k_X9_put T a_ a_rows a_sorts a_lengths a_rows_0 a_rows_1 a_rows_2 a_rows_3 v_rows_0 v_rows_1 v_rows_2 v_rows_3 v_sorts) H := hP
    obtain ⟨h16, hf⟩ := gi_of hf
    refine va_last hx hb hK hP (mp_D_of hD rfl) hS 4 1 rfl rfl h16 dX9_put_17 (fun H locs hP _ hS => ?_)
    replace hP : va_P D mp_cl (k_X9_put T a_ a_rows a_sorts a_lengths a_rows_0 a_rows_1 a_rows_2 a_rows_3 v_rows_0 v_rows_1 (vp_updL v_rows_2 (x2).toNatClampNeg r14) v_rows_3 v_sorts) H := hP
    cases hf
    exact mp_retv X hP hS dX9_put_18
  replace hf := if_f hf h12
  have h17 : x1 = (nI 3) := mp_last4 h1 h2 h7 h12
  rw [show va_rf (mp_ol [a_rows_0, a_rows_1, a_rows_2, a_rows_3] (x1).toNatClampNeg) = .ref a_rows_3 from by rw [h17]; rfl]
  refine lv_iload_n hx hb dX9_put_6 rfl (lv_at hl 2 rfl) ?_
  refine lv_aload_n hx hb dX9_put_7 rfl (lv_at hl 0 rfl) ?_
  refine mp_get X fl_X9_16 hK hP 0 rfl rfl dX9_put_8 ?_
  refine lv_iload_n hx hb dX9_put_11 rfl (lv_at hl 1 rfl) ?_
  obtain ⟨h18, hf⟩ := gi_of hf
  refine va_iald hx hb hK hP 6 0 rfl rfl h18 dX9_put_12 ?_
  refine lv_lload_n hx hb dX9_put_13 rfl (lv_at hl 3 rfl) ?_
  obtain ⟨r19, c20, hf⟩ := bd_of hf
  have hPc := hP.sub (ws' := (k_X9_cut T )) [] rfl
  have hDc := (mp_D_of (w1 := (k_X9_put T a_ a_rows a_sorts a_lengths a_rows_0 a_rows_1 a_rows_2 a_rows_3 v_rows_0 v_rows_1 v_rows_2 v_rows_3 v_sorts)) hD rfl).sub (ws' := (k_X9_cut T )) [] rfl rfl
  refine mp_calll (isC := []) (wc := (k_X9_cut T )) (w1 := (k_X9_cut T )) hP (mp_D_of hD rfl) hS hA rfl rfl (mp_runS (As := [.int (v_sorts (x1).toNatClampNeg), .long x3]) (rest := [.int x2, .ref a_rows_3]) X me_X9_cut lk_X9_32 (c_X9_cut l D T (v_sorts (x1).toNatClampNeg) x3 r19 c20) rfl rfl ⟨(Nat.le_of_ble_eq_true rfl), (Nat.le_of_ble_eq_true rfl)⟩ hK hPc hDc rfl hl.1 rfl (Nat.le_of_ble_eq_true rfl) dX9_put_14 ⟨Nat.zero_le _, Nat.zero_le _⟩) (fun H locs hP _ hS => ?_)
  replace hP : va_P D mp_cl (k_X9_put T a_ a_rows a_sorts a_lengths a_rows_0 a_rows_1 a_rows_2 a_rows_3 v_rows_0 v_rows_1 v_rows_2 v_rows_3 v_sorts) H := hP
  obtain ⟨h21, hf⟩ := gi_of hf
  refine va_last hx hb hK hP (mp_D_of hD rfl) hS 5 1 rfl rfl h21 dX9_put_17 (fun H locs hP _ hS => ?_)
  replace hP : va_P D mp_cl (k_X9_put T a_ a_rows a_sorts a_lengths a_rows_0 a_rows_1 a_rows_2 a_rows_3 v_rows_0 v_rows_1 v_rows_2 (vp_updL v_rows_3 (x2).toNatClampNeg r19) v_sorts) H := hP
  cases hf
  exact mp_retv X hP hS dX9_put_18


def k_X9_placeStatus (T : Nat → ClassId) (a_ a_rows a_sorts a_lengths : Nat) (v_lengths : (Nat → Int32)) : va_W := [(a_, oX9 a_rows a_sorts a_lengths), (a_lengths, mp_aI T 4 v_lengths)]
set_option maxHeartbeats 4000000 in
set_option maxRecDepth 100000 in
theorem c_X9_placeStatus (l : Launch) (D : va_G) (T : Nat → ClassId) (a_ a_rows a_sorts a_lengths : Nat) (x1 : Int32) (x2 : Int32) (v_lengths : (Nat → Int32)) (r_ : Int32) (hf : f_X9_placeStatus x1 x2 v_lengths = some r_) :
    mp_M l D T yX9_placeStatus cX9_placeStatus 3 (some .int) ({ frames := 1, cells := 0, slots := 0, locals := 21 }) 0 0 [.ref a_, .int x1, .int x2] (k_X9_placeStatus T a_ a_rows a_sorts a_lengths v_lengths) (mp_Qi D r_ (k_X9_placeStatus T a_ a_rows a_sorts a_lengths v_lengths)) := by
  refine mp_of (by decide) (Nat.le_of_ble_eq_true rfl) rfl ?_
  intro p e s m args below meth c A ls X hK hP hD hS hA hl
  replace X : mp_X p s m meth c args RX9 "placeStatus" cX9_placeStatus 3 (some .int) := X
  have hx := X.1
  have hb := X.2.1
  have hml := X.2.2.1
  have hown := X.2.2.2.2.1
  have hts := X.2.2.2.2.2.1
  replace hl : lv_has ls 3 [(0, .ref a_), (1, .int x1), (2, .int x2)] := hl
  replace hf : bd_ (f_X9_isKnown x1) (fun (r1 : Int32) => (if r1 = 0 then some ((nI 1)) else bd_ (f_X9_isMissing x1 v_lengths) (fun (r4 : Int32) => (if r4 = 0 then (if x2 < 0 then some ((nI 4)) else gi_ x1 4 ((if (v_lengths (x1).toNatClampNeg) ≤ x2 then some ((nI 4)) else some ((nI 0))))) else some ((nI 3)))))) = some r_ := hf
  refine lv_aload_n hx hb dX9_placeStatus_0 rfl (lv_at hl 0 rfl) ?_
  refine lv_iload_n hx hb dX9_placeStatus_1 rfl (lv_at hl 1 rfl) ?_
  obtain ⟨r1, c2, hf⟩ := bd_of hf
  have hPc := hP.sub (ws' := (k_X9_isKnown T a_ a_rows a_sorts a_lengths)) [0] rfl
  have hDc := (mp_D_of (w1 := (k_X9_placeStatus T a_ a_rows a_sorts a_lengths v_lengths)) hD rfl).sub (ws' := (k_X9_isKnown T a_ a_rows a_sorts a_lengths)) [0] rfl rfl
  refine mp_calli (isC := [0]) (wc := (k_X9_isKnown T a_ a_rows a_sorts a_lengths)) (w1 := (k_X9_isKnown T a_ a_rows a_sorts a_lengths)) hP (mp_D_of hD rfl) hS hA rfl rfl (mp_runV (As := [.int x1]) (rest := []) X me_X9_isKnown lk_X9_36 (c_X9_isKnown l D T a_ a_rows a_sorts a_lengths x1 r1 c2) rfl rfl ⟨(Nat.le_of_ble_eq_true rfl), (Nat.le_of_ble_eq_true rfl)⟩ hK hPc hDc rfl rfl rfl rfl hl.1 rfl (Nat.le_of_ble_eq_true rfl) dX9_placeStatus_2 ⟨Nat.zero_le _, Nat.zero_le _⟩) (fun H locs hP _ hS => ?_)
  replace hP : va_P D mp_cl (k_X9_placeStatus T a_ a_rows a_sorts a_lengths v_lengths) H := hP
  refine lv_if_ne (tgt := 10) hx hb dX9_placeStatus_5 (by decide) (fun h3 => ?_) (fun h3 => ?_)
  · replace hf := if_f hf h3
    refine lv_aload_n hx hb dX9_placeStatus_10 rfl (lv_at hl 0 rfl) ?_
    refine lv_iload_n hx hb dX9_placeStatus_11 rfl (lv_at hl 1 rfl) ?_
    obtain ⟨r4, c5, hf⟩ := bd_of hf
    have hPc := hP.sub (ws' := (k_X9_isMissing T a_ a_rows a_sorts a_lengths v_lengths)) [0, 1] rfl
    have hDc := (mp_D_of (w1 := (k_X9_placeStatus T a_ a_rows a_sorts a_lengths v_lengths)) hD rfl).sub (ws' := (k_X9_isMissing T a_ a_rows a_sorts a_lengths v_lengths)) [0, 1] rfl rfl
    refine mp_calli (isC := [0, 1]) (wc := (k_X9_isMissing T a_ a_rows a_sorts a_lengths v_lengths)) (w1 := (k_X9_isMissing T a_ a_rows a_sorts a_lengths v_lengths)) hP (mp_D_of hD rfl) hS hA rfl rfl (mp_runV (As := [.int x1]) (rest := []) X me_X9_isMissing lk_X9_40 (c_X9_isMissing l D T a_ a_rows a_sorts a_lengths x1 v_lengths r4 c5) rfl rfl ⟨(Nat.le_of_ble_eq_true rfl), (Nat.le_of_ble_eq_true rfl)⟩ hK hPc hDc rfl rfl rfl rfl hl.1 rfl (Nat.le_of_ble_eq_true rfl) dX9_placeStatus_12 ⟨Nat.zero_le _, Nat.zero_le _⟩) (fun H locs hP _ hS => ?_)
    replace hP : va_P D mp_cl (k_X9_placeStatus T a_ a_rows a_sorts a_lengths v_lengths) H := hP
    refine lv_if_eq (tgt := 20) hx hb dX9_placeStatus_15 (by decide) (fun h6 => ?_) (fun h6 => ?_)
    · replace hf := if_t hf h6
      refine lv_iload_n hx hb dX9_placeStatus_20 rfl (lv_at hl 2 rfl) ?_
      refine lv_if_lt (tgt := 38) hx hb dX9_placeStatus_21 (by decide) (fun h7 => ?_) (fun h7 => ?_)
      · replace hf := if_t hf h7
        refine lv_iconst (v := (nI 4)) hx hb dX9_placeStatus_38 (by decide) ?_
        cases hf
        exact mp_reti X hP hS rfl dX9_placeStatus_39
      · replace hf := if_f hf h7
        refine lv_iload_n hx hb dX9_placeStatus_24 rfl (lv_at hl 2 rfl) ?_
        refine lv_aload_n hx hb dX9_placeStatus_25 rfl (lv_at hl 0 rfl) ?_
        refine mp_get X fl_X9_20 hK hP 0 rfl rfl dX9_placeStatus_26 ?_
        refine lv_iload_n hx hb dX9_placeStatus_29 rfl (lv_at hl 1 rfl) ?_
        obtain ⟨h8, hf⟩ := gi_of hf
        refine va_iald hx hb hK hP 1 0 rfl rfl h8 dX9_placeStatus_30 ?_
        refine lv_icmp_ge (tgt := 38) hx hb dX9_placeStatus_31 (by decide) (fun h9 => ?_) (fun h9 => ?_)
        · replace hf := if_t hf h9
          refine lv_iconst (v := (nI 4)) hx hb dX9_placeStatus_38 (by decide) ?_
          cases hf
          exact mp_reti X hP hS rfl dX9_placeStatus_39
        · replace hf := if_f hf h9
          refine lv_iconst (v := (nI 0)) hx hb dX9_placeStatus_34 (by decide) ?_
          refine lv_goto (tgt := 39) hx hb dX9_placeStatus_35 (by decide) ?_
          cases hf
          exact mp_reti X hP hS rfl dX9_placeStatus_39
    · replace hf := if_f hf h6
      refine lv_iconst (v := (nI 3)) hx hb dX9_placeStatus_18 (by decide) ?_
      cases hf
      exact mp_reti X hP hS rfl dX9_placeStatus_19
  · replace hf := if_t hf h3
    refine lv_iconst (v := (nI 1)) hx hb dX9_placeStatus_8 (by decide) ?_
    cases hf
    exact mp_reti X hP hS rfl dX9_placeStatus_9


def k_X9_pairStatus (T : Nat → ClassId) (a_ a_rows a_sorts a_lengths : Nat) (v_lengths : (Nat → Int32)) : va_W := [(a_, oX9 a_rows a_sorts a_lengths), (a_lengths, mp_aI T 4 v_lengths)]
set_option maxHeartbeats 4000000 in
set_option maxRecDepth 100000 in
theorem c_X9_pairStatus (l : Launch) (D : va_G) (T : Nat → ClassId) (a_ a_rows a_sorts a_lengths : Nat) (x1 : Int32) (x2 : Int32) (v_lengths : (Nat → Int32)) (r_ : Int32) (hf : f_X9_pairStatus x1 x2 v_lengths = some r_) :
    mp_M l D T yX9_pairStatus cX9_pairStatus 3 (some .int) ({ frames := 1, cells := 0, slots := 0, locals := 21 }) 0 0 [.ref a_, .int x1, .int x2] (k_X9_pairStatus T a_ a_rows a_sorts a_lengths v_lengths) (mp_Qi D r_ (k_X9_pairStatus T a_ a_rows a_sorts a_lengths v_lengths)) := by
  refine mp_of (by decide) (Nat.le_of_ble_eq_true rfl) rfl ?_
  intro p e s m args below meth c A ls X hK hP hD hS hA hl
  replace X : mp_X p s m meth c args RX9 "pairStatus" cX9_pairStatus 3 (some .int) := X
  have hx := X.1
  have hb := X.2.1
  have hml := X.2.2.1
  have hown := X.2.2.2.2.1
  have hts := X.2.2.2.2.2.1
  replace hl : lv_has ls 3 [(0, .ref a_), (1, .int x1), (2, .int x2)] := hl
  replace hf : bd_ (f_X9_isKnown x1) (fun (r1 : Int32) => (if r1 = 0 then some ((nI 1)) else bd_ (f_X9_isKnown x2) (fun (r4 : Int32) => (if r4 = 0 then some ((nI 1)) else bd_ (f_X9_isMissing x1 v_lengths) (fun (r7 : Int32) => (if r7 = 0 then bd_ (f_X9_isMissing x2 v_lengths) (fun (r10 : Int32) => (if r10 = 0 then some ((nI 0)) else some ((nI 3)))) else some ((nI 3)))))))) = some r_ := hf
  refine lv_aload_n hx hb dX9_pairStatus_0 rfl (lv_at hl 0 rfl) ?_
  refine lv_iload_n hx hb dX9_pairStatus_1 rfl (lv_at hl 1 rfl) ?_
  obtain ⟨r1, c2, hf⟩ := bd_of hf
  have hPc := hP.sub (ws' := (k_X9_isKnown T a_ a_rows a_sorts a_lengths)) [0] rfl
  have hDc := (mp_D_of (w1 := (k_X9_pairStatus T a_ a_rows a_sorts a_lengths v_lengths)) hD rfl).sub (ws' := (k_X9_isKnown T a_ a_rows a_sorts a_lengths)) [0] rfl rfl
  refine mp_calli (isC := [0]) (wc := (k_X9_isKnown T a_ a_rows a_sorts a_lengths)) (w1 := (k_X9_isKnown T a_ a_rows a_sorts a_lengths)) hP (mp_D_of hD rfl) hS hA rfl rfl (mp_runV (As := [.int x1]) (rest := []) X me_X9_isKnown lk_X9_36 (c_X9_isKnown l D T a_ a_rows a_sorts a_lengths x1 r1 c2) rfl rfl ⟨(Nat.le_of_ble_eq_true rfl), (Nat.le_of_ble_eq_true rfl)⟩ hK hPc hDc rfl rfl rfl rfl hl.1 rfl (Nat.le_of_ble_eq_true rfl) dX9_pairStatus_2 ⟨Nat.zero_le _, Nat.zero_le _⟩) (fun H locs hP _ hS => ?_)
  replace hP : va_P D mp_cl (k_X9_pairStatus T a_ a_rows a_sorts a_lengths v_lengths) H := hP
  refine lv_if_eq (tgt := 16) hx hb dX9_pairStatus_5 (by decide) (fun h3 => ?_) (fun h3 => ?_)
  · replace hf := if_t hf h3
    refine lv_iconst (v := (nI 1)) hx hb dX9_pairStatus_16 (by decide) ?_
    cases hf
    exact mp_reti X hP hS rfl dX9_pairStatus_17
  · replace hf := if_f hf h3
    refine lv_aload_n hx hb dX9_pairStatus_8 rfl (lv_at hl 0 rfl) ?_
    refine lv_iload_n hx hb dX9_pairStatus_9 rfl (lv_at hl 2 rfl) ?_
    obtain ⟨r4, c5, hf⟩ := bd_of hf
    have hPc := hP.sub (ws' := (k_X9_isKnown T a_ a_rows a_sorts a_lengths)) [0] rfl
    have hDc := (mp_D_of (w1 := (k_X9_pairStatus T a_ a_rows a_sorts a_lengths v_lengths)) hD rfl).sub (ws' := (k_X9_isKnown T a_ a_rows a_sorts a_lengths)) [0] rfl rfl
    refine mp_calli (isC := [0]) (wc := (k_X9_isKnown T a_ a_rows a_sorts a_lengths)) (w1 := (k_X9_isKnown T a_ a_rows a_sorts a_lengths)) hP (mp_D_of hD rfl) hS hA rfl rfl (mp_runV (As := [.int x2]) (rest := []) X me_X9_isKnown lk_X9_36 (c_X9_isKnown l D T a_ a_rows a_sorts a_lengths x2 r4 c5) rfl rfl ⟨(Nat.le_of_ble_eq_true rfl), (Nat.le_of_ble_eq_true rfl)⟩ hK hPc hDc rfl rfl rfl rfl hl.1 rfl (Nat.le_of_ble_eq_true rfl) dX9_pairStatus_10 ⟨Nat.zero_le _, Nat.zero_le _⟩) (fun H locs hP _ hS => ?_)
    replace hP : va_P D mp_cl (k_X9_pairStatus T a_ a_rows a_sorts a_lengths v_lengths) H := hP
    refine lv_if_ne (tgt := 18) hx hb dX9_pairStatus_13 (by decide) (fun h6 => ?_) (fun h6 => ?_)
    · replace hf := if_f hf h6
      refine lv_aload_n hx hb dX9_pairStatus_18 rfl (lv_at hl 0 rfl) ?_
      refine lv_iload_n hx hb dX9_pairStatus_19 rfl (lv_at hl 1 rfl) ?_
      obtain ⟨r7, c8, hf⟩ := bd_of hf
      have hPc := hP.sub (ws' := (k_X9_isMissing T a_ a_rows a_sorts a_lengths v_lengths)) [0, 1] rfl
      have hDc := (mp_D_of (w1 := (k_X9_pairStatus T a_ a_rows a_sorts a_lengths v_lengths)) hD rfl).sub (ws' := (k_X9_isMissing T a_ a_rows a_sorts a_lengths v_lengths)) [0, 1] rfl rfl
      refine mp_calli (isC := [0, 1]) (wc := (k_X9_isMissing T a_ a_rows a_sorts a_lengths v_lengths)) (w1 := (k_X9_isMissing T a_ a_rows a_sorts a_lengths v_lengths)) hP (mp_D_of hD rfl) hS hA rfl rfl (mp_runV (As := [.int x1]) (rest := []) X me_X9_isMissing lk_X9_40 (c_X9_isMissing l D T a_ a_rows a_sorts a_lengths x1 v_lengths r7 c8) rfl rfl ⟨(Nat.le_of_ble_eq_true rfl), (Nat.le_of_ble_eq_true rfl)⟩ hK hPc hDc rfl rfl rfl rfl hl.1 rfl (Nat.le_of_ble_eq_true rfl) dX9_pairStatus_20 ⟨Nat.zero_le _, Nat.zero_le _⟩) (fun H locs hP _ hS => ?_)
      replace hP : va_P D mp_cl (k_X9_pairStatus T a_ a_rows a_sorts a_lengths v_lengths) H := hP
      refine lv_if_ne (tgt := 34) hx hb dX9_pairStatus_23 (by decide) (fun h9 => ?_) (fun h9 => ?_)
      · replace hf := if_f hf h9
        refine lv_iconst (v := (nI 3)) hx hb dX9_pairStatus_34 (by decide) ?_
        refine lv_goto (tgt := 39) hx hb dX9_pairStatus_35 (by decide) ?_
        cases hf
        exact mp_reti X hP hS rfl dX9_pairStatus_39
      · replace hf := if_t hf h9
        refine lv_aload_n hx hb dX9_pairStatus_26 rfl (lv_at hl 0 rfl) ?_
        refine lv_iload_n hx hb dX9_pairStatus_27 rfl (lv_at hl 2 rfl) ?_
        obtain ⟨r10, c11, hf⟩ := bd_of hf
        have hPc := hP.sub (ws' := (k_X9_isMissing T a_ a_rows a_sorts a_lengths v_lengths)) [0, 1] rfl
        have hDc := (mp_D_of (w1 := (k_X9_pairStatus T a_ a_rows a_sorts a_lengths v_lengths)) hD rfl).sub (ws' := (k_X9_isMissing T a_ a_rows a_sorts a_lengths v_lengths)) [0, 1] rfl rfl
        refine mp_calli (isC := [0, 1]) (wc := (k_X9_isMissing T a_ a_rows a_sorts a_lengths v_lengths)) (w1 := (k_X9_isMissing T a_ a_rows a_sorts a_lengths v_lengths)) hP (mp_D_of hD rfl) hS hA rfl rfl (mp_runV (As := [.int x2]) (rest := []) X me_X9_isMissing lk_X9_40 (c_X9_isMissing l D T a_ a_rows a_sorts a_lengths x2 v_lengths r10 c11) rfl rfl ⟨(Nat.le_of_ble_eq_true rfl), (Nat.le_of_ble_eq_true rfl)⟩ hK hPc hDc rfl rfl rfl rfl hl.1 rfl (Nat.le_of_ble_eq_true rfl) dX9_pairStatus_28 ⟨Nat.zero_le _, Nat.zero_le _⟩) (fun H locs hP _ hS => ?_)
        replace hP : va_P D mp_cl (k_X9_pairStatus T a_ a_rows a_sorts a_lengths v_lengths) H := hP
        refine lv_if_eq (tgt := 38) hx hb dX9_pairStatus_31 (by decide) (fun h12 => ?_) (fun h12 => ?_)
        · replace hf := if_t hf h12
          refine lv_iconst (v := (nI 0)) hx hb dX9_pairStatus_38 (by decide) ?_
          cases hf
          exact mp_reti X hP hS rfl dX9_pairStatus_39
        · replace hf := if_f hf h12
          refine lv_iconst (v := (nI 3)) hx hb dX9_pairStatus_34 (by decide) ?_
          refine lv_goto (tgt := 39) hx hb dX9_pairStatus_35 (by decide) ?_
          cases hf
          exact mp_reti X hP hS rfl dX9_pairStatus_39
    · replace hf := if_t hf h6
      refine lv_iconst (v := (nI 1)) hx hb dX9_pairStatus_16 (by decide) ?_
      cases hf
      exact mp_reti X hP hS rfl dX9_pairStatus_17


def k_X9_hasRun (T : Nat → ClassId) (a_ a_rows a_sorts a_lengths : Nat) (v_lengths : (Nat → Int32)) : va_W := [(a_, oX9 a_rows a_sorts a_lengths), (a_lengths, mp_aI T 4 v_lengths)]
set_option maxHeartbeats 4000000 in
set_option maxRecDepth 100000 in
theorem c_X9_hasRun (l : Launch) (D : va_G) (T : Nat → ClassId) (a_ a_rows a_sorts a_lengths : Nat) (x1 : Int32) (x2 : Int32) (x3 : Int32) (v_lengths : (Nat → Int32)) (r_ : Int32) (hf : f_X9_hasRun x1 x2 x3 v_lengths = some r_) :
    mp_M l D T yX9_hasRun cX9_hasRun 4 (some .boolean) ({ frames := 0, cells := 0, slots := 0, locals := 0 }) 0 0 [.ref a_, .int x1, .int x2, .int x3] (k_X9_hasRun T a_ a_rows a_sorts a_lengths v_lengths) (mp_Qi D r_ (k_X9_hasRun T a_ a_rows a_sorts a_lengths v_lengths)) := by
  refine mp_of (by decide) (Nat.le_of_ble_eq_true rfl) rfl ?_
  intro p e s m args below meth c A ls X hK hP hD hS hA hl
  replace X : mp_X p s m meth c args RX9 "hasRun" cX9_hasRun 4 (some .boolean) := X
  have hx := X.1
  have hb := X.2.1
  have hml := X.2.2.1
  have hown := X.2.2.2.2.1
  have hts := X.2.2.2.2.2.1
  replace hl : lv_has ls 4 [(0, .ref a_), (1, .int x1), (2, .int x2), (3, .int x3)] := hl
  replace hf : (if x2 < 0 then some ((nI 0)) else gi_ x1 4 ((if (v_lengths (x1).toNatClampNeg) < x2 then some ((nI 0)) else gi_ x1 4 ((if ((v_lengths (x1).toNatClampNeg) - x2) < x3 then some ((nI 0)) else some ((nI 1))))))) = some r_ := hf
  refine lv_iload_n hx hb dX9_hasRun_0 rfl (lv_at hl 2 rfl) ?_
  refine lv_if_lt (tgt := 30) hx hb dX9_hasRun_1 (by decide) (fun h1 => ?_) (fun h1 => ?_)
  · replace hf := if_t hf h1
    refine lv_iconst (v := (nI 0)) hx hb dX9_hasRun_30 (by decide) ?_
    cases hf
    exact mp_retz X hP hS rfl (Or.inl rfl) dX9_hasRun_31
  · replace hf := if_f hf h1
    refine lv_iload_n hx hb dX9_hasRun_4 rfl (lv_at hl 2 rfl) ?_
    refine lv_aload_n hx hb dX9_hasRun_5 rfl (lv_at hl 0 rfl) ?_
    refine mp_get X fl_X9_20 hK hP 0 rfl rfl dX9_hasRun_6 ?_
    refine lv_iload_n hx hb dX9_hasRun_9 rfl (lv_at hl 1 rfl) ?_
    obtain ⟨h2, hf⟩ := gi_of hf
    refine va_iald hx hb hK hP 1 0 rfl rfl h2 dX9_hasRun_10 ?_
    refine lv_icmp_gt (tgt := 30) hx hb dX9_hasRun_11 (by decide) (fun h3 => ?_) (fun h3 => ?_)
    · replace hf := if_t hf h3
      refine lv_iconst (v := (nI 0)) hx hb dX9_hasRun_30 (by decide) ?_
      cases hf
      exact mp_retz X hP hS rfl (Or.inl rfl) dX9_hasRun_31
    · replace hf := if_f hf h3
      refine lv_iload_n hx hb dX9_hasRun_14 rfl (lv_at hl 3 rfl) ?_
      refine lv_aload_n hx hb dX9_hasRun_15 rfl (lv_at hl 0 rfl) ?_
      refine mp_get X fl_X9_20 hK hP 0 rfl rfl dX9_hasRun_16 ?_
      refine lv_iload_n hx hb dX9_hasRun_19 rfl (lv_at hl 1 rfl) ?_
      obtain ⟨h4, hf⟩ := gi_of hf
      refine va_iald hx hb hK hP 1 0 rfl rfl h4 dX9_hasRun_20 ?_
      refine lv_iload_n hx hb dX9_hasRun_21 rfl (lv_at hl 2 rfl) ?_
      refine lv_isub hx hb dX9_hasRun_22 ?_
      refine lv_icmp_gt (tgt := 30) hx hb dX9_hasRun_23 (by decide) (fun h5 => ?_) (fun h5 => ?_)
      · replace hf := if_t hf h5
        refine lv_iconst (v := (nI 0)) hx hb dX9_hasRun_30 (by decide) ?_
        cases hf
        exact mp_retz X hP hS rfl (Or.inl rfl) dX9_hasRun_31
      · replace hf := if_f hf h5
        refine lv_iconst (v := (nI 1)) hx hb dX9_hasRun_26 (by decide) ?_
        refine lv_goto (tgt := 31) hx hb dX9_hasRun_27 (by decide) ?_
        cases hf
        exact mp_retz X hP hS rfl (Or.inr rfl) dX9_hasRun_31


def k_X9_pourStatus (T : Nat → ClassId) (a_ a_rows a_sorts a_lengths : Nat) (v_lengths : (Nat → Int32)) (v_sorts : (Nat → Int32)) : va_W := [(a_, oX9 a_rows a_sorts a_lengths), (a_lengths, mp_aI T 4 v_lengths), (a_sorts, mp_aI T 4 v_sorts)]
set_option maxHeartbeats 4000000 in
set_option maxRecDepth 100000 in
theorem c_X9_pourStatus (l : Launch) (D : va_G) (T : Nat → ClassId) (a_ a_rows a_sorts a_lengths : Nat) (x1 : Int32) (x2 : Int32) (x3 : Int32) (x4 : Int32) (x5 : Int32) (v_lengths : (Nat → Int32)) (v_sorts : (Nat → Int32)) (r_ : Int32) (hf : f_X9_pourStatus x1 x2 x3 x4 x5 v_lengths v_sorts = some r_) :
    mp_M l D T yX9_pourStatus cX9_pourStatus 7 (some .int) ({ frames := 2, cells := 0, slots := 0, locals := 43 }) 0 0 [.ref a_, .int x1, .int x2, .int x3, .int x4, .int x5] (k_X9_pourStatus T a_ a_rows a_sorts a_lengths v_lengths v_sorts) (mp_Qi D r_ (k_X9_pourStatus T a_ a_rows a_sorts a_lengths v_lengths v_sorts)) := by
  refine mp_of (by decide) (Nat.le_of_ble_eq_true rfl) rfl ?_
  intro p e s m args below meth c A ls X hK hP hD hS hA hl
  replace X : mp_X p s m meth c args RX9 "pourStatus" cX9_pourStatus 7 (some .int) := X
  have hx := X.1
  have hb := X.2.1
  have hml := X.2.2.1
  have hown := X.2.2.2.2.1
  have hts := X.2.2.2.2.2.1
  replace hl : lv_has ls 7 [(0, .ref a_), (1, .int x1), (2, .int x2), (3, .int x3), (4, .int x4), (5, .int x5)] := hl
  replace hf : bd_ (f_X9_pairStatus x1 x3 v_lengths) (fun (r1 : Int32) => (if r1 = 0 then gi_ x1 4 (gi_ x3 4 ((if (v_sorts (x1).toNatClampNeg) = (v_sorts (x3).toNatClampNeg) then (if 0 ≤ x5 then bd_ (f_X9_hasRun x1 x2 x5 v_lengths) (fun (r8 : Int32) => (if r8 = 0 then some ((nI 4)) else bd_ (f_X9_hasRun x3 x4 x5 v_lengths) (fun (r11 : Int32) => (if r11 = 0 then some ((nI 4)) else some ((nI 0)))))) else some ((nI 6))) else some ((nI 11))))) else some (r1))) = some r_ := hf
  refine lv_aload_n hx hb dX9_pourStatus_0 rfl (lv_at hl 0 rfl) ?_
  refine lv_iload_n hx hb dX9_pourStatus_1 rfl (lv_at hl 1 rfl) ?_
  refine lv_iload_n hx hb dX9_pourStatus_2 rfl (lv_at hl 3 rfl) ?_
  obtain ⟨r1, c2, hf⟩ := bd_of hf
  have hPc := hP.sub (ws' := (k_X9_pairStatus T a_ a_rows a_sorts a_lengths v_lengths)) [0, 1] rfl
  have hDc := (mp_D_of (w1 := (k_X9_pourStatus T a_ a_rows a_sorts a_lengths v_lengths v_sorts)) hD rfl).sub (ws' := (k_X9_pairStatus T a_ a_rows a_sorts a_lengths v_lengths)) [0, 1] rfl rfl
  refine mp_calli (isC := [0, 1]) (wc := (k_X9_pairStatus T a_ a_rows a_sorts a_lengths v_lengths)) (w1 := (k_X9_pairStatus T a_ a_rows a_sorts a_lengths v_lengths)) hP (mp_D_of hD rfl) hS hA rfl rfl (mp_runV (As := [.int x1, .int x3]) (rest := []) X me_X9_pairStatus lk_X9_43 (c_X9_pairStatus l D T a_ a_rows a_sorts a_lengths x1 x3 v_lengths r1 c2) rfl rfl ⟨(Nat.le_of_ble_eq_true rfl), (Nat.le_of_ble_eq_true rfl)⟩ hK hPc hDc rfl rfl rfl rfl hl.1 rfl (Nat.le_of_ble_eq_true rfl) dX9_pourStatus_3 ⟨Nat.zero_le _, Nat.zero_le _⟩) (fun H locs hP _ hS => ?_)
  replace hP : va_P D mp_cl (k_X9_pourStatus T a_ a_rows a_sorts a_lengths v_lengths v_sorts) H := hP
  refine lv_istore (lv' := [(6, .int r1), (0, .ref a_), (1, .int x1), (2, .int x2), (3, .int x3), (4, .int x4), (5, .int x5)]) hx hb dX9_pourStatus_6 hl (by decide) rfl (fun ls hl => ?_)
  refine lv_iload hx hb dX9_pourStatus_8 (lv_at hl 0 rfl) ?_
  refine lv_if_eq (tgt := 16) hx hb dX9_pourStatus_10 (by decide) (fun h3 => ?_) (fun h3 => ?_)
  · replace hf := if_t hf h3
    refine lv_aload_n hx hb dX9_pourStatus_16 rfl (lv_at hl 1 rfl) ?_
    refine mp_get X fl_X9_16 hK hP 0 rfl rfl dX9_pourStatus_17 ?_
    refine lv_iload_n hx hb dX9_pourStatus_20 rfl (lv_at hl 2 rfl) ?_
    obtain ⟨h4, hf⟩ := gi_of hf
    refine va_iald hx hb hK hP 2 0 rfl rfl h4 dX9_pourStatus_21 ?_
    refine lv_aload_n hx hb dX9_pourStatus_22 rfl (lv_at hl 1 rfl) ?_
    refine mp_get X fl_X9_16 hK hP 0 rfl rfl dX9_pourStatus_23 ?_
    refine lv_iload_n hx hb dX9_pourStatus_26 rfl (lv_at hl 4 rfl) ?_
    obtain ⟨h5, hf⟩ := gi_of hf
    refine va_iald hx hb hK hP 2 0 rfl rfl h5 dX9_pourStatus_27 ?_
    refine lv_icmp_eq (tgt := 34) hx hb dX9_pourStatus_28 (by decide) (fun h6 => ?_) (fun h6 => ?_)
    · replace hf := if_t hf h6
      refine lv_iload hx hb dX9_pourStatus_34 (lv_at hl 6 rfl) ?_
      refine lv_if_ge (tgt := 42) hx hb dX9_pourStatus_36 (by decide) (fun h7 => ?_) (fun h7 => ?_)
      · replace hf := if_t hf h7
        refine lv_aload_n hx hb dX9_pourStatus_42 rfl (lv_at hl 1 rfl) ?_
        refine lv_iload_n hx hb dX9_pourStatus_43 rfl (lv_at hl 2 rfl) ?_
        refine lv_iload_n hx hb dX9_pourStatus_44 rfl (lv_at hl 3 rfl) ?_
        refine lv_iload hx hb dX9_pourStatus_45 (lv_at hl 6 rfl) ?_
        obtain ⟨r8, c9, hf⟩ := bd_of hf
        have hPc := hP.sub (ws' := (k_X9_hasRun T a_ a_rows a_sorts a_lengths v_lengths)) [0, 1] rfl
        have hDc := (mp_D_of (w1 := (k_X9_pourStatus T a_ a_rows a_sorts a_lengths v_lengths v_sorts)) hD rfl).sub (ws' := (k_X9_hasRun T a_ a_rows a_sorts a_lengths v_lengths)) [0, 1] rfl rfl
        refine mp_calli (isC := [0, 1]) (wc := (k_X9_hasRun T a_ a_rows a_sorts a_lengths v_lengths)) (w1 := (k_X9_hasRun T a_ a_rows a_sorts a_lengths v_lengths)) hP (mp_D_of hD rfl) hS hA rfl rfl (mp_runV (As := [.int x1, .int x2, .int x5]) (rest := []) X me_X9_hasRun lk_X9_47 (c_X9_hasRun l D T a_ a_rows a_sorts a_lengths x1 x2 x5 v_lengths r8 c9) rfl rfl ⟨(Nat.le_of_ble_eq_true rfl), (Nat.le_of_ble_eq_true rfl)⟩ hK hPc hDc rfl rfl rfl rfl hl.1 rfl (Nat.le_of_ble_eq_true rfl) dX9_pourStatus_47 ⟨Nat.zero_le _, Nat.zero_le _⟩) (fun H locs hP _ hS => ?_)
        replace hP : va_P D mp_cl (k_X9_pourStatus T a_ a_rows a_sorts a_lengths v_lengths v_sorts) H := hP
        refine lv_if_eq (tgt := 69) hx hb dX9_pourStatus_50 (by decide) (fun h10 => ?_) (fun h10 => ?_)
        · replace hf := if_t hf h10
          refine lv_iconst (v := (nI 4)) hx hb dX9_pourStatus_69 (by decide) ?_
          cases hf
          exact mp_reti X hP hS rfl dX9_pourStatus_70
        · replace hf := if_f hf h10
          refine lv_aload_n hx hb dX9_pourStatus_53 rfl (lv_at hl 1 rfl) ?_
          refine lv_iload_n hx hb dX9_pourStatus_54 rfl (lv_at hl 4 rfl) ?_
          refine lv_iload hx hb dX9_pourStatus_55 (lv_at hl 5 rfl) ?_
          refine lv_iload hx hb dX9_pourStatus_57 (lv_at hl 6 rfl) ?_
          obtain ⟨r11, c12, hf⟩ := bd_of hf
          have hPc := hP.sub (ws' := (k_X9_hasRun T a_ a_rows a_sorts a_lengths v_lengths)) [0, 1] rfl
          have hDc := (mp_D_of (w1 := (k_X9_pourStatus T a_ a_rows a_sorts a_lengths v_lengths v_sorts)) hD rfl).sub (ws' := (k_X9_hasRun T a_ a_rows a_sorts a_lengths v_lengths)) [0, 1] rfl rfl
          refine mp_calli (isC := [0, 1]) (wc := (k_X9_hasRun T a_ a_rows a_sorts a_lengths v_lengths)) (w1 := (k_X9_hasRun T a_ a_rows a_sorts a_lengths v_lengths)) hP (mp_D_of hD rfl) hS hA rfl rfl (mp_runV (As := [.int x3, .int x4, .int x5]) (rest := []) X me_X9_hasRun lk_X9_47 (c_X9_hasRun l D T a_ a_rows a_sorts a_lengths x3 x4 x5 v_lengths r11 c12) rfl rfl ⟨(Nat.le_of_ble_eq_true rfl), (Nat.le_of_ble_eq_true rfl)⟩ hK hPc hDc rfl rfl rfl rfl hl.1 rfl (Nat.le_of_ble_eq_true rfl) dX9_pourStatus_59 ⟨Nat.zero_le _, Nat.zero_le _⟩) (fun H locs hP _ hS => ?_)
          replace hP : va_P D mp_cl (k_X9_pourStatus T a_ a_rows a_sorts a_lengths v_lengths v_sorts) H := hP
          refine lv_if_eq (tgt := 69) hx hb dX9_pourStatus_62 (by decide) (fun h13 => ?_) (fun h13 => ?_)
          · replace hf := if_t hf h13
            refine lv_iconst (v := (nI 4)) hx hb dX9_pourStatus_69 (by decide) ?_
            cases hf
            exact mp_reti X hP hS rfl dX9_pourStatus_70
          · replace hf := if_f hf h13
            refine lv_iconst (v := (nI 0)) hx hb dX9_pourStatus_65 (by decide) ?_
            refine lv_goto (tgt := 70) hx hb dX9_pourStatus_66 (by decide) ?_
            cases hf
            exact mp_reti X hP hS rfl dX9_pourStatus_70
      · replace hf := if_f hf h7
        refine lv_bipush (v := (nI 6)) hx hb dX9_pourStatus_39 (by decide) ?_
        cases hf
        exact mp_reti X hP hS rfl dX9_pourStatus_41
    · replace hf := if_f hf h6
      refine lv_bipush (v := (nI 11)) hx hb dX9_pourStatus_31 (by decide) ?_
      cases hf
      exact mp_reti X hP hS rfl dX9_pourStatus_33
  · replace hf := if_f hf h3
    refine lv_iload hx hb dX9_pourStatus_13 (lv_at hl 0 rfl) ?_
    cases hf
    exact mp_reti X hP hS rfl dX9_pourStatus_15


def k_X10_takeLetters (T : Nat → ClassId) (a_p1 a_p2 : Nat) (n1 : Nat) (n2 : Nat) (v_p1 : (Nat → Int64)) (v_p2 : (Nat → Int32)) : va_W := [(a_p1, mp_aJ T n1 v_p1), (a_p2, mp_aI T n2 v_p2)]
set_option maxHeartbeats 4000000 in
set_option maxRecDepth 100000 in
theorem w_X10_takeLetters_2 {p : Program} {l : Launch} {e : Env} {s : State} {m : MethodId} {args : Array Value} {below : List Frame} {meth : Method} {c : Code} {D : va_G} {T : Nat → ClassId} {A : Nat → Prop} (X : mp_X p s m meth c args RX10 "takeLetters" cX10_takeLetters 4 (some .boolean)) (hK : va_K D mp_cl (mp_ty T) s) (hA : ∀ q, s.heap.size ≤ q → A q) (fu : Nat) (a_p1 a_p2 : Nat) (n1 : Nat) (n2 : Nat) (v_p1 : (Nat → Int64)) (r_ : Int32) (o_p2 : (Nat → Int32)) :
    ∀ (n : Nat) (z2 : Int32) (z3 : Int32) (v_p2 : (Nat → Int32)), f_X10_takeLetters_2 fu n1 n2 v_p1  n z2 z3 v_p2 = some (r_, o_p2) → ∀ (H : Heap) (locs : List Loc) (ls : Array Slot), va_P D mp_cl (k_X10_takeLetters T a_p1 a_p2 n1 n2 v_p1 v_p2) H → va_D A (k_X10_takeLetters T a_p1 a_p2 n1 n2 v_p1 v_p2) → va_S A s.heap H locs → lv_has ls 4 [(0, .ref a_p1), (1, .ref a_p2), (2, .int z2), (3, .int z3)] → W p l e ({ frames := 0, cells := 0, slots := 0, locals := 0 }) s m args below meth c H locs 0 0 (MQ below ((mp_Qi D r_ (k_X10_takeLetters T a_p1 a_p2 n1 n2 v_p1 o_p2)) A) args s 0 0 A) (F0 m 2 ls []) := by
  have hx := X.1
  have hb := X.2.1
  have hml := X.2.2.1
  have hown := X.2.2.2.2.1
  have hts := X.2.2.2.2.2.1
  intro n
  induction n with
  | zero => intro z2 z3 v_p2 hf; exact absurd hf (by intro h; cases h)
  | succ n ih =>
    intro z2 z3 v_p2 hf H locs ls hP hD hS hl
    replace hf : (if z2 ≤ z3 then some ((nI 1), v_p2) else gi_ z3 n1 ((if (lg_cmp (v_p1 (z3).toNatClampNeg) (lN 1)) < 0 then some ((nI 0), v_p2) else gi_ z3 n1 ((if (lg_cmp (v_p1 (z3).toNatClampNeg) (lN 26)) ≤ 0 then gi_ z3 n1 (gi_ z3 n2 (lt_ (z3 + (nI 1)) (fun (y8 : Int32) => f_X10_takeLetters_2 fu n1 n2 v_p1  n z2 y8 (upd v_p2 (z3).toNatClampNeg (v_p1 (z3).toNatClampNeg).toInt32)))) else some ((nI 0), v_p2)))))) = some (r_, o_p2) := hf
    refine lv_iload_n hx hb dX10_takeLetters_2 rfl (lv_at hl 3 rfl) ?_
    refine lv_iload_n hx hb dX10_takeLetters_3 rfl (lv_at hl 2 rfl) ?_
    refine lv_icmp_ge (tgt := 40) hx hb dX10_takeLetters_4 (by decide) (fun h1 => ?_) (fun h1 => ?_)
    · replace hf := if_t hf h1
      refine lv_iconst (v := (nI 1)) hx hb dX10_takeLetters_40 (by decide) ?_
      cases hf
      exact mp_retz X hP hS rfl (Or.inr rfl) dX10_takeLetters_41
    · replace hf := if_f hf h1
      refine lv_aload_n hx hb dX10_takeLetters_7 rfl (lv_at hl 0 rfl) ?_
      refine lv_iload_n hx hb dX10_takeLetters_8 rfl (lv_at hl 3 rfl) ?_
      obtain ⟨h2, hf⟩ := gi_of hf
      refine va_lald hx hb hK hP 0 1 rfl rfl h2 dX10_takeLetters_9 ?_
      refine lv_lconst (v := (lN 1)) hx hb dX10_takeLetters_10 (by decide) ?_
      refine W.lcmp hx hb dX10_takeLetters_11 ?_
      refine lv_if_lt (tgt := 25) hx hb dX10_takeLetters_12 (by decide) (fun h3 => ?_) (fun h3 => ?_)
      · replace hf := if_t hf h3
        refine lv_iconst (v := (nI 0)) hx hb dX10_takeLetters_25 (by decide) ?_
        cases hf
        exact mp_retz X hP hS rfl (Or.inl rfl) dX10_takeLetters_26
      · replace hf := if_f hf h3
        refine lv_aload_n hx hb dX10_takeLetters_15 rfl (lv_at hl 0 rfl) ?_
        refine lv_iload_n hx hb dX10_takeLetters_16 rfl (lv_at hl 3 rfl) ?_
        obtain ⟨h4, hf⟩ := gi_of hf
        refine va_lald hx hb hK hP 0 1 rfl rfl h4 dX10_takeLetters_17 ?_
        refine lv_ldc2 (v := (lN 26)) hx hb hown (hts _ (cw_X10_49)) dX10_takeLetters_18 ?_
        refine W.lcmp hx hb dX10_takeLetters_21 ?_
        refine lv_if_le (tgt := 27) hx hb dX10_takeLetters_22 (by decide) (fun h5 => ?_) (fun h5 => ?_)
        · replace hf := if_t hf h5
          refine lv_aload_n hx hb dX10_takeLetters_27 rfl (lv_at hl 1 rfl) ?_
          refine lv_iload_n hx hb dX10_takeLetters_28 rfl (lv_at hl 3 rfl) ?_
          refine lv_aload_n hx hb dX10_takeLetters_29 rfl (lv_at hl 0 rfl) ?_
          refine lv_iload_n hx hb dX10_takeLetters_30 rfl (lv_at hl 3 rfl) ?_
          obtain ⟨h6, hf⟩ := gi_of hf
          refine va_lald hx hb hK hP 0 1 rfl rfl h6 dX10_takeLetters_31 ?_
          refine lv_l2i hx hb dX10_takeLetters_32 rfl ?_
          obtain ⟨h7, hf⟩ := gi_of hf
          refine va_iast hx hb hK hP (mp_D_of hD rfl) hS 1 0 rfl rfl h7 dX10_takeLetters_33 (fun H locs hP _ hS => ?_)
          replace hP : va_P D mp_cl (k_X10_takeLetters T a_p1 a_p2 n1 n2 v_p1 (upd v_p2 (z3).toNatClampNeg (v_p1 (z3).toNatClampNeg).toInt32)) H := hP
          obtain ⟨y8, e8⟩ : ∃ y : Int32, y = z3 + (nI 1) := ⟨_, rfl⟩
          replace hf := lt_of e8 hf
          refine lv_iinc (v := y8) (lv' := [(3, .int y8), (0, .ref a_p1), (1, .ref a_p2), (2, .int z2)]) hx hb dX10_takeLetters_34 hl (k := 3) rfl (by rw [e8]; rfl) (by decide) rfl (fun ls hl => ?_)
          refine lv_goto (tgt := 2) hx hb dX10_takeLetters_37 (by decide) ?_
          exact ih z2 y8 (upd v_p2 (z3).toNatClampNeg (v_p1 (z3).toNatClampNeg).toInt32) hf _ _ _ hP (mp_D_of hD rfl) hS (lv_sub hl [1, 2, 3, 0] rfl)
        · replace hf := if_f hf h5
          refine lv_iconst (v := (nI 0)) hx hb dX10_takeLetters_25 (by decide) ?_
          cases hf
          exact mp_retz X hP hS rfl (Or.inl rfl) dX10_takeLetters_26

set_option maxHeartbeats 4000000 in
set_option maxRecDepth 100000 in
theorem c_X10_takeLetters (l : Launch) (D : va_G) (T : Nat → ClassId) (fu : Nat) (a_p1 a_p2 : Nat) (n1 : Nat) (n2 : Nat) (x3 : Int32) (v_p1 : (Nat → Int64)) (v_p2 : (Nat → Int32)) (r_ : Int32) (o_p2 : (Nat → Int32)) (hf : f_X10_takeLetters fu n1 n2 x3 v_p1 v_p2 = some (r_, o_p2)) :
    mp_M l D T yX10_takeLetters cX10_takeLetters 4 (some .boolean) ({ frames := 0, cells := 0, slots := 0, locals := 0 }) 0 0 [.ref a_p1, .ref a_p2, .int x3] (k_X10_takeLetters T a_p1 a_p2 n1 n2 v_p1 v_p2) (mp_Qi D r_ (k_X10_takeLetters T a_p1 a_p2 n1 n2 v_p1 o_p2)) := by
  refine mp_of (by decide) (Nat.le_of_ble_eq_true rfl) rfl ?_
  intro p e s m args below meth c A ls X hK hP hD hS hA hl
  replace X : mp_X p s m meth c args RX10 "takeLetters" cX10_takeLetters 4 (some .boolean) := X
  have hx := X.1
  have hb := X.2.1
  have hml := X.2.2.1
  have hown := X.2.2.2.2.1
  have hts := X.2.2.2.2.2.1
  replace hl : lv_has ls 4 [(0, .ref a_p1), (1, .ref a_p2), (2, .int x3)] := hl
  replace hf : f_X10_takeLetters_2 fu n1 n2 v_p1  fu x3 (nI 0) v_p2 = some (r_, o_p2) := hf
  refine lv_iconst (v := (nI 0)) hx hb dX10_takeLetters_0 (by decide) ?_
  refine lv_istore_n (lv' := [(3, .int (nI 0)), (0, .ref a_p1), (1, .ref a_p2), (2, .int x3)]) hx hb dX10_takeLetters_1 rfl hl (by decide) rfl (fun ls hl => ?_)
  exact w_X10_takeLetters_2 X hK hA  fu a_p1 a_p2 n1 n2 v_p1 r_ o_p2   fu x3 (nI 0) v_p2 hf _ _ _ hP (mp_D_of hD rfl) hS (lv_sub hl [1, 2, 3, 0] rfl)


